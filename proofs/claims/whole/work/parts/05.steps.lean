/-! Steps that read, write and make cells -/
/-- what is known of a state, and stays: the classes, the tables, the links of nest mates -/
def GK (D : va_G) (aC : FieldType → ClassId) (b : Nat) (ra : Nat → Nat) (ro : List (List Int32)) (U : State) : Prop :=
  va_K D kCl (tysO aC) U ∧ (∀ (j : Nat) (zs : List Int32), ro[j]? = some zs → va_T .int (ra j) zs.length (fun i => .int (zs.getD i 0)) (Ao b) U U.heap) ∧ va_Z "ChoirBook$Days" (gsN 1) "[I" (.ref (ra 1)) (Ao b) U U.heap ∧ va_Z "ChoirBook$Days" (gsN 2) "[I" (.ref (ra 2)) (Ao b) U U.heap ∧ va_AO "ChoirBook$Tone" U ∧ va_AO "ChoirBook$Verse" U ∧ ∀ w ∈ nw, va_Nw w U
theorem kTy_of {ci : Nat} {q : vw_C} (h : kCl[ci]? = some q) : ∃ ty, kTy[ci]? = some ty := by
  have hc : ci < 11 := (List.getElem?_eq_some_iff.mp h).1
  exact ⟨_, List.getElem?_eq_getElem (l := kTy) hc⟩
/-- an object's fields are as many as its class has -/
def szO (h : AH) : Prop := ∀ (k ci : Nat) (fs : List AV), h[k]? = some (.inl ci, fs) → ∃ q, kCl[ci]? = some q ∧ fs.length = q.2.2
section SD2
variable {p : Program} {l : Launch} {e : Env} {R : Room} {s : State} {m : MethodId} {args : Array Value} {below : List Frame} {meth : Method} {c : Code} {H : Heap} {locs : List Loc} {Q : State → Prop}
variable {D : va_G} {aC : FieldType → ClassId} {b : Nat} {ra : Nat → Nat} {ro : List (List Int32)} {cc : ByteArray} {pc : Nat} {L : AL} {S : List AV} {h : AH} {ls : Array Slot} {i : Instr} {x : AR}
theorem HR.set {h : AH} {k : Nat} {c : AC} {H H1 : Heap} (hH : HR D aC b ra h H) (hs : H1.size = H.size) (hP : va_P D kCl ((wsO aC b ra h).set k (b + k, ce aC b ra c)) H1) : HR D aC b ra (h.set k c) H1 := by
  refine ⟨by rw [hs, hH.1]; simp, ?_⟩
  rw [wsO_set]
  exact hP
theorem HR.push {h : AH} {c : AC} {H H1 : Heap} (hH : HR D aC b ra h H) (hs : H1.size = H.size + 1) (ho : ∀ q, q < H.size → H1[q]? = H[q]?) (he : va_at D kCl (b + h.length, ce aC b ra c) H1) : HR D aC b ra (h ++ [c]) H1 := by
  refine ⟨by rw [hs, hH.1]; simp; omega, ?_⟩
  rw [wsO_app]
  refine (hH.2.kept (fun k q hk => ho _ ((hH.2 k q hk).lt))).app (fun k q hk => ?_)
  have hz : k < 1 := (List.getElem?_eq_some_iff.mp hk).1
  rw [show k = 0 by omega] at hk
  cases hk
  exact he
theorem fitA_ok {ty : FieldType} {v : AV} (hv : fitA ty v = true) : narrow ty (cv b ra v) = cv b ra v ∧ fits ty (cv b ra v) = true := by
  cases ty <;> rcases v with x | (_ | a) | j <;> simp [fitA] at hv <;> first | (rcases hv with rfl | rfl <;> exact ⟨by decide, by decide⟩) | exact ⟨rfl, rfl⟩
theorem dv_ok (ty : FieldType) (h : ty = .int ∨ ty = .boolean ∨ (∃ C, ty = .object C) ∨ ∃ t, ty = .array t) : cv b ra (dv ty) = defaultValue ty := by
  rcases h with rfl | rfl | ⟨C, rfl⟩ | ⟨t, rfl⟩ <;> rfl
/-- the fields' types are ints, booleans, references -/
theorem kTy_in {ci k : Nat} {q : vw_C} {ty : Nat → FieldType} (hq : kCl[ci]? = some q) (ht : kTy[ci]? = some ty) (hk : k < q.2.2) : ty k = .int ∨ ty k = .boolean ∨ (∃ C, ty k = .object C) ∨ ∃ t, ty k = .array t := by
  have h : (kCl.zip kTy).all (fun z => (List.range z.1.2.2).all (fun k => match z.2 k with | .int | .boolean | .object _ | .array _ => true | _ => false)) = true := by decide +kernel
  have h1 := List.all_eq_true.mp (all_at h hq ht) k (List.mem_range.mpr hk)
  simp only at h1
  split at h1
  · exact Or.inl (by assumption)
  · exact Or.inr (Or.inl (by assumption))
  · rename_i C e
    exact Or.inr (Or.inr (Or.inl ⟨C, e⟩))
  · rename_i C e
    exact Or.inr (Or.inr (Or.inr ⟨C, e⟩))
  · cases h1
theorem getD_set {xs : List AV} {n : Nat} (hn : n < xs.length) (v d : AV) (j : Nat) : (xs.set n v).getD j d = if j = n then v else xs.getD j d := by
  simp only [List.getD_eq_getElem?_getD]
  by_cases hj : j = n
  · subst hj
    rw [List.getElem?_set_self hn, if_pos rfl]
    rfl
  · rw [List.getElem?_set_ne (fun q => hj q.symm), if_neg hj]
theorem getD_rep (n : Nat) (v : AV) (j : Nat) : j < n → (List.replicate n v).getD j (.inl 0) = v := by
  intro hj
  simp [List.getD_eq_getElem?_getD, hj]
end SD2
