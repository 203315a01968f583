/-! Steps that read, write and make cells -/
/-- what is known of a state, and stays: the classes, the tables, the links of nest mates -/
def GK (D : va_G) (aC : FieldType → ClassId) (b : Nat) (ra : Nat → Nat) (ro : List (List Int32)) (U : State) : Prop :=
  va_K D kCl (tysO aC) U ∧ (∀ (j : Nat) (zs : List Int32), ro[j]? = some zs → va_T .int (ra j) zs.length (fun i => .int (zs.getD i 0)) (Ao b) U U.heap) ∧ va_Z "ChoirBook$Days" (gsN 1) "[I" (.ref (ra 1)) (Ao b) U U.heap ∧ va_Z "ChoirBook$Days" (gsN 2) "[I" (.ref (ra 2)) (Ao b) U U.heap ∧ va_AO "ChoirBook$Tone" U ∧ va_AO "ChoirBook$Verse" U ∧ ∀ w ∈ nw, va_Nw w U
theorem kTy_of {ci : Nat} {q : vw_C} (h : kCl[ci]? = some q) : ∃ ty, kTy[ci]? = some ty := by
  have hc : ci < 11 := (List.getElem?_eq_some_iff.mp h).1
  exact ⟨_, List.getElem?_eq_getElem (l := kTy) hc⟩
/-- an object's fields are as many as its class has -/
def szO (h : AH) : Prop := ∀ (k ci : Nat) (fs : List AV), h[k]? = some (.inl ci, fs) → ∃ q, kCl[ci]? = some q ∧ fs.length = q.2.2
section SD2
variable {p : Program} {l : Launch} {e : Env} {R : Room} {s : State} {m : MethodId} {args : Array Value} {below : List Frame} {meth : Method} {c : Code} {H : Heap} {locs : List Loc} {Q : State → Prop}
variable {D : va_G} {aC : FieldType → ClassId} {b : Nat} {ra : Nat → Nat} {ro : List (List Int32)} {cc : ByteArray} {pc : Nat} {L : AL} {S : List AV} {h : AH} {ls : Array Slot} {i : Instr} {x : AR}
theorem HR.set {h : AH} {k : Nat} {c : AC} {H H1 : Heap} (hH : HR D aC b ra h H) (hs : H1.size = H.size) (hP : va_P D kCl ((wsO aC b ra h).set k (b + k, ce aC b ra c)) H1) : HR D aC b ra (h.set k c) H1 := by
  refine ⟨by rw [hs, hH.1]; simp, ?_⟩
  rw [wsO_set]
  exact hP
theorem HR.push {h : AH} {c : AC} {H H1 : Heap} (hH : HR D aC b ra h H) (hs : H1.size = H.size + 1) (ho : ∀ q, q < H.size → H1[q]? = H[q]?) (he : va_at D kCl (b + h.length, ce aC b ra c) H1) : HR D aC b ra (h ++ [c]) H1 := by
  refine ⟨by rw [hs, hH.1]; simp; omega, ?_⟩
  rw [wsO_app]
  refine (hH.2.kept (fun k q hk => ho _ ((hH.2 k q hk).lt))).app (fun k q hk => ?_)
  have hz : k < 1 := (List.getElem?_eq_some_iff.mp hk).1
  rw [show k = 0 by omega] at hk
  cases hk
  exact he
theorem fitA_ok {ty : FieldType} {v : AV} (hv : fitA ty v = true) : narrow ty (cv b ra v) = cv b ra v ∧ fits ty (cv b ra v) = true := by
  by_cases hb : ty = .boolean
  · subst hb
    rcases v with x | (_ | a) | j
    · have hx : x = 0 ∨ x = 1 := by simpa [fitA] using hv
      rcases hx with rfl | rfl
      · exact ⟨rfl, rfl⟩
      · exact ⟨rfl, rfl⟩
    · cases hv
    · cases hv
    · cases hv
  · cases ty <;> rcases v with x | (_ | a) | j <;> simp [fitA] at hv <;> first | exact absurd rfl hb | exact ⟨rfl, rfl⟩
theorem dv_ok (ty : FieldType) (h : ty = .int ∨ ty = .boolean ∨ (∃ C, ty = .object C) ∨ ∃ t, ty = .array t) : cv b ra (dv ty) = defaultValue ty := by
  rcases h with rfl | rfl | ⟨C, rfl⟩ | ⟨t, rfl⟩ <;> rfl
/-- the fields' types are ints, booleans, references -/
theorem kTy_in {ci k : Nat} {q : vw_C} {ty : Nat → FieldType} (hq : kCl[ci]? = some q) (ht : kTy[ci]? = some ty) (hk : k < q.2.2) : ty k = .int ∨ ty k = .boolean ∨ (∃ C, ty k = .object C) ∨ ∃ t, ty k = .array t := by
  have h : (kCl.zip kTy).all (fun z => (List.range z.1.2.2).all (fun k => match z.2 k with | .int | .boolean | .object _ | .array _ => true | _ => false)) = true := by decide +kernel
  have h1 := List.all_eq_true.mp (all_at h hq ht) k (List.mem_range.mpr hk)
  simp only at h1
  split at h1
  · exact Or.inl (by assumption)
  · exact Or.inr (Or.inl (by assumption))
  · rename_i C e
    exact Or.inr (Or.inr (Or.inl ⟨C, e⟩))
  · rename_i C e
    exact Or.inr (Or.inr (Or.inr ⟨C, e⟩))
  · cases h1
theorem getD_set {xs : List AV} {n : Nat} (hn : n < xs.length) (v d : AV) (j : Nat) : (xs.set n v).getD j d = if j = n then v else xs.getD j d := by
  simp only [List.getD_eq_getElem?_getD]
  by_cases hj : j = n
  · subst hj
    rw [List.getElem?_set_self hn, if_pos rfl]
    rfl
  · rw [List.getElem?_set_ne (fun q => hj q.symm), if_neg hj]
theorem getD_rep (n : Nat) (v : AV) (j : Nat) : j < n → (List.replicate n v).getD j (.inl 0) = v := by
  intro hj
  simp [List.getD_eq_getElem?_getD, hj]
theorem HR.put {h : AH} {k n : Nat} {c0 c : AC} {H H1 : Heap} (hH : HR D aC b ra h H) (hc : h[k]? = some c0) (hS : va_S (Ao b) s.heap H locs) (hs : H1.size = H.size) (ho : ∀ q : Nat, q ≠ b + k → H1[q]? = H[q]?) (he : va_at D kCl (b + k, ce aC b ra c) H1) : HR D aC b ra (h.set k c) H1 ∧ va_S (Ao b) s.heap H1 (locs ++ [⟨b + k, n⟩]) :=
  ⟨hH.set hs (hH.2.set (wsO_D aC b ra h) (wsO_get hc) he ho), hS.put hs ho (Nat.le_add_right b k)⟩
set_option maxHeartbeats 1000000 in
theorem ow_put {cells slots : Nat} (hexec : p.tables.exec = Jvm.exec) (hb : c.code = cc) {own : String} {ci x k a : Nat} {q : vw_C} {ty : Nat → FieldType} {fs : List AV} {v : AV} (hts : ∀ w ∈ gw, w.before args s = true) (hown : s.vm.findClass own = some m.cls) (hK : va_K D kCl (tysO aC) s) (hH : HR D aC b ra h H) (hS : va_S (Ao b) s.heap H locs) (hc : h[a]? = some (.inl ci, fs)) (hq : kCl[ci]? = some q) (ht : kTy[ci]? = some ty) (hk : k < q.2.2) (hkl : k < fs.length)
    (hlink : (Cond.fieldLink own x (q.2.1 k).1 (q.2.1 k).2.1 (q.2.1 k).2.2.1).before args s = true) (hfit : fitA (ty k) v = true) (hfin : (q.2.1 k).2.2.2 = false ∨ (meth.name = "<init>" ∧ own = (q.2.1 k).1)) (hdg : decode cc pc = .ok (.putfield x, 3))
    (kk : ∀ (H1 : Heap) (locs1 : List Loc), HR D aC b ra (h.set a (.inl ci, fs.set k v)) H1 → va_S (Ao b) s.heap H1 locs1 → W p l e R s m args below meth c H1 locs1 cells slots Q (F0 m (pc + 3) ls (S.map (cv b ra)))) :
    W p l e R s m args below meth c H locs cells slots Q (F0 m pc ls (cv b ra v :: .ref (b + a) :: S.map (cv b ra))) := by
  obtain ⟨k1, k2, k3, k4⟩ := kc_ok hq ht
  obtain ⟨f1, f2⟩ := fitA_ok (b := b) (ra := ra) hfit
  have hc2 : kCl[ci]? = some (q.1, q.2.1, q.2.2) := hq
  have hap := va_apart (own := own) hts k1 ty k2 k3 hK hc2
  obtain ⟨r, h1, cell, q1, q2, q3, q4⟩ := hH.2 a _ (wsO_get hc)
  have hr : r = (q.1, q.2.1, q.2.2) := Option.some.inj (h1.symm.trans hc2)
  subst hr
  obtain ⟨hSl, hfc, kC, hkC, hkind⟩ := hK.1 ci _ hc2
  obtain ⟨cf, kf, fi, f, hi, hsl⟩ := hSl k hk
  have hlay := hts _ (k1 _ (u_in_lay hk))
  have hst := (u_facts hfc hkC (u_lays hts k1 hk) hi).1
  have fin : ∀ H' : Heap, H'[b + a]? = some (cell.setSlot f.slot (cv b ra v)) → H'.size = H.size → (∀ q : Nat, q ≠ b + a → H'[q]? = H[q]?) → W p l e R s m args below meth c H' (locs ++ [⟨b + a, f.slot⟩]) cells slots Q (F0 m (pc + 3) ls (S.map (cv b ra))) := by
    intro H' e1 e2 e3
    rw [hsl] at e1
    obtain ⟨g1, g2⟩ := hH.put (n := f.slot) (c := (.inl ci, fs.set k v)) hc hS e2 e3 (show va_at D kCl (b + a, .inr (ci, (fs.set k v).map (cv b ra))) H' from ⟨_, hc2, t_OB.to (V := updV (vp_V (fs.map (cv b ra))) k (cv b ra v)) ⟨_, e1, q2, q3, t_set q4 hap hk _⟩ (fun j _ => by
      rw [vp_updV_set (by simpa using hkl), List.map_set])⟩)
    exact kk H' _ g1 g2
  unfold u_lay at hlay
  by_cases hf : (q.2.1 k).2.2.2 = true
  · obtain ⟨hini, hdecl⟩ := hfin.resolve_left (by simp [hf])
    rw [if_pos hf] at hlay
    have hcf : m.cls = cf := by
      obtain ⟨_, _, c', _, _, _, -, -, hf', -, -, -, hown2, -⟩ := Cond.laysFinal_spec hlay
      have e1 : c' = cf := by have := hi.symm.trans hf'; simp at this; exact this.1.symm
      rw [← hdecl] at hown2
      rw [← e1]; exact Option.some.inj (hown.symm.trans hown2)
    have h6 := u_fits hfc hkC hkind (Or.inr hlay) hi (k2 k hk) f1 f2
    exact W.putFinK hexec hb hown hlink hi hst hcf hini (by rw [q2]; exact h6) q1 q3 (by rw [hsl]; exact k2_hasslot (q4 k hk)) rfl rfl hdg fin
  · rw [if_neg hf] at hlay
    have h6 := u_store hfc hkC hkind hlay hi (k2 k hk) f1 f2
    exact W.putK hexec hb (f := f) ⟨hown, hlink, ⟨_, _, _, hi⟩, hst⟩ (by rw [q2]; exact h6) q1 q3 (by rw [hsl]; exact k2_hasslot (q4 k hk)) rfl rfl hdg fin
theorem ow_ia {a : Nat} {ty : FieldType} {xs : List AV} (hty : ty = .int ∨ ty = .boolean) : ce aC b ra (.inr ty, xs) = .inl (aC ty, (xs.length, .inl (fun j => vi (xs.getD j (.inl 0))))) := by
  rcases hty with rfl | rfl <;> rfl
theorem ow_set {xs : List AV} {n : Nat} (hn : n < xs.length) (ty : FieldType) (hty : ty = .int ∨ ty = .boolean) (y : Int32) {H1 : Heap} {a : Nat} (e : H1[b + a]? = some ((arrV (aC ty) xs.length (fun j => .int (vi (xs.getD j (.inl 0))))).setSlot n (.int y))) : va_at D kCl (b + a, ce aC b ra (.inr ty, xs.set n (.inl y))) H1 := by
  rw [ow_ia (a := a) hty]
  show H1[b + a]? = some (vp_cell _ _)
  rw [e, vp_cell_i, arrV_store, List.length_set]
  congr 2
  funext q
  rw [getD_set hn]
  by_cases hq : q = n
  · simp [updV, hq, vi]
  · simp [updV, hq]
theorem ow_setq {xs : List AV} {n v : Nat} (hn : n < xs.length) (C : String) {H1 : Heap} {a : Nat} (e : H1[b + a]? = some ((arrV (aC (.object C)) xs.length (fun j => va_rf ((vr (xs.getD j (.inl 0))).map (b + ·)))).setSlot n (.ref (b + v)))) : va_at D kCl (b + a, ce aC b ra (.inr (.object C), xs.set n (.inr (.inl (some v))))) H1 := by
  show H1[b + a]? = some (vp_cell _ _)
  rw [e, vp_cell_q, arrV_store, List.length_set]
  congr 2
  funext q
  rw [getD_set hn]
  by_cases hq : q = n
  · simp [updV, hq, vr, va_rf]
  · simp [updV, hq]
end SD2
