/-! What the small machine yields, the real one yields. First: its cells in the real heap -/
def cv (b : Nat) (ra : Nat → Nat) (v : AV) : Value := match v with
  | .inl x => .int x
  | .inr (.inl none) => .null
  | .inr (.inl (some k)) => .ref (b + k)
  | .inr (.inr j) => .ref (ra j)
theorem cv_cat (b : Nat) (ra : Nat → Nat) (v : AV) : (cv b ra v).category = 1 := by
  rcases v with x | (_ | _) | _ <;> rfl
theorem cv_sum (b : Nat) (ra : Nat → Nat) (S : List AV) : ((S.map (cv b ra)).map fun v => v.category).sum = S.length := by
  induction S with
  | nil => rfl
  | cons v S ih => simp only [List.map_cons, List.sum_cons, List.length_cons, ih, cv_cat]; omega
def ce (aC : FieldType → ClassId) (b : Nat) (ra : Nat → Nat) (c : AC) : va_E := match c with
  | (.inl ci, fs) => .inr (ci, fs.map (cv b ra))
  | (.inr (.object C), xs) => .inl (aC (.object C), (xs.length, .inr (.inr (.inr (.inr (fun j => (vr (xs.getD j (.inl 0))).map (b + ·)))))))
  | (.inr ty, xs) => .inl (aC ty, (xs.length, .inl (fun j => vi (xs.getD j (.inl 0)))))
def wsO (aC : FieldType → ClassId) (b : Nat) (ra : Nat → Nat) (h : AH) : va_W := h.mapIdx (fun k c => (b + k, ce aC b ra c))
theorem wsO_get {aC : FieldType → ClassId} {b : Nat} {ra : Nat → Nat} {h : AH} {k : Nat} {c : AC} (hc : h[k]? = some c) : (wsO aC b ra h)[k]? = some (b + k, ce aC b ra c) := by
  simp [wsO, List.getElem?_mapIdx, hc]
theorem wsO_len (aC : FieldType → ClassId) (b : Nat) (ra : Nat → Nat) (h : AH) : (wsO aC b ra h).length = h.length := by simp [wsO]
theorem wsO_set (aC : FieldType → ClassId) (b : Nat) (ra : Nat → Nat) (h : AH) (k : Nat) (c : AC) : wsO aC b ra (h.set k c) = (wsO aC b ra h).set k (b + k, ce aC b ra c) := by
  apply List.ext_getElem?
  intro i
  by_cases hi : k = i
  · subst hi
    by_cases hk : k < h.length
    · rw [List.getElem?_set_self (by rw [wsO_len]; exact hk)]
      exact wsO_get (List.getElem?_set_self hk)
    · rw [List.getElem?_eq_none (by rw [wsO_len]; simp; omega), List.getElem?_eq_none (by simp [wsO_len]; omega)]
  · rw [List.getElem?_set_ne hi]
    simp [wsO, List.getElem?_mapIdx, List.getElem?_set_ne hi]
theorem wsO_app (aC : FieldType → ClassId) (b : Nat) (ra : Nat → Nat) (h : AH) (c : AC) : wsO aC b ra (h ++ [c]) = wsO aC b ra h ++ [(b + h.length, ce aC b ra c)] := by
  simp [wsO, List.mapIdx_append]
theorem wsO_at {aC : FieldType → ClassId} {b : Nat} {ra : Nat → Nat} {h : AH} {k : Nat} {q : Nat × va_E} (hq : (wsO aC b ra h)[k]? = some q) : ∃ c, h[k]? = some c ∧ q = (b + k, ce aC b ra c) := by
  have hk : k < h.length := by
    rw [← wsO_len aC b ra h]
    exact (List.getElem?_eq_some_iff.mp hq).1
  have h1 : h[k]? = some h[k] := List.getElem?_eq_getElem hk
  rw [wsO_get h1] at hq
  cases hq
  exact ⟨_, h1, rfl⟩
abbrev Ao (b : Nat) : Nat → Prop := fun q => b ≤ q
theorem wsO_D (aC : FieldType → ClassId) (b : Nat) (ra : Nat → Nat) (h : AH) : va_D (Ao b) (wsO aC b ra h) := by
  refine ⟨fun i j p q hi hj hpq => ?_, fun k q hk => ?_⟩
  · obtain ⟨c1, -, rfl⟩ := wsO_at hi
    obtain ⟨c2, -, rfl⟩ := wsO_at hj
    have : b + i = b + j := hpq
    omega
  · obtain ⟨c1, -, rfl⟩ := wsO_at hk
    exact Nat.le_add_right b k
def HR (D : va_G) (aC : FieldType → ClassId) (b : Nat) (ra : Nat → Nat) (h : AH) (H : Heap) : Prop := H.size = b + h.length ∧ va_P D kCl (wsO aC b ra h) H
def tT : FieldType := .object "ChoirBook$Tone"
def tV : FieldType := .object "ChoirBook$Verse"
def tysO (aC : FieldType → ClassId) : List (ClassId × FieldType) := [(aC .int, .int), (aC .boolean, .boolean), (aC tT, tT), (aC tV, tV)]
/-- the locals -/
def lvl (b : Nat) (ra : Nat → Nat) (L : AL) : List (Nat × Value) := L.zipIdx.filterMap (fun q => q.1.map (fun v => (q.2, cv b ra v)))
theorem lvl_mem {b : Nat} {ra : Nat → Nat} {L : AL} {q : Nat × Value} : q ∈ lvl b ra L ↔ ∃ v, L[q.1]? = some (some v) ∧ q.2 = cv b ra v := by
  unfold lvl
  rw [List.mem_filterMap]
  constructor
  · rintro ⟨⟨o, i⟩, hm, ho⟩
    rw [List.mem_zipIdx_iff_getElem?] at hm
    cases o with
    | none => simp at ho
    | some v =>
      simp at ho
      subst ho
      exact ⟨v, hm, rfl⟩
  · rintro ⟨v, h1, h2⟩
    refine ⟨(some v, q.1), List.mem_zipIdx_iff_getElem?.mpr h1, ?_⟩
    simp [← h2]
def LR (b : Nat) (ra : Nat → Nat) (L : AL) (ls : Array Slot) : Prop := lv_has ls L.length (lvl b ra L)
theorem ld_get {L : AL} {k : Nat} {v : AV} (h : ld L k = some v) : L[k]? = some (some v) := by
  unfold ld at h
  split at h
  · cases h
    assumption
  · cases h
theorem LR.get {b : Nat} {ra : Nat → Nat} {L : AL} {ls : Array Slot} (h : LR b ra L ls) {k : Nat} {v : AV} (hv : ld L k = some v) : ls[k]? = some (.val (cv b ra v)) :=
  h.2.2 (k, cv b ra v) (lvl_mem.mpr ⟨v, ld_get hv, rfl⟩)
theorem LR.sto {b : Nat} {ra : Nat → Nat} {L : AL} {ls' : Array Slot} {k : Nat} {v : AV} (h : lv_has ls' L.length ((k, cv b ra v) :: (lvl b ra L).filter (fun q => !(q.1 == k) && !(q.1 + 1 == k && q.2.category == 2)))) : LR b ra (L.set k (some v)) ls' := by
  refine ⟨by simpa using h.1, h.2.1, fun q hq => ?_⟩
  obtain ⟨w, h1, h2⟩ := lvl_mem.mp hq
  by_cases hk : k = q.1
  · have hlt : k < L.length := by
      have := (List.getElem?_eq_some_iff.mp h1).1
      simp at this
      omega
    rw [← hk, List.getElem?_set_self hlt] at h1
    cases h1
    have := h.2.2 (k, cv b ra v) List.mem_cons_self
    rw [h2, ← hk]
    exact this
  · rw [List.getElem?_set_ne hk] at h1
    refine h.2.2 q (List.mem_cons_of_mem _ (List.mem_filter.mpr ⟨lvl_mem.mpr ⟨w, h1, h2⟩, ?_⟩))
    have hc : q.2.category = 1 := by rw [h2]; exact cv_cat b ra w
    simp [hc]
    omega
theorem br_e {pc : Nat} {o : Int} {t : Bool} {L : AL} {S : List AV} {h : AH} {x : AR} (e : br pc o t L S h = some x) : (pc : Int) + o = ((((pc : Int) + o).toNat : Nat) : Int) ∧ x = .inl (if t = true then ((pc : Int) + o).toNat else pc + 3, L, S, h) := by
  unfold br at e
  split at e
  · rename_i h0
    cases e
    exact ⟨(Int.toNat_of_nonneg h0).symm, rfl⟩
  · cases e
theorem jp_e {pc : Nat} {o : Int} {L : AL} {S : List AV} {h : AH} {x : AR} (e : jp pc o L S h = some x) : (pc : Int) + o = ((((pc : Int) + o).toNat : Nat) : Int) ∧ x = .inl (((pc : Int) + o).toNat, L, S, h) := by
  unfold jp at e
  split at e
  · rename_i h0
    cases e
    exact ⟨(Int.toNat_of_nonneg h0).symm, rfl⟩
  · cases e
theorem sto_e {pc k : Nat} {L : AL} {v : AV} {S : List AV} {h : AH} {x : AR} (e : sto pc L k v S h = some x) : k < L.length ∧ x = .inl (pc, L.set k (some v), S, h) := by
  unfold sto at e
  split at e
  · rename_i h0
    cases e
    exact ⟨h0, rfl⟩
  · cases e
theorem nx_e {pc : Nat} {L : AL} {S : List AV} {h : AH} {x : AR} (e : nx pc L S h = some x) : x = .inl (pc, L, S, h) := by
  cases e
  rfl
section SD1
variable {p : Program} {l : Launch} {e : Env} {R : Room} {s : State} {m : MethodId} {args : Array Value} {below : List Frame} {meth : Method} {c : Code} {H : Heap} {locs : List Loc} {cells slots : Nat} {Q : State → Prop}
variable {b : Nat} {ra : Nat → Nat} {cc : ByteArray} {pc : Nat} {L : AL} {S : List AV} {h : AH} {ls : Array Slot} {i : Instr} {x : AR}
set_option maxHeartbeats 4000000 in
theorem sd1 (hx : p.tables.exec = Jvm.exec) (hb : c.code = cc) (hl : LR b ra L ls) (hd : ∀ n, (kind i).2 = n → n ≠ 0 → decode cc pc = .ok (i, n)) (hd0 : ∃ n, decode cc pc = .ok (i, n)) (he : st1 i pc L S h = some x)
    (k : ∀ pc' L' S' ls', x = .inl (pc', L', S', h) → L'.length = L.length → LR b ra L' ls' → W p l e R s m args below meth c H locs cells slots Q (F0 m pc' ls' (S'.map (cv b ra)))) :
    W p l e R s m args below meth c H locs cells slots Q (F0 m pc ls (S.map (cv b ra))) := by
  unfold st1 at he
  split at he
  · exact lv_iconst hx hb (hd 1 rfl (by decide)) rfl (k _ _ _ _ (nx_e he) rfl hl)
  · exact lv_bipush hx hb (hd 2 rfl (by decide)) rfl (k _ _ _ _ (nx_e he) rfl hl)
  · exact lv_sipush hx hb (hd 3 rfl (by decide)) rfl (k _ _ _ _ (nx_e he) rfl hl)
  · exact lv_null hx hb (hd 1 rfl (by decide)) (k _ _ _ _ (nx_e he) rfl hl)
  · split at he
    · rename_i x0 hv
      exact lv_iload_n hx hb (hd 1 rfl (by decide)) rfl (hl.get hv) (k _ _ _ _ (nx_e he) rfl hl)
    · cases he
  · split at he
    · rename_i x0 hv
      exact lv_iload hx hb (hd 2 rfl (by decide)) (hl.get hv) (k _ _ _ _ (nx_e he) rfl hl)
    · cases he
  · split at he
    · rename_i x0 hv
      rcases x0 with (_ | a) | j
      · exact lv_aload_nN hx hb (hd 1 rfl (by decide)) rfl (hl.get hv) (k _ _ _ _ (nx_e he) rfl hl)
      · exact lv_aload_n hx hb (hd 1 rfl (by decide)) rfl (hl.get hv) (k _ _ _ _ (nx_e he) rfl hl)
      · exact lv_aload_n hx hb (hd 1 rfl (by decide)) rfl (hl.get hv) (k _ _ _ _ (nx_e he) rfl hl)
    · cases he
  · split at he
    · rename_i x0 hv
      rcases x0 with (_ | a) | j
      · exact lv_aloadN hx hb (hd 2 rfl (by decide)) (hl.get hv) (k _ _ _ _ (nx_e he) rfl hl)
      · exact lv_aload hx hb (hd 2 rfl (by decide)) (hl.get hv) (k _ _ _ _ (nx_e he) rfl hl)
      · exact lv_aload hx hb (hd 2 rfl (by decide)) (hl.get hv) (k _ _ _ _ (nx_e he) rfl hl)
    · cases he
  · obtain ⟨hk, h0⟩ := sto_e he
    exact lv_istore_n hx hb (hd 1 rfl (by decide)) rfl hl hk rfl (fun ls' hl' => k _ _ _ _ h0 (by simp) (LR.sto hl'))
  · obtain ⟨hk, h0⟩ := sto_e he
    exact lv_istore hx hb (hd 2 rfl (by decide)) hl hk rfl (fun ls' hl' => k _ _ _ _ h0 (by simp) (LR.sto hl'))
  · obtain ⟨hk, h0⟩ := sto_e he
    rename_i k0 x0 S0
    rcases x0 with (_ | a) | j
    · exact lv_astore_nN hx hb (hd 1 rfl (by decide)) rfl hl hk rfl (fun ls' hl' => k _ _ _ _ h0 (by simp) (LR.sto hl'))
    · exact lv_astore_n hx hb (hd 1 rfl (by decide)) rfl hl hk rfl (fun ls' hl' => k _ _ _ _ h0 (by simp) (LR.sto hl'))
    · exact lv_astore_n hx hb (hd 1 rfl (by decide)) rfl hl hk rfl (fun ls' hl' => k _ _ _ _ h0 (by simp) (LR.sto hl'))
  · obtain ⟨hk, h0⟩ := sto_e he
    rename_i k0 x0 S0
    rcases x0 with (_ | a) | j
    · exact lv_astoreN hx hb (hd 2 rfl (by decide)) hl hk rfl (fun ls' hl' => k _ _ _ _ h0 (by simp) (LR.sto hl'))
    · exact lv_astore hx hb (hd 2 rfl (by decide)) hl hk rfl (fun ls' hl' => k _ _ _ _ h0 (by simp) (LR.sto hl'))
    · exact lv_astore hx hb (hd 2 rfl (by decide)) hl hk rfl (fun ls' hl' => k _ _ _ _ h0 (by simp) (LR.sto hl'))
  · split at he
    · rename_i x0 hv
      obtain ⟨hk, h0⟩ := sto_e he
      obtain ⟨j, hj⟩ := List.getElem?_of_mem ((lvl_mem (b := b) (ra := ra) (L := L) (q := (_, .int x0))).mpr ⟨.inl x0, ld_get hv, rfl⟩)
      exact lv_iinc hx hb (hd 3 rfl (by decide)) hl hj rfl hk rfl (fun ls' hl' => k _ _ _ _ h0 (by simp) (LR.sto (v := .inl _) hl'))
    · cases he
  · exact lv_dup hx hb (hd 1 rfl (by decide)) (cv_cat b ra _) (k _ _ _ _ (nx_e he) rfl hl)
  · exact lv_dup2_11 hx hb (hd 1 rfl (by decide)) (cv_cat b ra _) (cv_cat b ra _) (k _ _ _ _ (nx_e he) rfl hl)
  · exact lv_pop hx hb (hd 1 rfl (by decide)) (cv_cat b ra _) (k _ _ _ _ (nx_e he) rfl hl)
  · exact lv_iadd hx hb (hd 1 rfl (by decide)) (k _ _ _ _ (nx_e he) rfl hl)
  · exact lv_isub hx hb (hd 1 rfl (by decide)) (k _ _ _ _ (nx_e he) rfl hl)
  · exact lv_imul hx hb (hd 1 rfl (by decide)) (k _ _ _ _ (nx_e he) rfl hl)
  · exact lv_iand hx hb (hd 1 rfl (by decide)) (k _ _ _ _ (nx_e he) rfl hl)
  · exact lv_ior hx hb (hd 1 rfl (by decide)) (k _ _ _ _ (nx_e he) rfl hl)
  · exact lv_ishl hx hb (hd 1 rfl (by decide)) (k _ _ _ _ (nx_e he) rfl hl)
  · exact lv_ishr hx hb (hd 1 rfl (by decide)) (k _ _ _ _ (nx_e he) rfl hl)
  · split at he
    · cases he
    · rename_i hne
      exact lv_idiv hx hb (hd 1 rfl (by decide)) hne (k _ _ _ _ (nx_e he) rfl hl)
  · split at he
    · cases he
    · rename_i hne
      exact lv_irem hx hb (hd 1 rfl (by decide)) hne (k _ _ _ _ (nx_e he) rfl hl)
  · obtain ⟨ht, rfl⟩ := br_e he
    exact lv_if_eq hx hb (hd 3 rfl (by decide)) ht (fun q => k _ _ _ _ (by simp [q]) rfl hl) (fun q => k _ _ _ _ (by simp [q]) rfl hl)
  · obtain ⟨ht, rfl⟩ := br_e he
    exact lv_if_ne hx hb (hd 3 rfl (by decide)) ht (fun q => k _ _ _ _ (by simp [q]) rfl hl) (fun q => k _ _ _ _ (by simp [q]) rfl hl)
  · obtain ⟨ht, rfl⟩ := br_e he
    exact lv_if_lt hx hb (hd 3 rfl (by decide)) ht (fun q => k _ _ _ _ (by rw [decide_eq_true q, if_pos rfl]) rfl hl) (fun q => k _ _ _ _ (by rw [decide_eq_false q, if_neg (by decide)]) rfl hl)
  · obtain ⟨ht, rfl⟩ := br_e he
    exact lv_if_ge hx hb (hd 3 rfl (by decide)) ht (fun q => k _ _ _ _ (by rw [decide_eq_true q, if_pos rfl]) rfl hl) (fun q => k _ _ _ _ (by rw [decide_eq_false q, if_neg (by decide)]) rfl hl)
  · obtain ⟨ht, rfl⟩ := br_e he
    exact lv_if_gt hx hb (hd 3 rfl (by decide)) ht (fun q => k _ _ _ _ (by rw [decide_eq_true q, if_pos rfl]) rfl hl) (fun q => k _ _ _ _ (by rw [decide_eq_false q, if_neg (by decide)]) rfl hl)
  · obtain ⟨ht, rfl⟩ := br_e he
    exact lv_if_le hx hb (hd 3 rfl (by decide)) ht (fun q => k _ _ _ _ (by rw [decide_eq_true q, if_pos rfl]) rfl hl) (fun q => k _ _ _ _ (by rw [decide_eq_false q, if_neg (by decide)]) rfl hl)
  · obtain ⟨ht, rfl⟩ := br_e he
    exact lv_icmp_eq hx hb (hd 3 rfl (by decide)) ht (fun q => k _ _ _ _ (by simp [q]) rfl hl) (fun q => k _ _ _ _ (by simp [q]) rfl hl)
  · obtain ⟨ht, rfl⟩ := br_e he
    exact lv_icmp_ne hx hb (hd 3 rfl (by decide)) ht (fun q => k _ _ _ _ (by simp [q]) rfl hl) (fun q => k _ _ _ _ (by simp [q]) rfl hl)
  · obtain ⟨ht, rfl⟩ := br_e he
    exact lv_icmp_lt hx hb (hd 3 rfl (by decide)) ht (fun q => k _ _ _ _ (by rw [decide_eq_true q, if_pos rfl]) rfl hl) (fun q => k _ _ _ _ (by rw [decide_eq_false q, if_neg (by decide)]) rfl hl)
  · obtain ⟨ht, rfl⟩ := br_e he
    exact lv_icmp_ge hx hb (hd 3 rfl (by decide)) ht (fun q => k _ _ _ _ (by rw [decide_eq_true q, if_pos rfl]) rfl hl) (fun q => k _ _ _ _ (by rw [decide_eq_false q, if_neg (by decide)]) rfl hl)
  · obtain ⟨ht, rfl⟩ := br_e he
    exact lv_icmp_gt hx hb (hd 3 rfl (by decide)) ht (fun q => k _ _ _ _ (by rw [decide_eq_true q, if_pos rfl]) rfl hl) (fun q => k _ _ _ _ (by rw [decide_eq_false q, if_neg (by decide)]) rfl hl)
  · obtain ⟨ht, rfl⟩ := br_e he
    exact lv_icmp_le hx hb (hd 3 rfl (by decide)) ht (fun q => k _ _ _ _ (by rw [decide_eq_true q, if_pos rfl]) rfl hl) (fun q => k _ _ _ _ (by rw [decide_eq_false q, if_neg (by decide)]) rfl hl)
  · obtain ⟨ht, rfl⟩ := jp_e he
    exact lv_goto hx hb (hd 3 rfl (by decide)) ht (k _ _ _ _ rfl rfl hl)
  · obtain ⟨ht, rfl⟩ := jp_e he
    exact lv_ifnullN hx hb (hd 3 rfl (by decide)) ht (k _ _ _ _ rfl rfl hl)
  · exact lv_ifnull hx hb (hd 3 rfl (by decide)) (k _ _ _ _ (nx_e he) rfl hl)
  · exact lv_ifnonnullN hx hb (hd 3 rfl (by decide)) (k _ _ _ _ (nx_e he) rfl hl)
  · obtain ⟨ht, rfl⟩ := jp_e he
    exact lv_ifnonnull hx hb (hd 3 rfl (by decide)) ht (k _ _ _ _ rfl rfl hl)
  · split at he
    · rename_i o ho
      obtain ⟨ht, rfl⟩ := jp_e he
      obtain ⟨n, hn⟩ := hd0
      unfold tsw at ho
      split at ho
      · rename_i hout
        cases ho
        exact lv_tableOut hx hb hn hout ht (k _ _ _ _ rfl rfl hl)
      · rename_i hin
        exact lv_tableIn hx hb hn (fun q => hin (Or.inl q)) (fun q => hin (Or.inr q)) ho ht (k _ _ _ _ rfl rfl hl)
    · cases he
  · split at he
    · rename_i hs
      obtain ⟨ht, rfl⟩ := jp_e he
      obtain ⟨n, hn⟩ := hd0
      exact lv_lookup hx hb hn hs rfl ht (k _ _ _ _ rfl rfl hl)
    · cases he
  · cases he
end SD1
