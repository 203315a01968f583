/-! The tables' checks as facts -/
theorem lk_at {α : Type} {T : List (List (Nat × α))} {K i : Nat} {v : α} (h : lk T K i = some v) : ∃ l, T[K]? = some l ∧ (i, v) ∈ l := by
  unfold lk at h
  split at h
  · rename_i l hl
    split at h
    · rename_i q hq
      cases h
      have h1 := List.mem_of_find?_eq_some hq
      have h2 := List.find?_some hq
      simp at h2
      subst h2
      exact ⟨l, hl, h1⟩
    · cases h
  · cases h
theorem lk_ck {α : Type} {T : List (List (Nat × α))} {f : Nat → Nat × α → Bool} (hT : (T.zipIdx).all (fun q => q.1.all (f q.2)) = true) {K i : Nat} {v : α} (h : lk T K i = some v) : f K (i, v) = true := by
  obtain ⟨l, h1, h2⟩ := lk_at h
  have h3 := List.all_eq_true.mp hT (l, K) (List.mem_zipIdx_iff_getElem?.mpr h1)
  exact List.all_eq_true.mp h3 _ h2
theorem all_at {α β : Type} {l : List α} {k : List β} {f : α × β → Bool} (hT : (l.zip k).all f = true) {i : Nat} {a : α} {b : β} (h1 : l[i]? = some a) (h2 : k[i]? = some b) : f (a, b) = true := by
  refine List.all_eq_true.mp hT (a, b) ?_
  refine List.mem_of_getElem? (i := i) ?_
  rw [List.getElem?_zip_eq_some]
  exact ⟨h1, h2⟩
/-- what is known of a class of objects -/
theorem kc_ok {ci : Nat} {q : vw_C} {ty : Nat → FieldType} (hq : kCl[ci]? = some q) (ht : kTy[ci]? = some ty) :
    (∀ w ∈ u_ws q.1 q.2.1 q.2.2, w ∈ gw) ∧ (∀ k, k < q.2.2 → parseFieldDescriptor (q.2.1 k).2.2.1 = some (ty k)) ∧ (∀ a, a < q.2.2 → ∀ b, b < q.2.2 → a ≠ b → (q.2.1 a).2.1 ≠ (q.2.1 b).2.1) ∧ ∀ k, k < q.2.2 → (q.2.1 k).1 = q.1 := by
  have hc : ci < 11 := (List.getElem?_eq_some_iff.mp hq).1
  have hp : kPs[ci]? = some kPs[ci] := List.getElem?_eq_getElem (l := kPs) hc
  have hz : (kTy.zip kPs)[ci]? = some (ty, kPs[ci]) := by
    rw [List.getElem?_zip_eq_some]
    exact ⟨ht, hp⟩
  have h := all_at ck_cT hq hz
  unfold ck_c at h
  simp only [Bool.and_eq_true, decide_eq_true_eq] at h
  obtain ⟨⟨h1, h2⟩, h3⟩ := h
  refine ⟨fun w hw => ?_, fun k hk => ?_, fun a ha b hb hab => ?_, fun k hk => ?_⟩
  · obtain ⟨k, hk, rfl⟩ := List.mem_map.mp hw
    have hk' := List.mem_range.mp hk
    have hl : k < kPs[ci].length := by rw [h2]; exact hk'
    have := all_at (i := k) (a := k) (b := kPs[ci][k]) h1 (by simp [hk']) (List.getElem?_eq_getElem hl)
    exact ckw_in this
  · have := List.all_eq_true.mp h3 k (List.mem_range.mpr hk)
    simp only [Bool.and_eq_true, decide_eq_true_eq] at this
    exact this.1.1
  · have := List.all_eq_true.mp h3 a (List.mem_range.mpr ha)
    simp only [Bool.and_eq_true, decide_eq_true_eq] at this
    have := List.all_eq_true.mp this.2 b (List.mem_range.mpr hb)
    simp only [Bool.or_eq_true, decide_eq_true_eq, beq_iff_eq] at this
    rcases this with h | h
    · exact absurd h.symm hab
    · exact h
  · have := List.all_eq_true.mp h3 k (List.mem_range.mpr hk)
    simp only [Bool.and_eq_true, decide_eq_true_eq] at this
    exact this.1.2
theorem fld_ok {K x ci k po : Nat} {n : String} {q : vw_C} (h : lk fldT K x = some (ci, k, po)) (hn : kN[K]? = some n) (hq : kCl[ci]? = some q) : (.fieldLink n x (q.2.1 k).1 (q.2.1 k).2.1 (q.2.1 k).2.2.1 : Cond) ∈ gw ∧ k < q.2.2 := by
  have h1 := lk_ck (f := ck_f) ck_fT h
  simp only [ck_f, hn, hq, Bool.and_eq_true, decide_eq_true_eq] at h1
  exact ⟨ckw_in h1.1, h1.2⟩
theorem new_ok {K x ci p1 p2 : Nat} {n : String} {q : vw_C} (h : lk newT K x = some (ci, p1, p2)) (hn : kN[K]? = some n) (hq : kCl[ci]? = some q) : (.classLink n x q.1 : Cond) ∈ gw ∧ (.instantiable q.1 q.2.2 : Cond) ∈ gw := by
  have h1 := lk_ck (f := ck_n) ck_nT h
  simp only [ck_n, hn, hq, Bool.and_eq_true] at h1
  exact ⟨ckw_in h1.1, ckw_in h1.2⟩
theorem an_ok {K x p1 p2 : Nat} {n C : String} (h : lk anT K x = some (C, p1, p2)) (hn : kN[K]? = some n) : (.classLink n x C : Cond) ∈ gw := by
  have h1 := lk_ck (f := ck_a) ck_aT h
  simp only [ck_a, hn, Bool.and_eq_true] at h1
  exact ckw_in h1.1
theorem an_two {K x p1 p2 : Nat} {C : String} (h : lk anT K x = some (C, p1, p2)) : C = "ChoirBook$Tone" ∨ C = "ChoirBook$Verse" := by
  obtain ⟨l, h1, h2⟩ := lk_at h
  have h3 : anT.all (fun l => l.all (fun e => e.2.1 == "ChoirBook$Tone" || e.2.1 == "ChoirBook$Verse")) = true := by decide +kernel
  have h4 := List.all_eq_true.mp (List.all_eq_true.mp h3 l (List.mem_of_getElem? h1)) _ h2
  simpa using h4
theorem gs_ok {K x j po : Nat} {n : String} (h : lk gsT K x = some (j, po)) (hn : kN[K]? = some n) : (.fieldLink n x "ChoirBook$Days" (gsN j) "[I" : Cond) ∈ gw ∧ (j = 1 ∨ j = 2) := by
  have h1 := lk_ck (f := ck_g) ck_gT h
  simp only [ck_g, hn, Bool.and_eq_true, Bool.or_eq_true, beq_iff_eq] at h1
  exact ⟨ckw_in h1.1, h1.2⟩
theorem ob_ok {K x po : Nat} {n : String} (h : lk objT K x = some po) (hn : kN[K]? = some n) : (.methodLink n x objectInit : Cond) ∈ gw := by
  have h1 := lk_ck (f := ck_o) ck_oT h
  simp only [ck_o, hn] at h1
  exact ckw_in h1
theorem ini_ok {K : Nat} {n : String} (hn : kN[K]? = some n) : (.initialized n : Cond) ∈ gw := by
  have hK : K < 14 := (List.getElem?_eq_some_iff.mp hn).1
  exact ckw_in (all_at ck_ini hn (List.getElem?_eq_getElem (l := kIni) hK))
theorem ini_cl {ci : Nat} {q : vw_C} (hq : kCl[ci]? = some q) : (.initialized q.1 : Cond) ∈ gw := by
  have h : kCl.all (fun q => kN.contains q.1) = true := by decide +kernel
  have h1 := List.all_eq_true.mp h q (List.mem_of_getElem? hq)
  obtain ⟨i, hi⟩ := List.getElem?_of_mem (List.contains_iff_mem.mp h1)
  exact ini_ok hi
/-- a method's record -/
theorem mrec_ok {j : Nat} {r : MR} (h : mrec j = some r) (hj : j ≠ 247) : ck_m r = true ∧ cdw r := by
  unfold mrec at h
  split at h
  · rename_i l hl
    have hlt : j / 25 < 10 := (List.getElem?_eq_some_iff.mp hl).1
    have hm := List.mem_of_getElem? h
    have key : ∀ (i : Nat) (l' : List MR), mtabs[i]? = some l' → j / 25 = i → (l'.all ck_m = true) → (∀ r ∈ l', cdw r) → ck_m r = true ∧ cdw r := by
      intro i l' h1 h2 h3 h4
      rw [h2] at hl
      rw [h1] at hl
      cases hl
      exact ⟨List.all_eq_true.mp h3 r hm, h4 r hm⟩
    have hd : j / 25 = 0 ∨ j / 25 = 1 ∨ j / 25 = 2 ∨ j / 25 = 3 ∨ j / 25 = 4 ∨ j / 25 = 5 ∨ j / 25 = 6 ∨ j / 25 = 7 ∨ j / 25 = 8 ∨ j / 25 = 9 := by omega
    rcases hd with hd | hd | hd | hd | hd | hd | hd | hd | hd | hd
    · exact key 0 _ rfl hd ck_m0 cdw_0
    · exact key 1 _ rfl hd ck_m1 cdw_1
    · exact key 2 _ rfl hd ck_m2 cdw_2
    · exact key 3 _ rfl hd ck_m3 cdw_3
    · exact key 4 _ rfl hd ck_m4 cdw_4
    · exact key 5 _ rfl hd ck_m5 cdw_5
    · exact key 6 _ rfl hd ck_m6 cdw_6
    · exact key 7 _ rfl hd ck_m7 cdw_7
    · exact key 8 _ rfl hd ck_m8 cdw_8
    · rw [hd] at hl
      have e : mtab_9 = l := Option.some.inj (show some mtab_9 = some l from hl)
      subst e
      have hk : j % 25 < 23 := (List.getElem?_eq_some_iff.mp h).1
      have hk2 : j % 25 < 22 := by omega
      have hm2 : r ∈ mtab_9.take 22 := List.mem_of_getElem? (i := j % 25) (by rw [List.getElem?_take, if_pos hk2]; exact h)
      exact ⟨List.all_eq_true.mp ck_m9 r hm2, cdw_9 r hm2⟩
  · cases h
/-- what the check of a record says -/
theorem ckm_all {r : MR} (h : ck_m r = true) : (if r.2.2.2.2.2.2.1 = true then (.static r.1 : Cond) ∈ gw else (.instanceMethod r.1 : Cond) ∈ gw) ∧ (r.2.2.2.2.2.2.2.2.2 = 9999 ∨ (.selects r.1.cls r.1 r.1 : Cond) ∈ gw) ∧ plainName r.1.cls = true ∧ (r.1.cls ≠ "java/lang/invoke/MethodHandle" ∧ r.1.cls ≠ "java/lang/invoke/VarHandle") ∧ ((parseMethodDescriptor r.1.desc).map (fun d => d.parameters.length) = some (if r.2.2.2.2.2.2.1 = true then r.2.2.2.2.2.1 else r.2.2.2.2.2.1 - 1)) ∧ (1 ≤ r.2.2.2.2.2.1 ∨ r.2.2.2.2.2.2.1 = true) ∧ (kN[r.2.2.2.2.1]? = some r.1.cls) ∧ r.2.2.2.2.2.1 ≤ r.2.2.1 ∧ r.2.2.1 ≤ 20 := by
  unfold ck_m at h
  simp only [Bool.and_eq_true, Bool.or_eq_true, decide_eq_true_eq, beq_iff_eq] at h
  obtain ⟨⟨⟨⟨⟨⟨⟨⟨h1, h2⟩, h3⟩, h4⟩, h5⟩, h6⟩, h7⟩, h8⟩, h9⟩ := h
  refine ⟨?_, h2.imp id ckw_in, h3, h4, h5, h6, h7, h8, h9⟩
  split
  · rename_i hs
    rw [if_pos hs] at h1
    exact ckw_in h1
  · rename_i hs
    rw [if_neg hs] at h1
    exact ckw_in h1
def isN : Cond → Bool
  | .methodLinkNest .. => true
  | _ => false
def nw : List Cond := lw_tbl.filter isN
theorem ckn_nw {i : Nat} {a : String} {k : Nat} {x : MethodName} {z : String} (h : ckn i (.methodLinkNest a k x z) = true) : (.methodLinkNest a k x z : Cond) ∈ nw := List.mem_filter.mpr ⟨ckn_in h, rfl⟩
theorem inv_ok {K x j kd po : Nat} {n : String} {r : MR} (h : lk invT K x = some (j, kd, po)) (hn : kN[K]? = some n) (hr : mrec j = some r) :
    (kd = 0 → (.methodLink n x r.1 : Cond) ∈ gw ∧ r.2.2.2.2.2.2.1 = true) ∧ (kd = 1 → (.methodLinkNest n x r.1 "ChoirBook" : Cond) ∈ nw ∧ r.2.2.2.2.2.2.1 = true) ∧ (kd = 2 → (.methodLink n x r.1 : Cond) ∈ gw ∧ r.2.2.2.2.2.2.1 = false ∧ ¬ r.2.2.2.2.2.2.2.2.2 = 9999) ∧ (kd = 4 → (.methodLink n x r.1 : Cond) ∈ gw ∧ r.2.2.2.2.2.2.1 = false ∧ r.1.name = "<init>" ∧ r.2.2.2.1 = none) ∧ (kd = 5 → (.methodLinkNest n x r.1 "ChoirBook" : Cond) ∈ nw ∧ r.2.2.2.2.2.2.1 = false ∧ r.1.name = "<init>" ∧ r.2.2.2.1 = none) := by
  have h1 := lk_ck (f := ck_i) ck_iT h
  simp only [ck_i, hn, hr] at h1
  refine ⟨fun e => ?_, fun e => ?_, fun e => ?_, fun e => ?_, fun e => ?_⟩
  · subst e
    simp only [if_true, Bool.and_eq_true] at h1
    exact ⟨ckw_in h1.1, h1.2⟩
  · subst e
    rw [if_neg (by decide), if_pos rfl] at h1
    simp only [Bool.and_eq_true] at h1
    exact ⟨ckn_nw h1.1, h1.2⟩
  · subst e
    rw [if_neg (by decide), if_neg (by decide), if_pos rfl] at h1
    simp only [Bool.and_eq_true, Bool.not_eq_true', beq_eq_false_iff_ne] at h1
    exact ⟨ckw_in h1.1.1, h1.1.2, h1.2⟩
  · subst e
    rw [if_neg (by decide), if_neg (by decide), if_neg (by decide), if_pos rfl] at h1
    simp only [Bool.and_eq_true, Bool.not_eq_true', decide_eq_true_eq] at h1
    exact ⟨ckw_in h1.1.1.1, h1.1.1.2, h1.1.2, h1.2⟩
  · subst e
    rw [if_neg (by decide), if_neg (by decide), if_neg (by decide), if_neg (by decide), if_pos rfl] at h1
    simp only [Bool.and_eq_true, Bool.not_eq_true', decide_eq_true_eq] at h1
    exact ⟨ckn_nw h1.1.1.1, h1.1.1.2, h1.1.2, h1.2⟩
theorem inv_no {K x j kd po : Nat} (h : lk invT K x = some (j, kd, po)) : j ≠ 247 := by
  obtain ⟨l, h1, h2⟩ := lk_at h
  have h3 : invT.all (fun l => l.all (fun e => !(e.2.1 == 247))) = true := by decide +kernel
  have h4 := List.all_eq_true.mp (List.all_eq_true.mp h3 l (List.mem_of_getElem? h1)) _ h2
  simpa using h4
theorem inv_math {K x j po : Nat} {n : String} : (lk invT K x = some (j, 6, po) → kN[K]? = some n → (.methodLink n x Lib.Math.max.name : Cond) ∈ gw) ∧ (lk invT K x = some (j, 7, po) → kN[K]? = some n → (.methodLink n x Lib.Math.min.name : Cond) ∈ gw) := by
  refine ⟨fun h hn => ?_, fun h hn => ?_⟩
  · have h1 := lk_ck (f := ck_i) ck_iT h
    simp only [ck_i, hn] at h1
    split at h1
    · rename_i a1 a2
      simp at a1
      rw [if_neg (by decide), if_neg (by decide), if_neg (by decide), if_neg (by decide), if_neg (by decide), if_pos trivial] at h1
      exact a1 ▸ ckw_in h1
    · cases h1
  · have h1 := lk_ck (f := ck_i) ck_iT h
    simp only [ck_i, hn] at h1
    split at h1
    · rename_i a1 a2
      simp at a1
      rw [if_neg (by decide), if_neg (by decide), if_neg (by decide), if_neg (by decide), if_neg (by decide), if_neg (by decide), if_pos trivial] at h1
      exact a1 ▸ ckw_in h1
    · cases h1
