/-! The year's numbers out of the rubrics of a world -/
def OYr (w' w : Wd) : Prop := ∀ c k, (1 ≤ c ∧ c ≤ 15) ∨ (156 ≤ c ∧ c ≤ 168) ∨ (c = 155 ∧ k ≤ 1) → w' c k = w c k
theorem OYr_rf (w : Wd) : OYr w w := fun _ _ _ => rfl
theorem OYr_tr {a b c : Wd} (h1 : OYr a b) (h2 : OYr b c) : OYr a c := fun x y h => (h1 x y h).trans (h2 x y h)
theorem OYr_sy {a b : Wd} (h : OYr a b) : OYr b a := fun x y q => (h x y q).symm
theorem RS_yr {w w' : Wd} (h : OYr w' w) (hR : RS w) : RS w' := ⟨RSs_cg (fun c k q => h c k (by unfold PSs at q; omega)) hR.1, RSf_cg (fun c k q => h c k (by unfold PSf at q; omega)) hR.2⟩
def oT (x : Int32) : Option Nat := if x = -1 then none else some x.toNatClampNeg
def oO (o : Option Nat) : Int32 := match o with | none => -1 | some n => nI n
def yrN (i : Nat) : Nat := (f_Md_daysOf (nI (1900 + i))).toNatClampNeg
def yrW (i : Nat) : Nat := (f_Day_firstWeekday (nI (1900 + i))).toNatClampNeg
def yrS (w : Wd) (i d : Nat) : Int32 := lastS (fun k => pIn w i k d) (w 155 0).toNatClampNeg
def yv (w : Wd) (i : Nat) : YT := (yrW i, yrN i, (w 155 1).toNatClampNeg, fun f => (oT (dI (nI (1900 + i)) (w 162 f) (w 163 f)), (w 164 f).toNatClampNeg, (w 167 f).toNatClampNeg, decide (¬ w 168 f = 0)), fun f => (w 166 f).toNatClampNeg, fun d => (f_Sea_rankOf w (yrS w i d) (nI ((yrW i + d) % 7))).toNatClampNeg, fun f => w 165 f, fun d => yrS w i d, fun d => f_Sea_colourOf w (yrS w i d))
theorem pIn_cg {w w' : Wd} (h : OYr w' w) (i : Nat) : pIn w' i = pIn w i := by
  have e2 : w' 2 = w 2 := funext fun k => h _ _ (by omega)
  have e3 : w' 3 = w 3 := funext fun k => h _ _ (by omega)
  have e4 : w' 4 = w 4 := funext fun k => h _ _ (by omega)
  funext k d
  unfold pIn
  rw [(sea_cg e2 e3 e4 _ _).1, (sea_cg e2 e3 e4 _ _).2]
theorem rankOf_cg {w w' : Wd} (h : OYr w' w) : f_Sea_rankOf w' = f_Sea_rankOf w := by
  have e5 : w' 5 = w 5 := funext fun k => h _ _ (by omega)
  have e6 : w' 6 = w 6 := funext fun k => h _ _ (by omega)
  funext S x
  unfold f_Sea_rankOf f_at
  rw [e5, e6]
theorem colourOf_cg {w w' : Wd} (h : OYr w' w) : f_Sea_colourOf w' = f_Sea_colourOf w := by
  have e7 : w' 7 = w 7 := funext fun k => h _ _ (by omega)
  funext S
  unfold f_Sea_colourOf f_at
  rw [e7]
theorem yv_cg {w w' : Wd} (h : OYr w' w) (i : Nat) : yv w' i = yv w i := by
  have e0 : w' 155 0 = w 155 0 := h _ _ (by omega)
  have e1 : w' 155 1 = w 155 1 := h _ _ (by omega)
  have e162 : w' 162 = w 162 := funext fun k => h _ _ (by omega)
  have e163 : w' 163 = w 163 := funext fun k => h _ _ (by omega)
  have e164 : w' 164 = w 164 := funext fun k => h _ _ (by omega)
  have e165 : w' 165 = w 165 := funext fun k => h _ _ (by omega)
  have e166 : w' 166 = w 166 := funext fun k => h _ _ (by omega)
  have e167 : w' 167 = w 167 := funext fun k => h _ _ (by omega)
  have e168 : w' 168 = w 168 := funext fun k => h _ _ (by omega)
  have eS : yrS w' i = yrS w i := by
    funext d
    unfold yrS
    rw [pIn_cg h i, e0]
  unfold yv
  rw [eS, rankOf_cg h, colourOf_cg h, e1, e162, e163, e164, e165, e166, e167, e168]
theorem yrN_is (i : Nat) : f_Md_daysOf (nI (1900 + i)) = nI (yrN i) ∧ 365 ≤ yrN i ∧ yrN i ≤ 366 := by
  have : f_Md_daysOf (nI (1900 + i)) = nI 365 ∨ f_Md_daysOf (nI (1900 + i)) = nI 366 := by
    unfold f_Md_daysOf
    split
    · exact Or.inl rfl
    · exact Or.inr rfl
  unfold yrN
  rcases this with h | h
  · rw [h, nI_clampN (by omega)]; exact ⟨rfl, by omega, by omega⟩
  · rw [h, nI_clampN (by omega)]; exact ⟨rfl, by omega, by omega⟩
theorem yrW_is {i : Nat} (hi : i < 300) : f_Day_firstWeekday (nI (1900 + i)) = nI (yrW i) ∧ yrW i < 7 := by
  obtain ⟨⟨d, hd, e⟩, -⟩ := y_facts hi
  unfold yrW
  rw [e, nI_clampN (by omega)]
  exact ⟨rfl, hd⟩
/-- the last day of a month lies in the year -/
theorem month_end (y : Int32) {m : Nat} (h1 : 1 ≤ m) (h2 : m ≤ 12) : ∃ F l N, f_Day_firstOfMonth y (nI m) = nI F ∧ f_Md_daysIn y (nI m) = nI l ∧ f_Md_daysOf y = nI N ∧ F + l ≤ N ∧ 1 ≤ l ∧ l ≤ 31 ∧ F ≤ 335 ∧ N ≤ 366 := by
  obtain ⟨F, hF2, hF⟩ := mfirst y h1 h2
  obtain ⟨l, l1, l2, el⟩ := mlen_31 y h1 h2
  by_cases hl : f_Md_isLeap y = 0
  · have e3 : f_Md_daysOf y = nI 365 := by unfold f_Md_daysOf; rw [if_pos hl]; rfl
    refine ⟨F, l, 365, hF, el, e3, ?_, by omega, l2, hF2, by omega⟩
    rcases Nat.lt_or_ge m 12 with q | q
    · have u := first_up y h1 (by omega)
      obtain ⟨F', hF2', hF'⟩ := mfirst y (m := m + 1) (by omega) (by omega)
      rw [hF, el, hF', nI_add] at u
      have := (nI_eq (by omega) (by omega)).mp u
      omega
    · have em : m = 12 := by omega
      subst em
      have z : f_Day_firstOfMonth y (nI 12) = nI 334 := by
        unfold f_Day_firstOfMonth
        rw [show f_Day_isLeap = f_Md_isLeap from rfl, if_pos hl, ite_self]
        decide
      have z2 : f_Md_daysIn y (nI 12) = nI 31 := by
        unfold f_Md_daysIn
        rw [if_neg (by decide), if_neg (by decide), if_neg (by decide), if_neg (by decide), if_neg (by decide)]
        rfl
      have a := (nI_eq (by omega) (by omega)).mp (hF.symm.trans z)
      have b := (nI_eq (by omega) (by omega)).mp (el.symm.trans z2)
      omega
  · have e3 : f_Md_daysOf y = nI 366 := by unfold f_Md_daysOf; rw [if_neg hl]; rfl
    refine ⟨F, l, 366, hF, el, e3, by omega, by omega, l2, hF2, by omega⟩
/-- a told feast's day: none, or one of the year's -/
theorem dI_range {i : Nat} {s a : Int32} (hi : i < 300) (ht : f_Md_isTold s a = 1) : dI (nI (1900 + i)) s a = -1 ∨ ∃ o, o < yrN i ∧ dI (nI (1900 + i)) s a = nI o := by
  obtain ⟨⟨f0, hf0, hf⟩, -, E, E1, E2, eE⟩ := y_facts hi
  obtain ⟨eN, N1, N2⟩ := yrN_is i
  unfold dI
  unfold f_Md_isTold at ht
  by_cases c0 : s = 0
  · rw [if_pos c0] at ht ⊢
    by_cases hz : a ≤ 0
    · rw [if_pos hz] at ht; exact absurd ht.symm one_ne
    rw [if_neg hz] at ht
    rcases in_c (v := a / 100) (lo := 1) (hi := 12) 1 12 rfl rfl (by omega) (by omega) with ⟨e, _⟩ | ⟨m, m1, m2, em, e⟩
    · rw [if_pos e] at ht; exact absurd ht.symm one_ne
    rw [em]
    obtain ⟨F, l, N, k1, k2, k3, k4, k5, k6, k7, k8⟩ := month_end (nI (1900 + i)) m1 m2
    have eNN : N = yrN i := (nI_eq (by omega) (by omega)).mp (k3.symm.trans eN)
    rcases in_c (v := a - nI m * 100) (lo := 1) (hi := nI l) 1 l rfl rfl (by omega) (by omega) with ⟨q, _⟩ | ⟨d, d1, d2, ed, q⟩
    · left
      refine (dayOf_m1 _ _ _).mpr (Or.inr ?_)
      rw [k2]; exact q
    · right
      refine ⟨F + d - 1, by omega, ?_⟩
      rw [ed, dayOf_val _ m1 m2 (by rw [k2]; exact in_in (l := 1) (h := l) rfl rfl d1 d2 (by omega)), k1, nI_add]
      exact pk_sub (b := 1) (by omega)
  · rw [if_neg c0] at ht ⊢
    by_cases c1 : s = 1
    · rw [if_pos c1]
      rw [eN]
      rcases in_cnt (f_Day_easter (nI (1900 + i)) + a) (n := yrN i) (by omega) with ⟨e, _⟩ | ⟨t, t1, t2, e⟩
      · rw [if_pos e]; exact Or.inl rfl
      · rw [if_neg (in_n0 e)]; exact Or.inr ⟨t, t1, t2⟩
    · rw [if_neg c1] at ht ⊢
      by_cases c2 : s = 2
      · rw [if_pos c2] at ht ⊢
        by_cases hz : a ≤ 0
        · rw [if_pos hz] at ht; exact absurd ht.symm one_ne
        rw [if_neg hz] at ht
        rcases in_c (v := a / 100) (lo := 1) (hi := 12) 1 12 rfl rfl (by omega) (by omega) with ⟨e, _⟩ | ⟨m, m1, m2, em, e⟩
        · rw [if_pos e] at ht; exact absurd ht.symm one_ne
        rw [if_neg (in_n0 e)] at ht
        rcases in_c (v := a / 10 - a / 10 / 10 * 10) (lo := 0) (hi := 6) 0 6 rfl rfl (by omega) (by omega) with ⟨e3, _⟩ | ⟨wd, _, wd2, ewd, e3⟩
        · rw [if_pos e3] at ht; exact absurd ht.symm one_ne
        rw [if_neg (in_n0 e3)] at ht
        rcases in_c (v := a - a / 10 * 10) (lo := 1) (hi := 5) 1 5 rfl rfl (by omega) (by omega) with ⟨e4, _⟩ | ⟨k, k1, k2, ek, e4⟩
        · rw [if_pos e4] at ht; exact absurd ht.symm one_ne
        obtain ⟨F, l, N, j1, j2, j3, j4, j5, j6, j7, j8⟩ := month_end (nI (1900 + i)) m1 m2
        have eNN : N = yrN i := (nI_eq (by omega) (by omega)).mp (j3.symm.trans eN)
        rw [em, ewd, ek, nth_val m1 m2 hf hf0 j1 j7 j2 j6 (by omega) k1 k2]
        have hcw : 1 ≤ cW f0 F wd ∧ cW f0 F wd ≤ 7 := by unfold cW; omega
        by_cases c : cW f0 F wd + 7 * (k - 1) ≤ l
        · rw [if_pos c]; exact Or.inr ⟨_, by omega, rfl⟩
        · rw [if_neg c]; exact Or.inl rfl
      · rw [if_neg c2]; exact Or.inl rfl
theorem oT_oO {x : Int32} {n : Nat} (hn : n < 100000) (h : x = -1 ∨ ∃ o, o < n ∧ x = nI o) : oO (oT x) = x ∧ ∀ o, oT x = some o → o < n := by
  unfold oT
  rcases h with h | ⟨o, h1, h2⟩
  · rw [if_pos h]
    refine ⟨h.symm, fun o q => ?_⟩
    cases q
  · subst h2
    rw [if_neg (m1_nI (by omega)), nI_clampN (by omega)]
    refine ⟨rfl, fun o' q => ?_⟩
    cases q
    exact h1
theorem in_nat {v lo hi : Int32} (l h : Nat) (hl : lo = nI l) (hh : hi = nI h) (hlh : l ≤ h) (h31 : h < 2147483648) (hv : f_Md_in v lo hi = 1) : v = nI v.toNatClampNeg ∧ l ≤ v.toNatClampNeg ∧ v.toNatClampNeg ≤ h := by
  rcases in_c (v := v) l h hl hh hlh h31 with ⟨e, _⟩ | ⟨t, t1, t2, rfl, _⟩
  · exact absurd e (in_n0 hv)
  · rw [nI_clampN (by omega)]
    exact ⟨rfl, t1, t2⟩
/-- what the year's numbers say of the world -/
theorem yv_nF {w : Wd} (hR : RS w) (i : Nat) : w 155 1 = nI (yv w i).nF ∧ w 8 7 = nI (yv w i).nF ∧ (yv w i).nF ≤ 60 := by
  obtain ⟨-, n, n1, n2, n3, -⟩ := hR
  have e : (yv w i).nF = n := by
    show (w 155 1).toNatClampNeg = n
    rw [n3, nI_clampN (by omega)]
  rw [e]
  exact ⟨n3, n2, n1⟩
theorem yv_nS {w : Wd} (hR : RS w) : ∃ n, n ≤ 10 ∧ w 1 6 = nI n ∧ w 155 0 = nI n ∧ (w 155 0).toNatClampNeg = n ∧ ∀ j, j < n → w 2 j = w 156 j ∧ w 3 j = w 157 j ∧ w 4 j = w 158 j ∧ w 5 j = w 159 j ∧ w 6 j = w 160 j ∧ w 7 j = w 161 j ∧ Sok (w 156 j) (w 157 j) (w 158 j) (w 159 j) (w 160 j) (w 161 j) := by
  obtain ⟨⟨n, n1, n2, n3, n4⟩, -⟩ := hR
  exact ⟨n, n1, n2, n3, by rw [n3, nI_clampN (by omega)], n4⟩
theorem yv_feast {w : Wd} (hR : RS w) {i f : Nat} (hi : i < 300) (hf : f < (yv w i).nF) :
    (dI (nI (1900 + i)) (w 162 f) (w 163 f) = oO ((yv w i).own f) ∧ ∀ o, (yv w i).own f = some o → o < (yv w i).N) ∧ (w 164 f = nI ((yv w i).rk f) ∧ 1 ≤ (yv w i).rk f ∧ (yv w i).rk f ≤ 9) ∧ (w 167 f = nI ((yv w i).F f).oc ∧ ((yv w i).F f).oc ≤ 8) ∧ (w 166 f = nI ((yv w i).wy f) ∧ (yv w i).wy f ≤ 2) ∧ (w 168 f = 0 ↔ ¬ ((yv w i).F f).vg = true) ∧ w 165 f = (yv w i).co f ∧ f_Md_isTold (w 162 f) (w 163 f) = 1 ∧ (w 9 f = w 162 f ∧ w 10 f = w 163 f ∧ w 11 f = w 164 f ∧ w 12 f = w 165 f ∧ w 13 f = w 166 f ∧ w 14 f = w 167 f ∧ w 15 f = w 168 f) := by
  have hnF := yv_nF hR i
  obtain ⟨-, n, n1, n2, n3, n4, -⟩ := hR
  have e : (yv w i).nF = n := (nI_eq (by omega) (by omega)).mp (hnF.1.symm.trans n3)
  obtain ⟨a1, a2, a3, a4, a5, a6, a7, b1, b2, b3, b4, b5, b6⟩ := n4 f (by omega)
  have N2 := (yrN_is i).2.2
  obtain ⟨o1, o2⟩ := oT_oO (n := yrN i) (by omega) (dI_range hi b1)
  obtain ⟨r1, r2, r3⟩ := in_nat 1 9 rfl rfl (by omega) (by omega) b2
  obtain ⟨y1, y2, y3⟩ := in_nat 0 2 rfl rfl (by omega) (by omega) b4
  obtain ⟨v1, v2, v3⟩ := in_nat 0 8 rfl rfl (by omega) (by omega) b5
  refine ⟨⟨o1.symm, o2⟩, ⟨r1, r2, r3⟩, ⟨v1, v3⟩, ⟨y1, y3⟩, ?_, rfl, b1, a1, a2, a3, a4, a5, a6, a7⟩
  show w 168 f = 0 ↔ ¬ decide (¬ w 168 f = 0) = true
  rw [decide_eq_true_iff]
  exact ⟨fun q z => z q, fun q => by
    by_cases z : w 168 f = 0
    · exact z
    · exact absurd z q⟩
theorem yv_S {w : Wd} (hR : RS w) (i d : Nat) : (yv w i).so d = -1 ∨ ∃ k n, w 155 0 = nI n ∧ n ≤ 10 ∧ k < n ∧ (yv w i).so d = nI k := by
  obtain ⟨n, n1, n2, n3, n4, n5⟩ := yv_nS hR
  show yrS w i d = -1 ∨ ∃ k n, w 155 0 = nI n ∧ n ≤ 10 ∧ k < n ∧ yrS w i d = nI k
  unfold yrS
  rw [n4]
  rcases lastS_c (fun k => pIn w i k d) n with q | ⟨k, a, _, b⟩
  · exact Or.inl q
  · exact Or.inr ⟨k, n, n3, n1, a, b⟩
theorem yv_rank {w : Wd} (hR : RS w) {i d : Nat} (hi : i < 300) : f_Sea_rankOf w ((yv w i).so d) (nI ((yv w i).wd d)) = nI ((yv w i).wr d) ∧ (yv w i).wr d ≤ 9 ∧ ((yv w i).wd d = 0 → 1 ≤ (yv w i).wr d) := by
  obtain ⟨n, n1, n2, n3, n4, n5⟩ := yv_nS hR
  have hS : (yv w i).so d = -1 ∨ ∃ k, k < n ∧ (yv w i).so d = nI k := by
    rcases yv_S hR i d with q | ⟨k, n', a, b, c, e⟩
    · exact Or.inl q
    · have : n' = n := (nI_eq (by omega) (by omega)).mp (a.symm.trans n3)
      exact Or.inr ⟨k, by omega, e⟩
  have hw : (yv w i).wd d < 7 := Nat.mod_lt _ (by omega)
  obtain ⟨r, r1, r2⟩ := wk_rank (wd := (yv w i).wd d) n1 hw n5 hS
  have er : (yv w i).wr d = r := by
    show (f_Sea_rankOf w ((yv w i).so d) (nI ((yv w i).wd d))).toNatClampNeg = r
    rw [r2, nI_clampN (by omega)]
  rw [er]
  refine ⟨r2, r1, fun h0 => ?_⟩
  rcases Nat.eq_zero_or_pos r with q | q
  · exfalso
    subst q
    unfold f_Sea_rankOf at r2
    rw [h0] at r2
    rcases hS with z | ⟨k, hk, z⟩
    · rw [z, if_pos rfl, if_pos (show nI 0 = (0 : Int32) from rfl)] at r2
      revert r2; decide
    · obtain ⟨-, -, -, s5, -, -, ok⟩ := n5 k hk
      rw [z, if_neg (m1_ne (by omega)), if_pos (show nI 0 = (0 : Int32) from rfl), f_at_in (by omega) (by omega), s5] at r2
      have := ok.2.2.1
      rw [r2] at this
      revert this; decide
  · exact q
theorem yv_ok {w : Wd} (hR : RS w) {i : Nat} (hi : i < 300) : Yok (yv w i) := by
  refine ⟨(yrW_is hi).2, (yrN_is i).2.1, (yrN_is i).2.2, (yv_nF hR i).2.2, fun f hf => ?_, fun d _ => (yv_rank hR hi).2⟩
  obtain ⟨a, b, c, d, -⟩ := yv_feast hR hi hf
  exact ⟨a.2, b.2.2, c.2, d.2⟩
