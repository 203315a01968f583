/-! Methods without loops: values and worlds -/
def f_Bk_within (a0 : Int32) (a1 : Int32) (a2 : Int32) : Int32 := if a0 < a1 then 0 else if a2 < a0 then 0 else 1
theorem sg_Bk_within_0 {zs : List Int32} {a0 a1 a2 : Int32} {w : Wd} {Q : Option AV → Wd → Prop} (h : ((a0 < a1 → Q (some (.inl 0)) w) ∧ (¬ (a0 < a1) → ((a2 < a0 → Q (some (.inl 0)) w) ∧ (¬ (a2 < a0) → Q (some (.inl 1)) w))))) : Gw zs 0 m_Bk_within 0 [some (.inl a0), some (.inl a1), some (.inl a2)] [] w Q := by
  refine gw_iload_n k_Bk_within f_Bk_within_0 rfl ?_
  refine gw_iload_n k_Bk_within f_Bk_within_1 rfl ?_
  refine gw_icmp_lt (t := 14) k_Bk_within f_Bk_within_2 rfl (fun c1 => ?_) (fun c1 => ?_)
  · have h := h.1 c1
    refine gw_iconst k_Bk_within f_Bk_within_14 qc_0 ?_
    exact gw_zret k_Bk_within f_Bk_within_15 rfl (Or.inl rfl) h
  · have h := h.2 c1
    refine gw_iload_n k_Bk_within f_Bk_within_5 rfl ?_
    refine gw_iload_n k_Bk_within f_Bk_within_6 rfl ?_
    refine gw_icmp_gt (t := 14) k_Bk_within f_Bk_within_7 rfl (fun c2 => ?_) (fun c2 => ?_)
    · have h := h.1 c2
      refine gw_iconst k_Bk_within f_Bk_within_14 qc_0 ?_
      exact gw_zret k_Bk_within f_Bk_within_15 rfl (Or.inl rfl) h
    · have h := h.2 c2
      refine gw_iconst k_Bk_within f_Bk_within_10 qc_1 ?_
      refine gw_goto (t := 15) k_Bk_within f_Bk_within_11 rfl ?_
      exact gw_zret k_Bk_within f_Bk_within_15 rfl (Or.inr rfl) h
theorem ev_Bk_within {zs : List Int32} {a0 a1 a2 : Int32} {w : Wd} {Q : Option AV → Wd → Prop} (h : Q (some (.inl (f_Bk_within a0 a1 a2))) w) : Ew zs 0 m_Bk_within [.inl a0, .inl a1, .inl a2] w Q := by
  refine ew_of k_Bk_within rfl (sg_Bk_within_0 ?_)
  refine ⟨fun c1 => ?_, fun c1 => ?_⟩
  ·
    rw [show f_Bk_within a0 a1 a2 = 0 from by unfold f_Bk_within; rw [if_pos c1]] at h
    exact h
  ·
    refine ⟨fun c2 => ?_, fun c2 => ?_⟩
    ·
      rw [show f_Bk_within a0 a1 a2 = 0 from by unfold f_Bk_within; rw [if_neg c1, if_pos c2]] at h
      exact h
    ·
      rw [show f_Bk_within a0 a1 a2 = 1 from by unfold f_Bk_within; rw [if_neg c1, if_neg c2]] at h
      exact h
theorem fb_Bk_within {a0 : Int32} {a1 : Int32} {a2 : Int32} : f_Bk_within a0 a1 a2 = 0 ∨ f_Bk_within a0 a1 a2 = 1 := by
  unfold f_Bk_within
  exact (if01 (Or.inl rfl) (if01 (Or.inl rfl) (Or.inr rfl)))
def f_Day_isYear (a0 : Int32) : Int32 := (f_Bk_within a0 1900 2199)
theorem sg_Day_isYear_0 {zs : List Int32} {a0 : Int32} {w : Wd} {Q : Option AV → Wd → Prop} (h : Q (some (.inl (f_Bk_within a0 1900 2199))) w) : Gw zs 1 m_Day_isYear 0 [some (.inl a0)] [] w Q := by
  refine gw_iload_n k_Day_isYear f_Day_isYear_0 rfl ?_
  refine gw_sipush k_Day_isYear f_Day_isYear_1 qs_1900 ?_
  refine gw_sipush k_Day_isYear f_Day_isYear_4 qs_2199 ?_
  refine gw_static [.inl a0, .inl 1900, .inl 2199] k_Day_isYear f_Day_isYear_7 l_invT_3_9 (by decide) k_Bk_within rfl (by exact Nat.le_of_ble_eq_true rfl) (dc := 0) (by decide) ?_ rfl
  refine ev_Bk_within ?_
  show Gw zs 1 m_Day_isYear 10 [some (.inl a0)] [.inl (f_Bk_within a0 1900 2199)] w _
  exact gw_zret k_Day_isYear f_Day_isYear_10 rfl (fb_Bk_within ..) h
theorem ev_Day_isYear {zs : List Int32} {a0 : Int32} {w : Wd} {Q : Option AV → Wd → Prop} (h : Q (some (.inl (f_Day_isYear a0))) w) : Ew zs 1 m_Day_isYear [.inl a0] w Q := by
  refine ew_of k_Day_isYear rfl (sg_Day_isYear_0 ?_)
  rw [show f_Day_isYear a0 = (f_Bk_within a0 1900 2199) from by unfold f_Day_isYear; rfl] at h
  exact h
theorem fb_Day_isYear {a0 : Int32} : f_Day_isYear a0 = 0 ∨ f_Day_isYear a0 = 1 := by
  unfold f_Day_isYear
  exact (fb_Bk_within ..)
def f_Day_isLeap (a0 : Int32) : Int32 := if (a0 - a0 / 4 * 4) = 0 then if (a0 - a0 / 100 * 100) = 0 then if (a0 - a0 / 400 * 400) = 0 then 1 else 0 else 1 else 0
theorem sg_Day_isLeap_0 {zs : List Int32} {a0 : Int32} {w : Wd} {Q : Option AV → Wd → Prop} (h : (((a0 - a0 / 4 * 4) = 0 → (((a0 - a0 / 100 * 100) = 0 → (((a0 - a0 / 400 * 400) = 0 → Q (some (.inl 1)) w) ∧ (¬ ((a0 - a0 / 400 * 400) = 0) → Q (some (.inl 0)) w))) ∧ (¬ ((a0 - a0 / 100 * 100) = 0) → Q (some (.inl 1)) w))) ∧ (¬ ((a0 - a0 / 4 * 4) = 0) → Q (some (.inl 0)) w))) : Gw zs 0 m_Day_isLeap 0 [some (.inl a0)] [] w Q := by
  refine gw_iload_n k_Day_isLeap f_Day_isLeap_0 rfl ?_
  refine gw_iconst k_Day_isLeap f_Day_isLeap_1 qc_4 ?_
  refine gw_irem k_Day_isLeap f_Day_isLeap_2 (by decide) ?_
  refine gw_if_ne (t := 25) k_Day_isLeap f_Day_isLeap_3 rfl (fun c1 => ?_) (fun c1 => ?_)
  · have h := h.2 c1
    refine gw_iconst k_Day_isLeap f_Day_isLeap_25 qc_0 ?_
    exact gw_zret k_Day_isLeap f_Day_isLeap_26 rfl (Or.inl rfl) h
  · have c1 := Decidable.not_not.mp c1
    have h := h.1 c1
    refine gw_iload_n k_Day_isLeap f_Day_isLeap_6 rfl ?_
    refine gw_bipush k_Day_isLeap f_Day_isLeap_7 qb_100 ?_
    refine gw_irem k_Day_isLeap f_Day_isLeap_9 (by decide) ?_
    refine gw_if_ne (t := 21) k_Day_isLeap f_Day_isLeap_10 rfl (fun c2 => ?_) (fun c2 => ?_)
    · have h := h.2 c2
      refine gw_iconst k_Day_isLeap f_Day_isLeap_21 qc_1 ?_
      refine gw_goto (t := 26) k_Day_isLeap f_Day_isLeap_22 rfl ?_
      exact gw_zret k_Day_isLeap f_Day_isLeap_26 rfl (Or.inr rfl) h
    · have c2 := Decidable.not_not.mp c2
      have h := h.1 c2
      refine gw_iload_n k_Day_isLeap f_Day_isLeap_13 rfl ?_
      refine gw_sipush k_Day_isLeap f_Day_isLeap_14 qs_400 ?_
      refine gw_irem k_Day_isLeap f_Day_isLeap_17 (by decide) ?_
      refine gw_if_ne (t := 25) k_Day_isLeap f_Day_isLeap_18 rfl (fun c3 => ?_) (fun c3 => ?_)
      · have h := h.2 c3
        refine gw_iconst k_Day_isLeap f_Day_isLeap_25 qc_0 ?_
        exact gw_zret k_Day_isLeap f_Day_isLeap_26 rfl (Or.inl rfl) h
      · have c3 := Decidable.not_not.mp c3
        have h := h.1 c3
        refine gw_iconst k_Day_isLeap f_Day_isLeap_21 qc_1 ?_
        refine gw_goto (t := 26) k_Day_isLeap f_Day_isLeap_22 rfl ?_
        exact gw_zret k_Day_isLeap f_Day_isLeap_26 rfl (Or.inr rfl) h
theorem ev_Day_isLeap {zs : List Int32} {a0 : Int32} {w : Wd} {Q : Option AV → Wd → Prop} (h : Q (some (.inl (f_Day_isLeap a0))) w) : Ew zs 0 m_Day_isLeap [.inl a0] w Q := by
  refine ew_of k_Day_isLeap rfl (sg_Day_isLeap_0 ?_)
  refine ⟨fun c1 => ?_, fun c1 => ?_⟩
  ·
    refine ⟨fun c2 => ?_, fun c2 => ?_⟩
    ·
      refine ⟨fun c3 => ?_, fun c3 => ?_⟩
      ·
        rw [show f_Day_isLeap a0 = 1 from by unfold f_Day_isLeap; rw [if_pos c1, if_pos c2, if_pos c3]] at h
        exact h
      ·
        rw [show f_Day_isLeap a0 = 0 from by unfold f_Day_isLeap; rw [if_pos c1, if_pos c2, if_neg c3]] at h
        exact h
    ·
      rw [show f_Day_isLeap a0 = 1 from by unfold f_Day_isLeap; rw [if_pos c1, if_neg c2]] at h
      exact h
  ·
    rw [show f_Day_isLeap a0 = 0 from by unfold f_Day_isLeap; rw [if_neg c1]] at h
    exact h
theorem fb_Day_isLeap {a0 : Int32} : f_Day_isLeap a0 = 0 ∨ f_Day_isLeap a0 = 1 := by
  unfold f_Day_isLeap
  exact (if01 (if01 (if01 (Or.inr rfl) (Or.inl rfl)) (Or.inr rfl)) (Or.inl rfl))
def f_Day_lengthOf (a0 : Int32) : Int32 := if (f_Day_isLeap a0) = 0 then 365 else 366
theorem sg_Day_lengthOf_0 {zs : List Int32} {a0 : Int32} {w : Wd} {Q : Option AV → Wd → Prop} (h : (((f_Day_isLeap a0) = 0 → Q (some (.inl 365)) w) ∧ (¬ ((f_Day_isLeap a0) = 0) → Q (some (.inl 366)) w))) : Gw zs 1 m_Day_lengthOf 0 [some (.inl a0)] [] w Q := by
  refine gw_iload_n k_Day_lengthOf f_Day_lengthOf_0 rfl ?_
  refine gw_static [.inl a0] k_Day_lengthOf f_Day_lengthOf_1 l_invT_3_13 (by decide) k_Day_isLeap rfl (by exact Nat.le_of_ble_eq_true rfl) (dc := 0) (by decide) ?_ rfl
  refine ev_Day_isLeap ?_
  show Gw zs 1 m_Day_lengthOf 4 [some (.inl a0)] [.inl (f_Day_isLeap a0)] w _
  refine gw_if_eq (t := 13) k_Day_lengthOf f_Day_lengthOf_4 rfl (fun c1 => ?_) (fun c1 => ?_)
  · have h := h.1 c1
    refine gw_sipush k_Day_lengthOf f_Day_lengthOf_13 qs_365 ?_
    exact gw_iret k_Day_lengthOf f_Day_lengthOf_16 rfl h
  · have h := h.2 c1
    refine gw_sipush k_Day_lengthOf f_Day_lengthOf_7 qs_366 ?_
    refine gw_goto (t := 16) k_Day_lengthOf f_Day_lengthOf_10 rfl ?_
    exact gw_iret k_Day_lengthOf f_Day_lengthOf_16 rfl h
theorem ev_Day_lengthOf {zs : List Int32} {a0 : Int32} {w : Wd} {Q : Option AV → Wd → Prop} (h : Q (some (.inl (f_Day_lengthOf a0))) w) : Ew zs 1 m_Day_lengthOf [.inl a0] w Q := by
  refine ew_of k_Day_lengthOf rfl (sg_Day_lengthOf_0 ?_)
  refine ⟨fun c1 => ?_, fun c1 => ?_⟩
  ·
    rw [show f_Day_lengthOf a0 = 365 from by unfold f_Day_lengthOf; rw [if_pos c1]] at h
    exact h
  ·
    rw [show f_Day_lengthOf a0 = 366 from by unfold f_Day_lengthOf; rw [if_neg c1]] at h
    exact h
def f_Day_firstWeekday (a0 : Int32) : Int32 := ((((a0 + ((a0 - 1) / 4)) - ((a0 - 1) / 100)) + ((a0 - 1) / 400)) - (((a0 + ((a0 - 1) / 4)) - ((a0 - 1) / 100)) + ((a0 - 1) / 400)) / 7 * 7)
theorem sg_Day_firstWeekday_0 {zs : List Int32} {a0 : Int32} {w : Wd} {Q : Option AV → Wd → Prop} (h : Q (some (.inl ((((a0 + ((a0 - 1) / 4)) - ((a0 - 1) / 100)) + ((a0 - 1) / 400)) - (((a0 + ((a0 - 1) / 4)) - ((a0 - 1) / 100)) + ((a0 - 1) / 400)) / 7 * 7))) w) : Gw zs 0 m_Day_firstWeekday 0 [some (.inl a0), none] [] w Q := by
  refine gw_iload_n k_Day_firstWeekday f_Day_firstWeekday_0 rfl ?_
  refine gw_iconst k_Day_firstWeekday f_Day_firstWeekday_1 qc_1 ?_
  refine gw_isub k_Day_firstWeekday f_Day_firstWeekday_2 ?_
  refine gw_istore_n [some (.inl a0), some (.inl (a0 - 1))] k_Day_firstWeekday f_Day_firstWeekday_3 (Nat.le_of_ble_eq_true rfl) rfl ?_
  refine gw_iload_n k_Day_firstWeekday f_Day_firstWeekday_4 rfl ?_
  refine gw_iload_n k_Day_firstWeekday f_Day_firstWeekday_5 rfl ?_
  refine gw_iconst k_Day_firstWeekday f_Day_firstWeekday_6 qc_4 ?_
  refine gw_idiv k_Day_firstWeekday f_Day_firstWeekday_7 (by decide) ?_
  refine gw_iadd k_Day_firstWeekday f_Day_firstWeekday_8 ?_
  refine gw_iload_n k_Day_firstWeekday f_Day_firstWeekday_9 rfl ?_
  refine gw_bipush k_Day_firstWeekday f_Day_firstWeekday_10 qb_100 ?_
  refine gw_idiv k_Day_firstWeekday f_Day_firstWeekday_12 (by decide) ?_
  refine gw_isub k_Day_firstWeekday f_Day_firstWeekday_13 ?_
  refine gw_iload_n k_Day_firstWeekday f_Day_firstWeekday_14 rfl ?_
  refine gw_sipush k_Day_firstWeekday f_Day_firstWeekday_15 qs_400 ?_
  refine gw_idiv k_Day_firstWeekday f_Day_firstWeekday_18 (by decide) ?_
  refine gw_iadd k_Day_firstWeekday f_Day_firstWeekday_19 ?_
  refine gw_bipush k_Day_firstWeekday f_Day_firstWeekday_20 qb_7 ?_
  refine gw_irem k_Day_firstWeekday f_Day_firstWeekday_22 (by decide) ?_
  exact gw_iret k_Day_firstWeekday f_Day_firstWeekday_23 rfl h
theorem ev_Day_firstWeekday {zs : List Int32} {a0 : Int32} {w : Wd} {Q : Option AV → Wd → Prop} (h : Q (some (.inl (f_Day_firstWeekday a0))) w) : Ew zs 0 m_Day_firstWeekday [.inl a0] w Q := by
  refine ew_of k_Day_firstWeekday rfl (sg_Day_firstWeekday_0 ?_)
  rw [show f_Day_firstWeekday a0 = ((((a0 + ((a0 - 1) / 4)) - ((a0 - 1) / 100)) + ((a0 - 1) / 400)) - (((a0 + ((a0 - 1) / 4)) - ((a0 - 1) / 100)) + ((a0 - 1) / 400)) / 7 * 7) from by unfold f_Day_firstWeekday; rfl] at h
  exact h
def f_Day_firstOfMonth (a0 : Int32) (a1 : Int32) : Int32 := if a1 ≤ 2 then ((f_atR MS (a1 - 1)) + 0) else if (f_Day_isLeap a0) = 0 then ((f_atR MS (a1 - 1)) + 0) else ((f_atR MS (a1 - 1)) + 1)
theorem sg_Day_firstOfMonth_0 {zs : List Int32} {a0 a1 : Int32} {w : Wd} {Q : Option AV → Wd → Prop} (h : ((a1 ≤ 2 → Q (some (.inl ((f_atR MS (a1 - 1)) + 0))) w) ∧ (¬ (a1 ≤ 2) → (((f_Day_isLeap a0) = 0 → Q (some (.inl ((f_atR MS (a1 - 1)) + 0))) w) ∧ (¬ ((f_Day_isLeap a0) = 0) → Q (some (.inl ((f_atR MS (a1 - 1)) + 1))) w))))) : Gw zs 1 m_Day_firstOfMonth 0 [some (.inl a0), some (.inl a1)] [] w Q := by
  refine gw_gets k_Day_firstOfMonth f_Day_firstOfMonth_0 l_gsT_3_31 ?_
  refine gw_iload_n k_Day_firstOfMonth f_Day_firstOfMonth_3 rfl ?_
  refine gw_iconst k_Day_firstOfMonth f_Day_firstOfMonth_4 qc_1 ?_
  refine gw_isub k_Day_firstOfMonth f_Day_firstOfMonth_5 ?_
  refine gw_static [.inr (.inr 2), .inl (a1 - 1)] k_Day_firstOfMonth f_Day_firstOfMonth_6 l_invT_3_27 (by decide) k_Bk_at rfl (by exact Nat.le_of_ble_eq_true rfl) (dc := 0) (by decide) ?_ rfl
  refine ev_atR 2 rfl (by decide) ?_
  show Gw zs 1 m_Day_firstOfMonth 9 [some (.inl a0), some (.inl a1)] [.inl (f_atR MS (a1 - 1))] w _
  refine gw_iload_n k_Day_firstOfMonth f_Day_firstOfMonth_9 rfl ?_
  refine gw_iconst k_Day_firstOfMonth f_Day_firstOfMonth_10 qc_2 ?_
  refine gw_icmp_le (t := 25) k_Day_firstOfMonth f_Day_firstOfMonth_11 rfl (fun c1 => ?_) (fun c1 => ?_)
  · have h := h.1 c1
    refine gw_iconst k_Day_firstOfMonth f_Day_firstOfMonth_25 qc_0 ?_
    refine gw_iadd k_Day_firstOfMonth f_Day_firstOfMonth_26 ?_
    exact gw_iret k_Day_firstOfMonth f_Day_firstOfMonth_27 rfl h
  · have h := h.2 c1
    refine gw_iload_n k_Day_firstOfMonth f_Day_firstOfMonth_14 rfl ?_
    refine gw_static [.inl a0] k_Day_firstOfMonth f_Day_firstOfMonth_15 l_invT_3_13 (by decide) k_Day_isLeap rfl (by exact Nat.le_of_ble_eq_true rfl) (dc := 0) (by decide) ?_ rfl
    refine ev_Day_isLeap ?_
    show Gw zs 1 m_Day_firstOfMonth 18 [some (.inl a0), some (.inl a1)] [.inl (f_Day_isLeap a0), .inl (f_atR MS (a1 - 1))] w _
    refine gw_if_eq (t := 25) k_Day_firstOfMonth f_Day_firstOfMonth_18 rfl (fun c2 => ?_) (fun c2 => ?_)
    · have h := h.1 c2
      refine gw_iconst k_Day_firstOfMonth f_Day_firstOfMonth_25 qc_0 ?_
      refine gw_iadd k_Day_firstOfMonth f_Day_firstOfMonth_26 ?_
      exact gw_iret k_Day_firstOfMonth f_Day_firstOfMonth_27 rfl h
    · have h := h.2 c2
      refine gw_iconst k_Day_firstOfMonth f_Day_firstOfMonth_21 qc_1 ?_
      refine gw_goto (t := 26) k_Day_firstOfMonth f_Day_firstOfMonth_22 rfl ?_
      refine gw_iadd k_Day_firstOfMonth f_Day_firstOfMonth_26 ?_
      exact gw_iret k_Day_firstOfMonth f_Day_firstOfMonth_27 rfl h
theorem ev_Day_firstOfMonth {zs : List Int32} {a0 a1 : Int32} {w : Wd} {Q : Option AV → Wd → Prop} (h : Q (some (.inl (f_Day_firstOfMonth a0 a1))) w) : Ew zs 1 m_Day_firstOfMonth [.inl a0, .inl a1] w Q := by
  refine ew_of k_Day_firstOfMonth rfl (sg_Day_firstOfMonth_0 ?_)
  refine ⟨fun c1 => ?_, fun c1 => ?_⟩
  ·
    rw [show f_Day_firstOfMonth a0 a1 = ((f_atR MS (a1 - 1)) + 0) from by unfold f_Day_firstOfMonth; rw [if_pos c1]] at h
    exact h
  ·
    refine ⟨fun c2 => ?_, fun c2 => ?_⟩
    ·
      rw [show f_Day_firstOfMonth a0 a1 = ((f_atR MS (a1 - 1)) + 0) from by unfold f_Day_firstOfMonth; rw [if_neg c1, if_pos c2]] at h
      exact h
    ·
      rw [show f_Day_firstOfMonth a0 a1 = ((f_atR MS (a1 - 1)) + 1) from by unfold f_Day_firstOfMonth; rw [if_neg c1, if_neg c2]] at h
      exact h
def f_Day_easter (a0 : Int32) : Int32 := ((f_Day_firstOfMonth a0 ((((((((((19 * (a0 - a0 / 19 * 19)) + (a0 / 100)) - ((a0 / 100) / 4)) - ((((a0 / 100) - (((a0 / 100) + 8) / 25)) + 1) / 3)) + 15) - (((((19 * (a0 - a0 / 19 * 19)) + (a0 / 100)) - ((a0 / 100) / 4)) - ((((a0 / 100) - (((a0 / 100) + 8) / 25)) + 1) / 3)) + 15) / 30 * 30) + (((((32 + (2 * ((a0 / 100) - (a0 / 100) / 4 * 4))) + (2 * ((a0 - a0 / 100 * 100) / 4))) - ((((((19 * (a0 - a0 / 19 * 19)) + (a0 / 100)) - ((a0 / 100) / 4)) - ((((a0 / 100) - (((a0 / 100) + 8) / 25)) + 1) / 3)) + 15) - (((((19 * (a0 - a0 / 19 * 19)) + (a0 / 100)) - ((a0 / 100) / 4)) - ((((a0 / 100) - (((a0 / 100) + 8) / 25)) + 1) / 3)) + 15) / 30 * 30)) - ((a0 - a0 / 100 * 100) - (a0 - a0 / 100 * 100) / 4 * 4)) - ((((32 + (2 * ((a0 / 100) - (a0 / 100) / 4 * 4))) + (2 * ((a0 - a0 / 100 * 100) / 4))) - ((((((19 * (a0 - a0 / 19 * 19)) + (a0 / 100)) - ((a0 / 100) / 4)) - ((((a0 / 100) - (((a0 / 100) + 8) / 25)) + 1) / 3)) + 15) - (((((19 * (a0 - a0 / 19 * 19)) + (a0 / 100)) - ((a0 / 100) / 4)) - ((((a0 / 100) - (((a0 / 100) + 8) / 25)) + 1) / 3)) + 15) / 30 * 30)) - ((a0 - a0 / 100 * 100) - (a0 - a0 / 100 * 100) / 4 * 4)) / 7 * 7)) - (7 * ((((a0 - a0 / 19 * 19) + (11 * ((((((19 * (a0 - a0 / 19 * 19)) + (a0 / 100)) - ((a0 / 100) / 4)) - ((((a0 / 100) - (((a0 / 100) + 8) / 25)) + 1) / 3)) + 15) - (((((19 * (a0 - a0 / 19 * 19)) + (a0 / 100)) - ((a0 / 100) / 4)) - ((((a0 / 100) - (((a0 / 100) + 8) / 25)) + 1) / 3)) + 15) / 30 * 30))) + (22 * (((((32 + (2 * ((a0 / 100) - (a0 / 100) / 4 * 4))) + (2 * ((a0 - a0 / 100 * 100) / 4))) - ((((((19 * (a0 - a0 / 19 * 19)) + (a0 / 100)) - ((a0 / 100) / 4)) - ((((a0 / 100) - (((a0 / 100) + 8) / 25)) + 1) / 3)) + 15) - (((((19 * (a0 - a0 / 19 * 19)) + (a0 / 100)) - ((a0 / 100) / 4)) - ((((a0 / 100) - (((a0 / 100) + 8) / 25)) + 1) / 3)) + 15) / 30 * 30)) - ((a0 - a0 / 100 * 100) - (a0 - a0 / 100 * 100) / 4 * 4)) - ((((32 + (2 * ((a0 / 100) - (a0 / 100) / 4 * 4))) + (2 * ((a0 - a0 / 100 * 100) / 4))) - ((((((19 * (a0 - a0 / 19 * 19)) + (a0 / 100)) - ((a0 / 100) / 4)) - ((((a0 / 100) - (((a0 / 100) + 8) / 25)) + 1) / 3)) + 15) - (((((19 * (a0 - a0 / 19 * 19)) + (a0 / 100)) - ((a0 / 100) / 4)) - ((((a0 / 100) - (((a0 / 100) + 8) / 25)) + 1) / 3)) + 15) / 30 * 30)) - ((a0 - a0 / 100 * 100) - (a0 - a0 / 100 * 100) / 4 * 4)) / 7 * 7))) / 451))) + 114) / 31)) + ((((((((((19 * (a0 - a0 / 19 * 19)) + (a0 / 100)) - ((a0 / 100) / 4)) - ((((a0 / 100) - (((a0 / 100) + 8) / 25)) + 1) / 3)) + 15) - (((((19 * (a0 - a0 / 19 * 19)) + (a0 / 100)) - ((a0 / 100) / 4)) - ((((a0 / 100) - (((a0 / 100) + 8) / 25)) + 1) / 3)) + 15) / 30 * 30) + (((((32 + (2 * ((a0 / 100) - (a0 / 100) / 4 * 4))) + (2 * ((a0 - a0 / 100 * 100) / 4))) - ((((((19 * (a0 - a0 / 19 * 19)) + (a0 / 100)) - ((a0 / 100) / 4)) - ((((a0 / 100) - (((a0 / 100) + 8) / 25)) + 1) / 3)) + 15) - (((((19 * (a0 - a0 / 19 * 19)) + (a0 / 100)) - ((a0 / 100) / 4)) - ((((a0 / 100) - (((a0 / 100) + 8) / 25)) + 1) / 3)) + 15) / 30 * 30)) - ((a0 - a0 / 100 * 100) - (a0 - a0 / 100 * 100) / 4 * 4)) - ((((32 + (2 * ((a0 / 100) - (a0 / 100) / 4 * 4))) + (2 * ((a0 - a0 / 100 * 100) / 4))) - ((((((19 * (a0 - a0 / 19 * 19)) + (a0 / 100)) - ((a0 / 100) / 4)) - ((((a0 / 100) - (((a0 / 100) + 8) / 25)) + 1) / 3)) + 15) - (((((19 * (a0 - a0 / 19 * 19)) + (a0 / 100)) - ((a0 / 100) / 4)) - ((((a0 / 100) - (((a0 / 100) + 8) / 25)) + 1) / 3)) + 15) / 30 * 30)) - ((a0 - a0 / 100 * 100) - (a0 - a0 / 100 * 100) / 4 * 4)) / 7 * 7)) - (7 * ((((a0 - a0 / 19 * 19) + (11 * ((((((19 * (a0 - a0 / 19 * 19)) + (a0 / 100)) - ((a0 / 100) / 4)) - ((((a0 / 100) - (((a0 / 100) + 8) / 25)) + 1) / 3)) + 15) - (((((19 * (a0 - a0 / 19 * 19)) + (a0 / 100)) - ((a0 / 100) / 4)) - ((((a0 / 100) - (((a0 / 100) + 8) / 25)) + 1) / 3)) + 15) / 30 * 30))) + (22 * (((((32 + (2 * ((a0 / 100) - (a0 / 100) / 4 * 4))) + (2 * ((a0 - a0 / 100 * 100) / 4))) - ((((((19 * (a0 - a0 / 19 * 19)) + (a0 / 100)) - ((a0 / 100) / 4)) - ((((a0 / 100) - (((a0 / 100) + 8) / 25)) + 1) / 3)) + 15) - (((((19 * (a0 - a0 / 19 * 19)) + (a0 / 100)) - ((a0 / 100) / 4)) - ((((a0 / 100) - (((a0 / 100) + 8) / 25)) + 1) / 3)) + 15) / 30 * 30)) - ((a0 - a0 / 100 * 100) - (a0 - a0 / 100 * 100) / 4 * 4)) - ((((32 + (2 * ((a0 / 100) - (a0 / 100) / 4 * 4))) + (2 * ((a0 - a0 / 100 * 100) / 4))) - ((((((19 * (a0 - a0 / 19 * 19)) + (a0 / 100)) - ((a0 / 100) / 4)) - ((((a0 / 100) - (((a0 / 100) + 8) / 25)) + 1) / 3)) + 15) - (((((19 * (a0 - a0 / 19 * 19)) + (a0 / 100)) - ((a0 / 100) / 4)) - ((((a0 / 100) - (((a0 / 100) + 8) / 25)) + 1) / 3)) + 15) / 30 * 30)) - ((a0 - a0 / 100 * 100) - (a0 - a0 / 100 * 100) / 4 * 4)) / 7 * 7))) / 451))) + 114) - (((((((((19 * (a0 - a0 / 19 * 19)) + (a0 / 100)) - ((a0 / 100) / 4)) - ((((a0 / 100) - (((a0 / 100) + 8) / 25)) + 1) / 3)) + 15) - (((((19 * (a0 - a0 / 19 * 19)) + (a0 / 100)) - ((a0 / 100) / 4)) - ((((a0 / 100) - (((a0 / 100) + 8) / 25)) + 1) / 3)) + 15) / 30 * 30) + (((((32 + (2 * ((a0 / 100) - (a0 / 100) / 4 * 4))) + (2 * ((a0 - a0 / 100 * 100) / 4))) - ((((((19 * (a0 - a0 / 19 * 19)) + (a0 / 100)) - ((a0 / 100) / 4)) - ((((a0 / 100) - (((a0 / 100) + 8) / 25)) + 1) / 3)) + 15) - (((((19 * (a0 - a0 / 19 * 19)) + (a0 / 100)) - ((a0 / 100) / 4)) - ((((a0 / 100) - (((a0 / 100) + 8) / 25)) + 1) / 3)) + 15) / 30 * 30)) - ((a0 - a0 / 100 * 100) - (a0 - a0 / 100 * 100) / 4 * 4)) - ((((32 + (2 * ((a0 / 100) - (a0 / 100) / 4 * 4))) + (2 * ((a0 - a0 / 100 * 100) / 4))) - ((((((19 * (a0 - a0 / 19 * 19)) + (a0 / 100)) - ((a0 / 100) / 4)) - ((((a0 / 100) - (((a0 / 100) + 8) / 25)) + 1) / 3)) + 15) - (((((19 * (a0 - a0 / 19 * 19)) + (a0 / 100)) - ((a0 / 100) / 4)) - ((((a0 / 100) - (((a0 / 100) + 8) / 25)) + 1) / 3)) + 15) / 30 * 30)) - ((a0 - a0 / 100 * 100) - (a0 - a0 / 100 * 100) / 4 * 4)) / 7 * 7)) - (7 * ((((a0 - a0 / 19 * 19) + (11 * ((((((19 * (a0 - a0 / 19 * 19)) + (a0 / 100)) - ((a0 / 100) / 4)) - ((((a0 / 100) - (((a0 / 100) + 8) / 25)) + 1) / 3)) + 15) - (((((19 * (a0 - a0 / 19 * 19)) + (a0 / 100)) - ((a0 / 100) / 4)) - ((((a0 / 100) - (((a0 / 100) + 8) / 25)) + 1) / 3)) + 15) / 30 * 30))) + (22 * (((((32 + (2 * ((a0 / 100) - (a0 / 100) / 4 * 4))) + (2 * ((a0 - a0 / 100 * 100) / 4))) - ((((((19 * (a0 - a0 / 19 * 19)) + (a0 / 100)) - ((a0 / 100) / 4)) - ((((a0 / 100) - (((a0 / 100) + 8) / 25)) + 1) / 3)) + 15) - (((((19 * (a0 - a0 / 19 * 19)) + (a0 / 100)) - ((a0 / 100) / 4)) - ((((a0 / 100) - (((a0 / 100) + 8) / 25)) + 1) / 3)) + 15) / 30 * 30)) - ((a0 - a0 / 100 * 100) - (a0 - a0 / 100 * 100) / 4 * 4)) - ((((32 + (2 * ((a0 / 100) - (a0 / 100) / 4 * 4))) + (2 * ((a0 - a0 / 100 * 100) / 4))) - ((((((19 * (a0 - a0 / 19 * 19)) + (a0 / 100)) - ((a0 / 100) / 4)) - ((((a0 / 100) - (((a0 / 100) + 8) / 25)) + 1) / 3)) + 15) - (((((19 * (a0 - a0 / 19 * 19)) + (a0 / 100)) - ((a0 / 100) / 4)) - ((((a0 / 100) - (((a0 / 100) + 8) / 25)) + 1) / 3)) + 15) / 30 * 30)) - ((a0 - a0 / 100 * 100) - (a0 - a0 / 100 * 100) / 4 * 4)) / 7 * 7))) / 451))) + 114) / 31 * 31))
theorem sg_Day_easter_0 {zs : List Int32} {a0 : Int32} {w : Wd} {Q : Option AV → Wd → Prop} (h : Q (some (.inl ((f_Day_firstOfMonth a0 ((((((((((19 * (a0 - a0 / 19 * 19)) + (a0 / 100)) - ((a0 / 100) / 4)) - ((((a0 / 100) - (((a0 / 100) + 8) / 25)) + 1) / 3)) + 15) - (((((19 * (a0 - a0 / 19 * 19)) + (a0 / 100)) - ((a0 / 100) / 4)) - ((((a0 / 100) - (((a0 / 100) + 8) / 25)) + 1) / 3)) + 15) / 30 * 30) + (((((32 + (2 * ((a0 / 100) - (a0 / 100) / 4 * 4))) + (2 * ((a0 - a0 / 100 * 100) / 4))) - ((((((19 * (a0 - a0 / 19 * 19)) + (a0 / 100)) - ((a0 / 100) / 4)) - ((((a0 / 100) - (((a0 / 100) + 8) / 25)) + 1) / 3)) + 15) - (((((19 * (a0 - a0 / 19 * 19)) + (a0 / 100)) - ((a0 / 100) / 4)) - ((((a0 / 100) - (((a0 / 100) + 8) / 25)) + 1) / 3)) + 15) / 30 * 30)) - ((a0 - a0 / 100 * 100) - (a0 - a0 / 100 * 100) / 4 * 4)) - ((((32 + (2 * ((a0 / 100) - (a0 / 100) / 4 * 4))) + (2 * ((a0 - a0 / 100 * 100) / 4))) - ((((((19 * (a0 - a0 / 19 * 19)) + (a0 / 100)) - ((a0 / 100) / 4)) - ((((a0 / 100) - (((a0 / 100) + 8) / 25)) + 1) / 3)) + 15) - (((((19 * (a0 - a0 / 19 * 19)) + (a0 / 100)) - ((a0 / 100) / 4)) - ((((a0 / 100) - (((a0 / 100) + 8) / 25)) + 1) / 3)) + 15) / 30 * 30)) - ((a0 - a0 / 100 * 100) - (a0 - a0 / 100 * 100) / 4 * 4)) / 7 * 7)) - (7 * ((((a0 - a0 / 19 * 19) + (11 * ((((((19 * (a0 - a0 / 19 * 19)) + (a0 / 100)) - ((a0 / 100) / 4)) - ((((a0 / 100) - (((a0 / 100) + 8) / 25)) + 1) / 3)) + 15) - (((((19 * (a0 - a0 / 19 * 19)) + (a0 / 100)) - ((a0 / 100) / 4)) - ((((a0 / 100) - (((a0 / 100) + 8) / 25)) + 1) / 3)) + 15) / 30 * 30))) + (22 * (((((32 + (2 * ((a0 / 100) - (a0 / 100) / 4 * 4))) + (2 * ((a0 - a0 / 100 * 100) / 4))) - ((((((19 * (a0 - a0 / 19 * 19)) + (a0 / 100)) - ((a0 / 100) / 4)) - ((((a0 / 100) - (((a0 / 100) + 8) / 25)) + 1) / 3)) + 15) - (((((19 * (a0 - a0 / 19 * 19)) + (a0 / 100)) - ((a0 / 100) / 4)) - ((((a0 / 100) - (((a0 / 100) + 8) / 25)) + 1) / 3)) + 15) / 30 * 30)) - ((a0 - a0 / 100 * 100) - (a0 - a0 / 100 * 100) / 4 * 4)) - ((((32 + (2 * ((a0 / 100) - (a0 / 100) / 4 * 4))) + (2 * ((a0 - a0 / 100 * 100) / 4))) - ((((((19 * (a0 - a0 / 19 * 19)) + (a0 / 100)) - ((a0 / 100) / 4)) - ((((a0 / 100) - (((a0 / 100) + 8) / 25)) + 1) / 3)) + 15) - (((((19 * (a0 - a0 / 19 * 19)) + (a0 / 100)) - ((a0 / 100) / 4)) - ((((a0 / 100) - (((a0 / 100) + 8) / 25)) + 1) / 3)) + 15) / 30 * 30)) - ((a0 - a0 / 100 * 100) - (a0 - a0 / 100 * 100) / 4 * 4)) / 7 * 7))) / 451))) + 114) / 31)) + ((((((((((19 * (a0 - a0 / 19 * 19)) + (a0 / 100)) - ((a0 / 100) / 4)) - ((((a0 / 100) - (((a0 / 100) + 8) / 25)) + 1) / 3)) + 15) - (((((19 * (a0 - a0 / 19 * 19)) + (a0 / 100)) - ((a0 / 100) / 4)) - ((((a0 / 100) - (((a0 / 100) + 8) / 25)) + 1) / 3)) + 15) / 30 * 30) + (((((32 + (2 * ((a0 / 100) - (a0 / 100) / 4 * 4))) + (2 * ((a0 - a0 / 100 * 100) / 4))) - ((((((19 * (a0 - a0 / 19 * 19)) + (a0 / 100)) - ((a0 / 100) / 4)) - ((((a0 / 100) - (((a0 / 100) + 8) / 25)) + 1) / 3)) + 15) - (((((19 * (a0 - a0 / 19 * 19)) + (a0 / 100)) - ((a0 / 100) / 4)) - ((((a0 / 100) - (((a0 / 100) + 8) / 25)) + 1) / 3)) + 15) / 30 * 30)) - ((a0 - a0 / 100 * 100) - (a0 - a0 / 100 * 100) / 4 * 4)) - ((((32 + (2 * ((a0 / 100) - (a0 / 100) / 4 * 4))) + (2 * ((a0 - a0 / 100 * 100) / 4))) - ((((((19 * (a0 - a0 / 19 * 19)) + (a0 / 100)) - ((a0 / 100) / 4)) - ((((a0 / 100) - (((a0 / 100) + 8) / 25)) + 1) / 3)) + 15) - (((((19 * (a0 - a0 / 19 * 19)) + (a0 / 100)) - ((a0 / 100) / 4)) - ((((a0 / 100) - (((a0 / 100) + 8) / 25)) + 1) / 3)) + 15) / 30 * 30)) - ((a0 - a0 / 100 * 100) - (a0 - a0 / 100 * 100) / 4 * 4)) / 7 * 7)) - (7 * ((((a0 - a0 / 19 * 19) + (11 * ((((((19 * (a0 - a0 / 19 * 19)) + (a0 / 100)) - ((a0 / 100) / 4)) - ((((a0 / 100) - (((a0 / 100) + 8) / 25)) + 1) / 3)) + 15) - (((((19 * (a0 - a0 / 19 * 19)) + (a0 / 100)) - ((a0 / 100) / 4)) - ((((a0 / 100) - (((a0 / 100) + 8) / 25)) + 1) / 3)) + 15) / 30 * 30))) + (22 * (((((32 + (2 * ((a0 / 100) - (a0 / 100) / 4 * 4))) + (2 * ((a0 - a0 / 100 * 100) / 4))) - ((((((19 * (a0 - a0 / 19 * 19)) + (a0 / 100)) - ((a0 / 100) / 4)) - ((((a0 / 100) - (((a0 / 100) + 8) / 25)) + 1) / 3)) + 15) - (((((19 * (a0 - a0 / 19 * 19)) + (a0 / 100)) - ((a0 / 100) / 4)) - ((((a0 / 100) - (((a0 / 100) + 8) / 25)) + 1) / 3)) + 15) / 30 * 30)) - ((a0 - a0 / 100 * 100) - (a0 - a0 / 100 * 100) / 4 * 4)) - ((((32 + (2 * ((a0 / 100) - (a0 / 100) / 4 * 4))) + (2 * ((a0 - a0 / 100 * 100) / 4))) - ((((((19 * (a0 - a0 / 19 * 19)) + (a0 / 100)) - ((a0 / 100) / 4)) - ((((a0 / 100) - (((a0 / 100) + 8) / 25)) + 1) / 3)) + 15) - (((((19 * (a0 - a0 / 19 * 19)) + (a0 / 100)) - ((a0 / 100) / 4)) - ((((a0 / 100) - (((a0 / 100) + 8) / 25)) + 1) / 3)) + 15) / 30 * 30)) - ((a0 - a0 / 100 * 100) - (a0 - a0 / 100 * 100) / 4 * 4)) / 7 * 7))) / 451))) + 114) - (((((((((19 * (a0 - a0 / 19 * 19)) + (a0 / 100)) - ((a0 / 100) / 4)) - ((((a0 / 100) - (((a0 / 100) + 8) / 25)) + 1) / 3)) + 15) - (((((19 * (a0 - a0 / 19 * 19)) + (a0 / 100)) - ((a0 / 100) / 4)) - ((((a0 / 100) - (((a0 / 100) + 8) / 25)) + 1) / 3)) + 15) / 30 * 30) + (((((32 + (2 * ((a0 / 100) - (a0 / 100) / 4 * 4))) + (2 * ((a0 - a0 / 100 * 100) / 4))) - ((((((19 * (a0 - a0 / 19 * 19)) + (a0 / 100)) - ((a0 / 100) / 4)) - ((((a0 / 100) - (((a0 / 100) + 8) / 25)) + 1) / 3)) + 15) - (((((19 * (a0 - a0 / 19 * 19)) + (a0 / 100)) - ((a0 / 100) / 4)) - ((((a0 / 100) - (((a0 / 100) + 8) / 25)) + 1) / 3)) + 15) / 30 * 30)) - ((a0 - a0 / 100 * 100) - (a0 - a0 / 100 * 100) / 4 * 4)) - ((((32 + (2 * ((a0 / 100) - (a0 / 100) / 4 * 4))) + (2 * ((a0 - a0 / 100 * 100) / 4))) - ((((((19 * (a0 - a0 / 19 * 19)) + (a0 / 100)) - ((a0 / 100) / 4)) - ((((a0 / 100) - (((a0 / 100) + 8) / 25)) + 1) / 3)) + 15) - (((((19 * (a0 - a0 / 19 * 19)) + (a0 / 100)) - ((a0 / 100) / 4)) - ((((a0 / 100) - (((a0 / 100) + 8) / 25)) + 1) / 3)) + 15) / 30 * 30)) - ((a0 - a0 / 100 * 100) - (a0 - a0 / 100 * 100) / 4 * 4)) / 7 * 7)) - (7 * ((((a0 - a0 / 19 * 19) + (11 * ((((((19 * (a0 - a0 / 19 * 19)) + (a0 / 100)) - ((a0 / 100) / 4)) - ((((a0 / 100) - (((a0 / 100) + 8) / 25)) + 1) / 3)) + 15) - (((((19 * (a0 - a0 / 19 * 19)) + (a0 / 100)) - ((a0 / 100) / 4)) - ((((a0 / 100) - (((a0 / 100) + 8) / 25)) + 1) / 3)) + 15) / 30 * 30))) + (22 * (((((32 + (2 * ((a0 / 100) - (a0 / 100) / 4 * 4))) + (2 * ((a0 - a0 / 100 * 100) / 4))) - ((((((19 * (a0 - a0 / 19 * 19)) + (a0 / 100)) - ((a0 / 100) / 4)) - ((((a0 / 100) - (((a0 / 100) + 8) / 25)) + 1) / 3)) + 15) - (((((19 * (a0 - a0 / 19 * 19)) + (a0 / 100)) - ((a0 / 100) / 4)) - ((((a0 / 100) - (((a0 / 100) + 8) / 25)) + 1) / 3)) + 15) / 30 * 30)) - ((a0 - a0 / 100 * 100) - (a0 - a0 / 100 * 100) / 4 * 4)) - ((((32 + (2 * ((a0 / 100) - (a0 / 100) / 4 * 4))) + (2 * ((a0 - a0 / 100 * 100) / 4))) - ((((((19 * (a0 - a0 / 19 * 19)) + (a0 / 100)) - ((a0 / 100) / 4)) - ((((a0 / 100) - (((a0 / 100) + 8) / 25)) + 1) / 3)) + 15) - (((((19 * (a0 - a0 / 19 * 19)) + (a0 / 100)) - ((a0 / 100) / 4)) - ((((a0 / 100) - (((a0 / 100) + 8) / 25)) + 1) / 3)) + 15) / 30 * 30)) - ((a0 - a0 / 100 * 100) - (a0 - a0 / 100 * 100) / 4 * 4)) / 7 * 7))) / 451))) + 114) / 31 * 31)))) w) : Gw zs 2 m_Day_easter 0 [some (.inl a0), none, none, none, none, none, none] [] w Q := by
  refine gw_iload_n k_Day_easter f_Day_easter_0 rfl ?_
  refine gw_bipush k_Day_easter f_Day_easter_1 qb_19 ?_
  refine gw_irem k_Day_easter f_Day_easter_3 (by decide) ?_
  refine gw_istore_n [some (.inl a0), some (.inl (a0 - a0 / 19 * 19)), none, none, none, none, none] k_Day_easter f_Day_easter_4 (Nat.le_of_ble_eq_true rfl) rfl ?_
  refine gw_iload_n k_Day_easter f_Day_easter_5 rfl ?_
  refine gw_bipush k_Day_easter f_Day_easter_6 qb_100 ?_
  refine gw_idiv k_Day_easter f_Day_easter_8 (by decide) ?_
  refine gw_istore_n [some (.inl a0), some (.inl (a0 - a0 / 19 * 19)), some (.inl (a0 / 100)), none, none, none, none] k_Day_easter f_Day_easter_9 (Nat.le_of_ble_eq_true rfl) rfl ?_
  refine gw_iload_n k_Day_easter f_Day_easter_10 rfl ?_
  refine gw_bipush k_Day_easter f_Day_easter_11 qb_100 ?_
  refine gw_irem k_Day_easter f_Day_easter_13 (by decide) ?_
  refine gw_istore_n [some (.inl a0), some (.inl (a0 - a0 / 19 * 19)), some (.inl (a0 / 100)), some (.inl (a0 - a0 / 100 * 100)), none, none, none] k_Day_easter f_Day_easter_14 (Nat.le_of_ble_eq_true rfl) rfl ?_
  refine gw_bipush k_Day_easter f_Day_easter_15 qb_19 ?_
  refine gw_iload_n k_Day_easter f_Day_easter_17 rfl ?_
  refine gw_imul k_Day_easter f_Day_easter_18 ?_
  refine gw_iload_n k_Day_easter f_Day_easter_19 rfl ?_
  refine gw_iadd k_Day_easter f_Day_easter_20 ?_
  refine gw_iload_n k_Day_easter f_Day_easter_21 rfl ?_
  refine gw_iconst k_Day_easter f_Day_easter_22 qc_4 ?_
  refine gw_idiv k_Day_easter f_Day_easter_23 (by decide) ?_
  refine gw_isub k_Day_easter f_Day_easter_24 ?_
  refine gw_iload_n k_Day_easter f_Day_easter_25 rfl ?_
  refine gw_iload_n k_Day_easter f_Day_easter_26 rfl ?_
  refine gw_bipush k_Day_easter f_Day_easter_27 qb_8 ?_
  refine gw_iadd k_Day_easter f_Day_easter_29 ?_
  refine gw_bipush k_Day_easter f_Day_easter_30 qb_25 ?_
  refine gw_idiv k_Day_easter f_Day_easter_32 (by decide) ?_
  refine gw_isub k_Day_easter f_Day_easter_33 ?_
  refine gw_iconst k_Day_easter f_Day_easter_34 qc_1 ?_
  refine gw_iadd k_Day_easter f_Day_easter_35 ?_
  refine gw_iconst k_Day_easter f_Day_easter_36 qc_3 ?_
  refine gw_idiv k_Day_easter f_Day_easter_37 (by decide) ?_
  refine gw_isub k_Day_easter f_Day_easter_38 ?_
  refine gw_bipush k_Day_easter f_Day_easter_39 qb_15 ?_
  refine gw_iadd k_Day_easter f_Day_easter_41 ?_
  refine gw_bipush k_Day_easter f_Day_easter_42 qb_30 ?_
  refine gw_irem k_Day_easter f_Day_easter_44 (by decide) ?_
  refine gw_istore [some (.inl a0), some (.inl (a0 - a0 / 19 * 19)), some (.inl (a0 / 100)), some (.inl (a0 - a0 / 100 * 100)), some (.inl ((((((19 * (a0 - a0 / 19 * 19)) + (a0 / 100)) - ((a0 / 100) / 4)) - ((((a0 / 100) - (((a0 / 100) + 8) / 25)) + 1) / 3)) + 15) - (((((19 * (a0 - a0 / 19 * 19)) + (a0 / 100)) - ((a0 / 100) / 4)) - ((((a0 / 100) - (((a0 / 100) + 8) / 25)) + 1) / 3)) + 15) / 30 * 30)), none, none] k_Day_easter f_Day_easter_45 (Nat.le_of_ble_eq_true rfl) rfl ?_
  refine gw_bipush k_Day_easter f_Day_easter_47 qb_32 ?_
  refine gw_iconst k_Day_easter f_Day_easter_49 qc_2 ?_
  refine gw_iload_n k_Day_easter f_Day_easter_50 rfl ?_
  refine gw_iconst k_Day_easter f_Day_easter_51 qc_4 ?_
  refine gw_irem k_Day_easter f_Day_easter_52 (by decide) ?_
  refine gw_imul k_Day_easter f_Day_easter_53 ?_
  refine gw_iadd k_Day_easter f_Day_easter_54 ?_
  refine gw_iconst k_Day_easter f_Day_easter_55 qc_2 ?_
  refine gw_iload_n k_Day_easter f_Day_easter_56 rfl ?_
  refine gw_iconst k_Day_easter f_Day_easter_57 qc_4 ?_
  refine gw_idiv k_Day_easter f_Day_easter_58 (by decide) ?_
  refine gw_imul k_Day_easter f_Day_easter_59 ?_
  refine gw_iadd k_Day_easter f_Day_easter_60 ?_
  refine gw_iload k_Day_easter f_Day_easter_61 rfl ?_
  refine gw_isub k_Day_easter f_Day_easter_63 ?_
  refine gw_iload_n k_Day_easter f_Day_easter_64 rfl ?_
  refine gw_iconst k_Day_easter f_Day_easter_65 qc_4 ?_
  refine gw_irem k_Day_easter f_Day_easter_66 (by decide) ?_
  refine gw_isub k_Day_easter f_Day_easter_67 ?_
  refine gw_bipush k_Day_easter f_Day_easter_68 qb_7 ?_
  refine gw_irem k_Day_easter f_Day_easter_70 (by decide) ?_
  refine gw_istore [some (.inl a0), some (.inl (a0 - a0 / 19 * 19)), some (.inl (a0 / 100)), some (.inl (a0 - a0 / 100 * 100)), some (.inl ((((((19 * (a0 - a0 / 19 * 19)) + (a0 / 100)) - ((a0 / 100) / 4)) - ((((a0 / 100) - (((a0 / 100) + 8) / 25)) + 1) / 3)) + 15) - (((((19 * (a0 - a0 / 19 * 19)) + (a0 / 100)) - ((a0 / 100) / 4)) - ((((a0 / 100) - (((a0 / 100) + 8) / 25)) + 1) / 3)) + 15) / 30 * 30)), some (.inl (((((32 + (2 * ((a0 / 100) - (a0 / 100) / 4 * 4))) + (2 * ((a0 - a0 / 100 * 100) / 4))) - ((((((19 * (a0 - a0 / 19 * 19)) + (a0 / 100)) - ((a0 / 100) / 4)) - ((((a0 / 100) - (((a0 / 100) + 8) / 25)) + 1) / 3)) + 15) - (((((19 * (a0 - a0 / 19 * 19)) + (a0 / 100)) - ((a0 / 100) / 4)) - ((((a0 / 100) - (((a0 / 100) + 8) / 25)) + 1) / 3)) + 15) / 30 * 30)) - ((a0 - a0 / 100 * 100) - (a0 - a0 / 100 * 100) / 4 * 4)) - ((((32 + (2 * ((a0 / 100) - (a0 / 100) / 4 * 4))) + (2 * ((a0 - a0 / 100 * 100) / 4))) - ((((((19 * (a0 - a0 / 19 * 19)) + (a0 / 100)) - ((a0 / 100) / 4)) - ((((a0 / 100) - (((a0 / 100) + 8) / 25)) + 1) / 3)) + 15) - (((((19 * (a0 - a0 / 19 * 19)) + (a0 / 100)) - ((a0 / 100) / 4)) - ((((a0 / 100) - (((a0 / 100) + 8) / 25)) + 1) / 3)) + 15) / 30 * 30)) - ((a0 - a0 / 100 * 100) - (a0 - a0 / 100 * 100) / 4 * 4)) / 7 * 7)), none] k_Day_easter f_Day_easter_71 (Nat.le_of_ble_eq_true rfl) rfl ?_
  refine gw_iload k_Day_easter f_Day_easter_73 rfl ?_
  refine gw_iload k_Day_easter f_Day_easter_75 rfl ?_
  refine gw_iadd k_Day_easter f_Day_easter_77 ?_
  refine gw_bipush k_Day_easter f_Day_easter_78 qb_7 ?_
  refine gw_iload_n k_Day_easter f_Day_easter_80 rfl ?_
  refine gw_bipush k_Day_easter f_Day_easter_81 qb_11 ?_
  refine gw_iload k_Day_easter f_Day_easter_83 rfl ?_
  refine gw_imul k_Day_easter f_Day_easter_85 ?_
  refine gw_iadd k_Day_easter f_Day_easter_86 ?_
  refine gw_bipush k_Day_easter f_Day_easter_87 qb_22 ?_
  refine gw_iload k_Day_easter f_Day_easter_89 rfl ?_
  refine gw_imul k_Day_easter f_Day_easter_91 ?_
  refine gw_iadd k_Day_easter f_Day_easter_92 ?_
  refine gw_sipush k_Day_easter f_Day_easter_93 qs_451 ?_
  refine gw_idiv k_Day_easter f_Day_easter_96 (by decide) ?_
  refine gw_imul k_Day_easter f_Day_easter_97 ?_
  refine gw_isub k_Day_easter f_Day_easter_98 ?_
  refine gw_bipush k_Day_easter f_Day_easter_99 qb_114 ?_
  refine gw_iadd k_Day_easter f_Day_easter_101 ?_
  refine gw_istore [some (.inl a0), some (.inl (a0 - a0 / 19 * 19)), some (.inl (a0 / 100)), some (.inl (a0 - a0 / 100 * 100)), some (.inl ((((((19 * (a0 - a0 / 19 * 19)) + (a0 / 100)) - ((a0 / 100) / 4)) - ((((a0 / 100) - (((a0 / 100) + 8) / 25)) + 1) / 3)) + 15) - (((((19 * (a0 - a0 / 19 * 19)) + (a0 / 100)) - ((a0 / 100) / 4)) - ((((a0 / 100) - (((a0 / 100) + 8) / 25)) + 1) / 3)) + 15) / 30 * 30)), some (.inl (((((32 + (2 * ((a0 / 100) - (a0 / 100) / 4 * 4))) + (2 * ((a0 - a0 / 100 * 100) / 4))) - ((((((19 * (a0 - a0 / 19 * 19)) + (a0 / 100)) - ((a0 / 100) / 4)) - ((((a0 / 100) - (((a0 / 100) + 8) / 25)) + 1) / 3)) + 15) - (((((19 * (a0 - a0 / 19 * 19)) + (a0 / 100)) - ((a0 / 100) / 4)) - ((((a0 / 100) - (((a0 / 100) + 8) / 25)) + 1) / 3)) + 15) / 30 * 30)) - ((a0 - a0 / 100 * 100) - (a0 - a0 / 100 * 100) / 4 * 4)) - ((((32 + (2 * ((a0 / 100) - (a0 / 100) / 4 * 4))) + (2 * ((a0 - a0 / 100 * 100) / 4))) - ((((((19 * (a0 - a0 / 19 * 19)) + (a0 / 100)) - ((a0 / 100) / 4)) - ((((a0 / 100) - (((a0 / 100) + 8) / 25)) + 1) / 3)) + 15) - (((((19 * (a0 - a0 / 19 * 19)) + (a0 / 100)) - ((a0 / 100) / 4)) - ((((a0 / 100) - (((a0 / 100) + 8) / 25)) + 1) / 3)) + 15) / 30 * 30)) - ((a0 - a0 / 100 * 100) - (a0 - a0 / 100 * 100) / 4 * 4)) / 7 * 7)), some (.inl (((((((((19 * (a0 - a0 / 19 * 19)) + (a0 / 100)) - ((a0 / 100) / 4)) - ((((a0 / 100) - (((a0 / 100) + 8) / 25)) + 1) / 3)) + 15) - (((((19 * (a0 - a0 / 19 * 19)) + (a0 / 100)) - ((a0 / 100) / 4)) - ((((a0 / 100) - (((a0 / 100) + 8) / 25)) + 1) / 3)) + 15) / 30 * 30) + (((((32 + (2 * ((a0 / 100) - (a0 / 100) / 4 * 4))) + (2 * ((a0 - a0 / 100 * 100) / 4))) - ((((((19 * (a0 - a0 / 19 * 19)) + (a0 / 100)) - ((a0 / 100) / 4)) - ((((a0 / 100) - (((a0 / 100) + 8) / 25)) + 1) / 3)) + 15) - (((((19 * (a0 - a0 / 19 * 19)) + (a0 / 100)) - ((a0 / 100) / 4)) - ((((a0 / 100) - (((a0 / 100) + 8) / 25)) + 1) / 3)) + 15) / 30 * 30)) - ((a0 - a0 / 100 * 100) - (a0 - a0 / 100 * 100) / 4 * 4)) - ((((32 + (2 * ((a0 / 100) - (a0 / 100) / 4 * 4))) + (2 * ((a0 - a0 / 100 * 100) / 4))) - ((((((19 * (a0 - a0 / 19 * 19)) + (a0 / 100)) - ((a0 / 100) / 4)) - ((((a0 / 100) - (((a0 / 100) + 8) / 25)) + 1) / 3)) + 15) - (((((19 * (a0 - a0 / 19 * 19)) + (a0 / 100)) - ((a0 / 100) / 4)) - ((((a0 / 100) - (((a0 / 100) + 8) / 25)) + 1) / 3)) + 15) / 30 * 30)) - ((a0 - a0 / 100 * 100) - (a0 - a0 / 100 * 100) / 4 * 4)) / 7 * 7)) - (7 * ((((a0 - a0 / 19 * 19) + (11 * ((((((19 * (a0 - a0 / 19 * 19)) + (a0 / 100)) - ((a0 / 100) / 4)) - ((((a0 / 100) - (((a0 / 100) + 8) / 25)) + 1) / 3)) + 15) - (((((19 * (a0 - a0 / 19 * 19)) + (a0 / 100)) - ((a0 / 100) / 4)) - ((((a0 / 100) - (((a0 / 100) + 8) / 25)) + 1) / 3)) + 15) / 30 * 30))) + (22 * (((((32 + (2 * ((a0 / 100) - (a0 / 100) / 4 * 4))) + (2 * ((a0 - a0 / 100 * 100) / 4))) - ((((((19 * (a0 - a0 / 19 * 19)) + (a0 / 100)) - ((a0 / 100) / 4)) - ((((a0 / 100) - (((a0 / 100) + 8) / 25)) + 1) / 3)) + 15) - (((((19 * (a0 - a0 / 19 * 19)) + (a0 / 100)) - ((a0 / 100) / 4)) - ((((a0 / 100) - (((a0 / 100) + 8) / 25)) + 1) / 3)) + 15) / 30 * 30)) - ((a0 - a0 / 100 * 100) - (a0 - a0 / 100 * 100) / 4 * 4)) - ((((32 + (2 * ((a0 / 100) - (a0 / 100) / 4 * 4))) + (2 * ((a0 - a0 / 100 * 100) / 4))) - ((((((19 * (a0 - a0 / 19 * 19)) + (a0 / 100)) - ((a0 / 100) / 4)) - ((((a0 / 100) - (((a0 / 100) + 8) / 25)) + 1) / 3)) + 15) - (((((19 * (a0 - a0 / 19 * 19)) + (a0 / 100)) - ((a0 / 100) / 4)) - ((((a0 / 100) - (((a0 / 100) + 8) / 25)) + 1) / 3)) + 15) / 30 * 30)) - ((a0 - a0 / 100 * 100) - (a0 - a0 / 100 * 100) / 4 * 4)) / 7 * 7))) / 451))) + 114))] k_Day_easter f_Day_easter_102 (Nat.le_of_ble_eq_true rfl) rfl ?_
  refine gw_iload_n k_Day_easter f_Day_easter_104 rfl ?_
  refine gw_iload k_Day_easter f_Day_easter_105 rfl ?_
  refine gw_bipush k_Day_easter f_Day_easter_107 qb_31 ?_
  refine gw_idiv k_Day_easter f_Day_easter_109 (by decide) ?_
  refine gw_static [.inl a0, .inl ((((((((((19 * (a0 - a0 / 19 * 19)) + (a0 / 100)) - ((a0 / 100) / 4)) - ((((a0 / 100) - (((a0 / 100) + 8) / 25)) + 1) / 3)) + 15) - (((((19 * (a0 - a0 / 19 * 19)) + (a0 / 100)) - ((a0 / 100) / 4)) - ((((a0 / 100) - (((a0 / 100) + 8) / 25)) + 1) / 3)) + 15) / 30 * 30) + (((((32 + (2 * ((a0 / 100) - (a0 / 100) / 4 * 4))) + (2 * ((a0 - a0 / 100 * 100) / 4))) - ((((((19 * (a0 - a0 / 19 * 19)) + (a0 / 100)) - ((a0 / 100) / 4)) - ((((a0 / 100) - (((a0 / 100) + 8) / 25)) + 1) / 3)) + 15) - (((((19 * (a0 - a0 / 19 * 19)) + (a0 / 100)) - ((a0 / 100) / 4)) - ((((a0 / 100) - (((a0 / 100) + 8) / 25)) + 1) / 3)) + 15) / 30 * 30)) - ((a0 - a0 / 100 * 100) - (a0 - a0 / 100 * 100) / 4 * 4)) - ((((32 + (2 * ((a0 / 100) - (a0 / 100) / 4 * 4))) + (2 * ((a0 - a0 / 100 * 100) / 4))) - ((((((19 * (a0 - a0 / 19 * 19)) + (a0 / 100)) - ((a0 / 100) / 4)) - ((((a0 / 100) - (((a0 / 100) + 8) / 25)) + 1) / 3)) + 15) - (((((19 * (a0 - a0 / 19 * 19)) + (a0 / 100)) - ((a0 / 100) / 4)) - ((((a0 / 100) - (((a0 / 100) + 8) / 25)) + 1) / 3)) + 15) / 30 * 30)) - ((a0 - a0 / 100 * 100) - (a0 - a0 / 100 * 100) / 4 * 4)) / 7 * 7)) - (7 * ((((a0 - a0 / 19 * 19) + (11 * ((((((19 * (a0 - a0 / 19 * 19)) + (a0 / 100)) - ((a0 / 100) / 4)) - ((((a0 / 100) - (((a0 / 100) + 8) / 25)) + 1) / 3)) + 15) - (((((19 * (a0 - a0 / 19 * 19)) + (a0 / 100)) - ((a0 / 100) / 4)) - ((((a0 / 100) - (((a0 / 100) + 8) / 25)) + 1) / 3)) + 15) / 30 * 30))) + (22 * (((((32 + (2 * ((a0 / 100) - (a0 / 100) / 4 * 4))) + (2 * ((a0 - a0 / 100 * 100) / 4))) - ((((((19 * (a0 - a0 / 19 * 19)) + (a0 / 100)) - ((a0 / 100) / 4)) - ((((a0 / 100) - (((a0 / 100) + 8) / 25)) + 1) / 3)) + 15) - (((((19 * (a0 - a0 / 19 * 19)) + (a0 / 100)) - ((a0 / 100) / 4)) - ((((a0 / 100) - (((a0 / 100) + 8) / 25)) + 1) / 3)) + 15) / 30 * 30)) - ((a0 - a0 / 100 * 100) - (a0 - a0 / 100 * 100) / 4 * 4)) - ((((32 + (2 * ((a0 / 100) - (a0 / 100) / 4 * 4))) + (2 * ((a0 - a0 / 100 * 100) / 4))) - ((((((19 * (a0 - a0 / 19 * 19)) + (a0 / 100)) - ((a0 / 100) / 4)) - ((((a0 / 100) - (((a0 / 100) + 8) / 25)) + 1) / 3)) + 15) - (((((19 * (a0 - a0 / 19 * 19)) + (a0 / 100)) - ((a0 / 100) / 4)) - ((((a0 / 100) - (((a0 / 100) + 8) / 25)) + 1) / 3)) + 15) / 30 * 30)) - ((a0 - a0 / 100 * 100) - (a0 - a0 / 100 * 100) / 4 * 4)) / 7 * 7))) / 451))) + 114) / 31)] k_Day_easter f_Day_easter_110 l_invT_3_19 (by decide) k_Day_firstOfMonth rfl (by exact Nat.le_of_ble_eq_true rfl) (dc := 1) (by decide) ?_ rfl
  refine ev_Day_firstOfMonth ?_
  show Gw zs 2 m_Day_easter 113 [some (.inl a0), some (.inl (a0 - a0 / 19 * 19)), some (.inl (a0 / 100)), some (.inl (a0 - a0 / 100 * 100)), some (.inl ((((((19 * (a0 - a0 / 19 * 19)) + (a0 / 100)) - ((a0 / 100) / 4)) - ((((a0 / 100) - (((a0 / 100) + 8) / 25)) + 1) / 3)) + 15) - (((((19 * (a0 - a0 / 19 * 19)) + (a0 / 100)) - ((a0 / 100) / 4)) - ((((a0 / 100) - (((a0 / 100) + 8) / 25)) + 1) / 3)) + 15) / 30 * 30)), some (.inl (((((32 + (2 * ((a0 / 100) - (a0 / 100) / 4 * 4))) + (2 * ((a0 - a0 / 100 * 100) / 4))) - ((((((19 * (a0 - a0 / 19 * 19)) + (a0 / 100)) - ((a0 / 100) / 4)) - ((((a0 / 100) - (((a0 / 100) + 8) / 25)) + 1) / 3)) + 15) - (((((19 * (a0 - a0 / 19 * 19)) + (a0 / 100)) - ((a0 / 100) / 4)) - ((((a0 / 100) - (((a0 / 100) + 8) / 25)) + 1) / 3)) + 15) / 30 * 30)) - ((a0 - a0 / 100 * 100) - (a0 - a0 / 100 * 100) / 4 * 4)) - ((((32 + (2 * ((a0 / 100) - (a0 / 100) / 4 * 4))) + (2 * ((a0 - a0 / 100 * 100) / 4))) - ((((((19 * (a0 - a0 / 19 * 19)) + (a0 / 100)) - ((a0 / 100) / 4)) - ((((a0 / 100) - (((a0 / 100) + 8) / 25)) + 1) / 3)) + 15) - (((((19 * (a0 - a0 / 19 * 19)) + (a0 / 100)) - ((a0 / 100) / 4)) - ((((a0 / 100) - (((a0 / 100) + 8) / 25)) + 1) / 3)) + 15) / 30 * 30)) - ((a0 - a0 / 100 * 100) - (a0 - a0 / 100 * 100) / 4 * 4)) / 7 * 7)), some (.inl (((((((((19 * (a0 - a0 / 19 * 19)) + (a0 / 100)) - ((a0 / 100) / 4)) - ((((a0 / 100) - (((a0 / 100) + 8) / 25)) + 1) / 3)) + 15) - (((((19 * (a0 - a0 / 19 * 19)) + (a0 / 100)) - ((a0 / 100) / 4)) - ((((a0 / 100) - (((a0 / 100) + 8) / 25)) + 1) / 3)) + 15) / 30 * 30) + (((((32 + (2 * ((a0 / 100) - (a0 / 100) / 4 * 4))) + (2 * ((a0 - a0 / 100 * 100) / 4))) - ((((((19 * (a0 - a0 / 19 * 19)) + (a0 / 100)) - ((a0 / 100) / 4)) - ((((a0 / 100) - (((a0 / 100) + 8) / 25)) + 1) / 3)) + 15) - (((((19 * (a0 - a0 / 19 * 19)) + (a0 / 100)) - ((a0 / 100) / 4)) - ((((a0 / 100) - (((a0 / 100) + 8) / 25)) + 1) / 3)) + 15) / 30 * 30)) - ((a0 - a0 / 100 * 100) - (a0 - a0 / 100 * 100) / 4 * 4)) - ((((32 + (2 * ((a0 / 100) - (a0 / 100) / 4 * 4))) + (2 * ((a0 - a0 / 100 * 100) / 4))) - ((((((19 * (a0 - a0 / 19 * 19)) + (a0 / 100)) - ((a0 / 100) / 4)) - ((((a0 / 100) - (((a0 / 100) + 8) / 25)) + 1) / 3)) + 15) - (((((19 * (a0 - a0 / 19 * 19)) + (a0 / 100)) - ((a0 / 100) / 4)) - ((((a0 / 100) - (((a0 / 100) + 8) / 25)) + 1) / 3)) + 15) / 30 * 30)) - ((a0 - a0 / 100 * 100) - (a0 - a0 / 100 * 100) / 4 * 4)) / 7 * 7)) - (7 * ((((a0 - a0 / 19 * 19) + (11 * ((((((19 * (a0 - a0 / 19 * 19)) + (a0 / 100)) - ((a0 / 100) / 4)) - ((((a0 / 100) - (((a0 / 100) + 8) / 25)) + 1) / 3)) + 15) - (((((19 * (a0 - a0 / 19 * 19)) + (a0 / 100)) - ((a0 / 100) / 4)) - ((((a0 / 100) - (((a0 / 100) + 8) / 25)) + 1) / 3)) + 15) / 30 * 30))) + (22 * (((((32 + (2 * ((a0 / 100) - (a0 / 100) / 4 * 4))) + (2 * ((a0 - a0 / 100 * 100) / 4))) - ((((((19 * (a0 - a0 / 19 * 19)) + (a0 / 100)) - ((a0 / 100) / 4)) - ((((a0 / 100) - (((a0 / 100) + 8) / 25)) + 1) / 3)) + 15) - (((((19 * (a0 - a0 / 19 * 19)) + (a0 / 100)) - ((a0 / 100) / 4)) - ((((a0 / 100) - (((a0 / 100) + 8) / 25)) + 1) / 3)) + 15) / 30 * 30)) - ((a0 - a0 / 100 * 100) - (a0 - a0 / 100 * 100) / 4 * 4)) - ((((32 + (2 * ((a0 / 100) - (a0 / 100) / 4 * 4))) + (2 * ((a0 - a0 / 100 * 100) / 4))) - ((((((19 * (a0 - a0 / 19 * 19)) + (a0 / 100)) - ((a0 / 100) / 4)) - ((((a0 / 100) - (((a0 / 100) + 8) / 25)) + 1) / 3)) + 15) - (((((19 * (a0 - a0 / 19 * 19)) + (a0 / 100)) - ((a0 / 100) / 4)) - ((((a0 / 100) - (((a0 / 100) + 8) / 25)) + 1) / 3)) + 15) / 30 * 30)) - ((a0 - a0 / 100 * 100) - (a0 - a0 / 100 * 100) / 4 * 4)) / 7 * 7))) / 451))) + 114))] [.inl (f_Day_firstOfMonth a0 ((((((((((19 * (a0 - a0 / 19 * 19)) + (a0 / 100)) - ((a0 / 100) / 4)) - ((((a0 / 100) - (((a0 / 100) + 8) / 25)) + 1) / 3)) + 15) - (((((19 * (a0 - a0 / 19 * 19)) + (a0 / 100)) - ((a0 / 100) / 4)) - ((((a0 / 100) - (((a0 / 100) + 8) / 25)) + 1) / 3)) + 15) / 30 * 30) + (((((32 + (2 * ((a0 / 100) - (a0 / 100) / 4 * 4))) + (2 * ((a0 - a0 / 100 * 100) / 4))) - ((((((19 * (a0 - a0 / 19 * 19)) + (a0 / 100)) - ((a0 / 100) / 4)) - ((((a0 / 100) - (((a0 / 100) + 8) / 25)) + 1) / 3)) + 15) - (((((19 * (a0 - a0 / 19 * 19)) + (a0 / 100)) - ((a0 / 100) / 4)) - ((((a0 / 100) - (((a0 / 100) + 8) / 25)) + 1) / 3)) + 15) / 30 * 30)) - ((a0 - a0 / 100 * 100) - (a0 - a0 / 100 * 100) / 4 * 4)) - ((((32 + (2 * ((a0 / 100) - (a0 / 100) / 4 * 4))) + (2 * ((a0 - a0 / 100 * 100) / 4))) - ((((((19 * (a0 - a0 / 19 * 19)) + (a0 / 100)) - ((a0 / 100) / 4)) - ((((a0 / 100) - (((a0 / 100) + 8) / 25)) + 1) / 3)) + 15) - (((((19 * (a0 - a0 / 19 * 19)) + (a0 / 100)) - ((a0 / 100) / 4)) - ((((a0 / 100) - (((a0 / 100) + 8) / 25)) + 1) / 3)) + 15) / 30 * 30)) - ((a0 - a0 / 100 * 100) - (a0 - a0 / 100 * 100) / 4 * 4)) / 7 * 7)) - (7 * ((((a0 - a0 / 19 * 19) + (11 * ((((((19 * (a0 - a0 / 19 * 19)) + (a0 / 100)) - ((a0 / 100) / 4)) - ((((a0 / 100) - (((a0 / 100) + 8) / 25)) + 1) / 3)) + 15) - (((((19 * (a0 - a0 / 19 * 19)) + (a0 / 100)) - ((a0 / 100) / 4)) - ((((a0 / 100) - (((a0 / 100) + 8) / 25)) + 1) / 3)) + 15) / 30 * 30))) + (22 * (((((32 + (2 * ((a0 / 100) - (a0 / 100) / 4 * 4))) + (2 * ((a0 - a0 / 100 * 100) / 4))) - ((((((19 * (a0 - a0 / 19 * 19)) + (a0 / 100)) - ((a0 / 100) / 4)) - ((((a0 / 100) - (((a0 / 100) + 8) / 25)) + 1) / 3)) + 15) - (((((19 * (a0 - a0 / 19 * 19)) + (a0 / 100)) - ((a0 / 100) / 4)) - ((((a0 / 100) - (((a0 / 100) + 8) / 25)) + 1) / 3)) + 15) / 30 * 30)) - ((a0 - a0 / 100 * 100) - (a0 - a0 / 100 * 100) / 4 * 4)) - ((((32 + (2 * ((a0 / 100) - (a0 / 100) / 4 * 4))) + (2 * ((a0 - a0 / 100 * 100) / 4))) - ((((((19 * (a0 - a0 / 19 * 19)) + (a0 / 100)) - ((a0 / 100) / 4)) - ((((a0 / 100) - (((a0 / 100) + 8) / 25)) + 1) / 3)) + 15) - (((((19 * (a0 - a0 / 19 * 19)) + (a0 / 100)) - ((a0 / 100) / 4)) - ((((a0 / 100) - (((a0 / 100) + 8) / 25)) + 1) / 3)) + 15) / 30 * 30)) - ((a0 - a0 / 100 * 100) - (a0 - a0 / 100 * 100) / 4 * 4)) / 7 * 7))) / 451))) + 114) / 31))] w _
  refine gw_iload k_Day_easter f_Day_easter_113 rfl ?_
  refine gw_bipush k_Day_easter f_Day_easter_115 qb_31 ?_
  refine gw_irem k_Day_easter f_Day_easter_117 (by decide) ?_
  refine gw_iadd k_Day_easter f_Day_easter_118 ?_
  exact gw_iret k_Day_easter f_Day_easter_119 rfl h
theorem ev_Day_easter {zs : List Int32} {a0 : Int32} {w : Wd} {Q : Option AV → Wd → Prop} (h : Q (some (.inl (f_Day_easter a0))) w) : Ew zs 2 m_Day_easter [.inl a0] w Q := by
  refine ew_of k_Day_easter rfl (sg_Day_easter_0 ?_)
  rw [show f_Day_easter a0 = ((f_Day_firstOfMonth a0 ((((((((((19 * (a0 - a0 / 19 * 19)) + (a0 / 100)) - ((a0 / 100) / 4)) - ((((a0 / 100) - (((a0 / 100) + 8) / 25)) + 1) / 3)) + 15) - (((((19 * (a0 - a0 / 19 * 19)) + (a0 / 100)) - ((a0 / 100) / 4)) - ((((a0 / 100) - (((a0 / 100) + 8) / 25)) + 1) / 3)) + 15) / 30 * 30) + (((((32 + (2 * ((a0 / 100) - (a0 / 100) / 4 * 4))) + (2 * ((a0 - a0 / 100 * 100) / 4))) - ((((((19 * (a0 - a0 / 19 * 19)) + (a0 / 100)) - ((a0 / 100) / 4)) - ((((a0 / 100) - (((a0 / 100) + 8) / 25)) + 1) / 3)) + 15) - (((((19 * (a0 - a0 / 19 * 19)) + (a0 / 100)) - ((a0 / 100) / 4)) - ((((a0 / 100) - (((a0 / 100) + 8) / 25)) + 1) / 3)) + 15) / 30 * 30)) - ((a0 - a0 / 100 * 100) - (a0 - a0 / 100 * 100) / 4 * 4)) - ((((32 + (2 * ((a0 / 100) - (a0 / 100) / 4 * 4))) + (2 * ((a0 - a0 / 100 * 100) / 4))) - ((((((19 * (a0 - a0 / 19 * 19)) + (a0 / 100)) - ((a0 / 100) / 4)) - ((((a0 / 100) - (((a0 / 100) + 8) / 25)) + 1) / 3)) + 15) - (((((19 * (a0 - a0 / 19 * 19)) + (a0 / 100)) - ((a0 / 100) / 4)) - ((((a0 / 100) - (((a0 / 100) + 8) / 25)) + 1) / 3)) + 15) / 30 * 30)) - ((a0 - a0 / 100 * 100) - (a0 - a0 / 100 * 100) / 4 * 4)) / 7 * 7)) - (7 * ((((a0 - a0 / 19 * 19) + (11 * ((((((19 * (a0 - a0 / 19 * 19)) + (a0 / 100)) - ((a0 / 100) / 4)) - ((((a0 / 100) - (((a0 / 100) + 8) / 25)) + 1) / 3)) + 15) - (((((19 * (a0 - a0 / 19 * 19)) + (a0 / 100)) - ((a0 / 100) / 4)) - ((((a0 / 100) - (((a0 / 100) + 8) / 25)) + 1) / 3)) + 15) / 30 * 30))) + (22 * (((((32 + (2 * ((a0 / 100) - (a0 / 100) / 4 * 4))) + (2 * ((a0 - a0 / 100 * 100) / 4))) - ((((((19 * (a0 - a0 / 19 * 19)) + (a0 / 100)) - ((a0 / 100) / 4)) - ((((a0 / 100) - (((a0 / 100) + 8) / 25)) + 1) / 3)) + 15) - (((((19 * (a0 - a0 / 19 * 19)) + (a0 / 100)) - ((a0 / 100) / 4)) - ((((a0 / 100) - (((a0 / 100) + 8) / 25)) + 1) / 3)) + 15) / 30 * 30)) - ((a0 - a0 / 100 * 100) - (a0 - a0 / 100 * 100) / 4 * 4)) - ((((32 + (2 * ((a0 / 100) - (a0 / 100) / 4 * 4))) + (2 * ((a0 - a0 / 100 * 100) / 4))) - ((((((19 * (a0 - a0 / 19 * 19)) + (a0 / 100)) - ((a0 / 100) / 4)) - ((((a0 / 100) - (((a0 / 100) + 8) / 25)) + 1) / 3)) + 15) - (((((19 * (a0 - a0 / 19 * 19)) + (a0 / 100)) - ((a0 / 100) / 4)) - ((((a0 / 100) - (((a0 / 100) + 8) / 25)) + 1) / 3)) + 15) / 30 * 30)) - ((a0 - a0 / 100 * 100) - (a0 - a0 / 100 * 100) / 4 * 4)) / 7 * 7))) / 451))) + 114) / 31)) + ((((((((((19 * (a0 - a0 / 19 * 19)) + (a0 / 100)) - ((a0 / 100) / 4)) - ((((a0 / 100) - (((a0 / 100) + 8) / 25)) + 1) / 3)) + 15) - (((((19 * (a0 - a0 / 19 * 19)) + (a0 / 100)) - ((a0 / 100) / 4)) - ((((a0 / 100) - (((a0 / 100) + 8) / 25)) + 1) / 3)) + 15) / 30 * 30) + (((((32 + (2 * ((a0 / 100) - (a0 / 100) / 4 * 4))) + (2 * ((a0 - a0 / 100 * 100) / 4))) - ((((((19 * (a0 - a0 / 19 * 19)) + (a0 / 100)) - ((a0 / 100) / 4)) - ((((a0 / 100) - (((a0 / 100) + 8) / 25)) + 1) / 3)) + 15) - (((((19 * (a0 - a0 / 19 * 19)) + (a0 / 100)) - ((a0 / 100) / 4)) - ((((a0 / 100) - (((a0 / 100) + 8) / 25)) + 1) / 3)) + 15) / 30 * 30)) - ((a0 - a0 / 100 * 100) - (a0 - a0 / 100 * 100) / 4 * 4)) - ((((32 + (2 * ((a0 / 100) - (a0 / 100) / 4 * 4))) + (2 * ((a0 - a0 / 100 * 100) / 4))) - ((((((19 * (a0 - a0 / 19 * 19)) + (a0 / 100)) - ((a0 / 100) / 4)) - ((((a0 / 100) - (((a0 / 100) + 8) / 25)) + 1) / 3)) + 15) - (((((19 * (a0 - a0 / 19 * 19)) + (a0 / 100)) - ((a0 / 100) / 4)) - ((((a0 / 100) - (((a0 / 100) + 8) / 25)) + 1) / 3)) + 15) / 30 * 30)) - ((a0 - a0 / 100 * 100) - (a0 - a0 / 100 * 100) / 4 * 4)) / 7 * 7)) - (7 * ((((a0 - a0 / 19 * 19) + (11 * ((((((19 * (a0 - a0 / 19 * 19)) + (a0 / 100)) - ((a0 / 100) / 4)) - ((((a0 / 100) - (((a0 / 100) + 8) / 25)) + 1) / 3)) + 15) - (((((19 * (a0 - a0 / 19 * 19)) + (a0 / 100)) - ((a0 / 100) / 4)) - ((((a0 / 100) - (((a0 / 100) + 8) / 25)) + 1) / 3)) + 15) / 30 * 30))) + (22 * (((((32 + (2 * ((a0 / 100) - (a0 / 100) / 4 * 4))) + (2 * ((a0 - a0 / 100 * 100) / 4))) - ((((((19 * (a0 - a0 / 19 * 19)) + (a0 / 100)) - ((a0 / 100) / 4)) - ((((a0 / 100) - (((a0 / 100) + 8) / 25)) + 1) / 3)) + 15) - (((((19 * (a0 - a0 / 19 * 19)) + (a0 / 100)) - ((a0 / 100) / 4)) - ((((a0 / 100) - (((a0 / 100) + 8) / 25)) + 1) / 3)) + 15) / 30 * 30)) - ((a0 - a0 / 100 * 100) - (a0 - a0 / 100 * 100) / 4 * 4)) - ((((32 + (2 * ((a0 / 100) - (a0 / 100) / 4 * 4))) + (2 * ((a0 - a0 / 100 * 100) / 4))) - ((((((19 * (a0 - a0 / 19 * 19)) + (a0 / 100)) - ((a0 / 100) / 4)) - ((((a0 / 100) - (((a0 / 100) + 8) / 25)) + 1) / 3)) + 15) - (((((19 * (a0 - a0 / 19 * 19)) + (a0 / 100)) - ((a0 / 100) / 4)) - ((((a0 / 100) - (((a0 / 100) + 8) / 25)) + 1) / 3)) + 15) / 30 * 30)) - ((a0 - a0 / 100 * 100) - (a0 - a0 / 100 * 100) / 4 * 4)) / 7 * 7))) / 451))) + 114) - (((((((((19 * (a0 - a0 / 19 * 19)) + (a0 / 100)) - ((a0 / 100) / 4)) - ((((a0 / 100) - (((a0 / 100) + 8) / 25)) + 1) / 3)) + 15) - (((((19 * (a0 - a0 / 19 * 19)) + (a0 / 100)) - ((a0 / 100) / 4)) - ((((a0 / 100) - (((a0 / 100) + 8) / 25)) + 1) / 3)) + 15) / 30 * 30) + (((((32 + (2 * ((a0 / 100) - (a0 / 100) / 4 * 4))) + (2 * ((a0 - a0 / 100 * 100) / 4))) - ((((((19 * (a0 - a0 / 19 * 19)) + (a0 / 100)) - ((a0 / 100) / 4)) - ((((a0 / 100) - (((a0 / 100) + 8) / 25)) + 1) / 3)) + 15) - (((((19 * (a0 - a0 / 19 * 19)) + (a0 / 100)) - ((a0 / 100) / 4)) - ((((a0 / 100) - (((a0 / 100) + 8) / 25)) + 1) / 3)) + 15) / 30 * 30)) - ((a0 - a0 / 100 * 100) - (a0 - a0 / 100 * 100) / 4 * 4)) - ((((32 + (2 * ((a0 / 100) - (a0 / 100) / 4 * 4))) + (2 * ((a0 - a0 / 100 * 100) / 4))) - ((((((19 * (a0 - a0 / 19 * 19)) + (a0 / 100)) - ((a0 / 100) / 4)) - ((((a0 / 100) - (((a0 / 100) + 8) / 25)) + 1) / 3)) + 15) - (((((19 * (a0 - a0 / 19 * 19)) + (a0 / 100)) - ((a0 / 100) / 4)) - ((((a0 / 100) - (((a0 / 100) + 8) / 25)) + 1) / 3)) + 15) / 30 * 30)) - ((a0 - a0 / 100 * 100) - (a0 - a0 / 100 * 100) / 4 * 4)) / 7 * 7)) - (7 * ((((a0 - a0 / 19 * 19) + (11 * ((((((19 * (a0 - a0 / 19 * 19)) + (a0 / 100)) - ((a0 / 100) / 4)) - ((((a0 / 100) - (((a0 / 100) + 8) / 25)) + 1) / 3)) + 15) - (((((19 * (a0 - a0 / 19 * 19)) + (a0 / 100)) - ((a0 / 100) / 4)) - ((((a0 / 100) - (((a0 / 100) + 8) / 25)) + 1) / 3)) + 15) / 30 * 30))) + (22 * (((((32 + (2 * ((a0 / 100) - (a0 / 100) / 4 * 4))) + (2 * ((a0 - a0 / 100 * 100) / 4))) - ((((((19 * (a0 - a0 / 19 * 19)) + (a0 / 100)) - ((a0 / 100) / 4)) - ((((a0 / 100) - (((a0 / 100) + 8) / 25)) + 1) / 3)) + 15) - (((((19 * (a0 - a0 / 19 * 19)) + (a0 / 100)) - ((a0 / 100) / 4)) - ((((a0 / 100) - (((a0 / 100) + 8) / 25)) + 1) / 3)) + 15) / 30 * 30)) - ((a0 - a0 / 100 * 100) - (a0 - a0 / 100 * 100) / 4 * 4)) - ((((32 + (2 * ((a0 / 100) - (a0 / 100) / 4 * 4))) + (2 * ((a0 - a0 / 100 * 100) / 4))) - ((((((19 * (a0 - a0 / 19 * 19)) + (a0 / 100)) - ((a0 / 100) / 4)) - ((((a0 / 100) - (((a0 / 100) + 8) / 25)) + 1) / 3)) + 15) - (((((19 * (a0 - a0 / 19 * 19)) + (a0 / 100)) - ((a0 / 100) / 4)) - ((((a0 / 100) - (((a0 / 100) + 8) / 25)) + 1) / 3)) + 15) / 30 * 30)) - ((a0 - a0 / 100 * 100) - (a0 - a0 / 100 * 100) / 4 * 4)) / 7 * 7))) / 451))) + 114) / 31 * 31)) from by unfold f_Day_easter; rfl] at h
  exact h
def f_Bk_year (a0 : Int32) (a1 : Int32) : Int32 := if (f_Day_isYear a0) = 0 then (-1) else if a1 = 0 then (f_Day_lengthOf a0) else if a1 = 1 then (f_Day_firstWeekday a0) else if a1 = 2 then (f_Day_easter a0) else (-1)
theorem sg_Bk_year_0 {zs : List Int32} {a0 a1 : Int32} {w : Wd} {Q : Option AV → Wd → Prop} (h : (((f_Day_isYear a0) = 0 → Q (some (.inl (-1))) w) ∧ (¬ ((f_Day_isYear a0) = 0) → ((a1 = 0 → Q (some (.inl (f_Day_lengthOf a0))) w) ∧ (a1 = 1 → Q (some (.inl (f_Day_firstWeekday a0))) w) ∧ (a1 = 2 → Q (some (.inl (f_Day_easter a0))) w) ∧ (¬ a1 = 0 → ¬ a1 = 1 → ¬ a1 = 2 → Q (some (.inl (-1))) w))))) : Gw zs 3 m_Bk_year 0 [some (.inr (.inl (some 0))), some (.inl a0), some (.inl a1)] [] w Q := by
  refine gw_iload_n k_Bk_year f_Bk_year_0 rfl ?_
  refine gw_static [.inl a0] k_Bk_year f_Bk_year_1 l_invT_10_67 (by decide) k_Day_isYear rfl (by exact Nat.le_of_ble_eq_true rfl) (dc := 1) (by decide) ?_ rfl
  refine ev_Day_isYear ?_
  show Gw zs 3 m_Bk_year 4 [some (.inr (.inl (some 0))), some (.inl a0), some (.inl a1)] [.inl (f_Day_isYear a0)] w _
  refine gw_if_ne (t := 9) k_Bk_year f_Bk_year_4 rfl (fun c1 => ?_) (fun c1 => ?_)
  · have h := h.2 c1
    refine gw_iload_n k_Bk_year f_Bk_year_9 rfl ?_
    refine gw_tsw k_Bk_year f_Bk_year_10 (by decide) (by decide) (fun q hq hx => ?_) (fun hx => ?_)
    · match q, hq, hx with
      | 0, hq, hx =>
        have c2 : a1 = 0 := hx.trans (by decide)
        have h := h.1 c2
        refine ⟨_, 36, rfl, rfl, ?_⟩
        refine gw_iload_n k_Bk_year f_Bk_year_36 rfl ?_
        refine gw_static [.inl a0] k_Bk_year f_Bk_year_37 l_invT_10_73 (by decide) k_Day_lengthOf rfl (by exact Nat.le_of_ble_eq_true rfl) (dc := 1) (by decide) ?_ rfl
        refine ev_Day_lengthOf ?_
        show Gw zs 3 m_Bk_year 40 [some (.inr (.inl (some 0))), some (.inl a0), some (.inl a1)] [.inl (f_Day_lengthOf a0)] w _
        exact gw_iret k_Bk_year f_Bk_year_40 rfl h
      | 1, hq, hx =>
        have c3 : a1 = 1 := hx.trans (by decide)
        have h := h.2.1 c3
        refine ⟨_, 41, rfl, rfl, ?_⟩
        refine gw_iload_n k_Bk_year f_Bk_year_41 rfl ?_
        refine gw_static [.inl a0] k_Bk_year f_Bk_year_42 l_invT_10_77 (by decide) k_Day_firstWeekday rfl (by exact Nat.le_of_ble_eq_true rfl) (dc := 0) (by decide) ?_ rfl
        refine ev_Day_firstWeekday ?_
        show Gw zs 3 m_Bk_year 45 [some (.inr (.inl (some 0))), some (.inl a0), some (.inl a1)] [.inl (f_Day_firstWeekday a0)] w _
        exact gw_iret k_Bk_year f_Bk_year_45 rfl h
      | 2, hq, hx =>
        have c4 : a1 = 2 := hx.trans (by decide)
        have h := h.2.2.1 c4
        refine ⟨_, 46, rfl, rfl, ?_⟩
        refine gw_iload_n k_Bk_year f_Bk_year_46 rfl ?_
        refine gw_static [.inl a0] k_Bk_year f_Bk_year_47 l_invT_10_80 (by decide) k_Day_easter rfl (by exact Nat.le_of_ble_eq_true rfl) (dc := 2) (by decide) ?_ rfl
        refine ev_Day_easter ?_
        show Gw zs 3 m_Bk_year 50 [some (.inr (.inl (some 0))), some (.inl a0), some (.inl a1)] [.inl (f_Day_easter a0)] w _
        exact gw_iret k_Bk_year f_Bk_year_50 rfl h
      | q + 3, hq, hx => exact absurd hq (by show ¬ (q + 3 < 3); omega)
    ·
      have c5 : ¬ a1 = 0 := fun c => hx 0 (by decide) (c.trans (by decide))
      have c6 : ¬ a1 = 1 := fun c => hx 1 (by decide) (c.trans (by decide))
      have c7 : ¬ a1 = 2 := fun c => hx 2 (by decide) (c.trans (by decide))
      have h := h.2.2.2 c5 c6 c7
      refine ⟨51, rfl, ?_⟩
      refine gw_iconst k_Bk_year f_Bk_year_51 qc_m1 ?_
      exact gw_iret k_Bk_year f_Bk_year_52 rfl h
  · have c1 := Decidable.not_not.mp c1
    have h := h.1 c1
    refine gw_iconst k_Bk_year f_Bk_year_7 qc_m1 ?_
    exact gw_iret k_Bk_year f_Bk_year_8 rfl h
theorem ev_Bk_year {zs : List Int32} {a0 a1 : Int32} {w : Wd} {Q : Option AV → Wd → Prop} (h : Q (some (.inl (f_Bk_year a0 a1))) w) : Ew zs 3 m_Bk_year [.inr (.inl (some 0)), .inl a0, .inl a1] w Q := by
  refine ew_of k_Bk_year rfl (sg_Bk_year_0 ?_)
  refine ⟨fun c1 => ?_, fun c1 => ?_⟩
  ·
    rw [show f_Bk_year a0 a1 = (-1) from by unfold f_Bk_year; rw [if_pos c1]] at h
    exact h
  ·
    refine ⟨fun c0_2 => ?_, fun c1_2 => ?_, fun c2_2 => ?_, fun c0_2 c1_2 c2_2 => ?_⟩
    ·
      rw [show f_Bk_year a0 a1 = (f_Day_lengthOf a0) from by unfold f_Bk_year; rw [if_neg c1, if_pos c0_2]] at h
      exact h
    ·
      rw [show f_Bk_year a0 a1 = (f_Day_firstWeekday a0) from by unfold f_Bk_year; rw [if_neg c1, if_neg (by rw [c1_2]; decide), if_pos c1_2]] at h
      exact h
    ·
      rw [show f_Bk_year a0 a1 = (f_Day_easter a0) from by unfold f_Bk_year; rw [if_neg c1, if_neg (by rw [c2_2]; decide), if_neg (by rw [c2_2]; decide), if_pos c2_2]] at h
      exact h
    ·
      rw [show f_Bk_year a0 a1 = (-1) from by unfold f_Bk_year; rw [if_neg c1, if_neg c0_2, if_neg c1_2, if_neg c2_2]] at h
      exact h
def f_Day_lengthOfMonth (a0 : Int32) (a1 : Int32) : Int32 := if a1 = 2 then if (f_Day_isLeap a0) = 0 then (f_atR ML (a1 - 1)) else 29 else (f_atR ML (a1 - 1))
theorem sg_Day_lengthOfMonth_0 {zs : List Int32} {a0 a1 : Int32} {w : Wd} {Q : Option AV → Wd → Prop} (h : ((a1 = 2 → (((f_Day_isLeap a0) = 0 → Q (some (.inl (f_atR ML (a1 - 1)))) w) ∧ (¬ ((f_Day_isLeap a0) = 0) → Q (some (.inl 29)) w))) ∧ (¬ (a1 = 2) → Q (some (.inl (f_atR ML (a1 - 1)))) w))) : Gw zs 1 m_Day_lengthOfMonth 0 [some (.inl a0), some (.inl a1)] [] w Q := by
  refine gw_iload_n k_Day_lengthOfMonth f_Day_lengthOfMonth_0 rfl ?_
  refine gw_iconst k_Day_lengthOfMonth f_Day_lengthOfMonth_1 qc_2 ?_
  refine gw_icmp_ne (t := 17) k_Day_lengthOfMonth f_Day_lengthOfMonth_2 rfl (fun c1 => ?_) (fun c1 => ?_)
  · have h := h.2 c1
    refine gw_gets k_Day_lengthOfMonth f_Day_lengthOfMonth_17 l_gsT_3_23 ?_
    refine gw_iload_n k_Day_lengthOfMonth f_Day_lengthOfMonth_20 rfl ?_
    refine gw_iconst k_Day_lengthOfMonth f_Day_lengthOfMonth_21 qc_1 ?_
    refine gw_isub k_Day_lengthOfMonth f_Day_lengthOfMonth_22 ?_
    refine gw_static [.inr (.inr 1), .inl (a1 - 1)] k_Day_lengthOfMonth f_Day_lengthOfMonth_23 l_invT_3_27 (by decide) k_Bk_at rfl (by exact Nat.le_of_ble_eq_true rfl) (dc := 0) (by decide) ?_ rfl
    refine ev_atR 1 rfl (by decide) ?_
    show Gw zs 1 m_Day_lengthOfMonth 26 [some (.inl a0), some (.inl a1)] [.inl (f_atR ML (a1 - 1))] w _
    exact gw_iret k_Day_lengthOfMonth f_Day_lengthOfMonth_26 rfl h
  · have c1 := Decidable.not_not.mp c1
    have h := h.1 c1
    refine gw_iload_n k_Day_lengthOfMonth f_Day_lengthOfMonth_5 rfl ?_
    refine gw_static [.inl a0] k_Day_lengthOfMonth f_Day_lengthOfMonth_6 l_invT_3_13 (by decide) k_Day_isLeap rfl (by exact Nat.le_of_ble_eq_true rfl) (dc := 0) (by decide) ?_ rfl
    refine ev_Day_isLeap ?_
    show Gw zs 1 m_Day_lengthOfMonth 9 [some (.inl a0), some (.inl a1)] [.inl (f_Day_isLeap a0)] w _
    refine gw_if_eq (t := 17) k_Day_lengthOfMonth f_Day_lengthOfMonth_9 rfl (fun c2 => ?_) (fun c2 => ?_)
    · have h := h.1 c2
      refine gw_gets k_Day_lengthOfMonth f_Day_lengthOfMonth_17 l_gsT_3_23 ?_
      refine gw_iload_n k_Day_lengthOfMonth f_Day_lengthOfMonth_20 rfl ?_
      refine gw_iconst k_Day_lengthOfMonth f_Day_lengthOfMonth_21 qc_1 ?_
      refine gw_isub k_Day_lengthOfMonth f_Day_lengthOfMonth_22 ?_
      refine gw_static [.inr (.inr 1), .inl (a1 - 1)] k_Day_lengthOfMonth f_Day_lengthOfMonth_23 l_invT_3_27 (by decide) k_Bk_at rfl (by exact Nat.le_of_ble_eq_true rfl) (dc := 0) (by decide) ?_ rfl
      refine ev_atR 1 rfl (by decide) ?_
      show Gw zs 1 m_Day_lengthOfMonth 26 [some (.inl a0), some (.inl a1)] [.inl (f_atR ML (a1 - 1))] w _
      exact gw_iret k_Day_lengthOfMonth f_Day_lengthOfMonth_26 rfl h
    · have h := h.2 c2
      refine gw_bipush k_Day_lengthOfMonth f_Day_lengthOfMonth_12 qb_29 ?_
      refine gw_goto (t := 26) k_Day_lengthOfMonth f_Day_lengthOfMonth_14 rfl ?_
      exact gw_iret k_Day_lengthOfMonth f_Day_lengthOfMonth_26 rfl h
theorem ev_Day_lengthOfMonth {zs : List Int32} {a0 a1 : Int32} {w : Wd} {Q : Option AV → Wd → Prop} (h : Q (some (.inl (f_Day_lengthOfMonth a0 a1))) w) : Ew zs 1 m_Day_lengthOfMonth [.inl a0, .inl a1] w Q := by
  refine ew_of k_Day_lengthOfMonth rfl (sg_Day_lengthOfMonth_0 ?_)
  refine ⟨fun c1 => ?_, fun c1 => ?_⟩
  ·
    refine ⟨fun c2 => ?_, fun c2 => ?_⟩
    ·
      rw [show f_Day_lengthOfMonth a0 a1 = (f_atR ML (a1 - 1)) from by unfold f_Day_lengthOfMonth; rw [if_pos c1, if_pos c2]] at h
      exact h
    ·
      rw [show f_Day_lengthOfMonth a0 a1 = 29 from by unfold f_Day_lengthOfMonth; rw [if_pos c1, if_neg c2]] at h
      exact h
  ·
    rw [show f_Day_lengthOfMonth a0 a1 = (f_atR ML (a1 - 1)) from by unfold f_Day_lengthOfMonth; rw [if_neg c1]] at h
    exact h
def f_Day_dayOf (a0 : Int32) (a1 : Int32) (a2 : Int32) : Int32 := if (f_Bk_within a1 1 12) = 0 then (-1) else if (f_Bk_within a2 1 (f_Day_lengthOfMonth a0 a1)) = 0 then (-1) else (((f_Day_firstOfMonth a0 a1) + a2) - 1)
theorem sg_Day_dayOf_0 {zs : List Int32} {a0 a1 a2 : Int32} {w : Wd} {Q : Option AV → Wd → Prop} (h : (((f_Bk_within a1 1 12) = 0 → Q (some (.inl (-1))) w) ∧ (¬ ((f_Bk_within a1 1 12) = 0) → (((f_Bk_within a2 1 (f_Day_lengthOfMonth a0 a1)) = 0 → Q (some (.inl (-1))) w) ∧ (¬ ((f_Bk_within a2 1 (f_Day_lengthOfMonth a0 a1)) = 0) → Q (some (.inl (((f_Day_firstOfMonth a0 a1) + a2) - 1))) w))))) : Gw zs 2 m_Day_dayOf 0 [some (.inl a0), some (.inl a1), some (.inl a2)] [] w Q := by
  refine gw_iload_n k_Day_dayOf f_Day_dayOf_0 rfl ?_
  refine gw_iconst k_Day_dayOf f_Day_dayOf_1 qc_1 ?_
  refine gw_bipush k_Day_dayOf f_Day_dayOf_2 qb_12 ?_
  refine gw_static [.inl a1, .inl 1, .inl 12] k_Day_dayOf f_Day_dayOf_4 l_invT_3_9 (by decide) k_Bk_within rfl (by exact Nat.le_of_ble_eq_true rfl) (dc := 0) (by decide) ?_ rfl
  refine ev_Bk_within ?_
  show Gw zs 2 m_Day_dayOf 7 [some (.inl a0), some (.inl a1), some (.inl a2)] [.inl (f_Bk_within a1 1 12)] w _
  refine gw_if_eq (t := 23) k_Day_dayOf f_Day_dayOf_7 rfl (fun c1 => ?_) (fun c1 => ?_)
  · have h := h.1 c1
    refine gw_iconst k_Day_dayOf f_Day_dayOf_23 qc_m1 ?_
    exact gw_iret k_Day_dayOf f_Day_dayOf_24 rfl h
  · have h := h.2 c1
    refine gw_iload_n k_Day_dayOf f_Day_dayOf_10 rfl ?_
    refine gw_iconst k_Day_dayOf f_Day_dayOf_11 qc_1 ?_
    refine gw_iload_n k_Day_dayOf f_Day_dayOf_12 rfl ?_
    refine gw_iload_n k_Day_dayOf f_Day_dayOf_13 rfl ?_
    refine gw_static [.inl a0, .inl a1] k_Day_dayOf f_Day_dayOf_14 l_invT_3_34 (by decide) k_Day_lengthOfMonth rfl (by exact Nat.le_of_ble_eq_true rfl) (dc := 1) (by decide) ?_ rfl
    refine ev_Day_lengthOfMonth ?_
    show Gw zs 2 m_Day_dayOf 17 [some (.inl a0), some (.inl a1), some (.inl a2)] [.inl (f_Day_lengthOfMonth a0 a1), .inl 1, .inl a2] w _
    refine gw_static [.inl a2, .inl 1, .inl (f_Day_lengthOfMonth a0 a1)] k_Day_dayOf f_Day_dayOf_17 l_invT_3_9 (by decide) k_Bk_within rfl (by exact Nat.le_of_ble_eq_true rfl) (dc := 0) (by decide) ?_ rfl
    refine ev_Bk_within ?_
    show Gw zs 2 m_Day_dayOf 20 [some (.inl a0), some (.inl a1), some (.inl a2)] [.inl (f_Bk_within a2 1 (f_Day_lengthOfMonth a0 a1))] w _
    refine gw_if_ne (t := 25) k_Day_dayOf f_Day_dayOf_20 rfl (fun c2 => ?_) (fun c2 => ?_)
    · have h := h.2 c2
      refine gw_iload_n k_Day_dayOf f_Day_dayOf_25 rfl ?_
      refine gw_iload_n k_Day_dayOf f_Day_dayOf_26 rfl ?_
      refine gw_static [.inl a0, .inl a1] k_Day_dayOf f_Day_dayOf_27 l_invT_3_19 (by decide) k_Day_firstOfMonth rfl (by exact Nat.le_of_ble_eq_true rfl) (dc := 1) (by decide) ?_ rfl
      refine ev_Day_firstOfMonth ?_
      show Gw zs 2 m_Day_dayOf 30 [some (.inl a0), some (.inl a1), some (.inl a2)] [.inl (f_Day_firstOfMonth a0 a1)] w _
      refine gw_iload_n k_Day_dayOf f_Day_dayOf_30 rfl ?_
      refine gw_iadd k_Day_dayOf f_Day_dayOf_31 ?_
      refine gw_iconst k_Day_dayOf f_Day_dayOf_32 qc_1 ?_
      refine gw_isub k_Day_dayOf f_Day_dayOf_33 ?_
      exact gw_iret k_Day_dayOf f_Day_dayOf_34 rfl h
    · have c2 := Decidable.not_not.mp c2
      have h := h.1 c2
      refine gw_iconst k_Day_dayOf f_Day_dayOf_23 qc_m1 ?_
      exact gw_iret k_Day_dayOf f_Day_dayOf_24 rfl h
theorem ev_Day_dayOf {zs : List Int32} {a0 a1 a2 : Int32} {w : Wd} {Q : Option AV → Wd → Prop} (h : Q (some (.inl (f_Day_dayOf a0 a1 a2))) w) : Ew zs 2 m_Day_dayOf [.inl a0, .inl a1, .inl a2] w Q := by
  refine ew_of k_Day_dayOf rfl (sg_Day_dayOf_0 ?_)
  refine ⟨fun c1 => ?_, fun c1 => ?_⟩
  ·
    rw [show f_Day_dayOf a0 a1 a2 = (-1) from by unfold f_Day_dayOf; rw [if_pos c1]] at h
    exact h
  ·
    refine ⟨fun c2 => ?_, fun c2 => ?_⟩
    ·
      rw [show f_Day_dayOf a0 a1 a2 = (-1) from by unfold f_Day_dayOf; rw [if_neg c1, if_pos c2]] at h
      exact h
    ·
      rw [show f_Day_dayOf a0 a1 a2 = (((f_Day_firstOfMonth a0 a1) + a2) - 1) from by unfold f_Day_dayOf; rw [if_neg c1, if_neg c2]] at h
      exact h
def f_Bk_day (a0 : Int32) (a1 : Int32) (a2 : Int32) : Int32 := if (f_Day_isYear a0) = 0 then (-1) else (f_Day_dayOf a0 a1 a2)
theorem sg_Bk_day_0 {zs : List Int32} {a0 a1 a2 : Int32} {w : Wd} {Q : Option AV → Wd → Prop} (h : (((f_Day_isYear a0) = 0 → Q (some (.inl (-1))) w) ∧ (¬ ((f_Day_isYear a0) = 0) → Q (some (.inl (f_Day_dayOf a0 a1 a2))) w))) : Gw zs 3 m_Bk_day 0 [some (.inr (.inl (some 0))), some (.inl a0), some (.inl a1), some (.inl a2)] [] w Q := by
  refine gw_iload_n k_Bk_day f_Bk_day_0 rfl ?_
  refine gw_static [.inl a0] k_Bk_day f_Bk_day_1 l_invT_10_67 (by decide) k_Day_isYear rfl (by exact Nat.le_of_ble_eq_true rfl) (dc := 1) (by decide) ?_ rfl
  refine ev_Day_isYear ?_
  show Gw zs 3 m_Bk_day 4 [some (.inr (.inl (some 0))), some (.inl a0), some (.inl a1), some (.inl a2)] [.inl (f_Day_isYear a0)] w _
  refine gw_if_eq (t := 16) k_Bk_day f_Bk_day_4 rfl (fun c1 => ?_) (fun c1 => ?_)
  · have h := h.1 c1
    refine gw_iconst k_Bk_day f_Bk_day_16 qc_m1 ?_
    exact gw_iret k_Bk_day f_Bk_day_17 rfl h
  · have h := h.2 c1
    refine gw_iload_n k_Bk_day f_Bk_day_7 rfl ?_
    refine gw_iload_n k_Bk_day f_Bk_day_8 rfl ?_
    refine gw_iload_n k_Bk_day f_Bk_day_9 rfl ?_
    refine gw_static [.inl a0, .inl a1, .inl a2] k_Bk_day f_Bk_day_10 l_invT_10_83 (by decide) k_Day_dayOf rfl (by exact Nat.le_of_ble_eq_true rfl) (dc := 2) (by decide) ?_ rfl
    refine ev_Day_dayOf ?_
    show Gw zs 3 m_Bk_day 13 [some (.inr (.inl (some 0))), some (.inl a0), some (.inl a1), some (.inl a2)] [.inl (f_Day_dayOf a0 a1 a2)] w _
    refine gw_goto (t := 17) k_Bk_day f_Bk_day_13 rfl ?_
    exact gw_iret k_Bk_day f_Bk_day_17 rfl h
theorem ev_Bk_day {zs : List Int32} {a0 a1 a2 : Int32} {w : Wd} {Q : Option AV → Wd → Prop} (h : Q (some (.inl (f_Bk_day a0 a1 a2))) w) : Ew zs 3 m_Bk_day [.inr (.inl (some 0)), .inl a0, .inl a1, .inl a2] w Q := by
  refine ew_of k_Bk_day rfl (sg_Bk_day_0 ?_)
  refine ⟨fun c1 => ?_, fun c1 => ?_⟩
  ·
    rw [show f_Bk_day a0 a1 a2 = (-1) from by unfold f_Bk_day; rw [if_pos c1]] at h
    exact h
  ·
    rw [show f_Bk_day a0 a1 a2 = (f_Day_dayOf a0 a1 a2) from by unfold f_Bk_day; rw [if_neg c1]] at h
    exact h
def f_Sea_add (w : Wd) (a0 : Int32) (a1 : Int32) (a2 : Int32) (a3 : Int32) (a4 : Int32) (a5 : Int32) : Int32 := if (w 1 6) < 0 then (-1) else if 10 ≤ (w 1 6) then (-1) else if (f_Bk_within a2 1 9) = 0 then (-1) else if (f_Bk_within a3 0 8) = 0 then (-1) else if (f_Bk_within a4 0 7) = 0 then (-1) else ((w 1 6) + 1)
def g_Sea_add (w : Wd) (a0 : Int32) (a1 : Int32) (a2 : Int32) (a3 : Int32) (a4 : Int32) (a5 : Int32) : Wd := if (w 1 6) < 0 then w else if 10 ≤ (w 1 6) then w else if (f_Bk_within a2 1 9) = 0 then w else if (f_Bk_within a3 0 8) = 0 then w else if (f_Bk_within a4 0 7) = 0 then w else wr (g_put (g_put (g_put (g_put (g_put (wr w 2 ((w 1 6).toNatClampNeg) (a5 &&& 1)) 3 10 (w 1 6) a0) 4 10 (w 1 6) a1) 5 10 (w 1 6) a2) 6 10 (w 1 6) a3) 7 10 (w 1 6) a4) 1 6 ((w 1 6) + 1)
theorem sg_Sea_add_0 {zs : List Int32} {a0 a1 a2 a3 a4 a5 : Int32} {w : Wd} {Q : Option AV → Wd → Prop} (h : (((w 1 6) < 0 → Q (some (.inl (-1))) w) ∧ (¬ ((w 1 6) < 0) → ((10 ≤ (w 1 6) → Q (some (.inl (-1))) w) ∧ (¬ (10 ≤ (w 1 6)) → (((f_Bk_within a2 1 9) = 0 → Q (some (.inl (-1))) w) ∧ (¬ ((f_Bk_within a2 1 9) = 0) → (((f_Bk_within a3 0 8) = 0 → Q (some (.inl (-1))) w) ∧ (¬ ((f_Bk_within a3 0 8) = 0) → (((f_Bk_within a4 0 7) = 0 → Q (some (.inl (-1))) w) ∧ (¬ ((f_Bk_within a4 0 7) = 0) → Q (some (.inl ((w 1 6) + 1))) (wr (g_put (g_put (g_put (g_put (g_put (wr w 2 ((w 1 6).toNatClampNeg) (a5 &&& 1)) 3 10 (w 1 6) a0) 4 10 (w 1 6) a1) 5 10 (w 1 6) a2) 6 10 (w 1 6) a3) 7 10 (w 1 6) a4) 1 6 ((w 1 6) + 1))))))))))))) : Gw zs 1 m_Sea_add 0 [some (.inr (.inl (some 1))), some (.inl a0), some (.inl a1), some (.inl a2), some (.inl a3), some (.inl a4), some (.inl a5)] [] w Q := by
  refine gw_aload_n k_Sea_add f_Sea_add_0 rfl ?_
  refine gw_getI k_Sea_add f_Sea_add_1 l_fldT_7_45 hc1 rfl ?_
  refine gw_if_lt (t := 51) k_Sea_add f_Sea_add_4 rfl (fun c1 => ?_) (fun c1 => ?_)
  · have h := h.1 c1
    refine gw_iconst k_Sea_add f_Sea_add_51 qc_m1 ?_
    exact gw_iret k_Sea_add f_Sea_add_52 rfl h
  · have h := h.2 c1
    refine gw_aload_n k_Sea_add f_Sea_add_7 rfl ?_
    refine gw_getI k_Sea_add f_Sea_add_8 l_fldT_7_45 hc1 rfl ?_
    refine gw_aload_n k_Sea_add f_Sea_add_11 rfl ?_
    refine gw_getR k_Sea_add f_Sea_add_12 l_fldT_7_9 hc1 rfl ?_
    refine gw_alenZ k_Sea_add f_Sea_add_15 hc2 qn_10 ?_
    refine gw_icmp_ge (t := 51) k_Sea_add f_Sea_add_16 rfl (fun c2 => ?_) (fun c2 => ?_)
    · have h := h.1 c2
      refine gw_iconst k_Sea_add f_Sea_add_51 qc_m1 ?_
      exact gw_iret k_Sea_add f_Sea_add_52 rfl h
    · have h := h.2 c2
      refine gw_iload_n k_Sea_add f_Sea_add_19 rfl ?_
      refine gw_iconst k_Sea_add f_Sea_add_20 qc_1 ?_
      refine gw_bipush k_Sea_add f_Sea_add_21 qb_9 ?_
      refine gw_static [.inl a2, .inl 1, .inl 9] k_Sea_add f_Sea_add_23 l_invT_7_31 (by decide) k_Bk_within rfl (by exact Nat.le_of_ble_eq_true rfl) (dc := 0) (by decide) ?_ rfl
      refine ev_Bk_within ?_
      show Gw zs 1 m_Sea_add 26 [some (.inr (.inl (some 1))), some (.inl a0), some (.inl a1), some (.inl a2), some (.inl a3), some (.inl a4), some (.inl a5)] [.inl (f_Bk_within a2 1 9)] w _
      refine gw_if_eq (t := 51) k_Sea_add f_Sea_add_26 rfl (fun c3 => ?_) (fun c3 => ?_)
      · have h := h.1 c3
        refine gw_iconst k_Sea_add f_Sea_add_51 qc_m1 ?_
        exact gw_iret k_Sea_add f_Sea_add_52 rfl h
      · have h := h.2 c3
        refine gw_iload k_Sea_add f_Sea_add_29 rfl ?_
        refine gw_iconst k_Sea_add f_Sea_add_31 qc_0 ?_
        refine gw_bipush k_Sea_add f_Sea_add_32 qb_8 ?_
        refine gw_static [.inl a3, .inl 0, .inl 8] k_Sea_add f_Sea_add_34 l_invT_7_31 (by decide) k_Bk_within rfl (by exact Nat.le_of_ble_eq_true rfl) (dc := 0) (by decide) ?_ rfl
        refine ev_Bk_within ?_
        show Gw zs 1 m_Sea_add 37 [some (.inr (.inl (some 1))), some (.inl a0), some (.inl a1), some (.inl a2), some (.inl a3), some (.inl a4), some (.inl a5)] [.inl (f_Bk_within a3 0 8)] w _
        refine gw_if_eq (t := 51) k_Sea_add f_Sea_add_37 rfl (fun c4 => ?_) (fun c4 => ?_)
        · have h := h.1 c4
          refine gw_iconst k_Sea_add f_Sea_add_51 qc_m1 ?_
          exact gw_iret k_Sea_add f_Sea_add_52 rfl h
        · have h := h.2 c4
          refine gw_iload k_Sea_add f_Sea_add_40 rfl ?_
          refine gw_iconst k_Sea_add f_Sea_add_42 qc_0 ?_
          refine gw_bipush k_Sea_add f_Sea_add_43 qb_7 ?_
          refine gw_static [.inl a4, .inl 0, .inl 7] k_Sea_add f_Sea_add_45 l_invT_7_31 (by decide) k_Bk_within rfl (by exact Nat.le_of_ble_eq_true rfl) (dc := 0) (by decide) ?_ rfl
          refine ev_Bk_within ?_
          show Gw zs 1 m_Sea_add 48 [some (.inr (.inl (some 1))), some (.inl a0), some (.inl a1), some (.inl a2), some (.inl a3), some (.inl a4), some (.inl a5)] [.inl (f_Bk_within a4 0 7)] w _
          refine gw_if_ne (t := 53) k_Sea_add f_Sea_add_48 rfl (fun c5 => ?_) (fun c5 => ?_)
          · have h := h.2 c5
            refine gw_aload_n k_Sea_add f_Sea_add_53 rfl ?_
            refine gw_getR k_Sea_add f_Sea_add_54 l_fldT_7_9 hc1 rfl ?_
            refine gw_aload_n k_Sea_add f_Sea_add_57 rfl ?_
            refine gw_getI k_Sea_add f_Sea_add_58 l_fldT_7_45 hc1 rfl ?_
            refine gw_iload k_Sea_add f_Sea_add_61 rfl ?_
            refine gw_zast k_Sea_add f_Sea_add_63 hc2 (vin qn_10 (by decide) c1 c2) ?_
            refine gw_aload_n k_Sea_add f_Sea_add_64 rfl ?_
            refine gw_getR k_Sea_add f_Sea_add_65 l_fldT_7_15 hc1 rfl ?_
            refine gw_aload_n k_Sea_add f_Sea_add_68 rfl ?_
            refine gw_getI k_Sea_add f_Sea_add_69 l_fldT_7_45 hc1 rfl ?_
            rw [show (wr w 2 ((w 1 6).toNatClampNeg) (a5 &&& 1)) 1 6 = w 1 6 from wr_nc (by decide)]
            refine gw_iload_n k_Sea_add f_Sea_add_72 rfl ?_
            refine gw_static [.inr (.inl (some 3)), .inl (w 1 6), .inl a0] k_Sea_add f_Sea_add_73 l_invT_7_49 (by decide) k_Bk_put rfl (by exact Nat.le_of_ble_eq_true rfl) (dc := 0) (by decide) ?_ rfl
            refine ev_put hc3 (by decide) ?_
            show Gw zs 1 m_Sea_add 76 [some (.inr (.inl (some 1))), some (.inl a0), some (.inl a1), some (.inl a2), some (.inl a3), some (.inl a4), some (.inl a5)] [] (g_put (wr w 2 ((w 1 6).toNatClampNeg) (a5 &&& 1)) 3 10 (w 1 6) a0) _
            refine gw_aload_n k_Sea_add f_Sea_add_76 rfl ?_
            refine gw_getR k_Sea_add f_Sea_add_77 l_fldT_7_19 hc1 rfl ?_
            refine gw_aload_n k_Sea_add f_Sea_add_80 rfl ?_
            refine gw_getI k_Sea_add f_Sea_add_81 l_fldT_7_45 hc1 rfl ?_
            rw [show (g_put (wr w 2 ((w 1 6).toNatClampNeg) (a5 &&& 1)) 3 10 (w 1 6) a0) 1 6 = w 1 6 from (g_put_ne (by decide)).trans (wr_nc (by decide))]
            refine gw_iload_n k_Sea_add f_Sea_add_84 rfl ?_
            refine gw_static [.inr (.inl (some 4)), .inl (w 1 6), .inl a1] k_Sea_add f_Sea_add_85 l_invT_7_49 (by decide) k_Bk_put rfl (by exact Nat.le_of_ble_eq_true rfl) (dc := 0) (by decide) ?_ rfl
            refine ev_put hc4 (by decide) ?_
            show Gw zs 1 m_Sea_add 88 [some (.inr (.inl (some 1))), some (.inl a0), some (.inl a1), some (.inl a2), some (.inl a3), some (.inl a4), some (.inl a5)] [] (g_put (g_put (wr w 2 ((w 1 6).toNatClampNeg) (a5 &&& 1)) 3 10 (w 1 6) a0) 4 10 (w 1 6) a1) _
            refine gw_aload_n k_Sea_add f_Sea_add_88 rfl ?_
            refine gw_getR k_Sea_add f_Sea_add_89 l_fldT_7_22 hc1 rfl ?_
            refine gw_aload_n k_Sea_add f_Sea_add_92 rfl ?_
            refine gw_getI k_Sea_add f_Sea_add_93 l_fldT_7_45 hc1 rfl ?_
            rw [show (g_put (g_put (wr w 2 ((w 1 6).toNatClampNeg) (a5 &&& 1)) 3 10 (w 1 6) a0) 4 10 (w 1 6) a1) 1 6 = w 1 6 from (g_put_ne (by decide)).trans ((g_put_ne (by decide)).trans (wr_nc (by decide)))]
            refine gw_iload_n k_Sea_add f_Sea_add_96 rfl ?_
            refine gw_static [.inr (.inl (some 5)), .inl (w 1 6), .inl a2] k_Sea_add f_Sea_add_97 l_invT_7_49 (by decide) k_Bk_put rfl (by exact Nat.le_of_ble_eq_true rfl) (dc := 0) (by decide) ?_ rfl
            refine ev_put hc5 (by decide) ?_
            show Gw zs 1 m_Sea_add 100 [some (.inr (.inl (some 1))), some (.inl a0), some (.inl a1), some (.inl a2), some (.inl a3), some (.inl a4), some (.inl a5)] [] (g_put (g_put (g_put (wr w 2 ((w 1 6).toNatClampNeg) (a5 &&& 1)) 3 10 (w 1 6) a0) 4 10 (w 1 6) a1) 5 10 (w 1 6) a2) _
            refine gw_aload_n k_Sea_add f_Sea_add_100 rfl ?_
            refine gw_getR k_Sea_add f_Sea_add_101 l_fldT_7_25 hc1 rfl ?_
            refine gw_aload_n k_Sea_add f_Sea_add_104 rfl ?_
            refine gw_getI k_Sea_add f_Sea_add_105 l_fldT_7_45 hc1 rfl ?_
            rw [show (g_put (g_put (g_put (wr w 2 ((w 1 6).toNatClampNeg) (a5 &&& 1)) 3 10 (w 1 6) a0) 4 10 (w 1 6) a1) 5 10 (w 1 6) a2) 1 6 = w 1 6 from (g_put_ne (by decide)).trans ((g_put_ne (by decide)).trans ((g_put_ne (by decide)).trans (wr_nc (by decide))))]
            refine gw_iload k_Sea_add f_Sea_add_108 rfl ?_
            refine gw_static [.inr (.inl (some 6)), .inl (w 1 6), .inl a3] k_Sea_add f_Sea_add_110 l_invT_7_49 (by decide) k_Bk_put rfl (by exact Nat.le_of_ble_eq_true rfl) (dc := 0) (by decide) ?_ rfl
            refine ev_put hc6 (by decide) ?_
            show Gw zs 1 m_Sea_add 113 [some (.inr (.inl (some 1))), some (.inl a0), some (.inl a1), some (.inl a2), some (.inl a3), some (.inl a4), some (.inl a5)] [] (g_put (g_put (g_put (g_put (wr w 2 ((w 1 6).toNatClampNeg) (a5 &&& 1)) 3 10 (w 1 6) a0) 4 10 (w 1 6) a1) 5 10 (w 1 6) a2) 6 10 (w 1 6) a3) _
            refine gw_aload_n k_Sea_add f_Sea_add_113 rfl ?_
            refine gw_getR k_Sea_add f_Sea_add_114 l_fldT_7_28 hc1 rfl ?_
            refine gw_aload_n k_Sea_add f_Sea_add_117 rfl ?_
            refine gw_getI k_Sea_add f_Sea_add_118 l_fldT_7_45 hc1 rfl ?_
            rw [show (g_put (g_put (g_put (g_put (wr w 2 ((w 1 6).toNatClampNeg) (a5 &&& 1)) 3 10 (w 1 6) a0) 4 10 (w 1 6) a1) 5 10 (w 1 6) a2) 6 10 (w 1 6) a3) 1 6 = w 1 6 from (g_put_ne (by decide)).trans ((g_put_ne (by decide)).trans ((g_put_ne (by decide)).trans ((g_put_ne (by decide)).trans (wr_nc (by decide)))))]
            refine gw_iload k_Sea_add f_Sea_add_121 rfl ?_
            refine gw_static [.inr (.inl (some 7)), .inl (w 1 6), .inl a4] k_Sea_add f_Sea_add_123 l_invT_7_49 (by decide) k_Bk_put rfl (by exact Nat.le_of_ble_eq_true rfl) (dc := 0) (by decide) ?_ rfl
            refine ev_put hc7 (by decide) ?_
            show Gw zs 1 m_Sea_add 126 [some (.inr (.inl (some 1))), some (.inl a0), some (.inl a1), some (.inl a2), some (.inl a3), some (.inl a4), some (.inl a5)] [] (g_put (g_put (g_put (g_put (g_put (wr w 2 ((w 1 6).toNatClampNeg) (a5 &&& 1)) 3 10 (w 1 6) a0) 4 10 (w 1 6) a1) 5 10 (w 1 6) a2) 6 10 (w 1 6) a3) 7 10 (w 1 6) a4) _
            refine gw_aload_n k_Sea_add f_Sea_add_126 rfl ?_
            refine gw_dup k_Sea_add f_Sea_add_127 ?_
            refine gw_getI k_Sea_add f_Sea_add_128 l_fldT_7_45 hc1 rfl ?_
            rw [show (g_put (g_put (g_put (g_put (g_put (wr w 2 ((w 1 6).toNatClampNeg) (a5 &&& 1)) 3 10 (w 1 6) a0) 4 10 (w 1 6) a1) 5 10 (w 1 6) a2) 6 10 (w 1 6) a3) 7 10 (w 1 6) a4) 1 6 = w 1 6 from (g_put_ne (by decide)).trans ((g_put_ne (by decide)).trans ((g_put_ne (by decide)).trans ((g_put_ne (by decide)).trans ((g_put_ne (by decide)).trans (wr_nc (by decide))))))]
            refine gw_iconst k_Sea_add f_Sea_add_131 qc_1 ?_
            refine gw_iadd k_Sea_add f_Sea_add_132 ?_
            refine gw_put k_Sea_add f_Sea_add_133 l_fldT_7_45 hc1 rfl rfl rfl rfl rfl ?_
            refine gw_aload_n k_Sea_add f_Sea_add_136 rfl ?_
            refine gw_getI k_Sea_add f_Sea_add_137 l_fldT_7_45 hc1 rfl ?_
            rw [show (wr (g_put (g_put (g_put (g_put (g_put (wr w 2 ((w 1 6).toNatClampNeg) (a5 &&& 1)) 3 10 (w 1 6) a0) 4 10 (w 1 6) a1) 5 10 (w 1 6) a2) 6 10 (w 1 6) a3) 7 10 (w 1 6) a4) 1 6 ((w 1 6) + 1)) 1 6 = (w 1 6) + 1 from wr_eq]
            exact gw_iret k_Sea_add f_Sea_add_140 rfl h
          · have c5 := Decidable.not_not.mp c5
            have h := h.1 c5
            refine gw_iconst k_Sea_add f_Sea_add_51 qc_m1 ?_
            exact gw_iret k_Sea_add f_Sea_add_52 rfl h
theorem ev_Sea_add {zs : List Int32} {a0 a1 a2 a3 a4 a5 : Int32} {w : Wd} {Q : Option AV → Wd → Prop} (h : Q (some (.inl (f_Sea_add w a0 a1 a2 a3 a4 a5))) (g_Sea_add w a0 a1 a2 a3 a4 a5)) : Ew zs 1 m_Sea_add [.inr (.inl (some 1)), .inl a0, .inl a1, .inl a2, .inl a3, .inl a4, .inl a5] w Q := by
  refine ew_of k_Sea_add rfl (sg_Sea_add_0 ?_)
  refine ⟨fun c1 => ?_, fun c1 => ?_⟩
  ·
    rw [show f_Sea_add w a0 a1 a2 a3 a4 a5 = (-1) from by unfold f_Sea_add; rw [if_pos c1]] at h
    rw [show g_Sea_add w a0 a1 a2 a3 a4 a5 = w from by unfold g_Sea_add; rw [if_pos c1]] at h
    exact h
  ·
    refine ⟨fun c2 => ?_, fun c2 => ?_⟩
    ·
      rw [show f_Sea_add w a0 a1 a2 a3 a4 a5 = (-1) from by unfold f_Sea_add; rw [if_neg c1, if_pos c2]] at h
      rw [show g_Sea_add w a0 a1 a2 a3 a4 a5 = w from by unfold g_Sea_add; rw [if_neg c1, if_pos c2]] at h
      exact h
    ·
      refine ⟨fun c3 => ?_, fun c3 => ?_⟩
      ·
        rw [show f_Sea_add w a0 a1 a2 a3 a4 a5 = (-1) from by unfold f_Sea_add; rw [if_neg c1, if_neg c2, if_pos c3]] at h
        rw [show g_Sea_add w a0 a1 a2 a3 a4 a5 = w from by unfold g_Sea_add; rw [if_neg c1, if_neg c2, if_pos c3]] at h
        exact h
      ·
        refine ⟨fun c4 => ?_, fun c4 => ?_⟩
        ·
          rw [show f_Sea_add w a0 a1 a2 a3 a4 a5 = (-1) from by unfold f_Sea_add; rw [if_neg c1, if_neg c2, if_neg c3, if_pos c4]] at h
          rw [show g_Sea_add w a0 a1 a2 a3 a4 a5 = w from by unfold g_Sea_add; rw [if_neg c1, if_neg c2, if_neg c3, if_pos c4]] at h
          exact h
        ·
          refine ⟨fun c5 => ?_, fun c5 => ?_⟩
          ·
            rw [show f_Sea_add w a0 a1 a2 a3 a4 a5 = (-1) from by unfold f_Sea_add; rw [if_neg c1, if_neg c2, if_neg c3, if_neg c4, if_pos c5]] at h
            rw [show g_Sea_add w a0 a1 a2 a3 a4 a5 = w from by unfold g_Sea_add; rw [if_neg c1, if_neg c2, if_neg c3, if_neg c4, if_pos c5]] at h
            exact h
          ·
            rw [show f_Sea_add w a0 a1 a2 a3 a4 a5 = ((w 1 6) + 1) from by unfold f_Sea_add; rw [if_neg c1, if_neg c2, if_neg c3, if_neg c4, if_neg c5]] at h
            rw [show g_Sea_add w a0 a1 a2 a3 a4 a5 = (wr (g_put (g_put (g_put (g_put (g_put (wr w 2 ((w 1 6).toNatClampNeg) (a5 &&& 1)) 3 10 (w 1 6) a0) 4 10 (w 1 6) a1) 5 10 (w 1 6) a2) 6 10 (w 1 6) a3) 7 10 (w 1 6) a4) 1 6 ((w 1 6) + 1)) from by unfold g_Sea_add; rw [if_neg c1, if_neg c2, if_neg c3, if_neg c4, if_neg c5]] at h
            exact h
theorem gn_Sea_add {w : Wd} {a0 : Int32} {a1 : Int32} {a2 : Int32} {a3 : Int32} {a4 : Int32} {a5 : Int32} {c k : Nat} (h : c ∉ [1, 2, 3, 4, 5, 6, 7]) : g_Sea_add w a0 a1 a2 a3 a4 a5 c k = w c k := by
  simp only [List.mem_cons, List.not_mem_nil, or_false, not_or] at h
  unfold g_Sea_add
  repeat' split
  all_goals simp [wr, g_put_ne, h]
def f_Sea_tellFromEaster (w : Wd) (a0 : Int32) (a1 : Int32) (a2 : Int32) (a3 : Int32) (a4 : Int32) : Int32 := if (f_Bk_within a0 (-120) 250) = 0 then (-1) else if (f_Bk_within a1 a0 250) = 0 then (-1) else (f_Sea_add w a0 a1 a2 a3 a4 0)
def g_Sea_tellFromEaster (w : Wd) (a0 : Int32) (a1 : Int32) (a2 : Int32) (a3 : Int32) (a4 : Int32) : Wd := if (f_Bk_within a0 (-120) 250) = 0 then w else if (f_Bk_within a1 a0 250) = 0 then w else g_Sea_add w a0 a1 a2 a3 a4 0
theorem sg_Sea_tellFromEaster_0 {zs : List Int32} {a0 a1 a2 a3 a4 : Int32} {w : Wd} {Q : Option AV → Wd → Prop} (h : (((f_Bk_within a0 (-120) 250) = 0 → Q (some (.inl (-1))) w) ∧ (¬ ((f_Bk_within a0 (-120) 250) = 0) → (((f_Bk_within a1 a0 250) = 0 → Q (some (.inl (-1))) w) ∧ (¬ ((f_Bk_within a1 a0 250) = 0) → Q (some (.inl (f_Sea_add w a0 a1 a2 a3 a4 0))) (g_Sea_add w a0 a1 a2 a3 a4 0)))))) : Gw zs 2 m_Sea_tellFromEaster 0 [some (.inr (.inl (some 1))), some (.inl a0), some (.inl a1), some (.inl a2), some (.inl a3), some (.inl a4)] [] w Q := by
  refine gw_iload_n k_Sea_tellFromEaster f_Sea_tellFromEaster_0 rfl ?_
  refine gw_bipush k_Sea_tellFromEaster f_Sea_tellFromEaster_1 qb_m120 ?_
  refine gw_sipush k_Sea_tellFromEaster f_Sea_tellFromEaster_3 qs_250 ?_
  refine gw_static [.inl a0, .inl (-120), .inl 250] k_Sea_tellFromEaster f_Sea_tellFromEaster_6 l_invT_7_31 (by decide) k_Bk_within rfl (by exact Nat.le_of_ble_eq_true rfl) (dc := 0) (by decide) ?_ rfl
  refine ev_Bk_within ?_
  show Gw zs 2 m_Sea_tellFromEaster 9 [some (.inr (.inl (some 1))), some (.inl a0), some (.inl a1), some (.inl a2), some (.inl a3), some (.inl a4)] [.inl (f_Bk_within a0 (-120) 250)] w _
  refine gw_if_eq (t := 23) k_Sea_tellFromEaster f_Sea_tellFromEaster_9 rfl (fun c1 => ?_) (fun c1 => ?_)
  · have h := h.1 c1
    refine gw_iconst k_Sea_tellFromEaster f_Sea_tellFromEaster_23 qc_m1 ?_
    exact gw_iret k_Sea_tellFromEaster f_Sea_tellFromEaster_24 rfl h
  · have h := h.2 c1
    refine gw_iload_n k_Sea_tellFromEaster f_Sea_tellFromEaster_12 rfl ?_
    refine gw_iload_n k_Sea_tellFromEaster f_Sea_tellFromEaster_13 rfl ?_
    refine gw_sipush k_Sea_tellFromEaster f_Sea_tellFromEaster_14 qs_250 ?_
    refine gw_static [.inl a1, .inl a0, .inl 250] k_Sea_tellFromEaster f_Sea_tellFromEaster_17 l_invT_7_31 (by decide) k_Bk_within rfl (by exact Nat.le_of_ble_eq_true rfl) (dc := 0) (by decide) ?_ rfl
    refine ev_Bk_within ?_
    show Gw zs 2 m_Sea_tellFromEaster 20 [some (.inr (.inl (some 1))), some (.inl a0), some (.inl a1), some (.inl a2), some (.inl a3), some (.inl a4)] [.inl (f_Bk_within a1 a0 250)] w _
    refine gw_if_ne (t := 25) k_Sea_tellFromEaster f_Sea_tellFromEaster_20 rfl (fun c2 => ?_) (fun c2 => ?_)
    · have h := h.2 c2
      refine gw_aload_n k_Sea_tellFromEaster f_Sea_tellFromEaster_25 rfl ?_
      refine gw_iload_n k_Sea_tellFromEaster f_Sea_tellFromEaster_26 rfl ?_
      refine gw_iload_n k_Sea_tellFromEaster f_Sea_tellFromEaster_27 rfl ?_
      refine gw_iload_n k_Sea_tellFromEaster f_Sea_tellFromEaster_28 rfl ?_
      refine gw_iload k_Sea_tellFromEaster f_Sea_tellFromEaster_29 rfl ?_
      refine gw_iload k_Sea_tellFromEaster f_Sea_tellFromEaster_31 rfl ?_
      refine gw_iconst k_Sea_tellFromEaster f_Sea_tellFromEaster_33 qc_0 ?_
      refine gw_virtual [.inl a0, .inl a1, .inl a2, .inl a3, .inl a4, .inl 0] k_Sea_tellFromEaster f_Sea_tellFromEaster_34 l_invT_7_35 k_Sea_add hc1 rfl rfl rfl (by exact Nat.le_of_ble_eq_true rfl) (dc := 1) (by decide) ?_ rfl
      refine ev_Sea_add ?_
      show Gw zs 2 m_Sea_tellFromEaster 37 [some (.inr (.inl (some 1))), some (.inl a0), some (.inl a1), some (.inl a2), some (.inl a3), some (.inl a4)] [.inl (f_Sea_add w a0 a1 a2 a3 a4 0)] (g_Sea_add w a0 a1 a2 a3 a4 0) _
      exact gw_iret k_Sea_tellFromEaster f_Sea_tellFromEaster_37 rfl h
    · have c2 := Decidable.not_not.mp c2
      have h := h.1 c2
      refine gw_iconst k_Sea_tellFromEaster f_Sea_tellFromEaster_23 qc_m1 ?_
      exact gw_iret k_Sea_tellFromEaster f_Sea_tellFromEaster_24 rfl h
theorem ev_Sea_tellFromEaster {zs : List Int32} {a0 a1 a2 a3 a4 : Int32} {w : Wd} {Q : Option AV → Wd → Prop} (h : Q (some (.inl (f_Sea_tellFromEaster w a0 a1 a2 a3 a4))) (g_Sea_tellFromEaster w a0 a1 a2 a3 a4)) : Ew zs 2 m_Sea_tellFromEaster [.inr (.inl (some 1)), .inl a0, .inl a1, .inl a2, .inl a3, .inl a4] w Q := by
  refine ew_of k_Sea_tellFromEaster rfl (sg_Sea_tellFromEaster_0 ?_)
  refine ⟨fun c1 => ?_, fun c1 => ?_⟩
  ·
    rw [show f_Sea_tellFromEaster w a0 a1 a2 a3 a4 = (-1) from by unfold f_Sea_tellFromEaster; rw [if_pos c1]] at h
    rw [show g_Sea_tellFromEaster w a0 a1 a2 a3 a4 = w from by unfold g_Sea_tellFromEaster; rw [if_pos c1]] at h
    exact h
  ·
    refine ⟨fun c2 => ?_, fun c2 => ?_⟩
    ·
      rw [show f_Sea_tellFromEaster w a0 a1 a2 a3 a4 = (-1) from by unfold f_Sea_tellFromEaster; rw [if_neg c1, if_pos c2]] at h
      rw [show g_Sea_tellFromEaster w a0 a1 a2 a3 a4 = w from by unfold g_Sea_tellFromEaster; rw [if_neg c1, if_pos c2]] at h
      exact h
    ·
      rw [show f_Sea_tellFromEaster w a0 a1 a2 a3 a4 = (f_Sea_add w a0 a1 a2 a3 a4 0) from by unfold f_Sea_tellFromEaster; rw [if_neg c1, if_neg c2]] at h
      rw [show g_Sea_tellFromEaster w a0 a1 a2 a3 a4 = (g_Sea_add w a0 a1 a2 a3 a4 0) from by unfold g_Sea_tellFromEaster; rw [if_neg c1, if_neg c2]] at h
      exact h
theorem gn_Sea_tellFromEaster {w : Wd} {a0 : Int32} {a1 : Int32} {a2 : Int32} {a3 : Int32} {a4 : Int32} {c k : Nat} (h : c ∉ [1, 2, 3, 4, 5, 6, 7]) : g_Sea_tellFromEaster w a0 a1 a2 a3 a4 c k = w c k := by
  simp only [List.mem_cons, List.not_mem_nil, or_false, not_or] at h
  unfold g_Sea_tellFromEaster
  repeat' split
  all_goals simp [wr, gn_Sea_add, h]
def g_Alm_forget (w : Wd)  : Wd := wr w 16 7 (-1)
theorem sg_Alm_forget_0 {zs : List Int32} {w : Wd} {Q : Option AV → Wd → Prop} (h : Q (none) (wr w 16 7 (-1))) : Gw zs 0 m_Alm_forget 0 [some (.inr (.inl (some 16)))] [] w Q := by
  refine gw_aload_n k_Alm_forget f_Alm_forget_0 rfl ?_
  refine gw_iconst k_Alm_forget f_Alm_forget_1 qc_m1 ?_
  refine gw_put k_Alm_forget f_Alm_forget_2 l_fldT_0_27 hc16 rfl rfl rfl rfl rfl ?_
  exact gw_vret k_Alm_forget f_Alm_forget_5 rfl h
theorem ev_Alm_forget {zs : List Int32} {w : Wd} {Q : Option AV → Wd → Prop} (h : Q (none) (g_Alm_forget w)) : Ew zs 0 m_Alm_forget [.inr (.inl (some 16))] w Q := by
  refine ew_of k_Alm_forget rfl (sg_Alm_forget_0 ?_)
  rw [show g_Alm_forget w = (wr w 16 7 (-1)) from by unfold g_Alm_forget; rfl] at h
  exact h
theorem gn_Alm_forget {w : Wd}  {c k : Nat} (h : c ∉ [16]) : g_Alm_forget w c k = w c k := by
  simp only [List.mem_cons, List.not_mem_nil, or_false, not_or] at h
  unfold g_Alm_forget
  repeat' split
  all_goals simp [wr, h]
def f_Bk_forgetIfTold (a0 : Int32) : Int32 := if a0 = (-1) then a0 else a0
def g_Bk_forgetIfTold (w : Wd) (a0 : Int32) : Wd := if a0 = (-1) then w else g_Alm_forget w
theorem sg_Bk_forgetIfTold_0 {zs : List Int32} {a0 : Int32} {w : Wd} {Q : Option AV → Wd → Prop} (h : ((a0 = (-1) → Q (some (.inl a0)) w) ∧ (¬ (a0 = (-1)) → Q (some (.inl a0)) (g_Alm_forget w)))) : Gw zs 1 m_Bk_forgetIfTold 0 [some (.inr (.inl (some 0))), some (.inl a0)] [] w Q := by
  refine gw_iload_n k_Bk_forgetIfTold f_Bk_forgetIfTold_0 rfl ?_
  refine gw_iconst k_Bk_forgetIfTold f_Bk_forgetIfTold_1 qc_m1 ?_
  refine gw_icmp_eq (t := 12) k_Bk_forgetIfTold f_Bk_forgetIfTold_2 rfl (fun c1 => ?_) (fun c1 => ?_)
  · have h := h.1 c1
    refine gw_iload_n k_Bk_forgetIfTold f_Bk_forgetIfTold_12 rfl ?_
    exact gw_iret k_Bk_forgetIfTold f_Bk_forgetIfTold_13 rfl h
  · have h := h.2 c1
    refine gw_aload_n k_Bk_forgetIfTold f_Bk_forgetIfTold_5 rfl ?_
    refine gw_getR k_Bk_forgetIfTold f_Bk_forgetIfTold_6 l_fldT_10_28 hc0 rfl ?_
    refine gw_virtual [] k_Bk_forgetIfTold f_Bk_forgetIfTold_9 l_invT_10_246 k_Alm_forget hc16 rfl rfl rfl (by exact Nat.le_of_ble_eq_true rfl) (dc := 0) (by decide) ?_ rfl
    refine ev_Alm_forget ?_
    show Gw zs 1 m_Bk_forgetIfTold 12 [some (.inr (.inl (some 0))), some (.inl a0)] [] (g_Alm_forget w) _
    refine gw_iload_n k_Bk_forgetIfTold f_Bk_forgetIfTold_12 rfl ?_
    exact gw_iret k_Bk_forgetIfTold f_Bk_forgetIfTold_13 rfl h
theorem ev_Bk_forgetIfTold {zs : List Int32} {a0 : Int32} {w : Wd} {Q : Option AV → Wd → Prop} (h : Q (some (.inl (f_Bk_forgetIfTold a0))) (g_Bk_forgetIfTold w a0)) : Ew zs 1 m_Bk_forgetIfTold [.inr (.inl (some 0)), .inl a0] w Q := by
  refine ew_of k_Bk_forgetIfTold rfl (sg_Bk_forgetIfTold_0 ?_)
  refine ⟨fun c1 => ?_, fun c1 => ?_⟩
  ·
    rw [show f_Bk_forgetIfTold a0 = a0 from by unfold f_Bk_forgetIfTold; rw [if_pos c1]] at h
    rw [show g_Bk_forgetIfTold w a0 = w from by unfold g_Bk_forgetIfTold; rw [if_pos c1]] at h
    exact h
  ·
    rw [show f_Bk_forgetIfTold a0 = a0 from by unfold f_Bk_forgetIfTold; rw [if_neg c1]] at h
    rw [show g_Bk_forgetIfTold w a0 = (g_Alm_forget w) from by unfold g_Bk_forgetIfTold; rw [if_neg c1]] at h
    exact h
theorem gn_Bk_forgetIfTold {w : Wd} {a0 : Int32} {c k : Nat} (h : c ∉ [16]) : g_Bk_forgetIfTold w a0 c k = w c k := by
  simp only [List.mem_cons, List.not_mem_nil, or_false, not_or] at h
  unfold g_Bk_forgetIfTold
  repeat' split
  all_goals simp [wr, gn_Alm_forget, h]
def f_Bk_season (w : Wd) (a0 : Int32) (a1 : Int32) (a2 : Int32) (a3 : Int32) (a4 : Int32) : Int32 := (f_Bk_forgetIfTold (f_Sea_tellFromEaster w a0 a1 a2 a3 a4))
def g_Bk_season (w : Wd) (a0 : Int32) (a1 : Int32) (a2 : Int32) (a3 : Int32) (a4 : Int32) : Wd := g_Bk_forgetIfTold (g_Sea_tellFromEaster w a0 a1 a2 a3 a4) (f_Sea_tellFromEaster w a0 a1 a2 a3 a4)
theorem sg_Bk_season_0 {zs : List Int32} {a0 a1 a2 a3 a4 : Int32} {w : Wd} {Q : Option AV → Wd → Prop} (h : Q (some (.inl (f_Bk_forgetIfTold (f_Sea_tellFromEaster w a0 a1 a2 a3 a4)))) (g_Bk_forgetIfTold (g_Sea_tellFromEaster w a0 a1 a2 a3 a4) (f_Sea_tellFromEaster w a0 a1 a2 a3 a4))) : Gw zs 3 m_Bk_season 0 [some (.inr (.inl (some 0))), some (.inl a0), some (.inl a1), some (.inl a2), some (.inl a3), some (.inl a4)] [] w Q := by
  refine gw_aload_n k_Bk_season f_Bk_season_0 rfl ?_
  refine gw_aload_n k_Bk_season f_Bk_season_1 rfl ?_
  refine gw_getR k_Bk_season f_Bk_season_2 l_fldT_10_10 hc0 rfl ?_
  refine gw_iload_n k_Bk_season f_Bk_season_5 rfl ?_
  refine gw_iload_n k_Bk_season f_Bk_season_6 rfl ?_
  refine gw_iload_n k_Bk_season f_Bk_season_7 rfl ?_
  refine gw_iload k_Bk_season f_Bk_season_8 rfl ?_
  refine gw_iload k_Bk_season f_Bk_season_10 rfl ?_
  refine gw_virtual [.inl a0, .inl a1, .inl a2, .inl a3, .inl a4] k_Bk_season f_Bk_season_12 l_invT_10_87 k_Sea_tellFromEaster hc1 rfl rfl rfl (by exact Nat.le_of_ble_eq_true rfl) (dc := 2) (by decide) ?_ rfl
  refine ev_Sea_tellFromEaster ?_
  show Gw zs 3 m_Bk_season 15 [some (.inr (.inl (some 0))), some (.inl a0), some (.inl a1), some (.inl a2), some (.inl a3), some (.inl a4)] [.inl (f_Sea_tellFromEaster w a0 a1 a2 a3 a4), .inr (.inl (some 0))] (g_Sea_tellFromEaster w a0 a1 a2 a3 a4) _
  refine gw_virtual [.inl (f_Sea_tellFromEaster w a0 a1 a2 a3 a4)] k_Bk_season f_Bk_season_15 l_invT_10_91 k_Bk_forgetIfTold hc0 rfl rfl rfl (by exact Nat.le_of_ble_eq_true rfl) (dc := 1) (by decide) ?_ rfl
  refine ev_Bk_forgetIfTold ?_
  show Gw zs 3 m_Bk_season 18 [some (.inr (.inl (some 0))), some (.inl a0), some (.inl a1), some (.inl a2), some (.inl a3), some (.inl a4)] [.inl (f_Bk_forgetIfTold (f_Sea_tellFromEaster w a0 a1 a2 a3 a4))] (g_Bk_forgetIfTold (g_Sea_tellFromEaster w a0 a1 a2 a3 a4) (f_Sea_tellFromEaster w a0 a1 a2 a3 a4)) _
  exact gw_iret k_Bk_season f_Bk_season_18 rfl h
theorem ev_Bk_season {zs : List Int32} {a0 a1 a2 a3 a4 : Int32} {w : Wd} {Q : Option AV → Wd → Prop} (h : Q (some (.inl (f_Bk_season w a0 a1 a2 a3 a4))) (g_Bk_season w a0 a1 a2 a3 a4)) : Ew zs 3 m_Bk_season [.inr (.inl (some 0)), .inl a0, .inl a1, .inl a2, .inl a3, .inl a4] w Q := by
  refine ew_of k_Bk_season rfl (sg_Bk_season_0 ?_)
  rw [show f_Bk_season w a0 a1 a2 a3 a4 = (f_Bk_forgetIfTold (f_Sea_tellFromEaster w a0 a1 a2 a3 a4)) from by unfold f_Bk_season; rfl] at h
  rw [show g_Bk_season w a0 a1 a2 a3 a4 = (g_Bk_forgetIfTold (g_Sea_tellFromEaster w a0 a1 a2 a3 a4) (f_Sea_tellFromEaster w a0 a1 a2 a3 a4)) from by unfold g_Bk_season; rfl] at h
  exact h
theorem gn_Bk_season {w : Wd} {a0 : Int32} {a1 : Int32} {a2 : Int32} {a3 : Int32} {a4 : Int32} {c k : Nat} (h : c ∉ [1, 2, 3, 4, 5, 6, 7, 16]) : g_Bk_season w a0 a1 a2 a3 a4 c k = w c k := by
  simp only [List.mem_cons, List.not_mem_nil, or_false, not_or] at h
  unfold g_Bk_season
  repeat' split
  all_goals simp [wr, gn_Bk_forgetIfTold, gn_Sea_tellFromEaster, h]
def f_Day_isRoughDate (a0 : Int32) : Int32 := if (f_Bk_within (a0 / 100) 1 12) = 0 then 0 else if (f_Bk_within (a0 - a0 / 100 * 100) 1 31) = 0 then 0 else 1
theorem sg_Day_isRoughDate_0 {zs : List Int32} {a0 : Int32} {w : Wd} {Q : Option AV → Wd → Prop} (h : (((f_Bk_within (a0 / 100) 1 12) = 0 → Q (some (.inl 0)) w) ∧ (¬ ((f_Bk_within (a0 / 100) 1 12) = 0) → (((f_Bk_within (a0 - a0 / 100 * 100) 1 31) = 0 → Q (some (.inl 0)) w) ∧ (¬ ((f_Bk_within (a0 - a0 / 100 * 100) 1 31) = 0) → Q (some (.inl 1)) w))))) : Gw zs 1 m_Day_isRoughDate 0 [some (.inl a0)] [] w Q := by
  refine gw_iload_n k_Day_isRoughDate f_Day_isRoughDate_0 rfl ?_
  refine gw_bipush k_Day_isRoughDate f_Day_isRoughDate_1 qb_100 ?_
  refine gw_idiv k_Day_isRoughDate f_Day_isRoughDate_3 (by decide) ?_
  refine gw_iconst k_Day_isRoughDate f_Day_isRoughDate_4 qc_1 ?_
  refine gw_bipush k_Day_isRoughDate f_Day_isRoughDate_5 qb_12 ?_
  refine gw_static [.inl (a0 / 100), .inl 1, .inl 12] k_Day_isRoughDate f_Day_isRoughDate_7 l_invT_3_9 (by decide) k_Bk_within rfl (by exact Nat.le_of_ble_eq_true rfl) (dc := 0) (by decide) ?_ rfl
  refine ev_Bk_within ?_
  show Gw zs 1 m_Day_isRoughDate 10 [some (.inl a0)] [.inl (f_Bk_within (a0 / 100) 1 12)] w _
  refine gw_if_eq (t := 30) k_Day_isRoughDate f_Day_isRoughDate_10 rfl (fun c1 => ?_) (fun c1 => ?_)
  · have h := h.1 c1
    refine gw_iconst k_Day_isRoughDate f_Day_isRoughDate_30 qc_0 ?_
    exact gw_zret k_Day_isRoughDate f_Day_isRoughDate_31 rfl (Or.inl rfl) h
  · have h := h.2 c1
    refine gw_iload_n k_Day_isRoughDate f_Day_isRoughDate_13 rfl ?_
    refine gw_bipush k_Day_isRoughDate f_Day_isRoughDate_14 qb_100 ?_
    refine gw_irem k_Day_isRoughDate f_Day_isRoughDate_16 (by decide) ?_
    refine gw_iconst k_Day_isRoughDate f_Day_isRoughDate_17 qc_1 ?_
    refine gw_bipush k_Day_isRoughDate f_Day_isRoughDate_18 qb_31 ?_
    refine gw_static [.inl (a0 - a0 / 100 * 100), .inl 1, .inl 31] k_Day_isRoughDate f_Day_isRoughDate_20 l_invT_3_9 (by decide) k_Bk_within rfl (by exact Nat.le_of_ble_eq_true rfl) (dc := 0) (by decide) ?_ rfl
    refine ev_Bk_within ?_
    show Gw zs 1 m_Day_isRoughDate 23 [some (.inl a0)] [.inl (f_Bk_within (a0 - a0 / 100 * 100) 1 31)] w _
    refine gw_if_eq (t := 30) k_Day_isRoughDate f_Day_isRoughDate_23 rfl (fun c2 => ?_) (fun c2 => ?_)
    · have h := h.1 c2
      refine gw_iconst k_Day_isRoughDate f_Day_isRoughDate_30 qc_0 ?_
      exact gw_zret k_Day_isRoughDate f_Day_isRoughDate_31 rfl (Or.inl rfl) h
    · have h := h.2 c2
      refine gw_iconst k_Day_isRoughDate f_Day_isRoughDate_26 qc_1 ?_
      refine gw_goto (t := 31) k_Day_isRoughDate f_Day_isRoughDate_27 rfl ?_
      exact gw_zret k_Day_isRoughDate f_Day_isRoughDate_31 rfl (Or.inr rfl) h
theorem ev_Day_isRoughDate {zs : List Int32} {a0 : Int32} {w : Wd} {Q : Option AV → Wd → Prop} (h : Q (some (.inl (f_Day_isRoughDate a0))) w) : Ew zs 1 m_Day_isRoughDate [.inl a0] w Q := by
  refine ew_of k_Day_isRoughDate rfl (sg_Day_isRoughDate_0 ?_)
  refine ⟨fun c1 => ?_, fun c1 => ?_⟩
  ·
    rw [show f_Day_isRoughDate a0 = 0 from by unfold f_Day_isRoughDate; rw [if_pos c1]] at h
    exact h
  ·
    refine ⟨fun c2 => ?_, fun c2 => ?_⟩
    ·
      rw [show f_Day_isRoughDate a0 = 0 from by unfold f_Day_isRoughDate; rw [if_neg c1, if_pos c2]] at h
      exact h
    ·
      rw [show f_Day_isRoughDate a0 = 1 from by unfold f_Day_isRoughDate; rw [if_neg c1, if_neg c2]] at h
      exact h
theorem fb_Day_isRoughDate {a0 : Int32} : f_Day_isRoughDate a0 = 0 ∨ f_Day_isRoughDate a0 = 1 := by
  unfold f_Day_isRoughDate
  exact (if01 (Or.inl rfl) (if01 (Or.inl rfl) (Or.inr rfl)))
def f_Sea_tellByDates (w : Wd) (a0 : Int32) (a1 : Int32) (a2 : Int32) (a3 : Int32) (a4 : Int32) : Int32 := if (f_Day_isRoughDate a0) = 0 then (-1) else if (f_Day_isRoughDate a1) = 0 then (-1) else if a0 ≤ a1 then (f_Sea_add w a0 a1 a2 a3 a4 1) else (-1)
def g_Sea_tellByDates (w : Wd) (a0 : Int32) (a1 : Int32) (a2 : Int32) (a3 : Int32) (a4 : Int32) : Wd := if (f_Day_isRoughDate a0) = 0 then w else if (f_Day_isRoughDate a1) = 0 then w else if a0 ≤ a1 then g_Sea_add w a0 a1 a2 a3 a4 1 else w
theorem sg_Sea_tellByDates_0 {zs : List Int32} {a0 a1 a2 a3 a4 : Int32} {w : Wd} {Q : Option AV → Wd → Prop} (h : (((f_Day_isRoughDate a0) = 0 → Q (some (.inl (-1))) w) ∧ (¬ ((f_Day_isRoughDate a0) = 0) → (((f_Day_isRoughDate a1) = 0 → Q (some (.inl (-1))) w) ∧ (¬ ((f_Day_isRoughDate a1) = 0) → ((a0 ≤ a1 → Q (some (.inl (f_Sea_add w a0 a1 a2 a3 a4 1))) (g_Sea_add w a0 a1 a2 a3 a4 1)) ∧ (¬ (a0 ≤ a1) → Q (some (.inl (-1))) w))))))) : Gw zs 2 m_Sea_tellByDates 0 [some (.inr (.inl (some 1))), some (.inl a0), some (.inl a1), some (.inl a2), some (.inl a3), some (.inl a4)] [] w Q := by
  refine gw_iload_n k_Sea_tellByDates f_Sea_tellByDates_0 rfl ?_
  refine gw_static [.inl a0] k_Sea_tellByDates f_Sea_tellByDates_1 l_invT_7_39 (by decide) k_Day_isRoughDate rfl (by exact Nat.le_of_ble_eq_true rfl) (dc := 1) (by decide) ?_ rfl
  refine ev_Day_isRoughDate ?_
  show Gw zs 2 m_Sea_tellByDates 4 [some (.inr (.inl (some 1))), some (.inl a0), some (.inl a1), some (.inl a2), some (.inl a3), some (.inl a4)] [.inl (f_Day_isRoughDate a0)] w _
  refine gw_if_eq (t := 19) k_Sea_tellByDates f_Sea_tellByDates_4 rfl (fun c1 => ?_) (fun c1 => ?_)
  · have h := h.1 c1
    refine gw_iconst k_Sea_tellByDates f_Sea_tellByDates_19 qc_m1 ?_
    exact gw_iret k_Sea_tellByDates f_Sea_tellByDates_20 rfl h
  · have h := h.2 c1
    refine gw_iload_n k_Sea_tellByDates f_Sea_tellByDates_7 rfl ?_
    refine gw_static [.inl a1] k_Sea_tellByDates f_Sea_tellByDates_8 l_invT_7_39 (by decide) k_Day_isRoughDate rfl (by exact Nat.le_of_ble_eq_true rfl) (dc := 1) (by decide) ?_ rfl
    refine ev_Day_isRoughDate ?_
    show Gw zs 2 m_Sea_tellByDates 11 [some (.inr (.inl (some 1))), some (.inl a0), some (.inl a1), some (.inl a2), some (.inl a3), some (.inl a4)] [.inl (f_Day_isRoughDate a1)] w _
    refine gw_if_eq (t := 19) k_Sea_tellByDates f_Sea_tellByDates_11 rfl (fun c2 => ?_) (fun c2 => ?_)
    · have h := h.1 c2
      refine gw_iconst k_Sea_tellByDates f_Sea_tellByDates_19 qc_m1 ?_
      exact gw_iret k_Sea_tellByDates f_Sea_tellByDates_20 rfl h
    · have h := h.2 c2
      refine gw_iload_n k_Sea_tellByDates f_Sea_tellByDates_14 rfl ?_
      refine gw_iload_n k_Sea_tellByDates f_Sea_tellByDates_15 rfl ?_
      refine gw_icmp_le (t := 21) k_Sea_tellByDates f_Sea_tellByDates_16 rfl (fun c3 => ?_) (fun c3 => ?_)
      · have h := h.1 c3
        refine gw_aload_n k_Sea_tellByDates f_Sea_tellByDates_21 rfl ?_
        refine gw_iload_n k_Sea_tellByDates f_Sea_tellByDates_22 rfl ?_
        refine gw_iload_n k_Sea_tellByDates f_Sea_tellByDates_23 rfl ?_
        refine gw_iload_n k_Sea_tellByDates f_Sea_tellByDates_24 rfl ?_
        refine gw_iload k_Sea_tellByDates f_Sea_tellByDates_25 rfl ?_
        refine gw_iload k_Sea_tellByDates f_Sea_tellByDates_27 rfl ?_
        refine gw_iconst k_Sea_tellByDates f_Sea_tellByDates_29 qc_1 ?_
        refine gw_virtual [.inl a0, .inl a1, .inl a2, .inl a3, .inl a4, .inl 1] k_Sea_tellByDates f_Sea_tellByDates_30 l_invT_7_35 k_Sea_add hc1 rfl rfl rfl (by exact Nat.le_of_ble_eq_true rfl) (dc := 1) (by decide) ?_ rfl
        refine ev_Sea_add ?_
        show Gw zs 2 m_Sea_tellByDates 33 [some (.inr (.inl (some 1))), some (.inl a0), some (.inl a1), some (.inl a2), some (.inl a3), some (.inl a4)] [.inl (f_Sea_add w a0 a1 a2 a3 a4 1)] (g_Sea_add w a0 a1 a2 a3 a4 1) _
        exact gw_iret k_Sea_tellByDates f_Sea_tellByDates_33 rfl h
      · have h := h.2 c3
        refine gw_iconst k_Sea_tellByDates f_Sea_tellByDates_19 qc_m1 ?_
        exact gw_iret k_Sea_tellByDates f_Sea_tellByDates_20 rfl h
theorem ev_Sea_tellByDates {zs : List Int32} {a0 a1 a2 a3 a4 : Int32} {w : Wd} {Q : Option AV → Wd → Prop} (h : Q (some (.inl (f_Sea_tellByDates w a0 a1 a2 a3 a4))) (g_Sea_tellByDates w a0 a1 a2 a3 a4)) : Ew zs 2 m_Sea_tellByDates [.inr (.inl (some 1)), .inl a0, .inl a1, .inl a2, .inl a3, .inl a4] w Q := by
  refine ew_of k_Sea_tellByDates rfl (sg_Sea_tellByDates_0 ?_)
  refine ⟨fun c1 => ?_, fun c1 => ?_⟩
  ·
    rw [show f_Sea_tellByDates w a0 a1 a2 a3 a4 = (-1) from by unfold f_Sea_tellByDates; rw [if_pos c1]] at h
    rw [show g_Sea_tellByDates w a0 a1 a2 a3 a4 = w from by unfold g_Sea_tellByDates; rw [if_pos c1]] at h
    exact h
  ·
    refine ⟨fun c2 => ?_, fun c2 => ?_⟩
    ·
      rw [show f_Sea_tellByDates w a0 a1 a2 a3 a4 = (-1) from by unfold f_Sea_tellByDates; rw [if_neg c1, if_pos c2]] at h
      rw [show g_Sea_tellByDates w a0 a1 a2 a3 a4 = w from by unfold g_Sea_tellByDates; rw [if_neg c1, if_pos c2]] at h
      exact h
    ·
      refine ⟨fun c3 => ?_, fun c3 => ?_⟩
      ·
        rw [show f_Sea_tellByDates w a0 a1 a2 a3 a4 = (f_Sea_add w a0 a1 a2 a3 a4 1) from by unfold f_Sea_tellByDates; rw [if_neg c1, if_neg c2, if_pos c3]] at h
        rw [show g_Sea_tellByDates w a0 a1 a2 a3 a4 = (g_Sea_add w a0 a1 a2 a3 a4 1) from by unfold g_Sea_tellByDates; rw [if_neg c1, if_neg c2, if_pos c3]] at h
        exact h
      ·
        rw [show f_Sea_tellByDates w a0 a1 a2 a3 a4 = (-1) from by unfold f_Sea_tellByDates; rw [if_neg c1, if_neg c2, if_neg c3]] at h
        rw [show g_Sea_tellByDates w a0 a1 a2 a3 a4 = w from by unfold g_Sea_tellByDates; rw [if_neg c1, if_neg c2, if_neg c3]] at h
        exact h
theorem gn_Sea_tellByDates {w : Wd} {a0 : Int32} {a1 : Int32} {a2 : Int32} {a3 : Int32} {a4 : Int32} {c k : Nat} (h : c ∉ [1, 2, 3, 4, 5, 6, 7]) : g_Sea_tellByDates w a0 a1 a2 a3 a4 c k = w c k := by
  simp only [List.mem_cons, List.not_mem_nil, or_false, not_or] at h
  unfold g_Sea_tellByDates
  repeat' split
  all_goals simp [wr, gn_Sea_add, h]
def f_Bk_dated (w : Wd) (a0 : Int32) (a1 : Int32) (a2 : Int32) (a3 : Int32) (a4 : Int32) : Int32 := (f_Bk_forgetIfTold (f_Sea_tellByDates w a0 a1 a2 a3 a4))
def g_Bk_dated (w : Wd) (a0 : Int32) (a1 : Int32) (a2 : Int32) (a3 : Int32) (a4 : Int32) : Wd := g_Bk_forgetIfTold (g_Sea_tellByDates w a0 a1 a2 a3 a4) (f_Sea_tellByDates w a0 a1 a2 a3 a4)
theorem sg_Bk_dated_0 {zs : List Int32} {a0 a1 a2 a3 a4 : Int32} {w : Wd} {Q : Option AV → Wd → Prop} (h : Q (some (.inl (f_Bk_forgetIfTold (f_Sea_tellByDates w a0 a1 a2 a3 a4)))) (g_Bk_forgetIfTold (g_Sea_tellByDates w a0 a1 a2 a3 a4) (f_Sea_tellByDates w a0 a1 a2 a3 a4))) : Gw zs 3 m_Bk_dated 0 [some (.inr (.inl (some 0))), some (.inl a0), some (.inl a1), some (.inl a2), some (.inl a3), some (.inl a4)] [] w Q := by
  refine gw_aload_n k_Bk_dated f_Bk_dated_0 rfl ?_
  refine gw_aload_n k_Bk_dated f_Bk_dated_1 rfl ?_
  refine gw_getR k_Bk_dated f_Bk_dated_2 l_fldT_10_10 hc0 rfl ?_
  refine gw_iload_n k_Bk_dated f_Bk_dated_5 rfl ?_
  refine gw_iload_n k_Bk_dated f_Bk_dated_6 rfl ?_
  refine gw_iload_n k_Bk_dated f_Bk_dated_7 rfl ?_
  refine gw_iload k_Bk_dated f_Bk_dated_8 rfl ?_
  refine gw_iload k_Bk_dated f_Bk_dated_10 rfl ?_
  refine gw_virtual [.inl a0, .inl a1, .inl a2, .inl a3, .inl a4] k_Bk_dated f_Bk_dated_12 l_invT_10_94 k_Sea_tellByDates hc1 rfl rfl rfl (by exact Nat.le_of_ble_eq_true rfl) (dc := 2) (by decide) ?_ rfl
  refine ev_Sea_tellByDates ?_
  show Gw zs 3 m_Bk_dated 15 [some (.inr (.inl (some 0))), some (.inl a0), some (.inl a1), some (.inl a2), some (.inl a3), some (.inl a4)] [.inl (f_Sea_tellByDates w a0 a1 a2 a3 a4), .inr (.inl (some 0))] (g_Sea_tellByDates w a0 a1 a2 a3 a4) _
  refine gw_virtual [.inl (f_Sea_tellByDates w a0 a1 a2 a3 a4)] k_Bk_dated f_Bk_dated_15 l_invT_10_91 k_Bk_forgetIfTold hc0 rfl rfl rfl (by exact Nat.le_of_ble_eq_true rfl) (dc := 1) (by decide) ?_ rfl
  refine ev_Bk_forgetIfTold ?_
  show Gw zs 3 m_Bk_dated 18 [some (.inr (.inl (some 0))), some (.inl a0), some (.inl a1), some (.inl a2), some (.inl a3), some (.inl a4)] [.inl (f_Bk_forgetIfTold (f_Sea_tellByDates w a0 a1 a2 a3 a4))] (g_Bk_forgetIfTold (g_Sea_tellByDates w a0 a1 a2 a3 a4) (f_Sea_tellByDates w a0 a1 a2 a3 a4)) _
  exact gw_iret k_Bk_dated f_Bk_dated_18 rfl h
theorem ev_Bk_dated {zs : List Int32} {a0 a1 a2 a3 a4 : Int32} {w : Wd} {Q : Option AV → Wd → Prop} (h : Q (some (.inl (f_Bk_dated w a0 a1 a2 a3 a4))) (g_Bk_dated w a0 a1 a2 a3 a4)) : Ew zs 3 m_Bk_dated [.inr (.inl (some 0)), .inl a0, .inl a1, .inl a2, .inl a3, .inl a4] w Q := by
  refine ew_of k_Bk_dated rfl (sg_Bk_dated_0 ?_)
  rw [show f_Bk_dated w a0 a1 a2 a3 a4 = (f_Bk_forgetIfTold (f_Sea_tellByDates w a0 a1 a2 a3 a4)) from by unfold f_Bk_dated; rfl] at h
  rw [show g_Bk_dated w a0 a1 a2 a3 a4 = (g_Bk_forgetIfTold (g_Sea_tellByDates w a0 a1 a2 a3 a4) (f_Sea_tellByDates w a0 a1 a2 a3 a4)) from by unfold g_Bk_dated; rfl] at h
  exact h
theorem gn_Bk_dated {w : Wd} {a0 : Int32} {a1 : Int32} {a2 : Int32} {a3 : Int32} {a4 : Int32} {c k : Nat} (h : c ∉ [1, 2, 3, 4, 5, 6, 7, 16]) : g_Bk_dated w a0 a1 a2 a3 a4 c k = w c k := by
  simp only [List.mem_cons, List.not_mem_nil, or_false, not_or] at h
  unfold g_Bk_dated
  repeat' split
  all_goals simp [wr, gn_Bk_forgetIfTold, gn_Sea_tellByDates, h]
def f_Day_isEverDate (a0 : Int32) : Int32 := if (f_Day_dayOf 2000 (a0 / 100) (a0 - a0 / 100 * 100)) = (-1) then 0 else 1
theorem sg_Day_isEverDate_0 {zs : List Int32} {a0 : Int32} {w : Wd} {Q : Option AV → Wd → Prop} (h : (((f_Day_dayOf 2000 (a0 / 100) (a0 - a0 / 100 * 100)) = (-1) → Q (some (.inl 0)) w) ∧ (¬ ((f_Day_dayOf 2000 (a0 / 100) (a0 - a0 / 100 * 100)) = (-1)) → Q (some (.inl 1)) w))) : Gw zs 3 m_Day_isEverDate 0 [some (.inl a0)] [] w Q := by
  refine gw_sipush k_Day_isEverDate f_Day_isEverDate_0 qs_2000 ?_
  refine gw_iload_n k_Day_isEverDate f_Day_isEverDate_3 rfl ?_
  refine gw_bipush k_Day_isEverDate f_Day_isEverDate_4 qb_100 ?_
  refine gw_idiv k_Day_isEverDate f_Day_isEverDate_6 (by decide) ?_
  refine gw_iload_n k_Day_isEverDate f_Day_isEverDate_7 rfl ?_
  refine gw_bipush k_Day_isEverDate f_Day_isEverDate_8 qb_100 ?_
  refine gw_irem k_Day_isEverDate f_Day_isEverDate_10 (by decide) ?_
  refine gw_static [.inl 2000, .inl (a0 / 100), .inl (a0 - a0 / 100 * 100)] k_Day_isEverDate f_Day_isEverDate_11 l_invT_3_37 (by decide) k_Day_dayOf rfl (by exact Nat.le_of_ble_eq_true rfl) (dc := 2) (by decide) ?_ rfl
  refine ev_Day_dayOf ?_
  show Gw zs 3 m_Day_isEverDate 14 [some (.inl a0)] [.inl (f_Day_dayOf 2000 (a0 / 100) (a0 - a0 / 100 * 100))] w _
  refine gw_iconst k_Day_isEverDate f_Day_isEverDate_14 qc_m1 ?_
  refine gw_icmp_eq (t := 22) k_Day_isEverDate f_Day_isEverDate_15 rfl (fun c1 => ?_) (fun c1 => ?_)
  · have h := h.1 c1
    refine gw_iconst k_Day_isEverDate f_Day_isEverDate_22 qc_0 ?_
    exact gw_zret k_Day_isEverDate f_Day_isEverDate_23 rfl (Or.inl rfl) h
  · have h := h.2 c1
    refine gw_iconst k_Day_isEverDate f_Day_isEverDate_18 qc_1 ?_
    refine gw_goto (t := 23) k_Day_isEverDate f_Day_isEverDate_19 rfl ?_
    exact gw_zret k_Day_isEverDate f_Day_isEverDate_23 rfl (Or.inr rfl) h
theorem ev_Day_isEverDate {zs : List Int32} {a0 : Int32} {w : Wd} {Q : Option AV → Wd → Prop} (h : Q (some (.inl (f_Day_isEverDate a0))) w) : Ew zs 3 m_Day_isEverDate [.inl a0] w Q := by
  refine ew_of k_Day_isEverDate rfl (sg_Day_isEverDate_0 ?_)
  refine ⟨fun c1 => ?_, fun c1 => ?_⟩
  ·
    rw [show f_Day_isEverDate a0 = 0 from by unfold f_Day_isEverDate; rw [if_pos c1]] at h
    exact h
  ·
    rw [show f_Day_isEverDate a0 = 1 from by unfold f_Day_isEverDate; rw [if_neg c1]] at h
    exact h
theorem fb_Day_isEverDate {a0 : Int32} : f_Day_isEverDate a0 = 0 ∨ f_Day_isEverDate a0 = 1 := by
  unfold f_Day_isEverDate
  exact (if01 (Or.inl rfl) (Or.inr rfl))
def f_Fea_isWhen (a0 : Int32) (a1 : Int32) : Int32 := if a0 = 0 then (f_Day_isEverDate a1) else if a0 = 1 then (f_Bk_within a1 (-120) 250) else if a0 = 2 then if (f_Bk_within (a1 / 100) 1 12) = 0 then 0 else if (f_Bk_within ((a1 / 10) - (a1 / 10) / 10 * 10) 0 6) = 0 then 0 else if (f_Bk_within (a1 - a1 / 10 * 10) 1 5) = 0 then 0 else 1 else 0
theorem sg_Fea_isWhen_0 {zs : List Int32} {a0 a1 : Int32} {w : Wd} {Q : Option AV → Wd → Prop} (h : ((a0 = 0 → Q (some (.inl (f_Day_isEverDate a1))) w) ∧ (a0 = 1 → Q (some (.inl (f_Bk_within a1 (-120) 250))) w) ∧ (a0 = 2 → (((f_Bk_within (a1 / 100) 1 12) = 0 → Q (some (.inl 0)) w) ∧ (¬ ((f_Bk_within (a1 / 100) 1 12) = 0) → (((f_Bk_within ((a1 / 10) - (a1 / 10) / 10 * 10) 0 6) = 0 → Q (some (.inl 0)) w) ∧ (¬ ((f_Bk_within ((a1 / 10) - (a1 / 10) / 10 * 10) 0 6) = 0) → (((f_Bk_within (a1 - a1 / 10 * 10) 1 5) = 0 → Q (some (.inl 0)) w) ∧ (¬ ((f_Bk_within (a1 - a1 / 10 * 10) 1 5) = 0) → Q (some (.inl 1)) w))))))) ∧ (¬ a0 = 0 → ¬ a0 = 1 → ¬ a0 = 2 → Q (some (.inl 0)) w))) : Gw zs 4 m_Fea_isWhen 0 [some (.inl a0), some (.inl a1)] [] w Q := by
  refine gw_iload_n k_Fea_isWhen f_Fea_isWhen_0 rfl ?_
  refine gw_tsw k_Fea_isWhen f_Fea_isWhen_1 (by decide) (by decide) (fun q hq hx => ?_) (fun hx => ?_)
  · match q, hq, hx with
    | 0, hq, hx =>
      have c1 : a0 = 0 := hx.trans (by decide)
      have h := h.1 c1
      refine ⟨_, 28, rfl, rfl, ?_⟩
      refine gw_iload_n k_Fea_isWhen f_Fea_isWhen_28 rfl ?_
      refine gw_static [.inl a1] k_Fea_isWhen f_Fea_isWhen_29 l_invT_4_53 (by decide) k_Day_isEverDate rfl (by exact Nat.le_of_ble_eq_true rfl) (dc := 3) (by decide) ?_ rfl
      refine ev_Day_isEverDate ?_
      show Gw zs 4 m_Fea_isWhen 32 [some (.inl a0), some (.inl a1)] [.inl (f_Day_isEverDate a1)] w _
      exact gw_zret k_Fea_isWhen f_Fea_isWhen_32 rfl (fb_Day_isEverDate ..) h
    | 1, hq, hx =>
      have c2 : a0 = 1 := hx.trans (by decide)
      have h := h.2.1 c2
      refine ⟨_, 33, rfl, rfl, ?_⟩
      refine gw_iload_n k_Fea_isWhen f_Fea_isWhen_33 rfl ?_
      refine gw_bipush k_Fea_isWhen f_Fea_isWhen_34 qb_m120 ?_
      refine gw_sipush k_Fea_isWhen f_Fea_isWhen_36 qs_250 ?_
      refine gw_static [.inl a1, .inl (-120), .inl 250] k_Fea_isWhen f_Fea_isWhen_39 l_invT_4_45 (by decide) k_Bk_within rfl (by exact Nat.le_of_ble_eq_true rfl) (dc := 0) (by decide) ?_ rfl
      refine ev_Bk_within ?_
      show Gw zs 4 m_Fea_isWhen 42 [some (.inl a0), some (.inl a1)] [.inl (f_Bk_within a1 (-120) 250)] w _
      exact gw_zret k_Fea_isWhen f_Fea_isWhen_42 rfl (fb_Bk_within ..) h
    | 2, hq, hx =>
      have c3 : a0 = 2 := hx.trans (by decide)
      have h := h.2.2.1 c3
      refine ⟨_, 43, rfl, rfl, ?_⟩
      refine gw_iload_n k_Fea_isWhen f_Fea_isWhen_43 rfl ?_
      refine gw_bipush k_Fea_isWhen f_Fea_isWhen_44 qb_100 ?_
      refine gw_idiv k_Fea_isWhen f_Fea_isWhen_46 (by decide) ?_
      refine gw_iconst k_Fea_isWhen f_Fea_isWhen_47 qc_1 ?_
      refine gw_bipush k_Fea_isWhen f_Fea_isWhen_48 qb_12 ?_
      refine gw_static [.inl (a1 / 100), .inl 1, .inl 12] k_Fea_isWhen f_Fea_isWhen_50 l_invT_4_45 (by decide) k_Bk_within rfl (by exact Nat.le_of_ble_eq_true rfl) (dc := 0) (by decide) ?_ rfl
      refine ev_Bk_within ?_
      show Gw zs 4 m_Fea_isWhen 53 [some (.inl a0), some (.inl a1)] [.inl (f_Bk_within (a1 / 100) 1 12)] w _
      refine gw_if_eq (t := 88) k_Fea_isWhen f_Fea_isWhen_53 rfl (fun c4 => ?_) (fun c4 => ?_)
      · have h := h.1 c4
        refine gw_iconst k_Fea_isWhen f_Fea_isWhen_88 qc_0 ?_
        exact gw_zret k_Fea_isWhen f_Fea_isWhen_89 rfl (Or.inl rfl) h
      · have h := h.2 c4
        refine gw_iload_n k_Fea_isWhen f_Fea_isWhen_56 rfl ?_
        refine gw_bipush k_Fea_isWhen f_Fea_isWhen_57 qb_10 ?_
        refine gw_idiv k_Fea_isWhen f_Fea_isWhen_59 (by decide) ?_
        refine gw_bipush k_Fea_isWhen f_Fea_isWhen_60 qb_10 ?_
        refine gw_irem k_Fea_isWhen f_Fea_isWhen_62 (by decide) ?_
        refine gw_iconst k_Fea_isWhen f_Fea_isWhen_63 qc_0 ?_
        refine gw_bipush k_Fea_isWhen f_Fea_isWhen_64 qb_6 ?_
        refine gw_static [.inl ((a1 / 10) - (a1 / 10) / 10 * 10), .inl 0, .inl 6] k_Fea_isWhen f_Fea_isWhen_66 l_invT_4_45 (by decide) k_Bk_within rfl (by exact Nat.le_of_ble_eq_true rfl) (dc := 0) (by decide) ?_ rfl
        refine ev_Bk_within ?_
        show Gw zs 4 m_Fea_isWhen 69 [some (.inl a0), some (.inl a1)] [.inl (f_Bk_within ((a1 / 10) - (a1 / 10) / 10 * 10) 0 6)] w _
        refine gw_if_eq (t := 88) k_Fea_isWhen f_Fea_isWhen_69 rfl (fun c5 => ?_) (fun c5 => ?_)
        · have h := h.1 c5
          refine gw_iconst k_Fea_isWhen f_Fea_isWhen_88 qc_0 ?_
          exact gw_zret k_Fea_isWhen f_Fea_isWhen_89 rfl (Or.inl rfl) h
        · have h := h.2 c5
          refine gw_iload_n k_Fea_isWhen f_Fea_isWhen_72 rfl ?_
          refine gw_bipush k_Fea_isWhen f_Fea_isWhen_73 qb_10 ?_
          refine gw_irem k_Fea_isWhen f_Fea_isWhen_75 (by decide) ?_
          refine gw_iconst k_Fea_isWhen f_Fea_isWhen_76 qc_1 ?_
          refine gw_iconst k_Fea_isWhen f_Fea_isWhen_77 qc_5 ?_
          refine gw_static [.inl (a1 - a1 / 10 * 10), .inl 1, .inl 5] k_Fea_isWhen f_Fea_isWhen_78 l_invT_4_45 (by decide) k_Bk_within rfl (by exact Nat.le_of_ble_eq_true rfl) (dc := 0) (by decide) ?_ rfl
          refine ev_Bk_within ?_
          show Gw zs 4 m_Fea_isWhen 81 [some (.inl a0), some (.inl a1)] [.inl (f_Bk_within (a1 - a1 / 10 * 10) 1 5)] w _
          refine gw_if_eq (t := 88) k_Fea_isWhen f_Fea_isWhen_81 rfl (fun c6 => ?_) (fun c6 => ?_)
          · have h := h.1 c6
            refine gw_iconst k_Fea_isWhen f_Fea_isWhen_88 qc_0 ?_
            exact gw_zret k_Fea_isWhen f_Fea_isWhen_89 rfl (Or.inl rfl) h
          · have h := h.2 c6
            refine gw_iconst k_Fea_isWhen f_Fea_isWhen_84 qc_1 ?_
            refine gw_goto (t := 89) k_Fea_isWhen f_Fea_isWhen_85 rfl ?_
            exact gw_zret k_Fea_isWhen f_Fea_isWhen_89 rfl (Or.inr rfl) h
    | q + 3, hq, hx => exact absurd hq (by show ¬ (q + 3 < 3); omega)
  ·
    have c7 : ¬ a0 = 0 := fun c => hx 0 (by decide) (c.trans (by decide))
    have c8 : ¬ a0 = 1 := fun c => hx 1 (by decide) (c.trans (by decide))
    have c9 : ¬ a0 = 2 := fun c => hx 2 (by decide) (c.trans (by decide))
    have h := h.2.2.2 c7 c8 c9
    refine ⟨90, rfl, ?_⟩
    refine gw_iconst k_Fea_isWhen f_Fea_isWhen_90 qc_0 ?_
    exact gw_zret k_Fea_isWhen f_Fea_isWhen_91 rfl (Or.inl rfl) h
theorem ev_Fea_isWhen {zs : List Int32} {a0 a1 : Int32} {w : Wd} {Q : Option AV → Wd → Prop} (h : Q (some (.inl (f_Fea_isWhen a0 a1))) w) : Ew zs 4 m_Fea_isWhen [.inl a0, .inl a1] w Q := by
  refine ew_of k_Fea_isWhen rfl (sg_Fea_isWhen_0 ?_)
  refine ⟨fun c0_1 => ?_, fun c1_1 => ?_, fun c2_1 => ?_, fun c0_1 c1_1 c2_1 => ?_⟩
  ·
    rw [show f_Fea_isWhen a0 a1 = (f_Day_isEverDate a1) from by unfold f_Fea_isWhen; rw [if_pos c0_1]] at h
    exact h
  ·
    rw [show f_Fea_isWhen a0 a1 = (f_Bk_within a1 (-120) 250) from by unfold f_Fea_isWhen; rw [if_neg (by rw [c1_1]; decide), if_pos c1_1]] at h
    exact h
  ·
    refine ⟨fun c4 => ?_, fun c4 => ?_⟩
    ·
      rw [show f_Fea_isWhen a0 a1 = 0 from by unfold f_Fea_isWhen; rw [if_neg (by rw [c2_1]; decide), if_neg (by rw [c2_1]; decide), if_pos c2_1, if_pos c4]] at h
      exact h
    ·
      refine ⟨fun c5 => ?_, fun c5 => ?_⟩
      ·
        rw [show f_Fea_isWhen a0 a1 = 0 from by unfold f_Fea_isWhen; rw [if_neg (by rw [c2_1]; decide), if_neg (by rw [c2_1]; decide), if_pos c2_1, if_neg c4, if_pos c5]] at h
        exact h
      ·
        refine ⟨fun c6 => ?_, fun c6 => ?_⟩
        ·
          rw [show f_Fea_isWhen a0 a1 = 0 from by unfold f_Fea_isWhen; rw [if_neg (by rw [c2_1]; decide), if_neg (by rw [c2_1]; decide), if_pos c2_1, if_neg c4, if_neg c5, if_pos c6]] at h
          exact h
        ·
          rw [show f_Fea_isWhen a0 a1 = 1 from by unfold f_Fea_isWhen; rw [if_neg (by rw [c2_1]; decide), if_neg (by rw [c2_1]; decide), if_pos c2_1, if_neg c4, if_neg c5, if_neg c6]] at h
          exact h
  ·
    rw [show f_Fea_isWhen a0 a1 = 0 from by unfold f_Fea_isWhen; rw [if_neg c0_1, if_neg c1_1, if_neg c2_1]] at h
    exact h
theorem fb_Fea_isWhen {a0 : Int32} {a1 : Int32} : f_Fea_isWhen a0 a1 = 0 ∨ f_Fea_isWhen a0 a1 = 1 := by
  unfold f_Fea_isWhen
  exact (if01 (fb_Day_isEverDate ..) (if01 (fb_Bk_within ..) (if01 (if01 (Or.inl rfl) (if01 (Or.inl rfl) (if01 (Or.inl rfl) (Or.inr rfl)))) (Or.inl rfl))))
def f_Fea_isRankAndWay (a0 : Int32) (a1 : Int32) : Int32 := if (f_Bk_within a0 1 9) = 0 then 0 else if (f_Bk_within a1 0 2) = 0 then 0 else 1
theorem sg_Fea_isRankAndWay_0 {zs : List Int32} {a0 a1 : Int32} {w : Wd} {Q : Option AV → Wd → Prop} (h : (((f_Bk_within a0 1 9) = 0 → Q (some (.inl 0)) w) ∧ (¬ ((f_Bk_within a0 1 9) = 0) → (((f_Bk_within a1 0 2) = 0 → Q (some (.inl 0)) w) ∧ (¬ ((f_Bk_within a1 0 2) = 0) → Q (some (.inl 1)) w))))) : Gw zs 1 m_Fea_isRankAndWay 0 [some (.inl a0), some (.inl a1)] [] w Q := by
  refine gw_iload_n k_Fea_isRankAndWay f_Fea_isRankAndWay_0 rfl ?_
  refine gw_iconst k_Fea_isRankAndWay f_Fea_isRankAndWay_1 qc_1 ?_
  refine gw_bipush k_Fea_isRankAndWay f_Fea_isRankAndWay_2 qb_9 ?_
  refine gw_static [.inl a0, .inl 1, .inl 9] k_Fea_isRankAndWay f_Fea_isRankAndWay_4 l_invT_4_45 (by decide) k_Bk_within rfl (by exact Nat.le_of_ble_eq_true rfl) (dc := 0) (by decide) ?_ rfl
  refine ev_Bk_within ?_
  show Gw zs 1 m_Fea_isRankAndWay 7 [some (.inl a0), some (.inl a1)] [.inl (f_Bk_within a0 1 9)] w _
  refine gw_if_eq (t := 23) k_Fea_isRankAndWay f_Fea_isRankAndWay_7 rfl (fun c1 => ?_) (fun c1 => ?_)
  · have h := h.1 c1
    refine gw_iconst k_Fea_isRankAndWay f_Fea_isRankAndWay_23 qc_0 ?_
    exact gw_zret k_Fea_isRankAndWay f_Fea_isRankAndWay_24 rfl (Or.inl rfl) h
  · have h := h.2 c1
    refine gw_iload_n k_Fea_isRankAndWay f_Fea_isRankAndWay_10 rfl ?_
    refine gw_iconst k_Fea_isRankAndWay f_Fea_isRankAndWay_11 qc_0 ?_
    refine gw_iconst k_Fea_isRankAndWay f_Fea_isRankAndWay_12 qc_2 ?_
    refine gw_static [.inl a1, .inl 0, .inl 2] k_Fea_isRankAndWay f_Fea_isRankAndWay_13 l_invT_4_45 (by decide) k_Bk_within rfl (by exact Nat.le_of_ble_eq_true rfl) (dc := 0) (by decide) ?_ rfl
    refine ev_Bk_within ?_
    show Gw zs 1 m_Fea_isRankAndWay 16 [some (.inl a0), some (.inl a1)] [.inl (f_Bk_within a1 0 2)] w _
    refine gw_if_eq (t := 23) k_Fea_isRankAndWay f_Fea_isRankAndWay_16 rfl (fun c2 => ?_) (fun c2 => ?_)
    · have h := h.1 c2
      refine gw_iconst k_Fea_isRankAndWay f_Fea_isRankAndWay_23 qc_0 ?_
      exact gw_zret k_Fea_isRankAndWay f_Fea_isRankAndWay_24 rfl (Or.inl rfl) h
    · have h := h.2 c2
      refine gw_iconst k_Fea_isRankAndWay f_Fea_isRankAndWay_19 qc_1 ?_
      refine gw_goto (t := 24) k_Fea_isRankAndWay f_Fea_isRankAndWay_20 rfl ?_
      exact gw_zret k_Fea_isRankAndWay f_Fea_isRankAndWay_24 rfl (Or.inr rfl) h
theorem ev_Fea_isRankAndWay {zs : List Int32} {a0 a1 : Int32} {w : Wd} {Q : Option AV → Wd → Prop} (h : Q (some (.inl (f_Fea_isRankAndWay a0 a1))) w) : Ew zs 1 m_Fea_isRankAndWay [.inl a0, .inl a1] w Q := by
  refine ew_of k_Fea_isRankAndWay rfl (sg_Fea_isRankAndWay_0 ?_)
  refine ⟨fun c1 => ?_, fun c1 => ?_⟩
  ·
    rw [show f_Fea_isRankAndWay a0 a1 = 0 from by unfold f_Fea_isRankAndWay; rw [if_pos c1]] at h
    exact h
  ·
    refine ⟨fun c2 => ?_, fun c2 => ?_⟩
    ·
      rw [show f_Fea_isRankAndWay a0 a1 = 0 from by unfold f_Fea_isRankAndWay; rw [if_neg c1, if_pos c2]] at h
      exact h
    ·
      rw [show f_Fea_isRankAndWay a0 a1 = 1 from by unfold f_Fea_isRankAndWay; rw [if_neg c1, if_neg c2]] at h
      exact h
theorem fb_Fea_isRankAndWay {a0 : Int32} {a1 : Int32} : f_Fea_isRankAndWay a0 a1 = 0 ∨ f_Fea_isRankAndWay a0 a1 = 1 := by
  unfold f_Fea_isRankAndWay
  exact (if01 (Or.inl rfl) (if01 (Or.inl rfl) (Or.inr rfl)))
def f_Fea_tell (w : Wd) (a0 : Int32) (a1 : Int32) (a2 : Int32) (a3 : Int32) (a4 : Int32) : Int32 := if 60 ≤ (w 8 7) then (-1) else if (f_Fea_isWhen a0 a1) = 0 then (-1) else if (f_Fea_isRankAndWay a2 a4) = 0 then (-1) else if (f_Bk_within a3 0 7) = 0 then (-1) else (((w 8 7) + 1) - 1)
def g_Fea_tell (w : Wd) (a0 : Int32) (a1 : Int32) (a2 : Int32) (a3 : Int32) (a4 : Int32) : Wd := if 60 ≤ (w 8 7) then w else if (f_Fea_isWhen a0 a1) = 0 then w else if (f_Fea_isRankAndWay a2 a4) = 0 then w else if (f_Bk_within a3 0 7) = 0 then w else wr (g_put (g_put (g_put (g_put (g_put w 9 60 (w 8 7) a0) 10 60 (w 8 7) a1) 11 60 (w 8 7) a2) 12 60 (w 8 7) a3) 13 60 (w 8 7) a4) 8 7 ((w 8 7) + 1)
theorem sg_Fea_tell_0 {zs : List Int32} {a0 a1 a2 a3 a4 : Int32} {w : Wd} {Q : Option AV → Wd → Prop} (h : ((60 ≤ (w 8 7) → Q (some (.inl (-1))) w) ∧ (¬ (60 ≤ (w 8 7)) → (((f_Fea_isWhen a0 a1) = 0 → Q (some (.inl (-1))) w) ∧ (¬ ((f_Fea_isWhen a0 a1) = 0) → (((f_Fea_isRankAndWay a2 a4) = 0 → Q (some (.inl (-1))) w) ∧ (¬ ((f_Fea_isRankAndWay a2 a4) = 0) → (((f_Bk_within a3 0 7) = 0 → Q (some (.inl (-1))) w) ∧ (¬ ((f_Bk_within a3 0 7) = 0) → Q (some (.inl (((w 8 7) + 1) - 1))) (wr (g_put (g_put (g_put (g_put (g_put w 9 60 (w 8 7) a0) 10 60 (w 8 7) a1) 11 60 (w 8 7) a2) 12 60 (w 8 7) a3) 13 60 (w 8 7) a4) 8 7 ((w 8 7) + 1))))))))))) : Gw zs 5 m_Fea_tell 0 [some (.inr (.inl (some 8))), some (.inl a0), some (.inl a1), some (.inl a2), some (.inl a3), some (.inl a4)] [] w Q := by
  refine gw_aload_n k_Fea_tell f_Fea_tell_0 rfl ?_
  refine gw_getI k_Fea_tell f_Fea_tell_1 l_fldT_4_34 hc8 rfl ?_
  refine gw_bipush k_Fea_tell f_Fea_tell_4 qb_60 ?_
  refine gw_icmp_ge (t := 37) k_Fea_tell f_Fea_tell_6 rfl (fun c1 => ?_) (fun c1 => ?_)
  · have h := h.1 c1
    refine gw_iconst k_Fea_tell f_Fea_tell_37 qc_m1 ?_
    exact gw_iret k_Fea_tell f_Fea_tell_38 rfl h
  · have h := h.2 c1
    refine gw_iload_n k_Fea_tell f_Fea_tell_9 rfl ?_
    refine gw_iload_n k_Fea_tell f_Fea_tell_10 rfl ?_
    refine gw_static [.inl a0, .inl a1] k_Fea_tell f_Fea_tell_11 l_invT_4_38 (by decide) k_Fea_isWhen rfl (by exact Nat.le_of_ble_eq_true rfl) (dc := 4) (by decide) ?_ rfl
    refine ev_Fea_isWhen ?_
    show Gw zs 5 m_Fea_tell 14 [some (.inr (.inl (some 8))), some (.inl a0), some (.inl a1), some (.inl a2), some (.inl a3), some (.inl a4)] [.inl (f_Fea_isWhen a0 a1)] w _
    refine gw_if_eq (t := 37) k_Fea_tell f_Fea_tell_14 rfl (fun c2 => ?_) (fun c2 => ?_)
    · have h := h.1 c2
      refine gw_iconst k_Fea_tell f_Fea_tell_37 qc_m1 ?_
      exact gw_iret k_Fea_tell f_Fea_tell_38 rfl h
    · have h := h.2 c2
      refine gw_iload_n k_Fea_tell f_Fea_tell_17 rfl ?_
      refine gw_iload k_Fea_tell f_Fea_tell_18 rfl ?_
      refine gw_static [.inl a2, .inl a4] k_Fea_tell f_Fea_tell_20 l_invT_4_42 (by decide) k_Fea_isRankAndWay rfl (by exact Nat.le_of_ble_eq_true rfl) (dc := 1) (by decide) ?_ rfl
      refine ev_Fea_isRankAndWay ?_
      show Gw zs 5 m_Fea_tell 23 [some (.inr (.inl (some 8))), some (.inl a0), some (.inl a1), some (.inl a2), some (.inl a3), some (.inl a4)] [.inl (f_Fea_isRankAndWay a2 a4)] w _
      refine gw_if_eq (t := 37) k_Fea_tell f_Fea_tell_23 rfl (fun c3 => ?_) (fun c3 => ?_)
      · have h := h.1 c3
        refine gw_iconst k_Fea_tell f_Fea_tell_37 qc_m1 ?_
        exact gw_iret k_Fea_tell f_Fea_tell_38 rfl h
      · have h := h.2 c3
        refine gw_iload k_Fea_tell f_Fea_tell_26 rfl ?_
        refine gw_iconst k_Fea_tell f_Fea_tell_28 qc_0 ?_
        refine gw_bipush k_Fea_tell f_Fea_tell_29 qb_7 ?_
        refine gw_static [.inl a3, .inl 0, .inl 7] k_Fea_tell f_Fea_tell_31 l_invT_4_45 (by decide) k_Bk_within rfl (by exact Nat.le_of_ble_eq_true rfl) (dc := 0) (by decide) ?_ rfl
        refine ev_Bk_within ?_
        show Gw zs 5 m_Fea_tell 34 [some (.inr (.inl (some 8))), some (.inl a0), some (.inl a1), some (.inl a2), some (.inl a3), some (.inl a4)] [.inl (f_Bk_within a3 0 7)] w _
        refine gw_if_ne (t := 39) k_Fea_tell f_Fea_tell_34 rfl (fun c4 => ?_) (fun c4 => ?_)
        · have h := h.2 c4
          refine gw_aload_n k_Fea_tell f_Fea_tell_39 rfl ?_
          refine gw_getR k_Fea_tell f_Fea_tell_40 l_fldT_4_9 hc8 rfl ?_
          refine gw_aload_n k_Fea_tell f_Fea_tell_43 rfl ?_
          refine gw_getI k_Fea_tell f_Fea_tell_44 l_fldT_4_34 hc8 rfl ?_
          refine gw_iload_n k_Fea_tell f_Fea_tell_47 rfl ?_
          refine gw_static [.inr (.inl (some 9)), .inl (w 8 7), .inl a0] k_Fea_tell f_Fea_tell_48 l_invT_4_49 (by decide) k_Bk_put rfl (by exact Nat.le_of_ble_eq_true rfl) (dc := 0) (by decide) ?_ rfl
          refine ev_put hc9 (by decide) ?_
          show Gw zs 5 m_Fea_tell 51 [some (.inr (.inl (some 8))), some (.inl a0), some (.inl a1), some (.inl a2), some (.inl a3), some (.inl a4)] [] (g_put w 9 60 (w 8 7) a0) _
          refine gw_aload_n k_Fea_tell f_Fea_tell_51 rfl ?_
          refine gw_getR k_Fea_tell f_Fea_tell_52 l_fldT_4_15 hc8 rfl ?_
          refine gw_aload_n k_Fea_tell f_Fea_tell_55 rfl ?_
          refine gw_getI k_Fea_tell f_Fea_tell_56 l_fldT_4_34 hc8 rfl ?_
          rw [show (g_put w 9 60 (w 8 7) a0) 8 7 = w 8 7 from g_put_ne (by decide)]
          refine gw_iload_n k_Fea_tell f_Fea_tell_59 rfl ?_
          refine gw_static [.inr (.inl (some 10)), .inl (w 8 7), .inl a1] k_Fea_tell f_Fea_tell_60 l_invT_4_49 (by decide) k_Bk_put rfl (by exact Nat.le_of_ble_eq_true rfl) (dc := 0) (by decide) ?_ rfl
          refine ev_put hc10 (by decide) ?_
          show Gw zs 5 m_Fea_tell 63 [some (.inr (.inl (some 8))), some (.inl a0), some (.inl a1), some (.inl a2), some (.inl a3), some (.inl a4)] [] (g_put (g_put w 9 60 (w 8 7) a0) 10 60 (w 8 7) a1) _
          refine gw_aload_n k_Fea_tell f_Fea_tell_63 rfl ?_
          refine gw_getR k_Fea_tell f_Fea_tell_64 l_fldT_4_18 hc8 rfl ?_
          refine gw_aload_n k_Fea_tell f_Fea_tell_67 rfl ?_
          refine gw_getI k_Fea_tell f_Fea_tell_68 l_fldT_4_34 hc8 rfl ?_
          rw [show (g_put (g_put w 9 60 (w 8 7) a0) 10 60 (w 8 7) a1) 8 7 = w 8 7 from (g_put_ne (by decide)).trans (g_put_ne (by decide))]
          refine gw_iload_n k_Fea_tell f_Fea_tell_71 rfl ?_
          refine gw_static [.inr (.inl (some 11)), .inl (w 8 7), .inl a2] k_Fea_tell f_Fea_tell_72 l_invT_4_49 (by decide) k_Bk_put rfl (by exact Nat.le_of_ble_eq_true rfl) (dc := 0) (by decide) ?_ rfl
          refine ev_put hc11 (by decide) ?_
          show Gw zs 5 m_Fea_tell 75 [some (.inr (.inl (some 8))), some (.inl a0), some (.inl a1), some (.inl a2), some (.inl a3), some (.inl a4)] [] (g_put (g_put (g_put w 9 60 (w 8 7) a0) 10 60 (w 8 7) a1) 11 60 (w 8 7) a2) _
          refine gw_aload_n k_Fea_tell f_Fea_tell_75 rfl ?_
          refine gw_getR k_Fea_tell f_Fea_tell_76 l_fldT_4_21 hc8 rfl ?_
          refine gw_aload_n k_Fea_tell f_Fea_tell_79 rfl ?_
          refine gw_getI k_Fea_tell f_Fea_tell_80 l_fldT_4_34 hc8 rfl ?_
          rw [show (g_put (g_put (g_put w 9 60 (w 8 7) a0) 10 60 (w 8 7) a1) 11 60 (w 8 7) a2) 8 7 = w 8 7 from (g_put_ne (by decide)).trans ((g_put_ne (by decide)).trans (g_put_ne (by decide)))]
          refine gw_iload k_Fea_tell f_Fea_tell_83 rfl ?_
          refine gw_static [.inr (.inl (some 12)), .inl (w 8 7), .inl a3] k_Fea_tell f_Fea_tell_85 l_invT_4_49 (by decide) k_Bk_put rfl (by exact Nat.le_of_ble_eq_true rfl) (dc := 0) (by decide) ?_ rfl
          refine ev_put hc12 (by decide) ?_
          show Gw zs 5 m_Fea_tell 88 [some (.inr (.inl (some 8))), some (.inl a0), some (.inl a1), some (.inl a2), some (.inl a3), some (.inl a4)] [] (g_put (g_put (g_put (g_put w 9 60 (w 8 7) a0) 10 60 (w 8 7) a1) 11 60 (w 8 7) a2) 12 60 (w 8 7) a3) _
          refine gw_aload_n k_Fea_tell f_Fea_tell_88 rfl ?_
          refine gw_getR k_Fea_tell f_Fea_tell_89 l_fldT_4_24 hc8 rfl ?_
          refine gw_aload_n k_Fea_tell f_Fea_tell_92 rfl ?_
          refine gw_getI k_Fea_tell f_Fea_tell_93 l_fldT_4_34 hc8 rfl ?_
          rw [show (g_put (g_put (g_put (g_put w 9 60 (w 8 7) a0) 10 60 (w 8 7) a1) 11 60 (w 8 7) a2) 12 60 (w 8 7) a3) 8 7 = w 8 7 from (g_put_ne (by decide)).trans ((g_put_ne (by decide)).trans ((g_put_ne (by decide)).trans (g_put_ne (by decide))))]
          refine gw_iload k_Fea_tell f_Fea_tell_96 rfl ?_
          refine gw_static [.inr (.inl (some 13)), .inl (w 8 7), .inl a4] k_Fea_tell f_Fea_tell_98 l_invT_4_49 (by decide) k_Bk_put rfl (by exact Nat.le_of_ble_eq_true rfl) (dc := 0) (by decide) ?_ rfl
          refine ev_put hc13 (by decide) ?_
          show Gw zs 5 m_Fea_tell 101 [some (.inr (.inl (some 8))), some (.inl a0), some (.inl a1), some (.inl a2), some (.inl a3), some (.inl a4)] [] (g_put (g_put (g_put (g_put (g_put w 9 60 (w 8 7) a0) 10 60 (w 8 7) a1) 11 60 (w 8 7) a2) 12 60 (w 8 7) a3) 13 60 (w 8 7) a4) _
          refine gw_aload_n k_Fea_tell f_Fea_tell_101 rfl ?_
          refine gw_dup k_Fea_tell f_Fea_tell_102 ?_
          refine gw_getI k_Fea_tell f_Fea_tell_103 l_fldT_4_34 hc8 rfl ?_
          rw [show (g_put (g_put (g_put (g_put (g_put w 9 60 (w 8 7) a0) 10 60 (w 8 7) a1) 11 60 (w 8 7) a2) 12 60 (w 8 7) a3) 13 60 (w 8 7) a4) 8 7 = w 8 7 from (g_put_ne (by decide)).trans ((g_put_ne (by decide)).trans ((g_put_ne (by decide)).trans ((g_put_ne (by decide)).trans (g_put_ne (by decide)))))]
          refine gw_iconst k_Fea_tell f_Fea_tell_106 qc_1 ?_
          refine gw_iadd k_Fea_tell f_Fea_tell_107 ?_
          refine gw_put k_Fea_tell f_Fea_tell_108 l_fldT_4_34 hc8 rfl rfl rfl rfl rfl ?_
          refine gw_aload_n k_Fea_tell f_Fea_tell_111 rfl ?_
          refine gw_getI k_Fea_tell f_Fea_tell_112 l_fldT_4_34 hc8 rfl ?_
          rw [show (wr (g_put (g_put (g_put (g_put (g_put w 9 60 (w 8 7) a0) 10 60 (w 8 7) a1) 11 60 (w 8 7) a2) 12 60 (w 8 7) a3) 13 60 (w 8 7) a4) 8 7 ((w 8 7) + 1)) 8 7 = (w 8 7) + 1 from wr_eq]
          refine gw_iconst k_Fea_tell f_Fea_tell_115 qc_1 ?_
          refine gw_isub k_Fea_tell f_Fea_tell_116 ?_
          exact gw_iret k_Fea_tell f_Fea_tell_117 rfl h
        · have c4 := Decidable.not_not.mp c4
          have h := h.1 c4
          refine gw_iconst k_Fea_tell f_Fea_tell_37 qc_m1 ?_
          exact gw_iret k_Fea_tell f_Fea_tell_38 rfl h
theorem ev_Fea_tell {zs : List Int32} {a0 a1 a2 a3 a4 : Int32} {w : Wd} {Q : Option AV → Wd → Prop} (h : Q (some (.inl (f_Fea_tell w a0 a1 a2 a3 a4))) (g_Fea_tell w a0 a1 a2 a3 a4)) : Ew zs 5 m_Fea_tell [.inr (.inl (some 8)), .inl a0, .inl a1, .inl a2, .inl a3, .inl a4] w Q := by
  refine ew_of k_Fea_tell rfl (sg_Fea_tell_0 ?_)
  refine ⟨fun c1 => ?_, fun c1 => ?_⟩
  ·
    rw [show f_Fea_tell w a0 a1 a2 a3 a4 = (-1) from by unfold f_Fea_tell; rw [if_pos c1]] at h
    rw [show g_Fea_tell w a0 a1 a2 a3 a4 = w from by unfold g_Fea_tell; rw [if_pos c1]] at h
    exact h
  ·
    refine ⟨fun c2 => ?_, fun c2 => ?_⟩
    ·
      rw [show f_Fea_tell w a0 a1 a2 a3 a4 = (-1) from by unfold f_Fea_tell; rw [if_neg c1, if_pos c2]] at h
      rw [show g_Fea_tell w a0 a1 a2 a3 a4 = w from by unfold g_Fea_tell; rw [if_neg c1, if_pos c2]] at h
      exact h
    ·
      refine ⟨fun c3 => ?_, fun c3 => ?_⟩
      ·
        rw [show f_Fea_tell w a0 a1 a2 a3 a4 = (-1) from by unfold f_Fea_tell; rw [if_neg c1, if_neg c2, if_pos c3]] at h
        rw [show g_Fea_tell w a0 a1 a2 a3 a4 = w from by unfold g_Fea_tell; rw [if_neg c1, if_neg c2, if_pos c3]] at h
        exact h
      ·
        refine ⟨fun c4 => ?_, fun c4 => ?_⟩
        ·
          rw [show f_Fea_tell w a0 a1 a2 a3 a4 = (-1) from by unfold f_Fea_tell; rw [if_neg c1, if_neg c2, if_neg c3, if_pos c4]] at h
          rw [show g_Fea_tell w a0 a1 a2 a3 a4 = w from by unfold g_Fea_tell; rw [if_neg c1, if_neg c2, if_neg c3, if_pos c4]] at h
          exact h
        ·
          rw [show f_Fea_tell w a0 a1 a2 a3 a4 = (((w 8 7) + 1) - 1) from by unfold f_Fea_tell; rw [if_neg c1, if_neg c2, if_neg c3, if_neg c4]] at h
          rw [show g_Fea_tell w a0 a1 a2 a3 a4 = (wr (g_put (g_put (g_put (g_put (g_put w 9 60 (w 8 7) a0) 10 60 (w 8 7) a1) 11 60 (w 8 7) a2) 12 60 (w 8 7) a3) 13 60 (w 8 7) a4) 8 7 ((w 8 7) + 1)) from by unfold g_Fea_tell; rw [if_neg c1, if_neg c2, if_neg c3, if_neg c4]] at h
          exact h
theorem gn_Fea_tell {w : Wd} {a0 : Int32} {a1 : Int32} {a2 : Int32} {a3 : Int32} {a4 : Int32} {c k : Nat} (h : c ∉ [8, 9, 10, 11, 12, 13]) : g_Fea_tell w a0 a1 a2 a3 a4 c k = w c k := by
  simp only [List.mem_cons, List.not_mem_nil, or_false, not_or] at h
  unfold g_Fea_tell
  repeat' split
  all_goals simp [wr, g_put_ne, h]
def f_Bk_feast (w : Wd) (a0 : Int32) (a1 : Int32) (a2 : Int32) (a3 : Int32) (a4 : Int32) : Int32 := (f_Bk_forgetIfTold (f_Fea_tell w a0 a1 a2 a3 a4))
def g_Bk_feast (w : Wd) (a0 : Int32) (a1 : Int32) (a2 : Int32) (a3 : Int32) (a4 : Int32) : Wd := g_Bk_forgetIfTold (g_Fea_tell w a0 a1 a2 a3 a4) (f_Fea_tell w a0 a1 a2 a3 a4)
theorem sg_Bk_feast_0 {zs : List Int32} {a0 a1 a2 a3 a4 : Int32} {w : Wd} {Q : Option AV → Wd → Prop} (h : Q (some (.inl (f_Bk_forgetIfTold (f_Fea_tell w a0 a1 a2 a3 a4)))) (g_Bk_forgetIfTold (g_Fea_tell w a0 a1 a2 a3 a4) (f_Fea_tell w a0 a1 a2 a3 a4))) : Gw zs 6 m_Bk_feast 0 [some (.inr (.inl (some 0))), some (.inl a0), some (.inl a1), some (.inl a2), some (.inl a3), some (.inl a4)] [] w Q := by
  refine gw_aload_n k_Bk_feast f_Bk_feast_0 rfl ?_
  refine gw_aload_n k_Bk_feast f_Bk_feast_1 rfl ?_
  refine gw_getR k_Bk_feast f_Bk_feast_2 l_fldT_10_19 hc0 rfl ?_
  refine gw_iload_n k_Bk_feast f_Bk_feast_5 rfl ?_
  refine gw_iload_n k_Bk_feast f_Bk_feast_6 rfl ?_
  refine gw_iload_n k_Bk_feast f_Bk_feast_7 rfl ?_
  refine gw_iload k_Bk_feast f_Bk_feast_8 rfl ?_
  refine gw_iload k_Bk_feast f_Bk_feast_10 rfl ?_
  refine gw_virtual [.inl a0, .inl a1, .inl a2, .inl a3, .inl a4] k_Bk_feast f_Bk_feast_12 l_invT_10_97 k_Fea_tell hc8 rfl rfl rfl (by exact Nat.le_of_ble_eq_true rfl) (dc := 5) (by decide) ?_ rfl
  refine ev_Fea_tell ?_
  show Gw zs 6 m_Bk_feast 15 [some (.inr (.inl (some 0))), some (.inl a0), some (.inl a1), some (.inl a2), some (.inl a3), some (.inl a4)] [.inl (f_Fea_tell w a0 a1 a2 a3 a4), .inr (.inl (some 0))] (g_Fea_tell w a0 a1 a2 a3 a4) _
  refine gw_virtual [.inl (f_Fea_tell w a0 a1 a2 a3 a4)] k_Bk_feast f_Bk_feast_15 l_invT_10_91 k_Bk_forgetIfTold hc0 rfl rfl rfl (by exact Nat.le_of_ble_eq_true rfl) (dc := 1) (by decide) ?_ rfl
  refine ev_Bk_forgetIfTold ?_
  show Gw zs 6 m_Bk_feast 18 [some (.inr (.inl (some 0))), some (.inl a0), some (.inl a1), some (.inl a2), some (.inl a3), some (.inl a4)] [.inl (f_Bk_forgetIfTold (f_Fea_tell w a0 a1 a2 a3 a4))] (g_Bk_forgetIfTold (g_Fea_tell w a0 a1 a2 a3 a4) (f_Fea_tell w a0 a1 a2 a3 a4)) _
  exact gw_iret k_Bk_feast f_Bk_feast_18 rfl h
theorem ev_Bk_feast {zs : List Int32} {a0 a1 a2 a3 a4 : Int32} {w : Wd} {Q : Option AV → Wd → Prop} (h : Q (some (.inl (f_Bk_feast w a0 a1 a2 a3 a4))) (g_Bk_feast w a0 a1 a2 a3 a4)) : Ew zs 6 m_Bk_feast [.inr (.inl (some 0)), .inl a0, .inl a1, .inl a2, .inl a3, .inl a4] w Q := by
  refine ew_of k_Bk_feast rfl (sg_Bk_feast_0 ?_)
  rw [show f_Bk_feast w a0 a1 a2 a3 a4 = (f_Bk_forgetIfTold (f_Fea_tell w a0 a1 a2 a3 a4)) from by unfold f_Bk_feast; rfl] at h
  rw [show g_Bk_feast w a0 a1 a2 a3 a4 = (g_Bk_forgetIfTold (g_Fea_tell w a0 a1 a2 a3 a4) (f_Fea_tell w a0 a1 a2 a3 a4)) from by unfold g_Bk_feast; rfl] at h
  exact h
theorem gn_Bk_feast {w : Wd} {a0 : Int32} {a1 : Int32} {a2 : Int32} {a3 : Int32} {a4 : Int32} {c k : Nat} (h : c ∉ [8, 9, 10, 11, 12, 13, 16]) : g_Bk_feast w a0 a1 a2 a3 a4 c k = w c k := by
  simp only [List.mem_cons, List.not_mem_nil, or_false, not_or] at h
  unfold g_Bk_feast
  repeat' split
  all_goals simp [wr, gn_Bk_forgetIfTold, gn_Fea_tell, h]
def f_Fea_isTold (w : Wd) (a0 : Int32) : Int32 := if a0 < 0 then 0 else if (w 8 7) ≤ a0 then 0 else 1
theorem sg_Fea_isTold_0 {zs : List Int32} {a0 : Int32} {w : Wd} {Q : Option AV → Wd → Prop} (h : ((a0 < 0 → Q (some (.inl 0)) w) ∧ (¬ (a0 < 0) → (((w 8 7) ≤ a0 → Q (some (.inl 0)) w) ∧ (¬ ((w 8 7) ≤ a0) → Q (some (.inl 1)) w))))) : Gw zs 0 m_Fea_isTold 0 [some (.inr (.inl (some 8))), some (.inl a0)] [] w Q := by
  refine gw_iload_n k_Fea_isTold f_Fea_isTold_0 rfl ?_
  refine gw_if_lt (t := 16) k_Fea_isTold f_Fea_isTold_1 rfl (fun c1 => ?_) (fun c1 => ?_)
  · have h := h.1 c1
    refine gw_iconst k_Fea_isTold f_Fea_isTold_16 qc_0 ?_
    exact gw_zret k_Fea_isTold f_Fea_isTold_17 rfl (Or.inl rfl) h
  · have h := h.2 c1
    refine gw_iload_n k_Fea_isTold f_Fea_isTold_4 rfl ?_
    refine gw_aload_n k_Fea_isTold f_Fea_isTold_5 rfl ?_
    refine gw_getI k_Fea_isTold f_Fea_isTold_6 l_fldT_4_34 hc8 rfl ?_
    refine gw_icmp_ge (t := 16) k_Fea_isTold f_Fea_isTold_9 rfl (fun c2 => ?_) (fun c2 => ?_)
    · have h := h.1 c2
      refine gw_iconst k_Fea_isTold f_Fea_isTold_16 qc_0 ?_
      exact gw_zret k_Fea_isTold f_Fea_isTold_17 rfl (Or.inl rfl) h
    · have h := h.2 c2
      refine gw_iconst k_Fea_isTold f_Fea_isTold_12 qc_1 ?_
      refine gw_goto (t := 17) k_Fea_isTold f_Fea_isTold_13 rfl ?_
      exact gw_zret k_Fea_isTold f_Fea_isTold_17 rfl (Or.inr rfl) h
theorem ev_Fea_isTold {zs : List Int32} {a0 : Int32} {w : Wd} {Q : Option AV → Wd → Prop} (h : Q (some (.inl (f_Fea_isTold w a0))) w) : Ew zs 0 m_Fea_isTold [.inr (.inl (some 8)), .inl a0] w Q := by
  refine ew_of k_Fea_isTold rfl (sg_Fea_isTold_0 ?_)
  refine ⟨fun c1 => ?_, fun c1 => ?_⟩
  ·
    rw [show f_Fea_isTold w a0 = 0 from by unfold f_Fea_isTold; rw [if_pos c1]] at h
    exact h
  ·
    refine ⟨fun c2 => ?_, fun c2 => ?_⟩
    ·
      rw [show f_Fea_isTold w a0 = 0 from by unfold f_Fea_isTold; rw [if_neg c1, if_pos c2]] at h
      exact h
    ·
      rw [show f_Fea_isTold w a0 = 1 from by unfold f_Fea_isTold; rw [if_neg c1, if_neg c2]] at h
      exact h
theorem fb_Fea_isTold {w : Wd} {a0 : Int32} : f_Fea_isTold w a0 = 0 ∨ f_Fea_isTold w a0 = 1 := by
  unfold f_Fea_isTold
  exact (if01 (Or.inl rfl) (if01 (Or.inl rfl) (Or.inr rfl)))
def f_Fea_change (w : Wd) (a0 : Int32) (a1 : Int32) (a2 : Int32) : Int32 := if (f_Fea_isTold w a0) = 0 then (-1) else if (f_Fea_isRankAndWay a1 a2) = 0 then (-1) else 0
def g_Fea_change (w : Wd) (a0 : Int32) (a1 : Int32) (a2 : Int32) : Wd := if (f_Fea_isTold w a0) = 0 then w else if (f_Fea_isRankAndWay a1 a2) = 0 then w else g_put (g_put w 11 60 a0 a1) 13 60 a0 a2
theorem sg_Fea_change_0 {zs : List Int32} {a0 a1 a2 : Int32} {w : Wd} {Q : Option AV → Wd → Prop} (h : (((f_Fea_isTold w a0) = 0 → Q (some (.inl (-1))) w) ∧ (¬ ((f_Fea_isTold w a0) = 0) → (((f_Fea_isRankAndWay a1 a2) = 0 → Q (some (.inl (-1))) w) ∧ (¬ ((f_Fea_isRankAndWay a1 a2) = 0) → Q (some (.inl 0)) (g_put (g_put w 11 60 a0 a1) 13 60 a0 a2)))))) : Gw zs 2 m_Fea_change 0 [some (.inr (.inl (some 8))), some (.inl a0), some (.inl a1), some (.inl a2)] [] w Q := by
  refine gw_aload_n k_Fea_change f_Fea_change_0 rfl ?_
  refine gw_iload_n k_Fea_change f_Fea_change_1 rfl ?_
  refine gw_virtual [.inl a0] k_Fea_change f_Fea_change_2 l_invT_4_59 k_Fea_isTold hc8 rfl rfl rfl (by exact Nat.le_of_ble_eq_true rfl) (dc := 0) (by decide) ?_ rfl
  refine ev_Fea_isTold ?_
  show Gw zs 2 m_Fea_change 5 [some (.inr (.inl (some 8))), some (.inl a0), some (.inl a1), some (.inl a2)] [.inl (f_Fea_isTold w a0)] w _
  refine gw_if_eq (t := 16) k_Fea_change f_Fea_change_5 rfl (fun c1 => ?_) (fun c1 => ?_)
  · have h := h.1 c1
    refine gw_iconst k_Fea_change f_Fea_change_16 qc_m1 ?_
    exact gw_iret k_Fea_change f_Fea_change_17 rfl h
  · have h := h.2 c1
    refine gw_iload_n k_Fea_change f_Fea_change_8 rfl ?_
    refine gw_iload_n k_Fea_change f_Fea_change_9 rfl ?_
    refine gw_static [.inl a1, .inl a2] k_Fea_change f_Fea_change_10 l_invT_4_42 (by decide) k_Fea_isRankAndWay rfl (by exact Nat.le_of_ble_eq_true rfl) (dc := 1) (by decide) ?_ rfl
    refine ev_Fea_isRankAndWay ?_
    show Gw zs 2 m_Fea_change 13 [some (.inr (.inl (some 8))), some (.inl a0), some (.inl a1), some (.inl a2)] [.inl (f_Fea_isRankAndWay a1 a2)] w _
    refine gw_if_ne (t := 18) k_Fea_change f_Fea_change_13 rfl (fun c2 => ?_) (fun c2 => ?_)
    · have h := h.2 c2
      refine gw_aload_n k_Fea_change f_Fea_change_18 rfl ?_
      refine gw_getR k_Fea_change f_Fea_change_19 l_fldT_4_18 hc8 rfl ?_
      refine gw_iload_n k_Fea_change f_Fea_change_22 rfl ?_
      refine gw_iload_n k_Fea_change f_Fea_change_23 rfl ?_
      refine gw_static [.inr (.inl (some 11)), .inl a0, .inl a1] k_Fea_change f_Fea_change_24 l_invT_4_49 (by decide) k_Bk_put rfl (by exact Nat.le_of_ble_eq_true rfl) (dc := 0) (by decide) ?_ rfl
      refine ev_put hc11 (by decide) ?_
      show Gw zs 2 m_Fea_change 27 [some (.inr (.inl (some 8))), some (.inl a0), some (.inl a1), some (.inl a2)] [] (g_put w 11 60 a0 a1) _
      refine gw_aload_n k_Fea_change f_Fea_change_27 rfl ?_
      refine gw_getR k_Fea_change f_Fea_change_28 l_fldT_4_24 hc8 rfl ?_
      refine gw_iload_n k_Fea_change f_Fea_change_31 rfl ?_
      refine gw_iload_n k_Fea_change f_Fea_change_32 rfl ?_
      refine gw_static [.inr (.inl (some 13)), .inl a0, .inl a2] k_Fea_change f_Fea_change_33 l_invT_4_49 (by decide) k_Bk_put rfl (by exact Nat.le_of_ble_eq_true rfl) (dc := 0) (by decide) ?_ rfl
      refine ev_put hc13 (by decide) ?_
      show Gw zs 2 m_Fea_change 36 [some (.inr (.inl (some 8))), some (.inl a0), some (.inl a1), some (.inl a2)] [] (g_put (g_put w 11 60 a0 a1) 13 60 a0 a2) _
      refine gw_iconst k_Fea_change f_Fea_change_36 qc_0 ?_
      exact gw_iret k_Fea_change f_Fea_change_37 rfl h
    · have c2 := Decidable.not_not.mp c2
      have h := h.1 c2
      refine gw_iconst k_Fea_change f_Fea_change_16 qc_m1 ?_
      exact gw_iret k_Fea_change f_Fea_change_17 rfl h
theorem ev_Fea_change {zs : List Int32} {a0 a1 a2 : Int32} {w : Wd} {Q : Option AV → Wd → Prop} (h : Q (some (.inl (f_Fea_change w a0 a1 a2))) (g_Fea_change w a0 a1 a2)) : Ew zs 2 m_Fea_change [.inr (.inl (some 8)), .inl a0, .inl a1, .inl a2] w Q := by
  refine ew_of k_Fea_change rfl (sg_Fea_change_0 ?_)
  refine ⟨fun c1 => ?_, fun c1 => ?_⟩
  ·
    rw [show f_Fea_change w a0 a1 a2 = (-1) from by unfold f_Fea_change; rw [if_pos c1]] at h
    rw [show g_Fea_change w a0 a1 a2 = w from by unfold g_Fea_change; rw [if_pos c1]] at h
    exact h
  ·
    refine ⟨fun c2 => ?_, fun c2 => ?_⟩
    ·
      rw [show f_Fea_change w a0 a1 a2 = (-1) from by unfold f_Fea_change; rw [if_neg c1, if_pos c2]] at h
      rw [show g_Fea_change w a0 a1 a2 = w from by unfold g_Fea_change; rw [if_neg c1, if_pos c2]] at h
      exact h
    ·
      rw [show f_Fea_change w a0 a1 a2 = 0 from by unfold f_Fea_change; rw [if_neg c1, if_neg c2]] at h
      rw [show g_Fea_change w a0 a1 a2 = (g_put (g_put w 11 60 a0 a1) 13 60 a0 a2) from by unfold g_Fea_change; rw [if_neg c1, if_neg c2]] at h
      exact h
theorem gn_Fea_change {w : Wd} {a0 : Int32} {a1 : Int32} {a2 : Int32} {c k : Nat} (h : c ∉ [11, 13]) : g_Fea_change w a0 a1 a2 c k = w c k := by
  simp only [List.mem_cons, List.not_mem_nil, or_false, not_or] at h
  unfold g_Fea_change
  repeat' split
  all_goals simp [wr, g_put_ne, h]
def f_Bk_raise (w : Wd) (a0 : Int32) (a1 : Int32) (a2 : Int32) : Int32 := (f_Bk_forgetIfTold (f_Fea_change w a0 a1 a2))
def g_Bk_raise (w : Wd) (a0 : Int32) (a1 : Int32) (a2 : Int32) : Wd := g_Bk_forgetIfTold (g_Fea_change w a0 a1 a2) (f_Fea_change w a0 a1 a2)
theorem sg_Bk_raise_0 {zs : List Int32} {a0 a1 a2 : Int32} {w : Wd} {Q : Option AV → Wd → Prop} (h : Q (some (.inl (f_Bk_forgetIfTold (f_Fea_change w a0 a1 a2)))) (g_Bk_forgetIfTold (g_Fea_change w a0 a1 a2) (f_Fea_change w a0 a1 a2))) : Gw zs 3 m_Bk_raise 0 [some (.inr (.inl (some 0))), some (.inl a0), some (.inl a1), some (.inl a2)] [] w Q := by
  refine gw_aload_n k_Bk_raise f_Bk_raise_0 rfl ?_
  refine gw_aload_n k_Bk_raise f_Bk_raise_1 rfl ?_
  refine gw_getR k_Bk_raise f_Bk_raise_2 l_fldT_10_19 hc0 rfl ?_
  refine gw_iload_n k_Bk_raise f_Bk_raise_5 rfl ?_
  refine gw_iload_n k_Bk_raise f_Bk_raise_6 rfl ?_
  refine gw_iload_n k_Bk_raise f_Bk_raise_7 rfl ?_
  refine gw_virtual [.inl a0, .inl a1, .inl a2] k_Bk_raise f_Bk_raise_8 l_invT_10_104 k_Fea_change hc8 rfl rfl rfl (by exact Nat.le_of_ble_eq_true rfl) (dc := 2) (by decide) ?_ rfl
  refine ev_Fea_change ?_
  show Gw zs 3 m_Bk_raise 11 [some (.inr (.inl (some 0))), some (.inl a0), some (.inl a1), some (.inl a2)] [.inl (f_Fea_change w a0 a1 a2), .inr (.inl (some 0))] (g_Fea_change w a0 a1 a2) _
  refine gw_virtual [.inl (f_Fea_change w a0 a1 a2)] k_Bk_raise f_Bk_raise_11 l_invT_10_91 k_Bk_forgetIfTold hc0 rfl rfl rfl (by exact Nat.le_of_ble_eq_true rfl) (dc := 1) (by decide) ?_ rfl
  refine ev_Bk_forgetIfTold ?_
  show Gw zs 3 m_Bk_raise 14 [some (.inr (.inl (some 0))), some (.inl a0), some (.inl a1), some (.inl a2)] [.inl (f_Bk_forgetIfTold (f_Fea_change w a0 a1 a2))] (g_Bk_forgetIfTold (g_Fea_change w a0 a1 a2) (f_Fea_change w a0 a1 a2)) _
  exact gw_iret k_Bk_raise f_Bk_raise_14 rfl h
theorem ev_Bk_raise {zs : List Int32} {a0 a1 a2 : Int32} {w : Wd} {Q : Option AV → Wd → Prop} (h : Q (some (.inl (f_Bk_raise w a0 a1 a2))) (g_Bk_raise w a0 a1 a2)) : Ew zs 3 m_Bk_raise [.inr (.inl (some 0)), .inl a0, .inl a1, .inl a2] w Q := by
  refine ew_of k_Bk_raise rfl (sg_Bk_raise_0 ?_)
  rw [show f_Bk_raise w a0 a1 a2 = (f_Bk_forgetIfTold (f_Fea_change w a0 a1 a2)) from by unfold f_Bk_raise; rfl] at h
  rw [show g_Bk_raise w a0 a1 a2 = (g_Bk_forgetIfTold (g_Fea_change w a0 a1 a2) (f_Fea_change w a0 a1 a2)) from by unfold g_Bk_raise; rfl] at h
  exact h
theorem gn_Bk_raise {w : Wd} {a0 : Int32} {a1 : Int32} {a2 : Int32} {c k : Nat} (h : c ∉ [11, 13, 16]) : g_Bk_raise w a0 a1 a2 c k = w c k := by
  simp only [List.mem_cons, List.not_mem_nil, or_false, not_or] at h
  unfold g_Bk_raise
  repeat' split
  all_goals simp [wr, gn_Bk_forgetIfTold, gn_Fea_change, h]
def f_Sea_count (w : Wd)  : Int32 := (w 1 6)
theorem sg_Sea_count_0 {zs : List Int32} {w : Wd} {Q : Option AV → Wd → Prop} (h : Q (some (.inl (w 1 6))) w) : Gw zs 0 m_Sea_count 0 [some (.inr (.inl (some 1)))] [] w Q := by
  refine gw_aload_n k_Sea_count f_Sea_count_0 rfl ?_
  refine gw_getI k_Sea_count f_Sea_count_1 l_fldT_7_45 hc1 rfl ?_
  exact gw_iret k_Sea_count f_Sea_count_4 rfl h
theorem ev_Sea_count {zs : List Int32} {w : Wd} {Q : Option AV → Wd → Prop} (h : Q (some (.inl (f_Sea_count w))) w) : Ew zs 0 m_Sea_count [.inr (.inl (some 1))] w Q := by
  refine ew_of k_Sea_count rfl (sg_Sea_count_0 ?_)
  rw [show f_Sea_count w = (w 1 6) from by unfold f_Sea_count; rfl] at h
  exact h
def f_Sea_isByDates (w : Wd) (a0 : Int32) : Int32 := if a0 < 0 then 0 else if 10 ≤ a0 then 0 else if (w 2 a0.toNatClampNeg) = 0 then 0 else 1
theorem sg_Sea_isByDates_0 {zs : List Int32} {a0 : Int32} {w : Wd} {Q : Option AV → Wd → Prop} (h : ((a0 < 0 → Q (some (.inl 0)) w) ∧ (¬ (a0 < 0) → ((10 ≤ a0 → Q (some (.inl 0)) w) ∧ (¬ (10 ≤ a0) → (((w 2 a0.toNatClampNeg) = 0 → Q (some (.inl 0)) w) ∧ (¬ ((w 2 a0.toNatClampNeg) = 0) → Q (some (.inl 1)) w))))))) : Gw zs 0 m_Sea_isByDates 0 [some (.inr (.inl (some 1))), some (.inl a0)] [] w Q := by
  refine gw_iload_n k_Sea_isByDates f_Sea_isByDates_0 rfl ?_
  refine gw_if_lt (t := 26) k_Sea_isByDates f_Sea_isByDates_1 rfl (fun c1 => ?_) (fun c1 => ?_)
  · have h := h.1 c1
    refine gw_iconst k_Sea_isByDates f_Sea_isByDates_26 qc_0 ?_
    exact gw_zret k_Sea_isByDates f_Sea_isByDates_27 rfl (Or.inl rfl) h
  · have h := h.2 c1
    refine gw_iload_n k_Sea_isByDates f_Sea_isByDates_4 rfl ?_
    refine gw_aload_n k_Sea_isByDates f_Sea_isByDates_5 rfl ?_
    refine gw_getR k_Sea_isByDates f_Sea_isByDates_6 l_fldT_7_9 hc1 rfl ?_
    refine gw_alenZ k_Sea_isByDates f_Sea_isByDates_9 hc2 qn_10 ?_
    refine gw_icmp_ge (t := 26) k_Sea_isByDates f_Sea_isByDates_10 rfl (fun c2 => ?_) (fun c2 => ?_)
    · have h := h.1 c2
      refine gw_iconst k_Sea_isByDates f_Sea_isByDates_26 qc_0 ?_
      exact gw_zret k_Sea_isByDates f_Sea_isByDates_27 rfl (Or.inl rfl) h
    · have h := h.2 c2
      refine gw_aload_n k_Sea_isByDates f_Sea_isByDates_13 rfl ?_
      refine gw_getR k_Sea_isByDates f_Sea_isByDates_14 l_fldT_7_9 hc1 rfl ?_
      refine gw_iload_n k_Sea_isByDates f_Sea_isByDates_17 rfl ?_
      refine gw_zald k_Sea_isByDates f_Sea_isByDates_18 hc2 (vin qn_10 (by decide) c1 c2) ?_
      refine gw_if_eq (t := 26) k_Sea_isByDates f_Sea_isByDates_19 rfl (fun c3 => ?_) (fun c3 => ?_)
      · have h := h.1 c3
        refine gw_iconst k_Sea_isByDates f_Sea_isByDates_26 qc_0 ?_
        exact gw_zret k_Sea_isByDates f_Sea_isByDates_27 rfl (Or.inl rfl) h
      · have h := h.2 c3
        refine gw_iconst k_Sea_isByDates f_Sea_isByDates_22 qc_1 ?_
        refine gw_goto (t := 27) k_Sea_isByDates f_Sea_isByDates_23 rfl ?_
        exact gw_zret k_Sea_isByDates f_Sea_isByDates_27 rfl (Or.inr rfl) h
theorem ev_Sea_isByDates {zs : List Int32} {a0 : Int32} {w : Wd} {Q : Option AV → Wd → Prop} (h : Q (some (.inl (f_Sea_isByDates w a0))) w) : Ew zs 0 m_Sea_isByDates [.inr (.inl (some 1)), .inl a0] w Q := by
  refine ew_of k_Sea_isByDates rfl (sg_Sea_isByDates_0 ?_)
  refine ⟨fun c1 => ?_, fun c1 => ?_⟩
  ·
    rw [show f_Sea_isByDates w a0 = 0 from by unfold f_Sea_isByDates; rw [if_pos c1]] at h
    exact h
  ·
    refine ⟨fun c2 => ?_, fun c2 => ?_⟩
    ·
      rw [show f_Sea_isByDates w a0 = 0 from by unfold f_Sea_isByDates; rw [if_neg c1, if_pos c2]] at h
      exact h
    ·
      refine ⟨fun c3 => ?_, fun c3 => ?_⟩
      ·
        rw [show f_Sea_isByDates w a0 = 0 from by unfold f_Sea_isByDates; rw [if_neg c1, if_neg c2, if_pos c3]] at h
        exact h
      ·
        rw [show f_Sea_isByDates w a0 = 1 from by unfold f_Sea_isByDates; rw [if_neg c1, if_neg c2, if_neg c3]] at h
        exact h
theorem fb_Sea_isByDates {w : Wd} {a0 : Int32} : f_Sea_isByDates w a0 = 0 ∨ f_Sea_isByDates w a0 = 1 := by
  unfold f_Sea_isByDates
  exact (if01 (Or.inl rfl) (if01 (Or.inl rfl) (if01 (Or.inl rfl) (Or.inr rfl))))
def f_Day_roughDay (a0 : Int32) (a1 : Int32) : Int32 := (((f_Day_firstOfMonth a0 (a1 / 100)) + (if (f_Day_lengthOfMonth a0 (a1 / 100)) < (a1 - a1 / 100 * 100) then (f_Day_lengthOfMonth a0 (a1 / 100)) else (a1 - a1 / 100 * 100))) - 1)
theorem sg_Day_roughDay_0 {zs : List Int32} {a0 a1 : Int32} {w : Wd} {Q : Option AV → Wd → Prop} (h : Q (some (.inl (((f_Day_firstOfMonth a0 (a1 / 100)) + (if (f_Day_lengthOfMonth a0 (a1 / 100)) < (a1 - a1 / 100 * 100) then (f_Day_lengthOfMonth a0 (a1 / 100)) else (a1 - a1 / 100 * 100))) - 1))) w) : Gw zs 2 m_Day_roughDay 0 [some (.inl a0), some (.inl a1), none, none] [] w Q := by
  refine gw_iload_n k_Day_roughDay f_Day_roughDay_0 rfl ?_
  refine gw_bipush k_Day_roughDay f_Day_roughDay_1 qb_100 ?_
  refine gw_idiv k_Day_roughDay f_Day_roughDay_3 (by decide) ?_
  refine gw_istore_n [some (.inl a0), some (.inl a1), some (.inl (a1 / 100)), none] k_Day_roughDay f_Day_roughDay_4 (Nat.le_of_ble_eq_true rfl) rfl ?_
  refine gw_iload_n k_Day_roughDay f_Day_roughDay_5 rfl ?_
  refine gw_bipush k_Day_roughDay f_Day_roughDay_6 qb_100 ?_
  refine gw_irem k_Day_roughDay f_Day_roughDay_8 (by decide) ?_
  refine gw_iload_n k_Day_roughDay f_Day_roughDay_9 rfl ?_
  refine gw_iload_n k_Day_roughDay f_Day_roughDay_10 rfl ?_
  refine gw_static [.inl a0, .inl (a1 / 100)] k_Day_roughDay f_Day_roughDay_11 l_invT_3_34 (by decide) k_Day_lengthOfMonth rfl (by exact Nat.le_of_ble_eq_true rfl) (dc := 1) (by decide) ?_ rfl
  refine ev_Day_lengthOfMonth ?_
  show Gw zs 2 m_Day_roughDay 14 [some (.inl a0), some (.inl a1), some (.inl (a1 / 100)), none] [.inl (f_Day_lengthOfMonth a0 (a1 / 100)), .inl (a1 - a1 / 100 * 100)] w _
  refine gw_min k_Day_roughDay f_Day_roughDay_14 l_invT_3_41 (by decide) (Nat.le_of_ble_eq_true rfl) ?_
  refine gw_istore_n [some (.inl a0), some (.inl a1), some (.inl (a1 / 100)), some (.inl (if (f_Day_lengthOfMonth a0 (a1 / 100)) < (a1 - a1 / 100 * 100) then (f_Day_lengthOfMonth a0 (a1 / 100)) else (a1 - a1 / 100 * 100)))] k_Day_roughDay f_Day_roughDay_17 (Nat.le_of_ble_eq_true rfl) rfl ?_
  refine gw_iload_n k_Day_roughDay f_Day_roughDay_18 rfl ?_
  refine gw_iload_n k_Day_roughDay f_Day_roughDay_19 rfl ?_
  refine gw_static [.inl a0, .inl (a1 / 100)] k_Day_roughDay f_Day_roughDay_20 l_invT_3_19 (by decide) k_Day_firstOfMonth rfl (by exact Nat.le_of_ble_eq_true rfl) (dc := 1) (by decide) ?_ rfl
  refine ev_Day_firstOfMonth ?_
  show Gw zs 2 m_Day_roughDay 23 [some (.inl a0), some (.inl a1), some (.inl (a1 / 100)), some (.inl (if (f_Day_lengthOfMonth a0 (a1 / 100)) < (a1 - a1 / 100 * 100) then (f_Day_lengthOfMonth a0 (a1 / 100)) else (a1 - a1 / 100 * 100)))] [.inl (f_Day_firstOfMonth a0 (a1 / 100))] w _
  refine gw_iload_n k_Day_roughDay f_Day_roughDay_23 rfl ?_
  refine gw_iadd k_Day_roughDay f_Day_roughDay_24 ?_
  refine gw_iconst k_Day_roughDay f_Day_roughDay_25 qc_1 ?_
  refine gw_isub k_Day_roughDay f_Day_roughDay_26 ?_
  exact gw_iret k_Day_roughDay f_Day_roughDay_27 rfl h
theorem ev_Day_roughDay {zs : List Int32} {a0 a1 : Int32} {w : Wd} {Q : Option AV → Wd → Prop} (h : Q (some (.inl (f_Day_roughDay a0 a1))) w) : Ew zs 2 m_Day_roughDay [.inl a0, .inl a1] w Q := by
  refine ew_of k_Day_roughDay rfl (sg_Day_roughDay_0 ?_)
  rw [show f_Day_roughDay a0 a1 = (((f_Day_firstOfMonth a0 (a1 / 100)) + (if (f_Day_lengthOfMonth a0 (a1 / 100)) < (a1 - a1 / 100 * 100) then (f_Day_lengthOfMonth a0 (a1 / 100)) else (a1 - a1 / 100 * 100))) - 1) from by unfold f_Day_roughDay; rfl] at h
  exact h
def f_Sea_lastDay (w : Wd) (a0 : Int32) (a1 : Int32) : Int32 := if (f_Sea_isByDates w a0) = 0 then ((f_Day_easter a1) + (f_at w 4 10 a0)) else (f_Day_roughDay a1 (f_at w 4 10 a0))
theorem sg_Sea_lastDay_0 {zs : List Int32} {a0 a1 : Int32} {w : Wd} {Q : Option AV → Wd → Prop} (h : (((f_Sea_isByDates w a0) = 0 → Q (some (.inl ((f_Day_easter a1) + (f_at w 4 10 a0)))) w) ∧ (¬ ((f_Sea_isByDates w a0) = 0) → Q (some (.inl (f_Day_roughDay a1 (f_at w 4 10 a0)))) w))) : Gw zs 3 m_Sea_lastDay 0 [some (.inr (.inl (some 1))), some (.inl a0), some (.inl a1)] [] w Q := by
  refine gw_aload_n k_Sea_lastDay f_Sea_lastDay_0 rfl ?_
  refine gw_iload_n k_Sea_lastDay f_Sea_lastDay_1 rfl ?_
  refine gw_virtual [.inl a0] k_Sea_lastDay f_Sea_lastDay_2 l_invT_7_53 k_Sea_isByDates hc1 rfl rfl rfl (by exact Nat.le_of_ble_eq_true rfl) (dc := 0) (by decide) ?_ rfl
  refine ev_Sea_isByDates ?_
  show Gw zs 3 m_Sea_lastDay 5 [some (.inr (.inl (some 1))), some (.inl a0), some (.inl a1)] [.inl (f_Sea_isByDates w a0)] w _
  refine gw_if_eq (t := 23) k_Sea_lastDay f_Sea_lastDay_5 rfl (fun c1 => ?_) (fun c1 => ?_)
  · have h := h.1 c1
    refine gw_iload_n k_Sea_lastDay f_Sea_lastDay_23 rfl ?_
    refine gw_static [.inl a1] k_Sea_lastDay f_Sea_lastDay_24 l_invT_7_64 (by decide) k_Day_easter rfl (by exact Nat.le_of_ble_eq_true rfl) (dc := 2) (by decide) ?_ rfl
    refine ev_Day_easter ?_
    show Gw zs 3 m_Sea_lastDay 27 [some (.inr (.inl (some 1))), some (.inl a0), some (.inl a1)] [.inl (f_Day_easter a1)] w _
    refine gw_aload_n k_Sea_lastDay f_Sea_lastDay_27 rfl ?_
    refine gw_getR k_Sea_lastDay f_Sea_lastDay_28 l_fldT_7_19 hc1 rfl ?_
    refine gw_iload_n k_Sea_lastDay f_Sea_lastDay_31 rfl ?_
    refine gw_static [.inr (.inl (some 4)), .inl a0] k_Sea_lastDay f_Sea_lastDay_32 l_invT_7_56 (by decide) k_Bk_at rfl (by exact Nat.le_of_ble_eq_true rfl) (dc := 0) (by decide) ?_ rfl
    refine ev_at hc4 (by decide) ?_
    show Gw zs 3 m_Sea_lastDay 35 [some (.inr (.inl (some 1))), some (.inl a0), some (.inl a1)] [.inl (f_at w 4 10 a0), .inl (f_Day_easter a1)] w _
    refine gw_iadd k_Sea_lastDay f_Sea_lastDay_35 ?_
    exact gw_iret k_Sea_lastDay f_Sea_lastDay_36 rfl h
  · have h := h.2 c1
    refine gw_iload_n k_Sea_lastDay f_Sea_lastDay_8 rfl ?_
    refine gw_aload_n k_Sea_lastDay f_Sea_lastDay_9 rfl ?_
    refine gw_getR k_Sea_lastDay f_Sea_lastDay_10 l_fldT_7_19 hc1 rfl ?_
    refine gw_iload_n k_Sea_lastDay f_Sea_lastDay_13 rfl ?_
    refine gw_static [.inr (.inl (some 4)), .inl a0] k_Sea_lastDay f_Sea_lastDay_14 l_invT_7_56 (by decide) k_Bk_at rfl (by exact Nat.le_of_ble_eq_true rfl) (dc := 0) (by decide) ?_ rfl
    refine ev_at hc4 (by decide) ?_
    show Gw zs 3 m_Sea_lastDay 17 [some (.inr (.inl (some 1))), some (.inl a0), some (.inl a1)] [.inl (f_at w 4 10 a0), .inl a1] w _
    refine gw_static [.inl a1, .inl (f_at w 4 10 a0)] k_Sea_lastDay f_Sea_lastDay_17 l_invT_7_60 (by decide) k_Day_roughDay rfl (by exact Nat.le_of_ble_eq_true rfl) (dc := 2) (by decide) ?_ rfl
    refine ev_Day_roughDay ?_
    show Gw zs 3 m_Sea_lastDay 20 [some (.inr (.inl (some 1))), some (.inl a0), some (.inl a1)] [.inl (f_Day_roughDay a1 (f_at w 4 10 a0))] w _
    refine gw_goto (t := 36) k_Sea_lastDay f_Sea_lastDay_20 rfl ?_
    exact gw_iret k_Sea_lastDay f_Sea_lastDay_36 rfl h
theorem ev_Sea_lastDay {zs : List Int32} {a0 a1 : Int32} {w : Wd} {Q : Option AV → Wd → Prop} (h : Q (some (.inl (f_Sea_lastDay w a0 a1))) w) : Ew zs 3 m_Sea_lastDay [.inr (.inl (some 1)), .inl a0, .inl a1] w Q := by
  refine ew_of k_Sea_lastDay rfl (sg_Sea_lastDay_0 ?_)
  refine ⟨fun c1 => ?_, fun c1 => ?_⟩
  ·
    rw [show f_Sea_lastDay w a0 a1 = ((f_Day_easter a1) + (f_at w 4 10 a0)) from by unfold f_Sea_lastDay; rw [if_pos c1]] at h
    exact h
  ·
    rw [show f_Sea_lastDay w a0 a1 = (f_Day_roughDay a1 (f_at w 4 10 a0)) from by unfold f_Sea_lastDay; rw [if_neg c1]] at h
    exact h
