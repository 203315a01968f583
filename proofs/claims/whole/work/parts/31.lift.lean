/-! Methods without loops: values and worlds -/
def f_Sea_firstDay (w : Wd) (a0 : Int32) (a1 : Int32) : Int32 := if (f_Sea_isByDates w a0) = 0 then ((f_Day_easter a1) + (f_at w 3 10 a0)) else (f_Day_roughDay a1 (f_at w 3 10 a0))
theorem sg_Sea_firstDay_0 {zs : List Int32} {a0 a1 : Int32} {w : Wd} {Q : Option AV → Wd → Prop} (h : (((f_Sea_isByDates w a0) = 0 → Q (some (.inl ((f_Day_easter a1) + (f_at w 3 10 a0)))) w) ∧ (¬ ((f_Sea_isByDates w a0) = 0) → Q (some (.inl (f_Day_roughDay a1 (f_at w 3 10 a0)))) w))) : Gw zs 3 m_Sea_firstDay 0 [some (.inr (.inl (some 1))), some (.inl a0), some (.inl a1)] [] w Q := by
  refine gw_aload_n k_Sea_firstDay f_Sea_firstDay_0 rfl ?_
  refine gw_iload_n k_Sea_firstDay f_Sea_firstDay_1 rfl ?_
  refine gw_virtual [.inl a0] k_Sea_firstDay f_Sea_firstDay_2 l_invT_7_53 k_Sea_isByDates hc1 rfl rfl rfl (by exact Nat.le_of_ble_eq_true rfl) (dc := 0) (by decide) ?_ rfl
  refine ev_Sea_isByDates ?_
  show Gw zs 3 m_Sea_firstDay 5 [some (.inr (.inl (some 1))), some (.inl a0), some (.inl a1)] [.inl (f_Sea_isByDates w a0)] w _
  refine gw_if_eq (t := 23) k_Sea_firstDay f_Sea_firstDay_5 rfl (fun c1 => ?_) (fun c1 => ?_)
  · have h := h.1 c1
    refine gw_iload_n k_Sea_firstDay f_Sea_firstDay_23 rfl ?_
    refine gw_static [.inl a1] k_Sea_firstDay f_Sea_firstDay_24 l_invT_7_64 (by decide) k_Day_easter rfl (by exact Nat.le_of_ble_eq_true rfl) (dc := 2) (by decide) ?_ rfl
    refine ev_Day_easter ?_
    show Gw zs 3 m_Sea_firstDay 27 [some (.inr (.inl (some 1))), some (.inl a0), some (.inl a1)] [.inl (f_Day_easter a1)] w _
    refine gw_aload_n k_Sea_firstDay f_Sea_firstDay_27 rfl ?_
    refine gw_getR k_Sea_firstDay f_Sea_firstDay_28 l_fldT_7_15 hc1 rfl ?_
    refine gw_iload_n k_Sea_firstDay f_Sea_firstDay_31 rfl ?_
    refine gw_static [.inr (.inl (some 3)), .inl a0] k_Sea_firstDay f_Sea_firstDay_32 l_invT_7_56 (by decide) k_Bk_at rfl (by exact Nat.le_of_ble_eq_true rfl) (dc := 0) (by decide) ?_ rfl
    refine ev_at hc3 (by decide) ?_
    show Gw zs 3 m_Sea_firstDay 35 [some (.inr (.inl (some 1))), some (.inl a0), some (.inl a1)] [.inl (f_at w 3 10 a0), .inl (f_Day_easter a1)] w _
    refine gw_iadd k_Sea_firstDay f_Sea_firstDay_35 ?_
    exact gw_iret k_Sea_firstDay f_Sea_firstDay_36 rfl h
  · have h := h.2 c1
    refine gw_iload_n k_Sea_firstDay f_Sea_firstDay_8 rfl ?_
    refine gw_aload_n k_Sea_firstDay f_Sea_firstDay_9 rfl ?_
    refine gw_getR k_Sea_firstDay f_Sea_firstDay_10 l_fldT_7_15 hc1 rfl ?_
    refine gw_iload_n k_Sea_firstDay f_Sea_firstDay_13 rfl ?_
    refine gw_static [.inr (.inl (some 3)), .inl a0] k_Sea_firstDay f_Sea_firstDay_14 l_invT_7_56 (by decide) k_Bk_at rfl (by exact Nat.le_of_ble_eq_true rfl) (dc := 0) (by decide) ?_ rfl
    refine ev_at hc3 (by decide) ?_
    show Gw zs 3 m_Sea_firstDay 17 [some (.inr (.inl (some 1))), some (.inl a0), some (.inl a1)] [.inl (f_at w 3 10 a0), .inl a1] w _
    refine gw_static [.inl a1, .inl (f_at w 3 10 a0)] k_Sea_firstDay f_Sea_firstDay_17 l_invT_7_60 (by decide) k_Day_roughDay rfl (by exact Nat.le_of_ble_eq_true rfl) (dc := 2) (by decide) ?_ rfl
    refine ev_Day_roughDay ?_
    show Gw zs 3 m_Sea_firstDay 20 [some (.inr (.inl (some 1))), some (.inl a0), some (.inl a1)] [.inl (f_Day_roughDay a1 (f_at w 3 10 a0))] w _
    refine gw_goto (t := 36) k_Sea_firstDay f_Sea_firstDay_20 rfl ?_
    exact gw_iret k_Sea_firstDay f_Sea_firstDay_36 rfl h
theorem ev_Sea_firstDay {zs : List Int32} {a0 a1 : Int32} {w : Wd} {Q : Option AV → Wd → Prop} (h : Q (some (.inl (f_Sea_firstDay w a0 a1))) w) : Ew zs 3 m_Sea_firstDay [.inr (.inl (some 1)), .inl a0, .inl a1] w Q := by
  refine ew_of k_Sea_firstDay rfl (sg_Sea_firstDay_0 ?_)
  refine ⟨fun c1 => ?_, fun c1 => ?_⟩
  ·
    rw [show f_Sea_firstDay w a0 a1 = ((f_Day_easter a1) + (f_at w 3 10 a0)) from by unfold f_Sea_firstDay; rw [if_pos c1]] at h
    exact h
  ·
    rw [show f_Sea_firstDay w a0 a1 = (f_Day_roughDay a1 (f_at w 3 10 a0)) from by unfold f_Sea_firstDay; rw [if_neg c1]] at h
    exact h
def f_Fea_count (w : Wd)  : Int32 := (w 8 7)
theorem sg_Fea_count_0 {zs : List Int32} {w : Wd} {Q : Option AV → Wd → Prop} (h : Q (some (.inl (w 8 7))) w) : Gw zs 0 m_Fea_count 0 [some (.inr (.inl (some 8)))] [] w Q := by
  refine gw_aload_n k_Fea_count f_Fea_count_0 rfl ?_
  refine gw_getI k_Fea_count f_Fea_count_1 l_fldT_4_34 hc8 rfl ?_
  exact gw_iret k_Fea_count f_Fea_count_4 rfl h
theorem ev_Fea_count {zs : List Int32} {w : Wd} {Q : Option AV → Wd → Prop} (h : Q (some (.inl (f_Fea_count w))) w) : Ew zs 0 m_Fea_count [.inr (.inl (some 8))] w Q := by
  refine ew_of k_Fea_count rfl (sg_Fea_count_0 ?_)
  rw [show f_Fea_count w = (w 8 7) from by unfold f_Fea_count; rfl] at h
  exact h
def f_Day_nthWeekday (a0 : Int32) (a1 : Int32) (a2 : Int32) (a3 : Int32) : Int32 := (f_Day_dayOf a0 a1 ((1 + (((a2 - (((f_Day_firstWeekday a0) + (f_Day_firstOfMonth a0 a1)) - ((f_Day_firstWeekday a0) + (f_Day_firstOfMonth a0 a1)) / 7 * 7)) + 7) - ((a2 - (((f_Day_firstWeekday a0) + (f_Day_firstOfMonth a0 a1)) - ((f_Day_firstWeekday a0) + (f_Day_firstOfMonth a0 a1)) / 7 * 7)) + 7) / 7 * 7)) + (7 * (a3 - 1))))
theorem sg_Day_nthWeekday_0 {zs : List Int32} {a0 a1 a2 a3 : Int32} {w : Wd} {Q : Option AV → Wd → Prop} (h : Q (some (.inl (f_Day_dayOf a0 a1 ((1 + (((a2 - (((f_Day_firstWeekday a0) + (f_Day_firstOfMonth a0 a1)) - ((f_Day_firstWeekday a0) + (f_Day_firstOfMonth a0 a1)) / 7 * 7)) + 7) - ((a2 - (((f_Day_firstWeekday a0) + (f_Day_firstOfMonth a0 a1)) - ((f_Day_firstWeekday a0) + (f_Day_firstOfMonth a0 a1)) / 7 * 7)) + 7) / 7 * 7)) + (7 * (a3 - 1)))))) w) : Gw zs 3 m_Day_nthWeekday 0 [some (.inl a0), some (.inl a1), some (.inl a2), some (.inl a3), none, none] [] w Q := by
  refine gw_iload_n k_Day_nthWeekday f_Day_nthWeekday_0 rfl ?_
  refine gw_iload_n k_Day_nthWeekday f_Day_nthWeekday_1 rfl ?_
  refine gw_static [.inl a0, .inl a1] k_Day_nthWeekday f_Day_nthWeekday_2 l_invT_3_19 (by decide) k_Day_firstOfMonth rfl (by exact Nat.le_of_ble_eq_true rfl) (dc := 1) (by decide) ?_ rfl
  refine ev_Day_firstOfMonth ?_
  show Gw zs 3 m_Day_nthWeekday 5 [some (.inl a0), some (.inl a1), some (.inl a2), some (.inl a3), none, none] [.inl (f_Day_firstOfMonth a0 a1)] w _
  refine gw_istore [some (.inl a0), some (.inl a1), some (.inl a2), some (.inl a3), some (.inl (f_Day_firstOfMonth a0 a1)), none] k_Day_nthWeekday f_Day_nthWeekday_5 (Nat.le_of_ble_eq_true rfl) rfl ?_
  refine gw_iload_n k_Day_nthWeekday f_Day_nthWeekday_7 rfl ?_
  refine gw_iload_n k_Day_nthWeekday f_Day_nthWeekday_8 rfl ?_
  refine gw_static [.inl a0] k_Day_nthWeekday f_Day_nthWeekday_9 l_invT_3_46 (by decide) k_Day_firstWeekday rfl (by exact Nat.le_of_ble_eq_true rfl) (dc := 0) (by decide) ?_ rfl
  refine ev_Day_firstWeekday ?_
  show Gw zs 3 m_Day_nthWeekday 12 [some (.inl a0), some (.inl a1), some (.inl a2), some (.inl a3), some (.inl (f_Day_firstOfMonth a0 a1)), none] [.inl (f_Day_firstWeekday a0), .inl a2] w _
  refine gw_iload k_Day_nthWeekday f_Day_nthWeekday_12 rfl ?_
  refine gw_iadd k_Day_nthWeekday f_Day_nthWeekday_14 ?_
  refine gw_bipush k_Day_nthWeekday f_Day_nthWeekday_15 qb_7 ?_
  refine gw_irem k_Day_nthWeekday f_Day_nthWeekday_17 (by decide) ?_
  refine gw_isub k_Day_nthWeekday f_Day_nthWeekday_18 ?_
  refine gw_bipush k_Day_nthWeekday f_Day_nthWeekday_19 qb_7 ?_
  refine gw_iadd k_Day_nthWeekday f_Day_nthWeekday_21 ?_
  refine gw_bipush k_Day_nthWeekday f_Day_nthWeekday_22 qb_7 ?_
  refine gw_irem k_Day_nthWeekday f_Day_nthWeekday_24 (by decide) ?_
  refine gw_istore [some (.inl a0), some (.inl a1), some (.inl a2), some (.inl a3), some (.inl (f_Day_firstOfMonth a0 a1)), some (.inl (((a2 - (((f_Day_firstWeekday a0) + (f_Day_firstOfMonth a0 a1)) - ((f_Day_firstWeekday a0) + (f_Day_firstOfMonth a0 a1)) / 7 * 7)) + 7) - ((a2 - (((f_Day_firstWeekday a0) + (f_Day_firstOfMonth a0 a1)) - ((f_Day_firstWeekday a0) + (f_Day_firstOfMonth a0 a1)) / 7 * 7)) + 7) / 7 * 7))] k_Day_nthWeekday f_Day_nthWeekday_25 (Nat.le_of_ble_eq_true rfl) rfl ?_
  refine gw_iload_n k_Day_nthWeekday f_Day_nthWeekday_27 rfl ?_
  refine gw_iload_n k_Day_nthWeekday f_Day_nthWeekday_28 rfl ?_
  refine gw_iconst k_Day_nthWeekday f_Day_nthWeekday_29 qc_1 ?_
  refine gw_iload k_Day_nthWeekday f_Day_nthWeekday_30 rfl ?_
  refine gw_iadd k_Day_nthWeekday f_Day_nthWeekday_32 ?_
  refine gw_bipush k_Day_nthWeekday f_Day_nthWeekday_33 qb_7 ?_
  refine gw_iload_n k_Day_nthWeekday f_Day_nthWeekday_35 rfl ?_
  refine gw_iconst k_Day_nthWeekday f_Day_nthWeekday_36 qc_1 ?_
  refine gw_isub k_Day_nthWeekday f_Day_nthWeekday_37 ?_
  refine gw_imul k_Day_nthWeekday f_Day_nthWeekday_38 ?_
  refine gw_iadd k_Day_nthWeekday f_Day_nthWeekday_39 ?_
  refine gw_static [.inl a0, .inl a1, .inl ((1 + (((a2 - (((f_Day_firstWeekday a0) + (f_Day_firstOfMonth a0 a1)) - ((f_Day_firstWeekday a0) + (f_Day_firstOfMonth a0 a1)) / 7 * 7)) + 7) - ((a2 - (((f_Day_firstWeekday a0) + (f_Day_firstOfMonth a0 a1)) - ((f_Day_firstWeekday a0) + (f_Day_firstOfMonth a0 a1)) / 7 * 7)) + 7) / 7 * 7)) + (7 * (a3 - 1)))] k_Day_nthWeekday f_Day_nthWeekday_40 l_invT_3_37 (by decide) k_Day_dayOf rfl (by exact Nat.le_of_ble_eq_true rfl) (dc := 2) (by decide) ?_ rfl
  refine ev_Day_dayOf ?_
  show Gw zs 3 m_Day_nthWeekday 43 [some (.inl a0), some (.inl a1), some (.inl a2), some (.inl a3), some (.inl (f_Day_firstOfMonth a0 a1)), some (.inl (((a2 - (((f_Day_firstWeekday a0) + (f_Day_firstOfMonth a0 a1)) - ((f_Day_firstWeekday a0) + (f_Day_firstOfMonth a0 a1)) / 7 * 7)) + 7) - ((a2 - (((f_Day_firstWeekday a0) + (f_Day_firstOfMonth a0 a1)) - ((f_Day_firstWeekday a0) + (f_Day_firstOfMonth a0 a1)) / 7 * 7)) + 7) / 7 * 7))] [.inl (f_Day_dayOf a0 a1 ((1 + (((a2 - (((f_Day_firstWeekday a0) + (f_Day_firstOfMonth a0 a1)) - ((f_Day_firstWeekday a0) + (f_Day_firstOfMonth a0 a1)) / 7 * 7)) + 7) - ((a2 - (((f_Day_firstWeekday a0) + (f_Day_firstOfMonth a0 a1)) - ((f_Day_firstWeekday a0) + (f_Day_firstOfMonth a0 a1)) / 7 * 7)) + 7) / 7 * 7)) + (7 * (a3 - 1))))] w _
  exact gw_iret k_Day_nthWeekday f_Day_nthWeekday_43 rfl h
theorem ev_Day_nthWeekday {zs : List Int32} {a0 a1 a2 a3 : Int32} {w : Wd} {Q : Option AV → Wd → Prop} (h : Q (some (.inl (f_Day_nthWeekday a0 a1 a2 a3))) w) : Ew zs 3 m_Day_nthWeekday [.inl a0, .inl a1, .inl a2, .inl a3] w Q := by
  refine ew_of k_Day_nthWeekday rfl (sg_Day_nthWeekday_0 ?_)
  rw [show f_Day_nthWeekday a0 a1 a2 a3 = (f_Day_dayOf a0 a1 ((1 + (((a2 - (((f_Day_firstWeekday a0) + (f_Day_firstOfMonth a0 a1)) - ((f_Day_firstWeekday a0) + (f_Day_firstOfMonth a0 a1)) / 7 * 7)) + 7) - ((a2 - (((f_Day_firstWeekday a0) + (f_Day_firstOfMonth a0 a1)) - ((f_Day_firstWeekday a0) + (f_Day_firstOfMonth a0 a1)) / 7 * 7)) + 7) / 7 * 7)) + (7 * (a3 - 1)))) from by unfold f_Day_nthWeekday; rfl] at h
  exact h
def f_Fea_dayIn (w : Wd) (a0 : Int32) (a1 : Int32) : Int32 := if (f_at w 9 60 a0) = 0 then (f_Day_dayOf a1 ((f_at w 10 60 a0) / 100) ((f_at w 10 60 a0) - (f_at w 10 60 a0) / 100 * 100)) else if (f_at w 9 60 a0) = 1 then if (f_Bk_within ((f_Day_easter a1) + (f_at w 10 60 a0)) 0 ((f_Day_lengthOf a1) - 1)) = 0 then (-1) else ((f_Day_easter a1) + (f_at w 10 60 a0)) else if (f_at w 9 60 a0) = 2 then (f_Day_nthWeekday a1 ((f_at w 10 60 a0) / 100) (((f_at w 10 60 a0) / 10) - ((f_at w 10 60 a0) / 10) / 10 * 10) ((f_at w 10 60 a0) - (f_at w 10 60 a0) / 10 * 10)) else (-1)
theorem sg_Fea_dayIn_0 {zs : List Int32} {a0 a1 : Int32} {w : Wd} {Q : Option AV → Wd → Prop} (h : (((f_at w 9 60 a0) = 0 → Q (some (.inl (f_Day_dayOf a1 ((f_at w 10 60 a0) / 100) ((f_at w 10 60 a0) - (f_at w 10 60 a0) / 100 * 100)))) w) ∧ ((f_at w 9 60 a0) = 1 → (((f_Bk_within ((f_Day_easter a1) + (f_at w 10 60 a0)) 0 ((f_Day_lengthOf a1) - 1)) = 0 → Q (some (.inl (-1))) w) ∧ (¬ ((f_Bk_within ((f_Day_easter a1) + (f_at w 10 60 a0)) 0 ((f_Day_lengthOf a1) - 1)) = 0) → Q (some (.inl ((f_Day_easter a1) + (f_at w 10 60 a0)))) w))) ∧ ((f_at w 9 60 a0) = 2 → Q (some (.inl (f_Day_nthWeekday a1 ((f_at w 10 60 a0) / 100) (((f_at w 10 60 a0) / 10) - ((f_at w 10 60 a0) / 10) / 10 * 10) ((f_at w 10 60 a0) - (f_at w 10 60 a0) / 10 * 10)))) w) ∧ (¬ (f_at w 9 60 a0) = 0 → ¬ (f_at w 9 60 a0) = 1 → ¬ (f_at w 9 60 a0) = 2 → Q (some (.inl (-1))) w))) : Gw zs 4 m_Fea_dayIn 0 [some (.inr (.inl (some 8))), some (.inl a0), some (.inl a1), none, none] [] w Q := by
  refine gw_aload_n k_Fea_dayIn f_Fea_dayIn_0 rfl ?_
  refine gw_getR k_Fea_dayIn f_Fea_dayIn_1 l_fldT_4_15 hc8 rfl ?_
  refine gw_iload_n k_Fea_dayIn f_Fea_dayIn_4 rfl ?_
  refine gw_static [.inr (.inl (some 10)), .inl a0] k_Fea_dayIn f_Fea_dayIn_5 l_invT_4_62 (by decide) k_Bk_at rfl (by exact Nat.le_of_ble_eq_true rfl) (dc := 0) (by decide) ?_ rfl
  refine ev_at hc10 (by decide) ?_
  show Gw zs 4 m_Fea_dayIn 8 [some (.inr (.inl (some 8))), some (.inl a0), some (.inl a1), none, none] [.inl (f_at w 10 60 a0)] w _
  refine gw_istore_n [some (.inr (.inl (some 8))), some (.inl a0), some (.inl a1), some (.inl (f_at w 10 60 a0)), none] k_Fea_dayIn f_Fea_dayIn_8 (Nat.le_of_ble_eq_true rfl) rfl ?_
  refine gw_aload_n k_Fea_dayIn f_Fea_dayIn_9 rfl ?_
  refine gw_getR k_Fea_dayIn f_Fea_dayIn_10 l_fldT_4_9 hc8 rfl ?_
  refine gw_iload_n k_Fea_dayIn f_Fea_dayIn_13 rfl ?_
  refine gw_static [.inr (.inl (some 9)), .inl a0] k_Fea_dayIn f_Fea_dayIn_14 l_invT_4_62 (by decide) k_Bk_at rfl (by exact Nat.le_of_ble_eq_true rfl) (dc := 0) (by decide) ?_ rfl
  refine ev_at hc9 (by decide) ?_
  show Gw zs 4 m_Fea_dayIn 17 [some (.inr (.inl (some 8))), some (.inl a0), some (.inl a1), some (.inl (f_at w 10 60 a0)), none] [.inl (f_at w 9 60 a0)] w _
  refine gw_tsw k_Fea_dayIn f_Fea_dayIn_17 (by decide) (by decide) (fun q hq hx => ?_) (fun hx => ?_)
  · match q, hq, hx with
    | 0, hq, hx =>
      have c1 : (f_at w 9 60 a0) = 0 := hx.trans (by decide)
      have h := h.1 c1
      refine ⟨_, 44, rfl, rfl, ?_⟩
      refine gw_iload_n k_Fea_dayIn f_Fea_dayIn_44 rfl ?_
      refine gw_iload_n k_Fea_dayIn f_Fea_dayIn_45 rfl ?_
      refine gw_bipush k_Fea_dayIn f_Fea_dayIn_46 qb_100 ?_
      refine gw_idiv k_Fea_dayIn f_Fea_dayIn_48 (by decide) ?_
      refine gw_iload_n k_Fea_dayIn f_Fea_dayIn_49 rfl ?_
      refine gw_bipush k_Fea_dayIn f_Fea_dayIn_50 qb_100 ?_
      refine gw_irem k_Fea_dayIn f_Fea_dayIn_52 (by decide) ?_
      refine gw_static [.inl a1, .inl ((f_at w 10 60 a0) / 100), .inl ((f_at w 10 60 a0) - (f_at w 10 60 a0) / 100 * 100)] k_Fea_dayIn f_Fea_dayIn_53 l_invT_4_66 (by decide) k_Day_dayOf rfl (by exact Nat.le_of_ble_eq_true rfl) (dc := 2) (by decide) ?_ rfl
      refine ev_Day_dayOf ?_
      show Gw zs 4 m_Fea_dayIn 56 [some (.inr (.inl (some 8))), some (.inl a0), some (.inl a1), some (.inl (f_at w 10 60 a0)), none] [.inl (f_Day_dayOf a1 ((f_at w 10 60 a0) / 100) ((f_at w 10 60 a0) - (f_at w 10 60 a0) / 100 * 100))] w _
      exact gw_iret k_Fea_dayIn f_Fea_dayIn_56 rfl h
    | 1, hq, hx =>
      have c2 : (f_at w 9 60 a0) = 1 := hx.trans (by decide)
      have h := h.2.1 c2
      refine ⟨_, 57, rfl, rfl, ?_⟩
      refine gw_iload_n k_Fea_dayIn f_Fea_dayIn_57 rfl ?_
      refine gw_static [.inl a1] k_Fea_dayIn f_Fea_dayIn_58 l_invT_4_70 (by decide) k_Day_easter rfl (by exact Nat.le_of_ble_eq_true rfl) (dc := 2) (by decide) ?_ rfl
      refine ev_Day_easter ?_
      show Gw zs 4 m_Fea_dayIn 61 [some (.inr (.inl (some 8))), some (.inl a0), some (.inl a1), some (.inl (f_at w 10 60 a0)), none] [.inl (f_Day_easter a1)] w _
      refine gw_iload_n k_Fea_dayIn f_Fea_dayIn_61 rfl ?_
      refine gw_iadd k_Fea_dayIn f_Fea_dayIn_62 ?_
      refine gw_istore [some (.inr (.inl (some 8))), some (.inl a0), some (.inl a1), some (.inl (f_at w 10 60 a0)), some (.inl ((f_Day_easter a1) + (f_at w 10 60 a0)))] k_Fea_dayIn f_Fea_dayIn_63 (Nat.le_of_ble_eq_true rfl) rfl ?_
      refine gw_iload k_Fea_dayIn f_Fea_dayIn_65 rfl ?_
      refine gw_iconst k_Fea_dayIn f_Fea_dayIn_67 qc_0 ?_
      refine gw_iload_n k_Fea_dayIn f_Fea_dayIn_68 rfl ?_
      refine gw_static [.inl a1] k_Fea_dayIn f_Fea_dayIn_69 l_invT_4_74 (by decide) k_Day_lengthOf rfl (by exact Nat.le_of_ble_eq_true rfl) (dc := 1) (by decide) ?_ rfl
      refine ev_Day_lengthOf ?_
      show Gw zs 4 m_Fea_dayIn 72 [some (.inr (.inl (some 8))), some (.inl a0), some (.inl a1), some (.inl (f_at w 10 60 a0)), some (.inl ((f_Day_easter a1) + (f_at w 10 60 a0)))] [.inl (f_Day_lengthOf a1), .inl 0, .inl ((f_Day_easter a1) + (f_at w 10 60 a0))] w _
      refine gw_iconst k_Fea_dayIn f_Fea_dayIn_72 qc_1 ?_
      refine gw_isub k_Fea_dayIn f_Fea_dayIn_73 ?_
      refine gw_static [.inl ((f_Day_easter a1) + (f_at w 10 60 a0)), .inl 0, .inl ((f_Day_lengthOf a1) - 1)] k_Fea_dayIn f_Fea_dayIn_74 l_invT_4_45 (by decide) k_Bk_within rfl (by exact Nat.le_of_ble_eq_true rfl) (dc := 0) (by decide) ?_ rfl
      refine ev_Bk_within ?_
      show Gw zs 4 m_Fea_dayIn 77 [some (.inr (.inl (some 8))), some (.inl a0), some (.inl a1), some (.inl (f_at w 10 60 a0)), some (.inl ((f_Day_easter a1) + (f_at w 10 60 a0)))] [.inl (f_Bk_within ((f_Day_easter a1) + (f_at w 10 60 a0)) 0 ((f_Day_lengthOf a1) - 1))] w _
      refine gw_if_eq (t := 85) k_Fea_dayIn f_Fea_dayIn_77 rfl (fun c3 => ?_) (fun c3 => ?_)
      · have h := h.1 c3
        refine gw_iconst k_Fea_dayIn f_Fea_dayIn_85 qc_m1 ?_
        exact gw_iret k_Fea_dayIn f_Fea_dayIn_86 rfl h
      · have h := h.2 c3
        refine gw_iload k_Fea_dayIn f_Fea_dayIn_80 rfl ?_
        refine gw_goto (t := 86) k_Fea_dayIn f_Fea_dayIn_82 rfl ?_
        exact gw_iret k_Fea_dayIn f_Fea_dayIn_86 rfl h
    | 2, hq, hx =>
      have c4 : (f_at w 9 60 a0) = 2 := hx.trans (by decide)
      have h := h.2.2.1 c4
      refine ⟨_, 87, rfl, rfl, ?_⟩
      refine gw_iload_n k_Fea_dayIn f_Fea_dayIn_87 rfl ?_
      refine gw_iload_n k_Fea_dayIn f_Fea_dayIn_88 rfl ?_
      refine gw_bipush k_Fea_dayIn f_Fea_dayIn_89 qb_100 ?_
      refine gw_idiv k_Fea_dayIn f_Fea_dayIn_91 (by decide) ?_
      refine gw_iload_n k_Fea_dayIn f_Fea_dayIn_92 rfl ?_
      refine gw_bipush k_Fea_dayIn f_Fea_dayIn_93 qb_10 ?_
      refine gw_idiv k_Fea_dayIn f_Fea_dayIn_95 (by decide) ?_
      refine gw_bipush k_Fea_dayIn f_Fea_dayIn_96 qb_10 ?_
      refine gw_irem k_Fea_dayIn f_Fea_dayIn_98 (by decide) ?_
      refine gw_iload_n k_Fea_dayIn f_Fea_dayIn_99 rfl ?_
      refine gw_bipush k_Fea_dayIn f_Fea_dayIn_100 qb_10 ?_
      refine gw_irem k_Fea_dayIn f_Fea_dayIn_102 (by decide) ?_
      refine gw_static [.inl a1, .inl ((f_at w 10 60 a0) / 100), .inl (((f_at w 10 60 a0) / 10) - ((f_at w 10 60 a0) / 10) / 10 * 10), .inl ((f_at w 10 60 a0) - (f_at w 10 60 a0) / 10 * 10)] k_Fea_dayIn f_Fea_dayIn_103 l_invT_4_77 (by decide) k_Day_nthWeekday rfl (by exact Nat.le_of_ble_eq_true rfl) (dc := 3) (by decide) ?_ rfl
      refine ev_Day_nthWeekday ?_
      show Gw zs 4 m_Fea_dayIn 106 [some (.inr (.inl (some 8))), some (.inl a0), some (.inl a1), some (.inl (f_at w 10 60 a0)), none] [.inl (f_Day_nthWeekday a1 ((f_at w 10 60 a0) / 100) (((f_at w 10 60 a0) / 10) - ((f_at w 10 60 a0) / 10) / 10 * 10) ((f_at w 10 60 a0) - (f_at w 10 60 a0) / 10 * 10))] w _
      exact gw_iret k_Fea_dayIn f_Fea_dayIn_106 rfl h
    | q + 3, hq, hx => exact absurd hq (by show ¬ (q + 3 < 3); omega)
  ·
    have c5 : ¬ (f_at w 9 60 a0) = 0 := fun c => hx 0 (by decide) (c.trans (by decide))
    have c6 : ¬ (f_at w 9 60 a0) = 1 := fun c => hx 1 (by decide) (c.trans (by decide))
    have c7 : ¬ (f_at w 9 60 a0) = 2 := fun c => hx 2 (by decide) (c.trans (by decide))
    have h := h.2.2.2 c5 c6 c7
    refine ⟨107, rfl, ?_⟩
    refine gw_iconst k_Fea_dayIn f_Fea_dayIn_107 qc_m1 ?_
    exact gw_iret k_Fea_dayIn f_Fea_dayIn_108 rfl h
theorem ev_Fea_dayIn {zs : List Int32} {a0 a1 : Int32} {w : Wd} {Q : Option AV → Wd → Prop} (h : Q (some (.inl (f_Fea_dayIn w a0 a1))) w) : Ew zs 4 m_Fea_dayIn [.inr (.inl (some 8)), .inl a0, .inl a1] w Q := by
  refine ew_of k_Fea_dayIn rfl (sg_Fea_dayIn_0 ?_)
  refine ⟨fun c0_1 => ?_, fun c1_1 => ?_, fun c2_1 => ?_, fun c0_1 c1_1 c2_1 => ?_⟩
  ·
    rw [show f_Fea_dayIn w a0 a1 = (f_Day_dayOf a1 ((f_at w 10 60 a0) / 100) ((f_at w 10 60 a0) - (f_at w 10 60 a0) / 100 * 100)) from by unfold f_Fea_dayIn; rw [if_pos c0_1]] at h
    exact h
  ·
    refine ⟨fun c3 => ?_, fun c3 => ?_⟩
    ·
      rw [show f_Fea_dayIn w a0 a1 = (-1) from by unfold f_Fea_dayIn; rw [if_neg (by rw [c1_1]; decide), if_pos c1_1, if_pos c3]] at h
      exact h
    ·
      rw [show f_Fea_dayIn w a0 a1 = ((f_Day_easter a1) + (f_at w 10 60 a0)) from by unfold f_Fea_dayIn; rw [if_neg (by rw [c1_1]; decide), if_pos c1_1, if_neg c3]] at h
      exact h
  ·
    rw [show f_Fea_dayIn w a0 a1 = (f_Day_nthWeekday a1 ((f_at w 10 60 a0) / 100) (((f_at w 10 60 a0) / 10) - ((f_at w 10 60 a0) / 10) / 10 * 10) ((f_at w 10 60 a0) - (f_at w 10 60 a0) / 10 * 10)) from by unfold f_Fea_dayIn; rw [if_neg (by rw [c2_1]; decide), if_neg (by rw [c2_1]; decide), if_pos c2_1]] at h
    exact h
  ·
    rw [show f_Fea_dayIn w a0 a1 = (-1) from by unfold f_Fea_dayIn; rw [if_neg c0_1, if_neg c1_1, if_neg c2_1]] at h
    exact h
def f_Alm_weekdayOf (w : Wd) (a0 : Int32) : Int32 := (((w 16 9) + a0) - ((w 16 9) + a0) / 7 * 7)
theorem sg_Alm_weekdayOf_0 {zs : List Int32} {a0 : Int32} {w : Wd} {Q : Option AV → Wd → Prop} (h : Q (some (.inl (((w 16 9) + a0) - ((w 16 9) + a0) / 7 * 7))) w) : Gw zs 0 m_Alm_weekdayOf 0 [some (.inr (.inl (some 16))), some (.inl a0)] [] w Q := by
  refine gw_aload_n k_Alm_weekdayOf f_Alm_weekdayOf_0 rfl ?_
  refine gw_getI k_Alm_weekdayOf f_Alm_weekdayOf_1 l_fldT_0_57 hc16 rfl ?_
  refine gw_iload_n k_Alm_weekdayOf f_Alm_weekdayOf_4 rfl ?_
  refine gw_iadd k_Alm_weekdayOf f_Alm_weekdayOf_5 ?_
  refine gw_bipush k_Alm_weekdayOf f_Alm_weekdayOf_6 qb_7 ?_
  refine gw_irem k_Alm_weekdayOf f_Alm_weekdayOf_8 (by decide) ?_
  exact gw_iret k_Alm_weekdayOf f_Alm_weekdayOf_9 rfl h
theorem ev_Alm_weekdayOf {zs : List Int32} {a0 : Int32} {w : Wd} {Q : Option AV → Wd → Prop} (h : Q (some (.inl (f_Alm_weekdayOf w a0))) w) : Ew zs 0 m_Alm_weekdayOf [.inr (.inl (some 16)), .inl a0] w Q := by
  refine ew_of k_Alm_weekdayOf rfl (sg_Alm_weekdayOf_0 ?_)
  rw [show f_Alm_weekdayOf w a0 = (((w 16 9) + a0) - ((w 16 9) + a0) / 7 * 7) from by unfold f_Alm_weekdayOf; rfl] at h
  exact h
def f_Sea_rankOf (w : Wd) (a0 : Int32) (a1 : Int32) : Int32 := if a0 = (-1) then if a1 = 0 then 3 else 0 else if a1 = 0 then (f_at w 5 10 a0) else (f_at w 6 10 a0)
theorem sg_Sea_rankOf_0 {zs : List Int32} {a0 a1 : Int32} {w : Wd} {Q : Option AV → Wd → Prop} (h : ((a0 = (-1) → ((a1 = 0 → Q (some (.inl 3)) w) ∧ (¬ (a1 = 0) → Q (some (.inl 0)) w))) ∧ (¬ (a0 = (-1)) → ((a1 = 0 → Q (some (.inl (f_at w 5 10 a0))) w) ∧ (¬ (a1 = 0) → Q (some (.inl (f_at w 6 10 a0))) w))))) : Gw zs 1 m_Sea_rankOf 0 [some (.inr (.inl (some 1))), some (.inl a0), some (.inl a1)] [] w Q := by
  refine gw_iload_n k_Sea_rankOf f_Sea_rankOf_0 rfl ?_
  refine gw_iconst k_Sea_rankOf f_Sea_rankOf_1 qc_m1 ?_
  refine gw_icmp_ne (t := 15) k_Sea_rankOf f_Sea_rankOf_2 rfl (fun c1 => ?_) (fun c1 => ?_)
  · have h := h.2 c1
    refine gw_iload_n k_Sea_rankOf f_Sea_rankOf_15 rfl ?_
    refine gw_if_ne (t := 30) k_Sea_rankOf f_Sea_rankOf_16 rfl (fun c2 => ?_) (fun c2 => ?_)
    · have h := h.2 c2
      refine gw_aload_n k_Sea_rankOf f_Sea_rankOf_30 rfl ?_
      refine gw_getR k_Sea_rankOf f_Sea_rankOf_31 l_fldT_7_25 hc1 rfl ?_
      refine gw_iload_n k_Sea_rankOf f_Sea_rankOf_34 rfl ?_
      refine gw_static [.inr (.inl (some 6)), .inl a0] k_Sea_rankOf f_Sea_rankOf_35 l_invT_7_56 (by decide) k_Bk_at rfl (by exact Nat.le_of_ble_eq_true rfl) (dc := 0) (by decide) ?_ rfl
      refine ev_at hc6 (by decide) ?_
      show Gw zs 1 m_Sea_rankOf 38 [some (.inr (.inl (some 1))), some (.inl a0), some (.inl a1)] [.inl (f_at w 6 10 a0)] w _
      exact gw_iret k_Sea_rankOf f_Sea_rankOf_38 rfl h
    · have c2 := Decidable.not_not.mp c2
      have h := h.1 c2
      refine gw_aload_n k_Sea_rankOf f_Sea_rankOf_19 rfl ?_
      refine gw_getR k_Sea_rankOf f_Sea_rankOf_20 l_fldT_7_22 hc1 rfl ?_
      refine gw_iload_n k_Sea_rankOf f_Sea_rankOf_23 rfl ?_
      refine gw_static [.inr (.inl (some 5)), .inl a0] k_Sea_rankOf f_Sea_rankOf_24 l_invT_7_56 (by decide) k_Bk_at rfl (by exact Nat.le_of_ble_eq_true rfl) (dc := 0) (by decide) ?_ rfl
      refine ev_at hc5 (by decide) ?_
      show Gw zs 1 m_Sea_rankOf 27 [some (.inr (.inl (some 1))), some (.inl a0), some (.inl a1)] [.inl (f_at w 5 10 a0)] w _
      refine gw_goto (t := 38) k_Sea_rankOf f_Sea_rankOf_27 rfl ?_
      exact gw_iret k_Sea_rankOf f_Sea_rankOf_38 rfl h
  · have c1 := Decidable.not_not.mp c1
    have h := h.1 c1
    refine gw_iload_n k_Sea_rankOf f_Sea_rankOf_5 rfl ?_
    refine gw_if_ne (t := 13) k_Sea_rankOf f_Sea_rankOf_6 rfl (fun c3 => ?_) (fun c3 => ?_)
    · have h := h.2 c3
      refine gw_iconst k_Sea_rankOf f_Sea_rankOf_13 qc_0 ?_
      exact gw_iret k_Sea_rankOf f_Sea_rankOf_14 rfl h
    · have c3 := Decidable.not_not.mp c3
      have h := h.1 c3
      refine gw_iconst k_Sea_rankOf f_Sea_rankOf_9 qc_3 ?_
      refine gw_goto (t := 14) k_Sea_rankOf f_Sea_rankOf_10 rfl ?_
      exact gw_iret k_Sea_rankOf f_Sea_rankOf_14 rfl h
theorem ev_Sea_rankOf {zs : List Int32} {a0 a1 : Int32} {w : Wd} {Q : Option AV → Wd → Prop} (h : Q (some (.inl (f_Sea_rankOf w a0 a1))) w) : Ew zs 1 m_Sea_rankOf [.inr (.inl (some 1)), .inl a0, .inl a1] w Q := by
  refine ew_of k_Sea_rankOf rfl (sg_Sea_rankOf_0 ?_)
  refine ⟨fun c1 => ?_, fun c1 => ?_⟩
  ·
    refine ⟨fun c3 => ?_, fun c3 => ?_⟩
    ·
      rw [show f_Sea_rankOf w a0 a1 = 3 from by unfold f_Sea_rankOf; rw [if_pos c1, if_pos c3]] at h
      exact h
    ·
      rw [show f_Sea_rankOf w a0 a1 = 0 from by unfold f_Sea_rankOf; rw [if_pos c1, if_neg c3]] at h
      exact h
  ·
    refine ⟨fun c2 => ?_, fun c2 => ?_⟩
    ·
      rw [show f_Sea_rankOf w a0 a1 = (f_at w 5 10 a0) from by unfold f_Sea_rankOf; rw [if_neg c1, if_pos c2]] at h
      exact h
    ·
      rw [show f_Sea_rankOf w a0 a1 = (f_at w 6 10 a0) from by unfold f_Sea_rankOf; rw [if_neg c1, if_neg c2]] at h
      exact h
def f_Alm_placeOf (a0 : Int32) : Int32 := if a0 = 1 then 2 else if a0 = 2 then 4 else if a0 = 3 then 3 else if a0 = 4 then 1 else 0
theorem sg_Alm_placeOf_0 {zs : List Int32} {a0 : Int32} {w : Wd} {Q : Option AV → Wd → Prop} (h : ((a0 = 1 → Q (some (.inl 2)) w) ∧ (a0 = 2 → Q (some (.inl 4)) w) ∧ (a0 = 3 → Q (some (.inl 3)) w) ∧ (a0 = 4 → Q (some (.inl 1)) w) ∧ (¬ a0 = 1 → ¬ a0 = 2 → ¬ a0 = 3 → ¬ a0 = 4 → Q (some (.inl 0)) w))) : Gw zs 0 m_Alm_placeOf 0 [some (.inl a0)] [] w Q := by
  refine gw_iload_n k_Alm_placeOf f_Alm_placeOf_0 rfl ?_
  refine gw_tsw k_Alm_placeOf f_Alm_placeOf_1 (by decide) (by decide) (fun q hq hx => ?_) (fun hx => ?_)
  · match q, hq, hx with
    | 0, hq, hx =>
      have c1 : a0 = 1 := hx.trans (by decide)
      have h := h.1 c1
      refine ⟨_, 36, rfl, rfl, ?_⟩
      refine gw_iconst k_Alm_placeOf f_Alm_placeOf_36 qc_2 ?_
      exact gw_iret k_Alm_placeOf f_Alm_placeOf_37 rfl h
    | 1, hq, hx =>
      have c2 : a0 = 2 := hx.trans (by decide)
      have h := h.2.1 c2
      refine ⟨_, 32, rfl, rfl, ?_⟩
      refine gw_iconst k_Alm_placeOf f_Alm_placeOf_32 qc_4 ?_
      exact gw_iret k_Alm_placeOf f_Alm_placeOf_33 rfl h
    | 2, hq, hx =>
      have c3 : a0 = 3 := hx.trans (by decide)
      have h := h.2.2.1 c3
      refine ⟨_, 34, rfl, rfl, ?_⟩
      refine gw_iconst k_Alm_placeOf f_Alm_placeOf_34 qc_3 ?_
      exact gw_iret k_Alm_placeOf f_Alm_placeOf_35 rfl h
    | 3, hq, hx =>
      have c4 : a0 = 4 := hx.trans (by decide)
      have h := h.2.2.2.1 c4
      refine ⟨_, 38, rfl, rfl, ?_⟩
      refine gw_iconst k_Alm_placeOf f_Alm_placeOf_38 qc_1 ?_
      exact gw_iret k_Alm_placeOf f_Alm_placeOf_39 rfl h
    | q + 4, hq, hx => exact absurd hq (by show ¬ (q + 4 < 4); omega)
  ·
    have c5 : ¬ a0 = 1 := fun c => hx 0 (by decide) (c.trans (by decide))
    have c6 : ¬ a0 = 2 := fun c => hx 1 (by decide) (c.trans (by decide))
    have c7 : ¬ a0 = 3 := fun c => hx 2 (by decide) (c.trans (by decide))
    have c8 : ¬ a0 = 4 := fun c => hx 3 (by decide) (c.trans (by decide))
    have h := h.2.2.2.2 c5 c6 c7 c8
    refine ⟨40, rfl, ?_⟩
    refine gw_iconst k_Alm_placeOf f_Alm_placeOf_40 qc_0 ?_
    exact gw_iret k_Alm_placeOf f_Alm_placeOf_41 rfl h
theorem ev_Alm_placeOf {zs : List Int32} {a0 : Int32} {w : Wd} {Q : Option AV → Wd → Prop} (h : Q (some (.inl (f_Alm_placeOf a0))) w) : Ew zs 0 m_Alm_placeOf [.inl a0] w Q := by
  refine ew_of k_Alm_placeOf rfl (sg_Alm_placeOf_0 ?_)
  refine ⟨fun c0_1 => ?_, fun c1_1 => ?_, fun c2_1 => ?_, fun c3_1 => ?_, fun c0_1 c1_1 c2_1 c3_1 => ?_⟩
  ·
    rw [show f_Alm_placeOf a0 = 2 from by unfold f_Alm_placeOf; rw [if_pos c0_1]] at h
    exact h
  ·
    rw [show f_Alm_placeOf a0 = 4 from by unfold f_Alm_placeOf; rw [if_neg (by rw [c1_1]; decide), if_pos c1_1]] at h
    exact h
  ·
    rw [show f_Alm_placeOf a0 = 3 from by unfold f_Alm_placeOf; rw [if_neg (by rw [c2_1]; decide), if_neg (by rw [c2_1]; decide), if_pos c2_1]] at h
    exact h
  ·
    rw [show f_Alm_placeOf a0 = 1 from by unfold f_Alm_placeOf; rw [if_neg (by rw [c3_1]; decide), if_neg (by rw [c3_1]; decide), if_neg (by rw [c3_1]; decide), if_pos c3_1]] at h
    exact h
  ·
    rw [show f_Alm_placeOf a0 = 0 from by unfold f_Alm_placeOf; rw [if_neg c0_1, if_neg c1_1, if_neg c2_1, if_neg c3_1]] at h
    exact h
def f_Alm_candidate (a0 : Int32) (a1 : Int32) (a2 : Int32) : Int32 := (((((a0 * 320) + ((f_Alm_placeOf a1) * 64)) + 64) - 1) - a2)
theorem sg_Alm_candidate_0 {zs : List Int32} {a0 a1 a2 : Int32} {w : Wd} {Q : Option AV → Wd → Prop} (h : Q (some (.inl (((((a0 * 320) + ((f_Alm_placeOf a1) * 64)) + 64) - 1) - a2))) w) : Gw zs 1 m_Alm_candidate 0 [some (.inl a0), some (.inl a1), some (.inl a2)] [] w Q := by
  refine gw_iload_n k_Alm_candidate f_Alm_candidate_0 rfl ?_
  refine gw_sipush k_Alm_candidate f_Alm_candidate_1 qs_320 ?_
  refine gw_imul k_Alm_candidate f_Alm_candidate_4 ?_
  refine gw_iload_n k_Alm_candidate f_Alm_candidate_5 rfl ?_
  refine gw_static [.inl a1] k_Alm_candidate f_Alm_candidate_6 l_invT_0_193 (by decide) k_Alm_placeOf rfl (by exact Nat.le_of_ble_eq_true rfl) (dc := 0) (by decide) ?_ rfl
  refine ev_Alm_placeOf ?_
  show Gw zs 1 m_Alm_candidate 9 [some (.inl a0), some (.inl a1), some (.inl a2)] [.inl (f_Alm_placeOf a1), .inl (a0 * 320)] w _
  refine gw_bipush k_Alm_candidate f_Alm_candidate_9 qb_64 ?_
  refine gw_imul k_Alm_candidate f_Alm_candidate_11 ?_
  refine gw_iadd k_Alm_candidate f_Alm_candidate_12 ?_
  refine gw_bipush k_Alm_candidate f_Alm_candidate_13 qb_64 ?_
  refine gw_iadd k_Alm_candidate f_Alm_candidate_15 ?_
  refine gw_iconst k_Alm_candidate f_Alm_candidate_16 qc_1 ?_
  refine gw_isub k_Alm_candidate f_Alm_candidate_17 ?_
  refine gw_iload_n k_Alm_candidate f_Alm_candidate_18 rfl ?_
  refine gw_isub k_Alm_candidate f_Alm_candidate_19 ?_
  exact gw_iret k_Alm_candidate f_Alm_candidate_20 rfl h
theorem ev_Alm_candidate {zs : List Int32} {a0 a1 a2 : Int32} {w : Wd} {Q : Option AV → Wd → Prop} (h : Q (some (.inl (f_Alm_candidate a0 a1 a2))) w) : Ew zs 1 m_Alm_candidate [.inl a0, .inl a1, .inl a2] w Q := by
  refine ew_of k_Alm_candidate rfl (sg_Alm_candidate_0 ?_)
  rw [show f_Alm_candidate a0 a1 a2 = (((((a0 * 320) + ((f_Alm_placeOf a1) * 64)) + 64) - 1) - a2) from by unfold f_Alm_candidate; rfl] at h
  exact h
def f_Fea_rankOf (w : Wd) (a0 : Int32) : Int32 := (f_at w 11 60 a0)
theorem sg_Fea_rankOf_0 {zs : List Int32} {a0 : Int32} {w : Wd} {Q : Option AV → Wd → Prop} (h : Q (some (.inl (f_at w 11 60 a0))) w) : Gw zs 1 m_Fea_rankOf 0 [some (.inr (.inl (some 8))), some (.inl a0)] [] w Q := by
  refine gw_aload_n k_Fea_rankOf f_Fea_rankOf_0 rfl ?_
  refine gw_getR k_Fea_rankOf f_Fea_rankOf_1 l_fldT_4_18 hc8 rfl ?_
  refine gw_iload_n k_Fea_rankOf f_Fea_rankOf_4 rfl ?_
  refine gw_static [.inr (.inl (some 11)), .inl a0] k_Fea_rankOf f_Fea_rankOf_5 l_invT_4_62 (by decide) k_Bk_at rfl (by exact Nat.le_of_ble_eq_true rfl) (dc := 0) (by decide) ?_ rfl
  refine ev_at hc11 (by decide) ?_
  show Gw zs 1 m_Fea_rankOf 8 [some (.inr (.inl (some 8))), some (.inl a0)] [.inl (f_at w 11 60 a0)] w _
  exact gw_iret k_Fea_rankOf f_Fea_rankOf_8 rfl h
theorem ev_Fea_rankOf {zs : List Int32} {a0 : Int32} {w : Wd} {Q : Option AV → Wd → Prop} (h : Q (some (.inl (f_Fea_rankOf w a0))) w) : Ew zs 1 m_Fea_rankOf [.inr (.inl (some 8)), .inl a0] w Q := by
  refine ew_of k_Fea_rankOf rfl (sg_Fea_rankOf_0 ?_)
  rw [show f_Fea_rankOf w a0 = (f_at w 11 60 a0) from by unfold f_Fea_rankOf; rfl] at h
  exact h
def f_Alm_feastCandidate (w : Wd) (a0 : Int32) : Int32 := (f_Alm_candidate (f_Fea_rankOf w a0) 2 a0)
theorem sg_Alm_feastCandidate_0 {zs : List Int32} {a0 : Int32} {w : Wd} {Q : Option AV → Wd → Prop} (h : Q (some (.inl (f_Alm_candidate (f_Fea_rankOf w a0) 2 a0))) w) : Gw zs 2 m_Alm_feastCandidate 0 [some (.inr (.inl (some 16))), some (.inl a0)] [] w Q := by
  refine gw_aload_n k_Alm_feastCandidate f_Alm_feastCandidate_0 rfl ?_
  refine gw_getR k_Alm_feastCandidate f_Alm_feastCandidate_1 l_fldT_0_35 hc16 rfl ?_
  refine gw_iload_n k_Alm_feastCandidate f_Alm_feastCandidate_4 rfl ?_
  refine gw_virtual [.inl a0] k_Alm_feastCandidate f_Alm_feastCandidate_5 l_invT_0_185 k_Fea_rankOf hc8 rfl rfl rfl (by exact Nat.le_of_ble_eq_true rfl) (dc := 1) (by decide) ?_ rfl
  refine ev_Fea_rankOf ?_
  show Gw zs 2 m_Alm_feastCandidate 8 [some (.inr (.inl (some 16))), some (.inl a0)] [.inl (f_Fea_rankOf w a0)] w _
  refine gw_iconst k_Alm_feastCandidate f_Alm_feastCandidate_8 qc_2 ?_
  refine gw_iload_n k_Alm_feastCandidate f_Alm_feastCandidate_9 rfl ?_
  refine gw_static [.inl (f_Fea_rankOf w a0), .inl 2, .inl a0] k_Alm_feastCandidate f_Alm_feastCandidate_10 l_invT_0_144 (by decide) k_Alm_candidate rfl (by exact Nat.le_of_ble_eq_true rfl) (dc := 1) (by decide) ?_ rfl
  refine ev_Alm_candidate ?_
  show Gw zs 2 m_Alm_feastCandidate 13 [some (.inr (.inl (some 16))), some (.inl a0)] [.inl (f_Alm_candidate (f_Fea_rankOf w a0) 2 a0)] w _
  exact gw_iret k_Alm_feastCandidate f_Alm_feastCandidate_13 rfl h
theorem ev_Alm_feastCandidate {zs : List Int32} {a0 : Int32} {w : Wd} {Q : Option AV → Wd → Prop} (h : Q (some (.inl (f_Alm_feastCandidate w a0))) w) : Ew zs 2 m_Alm_feastCandidate [.inr (.inl (some 16)), .inl a0] w Q := by
  refine ew_of k_Alm_feastCandidate rfl (sg_Alm_feastCandidate_0 ?_)
  rw [show f_Alm_feastCandidate w a0 = (f_Alm_candidate (f_Fea_rankOf w a0) 2 a0) from by unfold f_Alm_feastCandidate; rfl] at h
  exact h
def f_Fea_wayOf (w : Wd) (a0 : Int32) : Int32 := (f_at w 13 60 a0)
theorem sg_Fea_wayOf_0 {zs : List Int32} {a0 : Int32} {w : Wd} {Q : Option AV → Wd → Prop} (h : Q (some (.inl (f_at w 13 60 a0))) w) : Gw zs 1 m_Fea_wayOf 0 [some (.inr (.inl (some 8))), some (.inl a0)] [] w Q := by
  refine gw_aload_n k_Fea_wayOf f_Fea_wayOf_0 rfl ?_
  refine gw_getR k_Fea_wayOf f_Fea_wayOf_1 l_fldT_4_24 hc8 rfl ?_
  refine gw_iload_n k_Fea_wayOf f_Fea_wayOf_4 rfl ?_
  refine gw_static [.inr (.inl (some 13)), .inl a0] k_Fea_wayOf f_Fea_wayOf_5 l_invT_4_62 (by decide) k_Bk_at rfl (by exact Nat.le_of_ble_eq_true rfl) (dc := 0) (by decide) ?_ rfl
  refine ev_at hc13 (by decide) ?_
  show Gw zs 1 m_Fea_wayOf 8 [some (.inr (.inl (some 8))), some (.inl a0)] [.inl (f_at w 13 60 a0)] w _
  exact gw_iret k_Fea_wayOf f_Fea_wayOf_8 rfl h
theorem ev_Fea_wayOf {zs : List Int32} {a0 : Int32} {w : Wd} {Q : Option AV → Wd → Prop} (h : Q (some (.inl (f_Fea_wayOf w a0))) w) : Ew zs 1 m_Fea_wayOf [.inr (.inl (some 8)), .inl a0] w Q := by
  refine ew_of k_Fea_wayOf rfl (sg_Fea_wayOf_0 ?_)
  rw [show f_Fea_wayOf w a0 = (f_at w 13 60 a0) from by unfold f_Fea_wayOf; rfl] at h
  exact h
def f_Fea_octaveOf (w : Wd) (a0 : Int32) : Int32 := (f_at w 14 60 a0)
theorem sg_Fea_octaveOf_0 {zs : List Int32} {a0 : Int32} {w : Wd} {Q : Option AV → Wd → Prop} (h : Q (some (.inl (f_at w 14 60 a0))) w) : Gw zs 1 m_Fea_octaveOf 0 [some (.inr (.inl (some 8))), some (.inl a0)] [] w Q := by
  refine gw_aload_n k_Fea_octaveOf f_Fea_octaveOf_0 rfl ?_
  refine gw_getR k_Fea_octaveOf f_Fea_octaveOf_1 l_fldT_4_27 hc8 rfl ?_
  refine gw_iload_n k_Fea_octaveOf f_Fea_octaveOf_4 rfl ?_
  refine gw_static [.inr (.inl (some 14)), .inl a0] k_Fea_octaveOf f_Fea_octaveOf_5 l_invT_4_62 (by decide) k_Bk_at rfl (by exact Nat.le_of_ble_eq_true rfl) (dc := 0) (by decide) ?_ rfl
  refine ev_at hc14 (by decide) ?_
  show Gw zs 1 m_Fea_octaveOf 8 [some (.inr (.inl (some 8))), some (.inl a0)] [.inl (f_at w 14 60 a0)] w _
  exact gw_iret k_Fea_octaveOf f_Fea_octaveOf_8 rfl h
theorem ev_Fea_octaveOf {zs : List Int32} {a0 : Int32} {w : Wd} {Q : Option AV → Wd → Prop} (h : Q (some (.inl (f_Fea_octaveOf w a0))) w) : Ew zs 1 m_Fea_octaveOf [.inr (.inl (some 8)), .inl a0] w Q := by
  refine ew_of k_Fea_octaveOf rfl (sg_Fea_octaveOf_0 ?_)
  rw [show f_Fea_octaveOf w a0 = (f_at w 14 60 a0) from by unfold f_Fea_octaveOf; rfl] at h
  exact h
def f_Fea_hasVigil (w : Wd) (a0 : Int32) : Int32 := if a0 < 0 then 0 else if 60 ≤ a0 then 0 else if (w 15 a0.toNatClampNeg) = 0 then 0 else 1
theorem sg_Fea_hasVigil_0 {zs : List Int32} {a0 : Int32} {w : Wd} {Q : Option AV → Wd → Prop} (h : ((a0 < 0 → Q (some (.inl 0)) w) ∧ (¬ (a0 < 0) → ((60 ≤ a0 → Q (some (.inl 0)) w) ∧ (¬ (60 ≤ a0) → (((w 15 a0.toNatClampNeg) = 0 → Q (some (.inl 0)) w) ∧ (¬ ((w 15 a0.toNatClampNeg) = 0) → Q (some (.inl 1)) w))))))) : Gw zs 0 m_Fea_hasVigil 0 [some (.inr (.inl (some 8))), some (.inl a0)] [] w Q := by
  refine gw_iload_n k_Fea_hasVigil f_Fea_hasVigil_0 rfl ?_
  refine gw_if_lt (t := 26) k_Fea_hasVigil f_Fea_hasVigil_1 rfl (fun c1 => ?_) (fun c1 => ?_)
  · have h := h.1 c1
    refine gw_iconst k_Fea_hasVigil f_Fea_hasVigil_26 qc_0 ?_
    exact gw_zret k_Fea_hasVigil f_Fea_hasVigil_27 rfl (Or.inl rfl) h
  · have h := h.2 c1
    refine gw_iload_n k_Fea_hasVigil f_Fea_hasVigil_4 rfl ?_
    refine gw_aload_n k_Fea_hasVigil f_Fea_hasVigil_5 rfl ?_
    refine gw_getR k_Fea_hasVigil f_Fea_hasVigil_6 l_fldT_4_30 hc8 rfl ?_
    refine gw_alenZ k_Fea_hasVigil f_Fea_hasVigil_9 hc15 qn_60 ?_
    refine gw_icmp_ge (t := 26) k_Fea_hasVigil f_Fea_hasVigil_10 rfl (fun c2 => ?_) (fun c2 => ?_)
    · have h := h.1 c2
      refine gw_iconst k_Fea_hasVigil f_Fea_hasVigil_26 qc_0 ?_
      exact gw_zret k_Fea_hasVigil f_Fea_hasVigil_27 rfl (Or.inl rfl) h
    · have h := h.2 c2
      refine gw_aload_n k_Fea_hasVigil f_Fea_hasVigil_13 rfl ?_
      refine gw_getR k_Fea_hasVigil f_Fea_hasVigil_14 l_fldT_4_30 hc8 rfl ?_
      refine gw_iload_n k_Fea_hasVigil f_Fea_hasVigil_17 rfl ?_
      refine gw_zald k_Fea_hasVigil f_Fea_hasVigil_18 hc15 (vin qn_60 (by decide) c1 c2) ?_
      refine gw_if_eq (t := 26) k_Fea_hasVigil f_Fea_hasVigil_19 rfl (fun c3 => ?_) (fun c3 => ?_)
      · have h := h.1 c3
        refine gw_iconst k_Fea_hasVigil f_Fea_hasVigil_26 qc_0 ?_
        exact gw_zret k_Fea_hasVigil f_Fea_hasVigil_27 rfl (Or.inl rfl) h
      · have h := h.2 c3
        refine gw_iconst k_Fea_hasVigil f_Fea_hasVigil_22 qc_1 ?_
        refine gw_goto (t := 27) k_Fea_hasVigil f_Fea_hasVigil_23 rfl ?_
        exact gw_zret k_Fea_hasVigil f_Fea_hasVigil_27 rfl (Or.inr rfl) h
theorem ev_Fea_hasVigil {zs : List Int32} {a0 : Int32} {w : Wd} {Q : Option AV → Wd → Prop} (h : Q (some (.inl (f_Fea_hasVigil w a0))) w) : Ew zs 0 m_Fea_hasVigil [.inr (.inl (some 8)), .inl a0] w Q := by
  refine ew_of k_Fea_hasVigil rfl (sg_Fea_hasVigil_0 ?_)
  refine ⟨fun c1 => ?_, fun c1 => ?_⟩
  ·
    rw [show f_Fea_hasVigil w a0 = 0 from by unfold f_Fea_hasVigil; rw [if_pos c1]] at h
    exact h
  ·
    refine ⟨fun c2 => ?_, fun c2 => ?_⟩
    ·
      rw [show f_Fea_hasVigil w a0 = 0 from by unfold f_Fea_hasVigil; rw [if_neg c1, if_pos c2]] at h
      exact h
    ·
      refine ⟨fun c3 => ?_, fun c3 => ?_⟩
      ·
        rw [show f_Fea_hasVigil w a0 = 0 from by unfold f_Fea_hasVigil; rw [if_neg c1, if_neg c2, if_pos c3]] at h
        exact h
      ·
        rw [show f_Fea_hasVigil w a0 = 1 from by unfold f_Fea_hasVigil; rw [if_neg c1, if_neg c2, if_neg c3]] at h
        exact h
theorem fb_Fea_hasVigil {w : Wd} {a0 : Int32} : f_Fea_hasVigil w a0 = 0 ∨ f_Fea_hasVigil w a0 = 1 := by
  unfold f_Fea_hasVigil
  exact (if01 (Or.inl rfl) (if01 (Or.inl rfl) (if01 (Or.inl rfl) (Or.inr rfl))))
def f_Alm_isToMove (w : Wd) (a0 : Int32) : Int32 := if (f_Fea_wayOf w a0) = 2 then if (f_at w 20 60 a0) = (-1) then 0 else if (f_at w 21 60 a0) = (-1) then 1 else 0 else 0
theorem sg_Alm_isToMove_0 {zs : List Int32} {a0 : Int32} {w : Wd} {Q : Option AV → Wd → Prop} (h : (((f_Fea_wayOf w a0) = 2 → (((f_at w 20 60 a0) = (-1) → Q (some (.inl 0)) w) ∧ (¬ ((f_at w 20 60 a0) = (-1)) → (((f_at w 21 60 a0) = (-1) → Q (some (.inl 1)) w) ∧ (¬ ((f_at w 21 60 a0) = (-1)) → Q (some (.inl 0)) w))))) ∧ (¬ ((f_Fea_wayOf w a0) = 2) → Q (some (.inl 0)) w))) : Gw zs 2 m_Alm_isToMove 0 [some (.inr (.inl (some 16))), some (.inl a0)] [] w Q := by
  refine gw_aload_n k_Alm_isToMove f_Alm_isToMove_0 rfl ?_
  refine gw_getR k_Alm_isToMove f_Alm_isToMove_1 l_fldT_0_35 hc16 rfl ?_
  refine gw_iload_n k_Alm_isToMove f_Alm_isToMove_4 rfl ?_
  refine gw_virtual [.inl a0] k_Alm_isToMove f_Alm_isToMove_5 l_invT_0_159 k_Fea_wayOf hc8 rfl rfl rfl (by exact Nat.le_of_ble_eq_true rfl) (dc := 1) (by decide) ?_ rfl
  refine ev_Fea_wayOf ?_
  show Gw zs 2 m_Alm_isToMove 8 [some (.inr (.inl (some 16))), some (.inl a0)] [.inl (f_Fea_wayOf w a0)] w _
  refine gw_iconst k_Alm_isToMove f_Alm_isToMove_8 qc_2 ?_
  refine gw_icmp_ne (t := 40) k_Alm_isToMove f_Alm_isToMove_9 rfl (fun c1 => ?_) (fun c1 => ?_)
  · have h := h.2 c1
    refine gw_iconst k_Alm_isToMove f_Alm_isToMove_40 qc_0 ?_
    exact gw_zret k_Alm_isToMove f_Alm_isToMove_41 rfl (Or.inl rfl) h
  · have c1 := Decidable.not_not.mp c1
    have h := h.1 c1
    refine gw_aload_n k_Alm_isToMove f_Alm_isToMove_12 rfl ?_
    refine gw_getR k_Alm_isToMove f_Alm_isToMove_13 l_fldT_0_21 hc16 rfl ?_
    refine gw_iload_n k_Alm_isToMove f_Alm_isToMove_16 rfl ?_
    refine gw_static [.inr (.inl (some 20)), .inl a0] k_Alm_isToMove f_Alm_isToMove_17 l_invT_0_60 (by decide) k_Bk_at rfl (by exact Nat.le_of_ble_eq_true rfl) (dc := 0) (by decide) ?_ rfl
    refine ev_at hc20 (by decide) ?_
    show Gw zs 2 m_Alm_isToMove 20 [some (.inr (.inl (some 16))), some (.inl a0)] [.inl (f_at w 20 60 a0)] w _
    refine gw_iconst k_Alm_isToMove f_Alm_isToMove_20 qc_m1 ?_
    refine gw_icmp_eq (t := 40) k_Alm_isToMove f_Alm_isToMove_21 rfl (fun c2 => ?_) (fun c2 => ?_)
    · have h := h.1 c2
      refine gw_iconst k_Alm_isToMove f_Alm_isToMove_40 qc_0 ?_
      exact gw_zret k_Alm_isToMove f_Alm_isToMove_41 rfl (Or.inl rfl) h
    · have h := h.2 c2
      refine gw_aload_n k_Alm_isToMove f_Alm_isToMove_24 rfl ?_
      refine gw_getR k_Alm_isToMove f_Alm_isToMove_25 l_fldT_0_24 hc16 rfl ?_
      refine gw_iload_n k_Alm_isToMove f_Alm_isToMove_28 rfl ?_
      refine gw_static [.inr (.inl (some 21)), .inl a0] k_Alm_isToMove f_Alm_isToMove_29 l_invT_0_60 (by decide) k_Bk_at rfl (by exact Nat.le_of_ble_eq_true rfl) (dc := 0) (by decide) ?_ rfl
      refine ev_at hc21 (by decide) ?_
      show Gw zs 2 m_Alm_isToMove 32 [some (.inr (.inl (some 16))), some (.inl a0)] [.inl (f_at w 21 60 a0)] w _
      refine gw_iconst k_Alm_isToMove f_Alm_isToMove_32 qc_m1 ?_
      refine gw_icmp_ne (t := 40) k_Alm_isToMove f_Alm_isToMove_33 rfl (fun c3 => ?_) (fun c3 => ?_)
      · have h := h.2 c3
        refine gw_iconst k_Alm_isToMove f_Alm_isToMove_40 qc_0 ?_
        exact gw_zret k_Alm_isToMove f_Alm_isToMove_41 rfl (Or.inl rfl) h
      · have c3 := Decidable.not_not.mp c3
        have h := h.1 c3
        refine gw_iconst k_Alm_isToMove f_Alm_isToMove_36 qc_1 ?_
        refine gw_goto (t := 41) k_Alm_isToMove f_Alm_isToMove_37 rfl ?_
        exact gw_zret k_Alm_isToMove f_Alm_isToMove_41 rfl (Or.inr rfl) h
theorem ev_Alm_isToMove {zs : List Int32} {a0 : Int32} {w : Wd} {Q : Option AV → Wd → Prop} (h : Q (some (.inl (f_Alm_isToMove w a0))) w) : Ew zs 2 m_Alm_isToMove [.inr (.inl (some 16)), .inl a0] w Q := by
  refine ew_of k_Alm_isToMove rfl (sg_Alm_isToMove_0 ?_)
  refine ⟨fun c1 => ?_, fun c1 => ?_⟩
  ·
    refine ⟨fun c2 => ?_, fun c2 => ?_⟩
    ·
      rw [show f_Alm_isToMove w a0 = 0 from by unfold f_Alm_isToMove; rw [if_pos c1, if_pos c2]] at h
      exact h
    ·
      refine ⟨fun c3 => ?_, fun c3 => ?_⟩
      ·
        rw [show f_Alm_isToMove w a0 = 1 from by unfold f_Alm_isToMove; rw [if_pos c1, if_neg c2, if_pos c3]] at h
        exact h
      ·
        rw [show f_Alm_isToMove w a0 = 0 from by unfold f_Alm_isToMove; rw [if_pos c1, if_neg c2, if_neg c3]] at h
        exact h
  ·
    rw [show f_Alm_isToMove w a0 = 0 from by unfold f_Alm_isToMove; rw [if_neg c1]] at h
    exact h
theorem fb_Alm_isToMove {w : Wd} {a0 : Int32} : f_Alm_isToMove w a0 = 0 ∨ f_Alm_isToMove w a0 = 1 := by
  unfold f_Alm_isToMove
  exact (if01 (if01 (Or.inl rfl) (if01 (Or.inr rfl) (Or.inl rfl))) (Or.inl rfl))
def f_Alm_isMovedBefore (w : Wd) (a0 : Int32) (a1 : Int32) : Int32 := if (f_Fea_rankOf w a0) = (f_Fea_rankOf w a1) then if (f_at w 20 60 a1) ≤ (f_at w 20 60 a0) then 0 else 1 else if (f_Fea_rankOf w a0) ≤ (f_Fea_rankOf w a1) then 0 else 1
theorem sg_Alm_isMovedBefore_0 {zs : List Int32} {a0 a1 : Int32} {w : Wd} {Q : Option AV → Wd → Prop} (h : (((f_Fea_rankOf w a0) = (f_Fea_rankOf w a1) → (((f_at w 20 60 a1) ≤ (f_at w 20 60 a0) → Q (some (.inl 0)) w) ∧ (¬ ((f_at w 20 60 a1) ≤ (f_at w 20 60 a0)) → Q (some (.inl 1)) w))) ∧ (¬ ((f_Fea_rankOf w a0) = (f_Fea_rankOf w a1)) → (((f_Fea_rankOf w a0) ≤ (f_Fea_rankOf w a1) → Q (some (.inl 0)) w) ∧ (¬ ((f_Fea_rankOf w a0) ≤ (f_Fea_rankOf w a1)) → Q (some (.inl 1)) w))))) : Gw zs 2 m_Alm_isMovedBefore 0 [some (.inr (.inl (some 16))), some (.inl a0), some (.inl a1)] [] w Q := by
  refine gw_aload_n k_Alm_isMovedBefore f_Alm_isMovedBefore_0 rfl ?_
  refine gw_getR k_Alm_isMovedBefore f_Alm_isMovedBefore_1 l_fldT_0_35 hc16 rfl ?_
  refine gw_iload_n k_Alm_isMovedBefore f_Alm_isMovedBefore_4 rfl ?_
  refine gw_virtual [.inl a0] k_Alm_isMovedBefore f_Alm_isMovedBefore_5 l_invT_0_185 k_Fea_rankOf hc8 rfl rfl rfl (by exact Nat.le_of_ble_eq_true rfl) (dc := 1) (by decide) ?_ rfl
  refine ev_Fea_rankOf ?_
  show Gw zs 2 m_Alm_isMovedBefore 8 [some (.inr (.inl (some 16))), some (.inl a0), some (.inl a1)] [.inl (f_Fea_rankOf w a0)] w _
  refine gw_aload_n k_Alm_isMovedBefore f_Alm_isMovedBefore_8 rfl ?_
  refine gw_getR k_Alm_isMovedBefore f_Alm_isMovedBefore_9 l_fldT_0_35 hc16 rfl ?_
  refine gw_iload_n k_Alm_isMovedBefore f_Alm_isMovedBefore_12 rfl ?_
  refine gw_virtual [.inl a1] k_Alm_isMovedBefore f_Alm_isMovedBefore_13 l_invT_0_185 k_Fea_rankOf hc8 rfl rfl rfl (by exact Nat.le_of_ble_eq_true rfl) (dc := 1) (by decide) ?_ rfl
  refine ev_Fea_rankOf ?_
  show Gw zs 2 m_Alm_isMovedBefore 16 [some (.inr (.inl (some 16))), some (.inl a0), some (.inl a1)] [.inl (f_Fea_rankOf w a1), .inl (f_Fea_rankOf w a0)] w _
  refine gw_icmp_eq (t := 44) k_Alm_isMovedBefore f_Alm_isMovedBefore_16 rfl (fun c1 => ?_) (fun c1 => ?_)
  · have h := h.1 c1
    refine gw_aload_n k_Alm_isMovedBefore f_Alm_isMovedBefore_44 rfl ?_
    refine gw_getR k_Alm_isMovedBefore f_Alm_isMovedBefore_45 l_fldT_0_21 hc16 rfl ?_
    refine gw_iload_n k_Alm_isMovedBefore f_Alm_isMovedBefore_48 rfl ?_
    refine gw_static [.inr (.inl (some 20)), .inl a0] k_Alm_isMovedBefore f_Alm_isMovedBefore_49 l_invT_0_60 (by decide) k_Bk_at rfl (by exact Nat.le_of_ble_eq_true rfl) (dc := 0) (by decide) ?_ rfl
    refine ev_at hc20 (by decide) ?_
    show Gw zs 2 m_Alm_isMovedBefore 52 [some (.inr (.inl (some 16))), some (.inl a0), some (.inl a1)] [.inl (f_at w 20 60 a0)] w _
    refine gw_aload_n k_Alm_isMovedBefore f_Alm_isMovedBefore_52 rfl ?_
    refine gw_getR k_Alm_isMovedBefore f_Alm_isMovedBefore_53 l_fldT_0_21 hc16 rfl ?_
    refine gw_iload_n k_Alm_isMovedBefore f_Alm_isMovedBefore_56 rfl ?_
    refine gw_static [.inr (.inl (some 20)), .inl a1] k_Alm_isMovedBefore f_Alm_isMovedBefore_57 l_invT_0_60 (by decide) k_Bk_at rfl (by exact Nat.le_of_ble_eq_true rfl) (dc := 0) (by decide) ?_ rfl
    refine ev_at hc20 (by decide) ?_
    show Gw zs 2 m_Alm_isMovedBefore 60 [some (.inr (.inl (some 16))), some (.inl a0), some (.inl a1)] [.inl (f_at w 20 60 a1), .inl (f_at w 20 60 a0)] w _
    refine gw_icmp_ge (t := 67) k_Alm_isMovedBefore f_Alm_isMovedBefore_60 rfl (fun c2 => ?_) (fun c2 => ?_)
    · have h := h.1 c2
      refine gw_iconst k_Alm_isMovedBefore f_Alm_isMovedBefore_67 qc_0 ?_
      exact gw_zret k_Alm_isMovedBefore f_Alm_isMovedBefore_68 rfl (Or.inl rfl) h
    · have h := h.2 c2
      refine gw_iconst k_Alm_isMovedBefore f_Alm_isMovedBefore_63 qc_1 ?_
      refine gw_goto (t := 68) k_Alm_isMovedBefore f_Alm_isMovedBefore_64 rfl ?_
      exact gw_zret k_Alm_isMovedBefore f_Alm_isMovedBefore_68 rfl (Or.inr rfl) h
  · have h := h.2 c1
    refine gw_aload_n k_Alm_isMovedBefore f_Alm_isMovedBefore_19 rfl ?_
    refine gw_getR k_Alm_isMovedBefore f_Alm_isMovedBefore_20 l_fldT_0_35 hc16 rfl ?_
    refine gw_iload_n k_Alm_isMovedBefore f_Alm_isMovedBefore_23 rfl ?_
    refine gw_virtual [.inl a0] k_Alm_isMovedBefore f_Alm_isMovedBefore_24 l_invT_0_185 k_Fea_rankOf hc8 rfl rfl rfl (by exact Nat.le_of_ble_eq_true rfl) (dc := 1) (by decide) ?_ rfl
    refine ev_Fea_rankOf ?_
    show Gw zs 2 m_Alm_isMovedBefore 27 [some (.inr (.inl (some 16))), some (.inl a0), some (.inl a1)] [.inl (f_Fea_rankOf w a0)] w _
    refine gw_aload_n k_Alm_isMovedBefore f_Alm_isMovedBefore_27 rfl ?_
    refine gw_getR k_Alm_isMovedBefore f_Alm_isMovedBefore_28 l_fldT_0_35 hc16 rfl ?_
    refine gw_iload_n k_Alm_isMovedBefore f_Alm_isMovedBefore_31 rfl ?_
    refine gw_virtual [.inl a1] k_Alm_isMovedBefore f_Alm_isMovedBefore_32 l_invT_0_185 k_Fea_rankOf hc8 rfl rfl rfl (by exact Nat.le_of_ble_eq_true rfl) (dc := 1) (by decide) ?_ rfl
    refine ev_Fea_rankOf ?_
    show Gw zs 2 m_Alm_isMovedBefore 35 [some (.inr (.inl (some 16))), some (.inl a0), some (.inl a1)] [.inl (f_Fea_rankOf w a1), .inl (f_Fea_rankOf w a0)] w _
    refine gw_icmp_le (t := 42) k_Alm_isMovedBefore f_Alm_isMovedBefore_35 rfl (fun c3 => ?_) (fun c3 => ?_)
    · have h := h.1 c3
      refine gw_iconst k_Alm_isMovedBefore f_Alm_isMovedBefore_42 qc_0 ?_
      exact gw_zret k_Alm_isMovedBefore f_Alm_isMovedBefore_43 rfl (Or.inl rfl) h
    · have h := h.2 c3
      refine gw_iconst k_Alm_isMovedBefore f_Alm_isMovedBefore_38 qc_1 ?_
      refine gw_goto (t := 43) k_Alm_isMovedBefore f_Alm_isMovedBefore_39 rfl ?_
      exact gw_zret k_Alm_isMovedBefore f_Alm_isMovedBefore_43 rfl (Or.inr rfl) h
theorem ev_Alm_isMovedBefore {zs : List Int32} {a0 a1 : Int32} {w : Wd} {Q : Option AV → Wd → Prop} (h : Q (some (.inl (f_Alm_isMovedBefore w a0 a1))) w) : Ew zs 2 m_Alm_isMovedBefore [.inr (.inl (some 16)), .inl a0, .inl a1] w Q := by
  refine ew_of k_Alm_isMovedBefore rfl (sg_Alm_isMovedBefore_0 ?_)
  refine ⟨fun c1 => ?_, fun c1 => ?_⟩
  ·
    refine ⟨fun c2 => ?_, fun c2 => ?_⟩
    ·
      rw [show f_Alm_isMovedBefore w a0 a1 = 0 from by unfold f_Alm_isMovedBefore; rw [if_pos c1, if_pos c2]] at h
      exact h
    ·
      rw [show f_Alm_isMovedBefore w a0 a1 = 1 from by unfold f_Alm_isMovedBefore; rw [if_pos c1, if_neg c2]] at h
      exact h
  ·
    refine ⟨fun c3 => ?_, fun c3 => ?_⟩
    ·
      rw [show f_Alm_isMovedBefore w a0 a1 = 0 from by unfold f_Alm_isMovedBefore; rw [if_neg c1, if_pos c3]] at h
      exact h
    ·
      rw [show f_Alm_isMovedBefore w a0 a1 = 1 from by unfold f_Alm_isMovedBefore; rw [if_neg c1, if_neg c3]] at h
      exact h
theorem fb_Alm_isMovedBefore {w : Wd} {a0 : Int32} {a1 : Int32} : f_Alm_isMovedBefore w a0 a1 = 0 ∨ f_Alm_isMovedBefore w a0 a1 = 1 := by
  unfold f_Alm_isMovedBefore
  exact (if01 (if01 (Or.inl rfl) (Or.inr rfl)) (if01 (Or.inl rfl) (Or.inr rfl)))
def f_Alm_kindIn (a0 : Int32) : Int32 := if ((a0 / 64) - (a0 / 64) / 5 * 5) = 1 then 4 else if ((a0 / 64) - (a0 / 64) / 5 * 5) = 2 then 1 else if ((a0 / 64) - (a0 / 64) / 5 * 5) = 3 then 3 else if ((a0 / 64) - (a0 / 64) / 5 * 5) = 4 then 2 else 0
theorem sg_Alm_kindIn_0 {zs : List Int32} {a0 : Int32} {w : Wd} {Q : Option AV → Wd → Prop} (h : ((((a0 / 64) - (a0 / 64) / 5 * 5) = 1 → Q (some (.inl 4)) w) ∧ (((a0 / 64) - (a0 / 64) / 5 * 5) = 2 → Q (some (.inl 1)) w) ∧ (((a0 / 64) - (a0 / 64) / 5 * 5) = 3 → Q (some (.inl 3)) w) ∧ (((a0 / 64) - (a0 / 64) / 5 * 5) = 4 → Q (some (.inl 2)) w) ∧ (¬ ((a0 / 64) - (a0 / 64) / 5 * 5) = 1 → ¬ ((a0 / 64) - (a0 / 64) / 5 * 5) = 2 → ¬ ((a0 / 64) - (a0 / 64) / 5 * 5) = 3 → ¬ ((a0 / 64) - (a0 / 64) / 5 * 5) = 4 → Q (some (.inl 0)) w))) : Gw zs 0 m_Alm_kindIn 0 [some (.inl a0)] [] w Q := by
  refine gw_iload_n k_Alm_kindIn f_Alm_kindIn_0 rfl ?_
  refine gw_bipush k_Alm_kindIn f_Alm_kindIn_1 qb_64 ?_
  refine gw_idiv k_Alm_kindIn f_Alm_kindIn_3 (by decide) ?_
  refine gw_iconst k_Alm_kindIn f_Alm_kindIn_4 qc_5 ?_
  refine gw_irem k_Alm_kindIn f_Alm_kindIn_5 (by decide) ?_
  refine gw_tsw k_Alm_kindIn f_Alm_kindIn_6 (by decide) (by decide) (fun q hq hx => ?_) (fun hx => ?_)
  · match q, hq, hx with
    | 0, hq, hx =>
      have c1 : ((a0 / 64) - (a0 / 64) / 5 * 5) = 1 := hx.trans (by decide)
      have h := h.1 c1
      refine ⟨_, 42, rfl, rfl, ?_⟩
      refine gw_iconst k_Alm_kindIn f_Alm_kindIn_42 qc_4 ?_
      exact gw_iret k_Alm_kindIn f_Alm_kindIn_43 rfl h
    | 1, hq, hx =>
      have c2 : ((a0 / 64) - (a0 / 64) / 5 * 5) = 2 := hx.trans (by decide)
      have h := h.2.1 c2
      refine ⟨_, 40, rfl, rfl, ?_⟩
      refine gw_iconst k_Alm_kindIn f_Alm_kindIn_40 qc_1 ?_
      exact gw_iret k_Alm_kindIn f_Alm_kindIn_41 rfl h
    | 2, hq, hx =>
      have c3 : ((a0 / 64) - (a0 / 64) / 5 * 5) = 3 := hx.trans (by decide)
      have h := h.2.2.1 c3
      refine ⟨_, 38, rfl, rfl, ?_⟩
      refine gw_iconst k_Alm_kindIn f_Alm_kindIn_38 qc_3 ?_
      exact gw_iret k_Alm_kindIn f_Alm_kindIn_39 rfl h
    | 3, hq, hx =>
      have c4 : ((a0 / 64) - (a0 / 64) / 5 * 5) = 4 := hx.trans (by decide)
      have h := h.2.2.2.1 c4
      refine ⟨_, 36, rfl, rfl, ?_⟩
      refine gw_iconst k_Alm_kindIn f_Alm_kindIn_36 qc_2 ?_
      exact gw_iret k_Alm_kindIn f_Alm_kindIn_37 rfl h
    | q + 4, hq, hx => exact absurd hq (by show ¬ (q + 4 < 4); omega)
  ·
    have c5 : ¬ ((a0 / 64) - (a0 / 64) / 5 * 5) = 1 := fun c => hx 0 (by decide) (c.trans (by decide))
    have c6 : ¬ ((a0 / 64) - (a0 / 64) / 5 * 5) = 2 := fun c => hx 1 (by decide) (c.trans (by decide))
    have c7 : ¬ ((a0 / 64) - (a0 / 64) / 5 * 5) = 3 := fun c => hx 2 (by decide) (c.trans (by decide))
    have c8 : ¬ ((a0 / 64) - (a0 / 64) / 5 * 5) = 4 := fun c => hx 3 (by decide) (c.trans (by decide))
    have h := h.2.2.2.2 c5 c6 c7 c8
    refine ⟨44, rfl, ?_⟩
    refine gw_iconst k_Alm_kindIn f_Alm_kindIn_44 qc_0 ?_
    exact gw_iret k_Alm_kindIn f_Alm_kindIn_45 rfl h
theorem ev_Alm_kindIn {zs : List Int32} {a0 : Int32} {w : Wd} {Q : Option AV → Wd → Prop} (h : Q (some (.inl (f_Alm_kindIn a0))) w) : Ew zs 0 m_Alm_kindIn [.inl a0] w Q := by
  refine ew_of k_Alm_kindIn rfl (sg_Alm_kindIn_0 ?_)
  refine ⟨fun c0_1 => ?_, fun c1_1 => ?_, fun c2_1 => ?_, fun c3_1 => ?_, fun c0_1 c1_1 c2_1 c3_1 => ?_⟩
  ·
    rw [show f_Alm_kindIn a0 = 4 from by unfold f_Alm_kindIn; rw [if_pos c0_1]] at h
    exact h
  ·
    rw [show f_Alm_kindIn a0 = 1 from by unfold f_Alm_kindIn; rw [if_neg (by rw [c1_1]; decide), if_pos c1_1]] at h
    exact h
  ·
    rw [show f_Alm_kindIn a0 = 3 from by unfold f_Alm_kindIn; rw [if_neg (by rw [c2_1]; decide), if_neg (by rw [c2_1]; decide), if_pos c2_1]] at h
    exact h
  ·
    rw [show f_Alm_kindIn a0 = 2 from by unfold f_Alm_kindIn; rw [if_neg (by rw [c3_1]; decide), if_neg (by rw [c3_1]; decide), if_neg (by rw [c3_1]; decide), if_pos c3_1]] at h
    exact h
  ·
    rw [show f_Alm_kindIn a0 = 0 from by unfold f_Alm_kindIn; rw [if_neg c0_1, if_neg c1_1, if_neg c2_1, if_neg c3_1]] at h
    exact h
def f_Alm_feastIn (a0 : Int32) : Int32 := if (f_Alm_kindIn a0) = 0 then (-1) else if (f_Alm_kindIn a0) = 1 then (-1) else (63 - (a0 - a0 / 64 * 64))
theorem sg_Alm_feastIn_0 {zs : List Int32} {a0 : Int32} {w : Wd} {Q : Option AV → Wd → Prop} (h : (((f_Alm_kindIn a0) = 0 → Q (some (.inl (-1))) w) ∧ (¬ ((f_Alm_kindIn a0) = 0) → (((f_Alm_kindIn a0) = 1 → Q (some (.inl (-1))) w) ∧ (¬ ((f_Alm_kindIn a0) = 1) → Q (some (.inl (63 - (a0 - a0 / 64 * 64)))) w))))) : Gw zs 1 m_Alm_feastIn 0 [some (.inl a0), none] [] w Q := by
  refine gw_iload_n k_Alm_feastIn f_Alm_feastIn_0 rfl ?_
  refine gw_static [.inl a0] k_Alm_feastIn f_Alm_feastIn_1 l_invT_0_71 (by decide) k_Alm_kindIn rfl (by exact Nat.le_of_ble_eq_true rfl) (dc := 0) (by decide) ?_ rfl
  refine ev_Alm_kindIn ?_
  show Gw zs 1 m_Alm_feastIn 4 [some (.inl a0), none] [.inl (f_Alm_kindIn a0)] w _
  refine gw_istore_n [some (.inl a0), some (.inl (f_Alm_kindIn a0))] k_Alm_feastIn f_Alm_feastIn_4 (Nat.le_of_ble_eq_true rfl) rfl ?_
  refine gw_iload_n k_Alm_feastIn f_Alm_feastIn_5 rfl ?_
  refine gw_if_eq (t := 14) k_Alm_feastIn f_Alm_feastIn_6 rfl (fun c1 => ?_) (fun c1 => ?_)
  · have h := h.1 c1
    refine gw_iconst k_Alm_feastIn f_Alm_feastIn_14 qc_m1 ?_
    exact gw_iret k_Alm_feastIn f_Alm_feastIn_15 rfl h
  · have h := h.2 c1
    refine gw_iload_n k_Alm_feastIn f_Alm_feastIn_9 rfl ?_
    refine gw_iconst k_Alm_feastIn f_Alm_feastIn_10 qc_1 ?_
    refine gw_icmp_ne (t := 16) k_Alm_feastIn f_Alm_feastIn_11 rfl (fun c2 => ?_) (fun c2 => ?_)
    · have h := h.2 c2
      refine gw_bipush k_Alm_feastIn f_Alm_feastIn_16 qb_63 ?_
      refine gw_iload_n k_Alm_feastIn f_Alm_feastIn_18 rfl ?_
      refine gw_bipush k_Alm_feastIn f_Alm_feastIn_19 qb_64 ?_
      refine gw_irem k_Alm_feastIn f_Alm_feastIn_21 (by decide) ?_
      refine gw_isub k_Alm_feastIn f_Alm_feastIn_22 ?_
      exact gw_iret k_Alm_feastIn f_Alm_feastIn_23 rfl h
    · have c2 := Decidable.not_not.mp c2
      have h := h.1 c2
      refine gw_iconst k_Alm_feastIn f_Alm_feastIn_14 qc_m1 ?_
      exact gw_iret k_Alm_feastIn f_Alm_feastIn_15 rfl h
theorem ev_Alm_feastIn {zs : List Int32} {a0 : Int32} {w : Wd} {Q : Option AV → Wd → Prop} (h : Q (some (.inl (f_Alm_feastIn a0))) w) : Ew zs 1 m_Alm_feastIn [.inl a0] w Q := by
  refine ew_of k_Alm_feastIn rfl (sg_Alm_feastIn_0 ?_)
  refine ⟨fun c1 => ?_, fun c1 => ?_⟩
  ·
    rw [show f_Alm_feastIn a0 = (-1) from by unfold f_Alm_feastIn; rw [if_pos c1]] at h
    exact h
  ·
    refine ⟨fun c2 => ?_, fun c2 => ?_⟩
    ·
      rw [show f_Alm_feastIn a0 = (-1) from by unfold f_Alm_feastIn; rw [if_neg c1, if_pos c2]] at h
      exact h
    ·
      rw [show f_Alm_feastIn a0 = (63 - (a0 - a0 / 64 * 64)) from by unfold f_Alm_feastIn; rw [if_neg c1, if_neg c2]] at h
      exact h
def f_Alm_rankIn (a0 : Int32) : Int32 := (a0 / 320)
theorem sg_Alm_rankIn_0 {zs : List Int32} {a0 : Int32} {w : Wd} {Q : Option AV → Wd → Prop} (h : Q (some (.inl (a0 / 320))) w) : Gw zs 0 m_Alm_rankIn 0 [some (.inl a0)] [] w Q := by
  refine gw_iload_n k_Alm_rankIn f_Alm_rankIn_0 rfl ?_
  refine gw_sipush k_Alm_rankIn f_Alm_rankIn_1 qs_320 ?_
  refine gw_idiv k_Alm_rankIn f_Alm_rankIn_4 (by decide) ?_
  exact gw_iret k_Alm_rankIn f_Alm_rankIn_5 rfl h
theorem ev_Alm_rankIn {zs : List Int32} {a0 : Int32} {w : Wd} {Q : Option AV → Wd → Prop} (h : Q (some (.inl (f_Alm_rankIn a0))) w) : Ew zs 0 m_Alm_rankIn [.inl a0] w Q := by
  refine ew_of k_Alm_rankIn rfl (sg_Alm_rankIn_0 ?_)
  rw [show f_Alm_rankIn a0 = (a0 / 320) from by unfold f_Alm_rankIn; rfl] at h
  exact h
def f_Alm_givesWay (w : Wd) (a0 : Int32) (a1 : Int32) : Int32 := if (f_Alm_kindIn a0) = 2 then if (f_Fea_wayOf w (f_Alm_feastIn a0)) = 2 then 0 else if a1 ≤ (f_Alm_rankIn a0) then 0 else 1 else if a1 ≤ (f_Alm_rankIn a0) then 0 else 1
theorem sg_Alm_givesWay_0 {zs : List Int32} {a0 a1 : Int32} {w : Wd} {Q : Option AV → Wd → Prop} (h : (((f_Alm_kindIn a0) = 2 → (((f_Fea_wayOf w (f_Alm_feastIn a0)) = 2 → Q (some (.inl 0)) w) ∧ (¬ ((f_Fea_wayOf w (f_Alm_feastIn a0)) = 2) → ((a1 ≤ (f_Alm_rankIn a0) → Q (some (.inl 0)) w) ∧ (¬ (a1 ≤ (f_Alm_rankIn a0)) → Q (some (.inl 1)) w))))) ∧ (¬ ((f_Alm_kindIn a0) = 2) → ((a1 ≤ (f_Alm_rankIn a0) → Q (some (.inl 0)) w) ∧ (¬ (a1 ≤ (f_Alm_rankIn a0)) → Q (some (.inl 1)) w))))) : Gw zs 2 m_Alm_givesWay 0 [some (.inr (.inl (some 16))), some (.inl a0), some (.inl a1), none] [] w Q := by
  refine gw_iload_n k_Alm_givesWay f_Alm_givesWay_0 rfl ?_
  refine gw_static [.inl a0] k_Alm_givesWay f_Alm_givesWay_1 l_invT_0_71 (by decide) k_Alm_kindIn rfl (by exact Nat.le_of_ble_eq_true rfl) (dc := 0) (by decide) ?_ rfl
  refine ev_Alm_kindIn ?_
  show Gw zs 2 m_Alm_givesWay 4 [some (.inr (.inl (some 16))), some (.inl a0), some (.inl a1), none] [.inl (f_Alm_kindIn a0)] w _
  refine gw_iconst k_Alm_givesWay f_Alm_givesWay_4 qc_2 ?_
  refine gw_icmp_ne (t := 27) k_Alm_givesWay f_Alm_givesWay_5 rfl (fun c1 => ?_) (fun c1 => ?_)
  · have h := h.2 c1
    refine gw_iconst k_Alm_givesWay f_Alm_givesWay_27 qc_0 ?_
    refine gw_istore_n [some (.inr (.inl (some 16))), some (.inl a0), some (.inl a1), some (.inl 0)] k_Alm_givesWay f_Alm_givesWay_28 (Nat.le_of_ble_eq_true rfl) rfl ?_
    refine gw_iload_n k_Alm_givesWay f_Alm_givesWay_29 rfl ?_
    refine gw_if_ne (t := 45) k_Alm_givesWay f_Alm_givesWay_30 rfl (fun c => absurd c (by decide)) (fun _ => ?_)
    refine gw_iload_n k_Alm_givesWay f_Alm_givesWay_33 rfl ?_
    refine gw_static [.inl a0] k_Alm_givesWay f_Alm_givesWay_34 l_invT_0_80 (by decide) k_Alm_rankIn rfl (by exact Nat.le_of_ble_eq_true rfl) (dc := 0) (by decide) ?_ rfl
    refine ev_Alm_rankIn ?_
    show Gw zs 2 m_Alm_givesWay 37 [some (.inr (.inl (some 16))), some (.inl a0), some (.inl a1), some (.inl 0)] [.inl (f_Alm_rankIn a0)] w _
    refine gw_iload_n k_Alm_givesWay f_Alm_givesWay_37 rfl ?_
    refine gw_icmp_ge (t := 45) k_Alm_givesWay f_Alm_givesWay_38 rfl (fun c2 => ?_) (fun c2 => ?_)
    · have h := h.1 c2
      refine gw_iconst k_Alm_givesWay f_Alm_givesWay_45 qc_0 ?_
      exact gw_zret k_Alm_givesWay f_Alm_givesWay_46 rfl (Or.inl rfl) h
    · have h := h.2 c2
      refine gw_iconst k_Alm_givesWay f_Alm_givesWay_41 qc_1 ?_
      refine gw_goto (t := 46) k_Alm_givesWay f_Alm_givesWay_42 rfl ?_
      exact gw_zret k_Alm_givesWay f_Alm_givesWay_46 rfl (Or.inr rfl) h
  · have c1 := Decidable.not_not.mp c1
    have h := h.1 c1
    refine gw_aload_n k_Alm_givesWay f_Alm_givesWay_8 rfl ?_
    refine gw_getR k_Alm_givesWay f_Alm_givesWay_9 l_fldT_0_35 hc16 rfl ?_
    refine gw_iload_n k_Alm_givesWay f_Alm_givesWay_12 rfl ?_
    refine gw_static [.inl a0] k_Alm_givesWay f_Alm_givesWay_13 l_invT_0_74 (by decide) k_Alm_feastIn rfl (by exact Nat.le_of_ble_eq_true rfl) (dc := 1) (by decide) ?_ rfl
    refine ev_Alm_feastIn ?_
    show Gw zs 2 m_Alm_givesWay 16 [some (.inr (.inl (some 16))), some (.inl a0), some (.inl a1), none] [.inl (f_Alm_feastIn a0), .inr (.inl (some 8))] w _
    refine gw_virtual [.inl (f_Alm_feastIn a0)] k_Alm_givesWay f_Alm_givesWay_16 l_invT_0_159 k_Fea_wayOf hc8 rfl rfl rfl (by exact Nat.le_of_ble_eq_true rfl) (dc := 1) (by decide) ?_ rfl
    refine ev_Fea_wayOf ?_
    show Gw zs 2 m_Alm_givesWay 19 [some (.inr (.inl (some 16))), some (.inl a0), some (.inl a1), none] [.inl (f_Fea_wayOf w (f_Alm_feastIn a0))] w _
    refine gw_iconst k_Alm_givesWay f_Alm_givesWay_19 qc_2 ?_
    refine gw_icmp_ne (t := 27) k_Alm_givesWay f_Alm_givesWay_20 rfl (fun c3 => ?_) (fun c3 => ?_)
    · have h := h.2 c3
      refine gw_iconst k_Alm_givesWay f_Alm_givesWay_27 qc_0 ?_
      refine gw_istore_n [some (.inr (.inl (some 16))), some (.inl a0), some (.inl a1), some (.inl 0)] k_Alm_givesWay f_Alm_givesWay_28 (Nat.le_of_ble_eq_true rfl) rfl ?_
      refine gw_iload_n k_Alm_givesWay f_Alm_givesWay_29 rfl ?_
      refine gw_if_ne (t := 45) k_Alm_givesWay f_Alm_givesWay_30 rfl (fun c => absurd c (by decide)) (fun _ => ?_)
      refine gw_iload_n k_Alm_givesWay f_Alm_givesWay_33 rfl ?_
      refine gw_static [.inl a0] k_Alm_givesWay f_Alm_givesWay_34 l_invT_0_80 (by decide) k_Alm_rankIn rfl (by exact Nat.le_of_ble_eq_true rfl) (dc := 0) (by decide) ?_ rfl
      refine ev_Alm_rankIn ?_
      show Gw zs 2 m_Alm_givesWay 37 [some (.inr (.inl (some 16))), some (.inl a0), some (.inl a1), some (.inl 0)] [.inl (f_Alm_rankIn a0)] w _
      refine gw_iload_n k_Alm_givesWay f_Alm_givesWay_37 rfl ?_
      refine gw_icmp_ge (t := 45) k_Alm_givesWay f_Alm_givesWay_38 rfl (fun c4 => ?_) (fun c4 => ?_)
      · have h := h.1 c4
        refine gw_iconst k_Alm_givesWay f_Alm_givesWay_45 qc_0 ?_
        exact gw_zret k_Alm_givesWay f_Alm_givesWay_46 rfl (Or.inl rfl) h
      · have h := h.2 c4
        refine gw_iconst k_Alm_givesWay f_Alm_givesWay_41 qc_1 ?_
        refine gw_goto (t := 46) k_Alm_givesWay f_Alm_givesWay_42 rfl ?_
        exact gw_zret k_Alm_givesWay f_Alm_givesWay_46 rfl (Or.inr rfl) h
    · have c3 := Decidable.not_not.mp c3
      have h := h.1 c3
      refine gw_iconst k_Alm_givesWay f_Alm_givesWay_23 qc_1 ?_
      refine gw_goto (t := 28) k_Alm_givesWay f_Alm_givesWay_24 rfl ?_
      refine gw_istore_n [some (.inr (.inl (some 16))), some (.inl a0), some (.inl a1), some (.inl 1)] k_Alm_givesWay f_Alm_givesWay_28 (Nat.le_of_ble_eq_true rfl) rfl ?_
      refine gw_iload_n k_Alm_givesWay f_Alm_givesWay_29 rfl ?_
      refine gw_if_ne (t := 45) k_Alm_givesWay f_Alm_givesWay_30 rfl (fun _ => ?_) (fun c => absurd (by decide) c)
      refine gw_iconst k_Alm_givesWay f_Alm_givesWay_45 qc_0 ?_
      exact gw_zret k_Alm_givesWay f_Alm_givesWay_46 rfl (Or.inl rfl) h
theorem ev_Alm_givesWay {zs : List Int32} {a0 a1 : Int32} {w : Wd} {Q : Option AV → Wd → Prop} (h : Q (some (.inl (f_Alm_givesWay w a0 a1))) w) : Ew zs 2 m_Alm_givesWay [.inr (.inl (some 16)), .inl a0, .inl a1] w Q := by
  refine ew_of k_Alm_givesWay rfl (sg_Alm_givesWay_0 ?_)
  refine ⟨fun c1 => ?_, fun c1 => ?_⟩
  ·
    refine ⟨fun c3 => ?_, fun c3 => ?_⟩
    ·
      rw [show f_Alm_givesWay w a0 a1 = 0 from by unfold f_Alm_givesWay; rw [if_pos c1, if_pos c3]] at h
      exact h
    ·
      refine ⟨fun c4 => ?_, fun c4 => ?_⟩
      ·
        rw [show f_Alm_givesWay w a0 a1 = 0 from by unfold f_Alm_givesWay; rw [if_pos c1, if_neg c3, if_pos c4]] at h
        exact h
      ·
        rw [show f_Alm_givesWay w a0 a1 = 1 from by unfold f_Alm_givesWay; rw [if_pos c1, if_neg c3, if_neg c4]] at h
        exact h
  ·
    refine ⟨fun c2 => ?_, fun c2 => ?_⟩
    ·
      rw [show f_Alm_givesWay w a0 a1 = 0 from by unfold f_Alm_givesWay; rw [if_neg c1, if_pos c2]] at h
      exact h
    ·
      rw [show f_Alm_givesWay w a0 a1 = 1 from by unfold f_Alm_givesWay; rw [if_neg c1, if_neg c2]] at h
      exact h
theorem fb_Alm_givesWay {w : Wd} {a0 : Int32} {a1 : Int32} : f_Alm_givesWay w a0 a1 = 0 ∨ f_Alm_givesWay w a0 a1 = 1 := by
  unfold f_Alm_givesWay
  exact (if01 (if01 (Or.inl rfl) (if01 (Or.inl rfl) (Or.inr rfl))) (if01 (Or.inl rfl) (Or.inr rfl)))
def f_Sea_colourOf (w : Wd) (a0 : Int32) : Int32 := if a0 = (-1) then 0 else (f_at w 7 10 a0)
theorem sg_Sea_colourOf_0 {zs : List Int32} {a0 : Int32} {w : Wd} {Q : Option AV → Wd → Prop} (h : ((a0 = (-1) → Q (some (.inl 0)) w) ∧ (¬ (a0 = (-1)) → Q (some (.inl (f_at w 7 10 a0))) w))) : Gw zs 1 m_Sea_colourOf 0 [some (.inr (.inl (some 1))), some (.inl a0)] [] w Q := by
  refine gw_iload_n k_Sea_colourOf f_Sea_colourOf_0 rfl ?_
  refine gw_iconst k_Sea_colourOf f_Sea_colourOf_1 qc_m1 ?_
  refine gw_icmp_ne (t := 9) k_Sea_colourOf f_Sea_colourOf_2 rfl (fun c1 => ?_) (fun c1 => ?_)
  · have h := h.2 c1
    refine gw_aload_n k_Sea_colourOf f_Sea_colourOf_9 rfl ?_
    refine gw_getR k_Sea_colourOf f_Sea_colourOf_10 l_fldT_7_28 hc1 rfl ?_
    refine gw_iload_n k_Sea_colourOf f_Sea_colourOf_13 rfl ?_
    refine gw_static [.inr (.inl (some 7)), .inl a0] k_Sea_colourOf f_Sea_colourOf_14 l_invT_7_56 (by decide) k_Bk_at rfl (by exact Nat.le_of_ble_eq_true rfl) (dc := 0) (by decide) ?_ rfl
    refine ev_at hc7 (by decide) ?_
    show Gw zs 1 m_Sea_colourOf 17 [some (.inr (.inl (some 1))), some (.inl a0)] [.inl (f_at w 7 10 a0)] w _
    exact gw_iret k_Sea_colourOf f_Sea_colourOf_17 rfl h
  · have c1 := Decidable.not_not.mp c1
    have h := h.1 c1
    refine gw_iconst k_Sea_colourOf f_Sea_colourOf_5 qc_0 ?_
    refine gw_goto (t := 17) k_Sea_colourOf f_Sea_colourOf_6 rfl ?_
    exact gw_iret k_Sea_colourOf f_Sea_colourOf_17 rfl h
theorem ev_Sea_colourOf {zs : List Int32} {a0 : Int32} {w : Wd} {Q : Option AV → Wd → Prop} (h : Q (some (.inl (f_Sea_colourOf w a0))) w) : Ew zs 1 m_Sea_colourOf [.inr (.inl (some 1)), .inl a0] w Q := by
  refine ew_of k_Sea_colourOf rfl (sg_Sea_colourOf_0 ?_)
  refine ⟨fun c1 => ?_, fun c1 => ?_⟩
  ·
    rw [show f_Sea_colourOf w a0 = 0 from by unfold f_Sea_colourOf; rw [if_pos c1]] at h
    exact h
  ·
    rw [show f_Sea_colourOf w a0 = (f_at w 7 10 a0) from by unfold f_Sea_colourOf; rw [if_neg c1]] at h
    exact h
def f_Fea_colourOf (w : Wd) (a0 : Int32) : Int32 := (f_at w 12 60 a0)
theorem sg_Fea_colourOf_0 {zs : List Int32} {a0 : Int32} {w : Wd} {Q : Option AV → Wd → Prop} (h : Q (some (.inl (f_at w 12 60 a0))) w) : Gw zs 1 m_Fea_colourOf 0 [some (.inr (.inl (some 8))), some (.inl a0)] [] w Q := by
  refine gw_aload_n k_Fea_colourOf f_Fea_colourOf_0 rfl ?_
  refine gw_getR k_Fea_colourOf f_Fea_colourOf_1 l_fldT_4_21 hc8 rfl ?_
  refine gw_iload_n k_Fea_colourOf f_Fea_colourOf_4 rfl ?_
  refine gw_static [.inr (.inl (some 12)), .inl a0] k_Fea_colourOf f_Fea_colourOf_5 l_invT_4_62 (by decide) k_Bk_at rfl (by exact Nat.le_of_ble_eq_true rfl) (dc := 0) (by decide) ?_ rfl
  refine ev_at hc12 (by decide) ?_
  show Gw zs 1 m_Fea_colourOf 8 [some (.inr (.inl (some 8))), some (.inl a0)] [.inl (f_at w 12 60 a0)] w _
  exact gw_iret k_Fea_colourOf f_Fea_colourOf_8 rfl h
theorem ev_Fea_colourOf {zs : List Int32} {a0 : Int32} {w : Wd} {Q : Option AV → Wd → Prop} (h : Q (some (.inl (f_Fea_colourOf w a0))) w) : Ew zs 1 m_Fea_colourOf [.inr (.inl (some 8)), .inl a0] w Q := by
  refine ew_of k_Fea_colourOf rfl (sg_Fea_colourOf_0 ?_)
  rw [show f_Fea_colourOf w a0 = (f_at w 12 60 a0) from by unfold f_Fea_colourOf; rfl] at h
  exact h
def f_Alm_colourIn (w : Wd) (a0 : Int32) (a1 : Int32) : Int32 := if (f_Alm_feastIn a0) = (-1) then (f_Sea_colourOf w (f_at w 17 366 a1)) else (f_Fea_colourOf w (f_Alm_feastIn a0))
theorem sg_Alm_colourIn_0 {zs : List Int32} {a0 a1 : Int32} {w : Wd} {Q : Option AV → Wd → Prop} (h : (((f_Alm_feastIn a0) = (-1) → Q (some (.inl (f_Sea_colourOf w (f_at w 17 366 a1)))) w) ∧ (¬ ((f_Alm_feastIn a0) = (-1)) → Q (some (.inl (f_Fea_colourOf w (f_Alm_feastIn a0)))) w))) : Gw zs 2 m_Alm_colourIn 0 [some (.inr (.inl (some 16))), some (.inl a0), some (.inl a1), none] [] w Q := by
  refine gw_iload_n k_Alm_colourIn f_Alm_colourIn_0 rfl ?_
  refine gw_static [.inl a0] k_Alm_colourIn f_Alm_colourIn_1 l_invT_0_74 (by decide) k_Alm_feastIn rfl (by exact Nat.le_of_ble_eq_true rfl) (dc := 1) (by decide) ?_ rfl
  refine ev_Alm_feastIn ?_
  show Gw zs 2 m_Alm_colourIn 4 [some (.inr (.inl (some 16))), some (.inl a0), some (.inl a1), none] [.inl (f_Alm_feastIn a0)] w _
  refine gw_istore_n [some (.inr (.inl (some 16))), some (.inl a0), some (.inl a1), some (.inl (f_Alm_feastIn a0))] k_Alm_colourIn f_Alm_colourIn_4 (Nat.le_of_ble_eq_true rfl) rfl ?_
  refine gw_iload_n k_Alm_colourIn f_Alm_colourIn_5 rfl ?_
  refine gw_iconst k_Alm_colourIn f_Alm_colourIn_6 qc_m1 ?_
  refine gw_icmp_ne (t := 28) k_Alm_colourIn f_Alm_colourIn_7 rfl (fun c1 => ?_) (fun c1 => ?_)
  · have h := h.2 c1
    refine gw_aload_n k_Alm_colourIn f_Alm_colourIn_28 rfl ?_
    refine gw_getR k_Alm_colourIn f_Alm_colourIn_29 l_fldT_0_35 hc16 rfl ?_
    refine gw_iload_n k_Alm_colourIn f_Alm_colourIn_32 rfl ?_
    refine gw_virtual [.inl (f_Alm_feastIn a0)] k_Alm_colourIn f_Alm_colourIn_33 l_invT_0_88 k_Fea_colourOf hc8 rfl rfl rfl (by exact Nat.le_of_ble_eq_true rfl) (dc := 1) (by decide) ?_ rfl
    refine ev_Fea_colourOf ?_
    show Gw zs 2 m_Alm_colourIn 36 [some (.inr (.inl (some 16))), some (.inl a0), some (.inl a1), some (.inl (f_Alm_feastIn a0))] [.inl (f_Fea_colourOf w (f_Alm_feastIn a0))] w _
    exact gw_iret k_Alm_colourIn f_Alm_colourIn_36 rfl h
  · have c1 := Decidable.not_not.mp c1
    have h := h.1 c1
    refine gw_aload_n k_Alm_colourIn f_Alm_colourIn_10 rfl ?_
    refine gw_getR k_Alm_colourIn f_Alm_colourIn_11 l_fldT_0_31 hc16 rfl ?_
    refine gw_aload_n k_Alm_colourIn f_Alm_colourIn_14 rfl ?_
    refine gw_getR k_Alm_colourIn f_Alm_colourIn_15 l_fldT_0_11 hc16 rfl ?_
    refine gw_iload_n k_Alm_colourIn f_Alm_colourIn_18 rfl ?_
    refine gw_static [.inr (.inl (some 17)), .inl a1] k_Alm_colourIn f_Alm_colourIn_19 l_invT_0_60 (by decide) k_Bk_at rfl (by exact Nat.le_of_ble_eq_true rfl) (dc := 0) (by decide) ?_ rfl
    refine ev_at hc17 (by decide) ?_
    show Gw zs 2 m_Alm_colourIn 22 [some (.inr (.inl (some 16))), some (.inl a0), some (.inl a1), some (.inl (f_Alm_feastIn a0))] [.inl (f_at w 17 366 a1), .inr (.inl (some 1))] w _
    refine gw_virtual [.inl (f_at w 17 366 a1)] k_Alm_colourIn f_Alm_colourIn_22 l_invT_0_83 k_Sea_colourOf hc1 rfl rfl rfl (by exact Nat.le_of_ble_eq_true rfl) (dc := 1) (by decide) ?_ rfl
    refine ev_Sea_colourOf ?_
    show Gw zs 2 m_Alm_colourIn 25 [some (.inr (.inl (some 16))), some (.inl a0), some (.inl a1), some (.inl (f_Alm_feastIn a0))] [.inl (f_Sea_colourOf w (f_at w 17 366 a1))] w _
    refine gw_goto (t := 36) k_Alm_colourIn f_Alm_colourIn_25 rfl ?_
    exact gw_iret k_Alm_colourIn f_Alm_colourIn_36 rfl h
theorem ev_Alm_colourIn {zs : List Int32} {a0 a1 : Int32} {w : Wd} {Q : Option AV → Wd → Prop} (h : Q (some (.inl (f_Alm_colourIn w a0 a1))) w) : Ew zs 2 m_Alm_colourIn [.inr (.inl (some 16)), .inl a0, .inl a1] w Q := by
  refine ew_of k_Alm_colourIn rfl (sg_Alm_colourIn_0 ?_)
  refine ⟨fun c1 => ?_, fun c1 => ?_⟩
  ·
    rw [show f_Alm_colourIn w a0 a1 = (f_Sea_colourOf w (f_at w 17 366 a1)) from by unfold f_Alm_colourIn; rw [if_pos c1]] at h
    exact h
  ·
    rw [show f_Alm_colourIn w a0 a1 = (f_Fea_colourOf w (f_Alm_feastIn a0)) from by unfold f_Alm_colourIn; rw [if_neg c1]] at h
    exact h
def f_Alm_partOf (a0 : Int32) (a1 : Int32) : Int32 := if a1 = 0 then (f_Alm_kindIn a0) else if a1 = 1 then (f_Alm_feastIn a0) else if a1 = 2 then (f_Alm_rankIn a0) else (-1)
theorem sg_Alm_partOf_0 {zs : List Int32} {a0 a1 : Int32} {w : Wd} {Q : Option AV → Wd → Prop} (h : ((a1 = 0 → Q (some (.inl (f_Alm_kindIn a0))) w) ∧ (a1 = 1 → Q (some (.inl (f_Alm_feastIn a0))) w) ∧ (a1 = 2 → Q (some (.inl (f_Alm_rankIn a0))) w) ∧ (¬ a1 = 0 → ¬ a1 = 1 → ¬ a1 = 2 → Q (some (.inl (-1))) w))) : Gw zs 2 m_Alm_partOf 0 [some (.inl a0), some (.inl a1)] [] w Q := by
  refine gw_iload_n k_Alm_partOf f_Alm_partOf_0 rfl ?_
  refine gw_tsw k_Alm_partOf f_Alm_partOf_1 (by decide) (by decide) (fun q hq hx => ?_) (fun hx => ?_)
  · match q, hq, hx with
    | 0, hq, hx =>
      have c1 : a1 = 0 := hx.trans (by decide)
      have h := h.1 c1
      refine ⟨_, 28, rfl, rfl, ?_⟩
      refine gw_iload_n k_Alm_partOf f_Alm_partOf_28 rfl ?_
      refine gw_static [.inl a0] k_Alm_partOf f_Alm_partOf_29 l_invT_0_71 (by decide) k_Alm_kindIn rfl (by exact Nat.le_of_ble_eq_true rfl) (dc := 0) (by decide) ?_ rfl
      refine ev_Alm_kindIn ?_
      show Gw zs 2 m_Alm_partOf 32 [some (.inl a0), some (.inl a1)] [.inl (f_Alm_kindIn a0)] w _
      exact gw_iret k_Alm_partOf f_Alm_partOf_32 rfl h
    | 1, hq, hx =>
      have c2 : a1 = 1 := hx.trans (by decide)
      have h := h.2.1 c2
      refine ⟨_, 33, rfl, rfl, ?_⟩
      refine gw_iload_n k_Alm_partOf f_Alm_partOf_33 rfl ?_
      refine gw_static [.inl a0] k_Alm_partOf f_Alm_partOf_34 l_invT_0_74 (by decide) k_Alm_feastIn rfl (by exact Nat.le_of_ble_eq_true rfl) (dc := 1) (by decide) ?_ rfl
      refine ev_Alm_feastIn ?_
      show Gw zs 2 m_Alm_partOf 37 [some (.inl a0), some (.inl a1)] [.inl (f_Alm_feastIn a0)] w _
      exact gw_iret k_Alm_partOf f_Alm_partOf_37 rfl h
    | 2, hq, hx =>
      have c3 : a1 = 2 := hx.trans (by decide)
      have h := h.2.2.1 c3
      refine ⟨_, 38, rfl, rfl, ?_⟩
      refine gw_iload_n k_Alm_partOf f_Alm_partOf_38 rfl ?_
      refine gw_static [.inl a0] k_Alm_partOf f_Alm_partOf_39 l_invT_0_80 (by decide) k_Alm_rankIn rfl (by exact Nat.le_of_ble_eq_true rfl) (dc := 0) (by decide) ?_ rfl
      refine ev_Alm_rankIn ?_
      show Gw zs 2 m_Alm_partOf 42 [some (.inl a0), some (.inl a1)] [.inl (f_Alm_rankIn a0)] w _
      exact gw_iret k_Alm_partOf f_Alm_partOf_42 rfl h
    | q + 3, hq, hx => exact absurd hq (by show ¬ (q + 3 < 3); omega)
  ·
    have c4 : ¬ a1 = 0 := fun c => hx 0 (by decide) (c.trans (by decide))
    have c5 : ¬ a1 = 1 := fun c => hx 1 (by decide) (c.trans (by decide))
    have c6 : ¬ a1 = 2 := fun c => hx 2 (by decide) (c.trans (by decide))
    have h := h.2.2.2 c4 c5 c6
    refine ⟨43, rfl, ?_⟩
    refine gw_iconst k_Alm_partOf f_Alm_partOf_43 qc_m1 ?_
    exact gw_iret k_Alm_partOf f_Alm_partOf_44 rfl h
theorem ev_Alm_partOf {zs : List Int32} {a0 a1 : Int32} {w : Wd} {Q : Option AV → Wd → Prop} (h : Q (some (.inl (f_Alm_partOf a0 a1))) w) : Ew zs 2 m_Alm_partOf [.inl a0, .inl a1] w Q := by
  refine ew_of k_Alm_partOf rfl (sg_Alm_partOf_0 ?_)
  refine ⟨fun c0_1 => ?_, fun c1_1 => ?_, fun c2_1 => ?_, fun c0_1 c1_1 c2_1 => ?_⟩
  ·
    rw [show f_Alm_partOf a0 a1 = (f_Alm_kindIn a0) from by unfold f_Alm_partOf; rw [if_pos c0_1]] at h
    exact h
  ·
    rw [show f_Alm_partOf a0 a1 = (f_Alm_feastIn a0) from by unfold f_Alm_partOf; rw [if_neg (by rw [c1_1]; decide), if_pos c1_1]] at h
    exact h
  ·
    rw [show f_Alm_partOf a0 a1 = (f_Alm_rankIn a0) from by unfold f_Alm_partOf; rw [if_neg (by rw [c2_1]; decide), if_neg (by rw [c2_1]; decide), if_pos c2_1]] at h
    exact h
  ·
    rw [show f_Alm_partOf a0 a1 = (-1) from by unfold f_Alm_partOf; rw [if_neg c0_1, if_neg c1_1, if_neg c2_1]] at h
    exact h
def f_Alm_commemoration (w : Wd) (a0 : Int32) (a1 : Int32) (a2 : Int32) : Int32 := if (f_Bk_within a1 0 2) = 0 then (-1) else if (f_at w 19 1098 ((a0 * 3) + a1)) = (-1) then (-1) else (f_Alm_partOf (f_at w 19 1098 ((a0 * 3) + a1)) a2)
theorem sg_Alm_commemoration_0 {zs : List Int32} {a0 a1 a2 : Int32} {w : Wd} {Q : Option AV → Wd → Prop} (h : (((f_Bk_within a1 0 2) = 0 → Q (some (.inl (-1))) w) ∧ (¬ ((f_Bk_within a1 0 2) = 0) → (((f_at w 19 1098 ((a0 * 3) + a1)) = (-1) → Q (some (.inl (-1))) w) ∧ (¬ ((f_at w 19 1098 ((a0 * 3) + a1)) = (-1)) → Q (some (.inl (f_Alm_partOf (f_at w 19 1098 ((a0 * 3) + a1)) a2))) w))))) : Gw zs 3 m_Alm_commemoration 0 [some (.inr (.inl (some 16))), some (.inl a0), some (.inl a1), some (.inl a2), none] [] w Q := by
  refine gw_iload_n k_Alm_commemoration f_Alm_commemoration_0 rfl ?_
  refine gw_iconst k_Alm_commemoration f_Alm_commemoration_1 qc_0 ?_
  refine gw_iconst k_Alm_commemoration f_Alm_commemoration_2 qc_2 ?_
  refine gw_static [.inl a1, .inl 0, .inl 2] k_Alm_commemoration f_Alm_commemoration_3 l_invT_0_53 (by decide) k_Bk_within rfl (by exact Nat.le_of_ble_eq_true rfl) (dc := 0) (by decide) ?_ rfl
  refine ev_Bk_within ?_
  show Gw zs 3 m_Alm_commemoration 6 [some (.inr (.inl (some 16))), some (.inl a0), some (.inl a1), some (.inl a2), none] [.inl (f_Bk_within a1 0 2)] w _
  refine gw_if_eq (t := 24) k_Alm_commemoration f_Alm_commemoration_6 rfl (fun c1 => ?_) (fun c1 => ?_)
  · have h := h.1 c1
    refine gw_iconst k_Alm_commemoration f_Alm_commemoration_24 qc_m1 ?_
    refine gw_istore [some (.inr (.inl (some 16))), some (.inl a0), some (.inl a1), some (.inl a2), some (.inl (-1))] k_Alm_commemoration f_Alm_commemoration_25 (Nat.le_of_ble_eq_true rfl) rfl ?_
    refine gw_iload k_Alm_commemoration f_Alm_commemoration_27 rfl ?_
    refine gw_iconst k_Alm_commemoration f_Alm_commemoration_29 qc_m1 ?_
    refine gw_icmp_ne (t := 37) k_Alm_commemoration f_Alm_commemoration_30 rfl (fun c => absurd c (by decide)) (fun _ => ?_)
    refine gw_iconst k_Alm_commemoration f_Alm_commemoration_33 qc_m1 ?_
    refine gw_goto (t := 43) k_Alm_commemoration f_Alm_commemoration_34 rfl ?_
    exact gw_iret k_Alm_commemoration f_Alm_commemoration_43 rfl h
  · have h := h.2 c1
    refine gw_aload_n k_Alm_commemoration f_Alm_commemoration_9 rfl ?_
    refine gw_getR k_Alm_commemoration f_Alm_commemoration_10 l_fldT_0_18 hc16 rfl ?_
    refine gw_iload_n k_Alm_commemoration f_Alm_commemoration_13 rfl ?_
    refine gw_iconst k_Alm_commemoration f_Alm_commemoration_14 qc_3 ?_
    refine gw_imul k_Alm_commemoration f_Alm_commemoration_15 ?_
    refine gw_iload_n k_Alm_commemoration f_Alm_commemoration_16 rfl ?_
    refine gw_iadd k_Alm_commemoration f_Alm_commemoration_17 ?_
    refine gw_static [.inr (.inl (some 19)), .inl ((a0 * 3) + a1)] k_Alm_commemoration f_Alm_commemoration_18 l_invT_0_60 (by decide) k_Bk_at rfl (by exact Nat.le_of_ble_eq_true rfl) (dc := 0) (by decide) ?_ rfl
    refine ev_at hc19 (by decide) ?_
    show Gw zs 3 m_Alm_commemoration 21 [some (.inr (.inl (some 16))), some (.inl a0), some (.inl a1), some (.inl a2), none] [.inl (f_at w 19 1098 ((a0 * 3) + a1))] w _
    refine gw_goto (t := 25) k_Alm_commemoration f_Alm_commemoration_21 rfl ?_
    refine gw_istore [some (.inr (.inl (some 16))), some (.inl a0), some (.inl a1), some (.inl a2), some (.inl (f_at w 19 1098 ((a0 * 3) + a1)))] k_Alm_commemoration f_Alm_commemoration_25 (Nat.le_of_ble_eq_true rfl) rfl ?_
    refine gw_iload k_Alm_commemoration f_Alm_commemoration_27 rfl ?_
    refine gw_iconst k_Alm_commemoration f_Alm_commemoration_29 qc_m1 ?_
    refine gw_icmp_ne (t := 37) k_Alm_commemoration f_Alm_commemoration_30 rfl (fun c2 => ?_) (fun c2 => ?_)
    · have h := h.2 c2
      refine gw_iload k_Alm_commemoration f_Alm_commemoration_37 rfl ?_
      refine gw_iload_n k_Alm_commemoration f_Alm_commemoration_39 rfl ?_
      refine gw_static [.inl (f_at w 19 1098 ((a0 * 3) + a1)), .inl a2] k_Alm_commemoration f_Alm_commemoration_40 l_invT_0_77 (by decide) k_Alm_partOf rfl (by exact Nat.le_of_ble_eq_true rfl) (dc := 2) (by decide) ?_ rfl
      refine ev_Alm_partOf ?_
      show Gw zs 3 m_Alm_commemoration 43 [some (.inr (.inl (some 16))), some (.inl a0), some (.inl a1), some (.inl a2), some (.inl (f_at w 19 1098 ((a0 * 3) + a1)))] [.inl (f_Alm_partOf (f_at w 19 1098 ((a0 * 3) + a1)) a2)] w _
      exact gw_iret k_Alm_commemoration f_Alm_commemoration_43 rfl h
    · have c2 := Decidable.not_not.mp c2
      have h := h.1 c2
      refine gw_iconst k_Alm_commemoration f_Alm_commemoration_33 qc_m1 ?_
      refine gw_goto (t := 43) k_Alm_commemoration f_Alm_commemoration_34 rfl ?_
      exact gw_iret k_Alm_commemoration f_Alm_commemoration_43 rfl h
theorem ev_Alm_commemoration {zs : List Int32} {a0 a1 a2 : Int32} {w : Wd} {Q : Option AV → Wd → Prop} (h : Q (some (.inl (f_Alm_commemoration w a0 a1 a2))) w) : Ew zs 3 m_Alm_commemoration [.inr (.inl (some 16)), .inl a0, .inl a1, .inl a2] w Q := by
  refine ew_of k_Alm_commemoration rfl (sg_Alm_commemoration_0 ?_)
  refine ⟨fun c1 => ?_, fun c1 => ?_⟩
  ·
    rw [show f_Alm_commemoration w a0 a1 a2 = (-1) from by unfold f_Alm_commemoration; rw [if_pos c1]] at h
    exact h
  ·
    refine ⟨fun c2 => ?_, fun c2 => ?_⟩
    ·
      rw [show f_Alm_commemoration w a0 a1 a2 = (-1) from by unfold f_Alm_commemoration; rw [if_neg c1, if_pos c2]] at h
      exact h
    ·
      rw [show f_Alm_commemoration w a0 a1 a2 = (f_Alm_partOf (f_at w 19 1098 ((a0 * 3) + a1)) a2) from by unfold f_Alm_commemoration; rw [if_neg c1, if_neg c2]] at h
      exact h
def f_Alm_fateOf (w : Wd) (a0 : Int32) : Int32 := (f_at w 21 60 a0)
theorem sg_Alm_fateOf_0 {zs : List Int32} {a0 : Int32} {w : Wd} {Q : Option AV → Wd → Prop} (h : Q (some (.inl (f_at w 21 60 a0))) w) : Gw zs 1 m_Alm_fateOf 0 [some (.inr (.inl (some 16))), some (.inl a0)] [] w Q := by
  refine gw_aload_n k_Alm_fateOf f_Alm_fateOf_0 rfl ?_
  refine gw_getR k_Alm_fateOf f_Alm_fateOf_1 l_fldT_0_24 hc16 rfl ?_
  refine gw_iload_n k_Alm_fateOf f_Alm_fateOf_4 rfl ?_
  refine gw_static [.inr (.inl (some 21)), .inl a0] k_Alm_fateOf f_Alm_fateOf_5 l_invT_0_60 (by decide) k_Bk_at rfl (by exact Nat.le_of_ble_eq_true rfl) (dc := 0) (by decide) ?_ rfl
  refine ev_at hc21 (by decide) ?_
  show Gw zs 1 m_Alm_fateOf 8 [some (.inr (.inl (some 16))), some (.inl a0)] [.inl (f_at w 21 60 a0)] w _
  exact gw_iret k_Alm_fateOf f_Alm_fateOf_8 rfl h
theorem ev_Alm_fateOf {zs : List Int32} {a0 : Int32} {w : Wd} {Q : Option AV → Wd → Prop} (h : Q (some (.inl (f_Alm_fateOf w a0))) w) : Ew zs 1 m_Alm_fateOf [.inr (.inl (some 16)), .inl a0] w Q := by
  refine ew_of k_Alm_fateOf rfl (sg_Alm_fateOf_0 ?_)
  rw [show f_Alm_fateOf w a0 = (f_at w 21 60 a0) from by unfold f_Alm_fateOf; rfl] at h
  exact h
def f_Psa_hasPsalm (a0 : Int32) : Int32 := (f_Bk_within a0 1 150)
theorem sg_Psa_hasPsalm_0 {zs : List Int32} {a0 : Int32} {w : Wd} {Q : Option AV → Wd → Prop} (h : Q (some (.inl (f_Bk_within a0 1 150))) w) : Gw zs 1 m_Psa_hasPsalm 0 [some (.inr (.inl (some 22))), some (.inl a0)] [] w Q := by
  refine gw_iload_n k_Psa_hasPsalm f_Psa_hasPsalm_0 rfl ?_
  refine gw_iconst k_Psa_hasPsalm f_Psa_hasPsalm_1 qc_1 ?_
  refine gw_sipush k_Psa_hasPsalm f_Psa_hasPsalm_2 qs_150 ?_
  refine gw_static [.inl a0, .inl 1, .inl 150] k_Psa_hasPsalm f_Psa_hasPsalm_5 l_invT_5_40 (by decide) k_Bk_within rfl (by exact Nat.le_of_ble_eq_true rfl) (dc := 0) (by decide) ?_ rfl
  refine ev_Bk_within ?_
  show Gw zs 1 m_Psa_hasPsalm 8 [some (.inr (.inl (some 22))), some (.inl a0)] [.inl (f_Bk_within a0 1 150)] w _
  exact gw_zret k_Psa_hasPsalm f_Psa_hasPsalm_8 rfl (fb_Bk_within ..) h
theorem ev_Psa_hasPsalm {zs : List Int32} {a0 : Int32} {w : Wd} {Q : Option AV → Wd → Prop} (h : Q (some (.inl (f_Psa_hasPsalm a0))) w) : Ew zs 1 m_Psa_hasPsalm [.inr (.inl (some 22)), .inl a0] w Q := by
  refine ew_of k_Psa_hasPsalm rfl (sg_Psa_hasPsalm_0 ?_)
  rw [show f_Psa_hasPsalm a0 = (f_Bk_within a0 1 150) from by unfold f_Psa_hasPsalm; rfl] at h
  exact h
theorem fb_Psa_hasPsalm {a0 : Int32} : f_Psa_hasPsalm a0 = 0 ∨ f_Psa_hasPsalm a0 = 1 := by
  unfold f_Psa_hasPsalm
  exact (fb_Bk_within ..)
def f_Psa_setVerses (w : Wd) (a0 : Int32) (a1 : Int32) : Int32 := if (f_Psa_hasPsalm a0) = 0 then (-1) else if (f_Bk_within a1 1 200) = 0 then (-1) else (f_at w 23 151 a0)
def g_Psa_setVerses (w : Wd) (a0 : Int32) (a1 : Int32) : Wd := if (f_Psa_hasPsalm a0) = 0 then w else if (f_Bk_within a1 1 200) = 0 then w else wr (g_put w 23 151 a0 a1) 22 11 0
theorem sg_Psa_setVerses_0 {zs : List Int32} {a0 a1 : Int32} {w : Wd} {Q : Option AV → Wd → Prop} (h : (((f_Psa_hasPsalm a0) = 0 → Q (some (.inl (-1))) w) ∧ (¬ ((f_Psa_hasPsalm a0) = 0) → (((f_Bk_within a1 1 200) = 0 → Q (some (.inl (-1))) w) ∧ (¬ ((f_Bk_within a1 1 200) = 0) → Q (some (.inl (f_at w 23 151 a0))) (wr (g_put w 23 151 a0 a1) 22 11 0)))))) : Gw zs 2 m_Psa_setVerses 0 [some (.inr (.inl (some 22))), some (.inl a0), some (.inl a1), none] [] w Q := by
  refine gw_aload_n k_Psa_setVerses f_Psa_setVerses_0 rfl ?_
  refine gw_iload_n k_Psa_setVerses f_Psa_setVerses_1 rfl ?_
  refine gw_virtual [.inl a0] k_Psa_setVerses f_Psa_setVerses_2 l_invT_5_44 k_Psa_hasPsalm hc22 rfl rfl rfl (by exact Nat.le_of_ble_eq_true rfl) (dc := 1) (by decide) ?_ rfl
  refine ev_Psa_hasPsalm ?_
  show Gw zs 2 m_Psa_setVerses 5 [some (.inr (.inl (some 22))), some (.inl a0), some (.inl a1), none] [.inl (f_Psa_hasPsalm a0)] w _
  refine gw_if_eq (t := 19) k_Psa_setVerses f_Psa_setVerses_5 rfl (fun c1 => ?_) (fun c1 => ?_)
  · have h := h.1 c1
    refine gw_iconst k_Psa_setVerses f_Psa_setVerses_19 qc_m1 ?_
    exact gw_iret k_Psa_setVerses f_Psa_setVerses_20 rfl h
  · have h := h.2 c1
    refine gw_iload_n k_Psa_setVerses f_Psa_setVerses_8 rfl ?_
    refine gw_iconst k_Psa_setVerses f_Psa_setVerses_9 qc_1 ?_
    refine gw_sipush k_Psa_setVerses f_Psa_setVerses_10 qs_200 ?_
    refine gw_static [.inl a1, .inl 1, .inl 200] k_Psa_setVerses f_Psa_setVerses_13 l_invT_5_40 (by decide) k_Bk_within rfl (by exact Nat.le_of_ble_eq_true rfl) (dc := 0) (by decide) ?_ rfl
    refine ev_Bk_within ?_
    show Gw zs 2 m_Psa_setVerses 16 [some (.inr (.inl (some 22))), some (.inl a0), some (.inl a1), none] [.inl (f_Bk_within a1 1 200)] w _
    refine gw_if_ne (t := 21) k_Psa_setVerses f_Psa_setVerses_16 rfl (fun c2 => ?_) (fun c2 => ?_)
    · have h := h.2 c2
      refine gw_aload_n k_Psa_setVerses f_Psa_setVerses_21 rfl ?_
      refine gw_getR k_Psa_setVerses f_Psa_setVerses_22 l_fldT_5_11 hc22 rfl ?_
      refine gw_iload_n k_Psa_setVerses f_Psa_setVerses_25 rfl ?_
      refine gw_static [.inr (.inl (some 23)), .inl a0] k_Psa_setVerses f_Psa_setVerses_26 l_invT_5_48 (by decide) k_Bk_at rfl (by exact Nat.le_of_ble_eq_true rfl) (dc := 0) (by decide) ?_ rfl
      refine ev_at hc23 (by decide) ?_
      show Gw zs 2 m_Psa_setVerses 29 [some (.inr (.inl (some 22))), some (.inl a0), some (.inl a1), none] [.inl (f_at w 23 151 a0)] w _
      refine gw_istore_n [some (.inr (.inl (some 22))), some (.inl a0), some (.inl a1), some (.inl (f_at w 23 151 a0))] k_Psa_setVerses f_Psa_setVerses_29 (Nat.le_of_ble_eq_true rfl) rfl ?_
      refine gw_aload_n k_Psa_setVerses f_Psa_setVerses_30 rfl ?_
      refine gw_getR k_Psa_setVerses f_Psa_setVerses_31 l_fldT_5_11 hc22 rfl ?_
      refine gw_iload_n k_Psa_setVerses f_Psa_setVerses_34 rfl ?_
      refine gw_iload_n k_Psa_setVerses f_Psa_setVerses_35 rfl ?_
      refine gw_static [.inr (.inl (some 23)), .inl a0, .inl a1] k_Psa_setVerses f_Psa_setVerses_36 l_invT_5_52 (by decide) k_Bk_put rfl (by exact Nat.le_of_ble_eq_true rfl) (dc := 0) (by decide) ?_ rfl
      refine ev_put hc23 (by decide) ?_
      show Gw zs 2 m_Psa_setVerses 39 [some (.inr (.inl (some 22))), some (.inl a0), some (.inl a1), some (.inl (f_at w 23 151 a0))] [] (g_put w 23 151 a0 a1) _
      refine gw_aload_n k_Psa_setVerses f_Psa_setVerses_39 rfl ?_
      refine gw_iconst k_Psa_setVerses f_Psa_setVerses_40 qc_0 ?_
      refine gw_put k_Psa_setVerses f_Psa_setVerses_41 l_fldT_5_56 hc22 rfl rfl rfl rfl (by decide) ?_
      refine gw_iload_n k_Psa_setVerses f_Psa_setVerses_44 rfl ?_
      exact gw_iret k_Psa_setVerses f_Psa_setVerses_45 rfl h
    · have c2 := Decidable.not_not.mp c2
      have h := h.1 c2
      refine gw_iconst k_Psa_setVerses f_Psa_setVerses_19 qc_m1 ?_
      exact gw_iret k_Psa_setVerses f_Psa_setVerses_20 rfl h
theorem ev_Psa_setVerses {zs : List Int32} {a0 a1 : Int32} {w : Wd} {Q : Option AV → Wd → Prop} (h : Q (some (.inl (f_Psa_setVerses w a0 a1))) (g_Psa_setVerses w a0 a1)) : Ew zs 2 m_Psa_setVerses [.inr (.inl (some 22)), .inl a0, .inl a1] w Q := by
  refine ew_of k_Psa_setVerses rfl (sg_Psa_setVerses_0 ?_)
  refine ⟨fun c1 => ?_, fun c1 => ?_⟩
  ·
    rw [show f_Psa_setVerses w a0 a1 = (-1) from by unfold f_Psa_setVerses; rw [if_pos c1]] at h
    rw [show g_Psa_setVerses w a0 a1 = w from by unfold g_Psa_setVerses; rw [if_pos c1]] at h
    exact h
  ·
    refine ⟨fun c2 => ?_, fun c2 => ?_⟩
    ·
      rw [show f_Psa_setVerses w a0 a1 = (-1) from by unfold f_Psa_setVerses; rw [if_neg c1, if_pos c2]] at h
      rw [show g_Psa_setVerses w a0 a1 = w from by unfold g_Psa_setVerses; rw [if_neg c1, if_pos c2]] at h
      exact h
    ·
      rw [show f_Psa_setVerses w a0 a1 = (f_at w 23 151 a0) from by unfold f_Psa_setVerses; rw [if_neg c1, if_neg c2]] at h
      rw [show g_Psa_setVerses w a0 a1 = (wr (g_put w 23 151 a0 a1) 22 11 0) from by unfold g_Psa_setVerses; rw [if_neg c1, if_neg c2]] at h
      exact h
theorem gn_Psa_setVerses {w : Wd} {a0 : Int32} {a1 : Int32} {c k : Nat} (h : c ∉ [22, 23]) : g_Psa_setVerses w a0 a1 c k = w c k := by
  simp only [List.mem_cons, List.not_mem_nil, or_false, not_or] at h
  unfold g_Psa_setVerses
  repeat' split
  all_goals simp [wr, g_put_ne, h]
def f_Bk_verses (w : Wd) (a0 : Int32) (a1 : Int32) : Int32 := (f_Psa_setVerses w a0 a1)
def g_Bk_verses (w : Wd) (a0 : Int32) (a1 : Int32) : Wd := g_Psa_setVerses w a0 a1
theorem sg_Bk_verses_0 {zs : List Int32} {a0 a1 : Int32} {w : Wd} {Q : Option AV → Wd → Prop} (h : Q (some (.inl (f_Psa_setVerses w a0 a1))) (g_Psa_setVerses w a0 a1)) : Gw zs 3 m_Bk_verses 0 [some (.inr (.inl (some 0))), some (.inl a0), some (.inl a1)] [] w Q := by
  refine gw_aload_n k_Bk_verses f_Bk_verses_0 rfl ?_
  refine gw_getR k_Bk_verses f_Bk_verses_1 l_fldT_10_35 hc0 rfl ?_
  refine gw_iload_n k_Bk_verses f_Bk_verses_4 rfl ?_
  refine gw_iload_n k_Bk_verses f_Bk_verses_5 rfl ?_
  refine gw_virtual [.inl a0, .inl a1] k_Bk_verses f_Bk_verses_6 l_invT_10_137 k_Psa_setVerses hc22 rfl rfl rfl (by exact Nat.le_of_ble_eq_true rfl) (dc := 2) (by decide) ?_ rfl
  refine ev_Psa_setVerses ?_
  show Gw zs 3 m_Bk_verses 9 [some (.inr (.inl (some 0))), some (.inl a0), some (.inl a1)] [.inl (f_Psa_setVerses w a0 a1)] (g_Psa_setVerses w a0 a1) _
  exact gw_iret k_Bk_verses f_Bk_verses_9 rfl h
theorem ev_Bk_verses {zs : List Int32} {a0 a1 : Int32} {w : Wd} {Q : Option AV → Wd → Prop} (h : Q (some (.inl (f_Bk_verses w a0 a1))) (g_Bk_verses w a0 a1)) : Ew zs 3 m_Bk_verses [.inr (.inl (some 0)), .inl a0, .inl a1] w Q := by
  refine ew_of k_Bk_verses rfl (sg_Bk_verses_0 ?_)
  rw [show f_Bk_verses w a0 a1 = (f_Psa_setVerses w a0 a1) from by unfold f_Bk_verses; rfl] at h
  rw [show g_Bk_verses w a0 a1 = (g_Psa_setVerses w a0 a1) from by unfold g_Bk_verses; rfl] at h
  exact h
theorem gn_Bk_verses {w : Wd} {a0 : Int32} {a1 : Int32} {c k : Nat} (h : c ∉ [22, 23]) : g_Bk_verses w a0 a1 c k = w c k := by
  simp only [List.mem_cons, List.not_mem_nil, or_false, not_or] at h
  unfold g_Bk_verses
  repeat' split
  all_goals simp [wr, gn_Psa_setVerses, h]
def f_Psa_hasHour (w : Wd) (a0 : Int32) : Int32 := if a0 < 0 then 0 else if (w 22 8) ≤ a0 then 0 else 1
theorem sg_Psa_hasHour_0 {zs : List Int32} {a0 : Int32} {w : Wd} {Q : Option AV → Wd → Prop} (h : ((a0 < 0 → Q (some (.inl 0)) w) ∧ (¬ (a0 < 0) → (((w 22 8) ≤ a0 → Q (some (.inl 0)) w) ∧ (¬ ((w 22 8) ≤ a0) → Q (some (.inl 1)) w))))) : Gw zs 0 m_Psa_hasHour 0 [some (.inr (.inl (some 22))), some (.inl a0)] [] w Q := by
  refine gw_iload_n k_Psa_hasHour f_Psa_hasHour_0 rfl ?_
  refine gw_if_lt (t := 16) k_Psa_hasHour f_Psa_hasHour_1 rfl (fun c1 => ?_) (fun c1 => ?_)
  · have h := h.1 c1
    refine gw_iconst k_Psa_hasHour f_Psa_hasHour_16 qc_0 ?_
    exact gw_zret k_Psa_hasHour f_Psa_hasHour_17 rfl (Or.inl rfl) h
  · have h := h.2 c1
    refine gw_iload_n k_Psa_hasHour f_Psa_hasHour_4 rfl ?_
    refine gw_aload_n k_Psa_hasHour f_Psa_hasHour_5 rfl ?_
    refine gw_getI k_Psa_hasHour f_Psa_hasHour_6 l_fldT_5_33 hc22 rfl ?_
    refine gw_icmp_ge (t := 16) k_Psa_hasHour f_Psa_hasHour_9 rfl (fun c2 => ?_) (fun c2 => ?_)
    · have h := h.1 c2
      refine gw_iconst k_Psa_hasHour f_Psa_hasHour_16 qc_0 ?_
      exact gw_zret k_Psa_hasHour f_Psa_hasHour_17 rfl (Or.inl rfl) h
    · have h := h.2 c2
      refine gw_iconst k_Psa_hasHour f_Psa_hasHour_12 qc_1 ?_
      refine gw_goto (t := 17) k_Psa_hasHour f_Psa_hasHour_13 rfl ?_
      exact gw_zret k_Psa_hasHour f_Psa_hasHour_17 rfl (Or.inr rfl) h
theorem ev_Psa_hasHour {zs : List Int32} {a0 : Int32} {w : Wd} {Q : Option AV → Wd → Prop} (h : Q (some (.inl (f_Psa_hasHour w a0))) w) : Ew zs 0 m_Psa_hasHour [.inr (.inl (some 22)), .inl a0] w Q := by
  refine ew_of k_Psa_hasHour rfl (sg_Psa_hasHour_0 ?_)
  refine ⟨fun c1 => ?_, fun c1 => ?_⟩
  ·
    rw [show f_Psa_hasHour w a0 = 0 from by unfold f_Psa_hasHour; rw [if_pos c1]] at h
    exact h
  ·
    refine ⟨fun c2 => ?_, fun c2 => ?_⟩
    ·
      rw [show f_Psa_hasHour w a0 = 0 from by unfold f_Psa_hasHour; rw [if_neg c1, if_pos c2]] at h
      exact h
    ·
      rw [show f_Psa_hasHour w a0 = 1 from by unfold f_Psa_hasHour; rw [if_neg c1, if_neg c2]] at h
      exact h
theorem fb_Psa_hasHour {w : Wd} {a0 : Int32} : f_Psa_hasHour w a0 = 0 ∨ f_Psa_hasHour w a0 = 1 := by
  unfold f_Psa_hasHour
  exact (if01 (Or.inl rfl) (if01 (Or.inl rfl) (Or.inr rfl)))
def f_Psa_setFixed (w : Wd) (a0 : Int32) (a1 : Int32) : Int32 := if (f_Psa_hasPsalm a0) = 0 then (-2) else if a1 = (-1) then (f_at w 24 151 a0) else if (f_Psa_hasHour w a1) = 0 then (-2) else (f_at w 24 151 a0)
def g_Psa_setFixed (w : Wd) (a0 : Int32) (a1 : Int32) : Wd := if (f_Psa_hasPsalm a0) = 0 then w else if a1 = (-1) then wr (g_put w 24 151 a0 a1) 22 11 0 else if (f_Psa_hasHour w a1) = 0 then w else wr (g_put w 24 151 a0 a1) 22 11 0
theorem sg_Psa_setFixed_0 {zs : List Int32} {a0 a1 : Int32} {w : Wd} {Q : Option AV → Wd → Prop} (h : (((f_Psa_hasPsalm a0) = 0 → Q (some (.inl (-2))) w) ∧ (¬ ((f_Psa_hasPsalm a0) = 0) → ((a1 = (-1) → Q (some (.inl (f_at w 24 151 a0))) (wr (g_put w 24 151 a0 a1) 22 11 0)) ∧ (¬ (a1 = (-1)) → (((f_Psa_hasHour w a1) = 0 → Q (some (.inl (-2))) w) ∧ (¬ ((f_Psa_hasHour w a1) = 0) → Q (some (.inl (f_at w 24 151 a0))) (wr (g_put w 24 151 a0 a1) 22 11 0)))))))) : Gw zs 2 m_Psa_setFixed 0 [some (.inr (.inl (some 22))), some (.inl a0), some (.inl a1), none] [] w Q := by
  refine gw_aload_n k_Psa_setFixed f_Psa_setFixed_0 rfl ?_
  refine gw_iload_n k_Psa_setFixed f_Psa_setFixed_1 rfl ?_
  refine gw_virtual [.inl a0] k_Psa_setFixed f_Psa_setFixed_2 l_invT_5_44 k_Psa_hasPsalm hc22 rfl rfl rfl (by exact Nat.le_of_ble_eq_true rfl) (dc := 1) (by decide) ?_ rfl
  refine ev_Psa_hasPsalm ?_
  show Gw zs 2 m_Psa_setFixed 5 [some (.inr (.inl (some 22))), some (.inl a0), some (.inl a1), none] [.inl (f_Psa_hasPsalm a0)] w _
  refine gw_if_eq (t := 21) k_Psa_setFixed f_Psa_setFixed_5 rfl (fun c1 => ?_) (fun c1 => ?_)
  · have h := h.1 c1
    refine gw_bipush k_Psa_setFixed f_Psa_setFixed_21 qb_m2 ?_
    exact gw_iret k_Psa_setFixed f_Psa_setFixed_23 rfl h
  · have h := h.2 c1
    refine gw_iload_n k_Psa_setFixed f_Psa_setFixed_8 rfl ?_
    refine gw_iconst k_Psa_setFixed f_Psa_setFixed_9 qc_m1 ?_
    refine gw_icmp_eq (t := 24) k_Psa_setFixed f_Psa_setFixed_10 rfl (fun c2 => ?_) (fun c2 => ?_)
    · have h := h.1 c2
      refine gw_aload_n k_Psa_setFixed f_Psa_setFixed_24 rfl ?_
      refine gw_getR k_Psa_setFixed f_Psa_setFixed_25 l_fldT_5_15 hc22 rfl ?_
      refine gw_iload_n k_Psa_setFixed f_Psa_setFixed_28 rfl ?_
      refine gw_static [.inr (.inl (some 24)), .inl a0] k_Psa_setFixed f_Psa_setFixed_29 l_invT_5_48 (by decide) k_Bk_at rfl (by exact Nat.le_of_ble_eq_true rfl) (dc := 0) (by decide) ?_ rfl
      refine ev_at hc24 (by decide) ?_
      show Gw zs 2 m_Psa_setFixed 32 [some (.inr (.inl (some 22))), some (.inl a0), some (.inl a1), none] [.inl (f_at w 24 151 a0)] w _
      refine gw_istore_n [some (.inr (.inl (some 22))), some (.inl a0), some (.inl a1), some (.inl (f_at w 24 151 a0))] k_Psa_setFixed f_Psa_setFixed_32 (Nat.le_of_ble_eq_true rfl) rfl ?_
      refine gw_aload_n k_Psa_setFixed f_Psa_setFixed_33 rfl ?_
      refine gw_getR k_Psa_setFixed f_Psa_setFixed_34 l_fldT_5_15 hc22 rfl ?_
      refine gw_iload_n k_Psa_setFixed f_Psa_setFixed_37 rfl ?_
      refine gw_iload_n k_Psa_setFixed f_Psa_setFixed_38 rfl ?_
      refine gw_static [.inr (.inl (some 24)), .inl a0, .inl a1] k_Psa_setFixed f_Psa_setFixed_39 l_invT_5_52 (by decide) k_Bk_put rfl (by exact Nat.le_of_ble_eq_true rfl) (dc := 0) (by decide) ?_ rfl
      refine ev_put hc24 (by decide) ?_
      show Gw zs 2 m_Psa_setFixed 42 [some (.inr (.inl (some 22))), some (.inl a0), some (.inl a1), some (.inl (f_at w 24 151 a0))] [] (g_put w 24 151 a0 a1) _
      refine gw_aload_n k_Psa_setFixed f_Psa_setFixed_42 rfl ?_
      refine gw_iconst k_Psa_setFixed f_Psa_setFixed_43 qc_0 ?_
      refine gw_put k_Psa_setFixed f_Psa_setFixed_44 l_fldT_5_56 hc22 rfl rfl rfl rfl (by decide) ?_
      refine gw_iload_n k_Psa_setFixed f_Psa_setFixed_47 rfl ?_
      exact gw_iret k_Psa_setFixed f_Psa_setFixed_48 rfl h
    · have h := h.2 c2
      refine gw_aload_n k_Psa_setFixed f_Psa_setFixed_13 rfl ?_
      refine gw_iload_n k_Psa_setFixed f_Psa_setFixed_14 rfl ?_
      refine gw_virtual [.inl a1] k_Psa_setFixed f_Psa_setFixed_15 l_invT_5_63 k_Psa_hasHour hc22 rfl rfl rfl (by exact Nat.le_of_ble_eq_true rfl) (dc := 0) (by decide) ?_ rfl
      refine ev_Psa_hasHour ?_
      show Gw zs 2 m_Psa_setFixed 18 [some (.inr (.inl (some 22))), some (.inl a0), some (.inl a1), none] [.inl (f_Psa_hasHour w a1)] w _
      refine gw_if_ne (t := 24) k_Psa_setFixed f_Psa_setFixed_18 rfl (fun c3 => ?_) (fun c3 => ?_)
      · have h := h.2 c3
        refine gw_aload_n k_Psa_setFixed f_Psa_setFixed_24 rfl ?_
        refine gw_getR k_Psa_setFixed f_Psa_setFixed_25 l_fldT_5_15 hc22 rfl ?_
        refine gw_iload_n k_Psa_setFixed f_Psa_setFixed_28 rfl ?_
        refine gw_static [.inr (.inl (some 24)), .inl a0] k_Psa_setFixed f_Psa_setFixed_29 l_invT_5_48 (by decide) k_Bk_at rfl (by exact Nat.le_of_ble_eq_true rfl) (dc := 0) (by decide) ?_ rfl
        refine ev_at hc24 (by decide) ?_
        show Gw zs 2 m_Psa_setFixed 32 [some (.inr (.inl (some 22))), some (.inl a0), some (.inl a1), none] [.inl (f_at w 24 151 a0)] w _
        refine gw_istore_n [some (.inr (.inl (some 22))), some (.inl a0), some (.inl a1), some (.inl (f_at w 24 151 a0))] k_Psa_setFixed f_Psa_setFixed_32 (Nat.le_of_ble_eq_true rfl) rfl ?_
        refine gw_aload_n k_Psa_setFixed f_Psa_setFixed_33 rfl ?_
        refine gw_getR k_Psa_setFixed f_Psa_setFixed_34 l_fldT_5_15 hc22 rfl ?_
        refine gw_iload_n k_Psa_setFixed f_Psa_setFixed_37 rfl ?_
        refine gw_iload_n k_Psa_setFixed f_Psa_setFixed_38 rfl ?_
        refine gw_static [.inr (.inl (some 24)), .inl a0, .inl a1] k_Psa_setFixed f_Psa_setFixed_39 l_invT_5_52 (by decide) k_Bk_put rfl (by exact Nat.le_of_ble_eq_true rfl) (dc := 0) (by decide) ?_ rfl
        refine ev_put hc24 (by decide) ?_
        show Gw zs 2 m_Psa_setFixed 42 [some (.inr (.inl (some 22))), some (.inl a0), some (.inl a1), some (.inl (f_at w 24 151 a0))] [] (g_put w 24 151 a0 a1) _
        refine gw_aload_n k_Psa_setFixed f_Psa_setFixed_42 rfl ?_
        refine gw_iconst k_Psa_setFixed f_Psa_setFixed_43 qc_0 ?_
        refine gw_put k_Psa_setFixed f_Psa_setFixed_44 l_fldT_5_56 hc22 rfl rfl rfl rfl (by decide) ?_
        refine gw_iload_n k_Psa_setFixed f_Psa_setFixed_47 rfl ?_
        exact gw_iret k_Psa_setFixed f_Psa_setFixed_48 rfl h
      · have c3 := Decidable.not_not.mp c3
        have h := h.1 c3
        refine gw_bipush k_Psa_setFixed f_Psa_setFixed_21 qb_m2 ?_
        exact gw_iret k_Psa_setFixed f_Psa_setFixed_23 rfl h
theorem ev_Psa_setFixed {zs : List Int32} {a0 a1 : Int32} {w : Wd} {Q : Option AV → Wd → Prop} (h : Q (some (.inl (f_Psa_setFixed w a0 a1))) (g_Psa_setFixed w a0 a1)) : Ew zs 2 m_Psa_setFixed [.inr (.inl (some 22)), .inl a0, .inl a1] w Q := by
  refine ew_of k_Psa_setFixed rfl (sg_Psa_setFixed_0 ?_)
  refine ⟨fun c1 => ?_, fun c1 => ?_⟩
  ·
    rw [show f_Psa_setFixed w a0 a1 = (-2) from by unfold f_Psa_setFixed; rw [if_pos c1]] at h
    rw [show g_Psa_setFixed w a0 a1 = w from by unfold g_Psa_setFixed; rw [if_pos c1]] at h
    exact h
  ·
    refine ⟨fun c2 => ?_, fun c2 => ?_⟩
    ·
      rw [show f_Psa_setFixed w a0 a1 = (f_at w 24 151 a0) from by unfold f_Psa_setFixed; rw [if_neg c1, if_pos c2]] at h
      rw [show g_Psa_setFixed w a0 a1 = (wr (g_put w 24 151 a0 a1) 22 11 0) from by unfold g_Psa_setFixed; rw [if_neg c1, if_pos c2]] at h
      exact h
    ·
      refine ⟨fun c3 => ?_, fun c3 => ?_⟩
      ·
        rw [show f_Psa_setFixed w a0 a1 = (-2) from by unfold f_Psa_setFixed; rw [if_neg c1, if_neg c2, if_pos c3]] at h
        rw [show g_Psa_setFixed w a0 a1 = w from by unfold g_Psa_setFixed; rw [if_neg c1, if_neg c2, if_pos c3]] at h
        exact h
      ·
        rw [show f_Psa_setFixed w a0 a1 = (f_at w 24 151 a0) from by unfold f_Psa_setFixed; rw [if_neg c1, if_neg c2, if_neg c3]] at h
        rw [show g_Psa_setFixed w a0 a1 = (wr (g_put w 24 151 a0 a1) 22 11 0) from by unfold g_Psa_setFixed; rw [if_neg c1, if_neg c2, if_neg c3]] at h
        exact h
theorem gn_Psa_setFixed {w : Wd} {a0 : Int32} {a1 : Int32} {c k : Nat} (h : c ∉ [22, 24]) : g_Psa_setFixed w a0 a1 c k = w c k := by
  simp only [List.mem_cons, List.not_mem_nil, or_false, not_or] at h
  unfold g_Psa_setFixed
  repeat' split
  all_goals simp [wr, g_put_ne, h]
def f_Bk_fix (w : Wd) (a0 : Int32) (a1 : Int32) : Int32 := (f_Psa_setFixed w a0 a1)
def g_Bk_fix (w : Wd) (a0 : Int32) (a1 : Int32) : Wd := g_Psa_setFixed w a0 a1
theorem sg_Bk_fix_0 {zs : List Int32} {a0 a1 : Int32} {w : Wd} {Q : Option AV → Wd → Prop} (h : Q (some (.inl (f_Psa_setFixed w a0 a1))) (g_Psa_setFixed w a0 a1)) : Gw zs 3 m_Bk_fix 0 [some (.inr (.inl (some 0))), some (.inl a0), some (.inl a1)] [] w Q := by
  refine gw_aload_n k_Bk_fix f_Bk_fix_0 rfl ?_
  refine gw_getR k_Bk_fix f_Bk_fix_1 l_fldT_10_35 hc0 rfl ?_
  refine gw_iload_n k_Bk_fix f_Bk_fix_4 rfl ?_
  refine gw_iload_n k_Bk_fix f_Bk_fix_5 rfl ?_
  refine gw_virtual [.inl a0, .inl a1] k_Bk_fix f_Bk_fix_6 l_invT_10_143 k_Psa_setFixed hc22 rfl rfl rfl (by exact Nat.le_of_ble_eq_true rfl) (dc := 2) (by decide) ?_ rfl
  refine ev_Psa_setFixed ?_
  show Gw zs 3 m_Bk_fix 9 [some (.inr (.inl (some 0))), some (.inl a0), some (.inl a1)] [.inl (f_Psa_setFixed w a0 a1)] (g_Psa_setFixed w a0 a1) _
  exact gw_iret k_Bk_fix f_Bk_fix_9 rfl h
theorem ev_Bk_fix {zs : List Int32} {a0 a1 : Int32} {w : Wd} {Q : Option AV → Wd → Prop} (h : Q (some (.inl (f_Bk_fix w a0 a1))) (g_Bk_fix w a0 a1)) : Ew zs 3 m_Bk_fix [.inr (.inl (some 0)), .inl a0, .inl a1] w Q := by
  refine ew_of k_Bk_fix rfl (sg_Bk_fix_0 ?_)
  rw [show f_Bk_fix w a0 a1 = (f_Psa_setFixed w a0 a1) from by unfold f_Bk_fix; rfl] at h
  rw [show g_Bk_fix w a0 a1 = (g_Psa_setFixed w a0 a1) from by unfold g_Bk_fix; rfl] at h
  exact h
theorem gn_Bk_fix {w : Wd} {a0 : Int32} {a1 : Int32} {c k : Nat} (h : c ∉ [22, 24]) : g_Bk_fix w a0 a1 c k = w c k := by
  simp only [List.mem_cons, List.not_mem_nil, or_false, not_or] at h
  unfold g_Bk_fix
  repeat' split
  all_goals simp [wr, gn_Psa_setFixed, h]
