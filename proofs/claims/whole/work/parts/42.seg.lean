/-! Ways from cut to cut -/
theorem sg_Bk_roster_0 {zs : List Int32} {a0 a1 a2 : Int32} {w : Wd} {Q : Option AV → Wd → Prop} (h : (((f_Bk_within a2 1 60) = 0 → Q (some (.inl (-1))) w) ∧ (¬ ((f_Bk_within a2 1 60) = 0) → Ew zs 6 m_Alm_openAt [.inr (.inl (some 16)), .inl a0, .inl a1] w (fun v w3 => ∃ r2 : Int32, v = some (.inl r2) ∧ ((r2 = 0 → Q (some (.inl (-1))) w3) ∧ (¬ (r2 = 0) → Ew zs 6 m_Alm_openAt [.inr (.inl (some 16)), .inl a0, .inl ((a1 + a2) - 1)] w3 (fun v w6 => ∃ r5 : Int32, v = some (.inl r5) ∧ ((r5 = 0 → Q (some (.inl (-1))) w6) ∧ (¬ (r5 = 0) → Ew zs 4 m_Ros_make [.inr (.inl (some 150)), .inr (.inl (some 144)), .inr (.inl (some 16)), .inl a1, .inl a2] w6 (fun v w9 => ∃ r8 : Int32, v = some (.inl r8) ∧ Q (some (.inl r8)) w9)))))))))) : Gw zs 7 m_Bk_roster 0 [some (.inr (.inl (some 0))), some (.inl a0), some (.inl a1), some (.inl a2)] [] w Q := by
  refine gw_iload_n k_Bk_roster f_Bk_roster_0 rfl ?_
  refine gw_iconst k_Bk_roster f_Bk_roster_1 qc_1 ?_
  refine gw_bipush k_Bk_roster f_Bk_roster_2 qb_60 ?_
  refine gw_static [.inl a2, .inl 1, .inl 60] k_Bk_roster f_Bk_roster_4 l_invT_10_155 (by decide) k_Bk_within rfl (by exact Nat.le_of_ble_eq_true rfl) (dc := 0) (by decide) ?_ rfl
  refine ev_Bk_within ?_
  show Gw zs 7 m_Bk_roster 7 [some (.inr (.inl (some 0))), some (.inl a0), some (.inl a1), some (.inl a2)] [.inl (f_Bk_within a2 1 60)] w _
  refine gw_if_eq (t := 38) k_Bk_roster f_Bk_roster_7 rfl (fun c1 => ?_) (fun c1 => ?_)
  · have h := h.1 c1
    refine gw_iconst k_Bk_roster f_Bk_roster_38 qc_m1 ?_
    exact gw_iret k_Bk_roster f_Bk_roster_39 rfl h
  · have h := h.2 c1
    refine gw_aload_n k_Bk_roster f_Bk_roster_10 rfl ?_
    refine gw_getR k_Bk_roster f_Bk_roster_11 l_fldT_10_28 hc0 rfl ?_
    refine gw_iload_n k_Bk_roster f_Bk_roster_14 rfl ?_
    refine gw_iload_n k_Bk_roster f_Bk_roster_15 rfl ?_
    refine gw_virtual [.inl a0, .inl a1] k_Bk_roster f_Bk_roster_16 l_invT_10_107 k_Alm_openAt hc16 rfl rfl rfl (by exact Nat.le_of_ble_eq_true rfl) (dc := 6) (by decide) ?_ rfl
    refine h.mono (fun v w3 hh => ?_)
    obtain ⟨r2, rfl, h⟩ := hh
    show Gw zs 7 m_Bk_roster 19 [some (.inr (.inl (some 0))), some (.inl a0), some (.inl a1), some (.inl a2)] [.inl r2] w3 _
    refine gw_if_eq (t := 38) k_Bk_roster f_Bk_roster_19 rfl (fun c4 => ?_) (fun c4 => ?_)
    · have h := h.1 c4
      refine gw_iconst k_Bk_roster f_Bk_roster_38 qc_m1 ?_
      exact gw_iret k_Bk_roster f_Bk_roster_39 rfl h
    · have h := h.2 c4
      refine gw_aload_n k_Bk_roster f_Bk_roster_22 rfl ?_
      refine gw_getR k_Bk_roster f_Bk_roster_23 l_fldT_10_28 hc0 rfl ?_
      refine gw_iload_n k_Bk_roster f_Bk_roster_26 rfl ?_
      refine gw_iload_n k_Bk_roster f_Bk_roster_27 rfl ?_
      refine gw_iload_n k_Bk_roster f_Bk_roster_28 rfl ?_
      refine gw_iadd k_Bk_roster f_Bk_roster_29 ?_
      refine gw_iconst k_Bk_roster f_Bk_roster_30 qc_1 ?_
      refine gw_isub k_Bk_roster f_Bk_roster_31 ?_
      refine gw_virtual [.inl a0, .inl ((a1 + a2) - 1)] k_Bk_roster f_Bk_roster_32 l_invT_10_107 k_Alm_openAt hc16 rfl rfl rfl (by exact Nat.le_of_ble_eq_true rfl) (dc := 6) (by decide) ?_ rfl
      refine h.mono (fun v w6 hh => ?_)
      obtain ⟨r5, rfl, h⟩ := hh
      show Gw zs 7 m_Bk_roster 35 [some (.inr (.inl (some 0))), some (.inl a0), some (.inl a1), some (.inl a2)] [.inl r5] w6 _
      refine gw_if_ne (t := 40) k_Bk_roster f_Bk_roster_35 rfl (fun c7 => ?_) (fun c7 => ?_)
      · have h := h.2 c7
        refine gw_aload_n k_Bk_roster f_Bk_roster_40 rfl ?_
        refine gw_getR k_Bk_roster f_Bk_roster_41 l_fldT_10_63 hc0 rfl ?_
        refine gw_aload_n k_Bk_roster f_Bk_roster_44 rfl ?_
        refine gw_getR k_Bk_roster f_Bk_roster_45 l_fldT_10_56 hc0 rfl ?_
        refine gw_aload_n k_Bk_roster f_Bk_roster_48 rfl ?_
        refine gw_getR k_Bk_roster f_Bk_roster_49 l_fldT_10_28 hc0 rfl ?_
        refine gw_iload_n k_Bk_roster f_Bk_roster_52 rfl ?_
        refine gw_iload_n k_Bk_roster f_Bk_roster_53 rfl ?_
        refine gw_virtual [.inr (.inl (some 144)), .inr (.inl (some 16)), .inl a1, .inl a2] k_Bk_roster f_Bk_roster_54 l_invT_10_233 k_Ros_make hc150 rfl rfl rfl (by exact Nat.le_of_ble_eq_true rfl) (dc := 4) (by decide) ?_ rfl
        refine h.mono (fun v w9 hh => ?_)
        obtain ⟨r8, rfl, h⟩ := hh
        show Gw zs 7 m_Bk_roster 57 [some (.inr (.inl (some 0))), some (.inl a0), some (.inl a1), some (.inl a2)] [.inl r8] w9 _
        exact gw_iret k_Bk_roster f_Bk_roster_57 rfl h
      · have c7 := Decidable.not_not.mp c7
        have h := h.1 c7
        refine gw_iconst k_Bk_roster f_Bk_roster_38 qc_m1 ?_
        exact gw_iret k_Bk_roster f_Bk_roster_39 rfl h
theorem sg_Md_firstWeekday_0 {zs : List Int32} {a0 : Int32} {w : Wd} {Q : Option AV → Wd → Prop} (h : Gw zs 2 m_Md_firstWeekday 6 [some (.inl a0), some (.inl 1), some (.inl 1900)] [] w Q) : Gw zs 2 m_Md_firstWeekday 0 [some (.inl a0), none, none] [] w Q := by
  refine gw_iconst k_Md_firstWeekday f_Md_firstWeekday_0 qc_1 ?_
  refine gw_istore_n [some (.inl a0), some (.inl 1), none] k_Md_firstWeekday f_Md_firstWeekday_1 (Nat.le_of_ble_eq_true rfl) rfl ?_
  refine gw_sipush k_Md_firstWeekday f_Md_firstWeekday_2 qs_1900 ?_
  refine gw_istore_n [some (.inl a0), some (.inl 1), some (.inl 1900)] k_Md_firstWeekday f_Md_firstWeekday_5 (Nat.le_of_ble_eq_true rfl) rfl ?_
  exact h
theorem sg_Md_firstWeekday_6 {zs : List Int32} {x0 x1 x2 : Int32} {w : Wd} {Q : Option AV → Wd → Prop} (h : ((x0 ≤ x2 → Q (some (.inl (x1 - x1 / 7 * 7))) w) ∧ (¬ (x0 ≤ x2) → Gw zs 2 m_Md_firstWeekday 6 [some (.inl x0), some (.inl (x1 + (f_Md_daysOf x2))), some (.inl (x2 + 1))] [] w Q))) : Gw zs 2 m_Md_firstWeekday 6 [some (.inl x0), some (.inl x1), some (.inl x2)] [] w Q := by
  refine gw_iload_n k_Md_firstWeekday f_Md_firstWeekday_6 rfl ?_
  refine gw_iload_n k_Md_firstWeekday f_Md_firstWeekday_7 rfl ?_
  refine gw_icmp_ge (t := 24) k_Md_firstWeekday f_Md_firstWeekday_8 rfl (fun c1 => ?_) (fun c1 => ?_)
  · have h := h.1 c1
    refine gw_iload_n k_Md_firstWeekday f_Md_firstWeekday_24 rfl ?_
    refine gw_bipush k_Md_firstWeekday f_Md_firstWeekday_25 qb_7 ?_
    refine gw_irem k_Md_firstWeekday f_Md_firstWeekday_27 (by decide) ?_
    exact gw_iret k_Md_firstWeekday f_Md_firstWeekday_28 rfl h
  · have h := h.2 c1
    refine gw_iload_n k_Md_firstWeekday f_Md_firstWeekday_11 rfl ?_
    refine gw_iload_n k_Md_firstWeekday f_Md_firstWeekday_12 rfl ?_
    refine gw_static [.inl x2] k_Md_firstWeekday f_Md_firstWeekday_13 l_invT_11_15 (by decide) k_Md_daysOf rfl (by exact Nat.le_of_ble_eq_true rfl) (dc := 1) (by decide) ?_ rfl
    refine ev_Md_daysOf ?_
    show Gw zs 2 m_Md_firstWeekday 16 [some (.inl x0), some (.inl x1), some (.inl x2)] [.inl (f_Md_daysOf x2), .inl x1] w _
    refine gw_iadd k_Md_firstWeekday f_Md_firstWeekday_16 ?_
    refine gw_istore_n [some (.inl x0), some (.inl (x1 + (f_Md_daysOf x2))), some (.inl x2)] k_Md_firstWeekday f_Md_firstWeekday_17 (Nat.le_of_ble_eq_true rfl) rfl ?_
    refine gw_iinc [some (.inl x0), some (.inl (x1 + (f_Md_daysOf x2))), some (.inl (x2 + 1))] k_Md_firstWeekday f_Md_firstWeekday_18 rfl qc_1 (Nat.le_of_ble_eq_true rfl) rfl ?_
    refine gw_goto (t := 6) k_Md_firstWeekday f_Md_firstWeekday_21 rfl ?_
    exact h
theorem sg_Md_dayOf_0 {zs : List Int32} {a0 a1 a2 : Int32} {w : Wd} {Q : Option AV → Wd → Prop} (h : Gw zs 2 m_Md_dayOf 7 [some (.inl a0), some (.inl a1), some (.inl a2), some (.inl (a2 - 1)), some (.inl 1)] [] w Q) : Gw zs 2 m_Md_dayOf 0 [some (.inl a0), some (.inl a1), some (.inl a2), none, none] [] w Q := by
  refine gw_iload_n k_Md_dayOf f_Md_dayOf_0 rfl ?_
  refine gw_iconst k_Md_dayOf f_Md_dayOf_1 qc_1 ?_
  refine gw_isub k_Md_dayOf f_Md_dayOf_2 ?_
  refine gw_istore_n [some (.inl a0), some (.inl a1), some (.inl a2), some (.inl (a2 - 1)), none] k_Md_dayOf f_Md_dayOf_3 (Nat.le_of_ble_eq_true rfl) rfl ?_
  refine gw_iconst k_Md_dayOf f_Md_dayOf_4 qc_1 ?_
  refine gw_istore [some (.inl a0), some (.inl a1), some (.inl a2), some (.inl (a2 - 1)), some (.inl 1)] k_Md_dayOf f_Md_dayOf_5 (Nat.le_of_ble_eq_true rfl) rfl ?_
  exact h
theorem sg_Md_dayOf_7 {zs : List Int32} {x0 x1 x3 x4 : Int32} {o2 : Option AV} {w : Wd} {Q : Option AV → Wd → Prop} (h : ((x1 ≤ x4 → Q (some (.inl x3)) w) ∧ (¬ (x1 ≤ x4) → Gw zs 2 m_Md_dayOf 7 [some (.inl x0), some (.inl x1), o2, some (.inl (x3 + (f_Md_daysIn x0 x4))), some (.inl (x4 + 1))] [] w Q))) : Gw zs 2 m_Md_dayOf 7 [some (.inl x0), some (.inl x1), o2, some (.inl x3), some (.inl x4)] [] w Q := by
  refine gw_iload k_Md_dayOf f_Md_dayOf_7 rfl ?_
  refine gw_iload_n k_Md_dayOf f_Md_dayOf_9 rfl ?_
  refine gw_icmp_ge (t := 28) k_Md_dayOf f_Md_dayOf_10 rfl (fun c1 => ?_) (fun c1 => ?_)
  · have h := h.1 c1
    refine gw_iload_n k_Md_dayOf f_Md_dayOf_28 rfl ?_
    exact gw_iret k_Md_dayOf f_Md_dayOf_29 rfl h
  · have h := h.2 c1
    refine gw_iload_n k_Md_dayOf f_Md_dayOf_13 rfl ?_
    refine gw_iload_n k_Md_dayOf f_Md_dayOf_14 rfl ?_
    refine gw_iload k_Md_dayOf f_Md_dayOf_15 rfl ?_
    refine gw_static [.inl x0, .inl x4] k_Md_dayOf f_Md_dayOf_17 l_invT_11_11 (by decide) k_Md_daysIn rfl (by exact Nat.le_of_ble_eq_true rfl) (dc := 1) (by decide) ?_ rfl
    refine ev_Md_daysIn ?_
    show Gw zs 2 m_Md_dayOf 20 [some (.inl x0), some (.inl x1), o2, some (.inl x3), some (.inl x4)] [.inl (f_Md_daysIn x0 x4), .inl x3] w _
    refine gw_iadd k_Md_dayOf f_Md_dayOf_20 ?_
    refine gw_istore_n [some (.inl x0), some (.inl x1), o2, some (.inl (x3 + (f_Md_daysIn x0 x4))), some (.inl x4)] k_Md_dayOf f_Md_dayOf_21 (Nat.le_of_ble_eq_true rfl) rfl ?_
    refine gw_iinc [some (.inl x0), some (.inl x1), o2, some (.inl (x3 + (f_Md_daysIn x0 x4))), some (.inl (x4 + 1))] k_Md_dayOf f_Md_dayOf_22 rfl qc_1 (Nat.le_of_ble_eq_true rfl) rfl ?_
    refine gw_goto (t := 7) k_Md_dayOf f_Md_dayOf_25 rfl ?_
    exact h
theorem sg_Md_easter_0 {zs : List Int32} {a0 : Int32} {w : Wd} {Q : Option AV → Wd → Prop} (h : Ew zs 2 m_Md_dayOf [.inl a0, .inl ((((((((((19 * (a0 - a0 / 19 * 19)) + (a0 / 100)) - ((a0 / 100) / 4)) - ((((a0 / 100) - (((a0 / 100) + 8) / 25)) + 1) / 3)) + 15) - (((((19 * (a0 - a0 / 19 * 19)) + (a0 / 100)) - ((a0 / 100) / 4)) - ((((a0 / 100) - (((a0 / 100) + 8) / 25)) + 1) / 3)) + 15) / 30 * 30) + (((((32 + (2 * ((a0 / 100) - (a0 / 100) / 4 * 4))) + (2 * ((a0 - a0 / 100 * 100) / 4))) - ((((((19 * (a0 - a0 / 19 * 19)) + (a0 / 100)) - ((a0 / 100) / 4)) - ((((a0 / 100) - (((a0 / 100) + 8) / 25)) + 1) / 3)) + 15) - (((((19 * (a0 - a0 / 19 * 19)) + (a0 / 100)) - ((a0 / 100) / 4)) - ((((a0 / 100) - (((a0 / 100) + 8) / 25)) + 1) / 3)) + 15) / 30 * 30)) - ((a0 - a0 / 100 * 100) - (a0 - a0 / 100 * 100) / 4 * 4)) - ((((32 + (2 * ((a0 / 100) - (a0 / 100) / 4 * 4))) + (2 * ((a0 - a0 / 100 * 100) / 4))) - ((((((19 * (a0 - a0 / 19 * 19)) + (a0 / 100)) - ((a0 / 100) / 4)) - ((((a0 / 100) - (((a0 / 100) + 8) / 25)) + 1) / 3)) + 15) - (((((19 * (a0 - a0 / 19 * 19)) + (a0 / 100)) - ((a0 / 100) / 4)) - ((((a0 / 100) - (((a0 / 100) + 8) / 25)) + 1) / 3)) + 15) / 30 * 30)) - ((a0 - a0 / 100 * 100) - (a0 - a0 / 100 * 100) / 4 * 4)) / 7 * 7)) - (7 * ((((a0 - a0 / 19 * 19) + (11 * ((((((19 * (a0 - a0 / 19 * 19)) + (a0 / 100)) - ((a0 / 100) / 4)) - ((((a0 / 100) - (((a0 / 100) + 8) / 25)) + 1) / 3)) + 15) - (((((19 * (a0 - a0 / 19 * 19)) + (a0 / 100)) - ((a0 / 100) / 4)) - ((((a0 / 100) - (((a0 / 100) + 8) / 25)) + 1) / 3)) + 15) / 30 * 30))) + (22 * (((((32 + (2 * ((a0 / 100) - (a0 / 100) / 4 * 4))) + (2 * ((a0 - a0 / 100 * 100) / 4))) - ((((((19 * (a0 - a0 / 19 * 19)) + (a0 / 100)) - ((a0 / 100) / 4)) - ((((a0 / 100) - (((a0 / 100) + 8) / 25)) + 1) / 3)) + 15) - (((((19 * (a0 - a0 / 19 * 19)) + (a0 / 100)) - ((a0 / 100) / 4)) - ((((a0 / 100) - (((a0 / 100) + 8) / 25)) + 1) / 3)) + 15) / 30 * 30)) - ((a0 - a0 / 100 * 100) - (a0 - a0 / 100 * 100) / 4 * 4)) - ((((32 + (2 * ((a0 / 100) - (a0 / 100) / 4 * 4))) + (2 * ((a0 - a0 / 100 * 100) / 4))) - ((((((19 * (a0 - a0 / 19 * 19)) + (a0 / 100)) - ((a0 / 100) / 4)) - ((((a0 / 100) - (((a0 / 100) + 8) / 25)) + 1) / 3)) + 15) - (((((19 * (a0 - a0 / 19 * 19)) + (a0 / 100)) - ((a0 / 100) / 4)) - ((((a0 / 100) - (((a0 / 100) + 8) / 25)) + 1) / 3)) + 15) / 30 * 30)) - ((a0 - a0 / 100 * 100) - (a0 - a0 / 100 * 100) / 4 * 4)) / 7 * 7))) / 451))) + 114) / 31), .inl (((((((((((19 * (a0 - a0 / 19 * 19)) + (a0 / 100)) - ((a0 / 100) / 4)) - ((((a0 / 100) - (((a0 / 100) + 8) / 25)) + 1) / 3)) + 15) - (((((19 * (a0 - a0 / 19 * 19)) + (a0 / 100)) - ((a0 / 100) / 4)) - ((((a0 / 100) - (((a0 / 100) + 8) / 25)) + 1) / 3)) + 15) / 30 * 30) + (((((32 + (2 * ((a0 / 100) - (a0 / 100) / 4 * 4))) + (2 * ((a0 - a0 / 100 * 100) / 4))) - ((((((19 * (a0 - a0 / 19 * 19)) + (a0 / 100)) - ((a0 / 100) / 4)) - ((((a0 / 100) - (((a0 / 100) + 8) / 25)) + 1) / 3)) + 15) - (((((19 * (a0 - a0 / 19 * 19)) + (a0 / 100)) - ((a0 / 100) / 4)) - ((((a0 / 100) - (((a0 / 100) + 8) / 25)) + 1) / 3)) + 15) / 30 * 30)) - ((a0 - a0 / 100 * 100) - (a0 - a0 / 100 * 100) / 4 * 4)) - ((((32 + (2 * ((a0 / 100) - (a0 / 100) / 4 * 4))) + (2 * ((a0 - a0 / 100 * 100) / 4))) - ((((((19 * (a0 - a0 / 19 * 19)) + (a0 / 100)) - ((a0 / 100) / 4)) - ((((a0 / 100) - (((a0 / 100) + 8) / 25)) + 1) / 3)) + 15) - (((((19 * (a0 - a0 / 19 * 19)) + (a0 / 100)) - ((a0 / 100) / 4)) - ((((a0 / 100) - (((a0 / 100) + 8) / 25)) + 1) / 3)) + 15) / 30 * 30)) - ((a0 - a0 / 100 * 100) - (a0 - a0 / 100 * 100) / 4 * 4)) / 7 * 7)) - (7 * ((((a0 - a0 / 19 * 19) + (11 * ((((((19 * (a0 - a0 / 19 * 19)) + (a0 / 100)) - ((a0 / 100) / 4)) - ((((a0 / 100) - (((a0 / 100) + 8) / 25)) + 1) / 3)) + 15) - (((((19 * (a0 - a0 / 19 * 19)) + (a0 / 100)) - ((a0 / 100) / 4)) - ((((a0 / 100) - (((a0 / 100) + 8) / 25)) + 1) / 3)) + 15) / 30 * 30))) + (22 * (((((32 + (2 * ((a0 / 100) - (a0 / 100) / 4 * 4))) + (2 * ((a0 - a0 / 100 * 100) / 4))) - ((((((19 * (a0 - a0 / 19 * 19)) + (a0 / 100)) - ((a0 / 100) / 4)) - ((((a0 / 100) - (((a0 / 100) + 8) / 25)) + 1) / 3)) + 15) - (((((19 * (a0 - a0 / 19 * 19)) + (a0 / 100)) - ((a0 / 100) / 4)) - ((((a0 / 100) - (((a0 / 100) + 8) / 25)) + 1) / 3)) + 15) / 30 * 30)) - ((a0 - a0 / 100 * 100) - (a0 - a0 / 100 * 100) / 4 * 4)) - ((((32 + (2 * ((a0 / 100) - (a0 / 100) / 4 * 4))) + (2 * ((a0 - a0 / 100 * 100) / 4))) - ((((((19 * (a0 - a0 / 19 * 19)) + (a0 / 100)) - ((a0 / 100) / 4)) - ((((a0 / 100) - (((a0 / 100) + 8) / 25)) + 1) / 3)) + 15) - (((((19 * (a0 - a0 / 19 * 19)) + (a0 / 100)) - ((a0 / 100) / 4)) - ((((a0 / 100) - (((a0 / 100) + 8) / 25)) + 1) / 3)) + 15) / 30 * 30)) - ((a0 - a0 / 100 * 100) - (a0 - a0 / 100 * 100) / 4 * 4)) / 7 * 7))) / 451))) + 114) - (((((((((19 * (a0 - a0 / 19 * 19)) + (a0 / 100)) - ((a0 / 100) / 4)) - ((((a0 / 100) - (((a0 / 100) + 8) / 25)) + 1) / 3)) + 15) - (((((19 * (a0 - a0 / 19 * 19)) + (a0 / 100)) - ((a0 / 100) / 4)) - ((((a0 / 100) - (((a0 / 100) + 8) / 25)) + 1) / 3)) + 15) / 30 * 30) + (((((32 + (2 * ((a0 / 100) - (a0 / 100) / 4 * 4))) + (2 * ((a0 - a0 / 100 * 100) / 4))) - ((((((19 * (a0 - a0 / 19 * 19)) + (a0 / 100)) - ((a0 / 100) / 4)) - ((((a0 / 100) - (((a0 / 100) + 8) / 25)) + 1) / 3)) + 15) - (((((19 * (a0 - a0 / 19 * 19)) + (a0 / 100)) - ((a0 / 100) / 4)) - ((((a0 / 100) - (((a0 / 100) + 8) / 25)) + 1) / 3)) + 15) / 30 * 30)) - ((a0 - a0 / 100 * 100) - (a0 - a0 / 100 * 100) / 4 * 4)) - ((((32 + (2 * ((a0 / 100) - (a0 / 100) / 4 * 4))) + (2 * ((a0 - a0 / 100 * 100) / 4))) - ((((((19 * (a0 - a0 / 19 * 19)) + (a0 / 100)) - ((a0 / 100) / 4)) - ((((a0 / 100) - (((a0 / 100) + 8) / 25)) + 1) / 3)) + 15) - (((((19 * (a0 - a0 / 19 * 19)) + (a0 / 100)) - ((a0 / 100) / 4)) - ((((a0 / 100) - (((a0 / 100) + 8) / 25)) + 1) / 3)) + 15) / 30 * 30)) - ((a0 - a0 / 100 * 100) - (a0 - a0 / 100 * 100) / 4 * 4)) / 7 * 7)) - (7 * ((((a0 - a0 / 19 * 19) + (11 * ((((((19 * (a0 - a0 / 19 * 19)) + (a0 / 100)) - ((a0 / 100) / 4)) - ((((a0 / 100) - (((a0 / 100) + 8) / 25)) + 1) / 3)) + 15) - (((((19 * (a0 - a0 / 19 * 19)) + (a0 / 100)) - ((a0 / 100) / 4)) - ((((a0 / 100) - (((a0 / 100) + 8) / 25)) + 1) / 3)) + 15) / 30 * 30))) + (22 * (((((32 + (2 * ((a0 / 100) - (a0 / 100) / 4 * 4))) + (2 * ((a0 - a0 / 100 * 100) / 4))) - ((((((19 * (a0 - a0 / 19 * 19)) + (a0 / 100)) - ((a0 / 100) / 4)) - ((((a0 / 100) - (((a0 / 100) + 8) / 25)) + 1) / 3)) + 15) - (((((19 * (a0 - a0 / 19 * 19)) + (a0 / 100)) - ((a0 / 100) / 4)) - ((((a0 / 100) - (((a0 / 100) + 8) / 25)) + 1) / 3)) + 15) / 30 * 30)) - ((a0 - a0 / 100 * 100) - (a0 - a0 / 100 * 100) / 4 * 4)) - ((((32 + (2 * ((a0 / 100) - (a0 / 100) / 4 * 4))) + (2 * ((a0 - a0 / 100 * 100) / 4))) - ((((((19 * (a0 - a0 / 19 * 19)) + (a0 / 100)) - ((a0 / 100) / 4)) - ((((a0 / 100) - (((a0 / 100) + 8) / 25)) + 1) / 3)) + 15) - (((((19 * (a0 - a0 / 19 * 19)) + (a0 / 100)) - ((a0 / 100) / 4)) - ((((a0 / 100) - (((a0 / 100) + 8) / 25)) + 1) / 3)) + 15) / 30 * 30)) - ((a0 - a0 / 100 * 100) - (a0 - a0 / 100 * 100) / 4 * 4)) / 7 * 7))) / 451))) + 114) / 31 * 31) + 1)] w (fun v w2 => ∃ r1 : Int32, v = some (.inl r1) ∧ Q (some (.inl r1)) w2)) : Gw zs 3 m_Md_easter 0 [some (.inl a0), none, none, none, none, none, none] [] w Q := by
  refine gw_iload_n k_Md_easter f_Md_easter_0 rfl ?_
  refine gw_bipush k_Md_easter f_Md_easter_1 qb_19 ?_
  refine gw_irem k_Md_easter f_Md_easter_3 (by decide) ?_
  refine gw_istore_n [some (.inl a0), some (.inl (a0 - a0 / 19 * 19)), none, none, none, none, none] k_Md_easter f_Md_easter_4 (Nat.le_of_ble_eq_true rfl) rfl ?_
  refine gw_iload_n k_Md_easter f_Md_easter_5 rfl ?_
  refine gw_bipush k_Md_easter f_Md_easter_6 qb_100 ?_
  refine gw_idiv k_Md_easter f_Md_easter_8 (by decide) ?_
  refine gw_istore_n [some (.inl a0), some (.inl (a0 - a0 / 19 * 19)), some (.inl (a0 / 100)), none, none, none, none] k_Md_easter f_Md_easter_9 (Nat.le_of_ble_eq_true rfl) rfl ?_
  refine gw_iload_n k_Md_easter f_Md_easter_10 rfl ?_
  refine gw_bipush k_Md_easter f_Md_easter_11 qb_100 ?_
  refine gw_irem k_Md_easter f_Md_easter_13 (by decide) ?_
  refine gw_istore_n [some (.inl a0), some (.inl (a0 - a0 / 19 * 19)), some (.inl (a0 / 100)), some (.inl (a0 - a0 / 100 * 100)), none, none, none] k_Md_easter f_Md_easter_14 (Nat.le_of_ble_eq_true rfl) rfl ?_
  refine gw_bipush k_Md_easter f_Md_easter_15 qb_19 ?_
  refine gw_iload_n k_Md_easter f_Md_easter_17 rfl ?_
  refine gw_imul k_Md_easter f_Md_easter_18 ?_
  refine gw_iload_n k_Md_easter f_Md_easter_19 rfl ?_
  refine gw_iadd k_Md_easter f_Md_easter_20 ?_
  refine gw_iload_n k_Md_easter f_Md_easter_21 rfl ?_
  refine gw_iconst k_Md_easter f_Md_easter_22 qc_4 ?_
  refine gw_idiv k_Md_easter f_Md_easter_23 (by decide) ?_
  refine gw_isub k_Md_easter f_Md_easter_24 ?_
  refine gw_iload_n k_Md_easter f_Md_easter_25 rfl ?_
  refine gw_iload_n k_Md_easter f_Md_easter_26 rfl ?_
  refine gw_bipush k_Md_easter f_Md_easter_27 qb_8 ?_
  refine gw_iadd k_Md_easter f_Md_easter_29 ?_
  refine gw_bipush k_Md_easter f_Md_easter_30 qb_25 ?_
  refine gw_idiv k_Md_easter f_Md_easter_32 (by decide) ?_
  refine gw_isub k_Md_easter f_Md_easter_33 ?_
  refine gw_iconst k_Md_easter f_Md_easter_34 qc_1 ?_
  refine gw_iadd k_Md_easter f_Md_easter_35 ?_
  refine gw_iconst k_Md_easter f_Md_easter_36 qc_3 ?_
  refine gw_idiv k_Md_easter f_Md_easter_37 (by decide) ?_
  refine gw_isub k_Md_easter f_Md_easter_38 ?_
  refine gw_bipush k_Md_easter f_Md_easter_39 qb_15 ?_
  refine gw_iadd k_Md_easter f_Md_easter_41 ?_
  refine gw_bipush k_Md_easter f_Md_easter_42 qb_30 ?_
  refine gw_irem k_Md_easter f_Md_easter_44 (by decide) ?_
  refine gw_istore [some (.inl a0), some (.inl (a0 - a0 / 19 * 19)), some (.inl (a0 / 100)), some (.inl (a0 - a0 / 100 * 100)), some (.inl ((((((19 * (a0 - a0 / 19 * 19)) + (a0 / 100)) - ((a0 / 100) / 4)) - ((((a0 / 100) - (((a0 / 100) + 8) / 25)) + 1) / 3)) + 15) - (((((19 * (a0 - a0 / 19 * 19)) + (a0 / 100)) - ((a0 / 100) / 4)) - ((((a0 / 100) - (((a0 / 100) + 8) / 25)) + 1) / 3)) + 15) / 30 * 30)), none, none] k_Md_easter f_Md_easter_45 (Nat.le_of_ble_eq_true rfl) rfl ?_
  refine gw_bipush k_Md_easter f_Md_easter_47 qb_32 ?_
  refine gw_iconst k_Md_easter f_Md_easter_49 qc_2 ?_
  refine gw_iload_n k_Md_easter f_Md_easter_50 rfl ?_
  refine gw_iconst k_Md_easter f_Md_easter_51 qc_4 ?_
  refine gw_irem k_Md_easter f_Md_easter_52 (by decide) ?_
  refine gw_imul k_Md_easter f_Md_easter_53 ?_
  refine gw_iadd k_Md_easter f_Md_easter_54 ?_
  refine gw_iconst k_Md_easter f_Md_easter_55 qc_2 ?_
  refine gw_iload_n k_Md_easter f_Md_easter_56 rfl ?_
  refine gw_iconst k_Md_easter f_Md_easter_57 qc_4 ?_
  refine gw_idiv k_Md_easter f_Md_easter_58 (by decide) ?_
  refine gw_imul k_Md_easter f_Md_easter_59 ?_
  refine gw_iadd k_Md_easter f_Md_easter_60 ?_
  refine gw_iload k_Md_easter f_Md_easter_61 rfl ?_
  refine gw_isub k_Md_easter f_Md_easter_63 ?_
  refine gw_iload_n k_Md_easter f_Md_easter_64 rfl ?_
  refine gw_iconst k_Md_easter f_Md_easter_65 qc_4 ?_
  refine gw_irem k_Md_easter f_Md_easter_66 (by decide) ?_
  refine gw_isub k_Md_easter f_Md_easter_67 ?_
  refine gw_bipush k_Md_easter f_Md_easter_68 qb_7 ?_
  refine gw_irem k_Md_easter f_Md_easter_70 (by decide) ?_
  refine gw_istore [some (.inl a0), some (.inl (a0 - a0 / 19 * 19)), some (.inl (a0 / 100)), some (.inl (a0 - a0 / 100 * 100)), some (.inl ((((((19 * (a0 - a0 / 19 * 19)) + (a0 / 100)) - ((a0 / 100) / 4)) - ((((a0 / 100) - (((a0 / 100) + 8) / 25)) + 1) / 3)) + 15) - (((((19 * (a0 - a0 / 19 * 19)) + (a0 / 100)) - ((a0 / 100) / 4)) - ((((a0 / 100) - (((a0 / 100) + 8) / 25)) + 1) / 3)) + 15) / 30 * 30)), some (.inl (((((32 + (2 * ((a0 / 100) - (a0 / 100) / 4 * 4))) + (2 * ((a0 - a0 / 100 * 100) / 4))) - ((((((19 * (a0 - a0 / 19 * 19)) + (a0 / 100)) - ((a0 / 100) / 4)) - ((((a0 / 100) - (((a0 / 100) + 8) / 25)) + 1) / 3)) + 15) - (((((19 * (a0 - a0 / 19 * 19)) + (a0 / 100)) - ((a0 / 100) / 4)) - ((((a0 / 100) - (((a0 / 100) + 8) / 25)) + 1) / 3)) + 15) / 30 * 30)) - ((a0 - a0 / 100 * 100) - (a0 - a0 / 100 * 100) / 4 * 4)) - ((((32 + (2 * ((a0 / 100) - (a0 / 100) / 4 * 4))) + (2 * ((a0 - a0 / 100 * 100) / 4))) - ((((((19 * (a0 - a0 / 19 * 19)) + (a0 / 100)) - ((a0 / 100) / 4)) - ((((a0 / 100) - (((a0 / 100) + 8) / 25)) + 1) / 3)) + 15) - (((((19 * (a0 - a0 / 19 * 19)) + (a0 / 100)) - ((a0 / 100) / 4)) - ((((a0 / 100) - (((a0 / 100) + 8) / 25)) + 1) / 3)) + 15) / 30 * 30)) - ((a0 - a0 / 100 * 100) - (a0 - a0 / 100 * 100) / 4 * 4)) / 7 * 7)), none] k_Md_easter f_Md_easter_71 (Nat.le_of_ble_eq_true rfl) rfl ?_
  refine gw_iload k_Md_easter f_Md_easter_73 rfl ?_
  refine gw_iload k_Md_easter f_Md_easter_75 rfl ?_
  refine gw_iadd k_Md_easter f_Md_easter_77 ?_
  refine gw_bipush k_Md_easter f_Md_easter_78 qb_7 ?_
  refine gw_iload_n k_Md_easter f_Md_easter_80 rfl ?_
  refine gw_bipush k_Md_easter f_Md_easter_81 qb_11 ?_
  refine gw_iload k_Md_easter f_Md_easter_83 rfl ?_
  refine gw_imul k_Md_easter f_Md_easter_85 ?_
  refine gw_iadd k_Md_easter f_Md_easter_86 ?_
  refine gw_bipush k_Md_easter f_Md_easter_87 qb_22 ?_
  refine gw_iload k_Md_easter f_Md_easter_89 rfl ?_
  refine gw_imul k_Md_easter f_Md_easter_91 ?_
  refine gw_iadd k_Md_easter f_Md_easter_92 ?_
  refine gw_sipush k_Md_easter f_Md_easter_93 qs_451 ?_
  refine gw_idiv k_Md_easter f_Md_easter_96 (by decide) ?_
  refine gw_imul k_Md_easter f_Md_easter_97 ?_
  refine gw_isub k_Md_easter f_Md_easter_98 ?_
  refine gw_bipush k_Md_easter f_Md_easter_99 qb_114 ?_
  refine gw_iadd k_Md_easter f_Md_easter_101 ?_
  refine gw_istore [some (.inl a0), some (.inl (a0 - a0 / 19 * 19)), some (.inl (a0 / 100)), some (.inl (a0 - a0 / 100 * 100)), some (.inl ((((((19 * (a0 - a0 / 19 * 19)) + (a0 / 100)) - ((a0 / 100) / 4)) - ((((a0 / 100) - (((a0 / 100) + 8) / 25)) + 1) / 3)) + 15) - (((((19 * (a0 - a0 / 19 * 19)) + (a0 / 100)) - ((a0 / 100) / 4)) - ((((a0 / 100) - (((a0 / 100) + 8) / 25)) + 1) / 3)) + 15) / 30 * 30)), some (.inl (((((32 + (2 * ((a0 / 100) - (a0 / 100) / 4 * 4))) + (2 * ((a0 - a0 / 100 * 100) / 4))) - ((((((19 * (a0 - a0 / 19 * 19)) + (a0 / 100)) - ((a0 / 100) / 4)) - ((((a0 / 100) - (((a0 / 100) + 8) / 25)) + 1) / 3)) + 15) - (((((19 * (a0 - a0 / 19 * 19)) + (a0 / 100)) - ((a0 / 100) / 4)) - ((((a0 / 100) - (((a0 / 100) + 8) / 25)) + 1) / 3)) + 15) / 30 * 30)) - ((a0 - a0 / 100 * 100) - (a0 - a0 / 100 * 100) / 4 * 4)) - ((((32 + (2 * ((a0 / 100) - (a0 / 100) / 4 * 4))) + (2 * ((a0 - a0 / 100 * 100) / 4))) - ((((((19 * (a0 - a0 / 19 * 19)) + (a0 / 100)) - ((a0 / 100) / 4)) - ((((a0 / 100) - (((a0 / 100) + 8) / 25)) + 1) / 3)) + 15) - (((((19 * (a0 - a0 / 19 * 19)) + (a0 / 100)) - ((a0 / 100) / 4)) - ((((a0 / 100) - (((a0 / 100) + 8) / 25)) + 1) / 3)) + 15) / 30 * 30)) - ((a0 - a0 / 100 * 100) - (a0 - a0 / 100 * 100) / 4 * 4)) / 7 * 7)), some (.inl (((((((((19 * (a0 - a0 / 19 * 19)) + (a0 / 100)) - ((a0 / 100) / 4)) - ((((a0 / 100) - (((a0 / 100) + 8) / 25)) + 1) / 3)) + 15) - (((((19 * (a0 - a0 / 19 * 19)) + (a0 / 100)) - ((a0 / 100) / 4)) - ((((a0 / 100) - (((a0 / 100) + 8) / 25)) + 1) / 3)) + 15) / 30 * 30) + (((((32 + (2 * ((a0 / 100) - (a0 / 100) / 4 * 4))) + (2 * ((a0 - a0 / 100 * 100) / 4))) - ((((((19 * (a0 - a0 / 19 * 19)) + (a0 / 100)) - ((a0 / 100) / 4)) - ((((a0 / 100) - (((a0 / 100) + 8) / 25)) + 1) / 3)) + 15) - (((((19 * (a0 - a0 / 19 * 19)) + (a0 / 100)) - ((a0 / 100) / 4)) - ((((a0 / 100) - (((a0 / 100) + 8) / 25)) + 1) / 3)) + 15) / 30 * 30)) - ((a0 - a0 / 100 * 100) - (a0 - a0 / 100 * 100) / 4 * 4)) - ((((32 + (2 * ((a0 / 100) - (a0 / 100) / 4 * 4))) + (2 * ((a0 - a0 / 100 * 100) / 4))) - ((((((19 * (a0 - a0 / 19 * 19)) + (a0 / 100)) - ((a0 / 100) / 4)) - ((((a0 / 100) - (((a0 / 100) + 8) / 25)) + 1) / 3)) + 15) - (((((19 * (a0 - a0 / 19 * 19)) + (a0 / 100)) - ((a0 / 100) / 4)) - ((((a0 / 100) - (((a0 / 100) + 8) / 25)) + 1) / 3)) + 15) / 30 * 30)) - ((a0 - a0 / 100 * 100) - (a0 - a0 / 100 * 100) / 4 * 4)) / 7 * 7)) - (7 * ((((a0 - a0 / 19 * 19) + (11 * ((((((19 * (a0 - a0 / 19 * 19)) + (a0 / 100)) - ((a0 / 100) / 4)) - ((((a0 / 100) - (((a0 / 100) + 8) / 25)) + 1) / 3)) + 15) - (((((19 * (a0 - a0 / 19 * 19)) + (a0 / 100)) - ((a0 / 100) / 4)) - ((((a0 / 100) - (((a0 / 100) + 8) / 25)) + 1) / 3)) + 15) / 30 * 30))) + (22 * (((((32 + (2 * ((a0 / 100) - (a0 / 100) / 4 * 4))) + (2 * ((a0 - a0 / 100 * 100) / 4))) - ((((((19 * (a0 - a0 / 19 * 19)) + (a0 / 100)) - ((a0 / 100) / 4)) - ((((a0 / 100) - (((a0 / 100) + 8) / 25)) + 1) / 3)) + 15) - (((((19 * (a0 - a0 / 19 * 19)) + (a0 / 100)) - ((a0 / 100) / 4)) - ((((a0 / 100) - (((a0 / 100) + 8) / 25)) + 1) / 3)) + 15) / 30 * 30)) - ((a0 - a0 / 100 * 100) - (a0 - a0 / 100 * 100) / 4 * 4)) - ((((32 + (2 * ((a0 / 100) - (a0 / 100) / 4 * 4))) + (2 * ((a0 - a0 / 100 * 100) / 4))) - ((((((19 * (a0 - a0 / 19 * 19)) + (a0 / 100)) - ((a0 / 100) / 4)) - ((((a0 / 100) - (((a0 / 100) + 8) / 25)) + 1) / 3)) + 15) - (((((19 * (a0 - a0 / 19 * 19)) + (a0 / 100)) - ((a0 / 100) / 4)) - ((((a0 / 100) - (((a0 / 100) + 8) / 25)) + 1) / 3)) + 15) / 30 * 30)) - ((a0 - a0 / 100 * 100) - (a0 - a0 / 100 * 100) / 4 * 4)) / 7 * 7))) / 451))) + 114))] k_Md_easter f_Md_easter_102 (Nat.le_of_ble_eq_true rfl) rfl ?_
  refine gw_iload_n k_Md_easter f_Md_easter_104 rfl ?_
  refine gw_iload k_Md_easter f_Md_easter_105 rfl ?_
  refine gw_bipush k_Md_easter f_Md_easter_107 qb_31 ?_
  refine gw_idiv k_Md_easter f_Md_easter_109 (by decide) ?_
  refine gw_iload k_Md_easter f_Md_easter_110 rfl ?_
  refine gw_bipush k_Md_easter f_Md_easter_112 qb_31 ?_
  refine gw_irem k_Md_easter f_Md_easter_114 (by decide) ?_
  refine gw_iconst k_Md_easter f_Md_easter_115 qc_1 ?_
  refine gw_iadd k_Md_easter f_Md_easter_116 ?_
  refine gw_static [.inl a0, .inl ((((((((((19 * (a0 - a0 / 19 * 19)) + (a0 / 100)) - ((a0 / 100) / 4)) - ((((a0 / 100) - (((a0 / 100) + 8) / 25)) + 1) / 3)) + 15) - (((((19 * (a0 - a0 / 19 * 19)) + (a0 / 100)) - ((a0 / 100) / 4)) - ((((a0 / 100) - (((a0 / 100) + 8) / 25)) + 1) / 3)) + 15) / 30 * 30) + (((((32 + (2 * ((a0 / 100) - (a0 / 100) / 4 * 4))) + (2 * ((a0 - a0 / 100 * 100) / 4))) - ((((((19 * (a0 - a0 / 19 * 19)) + (a0 / 100)) - ((a0 / 100) / 4)) - ((((a0 / 100) - (((a0 / 100) + 8) / 25)) + 1) / 3)) + 15) - (((((19 * (a0 - a0 / 19 * 19)) + (a0 / 100)) - ((a0 / 100) / 4)) - ((((a0 / 100) - (((a0 / 100) + 8) / 25)) + 1) / 3)) + 15) / 30 * 30)) - ((a0 - a0 / 100 * 100) - (a0 - a0 / 100 * 100) / 4 * 4)) - ((((32 + (2 * ((a0 / 100) - (a0 / 100) / 4 * 4))) + (2 * ((a0 - a0 / 100 * 100) / 4))) - ((((((19 * (a0 - a0 / 19 * 19)) + (a0 / 100)) - ((a0 / 100) / 4)) - ((((a0 / 100) - (((a0 / 100) + 8) / 25)) + 1) / 3)) + 15) - (((((19 * (a0 - a0 / 19 * 19)) + (a0 / 100)) - ((a0 / 100) / 4)) - ((((a0 / 100) - (((a0 / 100) + 8) / 25)) + 1) / 3)) + 15) / 30 * 30)) - ((a0 - a0 / 100 * 100) - (a0 - a0 / 100 * 100) / 4 * 4)) / 7 * 7)) - (7 * ((((a0 - a0 / 19 * 19) + (11 * ((((((19 * (a0 - a0 / 19 * 19)) + (a0 / 100)) - ((a0 / 100) / 4)) - ((((a0 / 100) - (((a0 / 100) + 8) / 25)) + 1) / 3)) + 15) - (((((19 * (a0 - a0 / 19 * 19)) + (a0 / 100)) - ((a0 / 100) / 4)) - ((((a0 / 100) - (((a0 / 100) + 8) / 25)) + 1) / 3)) + 15) / 30 * 30))) + (22 * (((((32 + (2 * ((a0 / 100) - (a0 / 100) / 4 * 4))) + (2 * ((a0 - a0 / 100 * 100) / 4))) - ((((((19 * (a0 - a0 / 19 * 19)) + (a0 / 100)) - ((a0 / 100) / 4)) - ((((a0 / 100) - (((a0 / 100) + 8) / 25)) + 1) / 3)) + 15) - (((((19 * (a0 - a0 / 19 * 19)) + (a0 / 100)) - ((a0 / 100) / 4)) - ((((a0 / 100) - (((a0 / 100) + 8) / 25)) + 1) / 3)) + 15) / 30 * 30)) - ((a0 - a0 / 100 * 100) - (a0 - a0 / 100 * 100) / 4 * 4)) - ((((32 + (2 * ((a0 / 100) - (a0 / 100) / 4 * 4))) + (2 * ((a0 - a0 / 100 * 100) / 4))) - ((((((19 * (a0 - a0 / 19 * 19)) + (a0 / 100)) - ((a0 / 100) / 4)) - ((((a0 / 100) - (((a0 / 100) + 8) / 25)) + 1) / 3)) + 15) - (((((19 * (a0 - a0 / 19 * 19)) + (a0 / 100)) - ((a0 / 100) / 4)) - ((((a0 / 100) - (((a0 / 100) + 8) / 25)) + 1) / 3)) + 15) / 30 * 30)) - ((a0 - a0 / 100 * 100) - (a0 - a0 / 100 * 100) / 4 * 4)) / 7 * 7))) / 451))) + 114) / 31), .inl (((((((((((19 * (a0 - a0 / 19 * 19)) + (a0 / 100)) - ((a0 / 100) / 4)) - ((((a0 / 100) - (((a0 / 100) + 8) / 25)) + 1) / 3)) + 15) - (((((19 * (a0 - a0 / 19 * 19)) + (a0 / 100)) - ((a0 / 100) / 4)) - ((((a0 / 100) - (((a0 / 100) + 8) / 25)) + 1) / 3)) + 15) / 30 * 30) + (((((32 + (2 * ((a0 / 100) - (a0 / 100) / 4 * 4))) + (2 * ((a0 - a0 / 100 * 100) / 4))) - ((((((19 * (a0 - a0 / 19 * 19)) + (a0 / 100)) - ((a0 / 100) / 4)) - ((((a0 / 100) - (((a0 / 100) + 8) / 25)) + 1) / 3)) + 15) - (((((19 * (a0 - a0 / 19 * 19)) + (a0 / 100)) - ((a0 / 100) / 4)) - ((((a0 / 100) - (((a0 / 100) + 8) / 25)) + 1) / 3)) + 15) / 30 * 30)) - ((a0 - a0 / 100 * 100) - (a0 - a0 / 100 * 100) / 4 * 4)) - ((((32 + (2 * ((a0 / 100) - (a0 / 100) / 4 * 4))) + (2 * ((a0 - a0 / 100 * 100) / 4))) - ((((((19 * (a0 - a0 / 19 * 19)) + (a0 / 100)) - ((a0 / 100) / 4)) - ((((a0 / 100) - (((a0 / 100) + 8) / 25)) + 1) / 3)) + 15) - (((((19 * (a0 - a0 / 19 * 19)) + (a0 / 100)) - ((a0 / 100) / 4)) - ((((a0 / 100) - (((a0 / 100) + 8) / 25)) + 1) / 3)) + 15) / 30 * 30)) - ((a0 - a0 / 100 * 100) - (a0 - a0 / 100 * 100) / 4 * 4)) / 7 * 7)) - (7 * ((((a0 - a0 / 19 * 19) + (11 * ((((((19 * (a0 - a0 / 19 * 19)) + (a0 / 100)) - ((a0 / 100) / 4)) - ((((a0 / 100) - (((a0 / 100) + 8) / 25)) + 1) / 3)) + 15) - (((((19 * (a0 - a0 / 19 * 19)) + (a0 / 100)) - ((a0 / 100) / 4)) - ((((a0 / 100) - (((a0 / 100) + 8) / 25)) + 1) / 3)) + 15) / 30 * 30))) + (22 * (((((32 + (2 * ((a0 / 100) - (a0 / 100) / 4 * 4))) + (2 * ((a0 - a0 / 100 * 100) / 4))) - ((((((19 * (a0 - a0 / 19 * 19)) + (a0 / 100)) - ((a0 / 100) / 4)) - ((((a0 / 100) - (((a0 / 100) + 8) / 25)) + 1) / 3)) + 15) - (((((19 * (a0 - a0 / 19 * 19)) + (a0 / 100)) - ((a0 / 100) / 4)) - ((((a0 / 100) - (((a0 / 100) + 8) / 25)) + 1) / 3)) + 15) / 30 * 30)) - ((a0 - a0 / 100 * 100) - (a0 - a0 / 100 * 100) / 4 * 4)) - ((((32 + (2 * ((a0 / 100) - (a0 / 100) / 4 * 4))) + (2 * ((a0 - a0 / 100 * 100) / 4))) - ((((((19 * (a0 - a0 / 19 * 19)) + (a0 / 100)) - ((a0 / 100) / 4)) - ((((a0 / 100) - (((a0 / 100) + 8) / 25)) + 1) / 3)) + 15) - (((((19 * (a0 - a0 / 19 * 19)) + (a0 / 100)) - ((a0 / 100) / 4)) - ((((a0 / 100) - (((a0 / 100) + 8) / 25)) + 1) / 3)) + 15) / 30 * 30)) - ((a0 - a0 / 100 * 100) - (a0 - a0 / 100 * 100) / 4 * 4)) / 7 * 7))) / 451))) + 114) - (((((((((19 * (a0 - a0 / 19 * 19)) + (a0 / 100)) - ((a0 / 100) / 4)) - ((((a0 / 100) - (((a0 / 100) + 8) / 25)) + 1) / 3)) + 15) - (((((19 * (a0 - a0 / 19 * 19)) + (a0 / 100)) - ((a0 / 100) / 4)) - ((((a0 / 100) - (((a0 / 100) + 8) / 25)) + 1) / 3)) + 15) / 30 * 30) + (((((32 + (2 * ((a0 / 100) - (a0 / 100) / 4 * 4))) + (2 * ((a0 - a0 / 100 * 100) / 4))) - ((((((19 * (a0 - a0 / 19 * 19)) + (a0 / 100)) - ((a0 / 100) / 4)) - ((((a0 / 100) - (((a0 / 100) + 8) / 25)) + 1) / 3)) + 15) - (((((19 * (a0 - a0 / 19 * 19)) + (a0 / 100)) - ((a0 / 100) / 4)) - ((((a0 / 100) - (((a0 / 100) + 8) / 25)) + 1) / 3)) + 15) / 30 * 30)) - ((a0 - a0 / 100 * 100) - (a0 - a0 / 100 * 100) / 4 * 4)) - ((((32 + (2 * ((a0 / 100) - (a0 / 100) / 4 * 4))) + (2 * ((a0 - a0 / 100 * 100) / 4))) - ((((((19 * (a0 - a0 / 19 * 19)) + (a0 / 100)) - ((a0 / 100) / 4)) - ((((a0 / 100) - (((a0 / 100) + 8) / 25)) + 1) / 3)) + 15) - (((((19 * (a0 - a0 / 19 * 19)) + (a0 / 100)) - ((a0 / 100) / 4)) - ((((a0 / 100) - (((a0 / 100) + 8) / 25)) + 1) / 3)) + 15) / 30 * 30)) - ((a0 - a0 / 100 * 100) - (a0 - a0 / 100 * 100) / 4 * 4)) / 7 * 7)) - (7 * ((((a0 - a0 / 19 * 19) + (11 * ((((((19 * (a0 - a0 / 19 * 19)) + (a0 / 100)) - ((a0 / 100) / 4)) - ((((a0 / 100) - (((a0 / 100) + 8) / 25)) + 1) / 3)) + 15) - (((((19 * (a0 - a0 / 19 * 19)) + (a0 / 100)) - ((a0 / 100) / 4)) - ((((a0 / 100) - (((a0 / 100) + 8) / 25)) + 1) / 3)) + 15) / 30 * 30))) + (22 * (((((32 + (2 * ((a0 / 100) - (a0 / 100) / 4 * 4))) + (2 * ((a0 - a0 / 100 * 100) / 4))) - ((((((19 * (a0 - a0 / 19 * 19)) + (a0 / 100)) - ((a0 / 100) / 4)) - ((((a0 / 100) - (((a0 / 100) + 8) / 25)) + 1) / 3)) + 15) - (((((19 * (a0 - a0 / 19 * 19)) + (a0 / 100)) - ((a0 / 100) / 4)) - ((((a0 / 100) - (((a0 / 100) + 8) / 25)) + 1) / 3)) + 15) / 30 * 30)) - ((a0 - a0 / 100 * 100) - (a0 - a0 / 100 * 100) / 4 * 4)) - ((((32 + (2 * ((a0 / 100) - (a0 / 100) / 4 * 4))) + (2 * ((a0 - a0 / 100 * 100) / 4))) - ((((((19 * (a0 - a0 / 19 * 19)) + (a0 / 100)) - ((a0 / 100) / 4)) - ((((a0 / 100) - (((a0 / 100) + 8) / 25)) + 1) / 3)) + 15) - (((((19 * (a0 - a0 / 19 * 19)) + (a0 / 100)) - ((a0 / 100) / 4)) - ((((a0 / 100) - (((a0 / 100) + 8) / 25)) + 1) / 3)) + 15) / 30 * 30)) - ((a0 - a0 / 100 * 100) - (a0 - a0 / 100 * 100) / 4 * 4)) / 7 * 7))) / 451))) + 114) / 31 * 31) + 1)] k_Md_easter f_Md_easter_117 l_invT_11_19 (by decide) k_Md_dayOf rfl (by exact Nat.le_of_ble_eq_true rfl) (dc := 2) (by decide) ?_ rfl
  refine h.mono (fun v w2 hh => ?_)
  obtain ⟨r1, rfl, h⟩ := hh
  show Gw zs 3 m_Md_easter 120 [some (.inl a0), some (.inl (a0 - a0 / 19 * 19)), some (.inl (a0 / 100)), some (.inl (a0 - a0 / 100 * 100)), some (.inl ((((((19 * (a0 - a0 / 19 * 19)) + (a0 / 100)) - ((a0 / 100) / 4)) - ((((a0 / 100) - (((a0 / 100) + 8) / 25)) + 1) / 3)) + 15) - (((((19 * (a0 - a0 / 19 * 19)) + (a0 / 100)) - ((a0 / 100) / 4)) - ((((a0 / 100) - (((a0 / 100) + 8) / 25)) + 1) / 3)) + 15) / 30 * 30)), some (.inl (((((32 + (2 * ((a0 / 100) - (a0 / 100) / 4 * 4))) + (2 * ((a0 - a0 / 100 * 100) / 4))) - ((((((19 * (a0 - a0 / 19 * 19)) + (a0 / 100)) - ((a0 / 100) / 4)) - ((((a0 / 100) - (((a0 / 100) + 8) / 25)) + 1) / 3)) + 15) - (((((19 * (a0 - a0 / 19 * 19)) + (a0 / 100)) - ((a0 / 100) / 4)) - ((((a0 / 100) - (((a0 / 100) + 8) / 25)) + 1) / 3)) + 15) / 30 * 30)) - ((a0 - a0 / 100 * 100) - (a0 - a0 / 100 * 100) / 4 * 4)) - ((((32 + (2 * ((a0 / 100) - (a0 / 100) / 4 * 4))) + (2 * ((a0 - a0 / 100 * 100) / 4))) - ((((((19 * (a0 - a0 / 19 * 19)) + (a0 / 100)) - ((a0 / 100) / 4)) - ((((a0 / 100) - (((a0 / 100) + 8) / 25)) + 1) / 3)) + 15) - (((((19 * (a0 - a0 / 19 * 19)) + (a0 / 100)) - ((a0 / 100) / 4)) - ((((a0 / 100) - (((a0 / 100) + 8) / 25)) + 1) / 3)) + 15) / 30 * 30)) - ((a0 - a0 / 100 * 100) - (a0 - a0 / 100 * 100) / 4 * 4)) / 7 * 7)), some (.inl (((((((((19 * (a0 - a0 / 19 * 19)) + (a0 / 100)) - ((a0 / 100) / 4)) - ((((a0 / 100) - (((a0 / 100) + 8) / 25)) + 1) / 3)) + 15) - (((((19 * (a0 - a0 / 19 * 19)) + (a0 / 100)) - ((a0 / 100) / 4)) - ((((a0 / 100) - (((a0 / 100) + 8) / 25)) + 1) / 3)) + 15) / 30 * 30) + (((((32 + (2 * ((a0 / 100) - (a0 / 100) / 4 * 4))) + (2 * ((a0 - a0 / 100 * 100) / 4))) - ((((((19 * (a0 - a0 / 19 * 19)) + (a0 / 100)) - ((a0 / 100) / 4)) - ((((a0 / 100) - (((a0 / 100) + 8) / 25)) + 1) / 3)) + 15) - (((((19 * (a0 - a0 / 19 * 19)) + (a0 / 100)) - ((a0 / 100) / 4)) - ((((a0 / 100) - (((a0 / 100) + 8) / 25)) + 1) / 3)) + 15) / 30 * 30)) - ((a0 - a0 / 100 * 100) - (a0 - a0 / 100 * 100) / 4 * 4)) - ((((32 + (2 * ((a0 / 100) - (a0 / 100) / 4 * 4))) + (2 * ((a0 - a0 / 100 * 100) / 4))) - ((((((19 * (a0 - a0 / 19 * 19)) + (a0 / 100)) - ((a0 / 100) / 4)) - ((((a0 / 100) - (((a0 / 100) + 8) / 25)) + 1) / 3)) + 15) - (((((19 * (a0 - a0 / 19 * 19)) + (a0 / 100)) - ((a0 / 100) / 4)) - ((((a0 / 100) - (((a0 / 100) + 8) / 25)) + 1) / 3)) + 15) / 30 * 30)) - ((a0 - a0 / 100 * 100) - (a0 - a0 / 100 * 100) / 4 * 4)) / 7 * 7)) - (7 * ((((a0 - a0 / 19 * 19) + (11 * ((((((19 * (a0 - a0 / 19 * 19)) + (a0 / 100)) - ((a0 / 100) / 4)) - ((((a0 / 100) - (((a0 / 100) + 8) / 25)) + 1) / 3)) + 15) - (((((19 * (a0 - a0 / 19 * 19)) + (a0 / 100)) - ((a0 / 100) / 4)) - ((((a0 / 100) - (((a0 / 100) + 8) / 25)) + 1) / 3)) + 15) / 30 * 30))) + (22 * (((((32 + (2 * ((a0 / 100) - (a0 / 100) / 4 * 4))) + (2 * ((a0 - a0 / 100 * 100) / 4))) - ((((((19 * (a0 - a0 / 19 * 19)) + (a0 / 100)) - ((a0 / 100) / 4)) - ((((a0 / 100) - (((a0 / 100) + 8) / 25)) + 1) / 3)) + 15) - (((((19 * (a0 - a0 / 19 * 19)) + (a0 / 100)) - ((a0 / 100) / 4)) - ((((a0 / 100) - (((a0 / 100) + 8) / 25)) + 1) / 3)) + 15) / 30 * 30)) - ((a0 - a0 / 100 * 100) - (a0 - a0 / 100 * 100) / 4 * 4)) - ((((32 + (2 * ((a0 / 100) - (a0 / 100) / 4 * 4))) + (2 * ((a0 - a0 / 100 * 100) / 4))) - ((((((19 * (a0 - a0 / 19 * 19)) + (a0 / 100)) - ((a0 / 100) / 4)) - ((((a0 / 100) - (((a0 / 100) + 8) / 25)) + 1) / 3)) + 15) - (((((19 * (a0 - a0 / 19 * 19)) + (a0 / 100)) - ((a0 / 100) / 4)) - ((((a0 / 100) - (((a0 / 100) + 8) / 25)) + 1) / 3)) + 15) / 30 * 30)) - ((a0 - a0 / 100 * 100) - (a0 - a0 / 100 * 100) / 4 * 4)) / 7 * 7))) / 451))) + 114))] [.inl r1] w2 _
  exact gw_iret k_Md_easter f_Md_easter_120 rfl h
theorem sg_Md_year_0 {zs : List Int32} {a0 a1 : Int32} {w : Wd} {Q : Option AV → Wd → Prop} (h : (((f_Md_isYear a0) = 0 → Q (some (.inl (-1))) w) ∧ (¬ ((f_Md_isYear a0) = 0) → ((a1 = 0 → Q (some (.inl (f_Md_daysOf a0))) w) ∧ (¬ (a1 = 0) → ((a1 = 1 → Ew zs 2 m_Md_firstWeekday [.inl a0] w (fun v w8 => ∃ r7 : Int32, v = some (.inl r7) ∧ Q (some (.inl r7)) w8)) ∧ (¬ (a1 = 1) → ((a1 = 2 → Ew zs 3 m_Md_easter [.inl a0] w (fun v w6 => ∃ r5 : Int32, v = some (.inl r5) ∧ Q (some (.inl r5)) w6)) ∧ (¬ (a1 = 2) → Q (some (.inl (-1))) w))))))))) : Gw zs 4 m_Md_year 0 [some (.inr (.inl (some 155))), some (.inl a0), some (.inl a1)] [] w Q := by
  refine gw_iload_n k_Md_year f_Md_year_0 rfl ?_
  refine gw_static [.inl a0] k_Md_year f_Md_year_1 l_invT_11_23 (by decide) k_Md_isYear rfl (by exact Nat.le_of_ble_eq_true rfl) (dc := 1) (by decide) ?_ rfl
  refine ev_Md_isYear ?_
  show Gw zs 4 m_Md_year 4 [some (.inr (.inl (some 155))), some (.inl a0), some (.inl a1)] [.inl (f_Md_isYear a0)] w _
  refine gw_if_ne (t := 9) k_Md_year f_Md_year_4 rfl (fun c1 => ?_) (fun c1 => ?_)
  · have h := h.2 c1
    refine gw_iload_n k_Md_year f_Md_year_9 rfl ?_
    refine gw_if_ne (t := 20) k_Md_year f_Md_year_10 rfl (fun c2 => ?_) (fun c2 => ?_)
    · have h := h.2 c2
      refine gw_iload_n k_Md_year f_Md_year_20 rfl ?_
      refine gw_iconst k_Md_year f_Md_year_21 qc_1 ?_
      refine gw_icmp_ne (t := 32) k_Md_year f_Md_year_22 rfl (fun c3 => ?_) (fun c3 => ?_)
      · have h := h.2 c3
        refine gw_iload_n k_Md_year f_Md_year_32 rfl ?_
        refine gw_iconst k_Md_year f_Md_year_33 qc_2 ?_
        refine gw_icmp_ne (t := 44) k_Md_year f_Md_year_34 rfl (fun c4 => ?_) (fun c4 => ?_)
        · have h := h.2 c4
          refine gw_iconst k_Md_year f_Md_year_44 qc_m1 ?_
          exact gw_iret k_Md_year f_Md_year_45 rfl h
        · have c4 := Decidable.not_not.mp c4
          have h := h.1 c4
          refine gw_iload_n k_Md_year f_Md_year_37 rfl ?_
          refine gw_static [.inl a0] k_Md_year f_Md_year_38 l_invT_11_29 (by decide) k_Md_easter rfl (by exact Nat.le_of_ble_eq_true rfl) (dc := 3) (by decide) ?_ rfl
          refine h.mono (fun v w6 hh => ?_)
          obtain ⟨r5, rfl, h⟩ := hh
          show Gw zs 4 m_Md_year 41 [some (.inr (.inl (some 155))), some (.inl a0), some (.inl a1)] [.inl r5] w6 _
          refine gw_goto (t := 45) k_Md_year f_Md_year_41 rfl ?_
          exact gw_iret k_Md_year f_Md_year_45 rfl h
      · have c3 := Decidable.not_not.mp c3
        have h := h.1 c3
        refine gw_iload_n k_Md_year f_Md_year_25 rfl ?_
        refine gw_static [.inl a0] k_Md_year f_Md_year_26 l_invT_11_26 (by decide) k_Md_firstWeekday rfl (by exact Nat.le_of_ble_eq_true rfl) (dc := 2) (by decide) ?_ rfl
        refine h.mono (fun v w8 hh => ?_)
        obtain ⟨r7, rfl, h⟩ := hh
        show Gw zs 4 m_Md_year 29 [some (.inr (.inl (some 155))), some (.inl a0), some (.inl a1)] [.inl r7] w8 _
        refine gw_goto (t := 45) k_Md_year f_Md_year_29 rfl ?_
        exact gw_iret k_Md_year f_Md_year_45 rfl h
    · have c2 := Decidable.not_not.mp c2
      have h := h.1 c2
      refine gw_iload_n k_Md_year f_Md_year_13 rfl ?_
      refine gw_static [.inl a0] k_Md_year f_Md_year_14 l_invT_11_15 (by decide) k_Md_daysOf rfl (by exact Nat.le_of_ble_eq_true rfl) (dc := 1) (by decide) ?_ rfl
      refine ev_Md_daysOf ?_
      show Gw zs 4 m_Md_year 17 [some (.inr (.inl (some 155))), some (.inl a0), some (.inl a1)] [.inl (f_Md_daysOf a0)] w _
      refine gw_goto (t := 45) k_Md_year f_Md_year_17 rfl ?_
      exact gw_iret k_Md_year f_Md_year_45 rfl h
  · have c1 := Decidable.not_not.mp c1
    have h := h.1 c1
    refine gw_iconst k_Md_year f_Md_year_7 qc_m1 ?_
    exact gw_iret k_Md_year f_Md_year_8 rfl h
theorem sg_Md_day_0 {zs : List Int32} {a0 a1 a2 : Int32} {w : Wd} {Q : Option AV → Wd → Prop} (h : (((f_Md_isYear a0) = 0 → Q (some (.inl (-1))) w) ∧ (¬ ((f_Md_isYear a0) = 0) → (((f_Md_in a1 1 12) = 0 → Q (some (.inl (-1))) w) ∧ (¬ ((f_Md_in a1 1 12) = 0) → (((f_Md_in a2 1 (f_Md_daysIn a0 a1)) = 0 → Q (some (.inl (-1))) w) ∧ (¬ ((f_Md_in a2 1 (f_Md_daysIn a0 a1)) = 0) → Ew zs 2 m_Md_dayOf [.inl a0, .inl a1, .inl a2] w (fun v w5 => ∃ r4 : Int32, v = some (.inl r4) ∧ Q (some (.inl r4)) w5)))))))) : Gw zs 3 m_Md_day 0 [some (.inr (.inl (some 155))), some (.inl a0), some (.inl a1), some (.inl a2)] [] w Q := by
  refine gw_iload_n k_Md_day f_Md_day_0 rfl ?_
  refine gw_static [.inl a0] k_Md_day f_Md_day_1 l_invT_11_23 (by decide) k_Md_isYear rfl (by exact Nat.le_of_ble_eq_true rfl) (dc := 1) (by decide) ?_ rfl
  refine ev_Md_isYear ?_
  show Gw zs 3 m_Md_day 4 [some (.inr (.inl (some 155))), some (.inl a0), some (.inl a1), some (.inl a2)] [.inl (f_Md_isYear a0)] w _
  refine gw_if_eq (t := 39) k_Md_day f_Md_day_4 rfl (fun c1 => ?_) (fun c1 => ?_)
  · have h := h.1 c1
    refine gw_iconst k_Md_day f_Md_day_39 qc_m1 ?_
    exact gw_iret k_Md_day f_Md_day_40 rfl h
  · have h := h.2 c1
    refine gw_iload_n k_Md_day f_Md_day_7 rfl ?_
    refine gw_iconst k_Md_day f_Md_day_8 qc_1 ?_
    refine gw_bipush k_Md_day f_Md_day_9 qb_12 ?_
    refine gw_static [.inl a1, .inl 1, .inl 12] k_Md_day f_Md_day_11 l_invT_11_1 (by decide) k_Md_in rfl (by exact Nat.le_of_ble_eq_true rfl) (dc := 0) (by decide) ?_ rfl
    refine ev_Md_in ?_
    show Gw zs 3 m_Md_day 14 [some (.inr (.inl (some 155))), some (.inl a0), some (.inl a1), some (.inl a2)] [.inl (f_Md_in a1 1 12)] w _
    refine gw_if_eq (t := 39) k_Md_day f_Md_day_14 rfl (fun c2 => ?_) (fun c2 => ?_)
    · have h := h.1 c2
      refine gw_iconst k_Md_day f_Md_day_39 qc_m1 ?_
      exact gw_iret k_Md_day f_Md_day_40 rfl h
    · have h := h.2 c2
      refine gw_iload_n k_Md_day f_Md_day_17 rfl ?_
      refine gw_iconst k_Md_day f_Md_day_18 qc_1 ?_
      refine gw_iload_n k_Md_day f_Md_day_19 rfl ?_
      refine gw_iload_n k_Md_day f_Md_day_20 rfl ?_
      refine gw_static [.inl a0, .inl a1] k_Md_day f_Md_day_21 l_invT_11_11 (by decide) k_Md_daysIn rfl (by exact Nat.le_of_ble_eq_true rfl) (dc := 1) (by decide) ?_ rfl
      refine ev_Md_daysIn ?_
      show Gw zs 3 m_Md_day 24 [some (.inr (.inl (some 155))), some (.inl a0), some (.inl a1), some (.inl a2)] [.inl (f_Md_daysIn a0 a1), .inl 1, .inl a2] w _
      refine gw_static [.inl a2, .inl 1, .inl (f_Md_daysIn a0 a1)] k_Md_day f_Md_day_24 l_invT_11_1 (by decide) k_Md_in rfl (by exact Nat.le_of_ble_eq_true rfl) (dc := 0) (by decide) ?_ rfl
      refine ev_Md_in ?_
      show Gw zs 3 m_Md_day 27 [some (.inr (.inl (some 155))), some (.inl a0), some (.inl a1), some (.inl a2)] [.inl (f_Md_in a2 1 (f_Md_daysIn a0 a1))] w _
      refine gw_if_eq (t := 39) k_Md_day f_Md_day_27 rfl (fun c3 => ?_) (fun c3 => ?_)
      · have h := h.1 c3
        refine gw_iconst k_Md_day f_Md_day_39 qc_m1 ?_
        exact gw_iret k_Md_day f_Md_day_40 rfl h
      · have h := h.2 c3
        refine gw_iload_n k_Md_day f_Md_day_30 rfl ?_
        refine gw_iload_n k_Md_day f_Md_day_31 rfl ?_
        refine gw_iload_n k_Md_day f_Md_day_32 rfl ?_
        refine gw_static [.inl a0, .inl a1, .inl a2] k_Md_day f_Md_day_33 l_invT_11_19 (by decide) k_Md_dayOf rfl (by exact Nat.le_of_ble_eq_true rfl) (dc := 2) (by decide) ?_ rfl
        refine h.mono (fun v w5 hh => ?_)
        obtain ⟨r4, rfl, h⟩ := hh
        show Gw zs 3 m_Md_day 36 [some (.inr (.inl (some 155))), some (.inl a0), some (.inl a1), some (.inl a2)] [.inl r4] w5 _
        refine gw_goto (t := 40) k_Md_day f_Md_day_36 rfl ?_
        exact gw_iret k_Md_day f_Md_day_40 rfl h
theorem sg_Md_adds0_0 {zs : List Int32} {a0 a1 a2 a3 a4 a5 : Int32} {w : Wd} {Q : Option AV → Wd → Prop} (h : (((w 155 0) = 10 → Q (some (.inl (-1))) w) ∧ (¬ ((w 155 0) = 10) → ((a2 < a1 → Q (some (.inl (-1))) w) ∧ (¬ (a2 < a1) → (((f_Md_in a3 1 9) = 0 → Q (some (.inl (-1))) w) ∧ (¬ ((f_Md_in a3 1 9) = 0) → (((f_Md_in a4 0 8) = 0 → Q (some (.inl (-1))) w) ∧ (¬ ((f_Md_in a4 0 8) = 0) → (((f_Md_in a5 0 7) = 0 → Q (some (.inl (-1))) w) ∧ (¬ ((f_Md_in a5 0 7) = 0) → (vp_in (w 155 0) 10 ∧ (vp_in (w 155 0) 10 ∧ (vp_in (w 155 0) 10 ∧ (vp_in (w 155 0) 10 ∧ (vp_in (w 155 0) 10 ∧ (vp_in (w 155 0) 10 ∧ Q (some (.inl ((w 155 0) + 1))) (wr (wr (wr (wr (wr (wr (wr (wr w 156 ((w 155 0).toNatClampNeg) (a0 &&& 1)) 157 ((w 155 0).toNatClampNeg) a1) 158 ((w 155 0).toNatClampNeg) a2) 159 ((w 155 0).toNatClampNeg) a3) 160 ((w 155 0).toNatClampNeg) a4) 161 ((w 155 0).toNatClampNeg) a5) 155 0 ((w 155 0) + 1)) 155 15 0)))))))))))))))))) : Gw zs 1 m_Md_adds0 0 [some (.inr (.inl (some 155))), some (.inl a0), some (.inl a1), some (.inl a2), some (.inl a3), some (.inl a4), some (.inl a5)] [] w Q := by
  refine gw_aload_n k_Md_adds0 f_Md_adds0_0 rfl ?_
  refine gw_getI k_Md_adds0 f_Md_adds0_1 l_fldT_11_32 hc155 rfl ?_
  refine gw_bipush k_Md_adds0 f_Md_adds0_4 qb_10 ?_
  refine gw_icmp_eq (t := 47) k_Md_adds0 f_Md_adds0_6 rfl (fun c1 => ?_) (fun c1 => ?_)
  · have h := h.1 c1
    refine gw_iconst k_Md_adds0 f_Md_adds0_47 qc_m1 ?_
    exact gw_iret k_Md_adds0 f_Md_adds0_48 rfl h
  · have h := h.2 c1
    refine gw_iload_n k_Md_adds0 f_Md_adds0_9 rfl ?_
    refine gw_iload_n k_Md_adds0 f_Md_adds0_10 rfl ?_
    refine gw_icmp_gt (t := 47) k_Md_adds0 f_Md_adds0_11 rfl (fun c2 => ?_) (fun c2 => ?_)
    · have h := h.1 c2
      refine gw_iconst k_Md_adds0 f_Md_adds0_47 qc_m1 ?_
      exact gw_iret k_Md_adds0 f_Md_adds0_48 rfl h
    · have h := h.2 c2
      refine gw_iload k_Md_adds0 f_Md_adds0_14 rfl ?_
      refine gw_iconst k_Md_adds0 f_Md_adds0_16 qc_1 ?_
      refine gw_bipush k_Md_adds0 f_Md_adds0_17 qb_9 ?_
      refine gw_static [.inl a3, .inl 1, .inl 9] k_Md_adds0 f_Md_adds0_19 l_invT_11_1 (by decide) k_Md_in rfl (by exact Nat.le_of_ble_eq_true rfl) (dc := 0) (by decide) ?_ rfl
      refine ev_Md_in ?_
      show Gw zs 1 m_Md_adds0 22 [some (.inr (.inl (some 155))), some (.inl a0), some (.inl a1), some (.inl a2), some (.inl a3), some (.inl a4), some (.inl a5)] [.inl (f_Md_in a3 1 9)] w _
      refine gw_if_eq (t := 47) k_Md_adds0 f_Md_adds0_22 rfl (fun c3 => ?_) (fun c3 => ?_)
      · have h := h.1 c3
        refine gw_iconst k_Md_adds0 f_Md_adds0_47 qc_m1 ?_
        exact gw_iret k_Md_adds0 f_Md_adds0_48 rfl h
      · have h := h.2 c3
        refine gw_iload k_Md_adds0 f_Md_adds0_25 rfl ?_
        refine gw_iconst k_Md_adds0 f_Md_adds0_27 qc_0 ?_
        refine gw_bipush k_Md_adds0 f_Md_adds0_28 qb_8 ?_
        refine gw_static [.inl a4, .inl 0, .inl 8] k_Md_adds0 f_Md_adds0_30 l_invT_11_1 (by decide) k_Md_in rfl (by exact Nat.le_of_ble_eq_true rfl) (dc := 0) (by decide) ?_ rfl
        refine ev_Md_in ?_
        show Gw zs 1 m_Md_adds0 33 [some (.inr (.inl (some 155))), some (.inl a0), some (.inl a1), some (.inl a2), some (.inl a3), some (.inl a4), some (.inl a5)] [.inl (f_Md_in a4 0 8)] w _
        refine gw_if_eq (t := 47) k_Md_adds0 f_Md_adds0_33 rfl (fun c4 => ?_) (fun c4 => ?_)
        · have h := h.1 c4
          refine gw_iconst k_Md_adds0 f_Md_adds0_47 qc_m1 ?_
          exact gw_iret k_Md_adds0 f_Md_adds0_48 rfl h
        · have h := h.2 c4
          refine gw_iload k_Md_adds0 f_Md_adds0_36 rfl ?_
          refine gw_iconst k_Md_adds0 f_Md_adds0_38 qc_0 ?_
          refine gw_bipush k_Md_adds0 f_Md_adds0_39 qb_7 ?_
          refine gw_static [.inl a5, .inl 0, .inl 7] k_Md_adds0 f_Md_adds0_41 l_invT_11_1 (by decide) k_Md_in rfl (by exact Nat.le_of_ble_eq_true rfl) (dc := 0) (by decide) ?_ rfl
          refine ev_Md_in ?_
          show Gw zs 1 m_Md_adds0 44 [some (.inr (.inl (some 155))), some (.inl a0), some (.inl a1), some (.inl a2), some (.inl a3), some (.inl a4), some (.inl a5)] [.inl (f_Md_in a5 0 7)] w _
          refine gw_if_ne (t := 49) k_Md_adds0 f_Md_adds0_44 rfl (fun c5 => ?_) (fun c5 => ?_)
          · have h := h.2 c5
            refine gw_aload_n k_Md_adds0 f_Md_adds0_49 rfl ?_
            refine gw_getR k_Md_adds0 f_Md_adds0_50 l_fldT_11_36 hc155 rfl ?_
            refine gw_aload_n k_Md_adds0 f_Md_adds0_53 rfl ?_
            refine gw_getI k_Md_adds0 f_Md_adds0_54 l_fldT_11_32 hc155 rfl ?_
            refine gw_iload_n k_Md_adds0 f_Md_adds0_57 rfl ?_
            have hp := h.1
            have h := h.2
            refine gw_zast k_Md_adds0 f_Md_adds0_58 hc156 hp ?_
            refine gw_aload_n k_Md_adds0 f_Md_adds0_59 rfl ?_
            refine gw_getR k_Md_adds0 f_Md_adds0_60 l_fldT_11_40 hc155 rfl ?_
            refine gw_aload_n k_Md_adds0 f_Md_adds0_63 rfl ?_
            refine gw_getI k_Md_adds0 f_Md_adds0_64 l_fldT_11_32 hc155 rfl ?_
            rw [show (wr w 156 ((w 155 0).toNatClampNeg) (a0 &&& 1)) 155 0 = w 155 0 from wr_nc (by decide)]
            refine gw_iload_n k_Md_adds0 f_Md_adds0_67 rfl ?_
            have hp := h.1
            have h := h.2
            refine gw_iast k_Md_adds0 f_Md_adds0_68 hc157 hp ?_
            refine gw_aload_n k_Md_adds0 f_Md_adds0_69 rfl ?_
            refine gw_getR k_Md_adds0 f_Md_adds0_70 l_fldT_11_44 hc155 rfl ?_
            refine gw_aload_n k_Md_adds0 f_Md_adds0_73 rfl ?_
            refine gw_getI k_Md_adds0 f_Md_adds0_74 l_fldT_11_32 hc155 rfl ?_
            rw [show (wr (wr w 156 ((w 155 0).toNatClampNeg) (a0 &&& 1)) 157 ((w 155 0).toNatClampNeg) a1) 155 0 = w 155 0 from (wr_nc (by decide)).trans (wr_nc (by decide))]
            refine gw_iload_n k_Md_adds0 f_Md_adds0_77 rfl ?_
            have hp := h.1
            have h := h.2
            refine gw_iast k_Md_adds0 f_Md_adds0_78 hc158 hp ?_
            refine gw_aload_n k_Md_adds0 f_Md_adds0_79 rfl ?_
            refine gw_getR k_Md_adds0 f_Md_adds0_80 l_fldT_11_47 hc155 rfl ?_
            refine gw_aload_n k_Md_adds0 f_Md_adds0_83 rfl ?_
            refine gw_getI k_Md_adds0 f_Md_adds0_84 l_fldT_11_32 hc155 rfl ?_
            rw [show (wr (wr (wr w 156 ((w 155 0).toNatClampNeg) (a0 &&& 1)) 157 ((w 155 0).toNatClampNeg) a1) 158 ((w 155 0).toNatClampNeg) a2) 155 0 = w 155 0 from (wr_nc (by decide)).trans ((wr_nc (by decide)).trans (wr_nc (by decide)))]
            refine gw_iload k_Md_adds0 f_Md_adds0_87 rfl ?_
            have hp := h.1
            have h := h.2
            refine gw_iast k_Md_adds0 f_Md_adds0_89 hc159 hp ?_
            refine gw_aload_n k_Md_adds0 f_Md_adds0_90 rfl ?_
            refine gw_getR k_Md_adds0 f_Md_adds0_91 l_fldT_11_50 hc155 rfl ?_
            refine gw_aload_n k_Md_adds0 f_Md_adds0_94 rfl ?_
            refine gw_getI k_Md_adds0 f_Md_adds0_95 l_fldT_11_32 hc155 rfl ?_
            rw [show (wr (wr (wr (wr w 156 ((w 155 0).toNatClampNeg) (a0 &&& 1)) 157 ((w 155 0).toNatClampNeg) a1) 158 ((w 155 0).toNatClampNeg) a2) 159 ((w 155 0).toNatClampNeg) a3) 155 0 = w 155 0 from (wr_nc (by decide)).trans ((wr_nc (by decide)).trans ((wr_nc (by decide)).trans (wr_nc (by decide))))]
            refine gw_iload k_Md_adds0 f_Md_adds0_98 rfl ?_
            have hp := h.1
            have h := h.2
            refine gw_iast k_Md_adds0 f_Md_adds0_100 hc160 hp ?_
            refine gw_aload_n k_Md_adds0 f_Md_adds0_101 rfl ?_
            refine gw_getR k_Md_adds0 f_Md_adds0_102 l_fldT_11_53 hc155 rfl ?_
            refine gw_aload_n k_Md_adds0 f_Md_adds0_105 rfl ?_
            refine gw_getI k_Md_adds0 f_Md_adds0_106 l_fldT_11_32 hc155 rfl ?_
            rw [show (wr (wr (wr (wr (wr w 156 ((w 155 0).toNatClampNeg) (a0 &&& 1)) 157 ((w 155 0).toNatClampNeg) a1) 158 ((w 155 0).toNatClampNeg) a2) 159 ((w 155 0).toNatClampNeg) a3) 160 ((w 155 0).toNatClampNeg) a4) 155 0 = w 155 0 from (wr_nc (by decide)).trans ((wr_nc (by decide)).trans ((wr_nc (by decide)).trans ((wr_nc (by decide)).trans (wr_nc (by decide)))))]
            refine gw_iload k_Md_adds0 f_Md_adds0_109 rfl ?_
            have hp := h.1
            have h := h.2
            refine gw_iast k_Md_adds0 f_Md_adds0_111 hc161 hp ?_
            refine gw_aload_n k_Md_adds0 f_Md_adds0_112 rfl ?_
            refine gw_dup k_Md_adds0 f_Md_adds0_113 ?_
            refine gw_getI k_Md_adds0 f_Md_adds0_114 l_fldT_11_32 hc155 rfl ?_
            rw [show (wr (wr (wr (wr (wr (wr w 156 ((w 155 0).toNatClampNeg) (a0 &&& 1)) 157 ((w 155 0).toNatClampNeg) a1) 158 ((w 155 0).toNatClampNeg) a2) 159 ((w 155 0).toNatClampNeg) a3) 160 ((w 155 0).toNatClampNeg) a4) 161 ((w 155 0).toNatClampNeg) a5) 155 0 = w 155 0 from (wr_nc (by decide)).trans ((wr_nc (by decide)).trans ((wr_nc (by decide)).trans ((wr_nc (by decide)).trans ((wr_nc (by decide)).trans (wr_nc (by decide))))))]
            refine gw_iconst k_Md_adds0 f_Md_adds0_117 qc_1 ?_
            refine gw_iadd k_Md_adds0 f_Md_adds0_118 ?_
            refine gw_put k_Md_adds0 f_Md_adds0_119 l_fldT_11_32 hc155 rfl rfl rfl rfl rfl ?_
            refine gw_aload_n k_Md_adds0 f_Md_adds0_122 rfl ?_
            refine gw_iconst k_Md_adds0 f_Md_adds0_123 qc_0 ?_
            refine gw_put k_Md_adds0 f_Md_adds0_124 l_fldT_11_56 hc155 rfl rfl rfl rfl rfl ?_
            refine gw_aload_n k_Md_adds0 f_Md_adds0_127 rfl ?_
            refine gw_getI k_Md_adds0 f_Md_adds0_128 l_fldT_11_32 hc155 rfl ?_
            rw [show (wr (wr (wr (wr (wr (wr (wr (wr w 156 ((w 155 0).toNatClampNeg) (a0 &&& 1)) 157 ((w 155 0).toNatClampNeg) a1) 158 ((w 155 0).toNatClampNeg) a2) 159 ((w 155 0).toNatClampNeg) a3) 160 ((w 155 0).toNatClampNeg) a4) 161 ((w 155 0).toNatClampNeg) a5) 155 0 ((w 155 0) + 1)) 155 15 0) 155 0 = (w 155 0) + 1 from (wr_nk (by decide)).trans (wr_eq)]
            exact gw_iret k_Md_adds0 f_Md_adds0_131 rfl h
          · have c5 := Decidable.not_not.mp c5
            have h := h.1 c5
            refine gw_iconst k_Md_adds0 f_Md_adds0_47 qc_m1 ?_
            exact gw_iret k_Md_adds0 f_Md_adds0_48 rfl h
theorem sg_Md_season_0 {zs : List Int32} {a0 a1 a2 a3 a4 : Int32} {w : Wd} {Q : Option AV → Wd → Prop} (h : (((f_Md_in a0 (-120) 250) = 0 → Q (some (.inl (-1))) w) ∧ (¬ ((f_Md_in a0 (-120) 250) = 0) → (((f_Md_in a1 (-120) 250) = 0 → Q (some (.inl (-1))) w) ∧ (¬ ((f_Md_in a1 (-120) 250) = 0) → Ew zs 1 m_Md_adds0 [.inr (.inl (some 155)), .inl 0, .inl a0, .inl a1, .inl a2, .inl a3, .inl a4] w (fun v w4 => ∃ r3 : Int32, v = some (.inl r3) ∧ Q (some (.inl r3)) w4)))))) : Gw zs 2 m_Md_season 0 [some (.inr (.inl (some 155))), some (.inl a0), some (.inl a1), some (.inl a2), some (.inl a3), some (.inl a4)] [] w Q := by
  refine gw_iload_n k_Md_season f_Md_season_0 rfl ?_
  refine gw_bipush k_Md_season f_Md_season_1 qb_m120 ?_
  refine gw_sipush k_Md_season f_Md_season_3 qs_250 ?_
  refine gw_static [.inl a0, .inl (-120), .inl 250] k_Md_season f_Md_season_6 l_invT_11_1 (by decide) k_Md_in rfl (by exact Nat.le_of_ble_eq_true rfl) (dc := 0) (by decide) ?_ rfl
  refine ev_Md_in ?_
  show Gw zs 2 m_Md_season 9 [some (.inr (.inl (some 155))), some (.inl a0), some (.inl a1), some (.inl a2), some (.inl a3), some (.inl a4)] [.inl (f_Md_in a0 (-120) 250)] w _
  refine gw_if_eq (t := 24) k_Md_season f_Md_season_9 rfl (fun c1 => ?_) (fun c1 => ?_)
  · have h := h.1 c1
    refine gw_iconst k_Md_season f_Md_season_24 qc_m1 ?_
    exact gw_iret k_Md_season f_Md_season_25 rfl h
  · have h := h.2 c1
    refine gw_iload_n k_Md_season f_Md_season_12 rfl ?_
    refine gw_bipush k_Md_season f_Md_season_13 qb_m120 ?_
    refine gw_sipush k_Md_season f_Md_season_15 qs_250 ?_
    refine gw_static [.inl a1, .inl (-120), .inl 250] k_Md_season f_Md_season_18 l_invT_11_1 (by decide) k_Md_in rfl (by exact Nat.le_of_ble_eq_true rfl) (dc := 0) (by decide) ?_ rfl
    refine ev_Md_in ?_
    show Gw zs 2 m_Md_season 21 [some (.inr (.inl (some 155))), some (.inl a0), some (.inl a1), some (.inl a2), some (.inl a3), some (.inl a4)] [.inl (f_Md_in a1 (-120) 250)] w _
    refine gw_if_ne (t := 26) k_Md_season f_Md_season_21 rfl (fun c2 => ?_) (fun c2 => ?_)
    · have h := h.2 c2
      refine gw_aload_n k_Md_season f_Md_season_26 rfl ?_
      refine gw_iconst k_Md_season f_Md_season_27 qc_0 ?_
      refine gw_iload_n k_Md_season f_Md_season_28 rfl ?_
      refine gw_iload_n k_Md_season f_Md_season_29 rfl ?_
      refine gw_iload_n k_Md_season f_Md_season_30 rfl ?_
      refine gw_iload k_Md_season f_Md_season_31 rfl ?_
      refine gw_iload k_Md_season f_Md_season_33 rfl ?_
      refine gw_virtual [.inl 0, .inl a0, .inl a1, .inl a2, .inl a3, .inl a4] k_Md_season f_Md_season_35 l_invT_11_59 k_Md_adds0 hc155 rfl rfl rfl (by exact Nat.le_of_ble_eq_true rfl) (dc := 1) (by decide) ?_ rfl
      refine h.mono (fun v w4 hh => ?_)
      obtain ⟨r3, rfl, h⟩ := hh
      show Gw zs 2 m_Md_season 38 [some (.inr (.inl (some 155))), some (.inl a0), some (.inl a1), some (.inl a2), some (.inl a3), some (.inl a4)] [.inl r3] w4 _
      exact gw_iret k_Md_season f_Md_season_38 rfl h
    · have c2 := Decidable.not_not.mp c2
      have h := h.1 c2
      refine gw_iconst k_Md_season f_Md_season_24 qc_m1 ?_
      exact gw_iret k_Md_season f_Md_season_25 rfl h
theorem sg_Md_dated_0 {zs : List Int32} {a0 a1 a2 a3 a4 : Int32} {w : Wd} {Q : Option AV → Wd → Prop} (h : (((f_Md_isDate a0) = 0 → Q (some (.inl (-1))) w) ∧ (¬ ((f_Md_isDate a0) = 0) → (((f_Md_isDate a1) = 0 → Q (some (.inl (-1))) w) ∧ (¬ ((f_Md_isDate a1) = 0) → Ew zs 1 m_Md_adds0 [.inr (.inl (some 155)), .inl 1, .inl a0, .inl a1, .inl a2, .inl a3, .inl a4] w (fun v w4 => ∃ r3 : Int32, v = some (.inl r3) ∧ Q (some (.inl r3)) w4)))))) : Gw zs 2 m_Md_dated 0 [some (.inr (.inl (some 155))), some (.inl a0), some (.inl a1), some (.inl a2), some (.inl a3), some (.inl a4)] [] w Q := by
  refine gw_iload_n k_Md_dated f_Md_dated_0 rfl ?_
  refine gw_static [.inl a0] k_Md_dated f_Md_dated_1 l_invT_11_63 (by decide) k_Md_isDate rfl (by exact Nat.le_of_ble_eq_true rfl) (dc := 1) (by decide) ?_ rfl
  refine ev_Md_isDate ?_
  show Gw zs 2 m_Md_dated 4 [some (.inr (.inl (some 155))), some (.inl a0), some (.inl a1), some (.inl a2), some (.inl a3), some (.inl a4)] [.inl (f_Md_isDate a0)] w _
  refine gw_if_eq (t := 29) k_Md_dated f_Md_dated_4 rfl (fun c1 => ?_) (fun c1 => ?_)
  · have h := h.1 c1
    refine gw_iconst k_Md_dated f_Md_dated_29 qc_m1 ?_
    exact gw_iret k_Md_dated f_Md_dated_30 rfl h
  · have h := h.2 c1
    refine gw_iload_n k_Md_dated f_Md_dated_7 rfl ?_
    refine gw_static [.inl a1] k_Md_dated f_Md_dated_8 l_invT_11_63 (by decide) k_Md_isDate rfl (by exact Nat.le_of_ble_eq_true rfl) (dc := 1) (by decide) ?_ rfl
    refine ev_Md_isDate ?_
    show Gw zs 2 m_Md_dated 11 [some (.inr (.inl (some 155))), some (.inl a0), some (.inl a1), some (.inl a2), some (.inl a3), some (.inl a4)] [.inl (f_Md_isDate a1)] w _
    refine gw_if_eq (t := 29) k_Md_dated f_Md_dated_11 rfl (fun c2 => ?_) (fun c2 => ?_)
    · have h := h.1 c2
      refine gw_iconst k_Md_dated f_Md_dated_29 qc_m1 ?_
      exact gw_iret k_Md_dated f_Md_dated_30 rfl h
    · have h := h.2 c2
      refine gw_aload_n k_Md_dated f_Md_dated_14 rfl ?_
      refine gw_iconst k_Md_dated f_Md_dated_15 qc_1 ?_
      refine gw_iload_n k_Md_dated f_Md_dated_16 rfl ?_
      refine gw_iload_n k_Md_dated f_Md_dated_17 rfl ?_
      refine gw_iload_n k_Md_dated f_Md_dated_18 rfl ?_
      refine gw_iload k_Md_dated f_Md_dated_19 rfl ?_
      refine gw_iload k_Md_dated f_Md_dated_21 rfl ?_
      refine gw_virtual [.inl 1, .inl a0, .inl a1, .inl a2, .inl a3, .inl a4] k_Md_dated f_Md_dated_23 l_invT_11_59 k_Md_adds0 hc155 rfl rfl rfl (by exact Nat.le_of_ble_eq_true rfl) (dc := 1) (by decide) ?_ rfl
      refine h.mono (fun v w4 hh => ?_)
      obtain ⟨r3, rfl, h⟩ := hh
      show Gw zs 2 m_Md_dated 26 [some (.inr (.inl (some 155))), some (.inl a0), some (.inl a1), some (.inl a2), some (.inl a3), some (.inl a4)] [.inl r3] w4 _
      refine gw_goto (t := 30) k_Md_dated f_Md_dated_26 rfl ?_
      exact gw_iret k_Md_dated f_Md_dated_30 rfl h
theorem sg_Md_feast_0 {zs : List Int32} {a0 a1 a2 a3 a4 : Int32} {w : Wd} {Q : Option AV → Wd → Prop} (h : (((w 155 1) = 60 → Q (some (.inl (-1))) w) ∧ (¬ ((w 155 1) = 60) → (((f_Md_isTold a0 a1) = 0 → Q (some (.inl (-1))) w) ∧ (¬ ((f_Md_isTold a0 a1) = 0) → (((f_Md_in a2 1 9) = 0 → Q (some (.inl (-1))) w) ∧ (¬ ((f_Md_in a2 1 9) = 0) → (((f_Md_in a3 0 7) = 0 → Q (some (.inl (-1))) w) ∧ (¬ ((f_Md_in a3 0 7) = 0) → (((f_Md_in a4 0 2) = 0 → Q (some (.inl (-1))) w) ∧ (¬ ((f_Md_in a4 0 2) = 0) → (vp_in (w 155 1) 60 ∧ (vp_in (w 155 1) 60 ∧ (vp_in (w 155 1) 60 ∧ (vp_in (w 155 1) 60 ∧ (vp_in (w 155 1) 60 ∧ (vp_in (w 155 1) 60 ∧ (vp_in (w 155 1) 60 ∧ Q (some (.inl (((w 155 1) + 1) - 1))) (wr (wr (wr (wr (wr (wr (wr (wr (wr w 162 ((w 155 1).toNatClampNeg) a0) 163 ((w 155 1).toNatClampNeg) a1) 164 ((w 155 1).toNatClampNeg) a2) 165 ((w 155 1).toNatClampNeg) a3) 166 ((w 155 1).toNatClampNeg) a4) 167 ((w 155 1).toNatClampNeg) 0) 168 ((w 155 1).toNatClampNeg) (0 &&& 1)) 155 1 ((w 155 1) + 1)) 155 15 0))))))))))))))))))) : Gw zs 3 m_Md_feast 0 [some (.inr (.inl (some 155))), some (.inl a0), some (.inl a1), some (.inl a2), some (.inl a3), some (.inl a4)] [] w Q := by
  refine gw_aload_n k_Md_feast f_Md_feast_0 rfl ?_
  refine gw_getI k_Md_feast f_Md_feast_1 l_fldT_11_66 hc155 rfl ?_
  refine gw_bipush k_Md_feast f_Md_feast_4 qb_60 ?_
  refine gw_icmp_eq (t := 48) k_Md_feast f_Md_feast_6 rfl (fun c1 => ?_) (fun c1 => ?_)
  · have h := h.1 c1
    refine gw_iconst k_Md_feast f_Md_feast_48 qc_m1 ?_
    exact gw_iret k_Md_feast f_Md_feast_49 rfl h
  · have h := h.2 c1
    refine gw_iload_n k_Md_feast f_Md_feast_9 rfl ?_
    refine gw_iload_n k_Md_feast f_Md_feast_10 rfl ?_
    refine gw_static [.inl a0, .inl a1] k_Md_feast f_Md_feast_11 l_invT_11_69 (by decide) k_Md_isTold rfl (by exact Nat.le_of_ble_eq_true rfl) (dc := 2) (by decide) ?_ rfl
    refine ev_Md_isTold ?_
    show Gw zs 3 m_Md_feast 14 [some (.inr (.inl (some 155))), some (.inl a0), some (.inl a1), some (.inl a2), some (.inl a3), some (.inl a4)] [.inl (f_Md_isTold a0 a1)] w _
    refine gw_if_eq (t := 48) k_Md_feast f_Md_feast_14 rfl (fun c2 => ?_) (fun c2 => ?_)
    · have h := h.1 c2
      refine gw_iconst k_Md_feast f_Md_feast_48 qc_m1 ?_
      exact gw_iret k_Md_feast f_Md_feast_49 rfl h
    · have h := h.2 c2
      refine gw_iload_n k_Md_feast f_Md_feast_17 rfl ?_
      refine gw_iconst k_Md_feast f_Md_feast_18 qc_1 ?_
      refine gw_bipush k_Md_feast f_Md_feast_19 qb_9 ?_
      refine gw_static [.inl a2, .inl 1, .inl 9] k_Md_feast f_Md_feast_21 l_invT_11_1 (by decide) k_Md_in rfl (by exact Nat.le_of_ble_eq_true rfl) (dc := 0) (by decide) ?_ rfl
      refine ev_Md_in ?_
      show Gw zs 3 m_Md_feast 24 [some (.inr (.inl (some 155))), some (.inl a0), some (.inl a1), some (.inl a2), some (.inl a3), some (.inl a4)] [.inl (f_Md_in a2 1 9)] w _
      refine gw_if_eq (t := 48) k_Md_feast f_Md_feast_24 rfl (fun c3 => ?_) (fun c3 => ?_)
      · have h := h.1 c3
        refine gw_iconst k_Md_feast f_Md_feast_48 qc_m1 ?_
        exact gw_iret k_Md_feast f_Md_feast_49 rfl h
      · have h := h.2 c3
        refine gw_iload k_Md_feast f_Md_feast_27 rfl ?_
        refine gw_iconst k_Md_feast f_Md_feast_29 qc_0 ?_
        refine gw_bipush k_Md_feast f_Md_feast_30 qb_7 ?_
        refine gw_static [.inl a3, .inl 0, .inl 7] k_Md_feast f_Md_feast_32 l_invT_11_1 (by decide) k_Md_in rfl (by exact Nat.le_of_ble_eq_true rfl) (dc := 0) (by decide) ?_ rfl
        refine ev_Md_in ?_
        show Gw zs 3 m_Md_feast 35 [some (.inr (.inl (some 155))), some (.inl a0), some (.inl a1), some (.inl a2), some (.inl a3), some (.inl a4)] [.inl (f_Md_in a3 0 7)] w _
        refine gw_if_eq (t := 48) k_Md_feast f_Md_feast_35 rfl (fun c4 => ?_) (fun c4 => ?_)
        · have h := h.1 c4
          refine gw_iconst k_Md_feast f_Md_feast_48 qc_m1 ?_
          exact gw_iret k_Md_feast f_Md_feast_49 rfl h
        · have h := h.2 c4
          refine gw_iload k_Md_feast f_Md_feast_38 rfl ?_
          refine gw_iconst k_Md_feast f_Md_feast_40 qc_0 ?_
          refine gw_iconst k_Md_feast f_Md_feast_41 qc_2 ?_
          refine gw_static [.inl a4, .inl 0, .inl 2] k_Md_feast f_Md_feast_42 l_invT_11_1 (by decide) k_Md_in rfl (by exact Nat.le_of_ble_eq_true rfl) (dc := 0) (by decide) ?_ rfl
          refine ev_Md_in ?_
          show Gw zs 3 m_Md_feast 45 [some (.inr (.inl (some 155))), some (.inl a0), some (.inl a1), some (.inl a2), some (.inl a3), some (.inl a4)] [.inl (f_Md_in a4 0 2)] w _
          refine gw_if_ne (t := 50) k_Md_feast f_Md_feast_45 rfl (fun c5 => ?_) (fun c5 => ?_)
          · have h := h.2 c5
            refine gw_aload_n k_Md_feast f_Md_feast_50 rfl ?_
            refine gw_getR k_Md_feast f_Md_feast_51 l_fldT_11_73 hc155 rfl ?_
            refine gw_aload_n k_Md_feast f_Md_feast_54 rfl ?_
            refine gw_getI k_Md_feast f_Md_feast_55 l_fldT_11_66 hc155 rfl ?_
            refine gw_iload_n k_Md_feast f_Md_feast_58 rfl ?_
            have hp := h.1
            have h := h.2
            refine gw_iast k_Md_feast f_Md_feast_59 hc162 hp ?_
            refine gw_aload_n k_Md_feast f_Md_feast_60 rfl ?_
            refine gw_getR k_Md_feast f_Md_feast_61 l_fldT_11_76 hc155 rfl ?_
            refine gw_aload_n k_Md_feast f_Md_feast_64 rfl ?_
            refine gw_getI k_Md_feast f_Md_feast_65 l_fldT_11_66 hc155 rfl ?_
            rw [show (wr w 162 ((w 155 1).toNatClampNeg) a0) 155 1 = w 155 1 from wr_nc (by decide)]
            refine gw_iload_n k_Md_feast f_Md_feast_68 rfl ?_
            have hp := h.1
            have h := h.2
            refine gw_iast k_Md_feast f_Md_feast_69 hc163 hp ?_
            refine gw_aload_n k_Md_feast f_Md_feast_70 rfl ?_
            refine gw_getR k_Md_feast f_Md_feast_71 l_fldT_11_79 hc155 rfl ?_
            refine gw_aload_n k_Md_feast f_Md_feast_74 rfl ?_
            refine gw_getI k_Md_feast f_Md_feast_75 l_fldT_11_66 hc155 rfl ?_
            rw [show (wr (wr w 162 ((w 155 1).toNatClampNeg) a0) 163 ((w 155 1).toNatClampNeg) a1) 155 1 = w 155 1 from (wr_nc (by decide)).trans (wr_nc (by decide))]
            refine gw_iload_n k_Md_feast f_Md_feast_78 rfl ?_
            have hp := h.1
            have h := h.2
            refine gw_iast k_Md_feast f_Md_feast_79 hc164 hp ?_
            refine gw_aload_n k_Md_feast f_Md_feast_80 rfl ?_
            refine gw_getR k_Md_feast f_Md_feast_81 l_fldT_11_82 hc155 rfl ?_
            refine gw_aload_n k_Md_feast f_Md_feast_84 rfl ?_
            refine gw_getI k_Md_feast f_Md_feast_85 l_fldT_11_66 hc155 rfl ?_
            rw [show (wr (wr (wr w 162 ((w 155 1).toNatClampNeg) a0) 163 ((w 155 1).toNatClampNeg) a1) 164 ((w 155 1).toNatClampNeg) a2) 155 1 = w 155 1 from (wr_nc (by decide)).trans ((wr_nc (by decide)).trans (wr_nc (by decide)))]
            refine gw_iload k_Md_feast f_Md_feast_88 rfl ?_
            have hp := h.1
            have h := h.2
            refine gw_iast k_Md_feast f_Md_feast_90 hc165 hp ?_
            refine gw_aload_n k_Md_feast f_Md_feast_91 rfl ?_
            refine gw_getR k_Md_feast f_Md_feast_92 l_fldT_11_85 hc155 rfl ?_
            refine gw_aload_n k_Md_feast f_Md_feast_95 rfl ?_
            refine gw_getI k_Md_feast f_Md_feast_96 l_fldT_11_66 hc155 rfl ?_
            rw [show (wr (wr (wr (wr w 162 ((w 155 1).toNatClampNeg) a0) 163 ((w 155 1).toNatClampNeg) a1) 164 ((w 155 1).toNatClampNeg) a2) 165 ((w 155 1).toNatClampNeg) a3) 155 1 = w 155 1 from (wr_nc (by decide)).trans ((wr_nc (by decide)).trans ((wr_nc (by decide)).trans (wr_nc (by decide))))]
            refine gw_iload k_Md_feast f_Md_feast_99 rfl ?_
            have hp := h.1
            have h := h.2
            refine gw_iast k_Md_feast f_Md_feast_101 hc166 hp ?_
            refine gw_aload_n k_Md_feast f_Md_feast_102 rfl ?_
            refine gw_getR k_Md_feast f_Md_feast_103 l_fldT_11_88 hc155 rfl ?_
            refine gw_aload_n k_Md_feast f_Md_feast_106 rfl ?_
            refine gw_getI k_Md_feast f_Md_feast_107 l_fldT_11_66 hc155 rfl ?_
            rw [show (wr (wr (wr (wr (wr w 162 ((w 155 1).toNatClampNeg) a0) 163 ((w 155 1).toNatClampNeg) a1) 164 ((w 155 1).toNatClampNeg) a2) 165 ((w 155 1).toNatClampNeg) a3) 166 ((w 155 1).toNatClampNeg) a4) 155 1 = w 155 1 from (wr_nc (by decide)).trans ((wr_nc (by decide)).trans ((wr_nc (by decide)).trans ((wr_nc (by decide)).trans (wr_nc (by decide)))))]
            refine gw_iconst k_Md_feast f_Md_feast_110 qc_0 ?_
            have hp := h.1
            have h := h.2
            refine gw_iast k_Md_feast f_Md_feast_111 hc167 hp ?_
            refine gw_aload_n k_Md_feast f_Md_feast_112 rfl ?_
            refine gw_getR k_Md_feast f_Md_feast_113 l_fldT_11_91 hc155 rfl ?_
            refine gw_aload_n k_Md_feast f_Md_feast_116 rfl ?_
            refine gw_getI k_Md_feast f_Md_feast_117 l_fldT_11_66 hc155 rfl ?_
            rw [show (wr (wr (wr (wr (wr (wr w 162 ((w 155 1).toNatClampNeg) a0) 163 ((w 155 1).toNatClampNeg) a1) 164 ((w 155 1).toNatClampNeg) a2) 165 ((w 155 1).toNatClampNeg) a3) 166 ((w 155 1).toNatClampNeg) a4) 167 ((w 155 1).toNatClampNeg) 0) 155 1 = w 155 1 from (wr_nc (by decide)).trans ((wr_nc (by decide)).trans ((wr_nc (by decide)).trans ((wr_nc (by decide)).trans ((wr_nc (by decide)).trans (wr_nc (by decide))))))]
            refine gw_iconst k_Md_feast f_Md_feast_120 qc_0 ?_
            have hp := h.1
            have h := h.2
            refine gw_zast k_Md_feast f_Md_feast_121 hc168 hp ?_
            refine gw_aload_n k_Md_feast f_Md_feast_122 rfl ?_
            refine gw_dup k_Md_feast f_Md_feast_123 ?_
            refine gw_getI k_Md_feast f_Md_feast_124 l_fldT_11_66 hc155 rfl ?_
            rw [show (wr (wr (wr (wr (wr (wr (wr w 162 ((w 155 1).toNatClampNeg) a0) 163 ((w 155 1).toNatClampNeg) a1) 164 ((w 155 1).toNatClampNeg) a2) 165 ((w 155 1).toNatClampNeg) a3) 166 ((w 155 1).toNatClampNeg) a4) 167 ((w 155 1).toNatClampNeg) 0) 168 ((w 155 1).toNatClampNeg) (0 &&& 1)) 155 1 = w 155 1 from (wr_nc (by decide)).trans ((wr_nc (by decide)).trans ((wr_nc (by decide)).trans ((wr_nc (by decide)).trans ((wr_nc (by decide)).trans ((wr_nc (by decide)).trans (wr_nc (by decide)))))))]
            refine gw_iconst k_Md_feast f_Md_feast_127 qc_1 ?_
            refine gw_iadd k_Md_feast f_Md_feast_128 ?_
            refine gw_put k_Md_feast f_Md_feast_129 l_fldT_11_66 hc155 rfl rfl rfl rfl rfl ?_
            refine gw_aload_n k_Md_feast f_Md_feast_132 rfl ?_
            refine gw_iconst k_Md_feast f_Md_feast_133 qc_0 ?_
            refine gw_put k_Md_feast f_Md_feast_134 l_fldT_11_56 hc155 rfl rfl rfl rfl rfl ?_
            refine gw_aload_n k_Md_feast f_Md_feast_137 rfl ?_
            refine gw_getI k_Md_feast f_Md_feast_138 l_fldT_11_66 hc155 rfl ?_
            rw [show (wr (wr (wr (wr (wr (wr (wr (wr (wr w 162 ((w 155 1).toNatClampNeg) a0) 163 ((w 155 1).toNatClampNeg) a1) 164 ((w 155 1).toNatClampNeg) a2) 165 ((w 155 1).toNatClampNeg) a3) 166 ((w 155 1).toNatClampNeg) a4) 167 ((w 155 1).toNatClampNeg) 0) 168 ((w 155 1).toNatClampNeg) (0 &&& 1)) 155 1 ((w 155 1) + 1)) 155 15 0) 155 1 = (w 155 1) + 1 from (wr_nk (by decide)).trans (wr_eq)]
            refine gw_iconst k_Md_feast f_Md_feast_141 qc_1 ?_
            refine gw_isub k_Md_feast f_Md_feast_142 ?_
            exact gw_iret k_Md_feast f_Md_feast_143 rfl h
          · have c5 := Decidable.not_not.mp c5
            have h := h.1 c5
            refine gw_iconst k_Md_feast f_Md_feast_48 qc_m1 ?_
            exact gw_iret k_Md_feast f_Md_feast_49 rfl h
theorem sg_Md_around_0 {zs : List Int32} {a0 a1 a2 : Int32} {w : Wd} {Q : Option AV → Wd → Prop} (h : (((f_Md_in a0 0 ((w 155 1) - 1)) = 0 → Q (some (.inl (-1))) w) ∧ (¬ ((f_Md_in a0 0 ((w 155 1) - 1)) = 0) → (((f_Md_in a1 0 8) = 0 → Q (some (.inl (-1))) w) ∧ (¬ ((f_Md_in a1 0 8) = 0) → (vp_in a0 60 ∧ (vp_in a0 60 ∧ Q (some (.inl 0)) (wr (wr (wr w 167 a0.toNatClampNeg a1) 168 a0.toNatClampNeg (a2 &&& 1)) 155 15 0)))))))) : Gw zs 1 m_Md_around 0 [some (.inr (.inl (some 155))), some (.inl a0), some (.inl a1), some (.inl a2)] [] w Q := by
  refine gw_iload_n k_Md_around f_Md_around_0 rfl ?_
  refine gw_iconst k_Md_around f_Md_around_1 qc_0 ?_
  refine gw_aload_n k_Md_around f_Md_around_2 rfl ?_
  refine gw_getI k_Md_around f_Md_around_3 l_fldT_11_66 hc155 rfl ?_
  refine gw_iconst k_Md_around f_Md_around_6 qc_1 ?_
  refine gw_isub k_Md_around f_Md_around_7 ?_
  refine gw_static [.inl a0, .inl 0, .inl ((w 155 1) - 1)] k_Md_around f_Md_around_8 l_invT_11_1 (by decide) k_Md_in rfl (by exact Nat.le_of_ble_eq_true rfl) (dc := 0) (by decide) ?_ rfl
  refine ev_Md_in ?_
  show Gw zs 1 m_Md_around 11 [some (.inr (.inl (some 155))), some (.inl a0), some (.inl a1), some (.inl a2)] [.inl (f_Md_in a0 0 ((w 155 1) - 1))] w _
  refine gw_if_eq (t := 24) k_Md_around f_Md_around_11 rfl (fun c1 => ?_) (fun c1 => ?_)
  · have h := h.1 c1
    refine gw_iconst k_Md_around f_Md_around_24 qc_m1 ?_
    exact gw_iret k_Md_around f_Md_around_25 rfl h
  · have h := h.2 c1
    refine gw_iload_n k_Md_around f_Md_around_14 rfl ?_
    refine gw_iconst k_Md_around f_Md_around_15 qc_0 ?_
    refine gw_bipush k_Md_around f_Md_around_16 qb_8 ?_
    refine gw_static [.inl a1, .inl 0, .inl 8] k_Md_around f_Md_around_18 l_invT_11_1 (by decide) k_Md_in rfl (by exact Nat.le_of_ble_eq_true rfl) (dc := 0) (by decide) ?_ rfl
    refine ev_Md_in ?_
    show Gw zs 1 m_Md_around 21 [some (.inr (.inl (some 155))), some (.inl a0), some (.inl a1), some (.inl a2)] [.inl (f_Md_in a1 0 8)] w _
    refine gw_if_ne (t := 26) k_Md_around f_Md_around_21 rfl (fun c2 => ?_) (fun c2 => ?_)
    · have h := h.2 c2
      refine gw_aload_n k_Md_around f_Md_around_26 rfl ?_
      refine gw_getR k_Md_around f_Md_around_27 l_fldT_11_88 hc155 rfl ?_
      refine gw_iload_n k_Md_around f_Md_around_30 rfl ?_
      refine gw_iload_n k_Md_around f_Md_around_31 rfl ?_
      have hp := h.1
      have h := h.2
      refine gw_iast k_Md_around f_Md_around_32 hc167 hp ?_
      refine gw_aload_n k_Md_around f_Md_around_33 rfl ?_
      refine gw_getR k_Md_around f_Md_around_34 l_fldT_11_91 hc155 rfl ?_
      refine gw_iload_n k_Md_around f_Md_around_37 rfl ?_
      refine gw_iload_n k_Md_around f_Md_around_38 rfl ?_
      have hp := h.1
      have h := h.2
      refine gw_zast k_Md_around f_Md_around_39 hc168 hp ?_
      refine gw_aload_n k_Md_around f_Md_around_40 rfl ?_
      refine gw_iconst k_Md_around f_Md_around_41 qc_0 ?_
      refine gw_put k_Md_around f_Md_around_42 l_fldT_11_56 hc155 rfl rfl rfl rfl rfl ?_
      refine gw_iconst k_Md_around f_Md_around_45 qc_0 ?_
      exact gw_iret k_Md_around f_Md_around_46 rfl h
    · have c2 := Decidable.not_not.mp c2
      have h := h.1 c2
      refine gw_iconst k_Md_around f_Md_around_24 qc_m1 ?_
      exact gw_iret k_Md_around f_Md_around_25 rfl h
theorem sg_Md_raise_0 {zs : List Int32} {a0 a1 a2 : Int32} {w : Wd} {Q : Option AV → Wd → Prop} (h : (((f_Md_in a0 0 ((w 155 1) - 1)) = 0 → Q (some (.inl (-1))) w) ∧ (¬ ((f_Md_in a0 0 ((w 155 1) - 1)) = 0) → (((f_Md_in a1 1 9) = 0 → Q (some (.inl (-1))) w) ∧ (¬ ((f_Md_in a1 1 9) = 0) → (((f_Md_in a2 0 2) = 0 → Q (some (.inl (-1))) w) ∧ (¬ ((f_Md_in a2 0 2) = 0) → (vp_in a0 60 ∧ (vp_in a0 60 ∧ Q (some (.inl 0)) (wr (wr (wr w 164 a0.toNatClampNeg a1) 166 a0.toNatClampNeg a2) 155 15 0)))))))))) : Gw zs 1 m_Md_raise 0 [some (.inr (.inl (some 155))), some (.inl a0), some (.inl a1), some (.inl a2)] [] w Q := by
  refine gw_iload_n k_Md_raise f_Md_raise_0 rfl ?_
  refine gw_iconst k_Md_raise f_Md_raise_1 qc_0 ?_
  refine gw_aload_n k_Md_raise f_Md_raise_2 rfl ?_
  refine gw_getI k_Md_raise f_Md_raise_3 l_fldT_11_66 hc155 rfl ?_
  refine gw_iconst k_Md_raise f_Md_raise_6 qc_1 ?_
  refine gw_isub k_Md_raise f_Md_raise_7 ?_
  refine gw_static [.inl a0, .inl 0, .inl ((w 155 1) - 1)] k_Md_raise f_Md_raise_8 l_invT_11_1 (by decide) k_Md_in rfl (by exact Nat.le_of_ble_eq_true rfl) (dc := 0) (by decide) ?_ rfl
  refine ev_Md_in ?_
  show Gw zs 1 m_Md_raise 11 [some (.inr (.inl (some 155))), some (.inl a0), some (.inl a1), some (.inl a2)] [.inl (f_Md_in a0 0 ((w 155 1) - 1))] w _
  refine gw_if_eq (t := 33) k_Md_raise f_Md_raise_11 rfl (fun c1 => ?_) (fun c1 => ?_)
  · have h := h.1 c1
    refine gw_iconst k_Md_raise f_Md_raise_33 qc_m1 ?_
    exact gw_iret k_Md_raise f_Md_raise_34 rfl h
  · have h := h.2 c1
    refine gw_iload_n k_Md_raise f_Md_raise_14 rfl ?_
    refine gw_iconst k_Md_raise f_Md_raise_15 qc_1 ?_
    refine gw_bipush k_Md_raise f_Md_raise_16 qb_9 ?_
    refine gw_static [.inl a1, .inl 1, .inl 9] k_Md_raise f_Md_raise_18 l_invT_11_1 (by decide) k_Md_in rfl (by exact Nat.le_of_ble_eq_true rfl) (dc := 0) (by decide) ?_ rfl
    refine ev_Md_in ?_
    show Gw zs 1 m_Md_raise 21 [some (.inr (.inl (some 155))), some (.inl a0), some (.inl a1), some (.inl a2)] [.inl (f_Md_in a1 1 9)] w _
    refine gw_if_eq (t := 33) k_Md_raise f_Md_raise_21 rfl (fun c2 => ?_) (fun c2 => ?_)
    · have h := h.1 c2
      refine gw_iconst k_Md_raise f_Md_raise_33 qc_m1 ?_
      exact gw_iret k_Md_raise f_Md_raise_34 rfl h
    · have h := h.2 c2
      refine gw_iload_n k_Md_raise f_Md_raise_24 rfl ?_
      refine gw_iconst k_Md_raise f_Md_raise_25 qc_0 ?_
      refine gw_iconst k_Md_raise f_Md_raise_26 qc_2 ?_
      refine gw_static [.inl a2, .inl 0, .inl 2] k_Md_raise f_Md_raise_27 l_invT_11_1 (by decide) k_Md_in rfl (by exact Nat.le_of_ble_eq_true rfl) (dc := 0) (by decide) ?_ rfl
      refine ev_Md_in ?_
      show Gw zs 1 m_Md_raise 30 [some (.inr (.inl (some 155))), some (.inl a0), some (.inl a1), some (.inl a2)] [.inl (f_Md_in a2 0 2)] w _
      refine gw_if_ne (t := 35) k_Md_raise f_Md_raise_30 rfl (fun c3 => ?_) (fun c3 => ?_)
      · have h := h.2 c3
        refine gw_aload_n k_Md_raise f_Md_raise_35 rfl ?_
        refine gw_getR k_Md_raise f_Md_raise_36 l_fldT_11_79 hc155 rfl ?_
        refine gw_iload_n k_Md_raise f_Md_raise_39 rfl ?_
        refine gw_iload_n k_Md_raise f_Md_raise_40 rfl ?_
        have hp := h.1
        have h := h.2
        refine gw_iast k_Md_raise f_Md_raise_41 hc164 hp ?_
        refine gw_aload_n k_Md_raise f_Md_raise_42 rfl ?_
        refine gw_getR k_Md_raise f_Md_raise_43 l_fldT_11_85 hc155 rfl ?_
        refine gw_iload_n k_Md_raise f_Md_raise_46 rfl ?_
        refine gw_iload_n k_Md_raise f_Md_raise_47 rfl ?_
        have hp := h.1
        have h := h.2
        refine gw_iast k_Md_raise f_Md_raise_48 hc166 hp ?_
        refine gw_aload_n k_Md_raise f_Md_raise_49 rfl ?_
        refine gw_iconst k_Md_raise f_Md_raise_50 qc_0 ?_
        refine gw_put k_Md_raise f_Md_raise_51 l_fldT_11_56 hc155 rfl rfl rfl rfl rfl ?_
        refine gw_iconst k_Md_raise f_Md_raise_54 qc_0 ?_
        exact gw_iret k_Md_raise f_Md_raise_55 rfl h
      · have c3 := Decidable.not_not.mp c3
        have h := h.1 c3
        refine gw_iconst k_Md_raise f_Md_raise_33 qc_m1 ?_
        exact gw_iret k_Md_raise f_Md_raise_34 rfl h
theorem sg_Md_weekday_0 {zs : List Int32} {a0 a1 : Int32} {w : Wd} {Q : Option AV → Wd → Prop} (h : Ew zs 2 m_Md_firstWeekday [.inl a0] w (fun v w2 => ∃ r1 : Int32, v = some (.inl r1) ∧ Q (some (.inl ((r1 + a1) - (r1 + a1) / 7 * 7))) w2)) : Gw zs 3 m_Md_weekday 0 [some (.inl a0), some (.inl a1)] [] w Q := by
  refine gw_iload_n k_Md_weekday f_Md_weekday_0 rfl ?_
  refine gw_static [.inl a0] k_Md_weekday f_Md_weekday_1 l_invT_11_26 (by decide) k_Md_firstWeekday rfl (by exact Nat.le_of_ble_eq_true rfl) (dc := 2) (by decide) ?_ rfl
  refine h.mono (fun v w2 hh => ?_)
  obtain ⟨r1, rfl, h⟩ := hh
  show Gw zs 3 m_Md_weekday 4 [some (.inl a0), some (.inl a1)] [.inl r1] w2 _
  refine gw_iload_n k_Md_weekday f_Md_weekday_4 rfl ?_
  refine gw_iadd k_Md_weekday f_Md_weekday_5 ?_
  refine gw_bipush k_Md_weekday f_Md_weekday_6 qb_7 ?_
  refine gw_irem k_Md_weekday f_Md_weekday_8 (by decide) ?_
  exact gw_iret k_Md_weekday f_Md_weekday_9 rfl h
theorem sg_Md_feastDay_0 {zs : List Int32} {a0 a1 a2 : Int32} {w : Wd} {Q : Option AV → Wd → Prop} (h : ((a1 = 0 → (((f_Md_daysIn a0 (a2 / 100)) < (a2 - a2 / 100 * 100) → Q (some (.inl (-1))) w) ∧ (¬ ((f_Md_daysIn a0 (a2 / 100)) < (a2 - a2 / 100 * 100)) → Ew zs 2 m_Md_dayOf [.inl a0, .inl (a2 / 100), .inl (a2 - a2 / 100 * 100)] w (fun v w8 => ∃ r7 : Int32, v = some (.inl r7) ∧ Q (some (.inl r7)) w8)))) ∧ (¬ (a1 = 0) → ((a1 = 1 → Ew zs 3 m_Md_easter [.inl a0] w (fun v w4 => ∃ r3 : Int32, v = some (.inl r3) ∧ (((f_Md_in (r3 + a2) 0 ((f_Md_daysOf a0) - 1)) = 0 → Q (some (.inl (-1))) w4) ∧ (¬ ((f_Md_in (r3 + a2) 0 ((f_Md_daysOf a0) - 1)) = 0) → Q (some (.inl (r3 + a2))) w4)))) ∧ (¬ (a1 = 1) → Gw zs 4 m_Md_feastDay 79 [some (.inl a0), some (.inl a1), some (.inl a2), some (.inl (a2 / 100)), some (.inl 0), some (.inl 1)] [] w Q))))) : Gw zs 4 m_Md_feastDay 0 [some (.inl a0), some (.inl a1), some (.inl a2), none, none, none] [] w Q := by
  refine gw_iload_n k_Md_feastDay f_Md_feastDay_0 rfl ?_
  refine gw_if_ne (t := 36) k_Md_feastDay f_Md_feastDay_1 rfl (fun c1 => ?_) (fun c1 => ?_)
  · have h := h.2 c1
    refine gw_iload_n k_Md_feastDay f_Md_feastDay_36 rfl ?_
    refine gw_iconst k_Md_feastDay f_Md_feastDay_37 qc_1 ?_
    refine gw_icmp_ne (t := 68) k_Md_feastDay f_Md_feastDay_38 rfl (fun c2 => ?_) (fun c2 => ?_)
    · have h := h.2 c2
      refine gw_iload_n k_Md_feastDay f_Md_feastDay_68 rfl ?_
      refine gw_bipush k_Md_feastDay f_Md_feastDay_69 qb_100 ?_
      refine gw_idiv k_Md_feastDay f_Md_feastDay_71 (by decide) ?_
      refine gw_istore_n [some (.inl a0), some (.inl a1), some (.inl a2), some (.inl (a2 / 100)), none, none] k_Md_feastDay f_Md_feastDay_72 (Nat.le_of_ble_eq_true rfl) rfl ?_
      refine gw_iconst k_Md_feastDay f_Md_feastDay_73 qc_0 ?_
      refine gw_istore [some (.inl a0), some (.inl a1), some (.inl a2), some (.inl (a2 / 100)), some (.inl 0), none] k_Md_feastDay f_Md_feastDay_74 (Nat.le_of_ble_eq_true rfl) rfl ?_
      refine gw_iconst k_Md_feastDay f_Md_feastDay_76 qc_1 ?_
      refine gw_istore [some (.inl a0), some (.inl a1), some (.inl a2), some (.inl (a2 / 100)), some (.inl 0), some (.inl 1)] k_Md_feastDay f_Md_feastDay_77 (Nat.le_of_ble_eq_true rfl) rfl ?_
      exact h
    · have c2 := Decidable.not_not.mp c2
      have h := h.1 c2
      refine gw_iload_n k_Md_feastDay f_Md_feastDay_41 rfl ?_
      refine gw_static [.inl a0] k_Md_feastDay f_Md_feastDay_42 l_invT_11_29 (by decide) k_Md_easter rfl (by exact Nat.le_of_ble_eq_true rfl) (dc := 3) (by decide) ?_ rfl
      refine h.mono (fun v w4 hh => ?_)
      obtain ⟨r3, rfl, h⟩ := hh
      show Gw zs 4 m_Md_feastDay 45 [some (.inl a0), some (.inl a1), some (.inl a2), none, none, none] [.inl r3] w4 _
      refine gw_iload_n k_Md_feastDay f_Md_feastDay_45 rfl ?_
      refine gw_iadd k_Md_feastDay f_Md_feastDay_46 ?_
      refine gw_istore_n [some (.inl a0), some (.inl a1), some (.inl a2), some (.inl (r3 + a2)), none, none] k_Md_feastDay f_Md_feastDay_47 (Nat.le_of_ble_eq_true rfl) rfl ?_
      refine gw_iload_n k_Md_feastDay f_Md_feastDay_48 rfl ?_
      refine gw_iconst k_Md_feastDay f_Md_feastDay_49 qc_0 ?_
      refine gw_iload_n k_Md_feastDay f_Md_feastDay_50 rfl ?_
      refine gw_static [.inl a0] k_Md_feastDay f_Md_feastDay_51 l_invT_11_15 (by decide) k_Md_daysOf rfl (by exact Nat.le_of_ble_eq_true rfl) (dc := 1) (by decide) ?_ rfl
      refine ev_Md_daysOf ?_
      show Gw zs 4 m_Md_feastDay 54 [some (.inl a0), some (.inl a1), some (.inl a2), some (.inl (r3 + a2)), none, none] [.inl (f_Md_daysOf a0), .inl 0, .inl (r3 + a2)] w4 _
      refine gw_iconst k_Md_feastDay f_Md_feastDay_54 qc_1 ?_
      refine gw_isub k_Md_feastDay f_Md_feastDay_55 ?_
      refine gw_static [.inl (r3 + a2), .inl 0, .inl ((f_Md_daysOf a0) - 1)] k_Md_feastDay f_Md_feastDay_56 l_invT_11_1 (by decide) k_Md_in rfl (by exact Nat.le_of_ble_eq_true rfl) (dc := 0) (by decide) ?_ rfl
      refine ev_Md_in ?_
      show Gw zs 4 m_Md_feastDay 59 [some (.inl a0), some (.inl a1), some (.inl a2), some (.inl (r3 + a2)), none, none] [.inl (f_Md_in (r3 + a2) 0 ((f_Md_daysOf a0) - 1))] w4 _
      refine gw_if_eq (t := 66) k_Md_feastDay f_Md_feastDay_59 rfl (fun c5 => ?_) (fun c5 => ?_)
      · have h := h.1 c5
        refine gw_iconst k_Md_feastDay f_Md_feastDay_66 qc_m1 ?_
        exact gw_iret k_Md_feastDay f_Md_feastDay_67 rfl h
      · have h := h.2 c5
        refine gw_iload_n k_Md_feastDay f_Md_feastDay_62 rfl ?_
        refine gw_goto (t := 67) k_Md_feastDay f_Md_feastDay_63 rfl ?_
        exact gw_iret k_Md_feastDay f_Md_feastDay_67 rfl h
  · have c1 := Decidable.not_not.mp c1
    have h := h.1 c1
    refine gw_iload_n k_Md_feastDay f_Md_feastDay_4 rfl ?_
    refine gw_bipush k_Md_feastDay f_Md_feastDay_5 qb_100 ?_
    refine gw_irem k_Md_feastDay f_Md_feastDay_7 (by decide) ?_
    refine gw_iload_n k_Md_feastDay f_Md_feastDay_8 rfl ?_
    refine gw_iload_n k_Md_feastDay f_Md_feastDay_9 rfl ?_
    refine gw_bipush k_Md_feastDay f_Md_feastDay_10 qb_100 ?_
    refine gw_idiv k_Md_feastDay f_Md_feastDay_12 (by decide) ?_
    refine gw_static [.inl a0, .inl (a2 / 100)] k_Md_feastDay f_Md_feastDay_13 l_invT_11_11 (by decide) k_Md_daysIn rfl (by exact Nat.le_of_ble_eq_true rfl) (dc := 1) (by decide) ?_ rfl
    refine ev_Md_daysIn ?_
    show Gw zs 4 m_Md_feastDay 16 [some (.inl a0), some (.inl a1), some (.inl a2), none, none, none] [.inl (f_Md_daysIn a0 (a2 / 100)), .inl (a2 - a2 / 100 * 100)] w _
    refine gw_icmp_gt (t := 34) k_Md_feastDay f_Md_feastDay_16 rfl (fun c6 => ?_) (fun c6 => ?_)
    · have h := h.1 c6
      refine gw_iconst k_Md_feastDay f_Md_feastDay_34 qc_m1 ?_
      exact gw_iret k_Md_feastDay f_Md_feastDay_35 rfl h
    · have h := h.2 c6
      refine gw_iload_n k_Md_feastDay f_Md_feastDay_19 rfl ?_
      refine gw_iload_n k_Md_feastDay f_Md_feastDay_20 rfl ?_
      refine gw_bipush k_Md_feastDay f_Md_feastDay_21 qb_100 ?_
      refine gw_idiv k_Md_feastDay f_Md_feastDay_23 (by decide) ?_
      refine gw_iload_n k_Md_feastDay f_Md_feastDay_24 rfl ?_
      refine gw_bipush k_Md_feastDay f_Md_feastDay_25 qb_100 ?_
      refine gw_irem k_Md_feastDay f_Md_feastDay_27 (by decide) ?_
      refine gw_static [.inl a0, .inl (a2 / 100), .inl (a2 - a2 / 100 * 100)] k_Md_feastDay f_Md_feastDay_28 l_invT_11_19 (by decide) k_Md_dayOf rfl (by exact Nat.le_of_ble_eq_true rfl) (dc := 2) (by decide) ?_ rfl
      refine h.mono (fun v w8 hh => ?_)
      obtain ⟨r7, rfl, h⟩ := hh
      show Gw zs 4 m_Md_feastDay 31 [some (.inl a0), some (.inl a1), some (.inl a2), none, none, none] [.inl r7] w8 _
      refine gw_goto (t := 35) k_Md_feastDay f_Md_feastDay_31 rfl ?_
      exact gw_iret k_Md_feastDay f_Md_feastDay_35 rfl h
theorem sg_Md_feastDay_79 {zs : List Int32} {x0 x2 x3 x4 x5 : Int32} {o1 : Option AV} {w : Wd} {Q : Option AV → Wd → Prop} (h : (((f_Md_daysIn x0 x3) < x5 → Q (some (.inl (-1))) w) ∧ (¬ ((f_Md_daysIn x0 x3) < x5) → Ew zs 2 m_Md_dayOf [.inl x0, .inl x3, .inl x5] w (fun v w3 => ∃ r2 : Int32, v = some (.inl r2) ∧ Ew zs 3 m_Md_weekday [.inl x0, .inl r2] w3 (fun v w5 => ∃ r4 : Int32, v = some (.inl r4) ∧ ((r4 = ((x2 / 10) - (x2 / 10) / 10 * 10) → (((x4 + 1) = (x2 - x2 / 10 * 10) → Ew zs 2 m_Md_dayOf [.inl x0, .inl x3, .inl x5] w5 (fun v w9 => ∃ r8 : Int32, v = some (.inl r8) ∧ Q (some (.inl r8)) w9)) ∧ (¬ ((x4 + 1) = (x2 - x2 / 10 * 10)) → Gw zs 4 m_Md_feastDay 79 [some (.inl x0), o1, some (.inl x2), some (.inl x3), some (.inl (x4 + 1)), some (.inl (x5 + 1))] [] w5 Q))) ∧ (¬ (r4 = ((x2 / 10) - (x2 / 10) / 10 * 10)) → Gw zs 4 m_Md_feastDay 79 [some (.inl x0), o1, some (.inl x2), some (.inl x3), some (.inl x4), some (.inl (x5 + 1))] [] w5 Q))))))) : Gw zs 4 m_Md_feastDay 79 [some (.inl x0), o1, some (.inl x2), some (.inl x3), some (.inl x4), some (.inl x5)] [] w Q := by
  refine gw_iload k_Md_feastDay f_Md_feastDay_79 rfl ?_
  refine gw_iload_n k_Md_feastDay f_Md_feastDay_81 rfl ?_
  refine gw_iload_n k_Md_feastDay f_Md_feastDay_82 rfl ?_
  refine gw_static [.inl x0, .inl x3] k_Md_feastDay f_Md_feastDay_83 l_invT_11_11 (by decide) k_Md_daysIn rfl (by exact Nat.le_of_ble_eq_true rfl) (dc := 1) (by decide) ?_ rfl
  refine ev_Md_daysIn ?_
  show Gw zs 4 m_Md_feastDay 86 [some (.inl x0), o1, some (.inl x2), some (.inl x3), some (.inl x4), some (.inl x5)] [.inl (f_Md_daysIn x0 x3), .inl x5] w _
  refine gw_icmp_gt (t := 139) k_Md_feastDay f_Md_feastDay_86 rfl (fun c1 => ?_) (fun c1 => ?_)
  · have h := h.1 c1
    refine gw_iconst k_Md_feastDay f_Md_feastDay_139 qc_m1 ?_
    exact gw_iret k_Md_feastDay f_Md_feastDay_140 rfl h
  · have h := h.2 c1
    refine gw_iload_n k_Md_feastDay f_Md_feastDay_89 rfl ?_
    refine gw_iload_n k_Md_feastDay f_Md_feastDay_90 rfl ?_
    refine gw_iload_n k_Md_feastDay f_Md_feastDay_91 rfl ?_
    refine gw_iload k_Md_feastDay f_Md_feastDay_92 rfl ?_
    refine gw_static [.inl x0, .inl x3, .inl x5] k_Md_feastDay f_Md_feastDay_94 l_invT_11_19 (by decide) k_Md_dayOf rfl (by exact Nat.le_of_ble_eq_true rfl) (dc := 2) (by decide) ?_ rfl
    refine h.mono (fun v w3 hh => ?_)
    obtain ⟨r2, rfl, h⟩ := hh
    show Gw zs 4 m_Md_feastDay 97 [some (.inl x0), o1, some (.inl x2), some (.inl x3), some (.inl x4), some (.inl x5)] [.inl r2, .inl x0] w3 _
    refine gw_static [.inl x0, .inl r2] k_Md_feastDay f_Md_feastDay_97 l_invT_11_94 (by decide) k_Md_weekday rfl (by exact Nat.le_of_ble_eq_true rfl) (dc := 3) (by decide) ?_ rfl
    refine h.mono (fun v w5 hh => ?_)
    obtain ⟨r4, rfl, h⟩ := hh
    show Gw zs 4 m_Md_feastDay 100 [some (.inl x0), o1, some (.inl x2), some (.inl x3), some (.inl x4), some (.inl x5)] [.inl r4] w5 _
    refine gw_iload_n k_Md_feastDay f_Md_feastDay_100 rfl ?_
    refine gw_bipush k_Md_feastDay f_Md_feastDay_101 qb_10 ?_
    refine gw_idiv k_Md_feastDay f_Md_feastDay_103 (by decide) ?_
    refine gw_bipush k_Md_feastDay f_Md_feastDay_104 qb_10 ?_
    refine gw_irem k_Md_feastDay f_Md_feastDay_106 (by decide) ?_
    refine gw_icmp_eq (t := 113) k_Md_feastDay f_Md_feastDay_107 rfl (fun c6 => ?_) (fun c6 => ?_)
    · have h := h.1 c6
      refine gw_iinc [some (.inl x0), o1, some (.inl x2), some (.inl x3), some (.inl (x4 + 1)), some (.inl x5)] k_Md_feastDay f_Md_feastDay_113 rfl qc_1 (Nat.le_of_ble_eq_true rfl) rfl ?_
      refine gw_iload k_Md_feastDay f_Md_feastDay_116 rfl ?_
      refine gw_iload_n k_Md_feastDay f_Md_feastDay_118 rfl ?_
      refine gw_bipush k_Md_feastDay f_Md_feastDay_119 qb_10 ?_
      refine gw_irem k_Md_feastDay f_Md_feastDay_121 (by decide) ?_
      refine gw_icmp_ne (t := 133) k_Md_feastDay f_Md_feastDay_122 rfl (fun c7 => ?_) (fun c7 => ?_)
      · have h := h.2 c7
        refine gw_iinc [some (.inl x0), o1, some (.inl x2), some (.inl x3), some (.inl (x4 + 1)), some (.inl (x5 + 1))] k_Md_feastDay f_Md_feastDay_133 rfl qc_1 (Nat.le_of_ble_eq_true rfl) rfl ?_
        refine gw_goto (t := 79) k_Md_feastDay f_Md_feastDay_136 rfl ?_
        exact h
      · have c7 := Decidable.not_not.mp c7
        have h := h.1 c7
        refine gw_iload_n k_Md_feastDay f_Md_feastDay_125 rfl ?_
        refine gw_iload_n k_Md_feastDay f_Md_feastDay_126 rfl ?_
        refine gw_iload k_Md_feastDay f_Md_feastDay_127 rfl ?_
        refine gw_static [.inl x0, .inl x3, .inl x5] k_Md_feastDay f_Md_feastDay_129 l_invT_11_19 (by decide) k_Md_dayOf rfl (by exact Nat.le_of_ble_eq_true rfl) (dc := 2) (by decide) ?_ rfl
        refine h.mono (fun v w9 hh => ?_)
        obtain ⟨r8, rfl, h⟩ := hh
        show Gw zs 4 m_Md_feastDay 132 [some (.inl x0), o1, some (.inl x2), some (.inl x3), some (.inl (x4 + 1)), some (.inl x5)] [.inl r8] w9 _
        exact gw_iret k_Md_feastDay f_Md_feastDay_132 rfl h
    · have h := h.2 c6
      refine gw_goto (t := 133) k_Md_feastDay f_Md_feastDay_110 rfl ?_
      refine gw_iinc [some (.inl x0), o1, some (.inl x2), some (.inl x3), some (.inl x4), some (.inl (x5 + 1))] k_Md_feastDay f_Md_feastDay_133 rfl qc_1 (Nat.le_of_ble_eq_true rfl) rfl ?_
      refine gw_goto (t := 79) k_Md_feastDay f_Md_feastDay_136 rfl ?_
      exact h
theorem sg_Md_isIn_0 {zs : List Int32} {a0 a1 a2 a3 : Int32} {w : Wd} {Q : Option AV → Wd → Prop} (h : (vp_in a0 10 ∧ (((w 156 a0.toNatClampNeg) = 0 → (vp_in a0 10 ∧ (vp_in a0 10 ∧ Q (some (.inl (f_Md_in (a2 - a3) (w 157 a0.toNatClampNeg) (w 158 a0.toNatClampNeg)))) w))) ∧ (¬ ((w 156 a0.toNatClampNeg) = 0) → (vp_in a0 10 ∧ (vp_in a0 10 ∧ (((f_Md_daysIn a1 ((w 157 a0.toNatClampNeg) / 100)) ≤ ((w 157 a0.toNatClampNeg) - (w 157 a0.toNatClampNeg) / 100 * 100) → Ew zs 2 m_Md_dayOf [.inl a1, .inl ((w 157 a0.toNatClampNeg) / 100), .inl (f_Md_daysIn a1 ((w 157 a0.toNatClampNeg) / 100))] w (fun v w4 => ∃ r3 : Int32, v = some (.inl r3) ∧ (((f_Md_daysIn a1 ((w 158 a0.toNatClampNeg) / 100)) ≤ ((w 158 a0.toNatClampNeg) - (w 158 a0.toNatClampNeg) / 100 * 100) → Ew zs 2 m_Md_dayOf [.inl a1, .inl ((w 158 a0.toNatClampNeg) / 100), .inl (f_Md_daysIn a1 ((w 158 a0.toNatClampNeg) / 100))] w4 (fun v w7 => ∃ r6 : Int32, v = some (.inl r6) ∧ Q (some (.inl (f_Md_in a2 r3 r6))) w7)) ∧ (¬ ((f_Md_daysIn a1 ((w 158 a0.toNatClampNeg) / 100)) ≤ ((w 158 a0.toNatClampNeg) - (w 158 a0.toNatClampNeg) / 100 * 100)) → Ew zs 2 m_Md_dayOf [.inl a1, .inl ((w 158 a0.toNatClampNeg) / 100), .inl ((w 158 a0.toNatClampNeg) - (w 158 a0.toNatClampNeg) / 100 * 100)] w4 (fun v w9 => ∃ r8 : Int32, v = some (.inl r8) ∧ Q (some (.inl (f_Md_in a2 r3 r8))) w9))))) ∧ (¬ ((f_Md_daysIn a1 ((w 157 a0.toNatClampNeg) / 100)) ≤ ((w 157 a0.toNatClampNeg) - (w 157 a0.toNatClampNeg) / 100 * 100)) → Ew zs 2 m_Md_dayOf [.inl a1, .inl ((w 157 a0.toNatClampNeg) / 100), .inl ((w 157 a0.toNatClampNeg) - (w 157 a0.toNatClampNeg) / 100 * 100)] w (fun v w11 => ∃ r10 : Int32, v = some (.inl r10) ∧ (((f_Md_daysIn a1 ((w 158 a0.toNatClampNeg) / 100)) ≤ ((w 158 a0.toNatClampNeg) - (w 158 a0.toNatClampNeg) / 100 * 100) → Ew zs 2 m_Md_dayOf [.inl a1, .inl ((w 158 a0.toNatClampNeg) / 100), .inl (f_Md_daysIn a1 ((w 158 a0.toNatClampNeg) / 100))] w11 (fun v w14 => ∃ r13 : Int32, v = some (.inl r13) ∧ Q (some (.inl (f_Md_in a2 r10 r13))) w14)) ∧ (¬ ((f_Md_daysIn a1 ((w 158 a0.toNatClampNeg) / 100)) ≤ ((w 158 a0.toNatClampNeg) - (w 158 a0.toNatClampNeg) / 100 * 100)) → Ew zs 2 m_Md_dayOf [.inl a1, .inl ((w 158 a0.toNatClampNeg) / 100), .inl ((w 158 a0.toNatClampNeg) - (w 158 a0.toNatClampNeg) / 100 * 100)] w11 (fun v w16 => ∃ r15 : Int32, v = some (.inl r15) ∧ Q (some (.inl (f_Md_in a2 r10 r15))) w16)))))))))))) : Gw zs 3 m_Md_isIn 0 [some (.inr (.inl (some 155))), some (.inl a0), some (.inl a1), some (.inl a2), some (.inl a3), none, none, none, none] [] w Q := by
  refine gw_aload_n k_Md_isIn f_Md_isIn_0 rfl ?_
  refine gw_getR k_Md_isIn f_Md_isIn_1 l_fldT_11_36 hc155 rfl ?_
  refine gw_iload_n k_Md_isIn f_Md_isIn_4 rfl ?_
  have hp := h.1
  have h := h.2
  refine gw_zald k_Md_isIn f_Md_isIn_5 hc156 hp ?_
  refine gw_if_ne (t := 29) k_Md_isIn f_Md_isIn_6 rfl (fun c1 => ?_) (fun c1 => ?_)
  · have h := h.2 c1
    refine gw_aload_n k_Md_isIn f_Md_isIn_29 rfl ?_
    refine gw_getR k_Md_isIn f_Md_isIn_30 l_fldT_11_40 hc155 rfl ?_
    refine gw_iload_n k_Md_isIn f_Md_isIn_33 rfl ?_
    have hp := h.1
    have h := h.2
    refine gw_iald k_Md_isIn f_Md_isIn_34 hc157 hp ?_
    refine gw_istore [some (.inr (.inl (some 155))), some (.inl a0), some (.inl a1), some (.inl a2), some (.inl a3), some (.inl (w 157 a0.toNatClampNeg)), none, none, none] k_Md_isIn f_Md_isIn_35 (Nat.le_of_ble_eq_true rfl) rfl ?_
    refine gw_aload_n k_Md_isIn f_Md_isIn_37 rfl ?_
    refine gw_getR k_Md_isIn f_Md_isIn_38 l_fldT_11_44 hc155 rfl ?_
    refine gw_iload_n k_Md_isIn f_Md_isIn_41 rfl ?_
    have hp := h.1
    have h := h.2
    refine gw_iald k_Md_isIn f_Md_isIn_42 hc158 hp ?_
    refine gw_istore [some (.inr (.inl (some 155))), some (.inl a0), some (.inl a1), some (.inl a2), some (.inl a3), some (.inl (w 157 a0.toNatClampNeg)), some (.inl (w 158 a0.toNatClampNeg)), none, none] k_Md_isIn f_Md_isIn_43 (Nat.le_of_ble_eq_true rfl) rfl ?_
    refine gw_iload_n k_Md_isIn f_Md_isIn_45 rfl ?_
    refine gw_iload k_Md_isIn f_Md_isIn_46 rfl ?_
    refine gw_bipush k_Md_isIn f_Md_isIn_48 qb_100 ?_
    refine gw_idiv k_Md_isIn f_Md_isIn_50 (by decide) ?_
    refine gw_iload k_Md_isIn f_Md_isIn_51 rfl ?_
    refine gw_bipush k_Md_isIn f_Md_isIn_53 qb_100 ?_
    refine gw_irem k_Md_isIn f_Md_isIn_55 (by decide) ?_
    refine gw_iload_n k_Md_isIn f_Md_isIn_56 rfl ?_
    refine gw_iload k_Md_isIn f_Md_isIn_57 rfl ?_
    refine gw_bipush k_Md_isIn f_Md_isIn_59 qb_100 ?_
    refine gw_idiv k_Md_isIn f_Md_isIn_61 (by decide) ?_
    refine gw_static [.inl a1, .inl ((w 157 a0.toNatClampNeg) / 100)] k_Md_isIn f_Md_isIn_62 l_invT_11_11 (by decide) k_Md_daysIn rfl (by exact Nat.le_of_ble_eq_true rfl) (dc := 1) (by decide) ?_ rfl
    refine ev_Md_daysIn ?_
    show Gw zs 3 m_Md_isIn 65 [some (.inr (.inl (some 155))), some (.inl a0), some (.inl a1), some (.inl a2), some (.inl a3), some (.inl (w 157 a0.toNatClampNeg)), some (.inl (w 158 a0.toNatClampNeg)), none, none] [.inl (f_Md_daysIn a1 ((w 157 a0.toNatClampNeg) / 100)), .inl ((w 157 a0.toNatClampNeg) - (w 157 a0.toNatClampNeg) / 100 * 100), .inl ((w 157 a0.toNatClampNeg) / 100), .inl a1] w _
    refine gw_icmp_ge (t := 76) k_Md_isIn f_Md_isIn_65 rfl (fun c2 => ?_) (fun c2 => ?_)
    · have h := h.1 c2
      refine gw_iload_n k_Md_isIn f_Md_isIn_76 rfl ?_
      refine gw_iload k_Md_isIn f_Md_isIn_77 rfl ?_
      refine gw_bipush k_Md_isIn f_Md_isIn_79 qb_100 ?_
      refine gw_idiv k_Md_isIn f_Md_isIn_81 (by decide) ?_
      refine gw_static [.inl a1, .inl ((w 157 a0.toNatClampNeg) / 100)] k_Md_isIn f_Md_isIn_82 l_invT_11_11 (by decide) k_Md_daysIn rfl (by exact Nat.le_of_ble_eq_true rfl) (dc := 1) (by decide) ?_ rfl
      refine ev_Md_daysIn ?_
      show Gw zs 3 m_Md_isIn 85 [some (.inr (.inl (some 155))), some (.inl a0), some (.inl a1), some (.inl a2), some (.inl a3), some (.inl (w 157 a0.toNatClampNeg)), some (.inl (w 158 a0.toNatClampNeg)), none, none] [.inl (f_Md_daysIn a1 ((w 157 a0.toNatClampNeg) / 100)), .inl ((w 157 a0.toNatClampNeg) / 100), .inl a1] w _
      refine gw_static [.inl a1, .inl ((w 157 a0.toNatClampNeg) / 100), .inl (f_Md_daysIn a1 ((w 157 a0.toNatClampNeg) / 100))] k_Md_isIn f_Md_isIn_85 l_invT_11_19 (by decide) k_Md_dayOf rfl (by exact Nat.le_of_ble_eq_true rfl) (dc := 2) (by decide) ?_ rfl
      refine h.mono (fun v w4 hh => ?_)
      obtain ⟨r3, rfl, h⟩ := hh
      show Gw zs 3 m_Md_isIn 88 [some (.inr (.inl (some 155))), some (.inl a0), some (.inl a1), some (.inl a2), some (.inl a3), some (.inl (w 157 a0.toNatClampNeg)), some (.inl (w 158 a0.toNatClampNeg)), none, none] [.inl r3] w4 _
      refine gw_istore [some (.inr (.inl (some 155))), some (.inl a0), some (.inl a1), some (.inl a2), some (.inl a3), some (.inl (w 157 a0.toNatClampNeg)), some (.inl (w 158 a0.toNatClampNeg)), some (.inl r3), none] k_Md_isIn f_Md_isIn_88 (Nat.le_of_ble_eq_true rfl) rfl ?_
      refine gw_iload_n k_Md_isIn f_Md_isIn_90 rfl ?_
      refine gw_iload k_Md_isIn f_Md_isIn_91 rfl ?_
      refine gw_bipush k_Md_isIn f_Md_isIn_93 qb_100 ?_
      refine gw_idiv k_Md_isIn f_Md_isIn_95 (by decide) ?_
      refine gw_iload k_Md_isIn f_Md_isIn_96 rfl ?_
      refine gw_bipush k_Md_isIn f_Md_isIn_98 qb_100 ?_
      refine gw_irem k_Md_isIn f_Md_isIn_100 (by decide) ?_
      refine gw_iload_n k_Md_isIn f_Md_isIn_101 rfl ?_
      refine gw_iload k_Md_isIn f_Md_isIn_102 rfl ?_
      refine gw_bipush k_Md_isIn f_Md_isIn_104 qb_100 ?_
      refine gw_idiv k_Md_isIn f_Md_isIn_106 (by decide) ?_
      refine gw_static [.inl a1, .inl ((w 158 a0.toNatClampNeg) / 100)] k_Md_isIn f_Md_isIn_107 l_invT_11_11 (by decide) k_Md_daysIn rfl (by exact Nat.le_of_ble_eq_true rfl) (dc := 1) (by decide) ?_ rfl
      refine ev_Md_daysIn ?_
      show Gw zs 3 m_Md_isIn 110 [some (.inr (.inl (some 155))), some (.inl a0), some (.inl a1), some (.inl a2), some (.inl a3), some (.inl (w 157 a0.toNatClampNeg)), some (.inl (w 158 a0.toNatClampNeg)), some (.inl r3), none] [.inl (f_Md_daysIn a1 ((w 158 a0.toNatClampNeg) / 100)), .inl ((w 158 a0.toNatClampNeg) - (w 158 a0.toNatClampNeg) / 100 * 100), .inl ((w 158 a0.toNatClampNeg) / 100), .inl a1] w4 _
      refine gw_icmp_ge (t := 121) k_Md_isIn f_Md_isIn_110 rfl (fun c5 => ?_) (fun c5 => ?_)
      · have h := h.1 c5
        refine gw_iload_n k_Md_isIn f_Md_isIn_121 rfl ?_
        refine gw_iload k_Md_isIn f_Md_isIn_122 rfl ?_
        refine gw_bipush k_Md_isIn f_Md_isIn_124 qb_100 ?_
        refine gw_idiv k_Md_isIn f_Md_isIn_126 (by decide) ?_
        refine gw_static [.inl a1, .inl ((w 158 a0.toNatClampNeg) / 100)] k_Md_isIn f_Md_isIn_127 l_invT_11_11 (by decide) k_Md_daysIn rfl (by exact Nat.le_of_ble_eq_true rfl) (dc := 1) (by decide) ?_ rfl
        refine ev_Md_daysIn ?_
        show Gw zs 3 m_Md_isIn 130 [some (.inr (.inl (some 155))), some (.inl a0), some (.inl a1), some (.inl a2), some (.inl a3), some (.inl (w 157 a0.toNatClampNeg)), some (.inl (w 158 a0.toNatClampNeg)), some (.inl r3), none] [.inl (f_Md_daysIn a1 ((w 158 a0.toNatClampNeg) / 100)), .inl ((w 158 a0.toNatClampNeg) / 100), .inl a1] w4 _
        refine gw_static [.inl a1, .inl ((w 158 a0.toNatClampNeg) / 100), .inl (f_Md_daysIn a1 ((w 158 a0.toNatClampNeg) / 100))] k_Md_isIn f_Md_isIn_130 l_invT_11_19 (by decide) k_Md_dayOf rfl (by exact Nat.le_of_ble_eq_true rfl) (dc := 2) (by decide) ?_ rfl
        refine h.mono (fun v w7 hh => ?_)
        obtain ⟨r6, rfl, h⟩ := hh
        show Gw zs 3 m_Md_isIn 133 [some (.inr (.inl (some 155))), some (.inl a0), some (.inl a1), some (.inl a2), some (.inl a3), some (.inl (w 157 a0.toNatClampNeg)), some (.inl (w 158 a0.toNatClampNeg)), some (.inl r3), none] [.inl r6] w7 _
        refine gw_istore [some (.inr (.inl (some 155))), some (.inl a0), some (.inl a1), some (.inl a2), some (.inl a3), some (.inl (w 157 a0.toNatClampNeg)), some (.inl (w 158 a0.toNatClampNeg)), some (.inl r3), some (.inl r6)] k_Md_isIn f_Md_isIn_133 (Nat.le_of_ble_eq_true rfl) rfl ?_
        refine gw_iload_n k_Md_isIn f_Md_isIn_135 rfl ?_
        refine gw_iload k_Md_isIn f_Md_isIn_136 rfl ?_
        refine gw_iload k_Md_isIn f_Md_isIn_138 rfl ?_
        refine gw_static [.inl a2, .inl r3, .inl r6] k_Md_isIn f_Md_isIn_140 l_invT_11_1 (by decide) k_Md_in rfl (by exact Nat.le_of_ble_eq_true rfl) (dc := 0) (by decide) ?_ rfl
        refine ev_Md_in ?_
        show Gw zs 3 m_Md_isIn 143 [some (.inr (.inl (some 155))), some (.inl a0), some (.inl a1), some (.inl a2), some (.inl a3), some (.inl (w 157 a0.toNatClampNeg)), some (.inl (w 158 a0.toNatClampNeg)), some (.inl r3), some (.inl r6)] [.inl (f_Md_in a2 r3 r6)] w7 _
        exact gw_zret k_Md_isIn f_Md_isIn_143 rfl (fb_Md_in ..) h
      · have h := h.2 c5
        refine gw_iload k_Md_isIn f_Md_isIn_113 rfl ?_
        refine gw_bipush k_Md_isIn f_Md_isIn_115 qb_100 ?_
        refine gw_irem k_Md_isIn f_Md_isIn_117 (by decide) ?_
        refine gw_goto (t := 130) k_Md_isIn f_Md_isIn_118 rfl ?_
        refine gw_static [.inl a1, .inl ((w 158 a0.toNatClampNeg) / 100), .inl ((w 158 a0.toNatClampNeg) - (w 158 a0.toNatClampNeg) / 100 * 100)] k_Md_isIn f_Md_isIn_130 l_invT_11_19 (by decide) k_Md_dayOf rfl (by exact Nat.le_of_ble_eq_true rfl) (dc := 2) (by decide) ?_ rfl
        refine h.mono (fun v w9 hh => ?_)
        obtain ⟨r8, rfl, h⟩ := hh
        show Gw zs 3 m_Md_isIn 133 [some (.inr (.inl (some 155))), some (.inl a0), some (.inl a1), some (.inl a2), some (.inl a3), some (.inl (w 157 a0.toNatClampNeg)), some (.inl (w 158 a0.toNatClampNeg)), some (.inl r3), none] [.inl r8] w9 _
        refine gw_istore [some (.inr (.inl (some 155))), some (.inl a0), some (.inl a1), some (.inl a2), some (.inl a3), some (.inl (w 157 a0.toNatClampNeg)), some (.inl (w 158 a0.toNatClampNeg)), some (.inl r3), some (.inl r8)] k_Md_isIn f_Md_isIn_133 (Nat.le_of_ble_eq_true rfl) rfl ?_
        refine gw_iload_n k_Md_isIn f_Md_isIn_135 rfl ?_
        refine gw_iload k_Md_isIn f_Md_isIn_136 rfl ?_
        refine gw_iload k_Md_isIn f_Md_isIn_138 rfl ?_
        refine gw_static [.inl a2, .inl r3, .inl r8] k_Md_isIn f_Md_isIn_140 l_invT_11_1 (by decide) k_Md_in rfl (by exact Nat.le_of_ble_eq_true rfl) (dc := 0) (by decide) ?_ rfl
        refine ev_Md_in ?_
        show Gw zs 3 m_Md_isIn 143 [some (.inr (.inl (some 155))), some (.inl a0), some (.inl a1), some (.inl a2), some (.inl a3), some (.inl (w 157 a0.toNatClampNeg)), some (.inl (w 158 a0.toNatClampNeg)), some (.inl r3), some (.inl r8)] [.inl (f_Md_in a2 r3 r8)] w9 _
        exact gw_zret k_Md_isIn f_Md_isIn_143 rfl (fb_Md_in ..) h
    · have h := h.2 c2
      refine gw_iload k_Md_isIn f_Md_isIn_68 rfl ?_
      refine gw_bipush k_Md_isIn f_Md_isIn_70 qb_100 ?_
      refine gw_irem k_Md_isIn f_Md_isIn_72 (by decide) ?_
      refine gw_goto (t := 85) k_Md_isIn f_Md_isIn_73 rfl ?_
      refine gw_static [.inl a1, .inl ((w 157 a0.toNatClampNeg) / 100), .inl ((w 157 a0.toNatClampNeg) - (w 157 a0.toNatClampNeg) / 100 * 100)] k_Md_isIn f_Md_isIn_85 l_invT_11_19 (by decide) k_Md_dayOf rfl (by exact Nat.le_of_ble_eq_true rfl) (dc := 2) (by decide) ?_ rfl
      refine h.mono (fun v w11 hh => ?_)
      obtain ⟨r10, rfl, h⟩ := hh
      show Gw zs 3 m_Md_isIn 88 [some (.inr (.inl (some 155))), some (.inl a0), some (.inl a1), some (.inl a2), some (.inl a3), some (.inl (w 157 a0.toNatClampNeg)), some (.inl (w 158 a0.toNatClampNeg)), none, none] [.inl r10] w11 _
      refine gw_istore [some (.inr (.inl (some 155))), some (.inl a0), some (.inl a1), some (.inl a2), some (.inl a3), some (.inl (w 157 a0.toNatClampNeg)), some (.inl (w 158 a0.toNatClampNeg)), some (.inl r10), none] k_Md_isIn f_Md_isIn_88 (Nat.le_of_ble_eq_true rfl) rfl ?_
      refine gw_iload_n k_Md_isIn f_Md_isIn_90 rfl ?_
      refine gw_iload k_Md_isIn f_Md_isIn_91 rfl ?_
      refine gw_bipush k_Md_isIn f_Md_isIn_93 qb_100 ?_
      refine gw_idiv k_Md_isIn f_Md_isIn_95 (by decide) ?_
      refine gw_iload k_Md_isIn f_Md_isIn_96 rfl ?_
      refine gw_bipush k_Md_isIn f_Md_isIn_98 qb_100 ?_
      refine gw_irem k_Md_isIn f_Md_isIn_100 (by decide) ?_
      refine gw_iload_n k_Md_isIn f_Md_isIn_101 rfl ?_
      refine gw_iload k_Md_isIn f_Md_isIn_102 rfl ?_
      refine gw_bipush k_Md_isIn f_Md_isIn_104 qb_100 ?_
      refine gw_idiv k_Md_isIn f_Md_isIn_106 (by decide) ?_
      refine gw_static [.inl a1, .inl ((w 158 a0.toNatClampNeg) / 100)] k_Md_isIn f_Md_isIn_107 l_invT_11_11 (by decide) k_Md_daysIn rfl (by exact Nat.le_of_ble_eq_true rfl) (dc := 1) (by decide) ?_ rfl
      refine ev_Md_daysIn ?_
      show Gw zs 3 m_Md_isIn 110 [some (.inr (.inl (some 155))), some (.inl a0), some (.inl a1), some (.inl a2), some (.inl a3), some (.inl (w 157 a0.toNatClampNeg)), some (.inl (w 158 a0.toNatClampNeg)), some (.inl r10), none] [.inl (f_Md_daysIn a1 ((w 158 a0.toNatClampNeg) / 100)), .inl ((w 158 a0.toNatClampNeg) - (w 158 a0.toNatClampNeg) / 100 * 100), .inl ((w 158 a0.toNatClampNeg) / 100), .inl a1] w11 _
      refine gw_icmp_ge (t := 121) k_Md_isIn f_Md_isIn_110 rfl (fun c12 => ?_) (fun c12 => ?_)
      · have h := h.1 c12
        refine gw_iload_n k_Md_isIn f_Md_isIn_121 rfl ?_
        refine gw_iload k_Md_isIn f_Md_isIn_122 rfl ?_
        refine gw_bipush k_Md_isIn f_Md_isIn_124 qb_100 ?_
        refine gw_idiv k_Md_isIn f_Md_isIn_126 (by decide) ?_
        refine gw_static [.inl a1, .inl ((w 158 a0.toNatClampNeg) / 100)] k_Md_isIn f_Md_isIn_127 l_invT_11_11 (by decide) k_Md_daysIn rfl (by exact Nat.le_of_ble_eq_true rfl) (dc := 1) (by decide) ?_ rfl
        refine ev_Md_daysIn ?_
        show Gw zs 3 m_Md_isIn 130 [some (.inr (.inl (some 155))), some (.inl a0), some (.inl a1), some (.inl a2), some (.inl a3), some (.inl (w 157 a0.toNatClampNeg)), some (.inl (w 158 a0.toNatClampNeg)), some (.inl r10), none] [.inl (f_Md_daysIn a1 ((w 158 a0.toNatClampNeg) / 100)), .inl ((w 158 a0.toNatClampNeg) / 100), .inl a1] w11 _
        refine gw_static [.inl a1, .inl ((w 158 a0.toNatClampNeg) / 100), .inl (f_Md_daysIn a1 ((w 158 a0.toNatClampNeg) / 100))] k_Md_isIn f_Md_isIn_130 l_invT_11_19 (by decide) k_Md_dayOf rfl (by exact Nat.le_of_ble_eq_true rfl) (dc := 2) (by decide) ?_ rfl
        refine h.mono (fun v w14 hh => ?_)
        obtain ⟨r13, rfl, h⟩ := hh
        show Gw zs 3 m_Md_isIn 133 [some (.inr (.inl (some 155))), some (.inl a0), some (.inl a1), some (.inl a2), some (.inl a3), some (.inl (w 157 a0.toNatClampNeg)), some (.inl (w 158 a0.toNatClampNeg)), some (.inl r10), none] [.inl r13] w14 _
        refine gw_istore [some (.inr (.inl (some 155))), some (.inl a0), some (.inl a1), some (.inl a2), some (.inl a3), some (.inl (w 157 a0.toNatClampNeg)), some (.inl (w 158 a0.toNatClampNeg)), some (.inl r10), some (.inl r13)] k_Md_isIn f_Md_isIn_133 (Nat.le_of_ble_eq_true rfl) rfl ?_
        refine gw_iload_n k_Md_isIn f_Md_isIn_135 rfl ?_
        refine gw_iload k_Md_isIn f_Md_isIn_136 rfl ?_
        refine gw_iload k_Md_isIn f_Md_isIn_138 rfl ?_
        refine gw_static [.inl a2, .inl r10, .inl r13] k_Md_isIn f_Md_isIn_140 l_invT_11_1 (by decide) k_Md_in rfl (by exact Nat.le_of_ble_eq_true rfl) (dc := 0) (by decide) ?_ rfl
        refine ev_Md_in ?_
        show Gw zs 3 m_Md_isIn 143 [some (.inr (.inl (some 155))), some (.inl a0), some (.inl a1), some (.inl a2), some (.inl a3), some (.inl (w 157 a0.toNatClampNeg)), some (.inl (w 158 a0.toNatClampNeg)), some (.inl r10), some (.inl r13)] [.inl (f_Md_in a2 r10 r13)] w14 _
        exact gw_zret k_Md_isIn f_Md_isIn_143 rfl (fb_Md_in ..) h
      · have h := h.2 c12
        refine gw_iload k_Md_isIn f_Md_isIn_113 rfl ?_
        refine gw_bipush k_Md_isIn f_Md_isIn_115 qb_100 ?_
        refine gw_irem k_Md_isIn f_Md_isIn_117 (by decide) ?_
        refine gw_goto (t := 130) k_Md_isIn f_Md_isIn_118 rfl ?_
        refine gw_static [.inl a1, .inl ((w 158 a0.toNatClampNeg) / 100), .inl ((w 158 a0.toNatClampNeg) - (w 158 a0.toNatClampNeg) / 100 * 100)] k_Md_isIn f_Md_isIn_130 l_invT_11_19 (by decide) k_Md_dayOf rfl (by exact Nat.le_of_ble_eq_true rfl) (dc := 2) (by decide) ?_ rfl
        refine h.mono (fun v w16 hh => ?_)
        obtain ⟨r15, rfl, h⟩ := hh
        show Gw zs 3 m_Md_isIn 133 [some (.inr (.inl (some 155))), some (.inl a0), some (.inl a1), some (.inl a2), some (.inl a3), some (.inl (w 157 a0.toNatClampNeg)), some (.inl (w 158 a0.toNatClampNeg)), some (.inl r10), none] [.inl r15] w16 _
        refine gw_istore [some (.inr (.inl (some 155))), some (.inl a0), some (.inl a1), some (.inl a2), some (.inl a3), some (.inl (w 157 a0.toNatClampNeg)), some (.inl (w 158 a0.toNatClampNeg)), some (.inl r10), some (.inl r15)] k_Md_isIn f_Md_isIn_133 (Nat.le_of_ble_eq_true rfl) rfl ?_
        refine gw_iload_n k_Md_isIn f_Md_isIn_135 rfl ?_
        refine gw_iload k_Md_isIn f_Md_isIn_136 rfl ?_
        refine gw_iload k_Md_isIn f_Md_isIn_138 rfl ?_
        refine gw_static [.inl a2, .inl r10, .inl r15] k_Md_isIn f_Md_isIn_140 l_invT_11_1 (by decide) k_Md_in rfl (by exact Nat.le_of_ble_eq_true rfl) (dc := 0) (by decide) ?_ rfl
        refine ev_Md_in ?_
        show Gw zs 3 m_Md_isIn 143 [some (.inr (.inl (some 155))), some (.inl a0), some (.inl a1), some (.inl a2), some (.inl a3), some (.inl (w 157 a0.toNatClampNeg)), some (.inl (w 158 a0.toNatClampNeg)), some (.inl r10), some (.inl r15)] [.inl (f_Md_in a2 r10 r15)] w16 _
        exact gw_zret k_Md_isIn f_Md_isIn_143 rfl (fb_Md_in ..) h
  · have c1 := Decidable.not_not.mp c1
    have h := h.1 c1
    refine gw_iload_n k_Md_isIn f_Md_isIn_9 rfl ?_
    refine gw_iload k_Md_isIn f_Md_isIn_10 rfl ?_
    refine gw_isub k_Md_isIn f_Md_isIn_12 ?_
    refine gw_aload_n k_Md_isIn f_Md_isIn_13 rfl ?_
    refine gw_getR k_Md_isIn f_Md_isIn_14 l_fldT_11_40 hc155 rfl ?_
    refine gw_iload_n k_Md_isIn f_Md_isIn_17 rfl ?_
    have hp := h.1
    have h := h.2
    refine gw_iald k_Md_isIn f_Md_isIn_18 hc157 hp ?_
    refine gw_aload_n k_Md_isIn f_Md_isIn_19 rfl ?_
    refine gw_getR k_Md_isIn f_Md_isIn_20 l_fldT_11_44 hc155 rfl ?_
    refine gw_iload_n k_Md_isIn f_Md_isIn_23 rfl ?_
    have hp := h.1
    have h := h.2
    refine gw_iald k_Md_isIn f_Md_isIn_24 hc158 hp ?_
    refine gw_static [.inl (a2 - a3), .inl (w 157 a0.toNatClampNeg), .inl (w 158 a0.toNatClampNeg)] k_Md_isIn f_Md_isIn_25 l_invT_11_1 (by decide) k_Md_in rfl (by exact Nat.le_of_ble_eq_true rfl) (dc := 0) (by decide) ?_ rfl
    refine ev_Md_in ?_
    show Gw zs 3 m_Md_isIn 28 [some (.inr (.inl (some 155))), some (.inl a0), some (.inl a1), some (.inl a2), some (.inl a3), none, none, none, none] [.inl (f_Md_in (a2 - a3) (w 157 a0.toNatClampNeg) (w 158 a0.toNatClampNeg))] w _
    exact gw_zret k_Md_isIn f_Md_isIn_28 rfl (fb_Md_in ..) h
theorem sg_Md_meets_0 {zs : List Int32} {a0 a1 a2 a3 a4 : Int32} {w : Wd} {Q : Option AV → Wd → Prop} (h : (vp_in (w 155 22) 200 ∧ (vp_in (w 155 22) 200 ∧ (vp_in (w 155 22) 200 ∧ (vp_in (w 155 22) 200 ∧ (vp_in (w 155 22) 200 ∧ Q (none) (wr (wr (wr (wr (wr (wr w 175 ((w 155 22).toNatClampNeg) a0) 176 ((w 155 22).toNatClampNeg) a1) 177 ((w 155 22).toNatClampNeg) a2) 178 ((w 155 22).toNatClampNeg) a3) 179 ((w 155 22).toNatClampNeg) a4) 155 22 ((w 155 22) + 1)))))))) : Gw zs 0 m_Md_meets 0 [some (.inr (.inl (some 155))), some (.inl a0), some (.inl a1), some (.inl a2), some (.inl a3), some (.inl a4)] [] w Q := by
  refine gw_aload_n k_Md_meets f_Md_meets_0 rfl ?_
  refine gw_getR k_Md_meets f_Md_meets_1 l_fldT_11_97 hc155 rfl ?_
  refine gw_aload_n k_Md_meets f_Md_meets_4 rfl ?_
  refine gw_getI k_Md_meets f_Md_meets_5 l_fldT_11_100 hc155 rfl ?_
  refine gw_iload_n k_Md_meets f_Md_meets_8 rfl ?_
  have hp := h.1
  have h := h.2
  refine gw_iast k_Md_meets f_Md_meets_9 hc175 hp ?_
  refine gw_aload_n k_Md_meets f_Md_meets_10 rfl ?_
  refine gw_getR k_Md_meets f_Md_meets_11 l_fldT_11_103 hc155 rfl ?_
  refine gw_aload_n k_Md_meets f_Md_meets_14 rfl ?_
  refine gw_getI k_Md_meets f_Md_meets_15 l_fldT_11_100 hc155 rfl ?_
  rw [show (wr w 175 ((w 155 22).toNatClampNeg) a0) 155 22 = w 155 22 from wr_nc (by decide)]
  refine gw_iload_n k_Md_meets f_Md_meets_18 rfl ?_
  have hp := h.1
  have h := h.2
  refine gw_iast k_Md_meets f_Md_meets_19 hc176 hp ?_
  refine gw_aload_n k_Md_meets f_Md_meets_20 rfl ?_
  refine gw_getR k_Md_meets f_Md_meets_21 l_fldT_11_106 hc155 rfl ?_
  refine gw_aload_n k_Md_meets f_Md_meets_24 rfl ?_
  refine gw_getI k_Md_meets f_Md_meets_25 l_fldT_11_100 hc155 rfl ?_
  rw [show (wr (wr w 175 ((w 155 22).toNatClampNeg) a0) 176 ((w 155 22).toNatClampNeg) a1) 155 22 = w 155 22 from (wr_nc (by decide)).trans (wr_nc (by decide))]
  refine gw_iload_n k_Md_meets f_Md_meets_28 rfl ?_
  have hp := h.1
  have h := h.2
  refine gw_iast k_Md_meets f_Md_meets_29 hc177 hp ?_
  refine gw_aload_n k_Md_meets f_Md_meets_30 rfl ?_
  refine gw_getR k_Md_meets f_Md_meets_31 l_fldT_11_109 hc155 rfl ?_
  refine gw_aload_n k_Md_meets f_Md_meets_34 rfl ?_
  refine gw_getI k_Md_meets f_Md_meets_35 l_fldT_11_100 hc155 rfl ?_
  rw [show (wr (wr (wr w 175 ((w 155 22).toNatClampNeg) a0) 176 ((w 155 22).toNatClampNeg) a1) 177 ((w 155 22).toNatClampNeg) a2) 155 22 = w 155 22 from (wr_nc (by decide)).trans ((wr_nc (by decide)).trans (wr_nc (by decide)))]
  refine gw_iload k_Md_meets f_Md_meets_38 rfl ?_
  have hp := h.1
  have h := h.2
  refine gw_iast k_Md_meets f_Md_meets_40 hc178 hp ?_
  refine gw_aload_n k_Md_meets f_Md_meets_41 rfl ?_
  refine gw_getR k_Md_meets f_Md_meets_42 l_fldT_11_112 hc155 rfl ?_
  refine gw_aload_n k_Md_meets f_Md_meets_45 rfl ?_
  refine gw_getI k_Md_meets f_Md_meets_46 l_fldT_11_100 hc155 rfl ?_
  rw [show (wr (wr (wr (wr w 175 ((w 155 22).toNatClampNeg) a0) 176 ((w 155 22).toNatClampNeg) a1) 177 ((w 155 22).toNatClampNeg) a2) 178 ((w 155 22).toNatClampNeg) a3) 155 22 = w 155 22 from (wr_nc (by decide)).trans ((wr_nc (by decide)).trans ((wr_nc (by decide)).trans (wr_nc (by decide))))]
  refine gw_iload k_Md_meets f_Md_meets_49 rfl ?_
  have hp := h.1
  have h := h.2
  refine gw_iast k_Md_meets f_Md_meets_51 hc179 hp ?_
  refine gw_aload_n k_Md_meets f_Md_meets_52 rfl ?_
  refine gw_dup k_Md_meets f_Md_meets_53 ?_
  refine gw_getI k_Md_meets f_Md_meets_54 l_fldT_11_100 hc155 rfl ?_
  rw [show (wr (wr (wr (wr (wr w 175 ((w 155 22).toNatClampNeg) a0) 176 ((w 155 22).toNatClampNeg) a1) 177 ((w 155 22).toNatClampNeg) a2) 178 ((w 155 22).toNatClampNeg) a3) 179 ((w 155 22).toNatClampNeg) a4) 155 22 = w 155 22 from (wr_nc (by decide)).trans ((wr_nc (by decide)).trans ((wr_nc (by decide)).trans ((wr_nc (by decide)).trans (wr_nc (by decide)))))]
  refine gw_iconst k_Md_meets f_Md_meets_57 qc_1 ?_
  refine gw_iadd k_Md_meets f_Md_meets_58 ?_
  refine gw_put k_Md_meets f_Md_meets_59 l_fldT_11_100 hc155 rfl rfl rfl rfl rfl ?_
  exact gw_vret k_Md_meets f_Md_meets_62 rfl h
theorem sg_Md_gather_0 {zs : List Int32} {a0 a1 : Int32} {w : Wd} {Q : Option AV → Wd → Prop} (h : Gw zs 4 m_Md_gather 10 [some (.inr (.inl (some 155))), some (.inl a0), some (.inl a1), some (.inl (-1)), some (.inl 0), none, none, none, none] [] (wr w 155 22 0) Q) : Gw zs 4 m_Md_gather 0 [some (.inr (.inl (some 155))), some (.inl a0), some (.inl a1), none, none, none, none, none, none] [] w Q := by
  refine gw_aload_n k_Md_gather f_Md_gather_0 rfl ?_
  refine gw_iconst k_Md_gather f_Md_gather_1 qc_0 ?_
  refine gw_put k_Md_gather f_Md_gather_2 l_fldT_11_100 hc155 rfl rfl rfl rfl rfl ?_
  refine gw_iconst k_Md_gather f_Md_gather_5 qc_m1 ?_
  refine gw_istore_n [some (.inr (.inl (some 155))), some (.inl a0), some (.inl a1), some (.inl (-1)), none, none, none, none, none] k_Md_gather f_Md_gather_6 (Nat.le_of_ble_eq_true rfl) rfl ?_
  refine gw_iconst k_Md_gather f_Md_gather_7 qc_0 ?_
  refine gw_istore [some (.inr (.inl (some 155))), some (.inl a0), some (.inl a1), some (.inl (-1)), some (.inl 0), none, none, none, none] k_Md_gather f_Md_gather_8 (Nat.le_of_ble_eq_true rfl) rfl ?_
  exact h
theorem sg_Md_gather_10 {zs : List Int32} {x1 x2 x3 x4 : Int32} {o5 o6 o7 o8 : Option AV} {w : Wd} {Q : Option AV → Wd → Prop} (h : (((w 155 0) ≤ x4 → (((((w 155 29) + x2) - ((w 155 29) + x2) / 7 * 7) = 0 → Gw zs 4 m_Md_gather 60 [some (.inr (.inl (some 155))), some (.inl x1), some (.inl x2), some (.inl x3), some (.inl x4), o5, o6, o7, o8] [.inl 1] w Q) ∧ (¬ ((((w 155 29) + x2) - ((w 155 29) + x2) / 7 * 7) = 0) → Gw zs 4 m_Md_gather 60 [some (.inr (.inl (some 155))), some (.inl x1), some (.inl x2), some (.inl x3), some (.inl x4), o5, o6, o7, o8] [.inl 0] w Q))) ∧ (¬ ((w 155 0) ≤ x4) → Ew zs 3 m_Md_isIn [.inr (.inl (some 155)), .inl x4, .inl x1, .inl x2, .inl (w 155 28)] w (fun v w4 => ∃ r3 : Int32, v = some (.inl r3) ∧ ((r3 = 0 → Gw zs 4 m_Md_gather 37 [some (.inr (.inl (some 155))), some (.inl x1), some (.inl x2), some (.inl x3), some (.inl x4), o5, o6, o7, o8] [] w4 Q) ∧ (¬ (r3 = 0) → Gw zs 4 m_Md_gather 37 [some (.inr (.inl (some 155))), some (.inl x1), some (.inl x2), some (.inl x4), some (.inl x4), o5, o6, o7, o8] [] w4 Q)))))) : Gw zs 4 m_Md_gather 10 [some (.inr (.inl (some 155))), some (.inl x1), some (.inl x2), some (.inl x3), some (.inl x4), o5, o6, o7, o8] [] w Q := by
  refine gw_iload k_Md_gather f_Md_gather_10 rfl ?_
  refine gw_aload_n k_Md_gather f_Md_gather_12 rfl ?_
  refine gw_getI k_Md_gather f_Md_gather_13 l_fldT_11_32 hc155 rfl ?_
  refine gw_icmp_ge (t := 43) k_Md_gather f_Md_gather_16 rfl (fun c1 => ?_) (fun c1 => ?_)
  · have h := h.1 c1
    refine gw_aload_n k_Md_gather f_Md_gather_43 rfl ?_
    refine gw_getI k_Md_gather f_Md_gather_44 l_fldT_11_122 hc155 rfl ?_
    refine gw_iload_n k_Md_gather f_Md_gather_47 rfl ?_
    refine gw_iadd k_Md_gather f_Md_gather_48 ?_
    refine gw_bipush k_Md_gather f_Md_gather_49 qb_7 ?_
    refine gw_irem k_Md_gather f_Md_gather_51 (by decide) ?_
    refine gw_if_ne (t := 59) k_Md_gather f_Md_gather_52 rfl (fun c2 => ?_) (fun c2 => ?_)
    · have h := h.2 c2
      refine gw_iconst k_Md_gather f_Md_gather_59 qc_0 ?_
      exact h
    · have c2 := Decidable.not_not.mp c2
      have h := h.1 c2
      refine gw_iconst k_Md_gather f_Md_gather_55 qc_1 ?_
      refine gw_goto (t := 60) k_Md_gather f_Md_gather_56 rfl ?_
      exact h
  · have h := h.2 c1
    refine gw_aload_n k_Md_gather f_Md_gather_19 rfl ?_
    refine gw_iload k_Md_gather f_Md_gather_20 rfl ?_
    refine gw_iload_n k_Md_gather f_Md_gather_22 rfl ?_
    refine gw_iload_n k_Md_gather f_Md_gather_23 rfl ?_
    refine gw_aload_n k_Md_gather f_Md_gather_24 rfl ?_
    refine gw_getI k_Md_gather f_Md_gather_25 l_fldT_11_115 hc155 rfl ?_
    refine gw_virtual [.inl x4, .inl x1, .inl x2, .inl (w 155 28)] k_Md_gather f_Md_gather_28 l_invT_11_118 k_Md_isIn hc155 rfl rfl rfl (by exact Nat.le_of_ble_eq_true rfl) (dc := 3) (by decide) ?_ rfl
    refine h.mono (fun v w4 hh => ?_)
    obtain ⟨r3, rfl, h⟩ := hh
    show Gw zs 4 m_Md_gather 31 [some (.inr (.inl (some 155))), some (.inl x1), some (.inl x2), some (.inl x3), some (.inl x4), o5, o6, o7, o8] [.inl r3] w4 _
    refine gw_if_eq (t := 37) k_Md_gather f_Md_gather_31 rfl (fun c5 => ?_) (fun c5 => ?_)
    · have h := h.1 c5
      exact h
    · have h := h.2 c5
      refine gw_iload k_Md_gather f_Md_gather_34 rfl ?_
      refine gw_istore_n [some (.inr (.inl (some 155))), some (.inl x1), some (.inl x2), some (.inl x4), some (.inl x4), o5, o6, o7, o8] k_Md_gather f_Md_gather_36 (Nat.le_of_ble_eq_true rfl) rfl ?_
      exact h
theorem sg_Md_gather_37 {zs : List Int32} {x1 x2 x3 x4 : Int32} {o5 o6 o7 o8 : Option AV} {w : Wd} {Q : Option AV → Wd → Prop} (h : Gw zs 4 m_Md_gather 10 [some (.inr (.inl (some 155))), some (.inl x1), some (.inl x2), some (.inl x3), some (.inl (x4 + 1)), o5, o6, o7, o8] [] w Q) : Gw zs 4 m_Md_gather 37 [some (.inr (.inl (some 155))), some (.inl x1), some (.inl x2), some (.inl x3), some (.inl x4), o5, o6, o7, o8] [] w Q := by
  refine gw_iinc [some (.inr (.inl (some 155))), some (.inl x1), some (.inl x2), some (.inl x3), some (.inl (x4 + 1)), o5, o6, o7, o8] k_Md_gather f_Md_gather_37 rfl qc_1 (Nat.le_of_ble_eq_true rfl) rfl ?_
  refine gw_goto (t := 10) k_Md_gather f_Md_gather_40 rfl ?_
  exact h
theorem sg_Md_gather_60 {zs : List Int32} {x2 x3 s0 : Int32} {o1 o4 o5 o6 o7 o8 : Option AV} {w : Wd} {Q : Option AV → Wd → Prop} (h : ((x3 = (-1) → ((s0 = 0 → Gw zs 4 m_Md_gather 100 [some (.inr (.inl (some 155))), o1, some (.inl x2), some (.inl x3), some (.inl s0), o5, o6, o7, o8] [.inl 0] w Q) ∧ (¬ (s0 = 0) → Gw zs 4 m_Md_gather 100 [some (.inr (.inl (some 155))), o1, some (.inl x2), some (.inl x3), some (.inl s0), o5, o6, o7, o8] [.inl 3] w Q))) ∧ (¬ (x3 = (-1)) → ((s0 = 0 → (vp_in x3 10 ∧ Gw zs 4 m_Md_gather 100 [some (.inr (.inl (some 155))), o1, some (.inl x2), some (.inl x3), some (.inl s0), o5, o6, o7, o8] [.inl (w 160 x3.toNatClampNeg)] w Q)) ∧ (¬ (s0 = 0) → (vp_in x3 10 ∧ Gw zs 4 m_Md_gather 100 [some (.inr (.inl (some 155))), o1, some (.inl x2), some (.inl x3), some (.inl s0), o5, o6, o7, o8] [.inl (w 159 x3.toNatClampNeg)] w Q)))))) : Gw zs 4 m_Md_gather 60 [some (.inr (.inl (some 155))), o1, some (.inl x2), some (.inl x3), o4, o5, o6, o7, o8] [.inl s0] w Q := by
  refine gw_istore [some (.inr (.inl (some 155))), o1, some (.inl x2), some (.inl x3), some (.inl s0), o5, o6, o7, o8] k_Md_gather f_Md_gather_60 (Nat.le_of_ble_eq_true rfl) rfl ?_
  refine gw_iload_n k_Md_gather f_Md_gather_62 rfl ?_
  refine gw_iconst k_Md_gather f_Md_gather_63 qc_m1 ?_
  refine gw_icmp_ne (t := 80) k_Md_gather f_Md_gather_64 rfl (fun c1 => ?_) (fun c1 => ?_)
  · have h := h.2 c1
    refine gw_iload k_Md_gather f_Md_gather_80 rfl ?_
    refine gw_if_eq (t := 94) k_Md_gather f_Md_gather_82 rfl (fun c2 => ?_) (fun c2 => ?_)
    · have h := h.1 c2
      refine gw_aload_n k_Md_gather f_Md_gather_94 rfl ?_
      refine gw_getR k_Md_gather f_Md_gather_95 l_fldT_11_50 hc155 rfl ?_
      refine gw_iload_n k_Md_gather f_Md_gather_98 rfl ?_
      have hp := h.1
      have h := h.2
      refine gw_iald k_Md_gather f_Md_gather_99 hc160 hp ?_
      exact h
    · have h := h.2 c2
      refine gw_aload_n k_Md_gather f_Md_gather_85 rfl ?_
      refine gw_getR k_Md_gather f_Md_gather_86 l_fldT_11_47 hc155 rfl ?_
      refine gw_iload_n k_Md_gather f_Md_gather_89 rfl ?_
      have hp := h.1
      have h := h.2
      refine gw_iald k_Md_gather f_Md_gather_90 hc159 hp ?_
      refine gw_goto (t := 100) k_Md_gather f_Md_gather_91 rfl ?_
      exact h
  · have c1 := Decidable.not_not.mp c1
    have h := h.1 c1
    refine gw_iload k_Md_gather f_Md_gather_67 rfl ?_
    refine gw_if_eq (t := 76) k_Md_gather f_Md_gather_69 rfl (fun c3 => ?_) (fun c3 => ?_)
    · have h := h.1 c3
      refine gw_iconst k_Md_gather f_Md_gather_76 qc_0 ?_
      refine gw_goto (t := 100) k_Md_gather f_Md_gather_77 rfl ?_
      exact h
    · have h := h.2 c3
      refine gw_iconst k_Md_gather f_Md_gather_72 qc_3 ?_
      refine gw_goto (t := 100) k_Md_gather f_Md_gather_73 rfl ?_
      exact h
theorem sg_Md_gather_100 {zs : List Int32} {x2 x3 x4 s0 : Int32} {o1 o5 o6 o7 o8 : Option AV} {w : Wd} {Q : Option AV → Wd → Prop} (h : ((x4 = 0 → Gw zs 4 m_Md_gather 113 [some (.inr (.inl (some 155))), o1, some (.inl x2), some (.inl x3), some (.inl x4), some (.inl s0), o6, o7, o8] [.inl 0, .inr (.inl (some 155))] w Q) ∧ (¬ (x4 = 0) → Gw zs 4 m_Md_gather 113 [some (.inr (.inl (some 155))), o1, some (.inl x2), some (.inl x3), some (.inl x4), some (.inl s0), o6, o7, o8] [.inl 1, .inr (.inl (some 155))] w Q))) : Gw zs 4 m_Md_gather 100 [some (.inr (.inl (some 155))), o1, some (.inl x2), some (.inl x3), some (.inl x4), o5, o6, o7, o8] [.inl s0] w Q := by
  refine gw_istore [some (.inr (.inl (some 155))), o1, some (.inl x2), some (.inl x3), some (.inl x4), some (.inl s0), o6, o7, o8] k_Md_gather f_Md_gather_100 (Nat.le_of_ble_eq_true rfl) rfl ?_
  refine gw_aload_n k_Md_gather f_Md_gather_102 rfl ?_
  refine gw_iload k_Md_gather f_Md_gather_103 rfl ?_
  refine gw_if_eq (t := 112) k_Md_gather f_Md_gather_105 rfl (fun c1 => ?_) (fun c1 => ?_)
  · have h := h.1 c1
    refine gw_iconst k_Md_gather f_Md_gather_112 qc_0 ?_
    exact h
  · have h := h.2 c1
    refine gw_iconst k_Md_gather f_Md_gather_108 qc_1 ?_
    refine gw_goto (t := 113) k_Md_gather f_Md_gather_109 rfl ?_
    exact h
theorem sg_Md_gather_113 {zs : List Int32} {x2 x3 x4 x5 s1 : Int32} {o1 o6 o7 o8 : Option AV} {w : Wd} {Q : Option AV → Wd → Prop} (h : ((x3 = (-1) → Gw zs 4 m_Md_gather 131 [some (.inr (.inl (some 155))), o1, some (.inl x2), some (.inl x3), some (.inl x4), some (.inl x5), o6, o7, o8] [.inl 0, .inl x5, .inl (-1), .inl s1, .inr (.inl (some 155))] w Q) ∧ (¬ (x3 = (-1)) → (vp_in x3 10 ∧ Gw zs 4 m_Md_gather 131 [some (.inr (.inl (some 155))), o1, some (.inl x2), some (.inl x3), some (.inl x4), some (.inl x5), o6, o7, o8] [.inl (w 161 x3.toNatClampNeg), .inl x5, .inl (-1), .inl s1, .inr (.inl (some 155))] w Q)))) : Gw zs 4 m_Md_gather 113 [some (.inr (.inl (some 155))), o1, some (.inl x2), some (.inl x3), some (.inl x4), some (.inl x5), o6, o7, o8] [.inl s1, .inr (.inl (some 155))] w Q := by
  refine gw_iconst k_Md_gather f_Md_gather_113 qc_m1 ?_
  refine gw_iload k_Md_gather f_Md_gather_114 rfl ?_
  refine gw_iload_n k_Md_gather f_Md_gather_116 rfl ?_
  refine gw_iconst k_Md_gather f_Md_gather_117 qc_m1 ?_
  refine gw_icmp_ne (t := 125) k_Md_gather f_Md_gather_118 rfl (fun c1 => ?_) (fun c1 => ?_)
  · have h := h.2 c1
    refine gw_aload_n k_Md_gather f_Md_gather_125 rfl ?_
    refine gw_getR k_Md_gather f_Md_gather_126 l_fldT_11_53 hc155 rfl ?_
    refine gw_iload_n k_Md_gather f_Md_gather_129 rfl ?_
    have hp := h.1
    have h := h.2
    refine gw_iald k_Md_gather f_Md_gather_130 hc161 hp ?_
    exact h
  · have c1 := Decidable.not_not.mp c1
    have h := h.1 c1
    refine gw_iconst k_Md_gather f_Md_gather_121 qc_0 ?_
    refine gw_goto (t := 131) k_Md_gather f_Md_gather_122 rfl ?_
    exact h
theorem sg_Md_gather_131 {zs : List Int32} {x2 x4 x5 s1 s2 s3 s4 : Int32} {o1 o3 o6 o7 o8 : Option AV} {w : Wd} {Q : Option AV → Wd → Prop} (h : ((x4 = 0 → ((x5 = 0 → Gw zs 4 m_Md_gather 146 [some (.inr (.inl (some 155))), o1, some (.inl x2), o3, some (.inl x4), some (.inl x5), o6, o7, o8] [.inl 0, .inl s4, .inl s3, .inl s2, .inl s1, .inr (.inl (some 155))] w Q) ∧ (¬ (x5 = 0) → Gw zs 4 m_Md_gather 145 [some (.inr (.inl (some 155))), o1, some (.inl x2), o3, some (.inl x4), some (.inl x5), o6, o7, o8] [.inl s4, .inl s3, .inl s2, .inl s1, .inr (.inl (some 155))] w Q))) ∧ (¬ (x4 = 0) → Gw zs 4 m_Md_gather 145 [some (.inr (.inl (some 155))), o1, some (.inl x2), o3, some (.inl x4), some (.inl x5), o6, o7, o8] [.inl s4, .inl s3, .inl s2, .inl s1, .inr (.inl (some 155))] w Q))) : Gw zs 4 m_Md_gather 131 [some (.inr (.inl (some 155))), o1, some (.inl x2), o3, some (.inl x4), some (.inl x5), o6, o7, o8] [.inl s4, .inl s3, .inl s2, .inl s1, .inr (.inl (some 155))] w Q := by
  refine gw_iload k_Md_gather f_Md_gather_131 rfl ?_
  refine gw_if_ne (t := 145) k_Md_gather f_Md_gather_133 rfl (fun c1 => ?_) (fun c1 => ?_)
  · have h := h.2 c1
    exact h
  · have c1 := Decidable.not_not.mp c1
    have h := h.1 c1
    refine gw_iload k_Md_gather f_Md_gather_136 rfl ?_
    refine gw_if_ne (t := 145) k_Md_gather f_Md_gather_138 rfl (fun c2 => ?_) (fun c2 => ?_)
    · have h := h.2 c2
      exact h
    · have c2 := Decidable.not_not.mp c2
      have h := h.1 c2
      refine gw_iconst k_Md_gather f_Md_gather_141 qc_0 ?_
      refine gw_goto (t := 146) k_Md_gather f_Md_gather_142 rfl ?_
      exact h
theorem sg_Md_gather_145 {zs : List Int32} {x2 s1 s2 s3 s4 : Int32} {o1 o3 o4 o5 o6 o7 o8 : Option AV} {w : Wd} {Q : Option AV → Wd → Prop} (h : Gw zs 4 m_Md_gather 146 [some (.inr (.inl (some 155))), o1, some (.inl x2), o3, o4, o5, o6, o7, o8] [.inl 1, .inl s4, .inl s3, .inl s2, .inl s1, .inr (.inl (some 155))] w Q) : Gw zs 4 m_Md_gather 145 [some (.inr (.inl (some 155))), o1, some (.inl x2), o3, o4, o5, o6, o7, o8] [.inl s4, .inl s3, .inl s2, .inl s1, .inr (.inl (some 155))] w Q := by
  refine gw_iconst k_Md_gather f_Md_gather_145 qc_1 ?_
  exact h
theorem sg_Md_gather_146 {zs : List Int32} {x2 s1 s2 s3 s4 s5 : Int32} {o1 o3 o4 o5 o6 o7 o8 : Option AV} {w : Wd} {Q : Option AV → Wd → Prop} (h : Ew zs 0 m_Md_meets [.inr (.inl (some 155)), .inl s1, .inl s2, .inl s3, .inl s4, .inl s5] w (fun v w1 => v = none ∧ Gw zs 4 m_Md_gather 152 [some (.inr (.inl (some 155))), o1, some (.inl x2), o3, o4, o5, some (.inl 0), o7, o8] [] w1 Q)) : Gw zs 4 m_Md_gather 146 [some (.inr (.inl (some 155))), o1, some (.inl x2), o3, o4, o5, o6, o7, o8] [.inl s5, .inl s4, .inl s3, .inl s2, .inl s1, .inr (.inl (some 155))] w Q := by
  refine gw_virtual [.inl s1, .inl s2, .inl s3, .inl s4, .inl s5] k_Md_gather f_Md_gather_146 l_invT_11_125 k_Md_meets hc155 rfl rfl rfl (by exact Nat.le_of_ble_eq_true rfl) (dc := 0) (by decide) ?_ rfl
  refine h.mono (fun v w1 hh => ?_)
  obtain ⟨rfl, h⟩ := hh
  show Gw zs 4 m_Md_gather 149 [some (.inr (.inl (some 155))), o1, some (.inl x2), o3, o4, o5, o6, o7, o8] [] w1 _
  refine gw_iconst k_Md_gather f_Md_gather_149 qc_0 ?_
  refine gw_istore [some (.inr (.inl (some 155))), o1, some (.inl x2), o3, o4, o5, some (.inl 0), o7, o8] k_Md_gather f_Md_gather_150 (Nat.le_of_ble_eq_true rfl) rfl ?_
  exact h
theorem sg_Md_gather_152 {zs : List Int32} {x2 x6 : Int32} {o1 o3 o4 o5 o7 o8 : Option AV} {w : Wd} {Q : Option AV → Wd → Prop} (h : (((w 155 1) ≤ x6 → Q (none) w) ∧ (¬ ((w 155 1) ≤ x6) → (vp_in x6 60 ∧ (((w 169 x6.toNatClampNeg) = (-1) → Gw zs 4 m_Md_gather 345 [some (.inr (.inl (some 155))), o1, some (.inl x2), o3, o4, o5, some (.inl x6), o7, o8] [] w Q) ∧ (¬ ((w 169 x6.toNatClampNeg) = (-1)) → (vp_in x6 60 ∧ (((w 169 x6.toNatClampNeg) = x2 → (vp_in x6 60 ∧ (vp_in x6 60 ∧ (vp_in x6 60 ∧ Ew zs 0 m_Md_meets [.inr (.inl (some 155)), .inl 2, .inl x6, .inl (w 164 x6.toNatClampNeg), .inl (w 165 x6.toNatClampNeg), .inl (w 166 x6.toNatClampNeg)] w (fun v w4 => v = none ∧ Gw zs 4 m_Md_gather 214 [some (.inr (.inl (some 155))), o1, some (.inl x2), o3, o4, o5, some (.inl x6), o7, o8] [] w4 Q))))) ∧ (¬ ((w 169 x6.toNatClampNeg) = x2) → Gw zs 4 m_Md_gather 214 [some (.inr (.inl (some 155))), o1, some (.inl x2), o3, o4, o5, some (.inl x6), o7, o8] [] w Q))))))))) : Gw zs 4 m_Md_gather 152 [some (.inr (.inl (some 155))), o1, some (.inl x2), o3, o4, o5, some (.inl x6), o7, o8] [] w Q := by
  refine gw_iload k_Md_gather f_Md_gather_152 rfl ?_
  refine gw_aload_n k_Md_gather f_Md_gather_154 rfl ?_
  refine gw_getI k_Md_gather f_Md_gather_155 l_fldT_11_66 hc155 rfl ?_
  refine gw_icmp_ge (t := 351) k_Md_gather f_Md_gather_158 rfl (fun c1 => ?_) (fun c1 => ?_)
  · have h := h.1 c1
    exact gw_vret k_Md_gather f_Md_gather_351 rfl h
  · have h := h.2 c1
    refine gw_aload_n k_Md_gather f_Md_gather_161 rfl ?_
    refine gw_getR k_Md_gather f_Md_gather_162 l_fldT_11_129 hc155 rfl ?_
    refine gw_iload k_Md_gather f_Md_gather_165 rfl ?_
    have hp := h.1
    have h := h.2
    refine gw_iald k_Md_gather f_Md_gather_167 hc169 hp ?_
    refine gw_iconst k_Md_gather f_Md_gather_168 qc_m1 ?_
    refine gw_icmp_ne (t := 175) k_Md_gather f_Md_gather_169 rfl (fun c2 => ?_) (fun c2 => ?_)
    · have h := h.2 c2
      refine gw_aload_n k_Md_gather f_Md_gather_175 rfl ?_
      refine gw_getR k_Md_gather f_Md_gather_176 l_fldT_11_129 hc155 rfl ?_
      refine gw_iload k_Md_gather f_Md_gather_179 rfl ?_
      have hp := h.1
      have h := h.2
      refine gw_iald k_Md_gather f_Md_gather_181 hc169 hp ?_
      refine gw_iload_n k_Md_gather f_Md_gather_182 rfl ?_
      refine gw_icmp_ne (t := 214) k_Md_gather f_Md_gather_183 rfl (fun c3 => ?_) (fun c3 => ?_)
      · have h := h.2 c3
        exact h
      · have c3 := Decidable.not_not.mp c3
        have h := h.1 c3
        refine gw_aload_n k_Md_gather f_Md_gather_186 rfl ?_
        refine gw_iconst k_Md_gather f_Md_gather_187 qc_2 ?_
        refine gw_iload k_Md_gather f_Md_gather_188 rfl ?_
        refine gw_aload_n k_Md_gather f_Md_gather_190 rfl ?_
        refine gw_getR k_Md_gather f_Md_gather_191 l_fldT_11_79 hc155 rfl ?_
        refine gw_iload k_Md_gather f_Md_gather_194 rfl ?_
        have hp := h.1
        have h := h.2
        refine gw_iald k_Md_gather f_Md_gather_196 hc164 hp ?_
        refine gw_aload_n k_Md_gather f_Md_gather_197 rfl ?_
        refine gw_getR k_Md_gather f_Md_gather_198 l_fldT_11_82 hc155 rfl ?_
        refine gw_iload k_Md_gather f_Md_gather_201 rfl ?_
        have hp := h.1
        have h := h.2
        refine gw_iald k_Md_gather f_Md_gather_203 hc165 hp ?_
        refine gw_aload_n k_Md_gather f_Md_gather_204 rfl ?_
        refine gw_getR k_Md_gather f_Md_gather_205 l_fldT_11_85 hc155 rfl ?_
        refine gw_iload k_Md_gather f_Md_gather_208 rfl ?_
        have hp := h.1
        have h := h.2
        refine gw_iald k_Md_gather f_Md_gather_210 hc166 hp ?_
        refine gw_virtual [.inl 2, .inl x6, .inl (w 164 x6.toNatClampNeg), .inl (w 165 x6.toNatClampNeg), .inl (w 166 x6.toNatClampNeg)] k_Md_gather f_Md_gather_211 l_invT_11_125 k_Md_meets hc155 rfl rfl rfl (by exact Nat.le_of_ble_eq_true rfl) (dc := 0) (by decide) ?_ rfl
        refine h.mono (fun v w4 hh => ?_)
        obtain ⟨rfl, h⟩ := hh
        show Gw zs 4 m_Md_gather 214 [some (.inr (.inl (some 155))), o1, some (.inl x2), o3, o4, o5, some (.inl x6), o7, o8] [] w4 _
        exact h
    · have c2 := Decidable.not_not.mp c2
      have h := h.1 c2
      refine gw_goto (t := 345) k_Md_gather f_Md_gather_172 rfl ?_
      exact h
theorem sg_Md_gather_214 {zs : List Int32} {x2 x6 : Int32} {o1 o3 o4 o5 o7 o8 : Option AV} {w : Wd} {Q : Option AV → Wd → Prop} (h : (vp_in x6 60 ∧ (vp_in x6 60 ∧ (((w 167 x6.toNatClampNeg) ≤ 0 → Gw zs 4 m_Md_gather 281 [some (.inr (.inl (some 155))), o1, some (.inl x2), o3, o4, o5, some (.inl x6), some (.inl (x2 - (w 169 x6.toNatClampNeg))), o8] [] w Q) ∧ (¬ ((w 167 x6.toNatClampNeg) ≤ 0) → (((f_Md_in (x2 - (w 169 x6.toNatClampNeg)) 1 7) = 0 → Gw zs 4 m_Md_gather 281 [some (.inr (.inl (some 155))), o1, some (.inl x2), o3, o4, o5, some (.inl x6), some (.inl (x2 - (w 169 x6.toNatClampNeg))), o8] [] w Q) ∧ (¬ ((f_Md_in (x2 - (w 169 x6.toNatClampNeg)) 1 7) = 0) → (vp_in x6 60 ∧ (((x2 - (w 169 x6.toNatClampNeg)) = 7 → Gw zs 4 m_Md_gather 269 [some (.inr (.inl (some 155))), o1, some (.inl x2), o3, o4, o5, some (.inl x6), some (.inl (x2 - (w 169 x6.toNatClampNeg))), o8] [.inl 1, .inl (w 167 x6.toNatClampNeg), .inl x6, .inl 3, .inr (.inl (some 155))] w Q) ∧ (¬ ((x2 - (w 169 x6.toNatClampNeg)) = 7) → Gw zs 4 m_Md_gather 269 [some (.inr (.inl (some 155))), o1, some (.inl x2), o3, o4, o5, some (.inl x6), some (.inl (x2 - (w 169 x6.toNatClampNeg))), o8] [.inl 0, .inl (w 167 x6.toNatClampNeg), .inl x6, .inl 3, .inr (.inl (some 155))] w Q)))))))))) : Gw zs 4 m_Md_gather 214 [some (.inr (.inl (some 155))), o1, some (.inl x2), o3, o4, o5, some (.inl x6), o7, o8] [] w Q := by
  refine gw_iload_n k_Md_gather f_Md_gather_214 rfl ?_
  refine gw_aload_n k_Md_gather f_Md_gather_215 rfl ?_
  refine gw_getR k_Md_gather f_Md_gather_216 l_fldT_11_129 hc155 rfl ?_
  refine gw_iload k_Md_gather f_Md_gather_219 rfl ?_
  have hp := h.1
  have h := h.2
  refine gw_iald k_Md_gather f_Md_gather_221 hc169 hp ?_
  refine gw_isub k_Md_gather f_Md_gather_222 ?_
  refine gw_istore [some (.inr (.inl (some 155))), o1, some (.inl x2), o3, o4, o5, some (.inl x6), some (.inl (x2 - (w 169 x6.toNatClampNeg))), o8] k_Md_gather f_Md_gather_223 (Nat.le_of_ble_eq_true rfl) rfl ?_
  refine gw_aload_n k_Md_gather f_Md_gather_225 rfl ?_
  refine gw_getR k_Md_gather f_Md_gather_226 l_fldT_11_88 hc155 rfl ?_
  refine gw_iload k_Md_gather f_Md_gather_229 rfl ?_
  have hp := h.1
  have h := h.2
  refine gw_iald k_Md_gather f_Md_gather_231 hc167 hp ?_
  refine gw_if_le (t := 281) k_Md_gather f_Md_gather_232 rfl (fun c1 => ?_) (fun c1 => ?_)
  · have h := h.1 c1
    exact h
  · have h := h.2 c1
    refine gw_iload k_Md_gather f_Md_gather_235 rfl ?_
    refine gw_iconst k_Md_gather f_Md_gather_237 qc_1 ?_
    refine gw_bipush k_Md_gather f_Md_gather_238 qb_7 ?_
    refine gw_static [.inl (x2 - (w 169 x6.toNatClampNeg)), .inl 1, .inl 7] k_Md_gather f_Md_gather_240 l_invT_11_1 (by decide) k_Md_in rfl (by exact Nat.le_of_ble_eq_true rfl) (dc := 0) (by decide) ?_ rfl
    refine ev_Md_in ?_
    show Gw zs 4 m_Md_gather 243 [some (.inr (.inl (some 155))), o1, some (.inl x2), o3, o4, o5, some (.inl x6), some (.inl (x2 - (w 169 x6.toNatClampNeg))), o8] [.inl (f_Md_in (x2 - (w 169 x6.toNatClampNeg)) 1 7)] w _
    refine gw_if_eq (t := 281) k_Md_gather f_Md_gather_243 rfl (fun c2 => ?_) (fun c2 => ?_)
    · have h := h.1 c2
      exact h
    · have h := h.2 c2
      refine gw_aload_n k_Md_gather f_Md_gather_246 rfl ?_
      refine gw_iconst k_Md_gather f_Md_gather_247 qc_3 ?_
      refine gw_iload k_Md_gather f_Md_gather_248 rfl ?_
      refine gw_aload_n k_Md_gather f_Md_gather_250 rfl ?_
      refine gw_getR k_Md_gather f_Md_gather_251 l_fldT_11_88 hc155 rfl ?_
      refine gw_iload k_Md_gather f_Md_gather_254 rfl ?_
      have hp := h.1
      have h := h.2
      refine gw_iald k_Md_gather f_Md_gather_256 hc167 hp ?_
      refine gw_iload k_Md_gather f_Md_gather_257 rfl ?_
      refine gw_bipush k_Md_gather f_Md_gather_259 qb_7 ?_
      refine gw_icmp_ne (t := 268) k_Md_gather f_Md_gather_261 rfl (fun c3 => ?_) (fun c3 => ?_)
      · have h := h.2 c3
        refine gw_iconst k_Md_gather f_Md_gather_268 qc_0 ?_
        exact h
      · have c3 := Decidable.not_not.mp c3
        have h := h.1 c3
        refine gw_iconst k_Md_gather f_Md_gather_264 qc_1 ?_
        refine gw_goto (t := 269) k_Md_gather f_Md_gather_265 rfl ?_
        exact h
theorem sg_Md_gather_269 {zs : List Int32} {x2 x6 s1 s2 s3 s4 : Int32} {o1 o3 o4 o5 o7 o8 : Option AV} {w : Wd} {Q : Option AV → Wd → Prop} (h : (vp_in x6 60 ∧ Ew zs 0 m_Md_meets [.inr (.inl (some 155)), .inl s1, .inl s2, .inl (s3 + s4), .inl (w 165 x6.toNatClampNeg), .inl 1] w (fun v w1 => v = none ∧ Gw zs 4 m_Md_gather 281 [some (.inr (.inl (some 155))), o1, some (.inl x2), o3, o4, o5, some (.inl x6), o7, o8] [] w1 Q))) : Gw zs 4 m_Md_gather 269 [some (.inr (.inl (some 155))), o1, some (.inl x2), o3, o4, o5, some (.inl x6), o7, o8] [.inl s4, .inl s3, .inl s2, .inl s1, .inr (.inl (some 155))] w Q := by
  refine gw_iadd k_Md_gather f_Md_gather_269 ?_
  refine gw_aload_n k_Md_gather f_Md_gather_270 rfl ?_
  refine gw_getR k_Md_gather f_Md_gather_271 l_fldT_11_82 hc155 rfl ?_
  refine gw_iload k_Md_gather f_Md_gather_274 rfl ?_
  have hp := h.1
  have h := h.2
  refine gw_iald k_Md_gather f_Md_gather_276 hc165 hp ?_
  refine gw_iconst k_Md_gather f_Md_gather_277 qc_1 ?_
  refine gw_virtual [.inl s1, .inl s2, .inl (s3 + s4), .inl (w 165 x6.toNatClampNeg), .inl 1] k_Md_gather f_Md_gather_278 l_invT_11_125 k_Md_meets hc155 rfl rfl rfl (by exact Nat.le_of_ble_eq_true rfl) (dc := 0) (by decide) ?_ rfl
  refine h.mono (fun v w1 hh => ?_)
  obtain ⟨rfl, h⟩ := hh
  show Gw zs 4 m_Md_gather 281 [some (.inr (.inl (some 155))), o1, some (.inl x2), o3, o4, o5, some (.inl x6), o7, o8] [] w1 _
  exact h
theorem sg_Md_gather_281 {zs : List Int32} {x2 x6 : Int32} {o1 o3 o4 o5 o7 o8 : Option AV} {w : Wd} {Q : Option AV → Wd → Prop} (h : (vp_in x6 60 ∧ ((((w 169 x6.toNatClampNeg) - 1) < 0 → Gw zs 4 m_Md_gather 313 [some (.inr (.inl (some 155))), o1, some (.inl x2), o3, o4, o5, some (.inl x6), o7, some (.inl ((w 169 x6.toNatClampNeg) - 1))] [] w Q) ∧ (¬ (((w 169 x6.toNatClampNeg) - 1) < 0) → (((((w 155 29) + ((w 169 x6.toNatClampNeg) - 1)) - ((w 155 29) + ((w 169 x6.toNatClampNeg) - 1)) / 7 * 7) = 0 → Gw zs 4 m_Md_gather 313 [some (.inr (.inl (some 155))), o1, some (.inl x2), o3, o4, o5, some (.inl x6), o7, some (.inl (((w 169 x6.toNatClampNeg) - 1) + (-1)))] [] w Q) ∧ (¬ ((((w 155 29) + ((w 169 x6.toNatClampNeg) - 1)) - ((w 155 29) + ((w 169 x6.toNatClampNeg) - 1)) / 7 * 7) = 0) → Gw zs 4 m_Md_gather 313 [some (.inr (.inl (some 155))), o1, some (.inl x2), o3, o4, o5, some (.inl x6), o7, some (.inl ((w 169 x6.toNatClampNeg) - 1))] [] w Q)))))) : Gw zs 4 m_Md_gather 281 [some (.inr (.inl (some 155))), o1, some (.inl x2), o3, o4, o5, some (.inl x6), o7, o8] [] w Q := by
  refine gw_aload_n k_Md_gather f_Md_gather_281 rfl ?_
  refine gw_getR k_Md_gather f_Md_gather_282 l_fldT_11_129 hc155 rfl ?_
  refine gw_iload k_Md_gather f_Md_gather_285 rfl ?_
  have hp := h.1
  have h := h.2
  refine gw_iald k_Md_gather f_Md_gather_287 hc169 hp ?_
  refine gw_iconst k_Md_gather f_Md_gather_288 qc_1 ?_
  refine gw_isub k_Md_gather f_Md_gather_289 ?_
  refine gw_istore [some (.inr (.inl (some 155))), o1, some (.inl x2), o3, o4, o5, some (.inl x6), o7, some (.inl ((w 169 x6.toNatClampNeg) - 1))] k_Md_gather f_Md_gather_290 (Nat.le_of_ble_eq_true rfl) rfl ?_
  refine gw_iload k_Md_gather f_Md_gather_292 rfl ?_
  refine gw_if_lt (t := 313) k_Md_gather f_Md_gather_294 rfl (fun c1 => ?_) (fun c1 => ?_)
  · have h := h.1 c1
    exact h
  · have h := h.2 c1
    refine gw_aload_n k_Md_gather f_Md_gather_297 rfl ?_
    refine gw_getI k_Md_gather f_Md_gather_298 l_fldT_11_122 hc155 rfl ?_
    refine gw_iload k_Md_gather f_Md_gather_301 rfl ?_
    refine gw_iadd k_Md_gather f_Md_gather_303 ?_
    refine gw_bipush k_Md_gather f_Md_gather_304 qb_7 ?_
    refine gw_irem k_Md_gather f_Md_gather_306 (by decide) ?_
    refine gw_if_ne (t := 313) k_Md_gather f_Md_gather_307 rfl (fun c2 => ?_) (fun c2 => ?_)
    · have h := h.2 c2
      exact h
    · have c2 := Decidable.not_not.mp c2
      have h := h.1 c2
      refine gw_iinc [some (.inr (.inl (some 155))), o1, some (.inl x2), o3, o4, o5, some (.inl x6), o7, some (.inl (((w 169 x6.toNatClampNeg) - 1) + (-1)))] k_Md_gather f_Md_gather_310 rfl qc_m1 (Nat.le_of_ble_eq_true rfl) rfl ?_
      exact h
theorem sg_Md_gather_313 {zs : List Int32} {x2 x6 x8 : Int32} {o1 o3 o4 o5 o7 : Option AV} {w : Wd} {Q : Option AV → Wd → Prop} (h : (vp_in x6 60 ∧ (((w 168 x6.toNatClampNeg) = 0 → Gw zs 4 m_Md_gather 345 [some (.inr (.inl (some 155))), o1, some (.inl x2), o3, o4, o5, some (.inl x6), o7, some (.inl x8)] [] w Q) ∧ (¬ ((w 168 x6.toNatClampNeg) = 0) → ((x8 = x2 → (vp_in x6 60 ∧ Ew zs 0 m_Md_meets [.inr (.inl (some 155)), .inl 4, .inl x6, .inl 2, .inl (w 165 x6.toNatClampNeg), .inl 0] w (fun v w3 => v = none ∧ Gw zs 4 m_Md_gather 345 [some (.inr (.inl (some 155))), o1, some (.inl x2), o3, o4, o5, some (.inl x6), o7, some (.inl x8)] [] w3 Q))) ∧ (¬ (x8 = x2) → Gw zs 4 m_Md_gather 345 [some (.inr (.inl (some 155))), o1, some (.inl x2), o3, o4, o5, some (.inl x6), o7, some (.inl x8)] [] w Q)))))) : Gw zs 4 m_Md_gather 313 [some (.inr (.inl (some 155))), o1, some (.inl x2), o3, o4, o5, some (.inl x6), o7, some (.inl x8)] [] w Q := by
  refine gw_aload_n k_Md_gather f_Md_gather_313 rfl ?_
  refine gw_getR k_Md_gather f_Md_gather_314 l_fldT_11_91 hc155 rfl ?_
  refine gw_iload k_Md_gather f_Md_gather_317 rfl ?_
  have hp := h.1
  have h := h.2
  refine gw_zald k_Md_gather f_Md_gather_319 hc168 hp ?_
  refine gw_if_eq (t := 345) k_Md_gather f_Md_gather_320 rfl (fun c1 => ?_) (fun c1 => ?_)
  · have h := h.1 c1
    exact h
  · have h := h.2 c1
    refine gw_iload k_Md_gather f_Md_gather_323 rfl ?_
    refine gw_iload_n k_Md_gather f_Md_gather_325 rfl ?_
    refine gw_icmp_ne (t := 345) k_Md_gather f_Md_gather_326 rfl (fun c2 => ?_) (fun c2 => ?_)
    · have h := h.2 c2
      exact h
    · have c2 := Decidable.not_not.mp c2
      have h := h.1 c2
      refine gw_aload_n k_Md_gather f_Md_gather_329 rfl ?_
      refine gw_iconst k_Md_gather f_Md_gather_330 qc_4 ?_
      refine gw_iload k_Md_gather f_Md_gather_331 rfl ?_
      refine gw_iconst k_Md_gather f_Md_gather_333 qc_2 ?_
      refine gw_aload_n k_Md_gather f_Md_gather_334 rfl ?_
      refine gw_getR k_Md_gather f_Md_gather_335 l_fldT_11_82 hc155 rfl ?_
      refine gw_iload k_Md_gather f_Md_gather_338 rfl ?_
      have hp := h.1
      have h := h.2
      refine gw_iald k_Md_gather f_Md_gather_340 hc165 hp ?_
      refine gw_iconst k_Md_gather f_Md_gather_341 qc_0 ?_
      refine gw_virtual [.inl 4, .inl x6, .inl 2, .inl (w 165 x6.toNatClampNeg), .inl 0] k_Md_gather f_Md_gather_342 l_invT_11_125 k_Md_meets hc155 rfl rfl rfl (by exact Nat.le_of_ble_eq_true rfl) (dc := 0) (by decide) ?_ rfl
      refine h.mono (fun v w3 hh => ?_)
      obtain ⟨rfl, h⟩ := hh
      show Gw zs 4 m_Md_gather 345 [some (.inr (.inl (some 155))), o1, some (.inl x2), o3, o4, o5, some (.inl x6), o7, some (.inl x8)] [] w3 _
      exact h
theorem sg_Md_gather_345 {zs : List Int32} {x2 x6 : Int32} {o1 o3 o4 o5 o7 o8 : Option AV} {w : Wd} {Q : Option AV → Wd → Prop} (h : Gw zs 4 m_Md_gather 152 [some (.inr (.inl (some 155))), o1, some (.inl x2), o3, o4, o5, some (.inl (x6 + 1)), o7, o8] [] w Q) : Gw zs 4 m_Md_gather 345 [some (.inr (.inl (some 155))), o1, some (.inl x2), o3, o4, o5, some (.inl x6), o7, o8] [] w Q := by
  refine gw_iinc [some (.inr (.inl (some 155))), o1, some (.inl x2), o3, o4, o5, some (.inl (x6 + 1)), o7, o8] k_Md_gather f_Md_gather_345 rfl qc_1 (Nat.le_of_ble_eq_true rfl) rfl ?_
  refine gw_goto (t := 152) k_Md_gather f_Md_gather_348 rfl ?_
  exact h
theorem sg_Md_isAhead_0 {zs : List Int32} {a0 a1 : Int32} {w : Wd} {Q : Option AV → Wd → Prop} (h : (vp_in a0 200 ∧ (vp_in a1 200 ∧ (((w 177 a0.toNatClampNeg) = (w 177 a1.toNatClampNeg) → (vp_in a0 200 ∧ (vp_in a1 200 ∧ (((w 175 a0.toNatClampNeg) = (w 175 a1.toNatClampNeg) → (vp_in a0 200 ∧ (vp_in a1 200 ∧ (((w 176 a1.toNatClampNeg) ≤ (w 176 a0.toNatClampNeg) → Q (some (.inl 0)) w) ∧ (¬ ((w 176 a1.toNatClampNeg) ≤ (w 176 a0.toNatClampNeg)) → Q (some (.inl 1)) w))))) ∧ (¬ ((w 175 a0.toNatClampNeg) = (w 175 a1.toNatClampNeg)) → (vp_in a0 200 ∧ (vp_in a1 200 ∧ (((f_Md_place (w 175 a1.toNatClampNeg)) ≤ (f_Md_place (w 175 a0.toNatClampNeg)) → Q (some (.inl 0)) w) ∧ (¬ ((f_Md_place (w 175 a1.toNatClampNeg)) ≤ (f_Md_place (w 175 a0.toNatClampNeg))) → Q (some (.inl 1)) w))))))))) ∧ (¬ ((w 177 a0.toNatClampNeg) = (w 177 a1.toNatClampNeg)) → (vp_in a0 200 ∧ (vp_in a1 200 ∧ (((w 177 a0.toNatClampNeg) ≤ (w 177 a1.toNatClampNeg) → Q (some (.inl 0)) w) ∧ (¬ ((w 177 a0.toNatClampNeg) ≤ (w 177 a1.toNatClampNeg)) → Q (some (.inl 1)) w))))))))) : Gw zs 1 m_Md_isAhead 0 [some (.inr (.inl (some 155))), some (.inl a0), some (.inl a1)] [] w Q := by
  refine gw_aload_n k_Md_isAhead f_Md_isAhead_0 rfl ?_
  refine gw_getR k_Md_isAhead f_Md_isAhead_1 l_fldT_11_106 hc155 rfl ?_
  refine gw_iload_n k_Md_isAhead f_Md_isAhead_4 rfl ?_
  have hp := h.1
  have h := h.2
  refine gw_iald k_Md_isAhead f_Md_isAhead_5 hc177 hp ?_
  refine gw_aload_n k_Md_isAhead f_Md_isAhead_6 rfl ?_
  refine gw_getR k_Md_isAhead f_Md_isAhead_7 l_fldT_11_106 hc155 rfl ?_
  refine gw_iload_n k_Md_isAhead f_Md_isAhead_10 rfl ?_
  have hp := h.1
  have h := h.2
  refine gw_iald k_Md_isAhead f_Md_isAhead_11 hc177 hp ?_
  refine gw_icmp_eq (t := 36) k_Md_isAhead f_Md_isAhead_12 rfl (fun c1 => ?_) (fun c1 => ?_)
  · have h := h.1 c1
    refine gw_aload_n k_Md_isAhead f_Md_isAhead_36 rfl ?_
    refine gw_getR k_Md_isAhead f_Md_isAhead_37 l_fldT_11_97 hc155 rfl ?_
    refine gw_iload_n k_Md_isAhead f_Md_isAhead_40 rfl ?_
    have hp := h.1
    have h := h.2
    refine gw_iald k_Md_isAhead f_Md_isAhead_41 hc175 hp ?_
    refine gw_aload_n k_Md_isAhead f_Md_isAhead_42 rfl ?_
    refine gw_getR k_Md_isAhead f_Md_isAhead_43 l_fldT_11_97 hc155 rfl ?_
    refine gw_iload_n k_Md_isAhead f_Md_isAhead_46 rfl ?_
    have hp := h.1
    have h := h.2
    refine gw_iald k_Md_isAhead f_Md_isAhead_47 hc175 hp ?_
    refine gw_icmp_eq (t := 78) k_Md_isAhead f_Md_isAhead_48 rfl (fun c2 => ?_) (fun c2 => ?_)
    · have h := h.1 c2
      refine gw_aload_n k_Md_isAhead f_Md_isAhead_78 rfl ?_
      refine gw_getR k_Md_isAhead f_Md_isAhead_79 l_fldT_11_103 hc155 rfl ?_
      refine gw_iload_n k_Md_isAhead f_Md_isAhead_82 rfl ?_
      have hp := h.1
      have h := h.2
      refine gw_iald k_Md_isAhead f_Md_isAhead_83 hc176 hp ?_
      refine gw_aload_n k_Md_isAhead f_Md_isAhead_84 rfl ?_
      refine gw_getR k_Md_isAhead f_Md_isAhead_85 l_fldT_11_103 hc155 rfl ?_
      refine gw_iload_n k_Md_isAhead f_Md_isAhead_88 rfl ?_
      have hp := h.1
      have h := h.2
      refine gw_iald k_Md_isAhead f_Md_isAhead_89 hc176 hp ?_
      refine gw_icmp_ge (t := 97) k_Md_isAhead f_Md_isAhead_90 rfl (fun c3 => ?_) (fun c3 => ?_)
      · have h := h.1 c3
        refine gw_iconst k_Md_isAhead f_Md_isAhead_97 qc_0 ?_
        exact gw_zret k_Md_isAhead f_Md_isAhead_98 rfl (Or.inl rfl) h
      · have h := h.2 c3
        refine gw_iconst k_Md_isAhead f_Md_isAhead_93 qc_1 ?_
        refine gw_goto (t := 98) k_Md_isAhead f_Md_isAhead_94 rfl ?_
        exact gw_zret k_Md_isAhead f_Md_isAhead_98 rfl (Or.inr rfl) h
    · have h := h.2 c2
      refine gw_aload_n k_Md_isAhead f_Md_isAhead_51 rfl ?_
      refine gw_getR k_Md_isAhead f_Md_isAhead_52 l_fldT_11_97 hc155 rfl ?_
      refine gw_iload_n k_Md_isAhead f_Md_isAhead_55 rfl ?_
      have hp := h.1
      have h := h.2
      refine gw_iald k_Md_isAhead f_Md_isAhead_56 hc175 hp ?_
      refine gw_static [.inl (w 175 a0.toNatClampNeg)] k_Md_isAhead f_Md_isAhead_57 l_invT_11_132 (by decide) k_Md_place rfl (by exact Nat.le_of_ble_eq_true rfl) (dc := 0) (by decide) ?_ rfl
      refine ev_Md_place ?_
      show Gw zs 1 m_Md_isAhead 60 [some (.inr (.inl (some 155))), some (.inl a0), some (.inl a1)] [.inl (f_Md_place (w 175 a0.toNatClampNeg))] w _
      refine gw_aload_n k_Md_isAhead f_Md_isAhead_60 rfl ?_
      refine gw_getR k_Md_isAhead f_Md_isAhead_61 l_fldT_11_97 hc155 rfl ?_
      refine gw_iload_n k_Md_isAhead f_Md_isAhead_64 rfl ?_
      have hp := h.1
      have h := h.2
      refine gw_iald k_Md_isAhead f_Md_isAhead_65 hc175 hp ?_
      refine gw_static [.inl (w 175 a1.toNatClampNeg)] k_Md_isAhead f_Md_isAhead_66 l_invT_11_132 (by decide) k_Md_place rfl (by exact Nat.le_of_ble_eq_true rfl) (dc := 0) (by decide) ?_ rfl
      refine ev_Md_place ?_
      show Gw zs 1 m_Md_isAhead 69 [some (.inr (.inl (some 155))), some (.inl a0), some (.inl a1)] [.inl (f_Md_place (w 175 a1.toNatClampNeg)), .inl (f_Md_place (w 175 a0.toNatClampNeg))] w _
      refine gw_icmp_ge (t := 76) k_Md_isAhead f_Md_isAhead_69 rfl (fun c4 => ?_) (fun c4 => ?_)
      · have h := h.1 c4
        refine gw_iconst k_Md_isAhead f_Md_isAhead_76 qc_0 ?_
        exact gw_zret k_Md_isAhead f_Md_isAhead_77 rfl (Or.inl rfl) h
      · have h := h.2 c4
        refine gw_iconst k_Md_isAhead f_Md_isAhead_72 qc_1 ?_
        refine gw_goto (t := 77) k_Md_isAhead f_Md_isAhead_73 rfl ?_
        exact gw_zret k_Md_isAhead f_Md_isAhead_77 rfl (Or.inr rfl) h
  · have h := h.2 c1
    refine gw_aload_n k_Md_isAhead f_Md_isAhead_15 rfl ?_
    refine gw_getR k_Md_isAhead f_Md_isAhead_16 l_fldT_11_106 hc155 rfl ?_
    refine gw_iload_n k_Md_isAhead f_Md_isAhead_19 rfl ?_
    have hp := h.1
    have h := h.2
    refine gw_iald k_Md_isAhead f_Md_isAhead_20 hc177 hp ?_
    refine gw_aload_n k_Md_isAhead f_Md_isAhead_21 rfl ?_
    refine gw_getR k_Md_isAhead f_Md_isAhead_22 l_fldT_11_106 hc155 rfl ?_
    refine gw_iload_n k_Md_isAhead f_Md_isAhead_25 rfl ?_
    have hp := h.1
    have h := h.2
    refine gw_iald k_Md_isAhead f_Md_isAhead_26 hc177 hp ?_
    refine gw_icmp_le (t := 34) k_Md_isAhead f_Md_isAhead_27 rfl (fun c5 => ?_) (fun c5 => ?_)
    · have h := h.1 c5
      refine gw_iconst k_Md_isAhead f_Md_isAhead_34 qc_0 ?_
      exact gw_zret k_Md_isAhead f_Md_isAhead_35 rfl (Or.inl rfl) h
    · have h := h.2 c5
      refine gw_iconst k_Md_isAhead f_Md_isAhead_30 qc_1 ?_
      refine gw_goto (t := 35) k_Md_isAhead f_Md_isAhead_31 rfl ?_
      exact gw_zret k_Md_isAhead f_Md_isAhead_35 rfl (Or.inr rfl) h
