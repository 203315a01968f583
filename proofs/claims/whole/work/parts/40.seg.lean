/-! Ways from cut to cut -/
theorem sg_Fea_surround_0 {zs : List Int32} {a0 a1 a2 : Int32} {w : Wd} {Q : Option AV → Wd → Prop} (h : (((f_Fea_isTold w a0) = 0 → Q (some (.inl (-1))) w) ∧ (¬ ((f_Fea_isTold w a0) = 0) → ((60 ≤ a0 → Q (some (.inl (-1))) w) ∧ (¬ (60 ≤ a0) → (((f_Bk_within a1 0 8) = 0 → Q (some (.inl (-1))) w) ∧ (¬ ((f_Bk_within a1 0 8) = 0) → (vp_in a0 60 ∧ Q (some (.inl 0)) (wr (g_put w 14 60 a0 a1) 15 a0.toNatClampNeg (a2 &&& 1)))))))))) : Gw zs 1 m_Fea_surround 0 [some (.inr (.inl (some 8))), some (.inl a0), some (.inl a1), some (.inl a2)] [] w Q := by
  refine gw_aload_n k_Fea_surround f_Fea_surround_0 rfl ?_
  refine gw_iload_n k_Fea_surround f_Fea_surround_1 rfl ?_
  refine gw_virtual [.inl a0] k_Fea_surround f_Fea_surround_2 l_invT_4_59 k_Fea_isTold hc8 rfl rfl rfl (by exact Nat.le_of_ble_eq_true rfl) (dc := 0) (by decide) ?_ rfl
  refine ev_Fea_isTold ?_
  show Gw zs 1 m_Fea_surround 5 [some (.inr (.inl (some 8))), some (.inl a0), some (.inl a1), some (.inl a2)] [.inl (f_Fea_isTold w a0)] w _
  refine gw_if_eq (t := 27) k_Fea_surround f_Fea_surround_5 rfl (fun c1 => ?_) (fun c1 => ?_)
  · have h := h.1 c1
    refine gw_iconst k_Fea_surround f_Fea_surround_27 qc_m1 ?_
    exact gw_iret k_Fea_surround f_Fea_surround_28 rfl h
  · have h := h.2 c1
    refine gw_iload_n k_Fea_surround f_Fea_surround_8 rfl ?_
    refine gw_aload_n k_Fea_surround f_Fea_surround_9 rfl ?_
    refine gw_getR k_Fea_surround f_Fea_surround_10 l_fldT_4_30 hc8 rfl ?_
    refine gw_alenZ k_Fea_surround f_Fea_surround_13 hc15 qn_60 ?_
    refine gw_icmp_ge (t := 27) k_Fea_surround f_Fea_surround_14 rfl (fun c2 => ?_) (fun c2 => ?_)
    · have h := h.1 c2
      refine gw_iconst k_Fea_surround f_Fea_surround_27 qc_m1 ?_
      exact gw_iret k_Fea_surround f_Fea_surround_28 rfl h
    · have h := h.2 c2
      refine gw_iload_n k_Fea_surround f_Fea_surround_17 rfl ?_
      refine gw_iconst k_Fea_surround f_Fea_surround_18 qc_0 ?_
      refine gw_bipush k_Fea_surround f_Fea_surround_19 qb_8 ?_
      refine gw_static [.inl a1, .inl 0, .inl 8] k_Fea_surround f_Fea_surround_21 l_invT_4_45 (by decide) k_Bk_within rfl (by exact Nat.le_of_ble_eq_true rfl) (dc := 0) (by decide) ?_ rfl
      refine ev_Bk_within ?_
      show Gw zs 1 m_Fea_surround 24 [some (.inr (.inl (some 8))), some (.inl a0), some (.inl a1), some (.inl a2)] [.inl (f_Bk_within a1 0 8)] w _
      refine gw_if_ne (t := 29) k_Fea_surround f_Fea_surround_24 rfl (fun c3 => ?_) (fun c3 => ?_)
      · have h := h.2 c3
        refine gw_aload_n k_Fea_surround f_Fea_surround_29 rfl ?_
        refine gw_getR k_Fea_surround f_Fea_surround_30 l_fldT_4_27 hc8 rfl ?_
        refine gw_iload_n k_Fea_surround f_Fea_surround_33 rfl ?_
        refine gw_iload_n k_Fea_surround f_Fea_surround_34 rfl ?_
        refine gw_static [.inr (.inl (some 14)), .inl a0, .inl a1] k_Fea_surround f_Fea_surround_35 l_invT_4_49 (by decide) k_Bk_put rfl (by exact Nat.le_of_ble_eq_true rfl) (dc := 0) (by decide) ?_ rfl
        refine ev_put hc14 (by decide) ?_
        show Gw zs 1 m_Fea_surround 38 [some (.inr (.inl (some 8))), some (.inl a0), some (.inl a1), some (.inl a2)] [] (g_put w 14 60 a0 a1) _
        refine gw_aload_n k_Fea_surround f_Fea_surround_38 rfl ?_
        refine gw_getR k_Fea_surround f_Fea_surround_39 l_fldT_4_30 hc8 rfl ?_
        refine gw_iload_n k_Fea_surround f_Fea_surround_42 rfl ?_
        refine gw_iload_n k_Fea_surround f_Fea_surround_43 rfl ?_
        have hp := h.1
        have h := h.2
        refine gw_zast k_Fea_surround f_Fea_surround_44 hc15 hp ?_
        refine gw_iconst k_Fea_surround f_Fea_surround_45 qc_0 ?_
        exact gw_iret k_Fea_surround f_Fea_surround_46 rfl h
      · have c3 := Decidable.not_not.mp c3
        have h := h.1 c3
        refine gw_iconst k_Fea_surround f_Fea_surround_27 qc_m1 ?_
        exact gw_iret k_Fea_surround f_Fea_surround_28 rfl h
theorem sg_Bk_around_0 {zs : List Int32} {a0 a1 a2 : Int32} {w : Wd} {Q : Option AV → Wd → Prop} (h : Ew zs 1 m_Fea_surround [.inr (.inl (some 8)), .inl a0, .inl a1, .inl a2] w (fun v w2 => ∃ r1 : Int32, v = some (.inl r1) ∧ Q (some (.inl (f_Bk_forgetIfTold r1))) (g_Bk_forgetIfTold w2 r1))) : Gw zs 2 m_Bk_around 0 [some (.inr (.inl (some 0))), some (.inl a0), some (.inl a1), some (.inl a2)] [] w Q := by
  refine gw_aload_n k_Bk_around f_Bk_around_0 rfl ?_
  refine gw_aload_n k_Bk_around f_Bk_around_1 rfl ?_
  refine gw_getR k_Bk_around f_Bk_around_2 l_fldT_10_19 hc0 rfl ?_
  refine gw_iload_n k_Bk_around f_Bk_around_5 rfl ?_
  refine gw_iload_n k_Bk_around f_Bk_around_6 rfl ?_
  refine gw_iload_n k_Bk_around f_Bk_around_7 rfl ?_
  refine gw_virtual [.inl a0, .inl a1, .inl a2] k_Bk_around f_Bk_around_8 l_invT_10_100 k_Fea_surround hc8 rfl rfl rfl (by exact Nat.le_of_ble_eq_true rfl) (dc := 1) (by decide) ?_ rfl
  refine h.mono (fun v w2 hh => ?_)
  obtain ⟨r1, rfl, h⟩ := hh
  show Gw zs 2 m_Bk_around 11 [some (.inr (.inl (some 0))), some (.inl a0), some (.inl a1), some (.inl a2)] [.inl r1, .inr (.inl (some 0))] w2 _
  refine gw_virtual [.inl r1] k_Bk_around f_Bk_around_11 l_invT_10_91 k_Bk_forgetIfTold hc0 rfl rfl rfl (by exact Nat.le_of_ble_eq_true rfl) (dc := 1) (by decide) ?_ rfl
  refine ev_Bk_forgetIfTold ?_
  show Gw zs 2 m_Bk_around 14 [some (.inr (.inl (some 0))), some (.inl a0), some (.inl a1), some (.inl a2)] [.inl (f_Bk_forgetIfTold r1)] (g_Bk_forgetIfTold w2 r1) _
  exact gw_iret k_Bk_around f_Bk_around_14 rfl h
theorem sg_Alm_layOutSeasons_0 {zs : List Int32} {a0 : Int32} {w : Wd} {Q : Option AV → Wd → Prop} (h : Gw zs 4 m_Alm_layOutSeasons 2 [some (.inr (.inl (some 16))), some (.inl a0), some (.inl 0), none, none] [] w Q) : Gw zs 4 m_Alm_layOutSeasons 0 [some (.inr (.inl (some 16))), some (.inl a0), none, none, none] [] w Q := by
  refine gw_iconst k_Alm_layOutSeasons f_Alm_layOutSeasons_0 qc_0 ?_
  refine gw_istore_n [some (.inr (.inl (some 16))), some (.inl a0), some (.inl 0), none, none] k_Alm_layOutSeasons f_Alm_layOutSeasons_1 (Nat.le_of_ble_eq_true rfl) rfl ?_
  exact h
theorem sg_Alm_layOutSeasons_2 {zs : List Int32} {x1 x2 : Int32} {o3 o4 : Option AV} {w : Wd} {Q : Option AV → Wd → Prop} (h : ((366 ≤ x2 → Gw zs 4 m_Alm_layOutSeasons 26 [some (.inr (.inl (some 16))), some (.inl x1), some (.inl 0), o3, o4] [] w Q) ∧ (¬ (366 ≤ x2) → (vp_in x2 366 ∧ Gw zs 4 m_Alm_layOutSeasons 2 [some (.inr (.inl (some 16))), some (.inl x1), some (.inl (x2 + 1)), o3, o4] [] (wr w 17 x2.toNatClampNeg (-1)) Q)))) : Gw zs 4 m_Alm_layOutSeasons 2 [some (.inr (.inl (some 16))), some (.inl x1), some (.inl x2), o3, o4] [] w Q := by
  refine gw_iload_n k_Alm_layOutSeasons f_Alm_layOutSeasons_2 rfl ?_
  refine gw_aload_n k_Alm_layOutSeasons f_Alm_layOutSeasons_3 rfl ?_
  refine gw_getR k_Alm_layOutSeasons f_Alm_layOutSeasons_4 l_fldT_0_11 hc16 rfl ?_
  refine gw_alenI k_Alm_layOutSeasons f_Alm_layOutSeasons_7 hc17 qn_366 ?_
  refine gw_icmp_ge (t := 24) k_Alm_layOutSeasons f_Alm_layOutSeasons_8 rfl (fun c1 => ?_) (fun c1 => ?_)
  · have h := h.1 c1
    refine gw_iconst k_Alm_layOutSeasons f_Alm_layOutSeasons_24 qc_0 ?_
    refine gw_istore_n [some (.inr (.inl (some 16))), some (.inl x1), some (.inl 0), o3, o4] k_Alm_layOutSeasons f_Alm_layOutSeasons_25 (Nat.le_of_ble_eq_true rfl) rfl ?_
    exact h
  · have h := h.2 c1
    refine gw_aload_n k_Alm_layOutSeasons f_Alm_layOutSeasons_11 rfl ?_
    refine gw_getR k_Alm_layOutSeasons f_Alm_layOutSeasons_12 l_fldT_0_11 hc16 rfl ?_
    refine gw_iload_n k_Alm_layOutSeasons f_Alm_layOutSeasons_15 rfl ?_
    refine gw_iconst k_Alm_layOutSeasons f_Alm_layOutSeasons_16 qc_m1 ?_
    have hp := h.1
    have h := h.2
    refine gw_iast k_Alm_layOutSeasons f_Alm_layOutSeasons_17 hc17 hp ?_
    refine gw_iinc [some (.inr (.inl (some 16))), some (.inl x1), some (.inl (x2 + 1)), o3, o4] k_Alm_layOutSeasons f_Alm_layOutSeasons_18 rfl qc_1 (Nat.le_of_ble_eq_true rfl) rfl ?_
    refine gw_goto (t := 2) k_Alm_layOutSeasons f_Alm_layOutSeasons_21 rfl ?_
    exact h
theorem sg_Alm_layOutSeasons_26 {zs : List Int32} {x1 x2 : Int32} {o3 o4 : Option AV} {w : Wd} {Q : Option AV → Wd → Prop} (h : (((f_Sea_count w) ≤ x2 → Q (none) w) ∧ (¬ ((f_Sea_count w) ≤ x2) → Gw zs 4 m_Alm_layOutSeasons 71 [some (.inr (.inl (some 16))), some (.inl x1), some (.inl x2), some (.inl (if ((w 16 8) - 1) < (f_Sea_lastDay w x2 x1) then ((w 16 8) - 1) else (f_Sea_lastDay w x2 x1))), some (.inl (if (f_Sea_firstDay w x2 x1) < 0 then 0 else (f_Sea_firstDay w x2 x1)))] [] w Q))) : Gw zs 4 m_Alm_layOutSeasons 26 [some (.inr (.inl (some 16))), some (.inl x1), some (.inl x2), o3, o4] [] w Q := by
  refine gw_iload_n k_Alm_layOutSeasons f_Alm_layOutSeasons_26 rfl ?_
  refine gw_aload_n k_Alm_layOutSeasons f_Alm_layOutSeasons_27 rfl ?_
  refine gw_getR k_Alm_layOutSeasons f_Alm_layOutSeasons_28 l_fldT_0_31 hc16 rfl ?_
  refine gw_virtual [] k_Alm_layOutSeasons f_Alm_layOutSeasons_31 l_invT_0_123 k_Sea_count hc1 rfl rfl rfl (by exact Nat.le_of_ble_eq_true rfl) (dc := 0) (by decide) ?_ rfl
  refine ev_Sea_count ?_
  show Gw zs 4 m_Alm_layOutSeasons 34 [some (.inr (.inl (some 16))), some (.inl x1), some (.inl x2), o3, o4] [.inl (f_Sea_count w), .inl x2] w _
  refine gw_icmp_ge (t := 99) k_Alm_layOutSeasons f_Alm_layOutSeasons_34 rfl (fun c1 => ?_) (fun c1 => ?_)
  · have h := h.1 c1
    exact gw_vret k_Alm_layOutSeasons f_Alm_layOutSeasons_99 rfl h
  · have h := h.2 c1
    refine gw_aload_n k_Alm_layOutSeasons f_Alm_layOutSeasons_37 rfl ?_
    refine gw_getR k_Alm_layOutSeasons f_Alm_layOutSeasons_38 l_fldT_0_31 hc16 rfl ?_
    refine gw_iload_n k_Alm_layOutSeasons f_Alm_layOutSeasons_41 rfl ?_
    refine gw_iload_n k_Alm_layOutSeasons f_Alm_layOutSeasons_42 rfl ?_
    refine gw_virtual [.inl x2, .inl x1] k_Alm_layOutSeasons f_Alm_layOutSeasons_43 l_invT_0_124 k_Sea_lastDay hc1 rfl rfl rfl (by exact Nat.le_of_ble_eq_true rfl) (dc := 3) (by decide) ?_ rfl
    refine ev_Sea_lastDay ?_
    show Gw zs 4 m_Alm_layOutSeasons 46 [some (.inr (.inl (some 16))), some (.inl x1), some (.inl x2), o3, o4] [.inl (f_Sea_lastDay w x2 x1)] w _
    refine gw_aload_n k_Alm_layOutSeasons f_Alm_layOutSeasons_46 rfl ?_
    refine gw_getI k_Alm_layOutSeasons f_Alm_layOutSeasons_47 l_fldT_0_91 hc16 rfl ?_
    refine gw_iconst k_Alm_layOutSeasons f_Alm_layOutSeasons_50 qc_1 ?_
    refine gw_isub k_Alm_layOutSeasons f_Alm_layOutSeasons_51 ?_
    refine gw_min k_Alm_layOutSeasons f_Alm_layOutSeasons_52 l_invT_0_127 (by decide) (Nat.le_of_ble_eq_true rfl) ?_
    refine gw_istore_n [some (.inr (.inl (some 16))), some (.inl x1), some (.inl x2), some (.inl (if ((w 16 8) - 1) < (f_Sea_lastDay w x2 x1) then ((w 16 8) - 1) else (f_Sea_lastDay w x2 x1))), o4] k_Alm_layOutSeasons f_Alm_layOutSeasons_55 (Nat.le_of_ble_eq_true rfl) rfl ?_
    refine gw_aload_n k_Alm_layOutSeasons f_Alm_layOutSeasons_56 rfl ?_
    refine gw_getR k_Alm_layOutSeasons f_Alm_layOutSeasons_57 l_fldT_0_31 hc16 rfl ?_
    refine gw_iload_n k_Alm_layOutSeasons f_Alm_layOutSeasons_60 rfl ?_
    refine gw_iload_n k_Alm_layOutSeasons f_Alm_layOutSeasons_61 rfl ?_
    refine gw_virtual [.inl x2, .inl x1] k_Alm_layOutSeasons f_Alm_layOutSeasons_62 l_invT_0_132 k_Sea_firstDay hc1 rfl rfl rfl (by exact Nat.le_of_ble_eq_true rfl) (dc := 3) (by decide) ?_ rfl
    refine ev_Sea_firstDay ?_
    show Gw zs 4 m_Alm_layOutSeasons 65 [some (.inr (.inl (some 16))), some (.inl x1), some (.inl x2), some (.inl (if ((w 16 8) - 1) < (f_Sea_lastDay w x2 x1) then ((w 16 8) - 1) else (f_Sea_lastDay w x2 x1))), o4] [.inl (f_Sea_firstDay w x2 x1)] w _
    refine gw_iconst k_Alm_layOutSeasons f_Alm_layOutSeasons_65 qc_0 ?_
    refine gw_max k_Alm_layOutSeasons f_Alm_layOutSeasons_66 l_invT_0_135 (by decide) (Nat.le_of_ble_eq_true rfl) ?_
    refine gw_istore [some (.inr (.inl (some 16))), some (.inl x1), some (.inl x2), some (.inl (if ((w 16 8) - 1) < (f_Sea_lastDay w x2 x1) then ((w 16 8) - 1) else (f_Sea_lastDay w x2 x1))), some (.inl (if (f_Sea_firstDay w x2 x1) < 0 then 0 else (f_Sea_firstDay w x2 x1)))] k_Alm_layOutSeasons f_Alm_layOutSeasons_69 (Nat.le_of_ble_eq_true rfl) rfl ?_
    exact h
theorem sg_Alm_layOutSeasons_71 {zs : List Int32} {x1 x2 x3 x4 : Int32} {w : Wd} {Q : Option AV → Wd → Prop} (h : ((x3 < x4 → Gw zs 4 m_Alm_layOutSeasons 26 [some (.inr (.inl (some 16))), some (.inl x1), some (.inl (x2 + 1)), some (.inl x3), some (.inl x4)] [] w Q) ∧ (¬ (x3 < x4) → Gw zs 4 m_Alm_layOutSeasons 71 [some (.inr (.inl (some 16))), some (.inl x1), some (.inl x2), some (.inl x3), some (.inl (x4 + 1))] [] (g_put w 17 366 x4 x2) Q))) : Gw zs 4 m_Alm_layOutSeasons 71 [some (.inr (.inl (some 16))), some (.inl x1), some (.inl x2), some (.inl x3), some (.inl x4)] [] w Q := by
  refine gw_iload k_Alm_layOutSeasons f_Alm_layOutSeasons_71 rfl ?_
  refine gw_iload_n k_Alm_layOutSeasons f_Alm_layOutSeasons_73 rfl ?_
  refine gw_icmp_gt (t := 93) k_Alm_layOutSeasons f_Alm_layOutSeasons_74 rfl (fun c1 => ?_) (fun c1 => ?_)
  · have h := h.1 c1
    refine gw_iinc [some (.inr (.inl (some 16))), some (.inl x1), some (.inl (x2 + 1)), some (.inl x3), some (.inl x4)] k_Alm_layOutSeasons f_Alm_layOutSeasons_93 rfl qc_1 (Nat.le_of_ble_eq_true rfl) rfl ?_
    refine gw_goto (t := 26) k_Alm_layOutSeasons f_Alm_layOutSeasons_96 rfl ?_
    exact h
  · have h := h.2 c1
    refine gw_aload_n k_Alm_layOutSeasons f_Alm_layOutSeasons_77 rfl ?_
    refine gw_getR k_Alm_layOutSeasons f_Alm_layOutSeasons_78 l_fldT_0_11 hc16 rfl ?_
    refine gw_iload k_Alm_layOutSeasons f_Alm_layOutSeasons_81 rfl ?_
    refine gw_iload_n k_Alm_layOutSeasons f_Alm_layOutSeasons_83 rfl ?_
    refine gw_static [.inr (.inl (some 17)), .inl x4, .inl x2] k_Alm_layOutSeasons f_Alm_layOutSeasons_84 l_invT_0_109 (by decide) k_Bk_put rfl (by exact Nat.le_of_ble_eq_true rfl) (dc := 0) (by decide) ?_ rfl
    refine ev_put hc17 (by decide) ?_
    show Gw zs 4 m_Alm_layOutSeasons 87 [some (.inr (.inl (some 16))), some (.inl x1), some (.inl x2), some (.inl x3), some (.inl x4)] [] (g_put w 17 366 x4 x2) _
    refine gw_iinc [some (.inr (.inl (some 16))), some (.inl x1), some (.inl x2), some (.inl x3), some (.inl (x4 + 1))] k_Alm_layOutSeasons f_Alm_layOutSeasons_87 rfl qc_1 (Nat.le_of_ble_eq_true rfl) rfl ?_
    refine gw_goto (t := 71) k_Alm_layOutSeasons f_Alm_layOutSeasons_90 rfl ?_
    exact h
theorem sg_Alm_commemorate_0 {zs : List Int32} {a0 a1 : Int32} {w : Wd} {Q : Option AV → Wd → Prop} (h : Gw zs 1 m_Alm_commemorate 7 [some (.inr (.inl (some 16))), some (.inl a0), some (.inl a1), some (.inl a1), some (.inl (a0 * 3)), none] [] w Q) : Gw zs 1 m_Alm_commemorate 0 [some (.inr (.inl (some 16))), some (.inl a0), some (.inl a1), none, none, none] [] w Q := by
  refine gw_iload_n k_Alm_commemorate f_Alm_commemorate_0 rfl ?_
  refine gw_istore_n [some (.inr (.inl (some 16))), some (.inl a0), some (.inl a1), some (.inl a1), none, none] k_Alm_commemorate f_Alm_commemorate_1 (Nat.le_of_ble_eq_true rfl) rfl ?_
  refine gw_iload_n k_Alm_commemorate f_Alm_commemorate_2 rfl ?_
  refine gw_iconst k_Alm_commemorate f_Alm_commemorate_3 qc_3 ?_
  refine gw_imul k_Alm_commemorate f_Alm_commemorate_4 ?_
  refine gw_istore [some (.inr (.inl (some 16))), some (.inl a0), some (.inl a1), some (.inl a1), some (.inl (a0 * 3)), none] k_Alm_commemorate f_Alm_commemorate_5 (Nat.le_of_ble_eq_true rfl) rfl ?_
  exact h
theorem sg_Alm_commemorate_7 {zs : List Int32} {x1 x3 x4 : Int32} {o2 o5 : Option AV} {w : Wd} {Q : Option AV → Wd → Prop} (h : ((((x1 + 1) * 3) ≤ x4 → Q (none) w) ∧ (¬ (((x1 + 1) * 3) ≤ x4) → ((x3 ≤ (f_at w 19 1098 x4) → Gw zs 1 m_Alm_commemorate 7 [some (.inr (.inl (some 16))), some (.inl x1), o2, some (.inl x3), some (.inl (x4 + 1)), some (.inl (f_at w 19 1098 x4))] [] w Q) ∧ (¬ (x3 ≤ (f_at w 19 1098 x4)) → Gw zs 1 m_Alm_commemorate 7 [some (.inr (.inl (some 16))), some (.inl x1), o2, some (.inl (f_at w 19 1098 x4)), some (.inl (x4 + 1)), some (.inl (f_at w 19 1098 x4))] [] (g_put w 19 1098 x4 x3) Q))))) : Gw zs 1 m_Alm_commemorate 7 [some (.inr (.inl (some 16))), some (.inl x1), o2, some (.inl x3), some (.inl x4), o5] [] w Q := by
  refine gw_iload k_Alm_commemorate f_Alm_commemorate_7 rfl ?_
  refine gw_iload_n k_Alm_commemorate f_Alm_commemorate_9 rfl ?_
  refine gw_iconst k_Alm_commemorate f_Alm_commemorate_10 qc_1 ?_
  refine gw_iadd k_Alm_commemorate f_Alm_commemorate_11 ?_
  refine gw_iconst k_Alm_commemorate f_Alm_commemorate_12 qc_3 ?_
  refine gw_imul k_Alm_commemorate f_Alm_commemorate_13 ?_
  refine gw_icmp_ge (t := 53) k_Alm_commemorate f_Alm_commemorate_14 rfl (fun c1 => ?_) (fun c1 => ?_)
  · have h := h.1 c1
    exact gw_vret k_Alm_commemorate f_Alm_commemorate_53 rfl h
  · have h := h.2 c1
    refine gw_aload_n k_Alm_commemorate f_Alm_commemorate_17 rfl ?_
    refine gw_getR k_Alm_commemorate f_Alm_commemorate_18 l_fldT_0_18 hc16 rfl ?_
    refine gw_iload k_Alm_commemorate f_Alm_commemorate_21 rfl ?_
    refine gw_static [.inr (.inl (some 19)), .inl x4] k_Alm_commemorate f_Alm_commemorate_23 l_invT_0_60 (by decide) k_Bk_at rfl (by exact Nat.le_of_ble_eq_true rfl) (dc := 0) (by decide) ?_ rfl
    refine ev_at hc19 (by decide) ?_
    show Gw zs 1 m_Alm_commemorate 26 [some (.inr (.inl (some 16))), some (.inl x1), o2, some (.inl x3), some (.inl x4), o5] [.inl (f_at w 19 1098 x4)] w _
    refine gw_istore [some (.inr (.inl (some 16))), some (.inl x1), o2, some (.inl x3), some (.inl x4), some (.inl (f_at w 19 1098 x4))] k_Alm_commemorate f_Alm_commemorate_26 (Nat.le_of_ble_eq_true rfl) rfl ?_
    refine gw_iload_n k_Alm_commemorate f_Alm_commemorate_28 rfl ?_
    refine gw_iload k_Alm_commemorate f_Alm_commemorate_29 rfl ?_
    refine gw_icmp_le (t := 47) k_Alm_commemorate f_Alm_commemorate_31 rfl (fun c2 => ?_) (fun c2 => ?_)
    · have h := h.1 c2
      refine gw_iinc [some (.inr (.inl (some 16))), some (.inl x1), o2, some (.inl x3), some (.inl (x4 + 1)), some (.inl (f_at w 19 1098 x4))] k_Alm_commemorate f_Alm_commemorate_47 rfl qc_1 (Nat.le_of_ble_eq_true rfl) rfl ?_
      refine gw_goto (t := 7) k_Alm_commemorate f_Alm_commemorate_50 rfl ?_
      exact h
    · have h := h.2 c2
      refine gw_aload_n k_Alm_commemorate f_Alm_commemorate_34 rfl ?_
      refine gw_getR k_Alm_commemorate f_Alm_commemorate_35 l_fldT_0_18 hc16 rfl ?_
      refine gw_iload k_Alm_commemorate f_Alm_commemorate_38 rfl ?_
      refine gw_iload_n k_Alm_commemorate f_Alm_commemorate_40 rfl ?_
      refine gw_static [.inr (.inl (some 19)), .inl x4, .inl x3] k_Alm_commemorate f_Alm_commemorate_41 l_invT_0_109 (by decide) k_Bk_put rfl (by exact Nat.le_of_ble_eq_true rfl) (dc := 0) (by decide) ?_ rfl
      refine ev_put hc19 (by decide) ?_
      show Gw zs 1 m_Alm_commemorate 44 [some (.inr (.inl (some 16))), some (.inl x1), o2, some (.inl x3), some (.inl x4), some (.inl (f_at w 19 1098 x4))] [] (g_put w 19 1098 x4 x3) _
      refine gw_iload k_Alm_commemorate f_Alm_commemorate_44 rfl ?_
      refine gw_istore_n [some (.inr (.inl (some 16))), some (.inl x1), o2, some (.inl (f_at w 19 1098 x4)), some (.inl x4), some (.inl (f_at w 19 1098 x4))] k_Alm_commemorate f_Alm_commemorate_46 (Nat.le_of_ble_eq_true rfl) rfl ?_
      refine gw_iinc [some (.inr (.inl (some 16))), some (.inl x1), o2, some (.inl (f_at w 19 1098 x4)), some (.inl (x4 + 1)), some (.inl (f_at w 19 1098 x4))] k_Alm_commemorate f_Alm_commemorate_47 rfl qc_1 (Nat.le_of_ble_eq_true rfl) rfl ?_
      refine gw_goto (t := 7) k_Alm_commemorate f_Alm_commemorate_50 rfl ?_
      exact h
theorem sg_Alm_consider_0 {zs : List Int32} {a0 a1 a2 a3 : Int32} {w : Wd} {Q : Option AV → Wd → Prop} (h : (((f_Bk_within a0 0 ((w 16 8) - 1)) = 0 → Q (none) w) ∧ (¬ ((f_Bk_within a0 0 ((w 16 8) - 1)) = 0) → ((a3 = 0 → ((a2 = 1 → ((a1 = (f_at w 18 366 a0) → Q (none) w) ∧ (¬ (a1 = (f_at w 18 366 a0)) → Ew zs 1 m_Alm_commemorate [.inr (.inl (some 16)), .inl a0, .inl a1] w (fun v w5 => v = none ∧ Q (none) w5)))) ∧ (¬ (a2 = 1) → Q (none) w))) ∧ (¬ (a3 = 0) → Q (none) (g_put w 18 366 a0 (if (f_at w 18 366 a0) < a1 then a1 else (f_at w 18 366 a0)))))))) : Gw zs 2 m_Alm_consider 0 [some (.inr (.inl (some 16))), some (.inl a0), some (.inl a1), some (.inl a2), some (.inl a3)] [] w Q := by
  refine gw_iload_n k_Alm_consider f_Alm_consider_0 rfl ?_
  refine gw_iconst k_Alm_consider f_Alm_consider_1 qc_0 ?_
  refine gw_aload_n k_Alm_consider f_Alm_consider_2 rfl ?_
  refine gw_getI k_Alm_consider f_Alm_consider_3 l_fldT_0_91 hc16 rfl ?_
  refine gw_iconst k_Alm_consider f_Alm_consider_6 qc_1 ?_
  refine gw_isub k_Alm_consider f_Alm_consider_7 ?_
  refine gw_static [.inl a0, .inl 0, .inl ((w 16 8) - 1)] k_Alm_consider f_Alm_consider_8 l_invT_0_53 (by decide) k_Bk_within rfl (by exact Nat.le_of_ble_eq_true rfl) (dc := 0) (by decide) ?_ rfl
  refine ev_Bk_within ?_
  show Gw zs 2 m_Alm_consider 11 [some (.inr (.inl (some 16))), some (.inl a0), some (.inl a1), some (.inl a2), some (.inl a3)] [.inl (f_Bk_within a0 0 ((w 16 8) - 1))] w _
  refine gw_if_ne (t := 15) k_Alm_consider f_Alm_consider_11 rfl (fun c1 => ?_) (fun c1 => ?_)
  · have h := h.2 c1
    refine gw_iload k_Alm_consider f_Alm_consider_15 rfl ?_
    refine gw_if_eq (t := 43) k_Alm_consider f_Alm_consider_17 rfl (fun c2 => ?_) (fun c2 => ?_)
    · have h := h.1 c2
      refine gw_iload_n k_Alm_consider f_Alm_consider_43 rfl ?_
      refine gw_iconst k_Alm_consider f_Alm_consider_44 qc_1 ?_
      refine gw_icmp_ne (t := 66) k_Alm_consider f_Alm_consider_45 rfl (fun c3 => ?_) (fun c3 => ?_)
      · have h := h.2 c3
        exact gw_vret k_Alm_consider f_Alm_consider_66 rfl h
      · have c3 := Decidable.not_not.mp c3
        have h := h.1 c3
        refine gw_iload_n k_Alm_consider f_Alm_consider_48 rfl ?_
        refine gw_aload_n k_Alm_consider f_Alm_consider_49 rfl ?_
        refine gw_getR k_Alm_consider f_Alm_consider_50 l_fldT_0_15 hc16 rfl ?_
        refine gw_iload_n k_Alm_consider f_Alm_consider_53 rfl ?_
        refine gw_static [.inr (.inl (some 18)), .inl a0] k_Alm_consider f_Alm_consider_54 l_invT_0_60 (by decide) k_Bk_at rfl (by exact Nat.le_of_ble_eq_true rfl) (dc := 0) (by decide) ?_ rfl
        refine ev_at hc18 (by decide) ?_
        show Gw zs 2 m_Alm_consider 57 [some (.inr (.inl (some 16))), some (.inl a0), some (.inl a1), some (.inl a2), some (.inl a3)] [.inl (f_at w 18 366 a0), .inl a1] w _
        refine gw_icmp_eq (t := 66) k_Alm_consider f_Alm_consider_57 rfl (fun c4 => ?_) (fun c4 => ?_)
        · have h := h.1 c4
          exact gw_vret k_Alm_consider f_Alm_consider_66 rfl h
        · have h := h.2 c4
          refine gw_aload_n k_Alm_consider f_Alm_consider_60 rfl ?_
          refine gw_iload_n k_Alm_consider f_Alm_consider_61 rfl ?_
          refine gw_iload_n k_Alm_consider f_Alm_consider_62 rfl ?_
          refine gw_virtual [.inl a0, .inl a1] k_Alm_consider f_Alm_consider_63 l_invT_0_168 k_Alm_commemorate hc16 rfl rfl rfl (by exact Nat.le_of_ble_eq_true rfl) (dc := 1) (by decide) ?_ rfl
          refine h.mono (fun v w5 hh => ?_)
          obtain ⟨rfl, h⟩ := hh
          show Gw zs 2 m_Alm_consider 66 [some (.inr (.inl (some 16))), some (.inl a0), some (.inl a1), some (.inl a2), some (.inl a3)] [] w5 _
          exact gw_vret k_Alm_consider f_Alm_consider_66 rfl h
    · have h := h.2 c2
      refine gw_aload_n k_Alm_consider f_Alm_consider_20 rfl ?_
      refine gw_getR k_Alm_consider f_Alm_consider_21 l_fldT_0_15 hc16 rfl ?_
      refine gw_iload_n k_Alm_consider f_Alm_consider_24 rfl ?_
      refine gw_aload_n k_Alm_consider f_Alm_consider_25 rfl ?_
      refine gw_getR k_Alm_consider f_Alm_consider_26 l_fldT_0_15 hc16 rfl ?_
      refine gw_iload_n k_Alm_consider f_Alm_consider_29 rfl ?_
      refine gw_static [.inr (.inl (some 18)), .inl a0] k_Alm_consider f_Alm_consider_30 l_invT_0_60 (by decide) k_Bk_at rfl (by exact Nat.le_of_ble_eq_true rfl) (dc := 0) (by decide) ?_ rfl
      refine ev_at hc18 (by decide) ?_
      show Gw zs 2 m_Alm_consider 33 [some (.inr (.inl (some 16))), some (.inl a0), some (.inl a1), some (.inl a2), some (.inl a3)] [.inl (f_at w 18 366 a0), .inl a0, .inr (.inl (some 18))] w _
      refine gw_iload_n k_Alm_consider f_Alm_consider_33 rfl ?_
      refine gw_max k_Alm_consider f_Alm_consider_34 l_invT_0_135 (by decide) (Nat.le_of_ble_eq_true rfl) ?_
      refine gw_static [.inr (.inl (some 18)), .inl a0, .inl (if (f_at w 18 366 a0) < a1 then a1 else (f_at w 18 366 a0))] k_Alm_consider f_Alm_consider_37 l_invT_0_109 (by decide) k_Bk_put rfl (by exact Nat.le_of_ble_eq_true rfl) (dc := 0) (by decide) ?_ rfl
      refine ev_put hc18 (by decide) ?_
      show Gw zs 2 m_Alm_consider 40 [some (.inr (.inl (some 16))), some (.inl a0), some (.inl a1), some (.inl a2), some (.inl a3)] [] (g_put w 18 366 a0 (if (f_at w 18 366 a0) < a1 then a1 else (f_at w 18 366 a0))) _
      refine gw_goto (t := 66) k_Alm_consider f_Alm_consider_40 rfl ?_
      exact gw_vret k_Alm_consider f_Alm_consider_66 rfl h
  · have c1 := Decidable.not_not.mp c1
    have h := h.1 c1
    exact gw_vret k_Alm_consider f_Alm_consider_14 rfl h
theorem sg_Alm_considerFeast_0 {zs : List Int32} {a0 a1 a2 : Int32} {w : Wd} {Q : Option AV → Wd → Prop} (h : Ew zs 2 m_Alm_consider [.inr (.inl (some 16)), .inl a1, .inl (f_Alm_feastCandidate w a0), .inl (f_Fea_wayOf w a0), .inl a2] w (fun v w1 => v = none ∧ Gw zs 3 m_Alm_considerFeast 32 [some (.inr (.inl (some 16))), some (.inl a0), some (.inl a1), some (.inl a2), some (.inl (f_Fea_octaveOf w1 a0)), some (.inl 1), none] [] w1 Q)) : Gw zs 3 m_Alm_considerFeast 0 [some (.inr (.inl (some 16))), some (.inl a0), some (.inl a1), some (.inl a2), none, none, none] [] w Q := by
  refine gw_aload_n k_Alm_considerFeast f_Alm_considerFeast_0 rfl ?_
  refine gw_iload_n k_Alm_considerFeast f_Alm_considerFeast_1 rfl ?_
  refine gw_aload_n k_Alm_considerFeast f_Alm_considerFeast_2 rfl ?_
  refine gw_iload_n k_Alm_considerFeast f_Alm_considerFeast_3 rfl ?_
  refine gw_virtual [.inl a0] k_Alm_considerFeast f_Alm_considerFeast_4 l_invT_0_156 k_Alm_feastCandidate hc16 rfl rfl rfl (by exact Nat.le_of_ble_eq_true rfl) (dc := 2) (by decide) ?_ rfl
  refine ev_Alm_feastCandidate ?_
  show Gw zs 3 m_Alm_considerFeast 7 [some (.inr (.inl (some 16))), some (.inl a0), some (.inl a1), some (.inl a2), none, none, none] [.inl (f_Alm_feastCandidate w a0), .inl a1, .inr (.inl (some 16))] w _
  refine gw_aload_n k_Alm_considerFeast f_Alm_considerFeast_7 rfl ?_
  refine gw_getR k_Alm_considerFeast f_Alm_considerFeast_8 l_fldT_0_35 hc16 rfl ?_
  refine gw_iload_n k_Alm_considerFeast f_Alm_considerFeast_11 rfl ?_
  refine gw_virtual [.inl a0] k_Alm_considerFeast f_Alm_considerFeast_12 l_invT_0_159 k_Fea_wayOf hc8 rfl rfl rfl (by exact Nat.le_of_ble_eq_true rfl) (dc := 1) (by decide) ?_ rfl
  refine ev_Fea_wayOf ?_
  show Gw zs 3 m_Alm_considerFeast 15 [some (.inr (.inl (some 16))), some (.inl a0), some (.inl a1), some (.inl a2), none, none, none] [.inl (f_Fea_wayOf w a0), .inl (f_Alm_feastCandidate w a0), .inl a1, .inr (.inl (some 16))] w _
  refine gw_iload_n k_Alm_considerFeast f_Alm_considerFeast_15 rfl ?_
  refine gw_virtual [.inl a1, .inl (f_Alm_feastCandidate w a0), .inl (f_Fea_wayOf w a0), .inl a2] k_Alm_considerFeast f_Alm_considerFeast_16 l_invT_0_148 k_Alm_consider hc16 rfl rfl rfl (by exact Nat.le_of_ble_eq_true rfl) (dc := 2) (by decide) ?_ rfl
  refine h.mono (fun v w1 hh => ?_)
  obtain ⟨rfl, h⟩ := hh
  show Gw zs 3 m_Alm_considerFeast 19 [some (.inr (.inl (some 16))), some (.inl a0), some (.inl a1), some (.inl a2), none, none, none] [] w1 _
  refine gw_aload_n k_Alm_considerFeast f_Alm_considerFeast_19 rfl ?_
  refine gw_getR k_Alm_considerFeast f_Alm_considerFeast_20 l_fldT_0_35 hc16 rfl ?_
  refine gw_iload_n k_Alm_considerFeast f_Alm_considerFeast_23 rfl ?_
  refine gw_virtual [.inl a0] k_Alm_considerFeast f_Alm_considerFeast_24 l_invT_0_162 k_Fea_octaveOf hc8 rfl rfl rfl (by exact Nat.le_of_ble_eq_true rfl) (dc := 1) (by decide) ?_ rfl
  refine ev_Fea_octaveOf ?_
  show Gw zs 3 m_Alm_considerFeast 27 [some (.inr (.inl (some 16))), some (.inl a0), some (.inl a1), some (.inl a2), none, none, none] [.inl (f_Fea_octaveOf w1 a0)] w1 _
  refine gw_istore [some (.inr (.inl (some 16))), some (.inl a0), some (.inl a1), some (.inl a2), some (.inl (f_Fea_octaveOf w1 a0)), none, none] k_Alm_considerFeast f_Alm_considerFeast_27 (Nat.le_of_ble_eq_true rfl) rfl ?_
  refine gw_iconst k_Alm_considerFeast f_Alm_considerFeast_29 qc_1 ?_
  refine gw_istore [some (.inr (.inl (some 16))), some (.inl a0), some (.inl a1), some (.inl a2), some (.inl (f_Fea_octaveOf w1 a0)), some (.inl 1), none] k_Alm_considerFeast f_Alm_considerFeast_30 (Nat.le_of_ble_eq_true rfl) rfl ?_
  exact h
theorem sg_Alm_considerFeast_32 {zs : List Int32} {x1 x2 x3 x4 x5 : Int32} {o6 : Option AV} {w : Wd} {Q : Option AV → Wd → Prop} (h : ((7 < x5 → (((f_Fea_hasVigil w x1) = 0 → Q (none) w) ∧ (¬ ((f_Fea_hasVigil w x1) = 0) → ((x2 ≤ 0 → Q (none) w) ∧ (¬ (x2 ≤ 0) → (((f_Alm_weekdayOf w (x2 - 1)) = 0 → Ew zs 2 m_Alm_consider [.inr (.inl (some 16)), .inl (x2 - 2), .inl (f_Alm_candidate 2 4 x1), .inl 0, .inl x3] w (fun v w6 => v = none ∧ Q (none) w6)) ∧ (¬ ((f_Alm_weekdayOf w (x2 - 1)) = 0) → Ew zs 2 m_Alm_consider [.inr (.inl (some 16)), .inl (x2 - 1), .inl (f_Alm_candidate 2 4 x1), .inl 0, .inl x3] w (fun v w5 => v = none ∧ Q (none) w5)))))))) ∧ (¬ (7 < x5) → ((x4 ≤ 0 → (((f_Fea_hasVigil w x1) = 0 → Q (none) w) ∧ (¬ ((f_Fea_hasVigil w x1) = 0) → ((x2 ≤ 0 → Q (none) w) ∧ (¬ (x2 ≤ 0) → (((f_Alm_weekdayOf w (x2 - 1)) = 0 → Ew zs 2 m_Alm_consider [.inr (.inl (some 16)), .inl (x2 - 2), .inl (f_Alm_candidate 2 4 x1), .inl 0, .inl x3] w (fun v w12 => v = none ∧ Q (none) w12)) ∧ (¬ ((f_Alm_weekdayOf w (x2 - 1)) = 0) → Ew zs 2 m_Alm_consider [.inr (.inl (some 16)), .inl (x2 - 1), .inl (f_Alm_candidate 2 4 x1), .inl 0, .inl x3] w (fun v w11 => v = none ∧ Q (none) w11)))))))) ∧ (¬ (x4 ≤ 0) → ((x5 = 7 → Ew zs 2 m_Alm_consider [.inr (.inl (some 16)), .inl (x2 + x5), .inl (f_Alm_candidate (x4 + 1) 3 x1), .inl 1, .inl x3] w (fun v w15 => v = none ∧ Gw zs 3 m_Alm_considerFeast 32 [some (.inr (.inl (some 16))), some (.inl x1), some (.inl x2), some (.inl x3), some (.inl x4), some (.inl (x5 + 1)), some (.inl (x4 + 1))] [] w15 Q)) ∧ (¬ (x5 = 7) → Ew zs 2 m_Alm_consider [.inr (.inl (some 16)), .inl (x2 + x5), .inl (f_Alm_candidate x4 3 x1), .inl 1, .inl x3] w (fun v w14 => v = none ∧ Gw zs 3 m_Alm_considerFeast 32 [some (.inr (.inl (some 16))), some (.inl x1), some (.inl x2), some (.inl x3), some (.inl x4), some (.inl (x5 + 1)), some (.inl x4)] [] w14 Q)))))))) : Gw zs 3 m_Alm_considerFeast 32 [some (.inr (.inl (some 16))), some (.inl x1), some (.inl x2), some (.inl x3), some (.inl x4), some (.inl x5), o6] [] w Q := by
  refine gw_iload k_Alm_considerFeast f_Alm_considerFeast_32 rfl ?_
  refine gw_bipush k_Alm_considerFeast f_Alm_considerFeast_34 qb_7 ?_
  refine gw_icmp_gt (t := 85) k_Alm_considerFeast f_Alm_considerFeast_36 rfl (fun c1 => ?_) (fun c1 => ?_)
  · have h := h.1 c1
    refine gw_aload_n k_Alm_considerFeast f_Alm_considerFeast_85 rfl ?_
    refine gw_getR k_Alm_considerFeast f_Alm_considerFeast_86 l_fldT_0_35 hc16 rfl ?_
    refine gw_iload_n k_Alm_considerFeast f_Alm_considerFeast_89 rfl ?_
    refine gw_virtual [.inl x1] k_Alm_considerFeast f_Alm_considerFeast_90 l_invT_0_165 k_Fea_hasVigil hc8 rfl rfl rfl (by exact Nat.le_of_ble_eq_true rfl) (dc := 0) (by decide) ?_ rfl
    refine ev_Fea_hasVigil ?_
    show Gw zs 3 m_Alm_considerFeast 93 [some (.inr (.inl (some 16))), some (.inl x1), some (.inl x2), some (.inl x3), some (.inl x4), some (.inl x5), o6] [.inl (f_Fea_hasVigil w x1)] w _
    refine gw_if_eq (t := 133) k_Alm_considerFeast f_Alm_considerFeast_93 rfl (fun c2 => ?_) (fun c2 => ?_)
    · have h := h.1 c2
      exact gw_vret k_Alm_considerFeast f_Alm_considerFeast_133 rfl h
    · have h := h.2 c2
      refine gw_iload_n k_Alm_considerFeast f_Alm_considerFeast_96 rfl ?_
      refine gw_if_le (t := 133) k_Alm_considerFeast f_Alm_considerFeast_97 rfl (fun c3 => ?_) (fun c3 => ?_)
      · have h := h.1 c3
        exact gw_vret k_Alm_considerFeast f_Alm_considerFeast_133 rfl h
      · have h := h.2 c3
        refine gw_aload_n k_Alm_considerFeast f_Alm_considerFeast_100 rfl ?_
        refine gw_iload_n k_Alm_considerFeast f_Alm_considerFeast_101 rfl ?_
        refine gw_iconst k_Alm_considerFeast f_Alm_considerFeast_102 qc_1 ?_
        refine gw_isub k_Alm_considerFeast f_Alm_considerFeast_103 ?_
        refine gw_virtual [.inl (x2 - 1)] k_Alm_considerFeast f_Alm_considerFeast_104 l_invT_0_138 k_Alm_weekdayOf hc16 rfl rfl rfl (by exact Nat.le_of_ble_eq_true rfl) (dc := 0) (by decide) ?_ rfl
        refine ev_Alm_weekdayOf ?_
        show Gw zs 3 m_Alm_considerFeast 107 [some (.inr (.inl (some 16))), some (.inl x1), some (.inl x2), some (.inl x3), some (.inl x4), some (.inl x5), o6] [.inl (f_Alm_weekdayOf w (x2 - 1))] w _
        refine gw_if_ne (t := 114) k_Alm_considerFeast f_Alm_considerFeast_107 rfl (fun c4 => ?_) (fun c4 => ?_)
        · have h := h.2 c4
          refine gw_iconst k_Alm_considerFeast f_Alm_considerFeast_114 qc_1 ?_
          refine gw_istore [some (.inr (.inl (some 16))), some (.inl x1), some (.inl x2), some (.inl x3), some (.inl x4), some (.inl 1), o6] k_Alm_considerFeast f_Alm_considerFeast_115 (Nat.le_of_ble_eq_true rfl) rfl ?_
          refine gw_aload_n k_Alm_considerFeast f_Alm_considerFeast_117 rfl ?_
          refine gw_iload_n k_Alm_considerFeast f_Alm_considerFeast_118 rfl ?_
          refine gw_iload k_Alm_considerFeast f_Alm_considerFeast_119 rfl ?_
          refine gw_isub k_Alm_considerFeast f_Alm_considerFeast_121 ?_
          refine gw_iconst k_Alm_considerFeast f_Alm_considerFeast_122 qc_2 ?_
          refine gw_iconst k_Alm_considerFeast f_Alm_considerFeast_123 qc_4 ?_
          refine gw_iload_n k_Alm_considerFeast f_Alm_considerFeast_124 rfl ?_
          refine gw_static [.inl 2, .inl 4, .inl x1] k_Alm_considerFeast f_Alm_considerFeast_125 l_invT_0_144 (by decide) k_Alm_candidate rfl (by exact Nat.le_of_ble_eq_true rfl) (dc := 1) (by decide) ?_ rfl
          refine ev_Alm_candidate ?_
          show Gw zs 3 m_Alm_considerFeast 128 [some (.inr (.inl (some 16))), some (.inl x1), some (.inl x2), some (.inl x3), some (.inl x4), some (.inl 1), o6] [.inl (f_Alm_candidate 2 4 x1), .inl (x2 - 1), .inr (.inl (some 16))] w _
          refine gw_iconst k_Alm_considerFeast f_Alm_considerFeast_128 qc_0 ?_
          refine gw_iload_n k_Alm_considerFeast f_Alm_considerFeast_129 rfl ?_
          refine gw_virtual [.inl (x2 - 1), .inl (f_Alm_candidate 2 4 x1), .inl 0, .inl x3] k_Alm_considerFeast f_Alm_considerFeast_130 l_invT_0_148 k_Alm_consider hc16 rfl rfl rfl (by exact Nat.le_of_ble_eq_true rfl) (dc := 2) (by decide) ?_ rfl
          refine h.mono (fun v w5 hh => ?_)
          obtain ⟨rfl, h⟩ := hh
          show Gw zs 3 m_Alm_considerFeast 133 [some (.inr (.inl (some 16))), some (.inl x1), some (.inl x2), some (.inl x3), some (.inl x4), some (.inl 1), o6] [] w5 _
          exact gw_vret k_Alm_considerFeast f_Alm_considerFeast_133 rfl h
        · have c4 := Decidable.not_not.mp c4
          have h := h.1 c4
          refine gw_iconst k_Alm_considerFeast f_Alm_considerFeast_110 qc_2 ?_
          refine gw_goto (t := 115) k_Alm_considerFeast f_Alm_considerFeast_111 rfl ?_
          refine gw_istore [some (.inr (.inl (some 16))), some (.inl x1), some (.inl x2), some (.inl x3), some (.inl x4), some (.inl 2), o6] k_Alm_considerFeast f_Alm_considerFeast_115 (Nat.le_of_ble_eq_true rfl) rfl ?_
          refine gw_aload_n k_Alm_considerFeast f_Alm_considerFeast_117 rfl ?_
          refine gw_iload_n k_Alm_considerFeast f_Alm_considerFeast_118 rfl ?_
          refine gw_iload k_Alm_considerFeast f_Alm_considerFeast_119 rfl ?_
          refine gw_isub k_Alm_considerFeast f_Alm_considerFeast_121 ?_
          refine gw_iconst k_Alm_considerFeast f_Alm_considerFeast_122 qc_2 ?_
          refine gw_iconst k_Alm_considerFeast f_Alm_considerFeast_123 qc_4 ?_
          refine gw_iload_n k_Alm_considerFeast f_Alm_considerFeast_124 rfl ?_
          refine gw_static [.inl 2, .inl 4, .inl x1] k_Alm_considerFeast f_Alm_considerFeast_125 l_invT_0_144 (by decide) k_Alm_candidate rfl (by exact Nat.le_of_ble_eq_true rfl) (dc := 1) (by decide) ?_ rfl
          refine ev_Alm_candidate ?_
          show Gw zs 3 m_Alm_considerFeast 128 [some (.inr (.inl (some 16))), some (.inl x1), some (.inl x2), some (.inl x3), some (.inl x4), some (.inl 2), o6] [.inl (f_Alm_candidate 2 4 x1), .inl (x2 - 2), .inr (.inl (some 16))] w _
          refine gw_iconst k_Alm_considerFeast f_Alm_considerFeast_128 qc_0 ?_
          refine gw_iload_n k_Alm_considerFeast f_Alm_considerFeast_129 rfl ?_
          refine gw_virtual [.inl (x2 - 2), .inl (f_Alm_candidate 2 4 x1), .inl 0, .inl x3] k_Alm_considerFeast f_Alm_considerFeast_130 l_invT_0_148 k_Alm_consider hc16 rfl rfl rfl (by exact Nat.le_of_ble_eq_true rfl) (dc := 2) (by decide) ?_ rfl
          refine h.mono (fun v w6 hh => ?_)
          obtain ⟨rfl, h⟩ := hh
          show Gw zs 3 m_Alm_considerFeast 133 [some (.inr (.inl (some 16))), some (.inl x1), some (.inl x2), some (.inl x3), some (.inl x4), some (.inl 2), o6] [] w6 _
          exact gw_vret k_Alm_considerFeast f_Alm_considerFeast_133 rfl h
  · have h := h.2 c1
    refine gw_iload k_Alm_considerFeast f_Alm_considerFeast_39 rfl ?_
    refine gw_if_le (t := 85) k_Alm_considerFeast f_Alm_considerFeast_41 rfl (fun c7 => ?_) (fun c7 => ?_)
    · have h := h.1 c7
      refine gw_aload_n k_Alm_considerFeast f_Alm_considerFeast_85 rfl ?_
      refine gw_getR k_Alm_considerFeast f_Alm_considerFeast_86 l_fldT_0_35 hc16 rfl ?_
      refine gw_iload_n k_Alm_considerFeast f_Alm_considerFeast_89 rfl ?_
      refine gw_virtual [.inl x1] k_Alm_considerFeast f_Alm_considerFeast_90 l_invT_0_165 k_Fea_hasVigil hc8 rfl rfl rfl (by exact Nat.le_of_ble_eq_true rfl) (dc := 0) (by decide) ?_ rfl
      refine ev_Fea_hasVigil ?_
      show Gw zs 3 m_Alm_considerFeast 93 [some (.inr (.inl (some 16))), some (.inl x1), some (.inl x2), some (.inl x3), some (.inl x4), some (.inl x5), o6] [.inl (f_Fea_hasVigil w x1)] w _
      refine gw_if_eq (t := 133) k_Alm_considerFeast f_Alm_considerFeast_93 rfl (fun c8 => ?_) (fun c8 => ?_)
      · have h := h.1 c8
        exact gw_vret k_Alm_considerFeast f_Alm_considerFeast_133 rfl h
      · have h := h.2 c8
        refine gw_iload_n k_Alm_considerFeast f_Alm_considerFeast_96 rfl ?_
        refine gw_if_le (t := 133) k_Alm_considerFeast f_Alm_considerFeast_97 rfl (fun c9 => ?_) (fun c9 => ?_)
        · have h := h.1 c9
          exact gw_vret k_Alm_considerFeast f_Alm_considerFeast_133 rfl h
        · have h := h.2 c9
          refine gw_aload_n k_Alm_considerFeast f_Alm_considerFeast_100 rfl ?_
          refine gw_iload_n k_Alm_considerFeast f_Alm_considerFeast_101 rfl ?_
          refine gw_iconst k_Alm_considerFeast f_Alm_considerFeast_102 qc_1 ?_
          refine gw_isub k_Alm_considerFeast f_Alm_considerFeast_103 ?_
          refine gw_virtual [.inl (x2 - 1)] k_Alm_considerFeast f_Alm_considerFeast_104 l_invT_0_138 k_Alm_weekdayOf hc16 rfl rfl rfl (by exact Nat.le_of_ble_eq_true rfl) (dc := 0) (by decide) ?_ rfl
          refine ev_Alm_weekdayOf ?_
          show Gw zs 3 m_Alm_considerFeast 107 [some (.inr (.inl (some 16))), some (.inl x1), some (.inl x2), some (.inl x3), some (.inl x4), some (.inl x5), o6] [.inl (f_Alm_weekdayOf w (x2 - 1))] w _
          refine gw_if_ne (t := 114) k_Alm_considerFeast f_Alm_considerFeast_107 rfl (fun c10 => ?_) (fun c10 => ?_)
          · have h := h.2 c10
            refine gw_iconst k_Alm_considerFeast f_Alm_considerFeast_114 qc_1 ?_
            refine gw_istore [some (.inr (.inl (some 16))), some (.inl x1), some (.inl x2), some (.inl x3), some (.inl x4), some (.inl 1), o6] k_Alm_considerFeast f_Alm_considerFeast_115 (Nat.le_of_ble_eq_true rfl) rfl ?_
            refine gw_aload_n k_Alm_considerFeast f_Alm_considerFeast_117 rfl ?_
            refine gw_iload_n k_Alm_considerFeast f_Alm_considerFeast_118 rfl ?_
            refine gw_iload k_Alm_considerFeast f_Alm_considerFeast_119 rfl ?_
            refine gw_isub k_Alm_considerFeast f_Alm_considerFeast_121 ?_
            refine gw_iconst k_Alm_considerFeast f_Alm_considerFeast_122 qc_2 ?_
            refine gw_iconst k_Alm_considerFeast f_Alm_considerFeast_123 qc_4 ?_
            refine gw_iload_n k_Alm_considerFeast f_Alm_considerFeast_124 rfl ?_
            refine gw_static [.inl 2, .inl 4, .inl x1] k_Alm_considerFeast f_Alm_considerFeast_125 l_invT_0_144 (by decide) k_Alm_candidate rfl (by exact Nat.le_of_ble_eq_true rfl) (dc := 1) (by decide) ?_ rfl
            refine ev_Alm_candidate ?_
            show Gw zs 3 m_Alm_considerFeast 128 [some (.inr (.inl (some 16))), some (.inl x1), some (.inl x2), some (.inl x3), some (.inl x4), some (.inl 1), o6] [.inl (f_Alm_candidate 2 4 x1), .inl (x2 - 1), .inr (.inl (some 16))] w _
            refine gw_iconst k_Alm_considerFeast f_Alm_considerFeast_128 qc_0 ?_
            refine gw_iload_n k_Alm_considerFeast f_Alm_considerFeast_129 rfl ?_
            refine gw_virtual [.inl (x2 - 1), .inl (f_Alm_candidate 2 4 x1), .inl 0, .inl x3] k_Alm_considerFeast f_Alm_considerFeast_130 l_invT_0_148 k_Alm_consider hc16 rfl rfl rfl (by exact Nat.le_of_ble_eq_true rfl) (dc := 2) (by decide) ?_ rfl
            refine h.mono (fun v w11 hh => ?_)
            obtain ⟨rfl, h⟩ := hh
            show Gw zs 3 m_Alm_considerFeast 133 [some (.inr (.inl (some 16))), some (.inl x1), some (.inl x2), some (.inl x3), some (.inl x4), some (.inl 1), o6] [] w11 _
            exact gw_vret k_Alm_considerFeast f_Alm_considerFeast_133 rfl h
          · have c10 := Decidable.not_not.mp c10
            have h := h.1 c10
            refine gw_iconst k_Alm_considerFeast f_Alm_considerFeast_110 qc_2 ?_
            refine gw_goto (t := 115) k_Alm_considerFeast f_Alm_considerFeast_111 rfl ?_
            refine gw_istore [some (.inr (.inl (some 16))), some (.inl x1), some (.inl x2), some (.inl x3), some (.inl x4), some (.inl 2), o6] k_Alm_considerFeast f_Alm_considerFeast_115 (Nat.le_of_ble_eq_true rfl) rfl ?_
            refine gw_aload_n k_Alm_considerFeast f_Alm_considerFeast_117 rfl ?_
            refine gw_iload_n k_Alm_considerFeast f_Alm_considerFeast_118 rfl ?_
            refine gw_iload k_Alm_considerFeast f_Alm_considerFeast_119 rfl ?_
            refine gw_isub k_Alm_considerFeast f_Alm_considerFeast_121 ?_
            refine gw_iconst k_Alm_considerFeast f_Alm_considerFeast_122 qc_2 ?_
            refine gw_iconst k_Alm_considerFeast f_Alm_considerFeast_123 qc_4 ?_
            refine gw_iload_n k_Alm_considerFeast f_Alm_considerFeast_124 rfl ?_
            refine gw_static [.inl 2, .inl 4, .inl x1] k_Alm_considerFeast f_Alm_considerFeast_125 l_invT_0_144 (by decide) k_Alm_candidate rfl (by exact Nat.le_of_ble_eq_true rfl) (dc := 1) (by decide) ?_ rfl
            refine ev_Alm_candidate ?_
            show Gw zs 3 m_Alm_considerFeast 128 [some (.inr (.inl (some 16))), some (.inl x1), some (.inl x2), some (.inl x3), some (.inl x4), some (.inl 2), o6] [.inl (f_Alm_candidate 2 4 x1), .inl (x2 - 2), .inr (.inl (some 16))] w _
            refine gw_iconst k_Alm_considerFeast f_Alm_considerFeast_128 qc_0 ?_
            refine gw_iload_n k_Alm_considerFeast f_Alm_considerFeast_129 rfl ?_
            refine gw_virtual [.inl (x2 - 2), .inl (f_Alm_candidate 2 4 x1), .inl 0, .inl x3] k_Alm_considerFeast f_Alm_considerFeast_130 l_invT_0_148 k_Alm_consider hc16 rfl rfl rfl (by exact Nat.le_of_ble_eq_true rfl) (dc := 2) (by decide) ?_ rfl
            refine h.mono (fun v w12 hh => ?_)
            obtain ⟨rfl, h⟩ := hh
            show Gw zs 3 m_Alm_considerFeast 133 [some (.inr (.inl (some 16))), some (.inl x1), some (.inl x2), some (.inl x3), some (.inl x4), some (.inl 2), o6] [] w12 _
            exact gw_vret k_Alm_considerFeast f_Alm_considerFeast_133 rfl h
    · have h := h.2 c7
      refine gw_iload k_Alm_considerFeast f_Alm_considerFeast_44 rfl ?_
      refine gw_bipush k_Alm_considerFeast f_Alm_considerFeast_46 qb_7 ?_
      refine gw_icmp_ne (t := 58) k_Alm_considerFeast f_Alm_considerFeast_48 rfl (fun c13 => ?_) (fun c13 => ?_)
      · have h := h.2 c13
        refine gw_iload k_Alm_considerFeast f_Alm_considerFeast_58 rfl ?_
        refine gw_istore [some (.inr (.inl (some 16))), some (.inl x1), some (.inl x2), some (.inl x3), some (.inl x4), some (.inl x5), some (.inl x4)] k_Alm_considerFeast f_Alm_considerFeast_60 (Nat.le_of_ble_eq_true rfl) rfl ?_
        refine gw_aload_n k_Alm_considerFeast f_Alm_considerFeast_62 rfl ?_
        refine gw_iload_n k_Alm_considerFeast f_Alm_considerFeast_63 rfl ?_
        refine gw_iload k_Alm_considerFeast f_Alm_considerFeast_64 rfl ?_
        refine gw_iadd k_Alm_considerFeast f_Alm_considerFeast_66 ?_
        refine gw_iload k_Alm_considerFeast f_Alm_considerFeast_67 rfl ?_
        refine gw_iconst k_Alm_considerFeast f_Alm_considerFeast_69 qc_3 ?_
        refine gw_iload_n k_Alm_considerFeast f_Alm_considerFeast_70 rfl ?_
        refine gw_static [.inl x4, .inl 3, .inl x1] k_Alm_considerFeast f_Alm_considerFeast_71 l_invT_0_144 (by decide) k_Alm_candidate rfl (by exact Nat.le_of_ble_eq_true rfl) (dc := 1) (by decide) ?_ rfl
        refine ev_Alm_candidate ?_
        show Gw zs 3 m_Alm_considerFeast 74 [some (.inr (.inl (some 16))), some (.inl x1), some (.inl x2), some (.inl x3), some (.inl x4), some (.inl x5), some (.inl x4)] [.inl (f_Alm_candidate x4 3 x1), .inl (x2 + x5), .inr (.inl (some 16))] w _
        refine gw_iconst k_Alm_considerFeast f_Alm_considerFeast_74 qc_1 ?_
        refine gw_iload_n k_Alm_considerFeast f_Alm_considerFeast_75 rfl ?_
        refine gw_virtual [.inl (x2 + x5), .inl (f_Alm_candidate x4 3 x1), .inl 1, .inl x3] k_Alm_considerFeast f_Alm_considerFeast_76 l_invT_0_148 k_Alm_consider hc16 rfl rfl rfl (by exact Nat.le_of_ble_eq_true rfl) (dc := 2) (by decide) ?_ rfl
        refine h.mono (fun v w14 hh => ?_)
        obtain ⟨rfl, h⟩ := hh
        show Gw zs 3 m_Alm_considerFeast 79 [some (.inr (.inl (some 16))), some (.inl x1), some (.inl x2), some (.inl x3), some (.inl x4), some (.inl x5), some (.inl x4)] [] w14 _
        refine gw_iinc [some (.inr (.inl (some 16))), some (.inl x1), some (.inl x2), some (.inl x3), some (.inl x4), some (.inl (x5 + 1)), some (.inl x4)] k_Alm_considerFeast f_Alm_considerFeast_79 rfl qc_1 (Nat.le_of_ble_eq_true rfl) rfl ?_
        refine gw_goto (t := 32) k_Alm_considerFeast f_Alm_considerFeast_82 rfl ?_
        exact h
      · have c13 := Decidable.not_not.mp c13
        have h := h.1 c13
        refine gw_iload k_Alm_considerFeast f_Alm_considerFeast_51 rfl ?_
        refine gw_iconst k_Alm_considerFeast f_Alm_considerFeast_53 qc_1 ?_
        refine gw_iadd k_Alm_considerFeast f_Alm_considerFeast_54 ?_
        refine gw_goto (t := 60) k_Alm_considerFeast f_Alm_considerFeast_55 rfl ?_
        refine gw_istore [some (.inr (.inl (some 16))), some (.inl x1), some (.inl x2), some (.inl x3), some (.inl x4), some (.inl x5), some (.inl (x4 + 1))] k_Alm_considerFeast f_Alm_considerFeast_60 (Nat.le_of_ble_eq_true rfl) rfl ?_
        refine gw_aload_n k_Alm_considerFeast f_Alm_considerFeast_62 rfl ?_
        refine gw_iload_n k_Alm_considerFeast f_Alm_considerFeast_63 rfl ?_
        refine gw_iload k_Alm_considerFeast f_Alm_considerFeast_64 rfl ?_
        refine gw_iadd k_Alm_considerFeast f_Alm_considerFeast_66 ?_
        refine gw_iload k_Alm_considerFeast f_Alm_considerFeast_67 rfl ?_
        refine gw_iconst k_Alm_considerFeast f_Alm_considerFeast_69 qc_3 ?_
        refine gw_iload_n k_Alm_considerFeast f_Alm_considerFeast_70 rfl ?_
        refine gw_static [.inl (x4 + 1), .inl 3, .inl x1] k_Alm_considerFeast f_Alm_considerFeast_71 l_invT_0_144 (by decide) k_Alm_candidate rfl (by exact Nat.le_of_ble_eq_true rfl) (dc := 1) (by decide) ?_ rfl
        refine ev_Alm_candidate ?_
        show Gw zs 3 m_Alm_considerFeast 74 [some (.inr (.inl (some 16))), some (.inl x1), some (.inl x2), some (.inl x3), some (.inl x4), some (.inl x5), some (.inl (x4 + 1))] [.inl (f_Alm_candidate (x4 + 1) 3 x1), .inl (x2 + x5), .inr (.inl (some 16))] w _
        refine gw_iconst k_Alm_considerFeast f_Alm_considerFeast_74 qc_1 ?_
        refine gw_iload_n k_Alm_considerFeast f_Alm_considerFeast_75 rfl ?_
        refine gw_virtual [.inl (x2 + x5), .inl (f_Alm_candidate (x4 + 1) 3 x1), .inl 1, .inl x3] k_Alm_considerFeast f_Alm_considerFeast_76 l_invT_0_148 k_Alm_consider hc16 rfl rfl rfl (by exact Nat.le_of_ble_eq_true rfl) (dc := 2) (by decide) ?_ rfl
        refine h.mono (fun v w15 hh => ?_)
        obtain ⟨rfl, h⟩ := hh
        show Gw zs 3 m_Alm_considerFeast 79 [some (.inr (.inl (some 16))), some (.inl x1), some (.inl x2), some (.inl x3), some (.inl x4), some (.inl x5), some (.inl (x4 + 1))] [] w15 _
        refine gw_iinc [some (.inr (.inl (some 16))), some (.inl x1), some (.inl x2), some (.inl x3), some (.inl x4), some (.inl (x5 + 1)), some (.inl (x4 + 1))] k_Alm_considerFeast f_Alm_considerFeast_79 rfl qc_1 (Nat.le_of_ble_eq_true rfl) rfl ?_
        refine gw_goto (t := 32) k_Alm_considerFeast f_Alm_considerFeast_82 rfl ?_
        exact h
theorem sg_Alm_considerAll_0 {zs : List Int32} {a0 : Int32} {w : Wd} {Q : Option AV → Wd → Prop} (h : Gw zs 4 m_Alm_considerAll 2 [some (.inr (.inl (some 16))), some (.inl a0), some (.inl 0), none, none, none, none] [] w Q) : Gw zs 4 m_Alm_considerAll 0 [some (.inr (.inl (some 16))), some (.inl a0), none, none, none, none, none] [] w Q := by
  refine gw_iconst k_Alm_considerAll f_Alm_considerAll_0 qc_0 ?_
  refine gw_istore_n [some (.inr (.inl (some 16))), some (.inl a0), some (.inl 0), none, none, none, none] k_Alm_considerAll f_Alm_considerAll_1 (Nat.le_of_ble_eq_true rfl) rfl ?_
  exact h
theorem sg_Alm_considerAll_2 {zs : List Int32} {x1 x2 : Int32} {o3 o4 o5 o6 : Option AV} {w : Wd} {Q : Option AV → Wd → Prop} (h : (((w 16 8) ≤ x2 → Gw zs 4 m_Alm_considerAll 81 [some (.inr (.inl (some 16))), some (.inl x1), some (.inl 0), o3, o4, o5, o6] [] w Q) ∧ (¬ ((w 16 8) ≤ x2) → (((f_Alm_weekdayOf w x2) = 0 → (((f_Sea_rankOf w (f_at w 17 366 x2) (f_Alm_weekdayOf w x2)) = 0 → Ew zs 2 m_Alm_consider [.inr (.inl (some 16)), .inl x2, .inl (f_Alm_candidate (f_Sea_rankOf w (f_at w 17 366 x2) (f_Alm_weekdayOf w x2)) 1 0), .inl 0, .inl x1] w (fun v w8 => v = none ∧ Gw zs 4 m_Alm_considerAll 2 [some (.inr (.inl (some 16))), some (.inl x1), some (.inl (x2 + 1)), some (.inl (f_Alm_weekdayOf w x2)), some (.inl (f_Sea_rankOf w (f_at w 17 366 x2) (f_Alm_weekdayOf w x2))), some (.inl 1), some (.inl 0)] [] w8 Q)) ∧ (¬ ((f_Sea_rankOf w (f_at w 17 366 x2) (f_Alm_weekdayOf w x2)) = 0) → Ew zs 2 m_Alm_consider [.inr (.inl (some 16)), .inl x2, .inl (f_Alm_candidate (f_Sea_rankOf w (f_at w 17 366 x2) (f_Alm_weekdayOf w x2)) 1 0), .inl 1, .inl x1] w (fun v w7 => v = none ∧ Gw zs 4 m_Alm_considerAll 2 [some (.inr (.inl (some 16))), some (.inl x1), some (.inl (x2 + 1)), some (.inl (f_Alm_weekdayOf w x2)), some (.inl (f_Sea_rankOf w (f_at w 17 366 x2) (f_Alm_weekdayOf w x2))), some (.inl 1), some (.inl 1)] [] w7 Q)))) ∧ (¬ ((f_Alm_weekdayOf w x2) = 0) → (((f_Sea_rankOf w (f_at w 17 366 x2) (f_Alm_weekdayOf w x2)) = 0 → Ew zs 2 m_Alm_consider [.inr (.inl (some 16)), .inl x2, .inl (f_Alm_candidate (f_Sea_rankOf w (f_at w 17 366 x2) (f_Alm_weekdayOf w x2)) 0 0), .inl 0, .inl x1] w (fun v w5 => v = none ∧ Gw zs 4 m_Alm_considerAll 2 [some (.inr (.inl (some 16))), some (.inl x1), some (.inl (x2 + 1)), some (.inl (f_Alm_weekdayOf w x2)), some (.inl (f_Sea_rankOf w (f_at w 17 366 x2) (f_Alm_weekdayOf w x2))), some (.inl 0), some (.inl 0)] [] w5 Q)) ∧ (¬ ((f_Sea_rankOf w (f_at w 17 366 x2) (f_Alm_weekdayOf w x2)) = 0) → Ew zs 2 m_Alm_consider [.inr (.inl (some 16)), .inl x2, .inl (f_Alm_candidate (f_Sea_rankOf w (f_at w 17 366 x2) (f_Alm_weekdayOf w x2)) 0 0), .inl 1, .inl x1] w (fun v w4 => v = none ∧ Gw zs 4 m_Alm_considerAll 2 [some (.inr (.inl (some 16))), some (.inl x1), some (.inl (x2 + 1)), some (.inl (f_Alm_weekdayOf w x2)), some (.inl (f_Sea_rankOf w (f_at w 17 366 x2) (f_Alm_weekdayOf w x2))), some (.inl 0), some (.inl 1)] [] w4 Q)))))))) : Gw zs 4 m_Alm_considerAll 2 [some (.inr (.inl (some 16))), some (.inl x1), some (.inl x2), o3, o4, o5, o6] [] w Q := by
  refine gw_iload_n k_Alm_considerAll f_Alm_considerAll_2 rfl ?_
  refine gw_aload_n k_Alm_considerAll f_Alm_considerAll_3 rfl ?_
  refine gw_getI k_Alm_considerAll f_Alm_considerAll_4 l_fldT_0_91 hc16 rfl ?_
  refine gw_icmp_ge (t := 79) k_Alm_considerAll f_Alm_considerAll_7 rfl (fun c1 => ?_) (fun c1 => ?_)
  · have h := h.1 c1
    refine gw_iconst k_Alm_considerAll f_Alm_considerAll_79 qc_0 ?_
    refine gw_istore_n [some (.inr (.inl (some 16))), some (.inl x1), some (.inl 0), o3, o4, o5, o6] k_Alm_considerAll f_Alm_considerAll_80 (Nat.le_of_ble_eq_true rfl) rfl ?_
    exact h
  · have h := h.2 c1
    refine gw_aload_n k_Alm_considerAll f_Alm_considerAll_10 rfl ?_
    refine gw_iload_n k_Alm_considerAll f_Alm_considerAll_11 rfl ?_
    refine gw_virtual [.inl x2] k_Alm_considerAll f_Alm_considerAll_12 l_invT_0_138 k_Alm_weekdayOf hc16 rfl rfl rfl (by exact Nat.le_of_ble_eq_true rfl) (dc := 0) (by decide) ?_ rfl
    refine ev_Alm_weekdayOf ?_
    show Gw zs 4 m_Alm_considerAll 15 [some (.inr (.inl (some 16))), some (.inl x1), some (.inl x2), o3, o4, o5, o6] [.inl (f_Alm_weekdayOf w x2)] w _
    refine gw_istore_n [some (.inr (.inl (some 16))), some (.inl x1), some (.inl x2), some (.inl (f_Alm_weekdayOf w x2)), o4, o5, o6] k_Alm_considerAll f_Alm_considerAll_15 (Nat.le_of_ble_eq_true rfl) rfl ?_
    refine gw_aload_n k_Alm_considerAll f_Alm_considerAll_16 rfl ?_
    refine gw_getR k_Alm_considerAll f_Alm_considerAll_17 l_fldT_0_31 hc16 rfl ?_
    refine gw_aload_n k_Alm_considerAll f_Alm_considerAll_20 rfl ?_
    refine gw_getR k_Alm_considerAll f_Alm_considerAll_21 l_fldT_0_11 hc16 rfl ?_
    refine gw_iload_n k_Alm_considerAll f_Alm_considerAll_24 rfl ?_
    refine gw_static [.inr (.inl (some 17)), .inl x2] k_Alm_considerAll f_Alm_considerAll_25 l_invT_0_60 (by decide) k_Bk_at rfl (by exact Nat.le_of_ble_eq_true rfl) (dc := 0) (by decide) ?_ rfl
    refine ev_at hc17 (by decide) ?_
    show Gw zs 4 m_Alm_considerAll 28 [some (.inr (.inl (some 16))), some (.inl x1), some (.inl x2), some (.inl (f_Alm_weekdayOf w x2)), o4, o5, o6] [.inl (f_at w 17 366 x2), .inr (.inl (some 1))] w _
    refine gw_iload_n k_Alm_considerAll f_Alm_considerAll_28 rfl ?_
    refine gw_virtual [.inl (f_at w 17 366 x2), .inl (f_Alm_weekdayOf w x2)] k_Alm_considerAll f_Alm_considerAll_29 l_invT_0_141 k_Sea_rankOf hc1 rfl rfl rfl (by exact Nat.le_of_ble_eq_true rfl) (dc := 1) (by decide) ?_ rfl
    refine ev_Sea_rankOf ?_
    show Gw zs 4 m_Alm_considerAll 32 [some (.inr (.inl (some 16))), some (.inl x1), some (.inl x2), some (.inl (f_Alm_weekdayOf w x2)), o4, o5, o6] [.inl (f_Sea_rankOf w (f_at w 17 366 x2) (f_Alm_weekdayOf w x2))] w _
    refine gw_istore [some (.inr (.inl (some 16))), some (.inl x1), some (.inl x2), some (.inl (f_Alm_weekdayOf w x2)), some (.inl (f_Sea_rankOf w (f_at w 17 366 x2) (f_Alm_weekdayOf w x2))), o5, o6] k_Alm_considerAll f_Alm_considerAll_32 (Nat.le_of_ble_eq_true rfl) rfl ?_
    refine gw_iload_n k_Alm_considerAll f_Alm_considerAll_34 rfl ?_
    refine gw_if_ne (t := 42) k_Alm_considerAll f_Alm_considerAll_35 rfl (fun c2 => ?_) (fun c2 => ?_)
    · have h := h.2 c2
      refine gw_iconst k_Alm_considerAll f_Alm_considerAll_42 qc_0 ?_
      refine gw_istore [some (.inr (.inl (some 16))), some (.inl x1), some (.inl x2), some (.inl (f_Alm_weekdayOf w x2)), some (.inl (f_Sea_rankOf w (f_at w 17 366 x2) (f_Alm_weekdayOf w x2))), some (.inl 0), o6] k_Alm_considerAll f_Alm_considerAll_43 (Nat.le_of_ble_eq_true rfl) rfl ?_
      refine gw_iload k_Alm_considerAll f_Alm_considerAll_45 rfl ?_
      refine gw_if_ne (t := 54) k_Alm_considerAll f_Alm_considerAll_47 rfl (fun c3 => ?_) (fun c3 => ?_)
      · have h := h.2 c3
        refine gw_iconst k_Alm_considerAll f_Alm_considerAll_54 qc_1 ?_
        refine gw_istore [some (.inr (.inl (some 16))), some (.inl x1), some (.inl x2), some (.inl (f_Alm_weekdayOf w x2)), some (.inl (f_Sea_rankOf w (f_at w 17 366 x2) (f_Alm_weekdayOf w x2))), some (.inl 0), some (.inl 1)] k_Alm_considerAll f_Alm_considerAll_55 (Nat.le_of_ble_eq_true rfl) rfl ?_
        refine gw_aload_n k_Alm_considerAll f_Alm_considerAll_57 rfl ?_
        refine gw_iload_n k_Alm_considerAll f_Alm_considerAll_58 rfl ?_
        refine gw_iload k_Alm_considerAll f_Alm_considerAll_59 rfl ?_
        refine gw_iload k_Alm_considerAll f_Alm_considerAll_61 rfl ?_
        refine gw_iconst k_Alm_considerAll f_Alm_considerAll_63 qc_0 ?_
        refine gw_static [.inl (f_Sea_rankOf w (f_at w 17 366 x2) (f_Alm_weekdayOf w x2)), .inl 0, .inl 0] k_Alm_considerAll f_Alm_considerAll_64 l_invT_0_144 (by decide) k_Alm_candidate rfl (by exact Nat.le_of_ble_eq_true rfl) (dc := 1) (by decide) ?_ rfl
        refine ev_Alm_candidate ?_
        show Gw zs 4 m_Alm_considerAll 67 [some (.inr (.inl (some 16))), some (.inl x1), some (.inl x2), some (.inl (f_Alm_weekdayOf w x2)), some (.inl (f_Sea_rankOf w (f_at w 17 366 x2) (f_Alm_weekdayOf w x2))), some (.inl 0), some (.inl 1)] [.inl (f_Alm_candidate (f_Sea_rankOf w (f_at w 17 366 x2) (f_Alm_weekdayOf w x2)) 0 0), .inl x2, .inr (.inl (some 16))] w _
        refine gw_iload k_Alm_considerAll f_Alm_considerAll_67 rfl ?_
        refine gw_iload_n k_Alm_considerAll f_Alm_considerAll_69 rfl ?_
        refine gw_virtual [.inl x2, .inl (f_Alm_candidate (f_Sea_rankOf w (f_at w 17 366 x2) (f_Alm_weekdayOf w x2)) 0 0), .inl 1, .inl x1] k_Alm_considerAll f_Alm_considerAll_70 l_invT_0_148 k_Alm_consider hc16 rfl rfl rfl (by exact Nat.le_of_ble_eq_true rfl) (dc := 2) (by decide) ?_ rfl
        refine h.mono (fun v w4 hh => ?_)
        obtain ⟨rfl, h⟩ := hh
        show Gw zs 4 m_Alm_considerAll 73 [some (.inr (.inl (some 16))), some (.inl x1), some (.inl x2), some (.inl (f_Alm_weekdayOf w x2)), some (.inl (f_Sea_rankOf w (f_at w 17 366 x2) (f_Alm_weekdayOf w x2))), some (.inl 0), some (.inl 1)] [] w4 _
        refine gw_iinc [some (.inr (.inl (some 16))), some (.inl x1), some (.inl (x2 + 1)), some (.inl (f_Alm_weekdayOf w x2)), some (.inl (f_Sea_rankOf w (f_at w 17 366 x2) (f_Alm_weekdayOf w x2))), some (.inl 0), some (.inl 1)] k_Alm_considerAll f_Alm_considerAll_73 rfl qc_1 (Nat.le_of_ble_eq_true rfl) rfl ?_
        refine gw_goto (t := 2) k_Alm_considerAll f_Alm_considerAll_76 rfl ?_
        exact h
      · have c3 := Decidable.not_not.mp c3
        have h := h.1 c3
        refine gw_iconst k_Alm_considerAll f_Alm_considerAll_50 qc_0 ?_
        refine gw_goto (t := 55) k_Alm_considerAll f_Alm_considerAll_51 rfl ?_
        refine gw_istore [some (.inr (.inl (some 16))), some (.inl x1), some (.inl x2), some (.inl (f_Alm_weekdayOf w x2)), some (.inl (f_Sea_rankOf w (f_at w 17 366 x2) (f_Alm_weekdayOf w x2))), some (.inl 0), some (.inl 0)] k_Alm_considerAll f_Alm_considerAll_55 (Nat.le_of_ble_eq_true rfl) rfl ?_
        refine gw_aload_n k_Alm_considerAll f_Alm_considerAll_57 rfl ?_
        refine gw_iload_n k_Alm_considerAll f_Alm_considerAll_58 rfl ?_
        refine gw_iload k_Alm_considerAll f_Alm_considerAll_59 rfl ?_
        refine gw_iload k_Alm_considerAll f_Alm_considerAll_61 rfl ?_
        refine gw_iconst k_Alm_considerAll f_Alm_considerAll_63 qc_0 ?_
        refine gw_static [.inl (f_Sea_rankOf w (f_at w 17 366 x2) (f_Alm_weekdayOf w x2)), .inl 0, .inl 0] k_Alm_considerAll f_Alm_considerAll_64 l_invT_0_144 (by decide) k_Alm_candidate rfl (by exact Nat.le_of_ble_eq_true rfl) (dc := 1) (by decide) ?_ rfl
        refine ev_Alm_candidate ?_
        show Gw zs 4 m_Alm_considerAll 67 [some (.inr (.inl (some 16))), some (.inl x1), some (.inl x2), some (.inl (f_Alm_weekdayOf w x2)), some (.inl (f_Sea_rankOf w (f_at w 17 366 x2) (f_Alm_weekdayOf w x2))), some (.inl 0), some (.inl 0)] [.inl (f_Alm_candidate (f_Sea_rankOf w (f_at w 17 366 x2) (f_Alm_weekdayOf w x2)) 0 0), .inl x2, .inr (.inl (some 16))] w _
        refine gw_iload k_Alm_considerAll f_Alm_considerAll_67 rfl ?_
        refine gw_iload_n k_Alm_considerAll f_Alm_considerAll_69 rfl ?_
        refine gw_virtual [.inl x2, .inl (f_Alm_candidate (f_Sea_rankOf w (f_at w 17 366 x2) (f_Alm_weekdayOf w x2)) 0 0), .inl 0, .inl x1] k_Alm_considerAll f_Alm_considerAll_70 l_invT_0_148 k_Alm_consider hc16 rfl rfl rfl (by exact Nat.le_of_ble_eq_true rfl) (dc := 2) (by decide) ?_ rfl
        refine h.mono (fun v w5 hh => ?_)
        obtain ⟨rfl, h⟩ := hh
        show Gw zs 4 m_Alm_considerAll 73 [some (.inr (.inl (some 16))), some (.inl x1), some (.inl x2), some (.inl (f_Alm_weekdayOf w x2)), some (.inl (f_Sea_rankOf w (f_at w 17 366 x2) (f_Alm_weekdayOf w x2))), some (.inl 0), some (.inl 0)] [] w5 _
        refine gw_iinc [some (.inr (.inl (some 16))), some (.inl x1), some (.inl (x2 + 1)), some (.inl (f_Alm_weekdayOf w x2)), some (.inl (f_Sea_rankOf w (f_at w 17 366 x2) (f_Alm_weekdayOf w x2))), some (.inl 0), some (.inl 0)] k_Alm_considerAll f_Alm_considerAll_73 rfl qc_1 (Nat.le_of_ble_eq_true rfl) rfl ?_
        refine gw_goto (t := 2) k_Alm_considerAll f_Alm_considerAll_76 rfl ?_
        exact h
    · have c2 := Decidable.not_not.mp c2
      have h := h.1 c2
      refine gw_iconst k_Alm_considerAll f_Alm_considerAll_38 qc_1 ?_
      refine gw_goto (t := 43) k_Alm_considerAll f_Alm_considerAll_39 rfl ?_
      refine gw_istore [some (.inr (.inl (some 16))), some (.inl x1), some (.inl x2), some (.inl (f_Alm_weekdayOf w x2)), some (.inl (f_Sea_rankOf w (f_at w 17 366 x2) (f_Alm_weekdayOf w x2))), some (.inl 1), o6] k_Alm_considerAll f_Alm_considerAll_43 (Nat.le_of_ble_eq_true rfl) rfl ?_
      refine gw_iload k_Alm_considerAll f_Alm_considerAll_45 rfl ?_
      refine gw_if_ne (t := 54) k_Alm_considerAll f_Alm_considerAll_47 rfl (fun c6 => ?_) (fun c6 => ?_)
      · have h := h.2 c6
        refine gw_iconst k_Alm_considerAll f_Alm_considerAll_54 qc_1 ?_
        refine gw_istore [some (.inr (.inl (some 16))), some (.inl x1), some (.inl x2), some (.inl (f_Alm_weekdayOf w x2)), some (.inl (f_Sea_rankOf w (f_at w 17 366 x2) (f_Alm_weekdayOf w x2))), some (.inl 1), some (.inl 1)] k_Alm_considerAll f_Alm_considerAll_55 (Nat.le_of_ble_eq_true rfl) rfl ?_
        refine gw_aload_n k_Alm_considerAll f_Alm_considerAll_57 rfl ?_
        refine gw_iload_n k_Alm_considerAll f_Alm_considerAll_58 rfl ?_
        refine gw_iload k_Alm_considerAll f_Alm_considerAll_59 rfl ?_
        refine gw_iload k_Alm_considerAll f_Alm_considerAll_61 rfl ?_
        refine gw_iconst k_Alm_considerAll f_Alm_considerAll_63 qc_0 ?_
        refine gw_static [.inl (f_Sea_rankOf w (f_at w 17 366 x2) (f_Alm_weekdayOf w x2)), .inl 1, .inl 0] k_Alm_considerAll f_Alm_considerAll_64 l_invT_0_144 (by decide) k_Alm_candidate rfl (by exact Nat.le_of_ble_eq_true rfl) (dc := 1) (by decide) ?_ rfl
        refine ev_Alm_candidate ?_
        show Gw zs 4 m_Alm_considerAll 67 [some (.inr (.inl (some 16))), some (.inl x1), some (.inl x2), some (.inl (f_Alm_weekdayOf w x2)), some (.inl (f_Sea_rankOf w (f_at w 17 366 x2) (f_Alm_weekdayOf w x2))), some (.inl 1), some (.inl 1)] [.inl (f_Alm_candidate (f_Sea_rankOf w (f_at w 17 366 x2) (f_Alm_weekdayOf w x2)) 1 0), .inl x2, .inr (.inl (some 16))] w _
        refine gw_iload k_Alm_considerAll f_Alm_considerAll_67 rfl ?_
        refine gw_iload_n k_Alm_considerAll f_Alm_considerAll_69 rfl ?_
        refine gw_virtual [.inl x2, .inl (f_Alm_candidate (f_Sea_rankOf w (f_at w 17 366 x2) (f_Alm_weekdayOf w x2)) 1 0), .inl 1, .inl x1] k_Alm_considerAll f_Alm_considerAll_70 l_invT_0_148 k_Alm_consider hc16 rfl rfl rfl (by exact Nat.le_of_ble_eq_true rfl) (dc := 2) (by decide) ?_ rfl
        refine h.mono (fun v w7 hh => ?_)
        obtain ⟨rfl, h⟩ := hh
        show Gw zs 4 m_Alm_considerAll 73 [some (.inr (.inl (some 16))), some (.inl x1), some (.inl x2), some (.inl (f_Alm_weekdayOf w x2)), some (.inl (f_Sea_rankOf w (f_at w 17 366 x2) (f_Alm_weekdayOf w x2))), some (.inl 1), some (.inl 1)] [] w7 _
        refine gw_iinc [some (.inr (.inl (some 16))), some (.inl x1), some (.inl (x2 + 1)), some (.inl (f_Alm_weekdayOf w x2)), some (.inl (f_Sea_rankOf w (f_at w 17 366 x2) (f_Alm_weekdayOf w x2))), some (.inl 1), some (.inl 1)] k_Alm_considerAll f_Alm_considerAll_73 rfl qc_1 (Nat.le_of_ble_eq_true rfl) rfl ?_
        refine gw_goto (t := 2) k_Alm_considerAll f_Alm_considerAll_76 rfl ?_
        exact h
      · have c6 := Decidable.not_not.mp c6
        have h := h.1 c6
        refine gw_iconst k_Alm_considerAll f_Alm_considerAll_50 qc_0 ?_
        refine gw_goto (t := 55) k_Alm_considerAll f_Alm_considerAll_51 rfl ?_
        refine gw_istore [some (.inr (.inl (some 16))), some (.inl x1), some (.inl x2), some (.inl (f_Alm_weekdayOf w x2)), some (.inl (f_Sea_rankOf w (f_at w 17 366 x2) (f_Alm_weekdayOf w x2))), some (.inl 1), some (.inl 0)] k_Alm_considerAll f_Alm_considerAll_55 (Nat.le_of_ble_eq_true rfl) rfl ?_
        refine gw_aload_n k_Alm_considerAll f_Alm_considerAll_57 rfl ?_
        refine gw_iload_n k_Alm_considerAll f_Alm_considerAll_58 rfl ?_
        refine gw_iload k_Alm_considerAll f_Alm_considerAll_59 rfl ?_
        refine gw_iload k_Alm_considerAll f_Alm_considerAll_61 rfl ?_
        refine gw_iconst k_Alm_considerAll f_Alm_considerAll_63 qc_0 ?_
        refine gw_static [.inl (f_Sea_rankOf w (f_at w 17 366 x2) (f_Alm_weekdayOf w x2)), .inl 1, .inl 0] k_Alm_considerAll f_Alm_considerAll_64 l_invT_0_144 (by decide) k_Alm_candidate rfl (by exact Nat.le_of_ble_eq_true rfl) (dc := 1) (by decide) ?_ rfl
        refine ev_Alm_candidate ?_
        show Gw zs 4 m_Alm_considerAll 67 [some (.inr (.inl (some 16))), some (.inl x1), some (.inl x2), some (.inl (f_Alm_weekdayOf w x2)), some (.inl (f_Sea_rankOf w (f_at w 17 366 x2) (f_Alm_weekdayOf w x2))), some (.inl 1), some (.inl 0)] [.inl (f_Alm_candidate (f_Sea_rankOf w (f_at w 17 366 x2) (f_Alm_weekdayOf w x2)) 1 0), .inl x2, .inr (.inl (some 16))] w _
        refine gw_iload k_Alm_considerAll f_Alm_considerAll_67 rfl ?_
        refine gw_iload_n k_Alm_considerAll f_Alm_considerAll_69 rfl ?_
        refine gw_virtual [.inl x2, .inl (f_Alm_candidate (f_Sea_rankOf w (f_at w 17 366 x2) (f_Alm_weekdayOf w x2)) 1 0), .inl 0, .inl x1] k_Alm_considerAll f_Alm_considerAll_70 l_invT_0_148 k_Alm_consider hc16 rfl rfl rfl (by exact Nat.le_of_ble_eq_true rfl) (dc := 2) (by decide) ?_ rfl
        refine h.mono (fun v w8 hh => ?_)
        obtain ⟨rfl, h⟩ := hh
        show Gw zs 4 m_Alm_considerAll 73 [some (.inr (.inl (some 16))), some (.inl x1), some (.inl x2), some (.inl (f_Alm_weekdayOf w x2)), some (.inl (f_Sea_rankOf w (f_at w 17 366 x2) (f_Alm_weekdayOf w x2))), some (.inl 1), some (.inl 0)] [] w8 _
        refine gw_iinc [some (.inr (.inl (some 16))), some (.inl x1), some (.inl (x2 + 1)), some (.inl (f_Alm_weekdayOf w x2)), some (.inl (f_Sea_rankOf w (f_at w 17 366 x2) (f_Alm_weekdayOf w x2))), some (.inl 1), some (.inl 0)] k_Alm_considerAll f_Alm_considerAll_73 rfl qc_1 (Nat.le_of_ble_eq_true rfl) rfl ?_
        refine gw_goto (t := 2) k_Alm_considerAll f_Alm_considerAll_76 rfl ?_
        exact h
theorem sg_Alm_considerAll_81 {zs : List Int32} {x1 x2 : Int32} {o3 o4 o5 o6 : Option AV} {w : Wd} {Q : Option AV → Wd → Prop} (h : (((f_Fea_count w) ≤ x2 → Q (none) w) ∧ (¬ ((f_Fea_count w) ≤ x2) → (((f_at w 20 60 x2) = (-1) → Gw zs 4 m_Alm_considerAll 81 [some (.inr (.inl (some 16))), some (.inl x1), some (.inl (x2 + 1)), some (.inl (f_at w 20 60 x2)), o4, o5, o6] [] w Q) ∧ (¬ ((f_at w 20 60 x2) = (-1)) → Ew zs 3 m_Alm_considerFeast [.inr (.inl (some 16)), .inl x2, .inl (f_at w 20 60 x2), .inl x1] w (fun v w3 => v = none ∧ Gw zs 4 m_Alm_considerAll 81 [some (.inr (.inl (some 16))), some (.inl x1), some (.inl (x2 + 1)), some (.inl (f_at w 20 60 x2)), o4, o5, o6] [] w3 Q)))))) : Gw zs 4 m_Alm_considerAll 81 [some (.inr (.inl (some 16))), some (.inl x1), some (.inl x2), o3, o4, o5, o6] [] w Q := by
  refine gw_iload_n k_Alm_considerAll f_Alm_considerAll_81 rfl ?_
  refine gw_aload_n k_Alm_considerAll f_Alm_considerAll_82 rfl ?_
  refine gw_getR k_Alm_considerAll f_Alm_considerAll_83 l_fldT_0_35 hc16 rfl ?_
  refine gw_virtual [] k_Alm_considerAll f_Alm_considerAll_86 l_invT_0_97 k_Fea_count hc8 rfl rfl rfl (by exact Nat.le_of_ble_eq_true rfl) (dc := 0) (by decide) ?_ rfl
  refine ev_Fea_count ?_
  show Gw zs 4 m_Alm_considerAll 89 [some (.inr (.inl (some 16))), some (.inl x1), some (.inl x2), o3, o4, o5, o6] [.inl (f_Fea_count w), .inl x2] w _
  refine gw_icmp_ge (t := 119) k_Alm_considerAll f_Alm_considerAll_89 rfl (fun c1 => ?_) (fun c1 => ?_)
  · have h := h.1 c1
    exact gw_vret k_Alm_considerAll f_Alm_considerAll_119 rfl h
  · have h := h.2 c1
    refine gw_aload_n k_Alm_considerAll f_Alm_considerAll_92 rfl ?_
    refine gw_getR k_Alm_considerAll f_Alm_considerAll_93 l_fldT_0_21 hc16 rfl ?_
    refine gw_iload_n k_Alm_considerAll f_Alm_considerAll_96 rfl ?_
    refine gw_static [.inr (.inl (some 20)), .inl x2] k_Alm_considerAll f_Alm_considerAll_97 l_invT_0_60 (by decide) k_Bk_at rfl (by exact Nat.le_of_ble_eq_true rfl) (dc := 0) (by decide) ?_ rfl
    refine ev_at hc20 (by decide) ?_
    show Gw zs 4 m_Alm_considerAll 100 [some (.inr (.inl (some 16))), some (.inl x1), some (.inl x2), o3, o4, o5, o6] [.inl (f_at w 20 60 x2)] w _
    refine gw_istore_n [some (.inr (.inl (some 16))), some (.inl x1), some (.inl x2), some (.inl (f_at w 20 60 x2)), o4, o5, o6] k_Alm_considerAll f_Alm_considerAll_100 (Nat.le_of_ble_eq_true rfl) rfl ?_
    refine gw_iload_n k_Alm_considerAll f_Alm_considerAll_101 rfl ?_
    refine gw_iconst k_Alm_considerAll f_Alm_considerAll_102 qc_m1 ?_
    refine gw_icmp_eq (t := 113) k_Alm_considerAll f_Alm_considerAll_103 rfl (fun c2 => ?_) (fun c2 => ?_)
    · have h := h.1 c2
      refine gw_iinc [some (.inr (.inl (some 16))), some (.inl x1), some (.inl (x2 + 1)), some (.inl (f_at w 20 60 x2)), o4, o5, o6] k_Alm_considerAll f_Alm_considerAll_113 rfl qc_1 (Nat.le_of_ble_eq_true rfl) rfl ?_
      refine gw_goto (t := 81) k_Alm_considerAll f_Alm_considerAll_116 rfl ?_
      exact h
    · have h := h.2 c2
      refine gw_aload_n k_Alm_considerAll f_Alm_considerAll_106 rfl ?_
      refine gw_iload_n k_Alm_considerAll f_Alm_considerAll_107 rfl ?_
      refine gw_iload_n k_Alm_considerAll f_Alm_considerAll_108 rfl ?_
      refine gw_iload_n k_Alm_considerAll f_Alm_considerAll_109 rfl ?_
      refine gw_virtual [.inl x2, .inl (f_at w 20 60 x2), .inl x1] k_Alm_considerAll f_Alm_considerAll_110 l_invT_0_152 k_Alm_considerFeast hc16 rfl rfl rfl (by exact Nat.le_of_ble_eq_true rfl) (dc := 3) (by decide) ?_ rfl
      refine h.mono (fun v w3 hh => ?_)
      obtain ⟨rfl, h⟩ := hh
      show Gw zs 4 m_Alm_considerAll 113 [some (.inr (.inl (some 16))), some (.inl x1), some (.inl x2), some (.inl (f_at w 20 60 x2)), o4, o5, o6] [] w3 _
      refine gw_iinc [some (.inr (.inl (some 16))), some (.inl x1), some (.inl (x2 + 1)), some (.inl (f_at w 20 60 x2)), o4, o5, o6] k_Alm_considerAll f_Alm_considerAll_113 rfl qc_1 (Nat.le_of_ble_eq_true rfl) rfl ?_
      refine gw_goto (t := 81) k_Alm_considerAll f_Alm_considerAll_116 rfl ?_
      exact h
theorem sg_Alm_nextToMove_0 {zs : List Int32} {w : Wd} {Q : Option AV → Wd → Prop} (h : Gw zs 3 m_Alm_nextToMove 4 [some (.inr (.inl (some 16))), some (.inl (-1)), some (.inl 0)] [] w Q) : Gw zs 3 m_Alm_nextToMove 0 [some (.inr (.inl (some 16))), none, none] [] w Q := by
  refine gw_iconst k_Alm_nextToMove f_Alm_nextToMove_0 qc_m1 ?_
  refine gw_istore_n [some (.inr (.inl (some 16))), some (.inl (-1)), none] k_Alm_nextToMove f_Alm_nextToMove_1 (Nat.le_of_ble_eq_true rfl) rfl ?_
  refine gw_iconst k_Alm_nextToMove f_Alm_nextToMove_2 qc_0 ?_
  refine gw_istore_n [some (.inr (.inl (some 16))), some (.inl (-1)), some (.inl 0)] k_Alm_nextToMove f_Alm_nextToMove_3 (Nat.le_of_ble_eq_true rfl) rfl ?_
  exact h
theorem sg_Alm_nextToMove_4 {zs : List Int32} {x1 x2 : Int32} {w : Wd} {Q : Option AV → Wd → Prop} (h : (((f_Fea_count w) ≤ x2 → Q (some (.inl x1)) w) ∧ (¬ ((f_Fea_count w) ≤ x2) → (((f_Alm_isToMove w x2) = 0 → Gw zs 3 m_Alm_nextToMove 4 [some (.inr (.inl (some 16))), some (.inl x1), some (.inl (x2 + 1))] [] w Q) ∧ (¬ ((f_Alm_isToMove w x2) = 0) → ((x1 = (-1) → Gw zs 3 m_Alm_nextToMove 4 [some (.inr (.inl (some 16))), some (.inl x2), some (.inl (x2 + 1))] [] w Q) ∧ (¬ (x1 = (-1)) → (((f_Alm_isMovedBefore w x2 x1) = 0 → Gw zs 3 m_Alm_nextToMove 4 [some (.inr (.inl (some 16))), some (.inl x1), some (.inl (x2 + 1))] [] w Q) ∧ (¬ ((f_Alm_isMovedBefore w x2 x1) = 0) → Gw zs 3 m_Alm_nextToMove 4 [some (.inr (.inl (some 16))), some (.inl x2), some (.inl (x2 + 1))] [] w Q))))))))) : Gw zs 3 m_Alm_nextToMove 4 [some (.inr (.inl (some 16))), some (.inl x1), some (.inl x2)] [] w Q := by
  refine gw_iload_n k_Alm_nextToMove f_Alm_nextToMove_4 rfl ?_
  refine gw_aload_n k_Alm_nextToMove f_Alm_nextToMove_5 rfl ?_
  refine gw_getR k_Alm_nextToMove f_Alm_nextToMove_6 l_fldT_0_35 hc16 rfl ?_
  refine gw_virtual [] k_Alm_nextToMove f_Alm_nextToMove_9 l_invT_0_97 k_Fea_count hc8 rfl rfl rfl (by exact Nat.le_of_ble_eq_true rfl) (dc := 0) (by decide) ?_ rfl
  refine ev_Fea_count ?_
  show Gw zs 3 m_Alm_nextToMove 12 [some (.inr (.inl (some 16))), some (.inl x1), some (.inl x2)] [.inl (f_Fea_count w), .inl x2] w _
  refine gw_icmp_ge (t := 45) k_Alm_nextToMove f_Alm_nextToMove_12 rfl (fun c1 => ?_) (fun c1 => ?_)
  · have h := h.1 c1
    refine gw_iload_n k_Alm_nextToMove f_Alm_nextToMove_45 rfl ?_
    exact gw_iret k_Alm_nextToMove f_Alm_nextToMove_46 rfl h
  · have h := h.2 c1
    refine gw_aload_n k_Alm_nextToMove f_Alm_nextToMove_15 rfl ?_
    refine gw_iload_n k_Alm_nextToMove f_Alm_nextToMove_16 rfl ?_
    refine gw_virtual [.inl x2] k_Alm_nextToMove f_Alm_nextToMove_17 l_invT_0_178 k_Alm_isToMove hc16 rfl rfl rfl (by exact Nat.le_of_ble_eq_true rfl) (dc := 2) (by decide) ?_ rfl
    refine ev_Alm_isToMove ?_
    show Gw zs 3 m_Alm_nextToMove 20 [some (.inr (.inl (some 16))), some (.inl x1), some (.inl x2)] [.inl (f_Alm_isToMove w x2)] w _
    refine gw_if_eq (t := 39) k_Alm_nextToMove f_Alm_nextToMove_20 rfl (fun c2 => ?_) (fun c2 => ?_)
    · have h := h.1 c2
      refine gw_iinc [some (.inr (.inl (some 16))), some (.inl x1), some (.inl (x2 + 1))] k_Alm_nextToMove f_Alm_nextToMove_39 rfl qc_1 (Nat.le_of_ble_eq_true rfl) rfl ?_
      refine gw_goto (t := 4) k_Alm_nextToMove f_Alm_nextToMove_42 rfl ?_
      exact h
    · have h := h.2 c2
      refine gw_iload_n k_Alm_nextToMove f_Alm_nextToMove_23 rfl ?_
      refine gw_iconst k_Alm_nextToMove f_Alm_nextToMove_24 qc_m1 ?_
      refine gw_icmp_eq (t := 37) k_Alm_nextToMove f_Alm_nextToMove_25 rfl (fun c3 => ?_) (fun c3 => ?_)
      · have h := h.1 c3
        refine gw_iload_n k_Alm_nextToMove f_Alm_nextToMove_37 rfl ?_
        refine gw_istore_n [some (.inr (.inl (some 16))), some (.inl x2), some (.inl x2)] k_Alm_nextToMove f_Alm_nextToMove_38 (Nat.le_of_ble_eq_true rfl) rfl ?_
        refine gw_iinc [some (.inr (.inl (some 16))), some (.inl x2), some (.inl (x2 + 1))] k_Alm_nextToMove f_Alm_nextToMove_39 rfl qc_1 (Nat.le_of_ble_eq_true rfl) rfl ?_
        refine gw_goto (t := 4) k_Alm_nextToMove f_Alm_nextToMove_42 rfl ?_
        exact h
      · have h := h.2 c3
        refine gw_aload_n k_Alm_nextToMove f_Alm_nextToMove_28 rfl ?_
        refine gw_iload_n k_Alm_nextToMove f_Alm_nextToMove_29 rfl ?_
        refine gw_iload_n k_Alm_nextToMove f_Alm_nextToMove_30 rfl ?_
        refine gw_virtual [.inl x2, .inl x1] k_Alm_nextToMove f_Alm_nextToMove_31 l_invT_0_181 k_Alm_isMovedBefore hc16 rfl rfl rfl (by exact Nat.le_of_ble_eq_true rfl) (dc := 2) (by decide) ?_ rfl
        refine ev_Alm_isMovedBefore ?_
        show Gw zs 3 m_Alm_nextToMove 34 [some (.inr (.inl (some 16))), some (.inl x1), some (.inl x2)] [.inl (f_Alm_isMovedBefore w x2 x1)] w _
        refine gw_if_eq (t := 39) k_Alm_nextToMove f_Alm_nextToMove_34 rfl (fun c4 => ?_) (fun c4 => ?_)
        · have h := h.1 c4
          refine gw_iinc [some (.inr (.inl (some 16))), some (.inl x1), some (.inl (x2 + 1))] k_Alm_nextToMove f_Alm_nextToMove_39 rfl qc_1 (Nat.le_of_ble_eq_true rfl) rfl ?_
          refine gw_goto (t := 4) k_Alm_nextToMove f_Alm_nextToMove_42 rfl ?_
          exact h
        · have h := h.2 c4
          refine gw_iload_n k_Alm_nextToMove f_Alm_nextToMove_37 rfl ?_
          refine gw_istore_n [some (.inr (.inl (some 16))), some (.inl x2), some (.inl x2)] k_Alm_nextToMove f_Alm_nextToMove_38 (Nat.le_of_ble_eq_true rfl) rfl ?_
          refine gw_iinc [some (.inr (.inl (some 16))), some (.inl x2), some (.inl (x2 + 1))] k_Alm_nextToMove f_Alm_nextToMove_39 rfl qc_1 (Nat.le_of_ble_eq_true rfl) rfl ?_
          refine gw_goto (t := 4) k_Alm_nextToMove f_Alm_nextToMove_42 rfl ?_
          exact h
theorem sg_Alm_placeFor_0 {zs : List Int32} {a0 : Int32} {w : Wd} {Q : Option AV → Wd → Prop} (h : Gw zs 3 m_Alm_placeFor 28 [some (.inr (.inl (some 16))), some (.inl a0), some (.inl (f_at w 20 60 a0)), some (.inl (if ((w 16 8) - 1) < ((f_at w 20 60 a0) + 60) then ((w 16 8) - 1) else ((f_at w 20 60 a0) + 60))), some (.inl ((f_at w 20 60 a0) + 1))] [] w Q) : Gw zs 3 m_Alm_placeFor 0 [some (.inr (.inl (some 16))), some (.inl a0), none, none, none] [] w Q := by
  refine gw_aload_n k_Alm_placeFor f_Alm_placeFor_0 rfl ?_
  refine gw_getR k_Alm_placeFor f_Alm_placeFor_1 l_fldT_0_21 hc16 rfl ?_
  refine gw_iload_n k_Alm_placeFor f_Alm_placeFor_4 rfl ?_
  refine gw_static [.inr (.inl (some 20)), .inl a0] k_Alm_placeFor f_Alm_placeFor_5 l_invT_0_60 (by decide) k_Bk_at rfl (by exact Nat.le_of_ble_eq_true rfl) (dc := 0) (by decide) ?_ rfl
  refine ev_at hc20 (by decide) ?_
  show Gw zs 3 m_Alm_placeFor 8 [some (.inr (.inl (some 16))), some (.inl a0), none, none, none] [.inl (f_at w 20 60 a0)] w _
  refine gw_istore_n [some (.inr (.inl (some 16))), some (.inl a0), some (.inl (f_at w 20 60 a0)), none, none] k_Alm_placeFor f_Alm_placeFor_8 (Nat.le_of_ble_eq_true rfl) rfl ?_
  refine gw_iload_n k_Alm_placeFor f_Alm_placeFor_9 rfl ?_
  refine gw_bipush k_Alm_placeFor f_Alm_placeFor_10 qb_60 ?_
  refine gw_iadd k_Alm_placeFor f_Alm_placeFor_12 ?_
  refine gw_aload_n k_Alm_placeFor f_Alm_placeFor_13 rfl ?_
  refine gw_getI k_Alm_placeFor f_Alm_placeFor_14 l_fldT_0_91 hc16 rfl ?_
  refine gw_iconst k_Alm_placeFor f_Alm_placeFor_17 qc_1 ?_
  refine gw_isub k_Alm_placeFor f_Alm_placeFor_18 ?_
  refine gw_min k_Alm_placeFor f_Alm_placeFor_19 l_invT_0_127 (by decide) (Nat.le_of_ble_eq_true rfl) ?_
  refine gw_istore_n [some (.inr (.inl (some 16))), some (.inl a0), some (.inl (f_at w 20 60 a0)), some (.inl (if ((w 16 8) - 1) < ((f_at w 20 60 a0) + 60) then ((w 16 8) - 1) else ((f_at w 20 60 a0) + 60))), none] k_Alm_placeFor f_Alm_placeFor_22 (Nat.le_of_ble_eq_true rfl) rfl ?_
  refine gw_iload_n k_Alm_placeFor f_Alm_placeFor_23 rfl ?_
  refine gw_iconst k_Alm_placeFor f_Alm_placeFor_24 qc_1 ?_
  refine gw_iadd k_Alm_placeFor f_Alm_placeFor_25 ?_
  refine gw_istore [some (.inr (.inl (some 16))), some (.inl a0), some (.inl (f_at w 20 60 a0)), some (.inl (if ((w 16 8) - 1) < ((f_at w 20 60 a0) + 60) then ((w 16 8) - 1) else ((f_at w 20 60 a0) + 60))), some (.inl ((f_at w 20 60 a0) + 1))] k_Alm_placeFor f_Alm_placeFor_26 (Nat.le_of_ble_eq_true rfl) rfl ?_
  exact h
theorem sg_Alm_placeFor_28 {zs : List Int32} {x1 x3 x4 : Int32} {o2 : Option AV} {w : Wd} {Q : Option AV → Wd → Prop} (h : ((x3 < x4 → Q (some (.inl (-4))) w) ∧ (¬ (x3 < x4) → (((f_Alm_givesWay w (f_at w 18 366 x4) (f_Fea_rankOf w x1)) = 0 → Gw zs 3 m_Alm_placeFor 28 [some (.inr (.inl (some 16))), some (.inl x1), o2, some (.inl x3), some (.inl (x4 + 1))] [] w Q) ∧ (¬ ((f_Alm_givesWay w (f_at w 18 366 x4) (f_Fea_rankOf w x1)) = 0) → Q (some (.inl x4)) (g_put w 18 366 x4 (f_Alm_feastCandidate w x1))))))) : Gw zs 3 m_Alm_placeFor 28 [some (.inr (.inl (some 16))), some (.inl x1), o2, some (.inl x3), some (.inl x4)] [] w Q := by
  refine gw_iload k_Alm_placeFor f_Alm_placeFor_28 rfl ?_
  refine gw_iload_n k_Alm_placeFor f_Alm_placeFor_30 rfl ?_
  refine gw_icmp_gt (t := 81) k_Alm_placeFor f_Alm_placeFor_31 rfl (fun c1 => ?_) (fun c1 => ?_)
  · have h := h.1 c1
    refine gw_bipush k_Alm_placeFor f_Alm_placeFor_81 qb_m4 ?_
    exact gw_iret k_Alm_placeFor f_Alm_placeFor_83 rfl h
  · have h := h.2 c1
    refine gw_aload_n k_Alm_placeFor f_Alm_placeFor_34 rfl ?_
    refine gw_aload_n k_Alm_placeFor f_Alm_placeFor_35 rfl ?_
    refine gw_getR k_Alm_placeFor f_Alm_placeFor_36 l_fldT_0_15 hc16 rfl ?_
    refine gw_iload k_Alm_placeFor f_Alm_placeFor_39 rfl ?_
    refine gw_static [.inr (.inl (some 18)), .inl x4] k_Alm_placeFor f_Alm_placeFor_41 l_invT_0_60 (by decide) k_Bk_at rfl (by exact Nat.le_of_ble_eq_true rfl) (dc := 0) (by decide) ?_ rfl
    refine ev_at hc18 (by decide) ?_
    show Gw zs 3 m_Alm_placeFor 44 [some (.inr (.inl (some 16))), some (.inl x1), o2, some (.inl x3), some (.inl x4)] [.inl (f_at w 18 366 x4), .inr (.inl (some 16))] w _
    refine gw_aload_n k_Alm_placeFor f_Alm_placeFor_44 rfl ?_
    refine gw_getR k_Alm_placeFor f_Alm_placeFor_45 l_fldT_0_35 hc16 rfl ?_
    refine gw_iload_n k_Alm_placeFor f_Alm_placeFor_48 rfl ?_
    refine gw_virtual [.inl x1] k_Alm_placeFor f_Alm_placeFor_49 l_invT_0_185 k_Fea_rankOf hc8 rfl rfl rfl (by exact Nat.le_of_ble_eq_true rfl) (dc := 1) (by decide) ?_ rfl
    refine ev_Fea_rankOf ?_
    show Gw zs 3 m_Alm_placeFor 52 [some (.inr (.inl (some 16))), some (.inl x1), o2, some (.inl x3), some (.inl x4)] [.inl (f_Fea_rankOf w x1), .inl (f_at w 18 366 x4), .inr (.inl (some 16))] w _
    refine gw_virtual [.inl (f_at w 18 366 x4), .inl (f_Fea_rankOf w x1)] k_Alm_placeFor f_Alm_placeFor_52 l_invT_0_187 k_Alm_givesWay hc16 rfl rfl rfl (by exact Nat.le_of_ble_eq_true rfl) (dc := 2) (by decide) ?_ rfl
    refine ev_Alm_givesWay ?_
    show Gw zs 3 m_Alm_placeFor 55 [some (.inr (.inl (some 16))), some (.inl x1), o2, some (.inl x3), some (.inl x4)] [.inl (f_Alm_givesWay w (f_at w 18 366 x4) (f_Fea_rankOf w x1))] w _
    refine gw_if_eq (t := 75) k_Alm_placeFor f_Alm_placeFor_55 rfl (fun c2 => ?_) (fun c2 => ?_)
    · have h := h.1 c2
      refine gw_iinc [some (.inr (.inl (some 16))), some (.inl x1), o2, some (.inl x3), some (.inl (x4 + 1))] k_Alm_placeFor f_Alm_placeFor_75 rfl qc_1 (Nat.le_of_ble_eq_true rfl) rfl ?_
      refine gw_goto (t := 28) k_Alm_placeFor f_Alm_placeFor_78 rfl ?_
      exact h
    · have h := h.2 c2
      refine gw_aload_n k_Alm_placeFor f_Alm_placeFor_58 rfl ?_
      refine gw_getR k_Alm_placeFor f_Alm_placeFor_59 l_fldT_0_15 hc16 rfl ?_
      refine gw_iload k_Alm_placeFor f_Alm_placeFor_62 rfl ?_
      refine gw_aload_n k_Alm_placeFor f_Alm_placeFor_64 rfl ?_
      refine gw_iload_n k_Alm_placeFor f_Alm_placeFor_65 rfl ?_
      refine gw_virtual [.inl x1] k_Alm_placeFor f_Alm_placeFor_66 l_invT_0_156 k_Alm_feastCandidate hc16 rfl rfl rfl (by exact Nat.le_of_ble_eq_true rfl) (dc := 2) (by decide) ?_ rfl
      refine ev_Alm_feastCandidate ?_
      show Gw zs 3 m_Alm_placeFor 69 [some (.inr (.inl (some 16))), some (.inl x1), o2, some (.inl x3), some (.inl x4)] [.inl (f_Alm_feastCandidate w x1), .inl x4, .inr (.inl (some 18))] w _
      refine gw_static [.inr (.inl (some 18)), .inl x4, .inl (f_Alm_feastCandidate w x1)] k_Alm_placeFor f_Alm_placeFor_69 l_invT_0_109 (by decide) k_Bk_put rfl (by exact Nat.le_of_ble_eq_true rfl) (dc := 0) (by decide) ?_ rfl
      refine ev_put hc18 (by decide) ?_
      show Gw zs 3 m_Alm_placeFor 72 [some (.inr (.inl (some 16))), some (.inl x1), o2, some (.inl x3), some (.inl x4)] [] (g_put w 18 366 x4 (f_Alm_feastCandidate w x1)) _
      refine gw_iload k_Alm_placeFor f_Alm_placeFor_72 rfl ?_
      exact gw_iret k_Alm_placeFor f_Alm_placeFor_74 rfl h
theorem sg_Alm_moveFeasts_0 {zs : List Int32} {w : Wd} {Q : Option AV → Wd → Prop} (h : Gw zs 4 m_Alm_moveFeasts 2 [some (.inr (.inl (some 16))), some (.inl 0), none, none] [] w Q) : Gw zs 4 m_Alm_moveFeasts 0 [some (.inr (.inl (some 16))), none, none, none] [] w Q := by
  refine gw_iconst k_Alm_moveFeasts f_Alm_moveFeasts_0 qc_0 ?_
  refine gw_istore_n [some (.inr (.inl (some 16))), some (.inl 0), none, none] k_Alm_moveFeasts f_Alm_moveFeasts_1 (Nat.le_of_ble_eq_true rfl) rfl ?_
  exact h
theorem sg_Alm_moveFeasts_2 {zs : List Int32} {x1 : Int32} {o2 o3 : Option AV} {w : Wd} {Q : Option AV → Wd → Prop} (h : (((f_Fea_count w) ≤ x1 → Gw zs 4 m_Alm_moveFeasts 74 [some (.inr (.inl (some 16))), some (.inl 0), o2, o3] [] w Q) ∧ (¬ ((f_Fea_count w) ≤ x1) → (((f_at w 20 60 x1) = (-1) → Gw zs 4 m_Alm_moveFeasts 2 [some (.inr (.inl (some 16))), some (.inl (x1 + 1)), some (.inl (f_at w 20 60 x1)), some (.inl 0)] [] (g_put w 21 60 x1 (-1)) Q) ∧ (¬ ((f_at w 20 60 x1) = (-1)) → (((f_at w 18 366 (f_at w 20 60 x1)) = (f_Alm_feastCandidate w x1) → Gw zs 4 m_Alm_moveFeasts 2 [some (.inr (.inl (some 16))), some (.inl (x1 + 1)), some (.inl (f_at w 20 60 x1)), some (.inl 1)] [] (g_put w 21 60 x1 (f_at w 20 60 x1)) Q) ∧ (¬ ((f_at w 18 366 (f_at w 20 60 x1)) = (f_Alm_feastCandidate w x1)) → Gw zs 4 m_Alm_moveFeasts 2 [some (.inr (.inl (some 16))), some (.inl (x1 + 1)), some (.inl (f_at w 20 60 x1)), some (.inl 0)] [] (g_put w 21 60 x1 (-1)) Q))))))) : Gw zs 4 m_Alm_moveFeasts 2 [some (.inr (.inl (some 16))), some (.inl x1), o2, o3] [] w Q := by
  refine gw_iload_n k_Alm_moveFeasts f_Alm_moveFeasts_2 rfl ?_
  refine gw_aload_n k_Alm_moveFeasts f_Alm_moveFeasts_3 rfl ?_
  refine gw_getR k_Alm_moveFeasts f_Alm_moveFeasts_4 l_fldT_0_35 hc16 rfl ?_
  refine gw_virtual [] k_Alm_moveFeasts f_Alm_moveFeasts_7 l_invT_0_97 k_Fea_count hc8 rfl rfl rfl (by exact Nat.le_of_ble_eq_true rfl) (dc := 0) (by decide) ?_ rfl
  refine ev_Fea_count ?_
  show Gw zs 4 m_Alm_moveFeasts 10 [some (.inr (.inl (some 16))), some (.inl x1), o2, o3] [.inl (f_Fea_count w), .inl x1] w _
  refine gw_icmp_ge (t := 72) k_Alm_moveFeasts f_Alm_moveFeasts_10 rfl (fun c1 => ?_) (fun c1 => ?_)
  · have h := h.1 c1
    refine gw_iconst k_Alm_moveFeasts f_Alm_moveFeasts_72 qc_0 ?_
    refine gw_istore_n [some (.inr (.inl (some 16))), some (.inl 0), o2, o3] k_Alm_moveFeasts f_Alm_moveFeasts_73 (Nat.le_of_ble_eq_true rfl) rfl ?_
    exact h
  · have h := h.2 c1
    refine gw_aload_n k_Alm_moveFeasts f_Alm_moveFeasts_13 rfl ?_
    refine gw_getR k_Alm_moveFeasts f_Alm_moveFeasts_14 l_fldT_0_21 hc16 rfl ?_
    refine gw_iload_n k_Alm_moveFeasts f_Alm_moveFeasts_17 rfl ?_
    refine gw_static [.inr (.inl (some 20)), .inl x1] k_Alm_moveFeasts f_Alm_moveFeasts_18 l_invT_0_60 (by decide) k_Bk_at rfl (by exact Nat.le_of_ble_eq_true rfl) (dc := 0) (by decide) ?_ rfl
    refine ev_at hc20 (by decide) ?_
    show Gw zs 4 m_Alm_moveFeasts 21 [some (.inr (.inl (some 16))), some (.inl x1), o2, o3] [.inl (f_at w 20 60 x1)] w _
    refine gw_istore_n [some (.inr (.inl (some 16))), some (.inl x1), some (.inl (f_at w 20 60 x1)), o3] k_Alm_moveFeasts f_Alm_moveFeasts_21 (Nat.le_of_ble_eq_true rfl) rfl ?_
    refine gw_iload_n k_Alm_moveFeasts f_Alm_moveFeasts_22 rfl ?_
    refine gw_iconst k_Alm_moveFeasts f_Alm_moveFeasts_23 qc_m1 ?_
    refine gw_icmp_eq (t := 47) k_Alm_moveFeasts f_Alm_moveFeasts_24 rfl (fun c2 => ?_) (fun c2 => ?_)
    · have h := h.1 c2
      refine gw_iconst k_Alm_moveFeasts f_Alm_moveFeasts_47 qc_0 ?_
      refine gw_istore_n [some (.inr (.inl (some 16))), some (.inl x1), some (.inl (f_at w 20 60 x1)), some (.inl 0)] k_Alm_moveFeasts f_Alm_moveFeasts_48 (Nat.le_of_ble_eq_true rfl) rfl ?_
      refine gw_aload_n k_Alm_moveFeasts f_Alm_moveFeasts_49 rfl ?_
      refine gw_getR k_Alm_moveFeasts f_Alm_moveFeasts_50 l_fldT_0_24 hc16 rfl ?_
      refine gw_iload_n k_Alm_moveFeasts f_Alm_moveFeasts_53 rfl ?_
      refine gw_iload_n k_Alm_moveFeasts f_Alm_moveFeasts_54 rfl ?_
      refine gw_if_eq (t := 62) k_Alm_moveFeasts f_Alm_moveFeasts_55 rfl (fun _ => ?_) (fun c => absurd (by decide) c)
      refine gw_iconst k_Alm_moveFeasts f_Alm_moveFeasts_62 qc_m1 ?_
      refine gw_static [.inr (.inl (some 21)), .inl x1, .inl (-1)] k_Alm_moveFeasts f_Alm_moveFeasts_63 l_invT_0_109 (by decide) k_Bk_put rfl (by exact Nat.le_of_ble_eq_true rfl) (dc := 0) (by decide) ?_ rfl
      refine ev_put hc21 (by decide) ?_
      show Gw zs 4 m_Alm_moveFeasts 66 [some (.inr (.inl (some 16))), some (.inl x1), some (.inl (f_at w 20 60 x1)), some (.inl 0)] [] (g_put w 21 60 x1 (-1)) _
      refine gw_iinc [some (.inr (.inl (some 16))), some (.inl (x1 + 1)), some (.inl (f_at w 20 60 x1)), some (.inl 0)] k_Alm_moveFeasts f_Alm_moveFeasts_66 rfl qc_1 (Nat.le_of_ble_eq_true rfl) rfl ?_
      refine gw_goto (t := 2) k_Alm_moveFeasts f_Alm_moveFeasts_69 rfl ?_
      exact h
    · have h := h.2 c2
      refine gw_aload_n k_Alm_moveFeasts f_Alm_moveFeasts_27 rfl ?_
      refine gw_getR k_Alm_moveFeasts f_Alm_moveFeasts_28 l_fldT_0_15 hc16 rfl ?_
      refine gw_iload_n k_Alm_moveFeasts f_Alm_moveFeasts_31 rfl ?_
      refine gw_static [.inr (.inl (some 18)), .inl (f_at w 20 60 x1)] k_Alm_moveFeasts f_Alm_moveFeasts_32 l_invT_0_60 (by decide) k_Bk_at rfl (by exact Nat.le_of_ble_eq_true rfl) (dc := 0) (by decide) ?_ rfl
      refine ev_at hc18 (by decide) ?_
      show Gw zs 4 m_Alm_moveFeasts 35 [some (.inr (.inl (some 16))), some (.inl x1), some (.inl (f_at w 20 60 x1)), o3] [.inl (f_at w 18 366 (f_at w 20 60 x1))] w _
      refine gw_aload_n k_Alm_moveFeasts f_Alm_moveFeasts_35 rfl ?_
      refine gw_iload_n k_Alm_moveFeasts f_Alm_moveFeasts_36 rfl ?_
      refine gw_virtual [.inl x1] k_Alm_moveFeasts f_Alm_moveFeasts_37 l_invT_0_156 k_Alm_feastCandidate hc16 rfl rfl rfl (by exact Nat.le_of_ble_eq_true rfl) (dc := 2) (by decide) ?_ rfl
      refine ev_Alm_feastCandidate ?_
      show Gw zs 4 m_Alm_moveFeasts 40 [some (.inr (.inl (some 16))), some (.inl x1), some (.inl (f_at w 20 60 x1)), o3] [.inl (f_Alm_feastCandidate w x1), .inl (f_at w 18 366 (f_at w 20 60 x1))] w _
      refine gw_icmp_ne (t := 47) k_Alm_moveFeasts f_Alm_moveFeasts_40 rfl (fun c3 => ?_) (fun c3 => ?_)
      · have h := h.2 c3
        refine gw_iconst k_Alm_moveFeasts f_Alm_moveFeasts_47 qc_0 ?_
        refine gw_istore_n [some (.inr (.inl (some 16))), some (.inl x1), some (.inl (f_at w 20 60 x1)), some (.inl 0)] k_Alm_moveFeasts f_Alm_moveFeasts_48 (Nat.le_of_ble_eq_true rfl) rfl ?_
        refine gw_aload_n k_Alm_moveFeasts f_Alm_moveFeasts_49 rfl ?_
        refine gw_getR k_Alm_moveFeasts f_Alm_moveFeasts_50 l_fldT_0_24 hc16 rfl ?_
        refine gw_iload_n k_Alm_moveFeasts f_Alm_moveFeasts_53 rfl ?_
        refine gw_iload_n k_Alm_moveFeasts f_Alm_moveFeasts_54 rfl ?_
        refine gw_if_eq (t := 62) k_Alm_moveFeasts f_Alm_moveFeasts_55 rfl (fun _ => ?_) (fun c => absurd (by decide) c)
        refine gw_iconst k_Alm_moveFeasts f_Alm_moveFeasts_62 qc_m1 ?_
        refine gw_static [.inr (.inl (some 21)), .inl x1, .inl (-1)] k_Alm_moveFeasts f_Alm_moveFeasts_63 l_invT_0_109 (by decide) k_Bk_put rfl (by exact Nat.le_of_ble_eq_true rfl) (dc := 0) (by decide) ?_ rfl
        refine ev_put hc21 (by decide) ?_
        show Gw zs 4 m_Alm_moveFeasts 66 [some (.inr (.inl (some 16))), some (.inl x1), some (.inl (f_at w 20 60 x1)), some (.inl 0)] [] (g_put w 21 60 x1 (-1)) _
        refine gw_iinc [some (.inr (.inl (some 16))), some (.inl (x1 + 1)), some (.inl (f_at w 20 60 x1)), some (.inl 0)] k_Alm_moveFeasts f_Alm_moveFeasts_66 rfl qc_1 (Nat.le_of_ble_eq_true rfl) rfl ?_
        refine gw_goto (t := 2) k_Alm_moveFeasts f_Alm_moveFeasts_69 rfl ?_
        exact h
      · have c3 := Decidable.not_not.mp c3
        have h := h.1 c3
        refine gw_iconst k_Alm_moveFeasts f_Alm_moveFeasts_43 qc_1 ?_
        refine gw_goto (t := 48) k_Alm_moveFeasts f_Alm_moveFeasts_44 rfl ?_
        refine gw_istore_n [some (.inr (.inl (some 16))), some (.inl x1), some (.inl (f_at w 20 60 x1)), some (.inl 1)] k_Alm_moveFeasts f_Alm_moveFeasts_48 (Nat.le_of_ble_eq_true rfl) rfl ?_
        refine gw_aload_n k_Alm_moveFeasts f_Alm_moveFeasts_49 rfl ?_
        refine gw_getR k_Alm_moveFeasts f_Alm_moveFeasts_50 l_fldT_0_24 hc16 rfl ?_
        refine gw_iload_n k_Alm_moveFeasts f_Alm_moveFeasts_53 rfl ?_
        refine gw_iload_n k_Alm_moveFeasts f_Alm_moveFeasts_54 rfl ?_
        refine gw_if_eq (t := 62) k_Alm_moveFeasts f_Alm_moveFeasts_55 rfl (fun c => absurd c (by decide)) (fun _ => ?_)
        refine gw_iload_n k_Alm_moveFeasts f_Alm_moveFeasts_58 rfl ?_
        refine gw_goto (t := 63) k_Alm_moveFeasts f_Alm_moveFeasts_59 rfl ?_
        refine gw_static [.inr (.inl (some 21)), .inl x1, .inl (f_at w 20 60 x1)] k_Alm_moveFeasts f_Alm_moveFeasts_63 l_invT_0_109 (by decide) k_Bk_put rfl (by exact Nat.le_of_ble_eq_true rfl) (dc := 0) (by decide) ?_ rfl
        refine ev_put hc21 (by decide) ?_
        show Gw zs 4 m_Alm_moveFeasts 66 [some (.inr (.inl (some 16))), some (.inl x1), some (.inl (f_at w 20 60 x1)), some (.inl 1)] [] (g_put w 21 60 x1 (f_at w 20 60 x1)) _
        refine gw_iinc [some (.inr (.inl (some 16))), some (.inl (x1 + 1)), some (.inl (f_at w 20 60 x1)), some (.inl 1)] k_Alm_moveFeasts f_Alm_moveFeasts_66 rfl qc_1 (Nat.le_of_ble_eq_true rfl) rfl ?_
        refine gw_goto (t := 2) k_Alm_moveFeasts f_Alm_moveFeasts_69 rfl ?_
        exact h
theorem sg_Alm_moveFeasts_74 {zs : List Int32} {x1 : Int32} {o2 o3 : Option AV} {w : Wd} {Q : Option AV → Wd → Prop} (h : (((f_Fea_count w) ≤ x1 → Q (none) w) ∧ (¬ ((f_Fea_count w) ≤ x1) → Ew zs 3 m_Alm_nextToMove [.inr (.inl (some 16))] w (fun v w3 => ∃ r2 : Int32, v = some (.inl r2) ∧ ((r2 = (-1) → Q (none) w3) ∧ (¬ (r2 = (-1)) → Ew zs 3 m_Alm_placeFor [.inr (.inl (some 16)), .inl r2] w3 (fun v w6 => ∃ r5 : Int32, v = some (.inl r5) ∧ Gw zs 4 m_Alm_moveFeasts 74 [some (.inr (.inl (some 16))), some (.inl (x1 + 1)), some (.inl r2), o3] [] (g_put w6 21 60 r2 r5) Q))))))) : Gw zs 4 m_Alm_moveFeasts 74 [some (.inr (.inl (some 16))), some (.inl x1), o2, o3] [] w Q := by
  refine gw_iload_n k_Alm_moveFeasts f_Alm_moveFeasts_74 rfl ?_
  refine gw_aload_n k_Alm_moveFeasts f_Alm_moveFeasts_75 rfl ?_
  refine gw_getR k_Alm_moveFeasts f_Alm_moveFeasts_76 l_fldT_0_35 hc16 rfl ?_
  refine gw_virtual [] k_Alm_moveFeasts f_Alm_moveFeasts_79 l_invT_0_97 k_Fea_count hc8 rfl rfl rfl (by exact Nat.le_of_ble_eq_true rfl) (dc := 0) (by decide) ?_ rfl
  refine ev_Fea_count ?_
  show Gw zs 4 m_Alm_moveFeasts 82 [some (.inr (.inl (some 16))), some (.inl x1), o2, o3] [.inl (f_Fea_count w), .inl x1] w _
  refine gw_icmp_ge (t := 115) k_Alm_moveFeasts f_Alm_moveFeasts_82 rfl (fun c1 => ?_) (fun c1 => ?_)
  · have h := h.1 c1
    exact gw_vret k_Alm_moveFeasts f_Alm_moveFeasts_115 rfl h
  · have h := h.2 c1
    refine gw_aload_n k_Alm_moveFeasts f_Alm_moveFeasts_85 rfl ?_
    refine gw_virtual [] k_Alm_moveFeasts f_Alm_moveFeasts_86 l_invT_0_172 k_Alm_nextToMove hc16 rfl rfl rfl (by exact Nat.le_of_ble_eq_true rfl) (dc := 3) (by decide) ?_ rfl
    refine h.mono (fun v w3 hh => ?_)
    obtain ⟨r2, rfl, h⟩ := hh
    show Gw zs 4 m_Alm_moveFeasts 89 [some (.inr (.inl (some 16))), some (.inl x1), o2, o3] [.inl r2] w3 _
    refine gw_istore_n [some (.inr (.inl (some 16))), some (.inl x1), some (.inl r2), o3] k_Alm_moveFeasts f_Alm_moveFeasts_89 (Nat.le_of_ble_eq_true rfl) rfl ?_
    refine gw_iload_n k_Alm_moveFeasts f_Alm_moveFeasts_90 rfl ?_
    refine gw_iconst k_Alm_moveFeasts f_Alm_moveFeasts_91 qc_m1 ?_
    refine gw_icmp_ne (t := 96) k_Alm_moveFeasts f_Alm_moveFeasts_92 rfl (fun c4 => ?_) (fun c4 => ?_)
    · have h := h.2 c4
      refine gw_aload_n k_Alm_moveFeasts f_Alm_moveFeasts_96 rfl ?_
      refine gw_getR k_Alm_moveFeasts f_Alm_moveFeasts_97 l_fldT_0_24 hc16 rfl ?_
      refine gw_iload_n k_Alm_moveFeasts f_Alm_moveFeasts_100 rfl ?_
      refine gw_aload_n k_Alm_moveFeasts f_Alm_moveFeasts_101 rfl ?_
      refine gw_iload_n k_Alm_moveFeasts f_Alm_moveFeasts_102 rfl ?_
      refine gw_virtual [.inl r2] k_Alm_moveFeasts f_Alm_moveFeasts_103 l_invT_0_175 k_Alm_placeFor hc16 rfl rfl rfl (by exact Nat.le_of_ble_eq_true rfl) (dc := 3) (by decide) ?_ rfl
      refine h.mono (fun v w6 hh => ?_)
      obtain ⟨r5, rfl, h⟩ := hh
      show Gw zs 4 m_Alm_moveFeasts 106 [some (.inr (.inl (some 16))), some (.inl x1), some (.inl r2), o3] [.inl r5, .inl r2, .inr (.inl (some 21))] w6 _
      refine gw_static [.inr (.inl (some 21)), .inl r2, .inl r5] k_Alm_moveFeasts f_Alm_moveFeasts_106 l_invT_0_109 (by decide) k_Bk_put rfl (by exact Nat.le_of_ble_eq_true rfl) (dc := 0) (by decide) ?_ rfl
      refine ev_put hc21 (by decide) ?_
      show Gw zs 4 m_Alm_moveFeasts 109 [some (.inr (.inl (some 16))), some (.inl x1), some (.inl r2), o3] [] (g_put w6 21 60 r2 r5) _
      refine gw_iinc [some (.inr (.inl (some 16))), some (.inl (x1 + 1)), some (.inl r2), o3] k_Alm_moveFeasts f_Alm_moveFeasts_109 rfl qc_1 (Nat.le_of_ble_eq_true rfl) rfl ?_
      refine gw_goto (t := 74) k_Alm_moveFeasts f_Alm_moveFeasts_112 rfl ?_
      exact h
    · have c4 := Decidable.not_not.mp c4
      have h := h.1 c4
      exact gw_vret k_Alm_moveFeasts f_Alm_moveFeasts_95 rfl h
theorem sg_Alm_fateOnOwnDay_0 {zs : List Int32} {a0 : Int32} {w : Wd} {Q : Option AV → Wd → Prop} (h : (((f_at w 20 60 a0) = (-1) → Q (some (.inl (-5))) w) ∧ (¬ ((f_at w 20 60 a0) = (-1)) → (((f_at w 18 366 (f_at w 20 60 a0)) = (f_Alm_feastCandidate w a0) → Q (some (.inl (f_at w 20 60 a0))) w) ∧ (¬ ((f_at w 18 366 (f_at w 20 60 a0)) = (f_Alm_feastCandidate w a0)) → Gw zs 3 m_Alm_fateOnOwnDay 40 [some (.inr (.inl (some 16))), some (.inl a0), some (.inl (f_at w 20 60 a0)), some (.inl (f_Alm_feastCandidate w a0)), some (.inl 0)] [] w Q))))) : Gw zs 3 m_Alm_fateOnOwnDay 0 [some (.inr (.inl (some 16))), some (.inl a0), none, none, none] [] w Q := by
  refine gw_aload_n k_Alm_fateOnOwnDay f_Alm_fateOnOwnDay_0 rfl ?_
  refine gw_getR k_Alm_fateOnOwnDay f_Alm_fateOnOwnDay_1 l_fldT_0_21 hc16 rfl ?_
  refine gw_iload_n k_Alm_fateOnOwnDay f_Alm_fateOnOwnDay_4 rfl ?_
  refine gw_static [.inr (.inl (some 20)), .inl a0] k_Alm_fateOnOwnDay f_Alm_fateOnOwnDay_5 l_invT_0_60 (by decide) k_Bk_at rfl (by exact Nat.le_of_ble_eq_true rfl) (dc := 0) (by decide) ?_ rfl
  refine ev_at hc20 (by decide) ?_
  show Gw zs 3 m_Alm_fateOnOwnDay 8 [some (.inr (.inl (some 16))), some (.inl a0), none, none, none] [.inl (f_at w 20 60 a0)] w _
  refine gw_istore_n [some (.inr (.inl (some 16))), some (.inl a0), some (.inl (f_at w 20 60 a0)), none, none] k_Alm_fateOnOwnDay f_Alm_fateOnOwnDay_8 (Nat.le_of_ble_eq_true rfl) rfl ?_
  refine gw_iload_n k_Alm_fateOnOwnDay f_Alm_fateOnOwnDay_9 rfl ?_
  refine gw_iconst k_Alm_fateOnOwnDay f_Alm_fateOnOwnDay_10 qc_m1 ?_
  refine gw_icmp_ne (t := 17) k_Alm_fateOnOwnDay f_Alm_fateOnOwnDay_11 rfl (fun c1 => ?_) (fun c1 => ?_)
  · have h := h.2 c1
    refine gw_aload_n k_Alm_fateOnOwnDay f_Alm_fateOnOwnDay_17 rfl ?_
    refine gw_iload_n k_Alm_fateOnOwnDay f_Alm_fateOnOwnDay_18 rfl ?_
    refine gw_virtual [.inl a0] k_Alm_fateOnOwnDay f_Alm_fateOnOwnDay_19 l_invT_0_156 k_Alm_feastCandidate hc16 rfl rfl rfl (by exact Nat.le_of_ble_eq_true rfl) (dc := 2) (by decide) ?_ rfl
    refine ev_Alm_feastCandidate ?_
    show Gw zs 3 m_Alm_fateOnOwnDay 22 [some (.inr (.inl (some 16))), some (.inl a0), some (.inl (f_at w 20 60 a0)), none, none] [.inl (f_Alm_feastCandidate w a0)] w _
    refine gw_istore_n [some (.inr (.inl (some 16))), some (.inl a0), some (.inl (f_at w 20 60 a0)), some (.inl (f_Alm_feastCandidate w a0)), none] k_Alm_fateOnOwnDay f_Alm_fateOnOwnDay_22 (Nat.le_of_ble_eq_true rfl) rfl ?_
    refine gw_aload_n k_Alm_fateOnOwnDay f_Alm_fateOnOwnDay_23 rfl ?_
    refine gw_getR k_Alm_fateOnOwnDay f_Alm_fateOnOwnDay_24 l_fldT_0_15 hc16 rfl ?_
    refine gw_iload_n k_Alm_fateOnOwnDay f_Alm_fateOnOwnDay_27 rfl ?_
    refine gw_static [.inr (.inl (some 18)), .inl (f_at w 20 60 a0)] k_Alm_fateOnOwnDay f_Alm_fateOnOwnDay_28 l_invT_0_60 (by decide) k_Bk_at rfl (by exact Nat.le_of_ble_eq_true rfl) (dc := 0) (by decide) ?_ rfl
    refine ev_at hc18 (by decide) ?_
    show Gw zs 3 m_Alm_fateOnOwnDay 31 [some (.inr (.inl (some 16))), some (.inl a0), some (.inl (f_at w 20 60 a0)), some (.inl (f_Alm_feastCandidate w a0)), none] [.inl (f_at w 18 366 (f_at w 20 60 a0))] w _
    refine gw_iload_n k_Alm_fateOnOwnDay f_Alm_fateOnOwnDay_31 rfl ?_
    refine gw_icmp_ne (t := 37) k_Alm_fateOnOwnDay f_Alm_fateOnOwnDay_32 rfl (fun c2 => ?_) (fun c2 => ?_)
    · have h := h.2 c2
      refine gw_iconst k_Alm_fateOnOwnDay f_Alm_fateOnOwnDay_37 qc_0 ?_
      refine gw_istore [some (.inr (.inl (some 16))), some (.inl a0), some (.inl (f_at w 20 60 a0)), some (.inl (f_Alm_feastCandidate w a0)), some (.inl 0)] k_Alm_fateOnOwnDay f_Alm_fateOnOwnDay_38 (Nat.le_of_ble_eq_true rfl) rfl ?_
      exact h
    · have c2 := Decidable.not_not.mp c2
      have h := h.1 c2
      refine gw_iload_n k_Alm_fateOnOwnDay f_Alm_fateOnOwnDay_35 rfl ?_
      exact gw_iret k_Alm_fateOnOwnDay f_Alm_fateOnOwnDay_36 rfl h
  · have c1 := Decidable.not_not.mp c1
    have h := h.1 c1
    refine gw_bipush k_Alm_fateOnOwnDay f_Alm_fateOnOwnDay_14 qb_m5 ?_
    exact gw_iret k_Alm_fateOnOwnDay f_Alm_fateOnOwnDay_16 rfl h
theorem sg_Alm_fateOnOwnDay_40 {zs : List Int32} {x2 x3 x4 : Int32} {o1 : Option AV} {w : Wd} {Q : Option AV → Wd → Prop} (h : ((3 ≤ x4 → Q (some (.inl (-3))) w) ∧ (¬ (3 ≤ x4) → (((f_at w 19 1098 ((x2 * 3) + x4)) = x3 → Q (some (.inl (-2))) w) ∧ (¬ ((f_at w 19 1098 ((x2 * 3) + x4)) = x3) → Gw zs 3 m_Alm_fateOnOwnDay 40 [some (.inr (.inl (some 16))), o1, some (.inl x2), some (.inl x3), some (.inl (x4 + 1))] [] w Q))))) : Gw zs 3 m_Alm_fateOnOwnDay 40 [some (.inr (.inl (some 16))), o1, some (.inl x2), some (.inl x3), some (.inl x4)] [] w Q := by
  refine gw_iload k_Alm_fateOnOwnDay f_Alm_fateOnOwnDay_40 rfl ?_
  refine gw_iconst k_Alm_fateOnOwnDay f_Alm_fateOnOwnDay_42 qc_3 ?_
  refine gw_icmp_ge (t := 72) k_Alm_fateOnOwnDay f_Alm_fateOnOwnDay_43 rfl (fun c1 => ?_) (fun c1 => ?_)
  · have h := h.1 c1
    refine gw_bipush k_Alm_fateOnOwnDay f_Alm_fateOnOwnDay_72 qb_m3 ?_
    exact gw_iret k_Alm_fateOnOwnDay f_Alm_fateOnOwnDay_74 rfl h
  · have h := h.2 c1
    refine gw_aload_n k_Alm_fateOnOwnDay f_Alm_fateOnOwnDay_46 rfl ?_
    refine gw_getR k_Alm_fateOnOwnDay f_Alm_fateOnOwnDay_47 l_fldT_0_18 hc16 rfl ?_
    refine gw_iload_n k_Alm_fateOnOwnDay f_Alm_fateOnOwnDay_50 rfl ?_
    refine gw_iconst k_Alm_fateOnOwnDay f_Alm_fateOnOwnDay_51 qc_3 ?_
    refine gw_imul k_Alm_fateOnOwnDay f_Alm_fateOnOwnDay_52 ?_
    refine gw_iload k_Alm_fateOnOwnDay f_Alm_fateOnOwnDay_53 rfl ?_
    refine gw_iadd k_Alm_fateOnOwnDay f_Alm_fateOnOwnDay_55 ?_
    refine gw_static [.inr (.inl (some 19)), .inl ((x2 * 3) + x4)] k_Alm_fateOnOwnDay f_Alm_fateOnOwnDay_56 l_invT_0_60 (by decide) k_Bk_at rfl (by exact Nat.le_of_ble_eq_true rfl) (dc := 0) (by decide) ?_ rfl
    refine ev_at hc19 (by decide) ?_
    show Gw zs 3 m_Alm_fateOnOwnDay 59 [some (.inr (.inl (some 16))), o1, some (.inl x2), some (.inl x3), some (.inl x4)] [.inl (f_at w 19 1098 ((x2 * 3) + x4))] w _
    refine gw_iload_n k_Alm_fateOnOwnDay f_Alm_fateOnOwnDay_59 rfl ?_
    refine gw_icmp_ne (t := 66) k_Alm_fateOnOwnDay f_Alm_fateOnOwnDay_60 rfl (fun c2 => ?_) (fun c2 => ?_)
    · have h := h.2 c2
      refine gw_iinc [some (.inr (.inl (some 16))), o1, some (.inl x2), some (.inl x3), some (.inl (x4 + 1))] k_Alm_fateOnOwnDay f_Alm_fateOnOwnDay_66 rfl qc_1 (Nat.le_of_ble_eq_true rfl) rfl ?_
      refine gw_goto (t := 40) k_Alm_fateOnOwnDay f_Alm_fateOnOwnDay_69 rfl ?_
      exact h
    · have c2 := Decidable.not_not.mp c2
      have h := h.1 c2
      refine gw_bipush k_Alm_fateOnOwnDay f_Alm_fateOnOwnDay_63 qb_m2 ?_
      exact gw_iret k_Alm_fateOnOwnDay f_Alm_fateOnOwnDay_65 rfl h
theorem sg_Alm_settleFates_0 {zs : List Int32} {w : Wd} {Q : Option AV → Wd → Prop} (h : Gw zs 4 m_Alm_settleFates 2 [some (.inr (.inl (some 16))), some (.inl 0)] [] w Q) : Gw zs 4 m_Alm_settleFates 0 [some (.inr (.inl (some 16))), none] [] w Q := by
  refine gw_iconst k_Alm_settleFates f_Alm_settleFates_0 qc_0 ?_
  refine gw_istore_n [some (.inr (.inl (some 16))), some (.inl 0)] k_Alm_settleFates f_Alm_settleFates_1 (Nat.le_of_ble_eq_true rfl) rfl ?_
  exact h
theorem sg_Alm_settleFates_2 {zs : List Int32} {x1 : Int32} {w : Wd} {Q : Option AV → Wd → Prop} (h : (((f_Fea_count w) ≤ x1 → Q (none) w) ∧ (¬ ((f_Fea_count w) ≤ x1) → (((f_Fea_wayOf w x1) = 2 → (((f_at w 20 60 x1) = (-1) → Ew zs 3 m_Alm_fateOnOwnDay [.inr (.inl (some 16)), .inl x1] w (fun v w7 => ∃ r6 : Int32, v = some (.inl r6) ∧ Gw zs 4 m_Alm_settleFates 2 [some (.inr (.inl (some 16))), some (.inl (x1 + 1))] [] (g_put w7 21 60 x1 r6) Q)) ∧ (¬ ((f_at w 20 60 x1) = (-1)) → Gw zs 4 m_Alm_settleFates 2 [some (.inr (.inl (some 16))), some (.inl (x1 + 1))] [] w Q))) ∧ (¬ ((f_Fea_wayOf w x1) = 2) → Ew zs 3 m_Alm_fateOnOwnDay [.inr (.inl (some 16)), .inl x1] w (fun v w4 => ∃ r3 : Int32, v = some (.inl r3) ∧ Gw zs 4 m_Alm_settleFates 2 [some (.inr (.inl (some 16))), some (.inl (x1 + 1))] [] (g_put w4 21 60 x1 r3) Q)))))) : Gw zs 4 m_Alm_settleFates 2 [some (.inr (.inl (some 16))), some (.inl x1)] [] w Q := by
  refine gw_iload_n k_Alm_settleFates f_Alm_settleFates_2 rfl ?_
  refine gw_aload_n k_Alm_settleFates f_Alm_settleFates_3 rfl ?_
  refine gw_getR k_Alm_settleFates f_Alm_settleFates_4 l_fldT_0_35 hc16 rfl ?_
  refine gw_virtual [] k_Alm_settleFates f_Alm_settleFates_7 l_invT_0_97 k_Fea_count hc8 rfl rfl rfl (by exact Nat.le_of_ble_eq_true rfl) (dc := 0) (by decide) ?_ rfl
  refine ev_Fea_count ?_
  show Gw zs 4 m_Alm_settleFates 10 [some (.inr (.inl (some 16))), some (.inl x1)] [.inl (f_Fea_count w), .inl x1] w _
  refine gw_icmp_ge (t := 56) k_Alm_settleFates f_Alm_settleFates_10 rfl (fun c1 => ?_) (fun c1 => ?_)
  · have h := h.1 c1
    exact gw_vret k_Alm_settleFates f_Alm_settleFates_56 rfl h
  · have h := h.2 c1
    refine gw_aload_n k_Alm_settleFates f_Alm_settleFates_13 rfl ?_
    refine gw_getR k_Alm_settleFates f_Alm_settleFates_14 l_fldT_0_35 hc16 rfl ?_
    refine gw_iload_n k_Alm_settleFates f_Alm_settleFates_17 rfl ?_
    refine gw_virtual [.inl x1] k_Alm_settleFates f_Alm_settleFates_18 l_invT_0_159 k_Fea_wayOf hc8 rfl rfl rfl (by exact Nat.le_of_ble_eq_true rfl) (dc := 1) (by decide) ?_ rfl
    refine ev_Fea_wayOf ?_
    show Gw zs 4 m_Alm_settleFates 21 [some (.inr (.inl (some 16))), some (.inl x1)] [.inl (f_Fea_wayOf w x1)] w _
    refine gw_iconst k_Alm_settleFates f_Alm_settleFates_21 qc_2 ?_
    refine gw_icmp_ne (t := 37) k_Alm_settleFates f_Alm_settleFates_22 rfl (fun c2 => ?_) (fun c2 => ?_)
    · have h := h.2 c2
      refine gw_aload_n k_Alm_settleFates f_Alm_settleFates_37 rfl ?_
      refine gw_getR k_Alm_settleFates f_Alm_settleFates_38 l_fldT_0_24 hc16 rfl ?_
      refine gw_iload_n k_Alm_settleFates f_Alm_settleFates_41 rfl ?_
      refine gw_aload_n k_Alm_settleFates f_Alm_settleFates_42 rfl ?_
      refine gw_iload_n k_Alm_settleFates f_Alm_settleFates_43 rfl ?_
      refine gw_virtual [.inl x1] k_Alm_settleFates f_Alm_settleFates_44 l_invT_0_190 k_Alm_fateOnOwnDay hc16 rfl rfl rfl (by exact Nat.le_of_ble_eq_true rfl) (dc := 3) (by decide) ?_ rfl
      refine h.mono (fun v w4 hh => ?_)
      obtain ⟨r3, rfl, h⟩ := hh
      show Gw zs 4 m_Alm_settleFates 47 [some (.inr (.inl (some 16))), some (.inl x1)] [.inl r3, .inl x1, .inr (.inl (some 21))] w4 _
      refine gw_static [.inr (.inl (some 21)), .inl x1, .inl r3] k_Alm_settleFates f_Alm_settleFates_47 l_invT_0_109 (by decide) k_Bk_put rfl (by exact Nat.le_of_ble_eq_true rfl) (dc := 0) (by decide) ?_ rfl
      refine ev_put hc21 (by decide) ?_
      show Gw zs 4 m_Alm_settleFates 50 [some (.inr (.inl (some 16))), some (.inl x1)] [] (g_put w4 21 60 x1 r3) _
      refine gw_iinc [some (.inr (.inl (some 16))), some (.inl (x1 + 1))] k_Alm_settleFates f_Alm_settleFates_50 rfl qc_1 (Nat.le_of_ble_eq_true rfl) rfl ?_
      refine gw_goto (t := 2) k_Alm_settleFates f_Alm_settleFates_53 rfl ?_
      exact h
    · have c2 := Decidable.not_not.mp c2
      have h := h.1 c2
      refine gw_aload_n k_Alm_settleFates f_Alm_settleFates_25 rfl ?_
      refine gw_getR k_Alm_settleFates f_Alm_settleFates_26 l_fldT_0_21 hc16 rfl ?_
      refine gw_iload_n k_Alm_settleFates f_Alm_settleFates_29 rfl ?_
      refine gw_static [.inr (.inl (some 20)), .inl x1] k_Alm_settleFates f_Alm_settleFates_30 l_invT_0_60 (by decide) k_Bk_at rfl (by exact Nat.le_of_ble_eq_true rfl) (dc := 0) (by decide) ?_ rfl
      refine ev_at hc20 (by decide) ?_
      show Gw zs 4 m_Alm_settleFates 33 [some (.inr (.inl (some 16))), some (.inl x1)] [.inl (f_at w 20 60 x1)] w _
      refine gw_iconst k_Alm_settleFates f_Alm_settleFates_33 qc_m1 ?_
      refine gw_icmp_ne (t := 50) k_Alm_settleFates f_Alm_settleFates_34 rfl (fun c5 => ?_) (fun c5 => ?_)
      · have h := h.2 c5
        refine gw_iinc [some (.inr (.inl (some 16))), some (.inl (x1 + 1))] k_Alm_settleFates f_Alm_settleFates_50 rfl qc_1 (Nat.le_of_ble_eq_true rfl) rfl ?_
        refine gw_goto (t := 2) k_Alm_settleFates f_Alm_settleFates_53 rfl ?_
        exact h
      · have c5 := Decidable.not_not.mp c5
        have h := h.1 c5
        refine gw_aload_n k_Alm_settleFates f_Alm_settleFates_37 rfl ?_
        refine gw_getR k_Alm_settleFates f_Alm_settleFates_38 l_fldT_0_24 hc16 rfl ?_
        refine gw_iload_n k_Alm_settleFates f_Alm_settleFates_41 rfl ?_
        refine gw_aload_n k_Alm_settleFates f_Alm_settleFates_42 rfl ?_
        refine gw_iload_n k_Alm_settleFates f_Alm_settleFates_43 rfl ?_
        refine gw_virtual [.inl x1] k_Alm_settleFates f_Alm_settleFates_44 l_invT_0_190 k_Alm_fateOnOwnDay hc16 rfl rfl rfl (by exact Nat.le_of_ble_eq_true rfl) (dc := 3) (by decide) ?_ rfl
        refine h.mono (fun v w7 hh => ?_)
        obtain ⟨r6, rfl, h⟩ := hh
        show Gw zs 4 m_Alm_settleFates 47 [some (.inr (.inl (some 16))), some (.inl x1)] [.inl r6, .inl x1, .inr (.inl (some 21))] w7 _
        refine gw_static [.inr (.inl (some 21)), .inl x1, .inl r6] k_Alm_settleFates f_Alm_settleFates_47 l_invT_0_109 (by decide) k_Bk_put rfl (by exact Nat.le_of_ble_eq_true rfl) (dc := 0) (by decide) ?_ rfl
        refine ev_put hc21 (by decide) ?_
        show Gw zs 4 m_Alm_settleFates 50 [some (.inr (.inl (some 16))), some (.inl x1)] [] (g_put w7 21 60 x1 r6) _
        refine gw_iinc [some (.inr (.inl (some 16))), some (.inl (x1 + 1))] k_Alm_settleFates f_Alm_settleFates_50 rfl qc_1 (Nat.le_of_ble_eq_true rfl) rfl ?_
        refine gw_goto (t := 2) k_Alm_settleFates f_Alm_settleFates_53 rfl ?_
        exact h
theorem sg_Alm_build_0 {zs : List Int32} {a0 : Int32} {w : Wd} {Q : Option AV → Wd → Prop} (h : Ew zs 4 m_Alm_layOutSeasons [.inr (.inl (some 16)), .inl a0] (wr (wr (wr w 16 7 a0) 16 8 (f_Day_lengthOf a0)) 16 9 (f_Day_firstWeekday a0)) (fun v w1 => v = none ∧ Gw zs 5 m_Alm_build 28 [some (.inr (.inl (some 16))), some (.inl a0), some (.inl 0)] [] w1 Q)) : Gw zs 5 m_Alm_build 0 [some (.inr (.inl (some 16))), some (.inl a0), none] [] w Q := by
  refine gw_aload_n k_Alm_build f_Alm_build_0 rfl ?_
  refine gw_iload_n k_Alm_build f_Alm_build_1 rfl ?_
  refine gw_put k_Alm_build f_Alm_build_2 l_fldT_0_27 hc16 rfl rfl rfl rfl rfl ?_
  refine gw_aload_n k_Alm_build f_Alm_build_5 rfl ?_
  refine gw_iload_n k_Alm_build f_Alm_build_6 rfl ?_
  refine gw_static [.inl a0] k_Alm_build f_Alm_build_7 l_invT_0_49 (by decide) k_Day_lengthOf rfl (by exact Nat.le_of_ble_eq_true rfl) (dc := 1) (by decide) ?_ rfl
  refine ev_Day_lengthOf ?_
  show Gw zs 5 m_Alm_build 10 [some (.inr (.inl (some 16))), some (.inl a0), none] [.inl (f_Day_lengthOf a0), .inr (.inl (some 16))] (wr w 16 7 a0) _
  refine gw_put k_Alm_build f_Alm_build_10 l_fldT_0_91 hc16 rfl rfl rfl rfl rfl ?_
  refine gw_aload_n k_Alm_build f_Alm_build_13 rfl ?_
  refine gw_iload_n k_Alm_build f_Alm_build_14 rfl ?_
  refine gw_static [.inl a0] k_Alm_build f_Alm_build_15 l_invT_0_101 (by decide) k_Day_firstWeekday rfl (by exact Nat.le_of_ble_eq_true rfl) (dc := 0) (by decide) ?_ rfl
  refine ev_Day_firstWeekday ?_
  show Gw zs 5 m_Alm_build 18 [some (.inr (.inl (some 16))), some (.inl a0), none] [.inl (f_Day_firstWeekday a0), .inr (.inl (some 16))] (wr (wr w 16 7 a0) 16 8 (f_Day_lengthOf a0)) _
  refine gw_put k_Alm_build f_Alm_build_18 l_fldT_0_57 hc16 rfl rfl rfl rfl rfl ?_
  refine gw_aload_n k_Alm_build f_Alm_build_21 rfl ?_
  refine gw_iload_n k_Alm_build f_Alm_build_22 rfl ?_
  refine gw_virtual [.inl a0] k_Alm_build f_Alm_build_23 l_invT_0_103 k_Alm_layOutSeasons hc16 rfl rfl rfl (by exact Nat.le_of_ble_eq_true rfl) (dc := 4) (by decide) ?_ rfl
  refine h.mono (fun v w1 hh => ?_)
  obtain ⟨rfl, h⟩ := hh
  show Gw zs 5 m_Alm_build 26 [some (.inr (.inl (some 16))), some (.inl a0), none] [] w1 _
  refine gw_iconst k_Alm_build f_Alm_build_26 qc_0 ?_
  refine gw_istore_n [some (.inr (.inl (some 16))), some (.inl a0), some (.inl 0)] k_Alm_build f_Alm_build_27 (Nat.le_of_ble_eq_true rfl) rfl ?_
  exact h
theorem sg_Alm_build_28 {zs : List Int32} {x1 x2 : Int32} {w : Wd} {Q : Option AV → Wd → Prop} (h : (((f_Fea_count w) ≤ x2 → Gw zs 5 m_Alm_build 64 [some (.inr (.inl (some 16))), some (.inl x1), some (.inl 0)] [] w Q) ∧ (¬ ((f_Fea_count w) ≤ x2) → Gw zs 5 m_Alm_build 28 [some (.inr (.inl (some 16))), some (.inl x1), some (.inl (x2 + 1))] [] (g_put w 20 60 x2 (f_Fea_dayIn w x2 x1)) Q))) : Gw zs 5 m_Alm_build 28 [some (.inr (.inl (some 16))), some (.inl x1), some (.inl x2)] [] w Q := by
  refine gw_iload_n k_Alm_build f_Alm_build_28 rfl ?_
  refine gw_aload_n k_Alm_build f_Alm_build_29 rfl ?_
  refine gw_getR k_Alm_build f_Alm_build_30 l_fldT_0_35 hc16 rfl ?_
  refine gw_virtual [] k_Alm_build f_Alm_build_33 l_invT_0_97 k_Fea_count hc8 rfl rfl rfl (by exact Nat.le_of_ble_eq_true rfl) (dc := 0) (by decide) ?_ rfl
  refine ev_Fea_count ?_
  show Gw zs 5 m_Alm_build 36 [some (.inr (.inl (some 16))), some (.inl x1), some (.inl x2)] [.inl (f_Fea_count w), .inl x2] w _
  refine gw_icmp_ge (t := 62) k_Alm_build f_Alm_build_36 rfl (fun c1 => ?_) (fun c1 => ?_)
  · have h := h.1 c1
    refine gw_iconst k_Alm_build f_Alm_build_62 qc_0 ?_
    refine gw_istore_n [some (.inr (.inl (some 16))), some (.inl x1), some (.inl 0)] k_Alm_build f_Alm_build_63 (Nat.le_of_ble_eq_true rfl) rfl ?_
    exact h
  · have h := h.2 c1
    refine gw_aload_n k_Alm_build f_Alm_build_39 rfl ?_
    refine gw_getR k_Alm_build f_Alm_build_40 l_fldT_0_21 hc16 rfl ?_
    refine gw_iload_n k_Alm_build f_Alm_build_43 rfl ?_
    refine gw_aload_n k_Alm_build f_Alm_build_44 rfl ?_
    refine gw_getR k_Alm_build f_Alm_build_45 l_fldT_0_35 hc16 rfl ?_
    refine gw_iload_n k_Alm_build f_Alm_build_48 rfl ?_
    refine gw_iload_n k_Alm_build f_Alm_build_49 rfl ?_
    refine gw_virtual [.inl x2, .inl x1] k_Alm_build f_Alm_build_50 l_invT_0_106 k_Fea_dayIn hc8 rfl rfl rfl (by exact Nat.le_of_ble_eq_true rfl) (dc := 4) (by decide) ?_ rfl
    refine ev_Fea_dayIn ?_
    show Gw zs 5 m_Alm_build 53 [some (.inr (.inl (some 16))), some (.inl x1), some (.inl x2)] [.inl (f_Fea_dayIn w x2 x1), .inl x2, .inr (.inl (some 20))] w _
    refine gw_static [.inr (.inl (some 20)), .inl x2, .inl (f_Fea_dayIn w x2 x1)] k_Alm_build f_Alm_build_53 l_invT_0_109 (by decide) k_Bk_put rfl (by exact Nat.le_of_ble_eq_true rfl) (dc := 0) (by decide) ?_ rfl
    refine ev_put hc20 (by decide) ?_
    show Gw zs 5 m_Alm_build 56 [some (.inr (.inl (some 16))), some (.inl x1), some (.inl x2)] [] (g_put w 20 60 x2 (f_Fea_dayIn w x2 x1)) _
    refine gw_iinc [some (.inr (.inl (some 16))), some (.inl x1), some (.inl (x2 + 1))] k_Alm_build f_Alm_build_56 rfl qc_1 (Nat.le_of_ble_eq_true rfl) rfl ?_
    refine gw_goto (t := 28) k_Alm_build f_Alm_build_59 rfl ?_
    exact h
theorem sg_Alm_build_64 {zs : List Int32} {x2 : Int32} {o1 : Option AV} {w : Wd} {Q : Option AV → Wd → Prop} (h : ((366 ≤ x2 → Gw zs 5 m_Alm_build 88 [some (.inr (.inl (some 16))), o1, some (.inl 0)] [] w Q) ∧ (¬ (366 ≤ x2) → (vp_in x2 366 ∧ Gw zs 5 m_Alm_build 64 [some (.inr (.inl (some 16))), o1, some (.inl (x2 + 1))] [] (wr w 18 x2.toNatClampNeg (-1)) Q)))) : Gw zs 5 m_Alm_build 64 [some (.inr (.inl (some 16))), o1, some (.inl x2)] [] w Q := by
  refine gw_iload_n k_Alm_build f_Alm_build_64 rfl ?_
  refine gw_aload_n k_Alm_build f_Alm_build_65 rfl ?_
  refine gw_getR k_Alm_build f_Alm_build_66 l_fldT_0_15 hc16 rfl ?_
  refine gw_alenI k_Alm_build f_Alm_build_69 hc18 qn_366 ?_
  refine gw_icmp_ge (t := 86) k_Alm_build f_Alm_build_70 rfl (fun c1 => ?_) (fun c1 => ?_)
  · have h := h.1 c1
    refine gw_iconst k_Alm_build f_Alm_build_86 qc_0 ?_
    refine gw_istore_n [some (.inr (.inl (some 16))), o1, some (.inl 0)] k_Alm_build f_Alm_build_87 (Nat.le_of_ble_eq_true rfl) rfl ?_
    exact h
  · have h := h.2 c1
    refine gw_aload_n k_Alm_build f_Alm_build_73 rfl ?_
    refine gw_getR k_Alm_build f_Alm_build_74 l_fldT_0_15 hc16 rfl ?_
    refine gw_iload_n k_Alm_build f_Alm_build_77 rfl ?_
    refine gw_iconst k_Alm_build f_Alm_build_78 qc_m1 ?_
    have hp := h.1
    have h := h.2
    refine gw_iast k_Alm_build f_Alm_build_79 hc18 hp ?_
    refine gw_iinc [some (.inr (.inl (some 16))), o1, some (.inl (x2 + 1))] k_Alm_build f_Alm_build_80 rfl qc_1 (Nat.le_of_ble_eq_true rfl) rfl ?_
    refine gw_goto (t := 64) k_Alm_build f_Alm_build_83 rfl ?_
    exact h
theorem sg_Alm_build_88 {zs : List Int32} {x2 : Int32} {o1 : Option AV} {w : Wd} {Q : Option AV → Wd → Prop} (h : ((1098 ≤ x2 → Ew zs 4 m_Alm_considerAll [.inr (.inl (some 16)), .inl 1] w (fun v w2 => v = none ∧ Ew zs 4 m_Alm_moveFeasts [.inr (.inl (some 16))] w2 (fun v w3 => v = none ∧ Ew zs 4 m_Alm_considerAll [.inr (.inl (some 16)), .inl 0] w3 (fun v w4 => v = none ∧ Ew zs 4 m_Alm_settleFates [.inr (.inl (some 16))] w4 (fun v w5 => v = none ∧ Q (none) w5))))) ∧ (¬ (1098 ≤ x2) → (vp_in x2 1098 ∧ Gw zs 5 m_Alm_build 88 [some (.inr (.inl (some 16))), o1, some (.inl (x2 + 1))] [] (wr w 19 x2.toNatClampNeg (-1)) Q)))) : Gw zs 5 m_Alm_build 88 [some (.inr (.inl (some 16))), o1, some (.inl x2)] [] w Q := by
  refine gw_iload_n k_Alm_build f_Alm_build_88 rfl ?_
  refine gw_aload_n k_Alm_build f_Alm_build_89 rfl ?_
  refine gw_getR k_Alm_build f_Alm_build_90 l_fldT_0_18 hc16 rfl ?_
  refine gw_alenI k_Alm_build f_Alm_build_93 hc19 qn_1098 ?_
  refine gw_icmp_ge (t := 110) k_Alm_build f_Alm_build_94 rfl (fun c1 => ?_) (fun c1 => ?_)
  · have h := h.1 c1
    refine gw_aload_n k_Alm_build f_Alm_build_110 rfl ?_
    refine gw_iconst k_Alm_build f_Alm_build_111 qc_1 ?_
    refine gw_virtual [.inl 1] k_Alm_build f_Alm_build_112 l_invT_0_113 k_Alm_considerAll hc16 rfl rfl rfl (by exact Nat.le_of_ble_eq_true rfl) (dc := 4) (by decide) ?_ rfl
    refine h.mono (fun v w2 hh => ?_)
    obtain ⟨rfl, h⟩ := hh
    show Gw zs 5 m_Alm_build 115 [some (.inr (.inl (some 16))), o1, some (.inl x2)] [] w2 _
    refine gw_aload_n k_Alm_build f_Alm_build_115 rfl ?_
    refine gw_virtual [] k_Alm_build f_Alm_build_116 l_invT_0_117 k_Alm_moveFeasts hc16 rfl rfl rfl (by exact Nat.le_of_ble_eq_true rfl) (dc := 4) (by decide) ?_ rfl
    refine h.mono (fun v w3 hh => ?_)
    obtain ⟨rfl, h⟩ := hh
    show Gw zs 5 m_Alm_build 119 [some (.inr (.inl (some 16))), o1, some (.inl x2)] [] w3 _
    refine gw_aload_n k_Alm_build f_Alm_build_119 rfl ?_
    refine gw_iconst k_Alm_build f_Alm_build_120 qc_0 ?_
    refine gw_virtual [.inl 0] k_Alm_build f_Alm_build_121 l_invT_0_113 k_Alm_considerAll hc16 rfl rfl rfl (by exact Nat.le_of_ble_eq_true rfl) (dc := 4) (by decide) ?_ rfl
    refine h.mono (fun v w4 hh => ?_)
    obtain ⟨rfl, h⟩ := hh
    show Gw zs 5 m_Alm_build 124 [some (.inr (.inl (some 16))), o1, some (.inl x2)] [] w4 _
    refine gw_aload_n k_Alm_build f_Alm_build_124 rfl ?_
    refine gw_virtual [] k_Alm_build f_Alm_build_125 l_invT_0_120 k_Alm_settleFates hc16 rfl rfl rfl (by exact Nat.le_of_ble_eq_true rfl) (dc := 4) (by decide) ?_ rfl
    refine h.mono (fun v w5 hh => ?_)
    obtain ⟨rfl, h⟩ := hh
    show Gw zs 5 m_Alm_build 128 [some (.inr (.inl (some 16))), o1, some (.inl x2)] [] w5 _
    exact gw_vret k_Alm_build f_Alm_build_128 rfl h
  · have h := h.2 c1
    refine gw_aload_n k_Alm_build f_Alm_build_97 rfl ?_
    refine gw_getR k_Alm_build f_Alm_build_98 l_fldT_0_18 hc16 rfl ?_
    refine gw_iload_n k_Alm_build f_Alm_build_101 rfl ?_
    refine gw_iconst k_Alm_build f_Alm_build_102 qc_m1 ?_
    have hp := h.1
    have h := h.2
    refine gw_iast k_Alm_build f_Alm_build_103 hc19 hp ?_
    refine gw_iinc [some (.inr (.inl (some 16))), o1, some (.inl (x2 + 1))] k_Alm_build f_Alm_build_104 rfl qc_1 (Nat.le_of_ble_eq_true rfl) rfl ?_
    refine gw_goto (t := 88) k_Alm_build f_Alm_build_107 rfl ?_
    exact h
theorem sg_Alm_openAt_0 {zs : List Int32} {a0 a1 : Int32} {w : Wd} {Q : Option AV → Wd → Prop} (h : (((f_Day_isYear a0) = 0 → Q (some (.inl 0)) w) ∧ (¬ ((f_Day_isYear a0) = 0) → (((f_Bk_within a1 0 ((f_Day_lengthOf a0) - 1)) = 0 → Q (some (.inl 0)) w) ∧ (¬ ((f_Bk_within a1 0 ((f_Day_lengthOf a0) - 1)) = 0) → (((w 16 7) = a0 → Q (some (.inl 1)) w) ∧ (¬ ((w 16 7) = a0) → Ew zs 5 m_Alm_build [.inr (.inl (some 16)), .inl a0] w (fun v w4 => v = none ∧ Q (some (.inl 1)) w4)))))))) : Gw zs 6 m_Alm_openAt 0 [some (.inr (.inl (some 16))), some (.inl a0), some (.inl a1)] [] w Q := by
  refine gw_iload_n k_Alm_openAt f_Alm_openAt_0 rfl ?_
  refine gw_static [.inl a0] k_Alm_openAt f_Alm_openAt_1 l_invT_0_39 (by decide) k_Day_isYear rfl (by exact Nat.le_of_ble_eq_true rfl) (dc := 1) (by decide) ?_ rfl
  refine ev_Day_isYear ?_
  show Gw zs 6 m_Alm_openAt 4 [some (.inr (.inl (some 16))), some (.inl a0), some (.inl a1)] [.inl (f_Day_isYear a0)] w _
  refine gw_if_eq (t := 21) k_Alm_openAt f_Alm_openAt_4 rfl (fun c1 => ?_) (fun c1 => ?_)
  · have h := h.1 c1
    refine gw_iconst k_Alm_openAt f_Alm_openAt_21 qc_0 ?_
    exact gw_zret k_Alm_openAt f_Alm_openAt_22 rfl (Or.inl rfl) h
  · have h := h.2 c1
    refine gw_iload_n k_Alm_openAt f_Alm_openAt_7 rfl ?_
    refine gw_iconst k_Alm_openAt f_Alm_openAt_8 qc_0 ?_
    refine gw_iload_n k_Alm_openAt f_Alm_openAt_9 rfl ?_
    refine gw_static [.inl a0] k_Alm_openAt f_Alm_openAt_10 l_invT_0_49 (by decide) k_Day_lengthOf rfl (by exact Nat.le_of_ble_eq_true rfl) (dc := 1) (by decide) ?_ rfl
    refine ev_Day_lengthOf ?_
    show Gw zs 6 m_Alm_openAt 13 [some (.inr (.inl (some 16))), some (.inl a0), some (.inl a1)] [.inl (f_Day_lengthOf a0), .inl 0, .inl a1] w _
    refine gw_iconst k_Alm_openAt f_Alm_openAt_13 qc_1 ?_
    refine gw_isub k_Alm_openAt f_Alm_openAt_14 ?_
    refine gw_static [.inl a1, .inl 0, .inl ((f_Day_lengthOf a0) - 1)] k_Alm_openAt f_Alm_openAt_15 l_invT_0_53 (by decide) k_Bk_within rfl (by exact Nat.le_of_ble_eq_true rfl) (dc := 0) (by decide) ?_ rfl
    refine ev_Bk_within ?_
    show Gw zs 6 m_Alm_openAt 18 [some (.inr (.inl (some 16))), some (.inl a0), some (.inl a1)] [.inl (f_Bk_within a1 0 ((f_Day_lengthOf a0) - 1))] w _
    refine gw_if_ne (t := 23) k_Alm_openAt f_Alm_openAt_18 rfl (fun c2 => ?_) (fun c2 => ?_)
    · have h := h.2 c2
      refine gw_aload_n k_Alm_openAt f_Alm_openAt_23 rfl ?_
      refine gw_getI k_Alm_openAt f_Alm_openAt_24 l_fldT_0_27 hc16 rfl ?_
      refine gw_iload_n k_Alm_openAt f_Alm_openAt_27 rfl ?_
      refine gw_icmp_eq (t := 36) k_Alm_openAt f_Alm_openAt_28 rfl (fun c3 => ?_) (fun c3 => ?_)
      · have h := h.1 c3
        refine gw_iconst k_Alm_openAt f_Alm_openAt_36 qc_1 ?_
        exact gw_zret k_Alm_openAt f_Alm_openAt_37 rfl (Or.inr rfl) h
      · have h := h.2 c3
        refine gw_aload_n k_Alm_openAt f_Alm_openAt_31 rfl ?_
        refine gw_iload_n k_Alm_openAt f_Alm_openAt_32 rfl ?_
        refine gw_virtual [.inl a0] k_Alm_openAt f_Alm_openAt_33 l_invT_0_45 k_Alm_build hc16 rfl rfl rfl (by exact Nat.le_of_ble_eq_true rfl) (dc := 5) (by decide) ?_ rfl
        refine h.mono (fun v w4 hh => ?_)
        obtain ⟨rfl, h⟩ := hh
        show Gw zs 6 m_Alm_openAt 36 [some (.inr (.inl (some 16))), some (.inl a0), some (.inl a1)] [] w4 _
        refine gw_iconst k_Alm_openAt f_Alm_openAt_36 qc_1 ?_
        exact gw_zret k_Alm_openAt f_Alm_openAt_37 rfl (Or.inr rfl) h
    · have c2 := Decidable.not_not.mp c2
      have h := h.1 c2
      refine gw_iconst k_Alm_openAt f_Alm_openAt_21 qc_0 ?_
      exact gw_zret k_Alm_openAt f_Alm_openAt_22 rfl (Or.inl rfl) h
theorem sg_Alm_commemoratedOn_0 {zs : List Int32} {a0 : Int32} {w : Wd} {Q : Option AV → Wd → Prop} (h : Gw zs 1 m_Alm_commemoratedOn 4 [some (.inr (.inl (some 16))), some (.inl a0), some (.inl 0), some (.inl 0)] [] w Q) : Gw zs 1 m_Alm_commemoratedOn 0 [some (.inr (.inl (some 16))), some (.inl a0), none, none] [] w Q := by
  refine gw_iconst k_Alm_commemoratedOn f_Alm_commemoratedOn_0 qc_0 ?_
  refine gw_istore_n [some (.inr (.inl (some 16))), some (.inl a0), some (.inl 0), none] k_Alm_commemoratedOn f_Alm_commemoratedOn_1 (Nat.le_of_ble_eq_true rfl) rfl ?_
  refine gw_iconst k_Alm_commemoratedOn f_Alm_commemoratedOn_2 qc_0 ?_
  refine gw_istore_n [some (.inr (.inl (some 16))), some (.inl a0), some (.inl 0), some (.inl 0)] k_Alm_commemoratedOn f_Alm_commemoratedOn_3 (Nat.le_of_ble_eq_true rfl) rfl ?_
  exact h
theorem sg_Alm_commemoratedOn_4 {zs : List Int32} {x1 x2 x3 : Int32} {w : Wd} {Q : Option AV → Wd → Prop} (h : ((3 ≤ x3 → Q (some (.inl x2)) w) ∧ (¬ (3 ≤ x3) → (((f_at w 19 1098 ((x1 * 3) + x3)) = (-1) → Gw zs 1 m_Alm_commemoratedOn 4 [some (.inr (.inl (some 16))), some (.inl x1), some (.inl x2), some (.inl (x3 + 1))] [] w Q) ∧ (¬ ((f_at w 19 1098 ((x1 * 3) + x3)) = (-1)) → Gw zs 1 m_Alm_commemoratedOn 4 [some (.inr (.inl (some 16))), some (.inl x1), some (.inl (x2 + 1)), some (.inl (x3 + 1))] [] w Q))))) : Gw zs 1 m_Alm_commemoratedOn 4 [some (.inr (.inl (some 16))), some (.inl x1), some (.inl x2), some (.inl x3)] [] w Q := by
  refine gw_iload_n k_Alm_commemoratedOn f_Alm_commemoratedOn_4 rfl ?_
  refine gw_iconst k_Alm_commemoratedOn f_Alm_commemoratedOn_5 qc_3 ?_
  refine gw_icmp_ge (t := 34) k_Alm_commemoratedOn f_Alm_commemoratedOn_6 rfl (fun c1 => ?_) (fun c1 => ?_)
  · have h := h.1 c1
    refine gw_iload_n k_Alm_commemoratedOn f_Alm_commemoratedOn_34 rfl ?_
    exact gw_iret k_Alm_commemoratedOn f_Alm_commemoratedOn_35 rfl h
  · have h := h.2 c1
    refine gw_aload_n k_Alm_commemoratedOn f_Alm_commemoratedOn_9 rfl ?_
    refine gw_getR k_Alm_commemoratedOn f_Alm_commemoratedOn_10 l_fldT_0_18 hc16 rfl ?_
    refine gw_iload_n k_Alm_commemoratedOn f_Alm_commemoratedOn_13 rfl ?_
    refine gw_iconst k_Alm_commemoratedOn f_Alm_commemoratedOn_14 qc_3 ?_
    refine gw_imul k_Alm_commemoratedOn f_Alm_commemoratedOn_15 ?_
    refine gw_iload_n k_Alm_commemoratedOn f_Alm_commemoratedOn_16 rfl ?_
    refine gw_iadd k_Alm_commemoratedOn f_Alm_commemoratedOn_17 ?_
    refine gw_static [.inr (.inl (some 19)), .inl ((x1 * 3) + x3)] k_Alm_commemoratedOn f_Alm_commemoratedOn_18 l_invT_0_60 (by decide) k_Bk_at rfl (by exact Nat.le_of_ble_eq_true rfl) (dc := 0) (by decide) ?_ rfl
    refine ev_at hc19 (by decide) ?_
    show Gw zs 1 m_Alm_commemoratedOn 21 [some (.inr (.inl (some 16))), some (.inl x1), some (.inl x2), some (.inl x3)] [.inl (f_at w 19 1098 ((x1 * 3) + x3))] w _
    refine gw_iconst k_Alm_commemoratedOn f_Alm_commemoratedOn_21 qc_m1 ?_
    refine gw_icmp_eq (t := 28) k_Alm_commemoratedOn f_Alm_commemoratedOn_22 rfl (fun c2 => ?_) (fun c2 => ?_)
    · have h := h.1 c2
      refine gw_iinc [some (.inr (.inl (some 16))), some (.inl x1), some (.inl x2), some (.inl (x3 + 1))] k_Alm_commemoratedOn f_Alm_commemoratedOn_28 rfl qc_1 (Nat.le_of_ble_eq_true rfl) rfl ?_
      refine gw_goto (t := 4) k_Alm_commemoratedOn f_Alm_commemoratedOn_31 rfl ?_
      exact h
    · have h := h.2 c2
      refine gw_iinc [some (.inr (.inl (some 16))), some (.inl x1), some (.inl (x2 + 1)), some (.inl x3)] k_Alm_commemoratedOn f_Alm_commemoratedOn_25 rfl qc_1 (Nat.le_of_ble_eq_true rfl) rfl ?_
      refine gw_iinc [some (.inr (.inl (some 16))), some (.inl x1), some (.inl (x2 + 1)), some (.inl (x3 + 1))] k_Alm_commemoratedOn f_Alm_commemoratedOn_28 rfl qc_1 (Nat.le_of_ble_eq_true rfl) rfl ?_
      refine gw_goto (t := 4) k_Alm_commemoratedOn f_Alm_commemoratedOn_31 rfl ?_
      exact h
theorem sg_Alm_officeOn_0 {zs : List Int32} {a0 a1 : Int32} {w : Wd} {Q : Option AV → Wd → Prop} (h : ((a1 = 3 → Q (some (.inl (f_Alm_colourIn w (f_at w 18 366 a0) a0))) w) ∧ (a1 = 4 → Ew zs 1 m_Alm_commemoratedOn [.inr (.inl (some 16)), .inl a0] w (fun v w4 => ∃ r3 : Int32, v = some (.inl r3) ∧ Q (some (.inl r3)) w4)) ∧ (a1 = 5 → (((f_Alm_kindIn (f_at w 18 366 a0)) = 2 → Q (some (.inl (f_at w 20 60 (f_Alm_feastIn (f_at w 18 366 a0))))) w) ∧ (¬ ((f_Alm_kindIn (f_at w 18 366 a0)) = 2) → Q (some (.inl a0)) w))) ∧ (¬ a1 = 3 → ¬ a1 = 4 → ¬ a1 = 5 → Q (some (.inl (f_Alm_partOf (f_at w 18 366 a0) a1))) w))) : Gw zs 3 m_Alm_officeOn 0 [some (.inr (.inl (some 16))), some (.inl a0), some (.inl a1), none] [] w Q := by
  refine gw_aload_n k_Alm_officeOn f_Alm_officeOn_0 rfl ?_
  refine gw_getR k_Alm_officeOn f_Alm_officeOn_1 l_fldT_0_15 hc16 rfl ?_
  refine gw_iload_n k_Alm_officeOn f_Alm_officeOn_4 rfl ?_
  refine gw_static [.inr (.inl (some 18)), .inl a0] k_Alm_officeOn f_Alm_officeOn_5 l_invT_0_60 (by decide) k_Bk_at rfl (by exact Nat.le_of_ble_eq_true rfl) (dc := 0) (by decide) ?_ rfl
  refine ev_at hc18 (by decide) ?_
  show Gw zs 3 m_Alm_officeOn 8 [some (.inr (.inl (some 16))), some (.inl a0), some (.inl a1), none] [.inl (f_at w 18 366 a0)] w _
  refine gw_istore_n [some (.inr (.inl (some 16))), some (.inl a0), some (.inl a1), some (.inl (f_at w 18 366 a0))] k_Alm_officeOn f_Alm_officeOn_8 (Nat.le_of_ble_eq_true rfl) rfl ?_
  refine gw_iload_n k_Alm_officeOn f_Alm_officeOn_9 rfl ?_
  refine gw_tsw k_Alm_officeOn f_Alm_officeOn_10 (by decide) (by decide) (fun q hq hx => ?_) (fun hx => ?_)
  · match q, hq, hx with
    | 0, hq, hx =>
      have c1 : a1 = 3 := hx.trans (by decide)
      have h := h.1 c1
      refine ⟨_, 36, rfl, rfl, ?_⟩
      refine gw_aload_n k_Alm_officeOn f_Alm_officeOn_36 rfl ?_
      refine gw_iload_n k_Alm_officeOn f_Alm_officeOn_37 rfl ?_
      refine gw_iload_n k_Alm_officeOn f_Alm_officeOn_38 rfl ?_
      refine gw_virtual [.inl (f_at w 18 366 a0), .inl a0] k_Alm_officeOn f_Alm_officeOn_39 l_invT_0_64 k_Alm_colourIn hc16 rfl rfl rfl (by exact Nat.le_of_ble_eq_true rfl) (dc := 2) (by decide) ?_ rfl
      refine ev_Alm_colourIn ?_
      show Gw zs 3 m_Alm_officeOn 42 [some (.inr (.inl (some 16))), some (.inl a0), some (.inl a1), some (.inl (f_at w 18 366 a0))] [.inl (f_Alm_colourIn w (f_at w 18 366 a0) a0)] w _
      exact gw_iret k_Alm_officeOn f_Alm_officeOn_42 rfl h
    | 1, hq, hx =>
      have c2 : a1 = 4 := hx.trans (by decide)
      have h := h.2.1 c2
      refine ⟨_, 43, rfl, rfl, ?_⟩
      refine gw_aload_n k_Alm_officeOn f_Alm_officeOn_43 rfl ?_
      refine gw_iload_n k_Alm_officeOn f_Alm_officeOn_44 rfl ?_
      refine gw_virtual [.inl a0] k_Alm_officeOn f_Alm_officeOn_45 l_invT_0_68 k_Alm_commemoratedOn hc16 rfl rfl rfl (by exact Nat.le_of_ble_eq_true rfl) (dc := 1) (by decide) ?_ rfl
      refine h.mono (fun v w4 hh => ?_)
      obtain ⟨r3, rfl, h⟩ := hh
      show Gw zs 3 m_Alm_officeOn 48 [some (.inr (.inl (some 16))), some (.inl a0), some (.inl a1), some (.inl (f_at w 18 366 a0))] [.inl r3] w4 _
      exact gw_iret k_Alm_officeOn f_Alm_officeOn_48 rfl h
    | 2, hq, hx =>
      have c5 : a1 = 5 := hx.trans (by decide)
      have h := h.2.2.1 c5
      refine ⟨_, 49, rfl, rfl, ?_⟩
      refine gw_iload_n k_Alm_officeOn f_Alm_officeOn_49 rfl ?_
      refine gw_static [.inl (f_at w 18 366 a0)] k_Alm_officeOn f_Alm_officeOn_50 l_invT_0_71 (by decide) k_Alm_kindIn rfl (by exact Nat.le_of_ble_eq_true rfl) (dc := 0) (by decide) ?_ rfl
      refine ev_Alm_kindIn ?_
      show Gw zs 3 m_Alm_officeOn 53 [some (.inr (.inl (some 16))), some (.inl a0), some (.inl a1), some (.inl (f_at w 18 366 a0))] [.inl (f_Alm_kindIn (f_at w 18 366 a0))] w _
      refine gw_iconst k_Alm_officeOn f_Alm_officeOn_53 qc_2 ?_
      refine gw_icmp_ne (t := 71) k_Alm_officeOn f_Alm_officeOn_54 rfl (fun c6 => ?_) (fun c6 => ?_)
      · have h := h.2 c6
        refine gw_iload_n k_Alm_officeOn f_Alm_officeOn_71 rfl ?_
        exact gw_iret k_Alm_officeOn f_Alm_officeOn_72 rfl h
      · have c6 := Decidable.not_not.mp c6
        have h := h.1 c6
        refine gw_aload_n k_Alm_officeOn f_Alm_officeOn_57 rfl ?_
        refine gw_getR k_Alm_officeOn f_Alm_officeOn_58 l_fldT_0_21 hc16 rfl ?_
        refine gw_iload_n k_Alm_officeOn f_Alm_officeOn_61 rfl ?_
        refine gw_static [.inl (f_at w 18 366 a0)] k_Alm_officeOn f_Alm_officeOn_62 l_invT_0_74 (by decide) k_Alm_feastIn rfl (by exact Nat.le_of_ble_eq_true rfl) (dc := 1) (by decide) ?_ rfl
        refine ev_Alm_feastIn ?_
        show Gw zs 3 m_Alm_officeOn 65 [some (.inr (.inl (some 16))), some (.inl a0), some (.inl a1), some (.inl (f_at w 18 366 a0))] [.inl (f_Alm_feastIn (f_at w 18 366 a0)), .inr (.inl (some 20))] w _
        refine gw_static [.inr (.inl (some 20)), .inl (f_Alm_feastIn (f_at w 18 366 a0))] k_Alm_officeOn f_Alm_officeOn_65 l_invT_0_60 (by decide) k_Bk_at rfl (by exact Nat.le_of_ble_eq_true rfl) (dc := 0) (by decide) ?_ rfl
        refine ev_at hc20 (by decide) ?_
        show Gw zs 3 m_Alm_officeOn 68 [some (.inr (.inl (some 16))), some (.inl a0), some (.inl a1), some (.inl (f_at w 18 366 a0))] [.inl (f_at w 20 60 (f_Alm_feastIn (f_at w 18 366 a0)))] w _
        refine gw_goto (t := 72) k_Alm_officeOn f_Alm_officeOn_68 rfl ?_
        exact gw_iret k_Alm_officeOn f_Alm_officeOn_72 rfl h
    | q + 3, hq, hx => exact absurd hq (by show ¬ (q + 3 < 3); omega)
  ·
    have c7 : ¬ a1 = 3 := fun c => hx 0 (by decide) (c.trans (by decide))
    have c8 : ¬ a1 = 4 := fun c => hx 1 (by decide) (c.trans (by decide))
    have c9 : ¬ a1 = 5 := fun c => hx 2 (by decide) (c.trans (by decide))
    have h := h.2.2.2 c7 c8 c9
    refine ⟨73, rfl, ?_⟩
    refine gw_iload_n k_Alm_officeOn f_Alm_officeOn_73 rfl ?_
    refine gw_iload_n k_Alm_officeOn f_Alm_officeOn_74 rfl ?_
    refine gw_static [.inl (f_at w 18 366 a0), .inl a1] k_Alm_officeOn f_Alm_officeOn_75 l_invT_0_77 (by decide) k_Alm_partOf rfl (by exact Nat.le_of_ble_eq_true rfl) (dc := 2) (by decide) ?_ rfl
    refine ev_Alm_partOf ?_
    show Gw zs 3 m_Alm_officeOn 78 [some (.inr (.inl (some 16))), some (.inl a0), some (.inl a1), some (.inl (f_at w 18 366 a0))] [.inl (f_Alm_partOf (f_at w 18 366 a0) a1)] w _
    exact gw_iret k_Alm_officeOn f_Alm_officeOn_78 rfl h
theorem sg_Bk_office_0 {zs : List Int32} {a0 a1 a2 : Int32} {w : Wd} {Q : Option AV → Wd → Prop} (h : Ew zs 6 m_Alm_openAt [.inr (.inl (some 16)), .inl a0, .inl a1] w (fun v w2 => ∃ r1 : Int32, v = some (.inl r1) ∧ ((r1 = 0 → Q (some (.inl (-1))) w2) ∧ (¬ (r1 = 0) → Ew zs 3 m_Alm_officeOn [.inr (.inl (some 16)), .inl a1, .inl a2] w2 (fun v w5 => ∃ r4 : Int32, v = some (.inl r4) ∧ Q (some (.inl r4)) w5))))) : Gw zs 7 m_Bk_office 0 [some (.inr (.inl (some 0))), some (.inl a0), some (.inl a1), some (.inl a2)] [] w Q := by
  refine gw_aload_n k_Bk_office f_Bk_office_0 rfl ?_
  refine gw_getR k_Bk_office f_Bk_office_1 l_fldT_10_28 hc0 rfl ?_
  refine gw_iload_n k_Bk_office f_Bk_office_4 rfl ?_
  refine gw_iload_n k_Bk_office f_Bk_office_5 rfl ?_
  refine gw_virtual [.inl a0, .inl a1] k_Bk_office f_Bk_office_6 l_invT_10_107 k_Alm_openAt hc16 rfl rfl rfl (by exact Nat.le_of_ble_eq_true rfl) (dc := 6) (by decide) ?_ rfl
  refine h.mono (fun v w2 hh => ?_)
  obtain ⟨r1, rfl, h⟩ := hh
  show Gw zs 7 m_Bk_office 9 [some (.inr (.inl (some 0))), some (.inl a0), some (.inl a1), some (.inl a2)] [.inl r1] w2 _
  refine gw_if_eq (t := 24) k_Bk_office f_Bk_office_9 rfl (fun c3 => ?_) (fun c3 => ?_)
  · have h := h.1 c3
    refine gw_iconst k_Bk_office f_Bk_office_24 qc_m1 ?_
    exact gw_iret k_Bk_office f_Bk_office_25 rfl h
  · have h := h.2 c3
    refine gw_aload_n k_Bk_office f_Bk_office_12 rfl ?_
    refine gw_getR k_Bk_office f_Bk_office_13 l_fldT_10_28 hc0 rfl ?_
    refine gw_iload_n k_Bk_office f_Bk_office_16 rfl ?_
    refine gw_iload_n k_Bk_office f_Bk_office_17 rfl ?_
    refine gw_virtual [.inl a1, .inl a2] k_Bk_office f_Bk_office_18 l_invT_10_111 k_Alm_officeOn hc16 rfl rfl rfl (by exact Nat.le_of_ble_eq_true rfl) (dc := 3) (by decide) ?_ rfl
    refine h.mono (fun v w5 hh => ?_)
    obtain ⟨r4, rfl, h⟩ := hh
    show Gw zs 7 m_Bk_office 21 [some (.inr (.inl (some 0))), some (.inl a0), some (.inl a1), some (.inl a2)] [.inl r4] w5 _
    refine gw_goto (t := 25) k_Bk_office f_Bk_office_21 rfl ?_
    exact gw_iret k_Bk_office f_Bk_office_25 rfl h
theorem sg_Bk_also_0 {zs : List Int32} {a0 a1 a2 a3 : Int32} {w : Wd} {Q : Option AV → Wd → Prop} (h : Ew zs 6 m_Alm_openAt [.inr (.inl (some 16)), .inl a0, .inl a1] w (fun v w2 => ∃ r1 : Int32, v = some (.inl r1) ∧ ((r1 = 0 → Q (some (.inl (-1))) w2) ∧ (¬ (r1 = 0) → Q (some (.inl (f_Alm_commemoration w2 a1 a2 a3))) w2)))) : Gw zs 7 m_Bk_also 0 [some (.inr (.inl (some 0))), some (.inl a0), some (.inl a1), some (.inl a2), some (.inl a3)] [] w Q := by
  refine gw_aload_n k_Bk_also f_Bk_also_0 rfl ?_
  refine gw_getR k_Bk_also f_Bk_also_1 l_fldT_10_28 hc0 rfl ?_
  refine gw_iload_n k_Bk_also f_Bk_also_4 rfl ?_
  refine gw_iload_n k_Bk_also f_Bk_also_5 rfl ?_
  refine gw_virtual [.inl a0, .inl a1] k_Bk_also f_Bk_also_6 l_invT_10_107 k_Alm_openAt hc16 rfl rfl rfl (by exact Nat.le_of_ble_eq_true rfl) (dc := 6) (by decide) ?_ rfl
  refine h.mono (fun v w2 hh => ?_)
  obtain ⟨r1, rfl, h⟩ := hh
  show Gw zs 7 m_Bk_also 9 [some (.inr (.inl (some 0))), some (.inl a0), some (.inl a1), some (.inl a2), some (.inl a3)] [.inl r1] w2 _
  refine gw_if_eq (t := 26) k_Bk_also f_Bk_also_9 rfl (fun c3 => ?_) (fun c3 => ?_)
  · have h := h.1 c3
    refine gw_iconst k_Bk_also f_Bk_also_26 qc_m1 ?_
    exact gw_iret k_Bk_also f_Bk_also_27 rfl h
  · have h := h.2 c3
    refine gw_aload_n k_Bk_also f_Bk_also_12 rfl ?_
    refine gw_getR k_Bk_also f_Bk_also_13 l_fldT_10_28 hc0 rfl ?_
    refine gw_iload_n k_Bk_also f_Bk_also_16 rfl ?_
    refine gw_iload_n k_Bk_also f_Bk_also_17 rfl ?_
    refine gw_iload k_Bk_also f_Bk_also_18 rfl ?_
    refine gw_virtual [.inl a1, .inl a2, .inl a3] k_Bk_also f_Bk_also_20 l_invT_10_115 k_Alm_commemoration hc16 rfl rfl rfl (by exact Nat.le_of_ble_eq_true rfl) (dc := 3) (by decide) ?_ rfl
    refine ev_Alm_commemoration ?_
    show Gw zs 7 m_Bk_also 23 [some (.inr (.inl (some 0))), some (.inl a0), some (.inl a1), some (.inl a2), some (.inl a3)] [.inl (f_Alm_commemoration w2 a1 a2 a3)] w2 _
    refine gw_goto (t := 27) k_Bk_also f_Bk_also_23 rfl ?_
    exact gw_iret k_Bk_also f_Bk_also_27 rfl h
theorem sg_Alm_open_0 {zs : List Int32} {a0 : Int32} {w : Wd} {Q : Option AV → Wd → Prop} (h : (((f_Day_isYear a0) = 0 → Q (some (.inl 0)) w) ∧ (¬ ((f_Day_isYear a0) = 0) → (((w 16 7) = a0 → Q (some (.inl 1)) w) ∧ (¬ ((w 16 7) = a0) → Ew zs 5 m_Alm_build [.inr (.inl (some 16)), .inl a0] w (fun v w3 => v = none ∧ Q (some (.inl 1)) w3)))))) : Gw zs 6 m_Alm_open 0 [some (.inr (.inl (some 16))), some (.inl a0)] [] w Q := by
  refine gw_iload_n k_Alm_open f_Alm_open_0 rfl ?_
  refine gw_static [.inl a0] k_Alm_open f_Alm_open_1 l_invT_0_39 (by decide) k_Day_isYear rfl (by exact Nat.le_of_ble_eq_true rfl) (dc := 1) (by decide) ?_ rfl
  refine ev_Day_isYear ?_
  show Gw zs 6 m_Alm_open 4 [some (.inr (.inl (some 16))), some (.inl a0)] [.inl (f_Day_isYear a0)] w _
  refine gw_if_ne (t := 9) k_Alm_open f_Alm_open_4 rfl (fun c1 => ?_) (fun c1 => ?_)
  · have h := h.2 c1
    refine gw_aload_n k_Alm_open f_Alm_open_9 rfl ?_
    refine gw_getI k_Alm_open f_Alm_open_10 l_fldT_0_27 hc16 rfl ?_
    refine gw_iload_n k_Alm_open f_Alm_open_13 rfl ?_
    refine gw_icmp_eq (t := 22) k_Alm_open f_Alm_open_14 rfl (fun c2 => ?_) (fun c2 => ?_)
    · have h := h.1 c2
      refine gw_iconst k_Alm_open f_Alm_open_22 qc_1 ?_
      exact gw_zret k_Alm_open f_Alm_open_23 rfl (Or.inr rfl) h
    · have h := h.2 c2
      refine gw_aload_n k_Alm_open f_Alm_open_17 rfl ?_
      refine gw_iload_n k_Alm_open f_Alm_open_18 rfl ?_
      refine gw_virtual [.inl a0] k_Alm_open f_Alm_open_19 l_invT_0_45 k_Alm_build hc16 rfl rfl rfl (by exact Nat.le_of_ble_eq_true rfl) (dc := 5) (by decide) ?_ rfl
      refine h.mono (fun v w3 hh => ?_)
      obtain ⟨rfl, h⟩ := hh
      show Gw zs 6 m_Alm_open 22 [some (.inr (.inl (some 16))), some (.inl a0)] [] w3 _
      refine gw_iconst k_Alm_open f_Alm_open_22 qc_1 ?_
      exact gw_zret k_Alm_open f_Alm_open_23 rfl (Or.inr rfl) h
  · have c1 := Decidable.not_not.mp c1
    have h := h.1 c1
    refine gw_iconst k_Alm_open f_Alm_open_7 qc_0 ?_
    exact gw_zret k_Alm_open f_Alm_open_8 rfl (Or.inl rfl) h
theorem sg_Bk_kept_0 {zs : List Int32} {a0 a1 : Int32} {w : Wd} {Q : Option AV → Wd → Prop} (h : (((f_Fea_isTold w a1) = 0 → Q (some (.inl (-1))) w) ∧ (¬ ((f_Fea_isTold w a1) = 0) → Ew zs 6 m_Alm_open [.inr (.inl (some 16)), .inl a0] w (fun v w3 => ∃ r2 : Int32, v = some (.inl r2) ∧ ((r2 = 0 → Q (some (.inl (-1))) w3) ∧ (¬ (r2 = 0) → Q (some (.inl (f_Alm_fateOf w3 a1))) w3)))))) : Gw zs 7 m_Bk_kept 0 [some (.inr (.inl (some 0))), some (.inl a0), some (.inl a1)] [] w Q := by
  refine gw_aload_n k_Bk_kept f_Bk_kept_0 rfl ?_
  refine gw_getR k_Bk_kept f_Bk_kept_1 l_fldT_10_19 hc0 rfl ?_
  refine gw_iload_n k_Bk_kept f_Bk_kept_4 rfl ?_
  refine gw_virtual [.inl a1] k_Bk_kept f_Bk_kept_5 l_invT_10_118 k_Fea_isTold hc8 rfl rfl rfl (by exact Nat.le_of_ble_eq_true rfl) (dc := 0) (by decide) ?_ rfl
  refine ev_Fea_isTold ?_
  show Gw zs 7 m_Bk_kept 8 [some (.inr (.inl (some 0))), some (.inl a0), some (.inl a1)] [.inl (f_Fea_isTold w a1)] w _
  refine gw_if_eq (t := 33) k_Bk_kept f_Bk_kept_8 rfl (fun c1 => ?_) (fun c1 => ?_)
  · have h := h.1 c1
    refine gw_iconst k_Bk_kept f_Bk_kept_33 qc_m1 ?_
    exact gw_iret k_Bk_kept f_Bk_kept_34 rfl h
  · have h := h.2 c1
    refine gw_aload_n k_Bk_kept f_Bk_kept_11 rfl ?_
    refine gw_getR k_Bk_kept f_Bk_kept_12 l_fldT_10_28 hc0 rfl ?_
    refine gw_iload_n k_Bk_kept f_Bk_kept_15 rfl ?_
    refine gw_virtual [.inl a0] k_Bk_kept f_Bk_kept_16 l_invT_10_121 k_Alm_open hc16 rfl rfl rfl (by exact Nat.le_of_ble_eq_true rfl) (dc := 6) (by decide) ?_ rfl
    refine h.mono (fun v w3 hh => ?_)
    obtain ⟨r2, rfl, h⟩ := hh
    show Gw zs 7 m_Bk_kept 19 [some (.inr (.inl (some 0))), some (.inl a0), some (.inl a1)] [.inl r2] w3 _
    refine gw_if_eq (t := 33) k_Bk_kept f_Bk_kept_19 rfl (fun c4 => ?_) (fun c4 => ?_)
    · have h := h.1 c4
      refine gw_iconst k_Bk_kept f_Bk_kept_33 qc_m1 ?_
      exact gw_iret k_Bk_kept f_Bk_kept_34 rfl h
    · have h := h.2 c4
      refine gw_aload_n k_Bk_kept f_Bk_kept_22 rfl ?_
      refine gw_getR k_Bk_kept f_Bk_kept_23 l_fldT_10_28 hc0 rfl ?_
      refine gw_iload_n k_Bk_kept f_Bk_kept_26 rfl ?_
      refine gw_virtual [.inl a1] k_Bk_kept f_Bk_kept_27 l_invT_10_124 k_Alm_fateOf hc16 rfl rfl rfl (by exact Nat.le_of_ble_eq_true rfl) (dc := 1) (by decide) ?_ rfl
      refine ev_Alm_fateOf ?_
      show Gw zs 7 m_Bk_kept 30 [some (.inr (.inl (some 0))), some (.inl a0), some (.inl a1)] [.inl (f_Alm_fateOf w3 a1)] w3 _
      refine gw_goto (t := 34) k_Bk_kept f_Bk_kept_30 rfl ?_
      exact gw_iret k_Bk_kept f_Bk_kept_34 rfl h
theorem sg_Alm_daysWith_0 {zs : List Int32} {a0 a1 : Int32} {w : Wd} {Q : Option AV → Wd → Prop} (h : Gw zs 4 m_Alm_daysWith 5 [some (.inr (.inl (some 16))), some (.inl a0), some (.inl a1), some (.inl 0), some (.inl 0)] [] w Q) : Gw zs 4 m_Alm_daysWith 0 [some (.inr (.inl (some 16))), some (.inl a0), some (.inl a1), none, none] [] w Q := by
  refine gw_iconst k_Alm_daysWith f_Alm_daysWith_0 qc_0 ?_
  refine gw_istore_n [some (.inr (.inl (some 16))), some (.inl a0), some (.inl a1), some (.inl 0), none] k_Alm_daysWith f_Alm_daysWith_1 (Nat.le_of_ble_eq_true rfl) rfl ?_
  refine gw_iconst k_Alm_daysWith f_Alm_daysWith_2 qc_0 ?_
  refine gw_istore [some (.inr (.inl (some 16))), some (.inl a0), some (.inl a1), some (.inl 0), some (.inl 0)] k_Alm_daysWith f_Alm_daysWith_3 (Nat.le_of_ble_eq_true rfl) rfl ?_
  exact h
theorem sg_Alm_daysWith_5 {zs : List Int32} {x1 x2 x3 x4 : Int32} {w : Wd} {Q : Option AV → Wd → Prop} (h : (((w 16 8) ≤ x4 → Q (some (.inl x3)) w) ∧ (¬ ((w 16 8) ≤ x4) → Ew zs 3 m_Alm_officeOn [.inr (.inl (some 16)), .inl x4, .inl x1] w (fun v w3 => ∃ r2 : Int32, v = some (.inl r2) ∧ ((r2 = x2 → Gw zs 4 m_Alm_daysWith 5 [some (.inr (.inl (some 16))), some (.inl x1), some (.inl x2), some (.inl (x3 + 1)), some (.inl (x4 + 1))] [] w3 Q) ∧ (¬ (r2 = x2) → Gw zs 4 m_Alm_daysWith 5 [some (.inr (.inl (some 16))), some (.inl x1), some (.inl x2), some (.inl x3), some (.inl (x4 + 1))] [] w3 Q)))))) : Gw zs 4 m_Alm_daysWith 5 [some (.inr (.inl (some 16))), some (.inl x1), some (.inl x2), some (.inl x3), some (.inl x4)] [] w Q := by
  refine gw_iload k_Alm_daysWith f_Alm_daysWith_5 rfl ?_
  refine gw_aload_n k_Alm_daysWith f_Alm_daysWith_7 rfl ?_
  refine gw_getI k_Alm_daysWith f_Alm_daysWith_8 l_fldT_0_91 hc16 rfl ?_
  refine gw_icmp_ge (t := 34) k_Alm_daysWith f_Alm_daysWith_11 rfl (fun c1 => ?_) (fun c1 => ?_)
  · have h := h.1 c1
    refine gw_iload_n k_Alm_daysWith f_Alm_daysWith_34 rfl ?_
    exact gw_iret k_Alm_daysWith f_Alm_daysWith_35 rfl h
  · have h := h.2 c1
    refine gw_aload_n k_Alm_daysWith f_Alm_daysWith_14 rfl ?_
    refine gw_iload k_Alm_daysWith f_Alm_daysWith_15 rfl ?_
    refine gw_iload_n k_Alm_daysWith f_Alm_daysWith_17 rfl ?_
    refine gw_virtual [.inl x4, .inl x1] k_Alm_daysWith f_Alm_daysWith_18 l_invT_0_94 k_Alm_officeOn hc16 rfl rfl rfl (by exact Nat.le_of_ble_eq_true rfl) (dc := 3) (by decide) ?_ rfl
    refine h.mono (fun v w3 hh => ?_)
    obtain ⟨r2, rfl, h⟩ := hh
    show Gw zs 4 m_Alm_daysWith 21 [some (.inr (.inl (some 16))), some (.inl x1), some (.inl x2), some (.inl x3), some (.inl x4)] [.inl r2] w3 _
    refine gw_iload_n k_Alm_daysWith f_Alm_daysWith_21 rfl ?_
    refine gw_icmp_ne (t := 28) k_Alm_daysWith f_Alm_daysWith_22 rfl (fun c4 => ?_) (fun c4 => ?_)
    · have h := h.2 c4
      refine gw_iinc [some (.inr (.inl (some 16))), some (.inl x1), some (.inl x2), some (.inl x3), some (.inl (x4 + 1))] k_Alm_daysWith f_Alm_daysWith_28 rfl qc_1 (Nat.le_of_ble_eq_true rfl) rfl ?_
      refine gw_goto (t := 5) k_Alm_daysWith f_Alm_daysWith_31 rfl ?_
      exact h
    · have c4 := Decidable.not_not.mp c4
      have h := h.1 c4
      refine gw_iinc [some (.inr (.inl (some 16))), some (.inl x1), some (.inl x2), some (.inl (x3 + 1)), some (.inl x4)] k_Alm_daysWith f_Alm_daysWith_25 rfl qc_1 (Nat.le_of_ble_eq_true rfl) rfl ?_
      refine gw_iinc [some (.inr (.inl (some 16))), some (.inl x1), some (.inl x2), some (.inl (x3 + 1)), some (.inl (x4 + 1))] k_Alm_daysWith f_Alm_daysWith_28 rfl qc_1 (Nat.le_of_ble_eq_true rfl) rfl ?_
      refine gw_goto (t := 5) k_Alm_daysWith f_Alm_daysWith_31 rfl ?_
      exact h
theorem sg_Alm_movedFeasts_0 {zs : List Int32} {w : Wd} {Q : Option AV → Wd → Prop} (h : Gw zs 1 m_Alm_movedFeasts 4 [some (.inr (.inl (some 16))), some (.inl 0), some (.inl 0), none] [] w Q) : Gw zs 1 m_Alm_movedFeasts 0 [some (.inr (.inl (some 16))), none, none, none] [] w Q := by
  refine gw_iconst k_Alm_movedFeasts f_Alm_movedFeasts_0 qc_0 ?_
  refine gw_istore_n [some (.inr (.inl (some 16))), some (.inl 0), none, none] k_Alm_movedFeasts f_Alm_movedFeasts_1 (Nat.le_of_ble_eq_true rfl) rfl ?_
  refine gw_iconst k_Alm_movedFeasts f_Alm_movedFeasts_2 qc_0 ?_
  refine gw_istore_n [some (.inr (.inl (some 16))), some (.inl 0), some (.inl 0), none] k_Alm_movedFeasts f_Alm_movedFeasts_3 (Nat.le_of_ble_eq_true rfl) rfl ?_
  exact h
theorem sg_Alm_movedFeasts_4 {zs : List Int32} {x1 x2 : Int32} {o3 : Option AV} {w : Wd} {Q : Option AV → Wd → Prop} (h : (((f_Fea_count w) ≤ x2 → Q (some (.inl x1)) w) ∧ (¬ ((f_Fea_count w) ≤ x2) → (((f_at w 21 60 x2) < 0 → Gw zs 1 m_Alm_movedFeasts 4 [some (.inr (.inl (some 16))), some (.inl x1), some (.inl (x2 + 1)), some (.inl (f_at w 21 60 x2))] [] w Q) ∧ (¬ ((f_at w 21 60 x2) < 0) → (((f_at w 21 60 x2) = (f_at w 20 60 x2) → Gw zs 1 m_Alm_movedFeasts 4 [some (.inr (.inl (some 16))), some (.inl x1), some (.inl (x2 + 1)), some (.inl (f_at w 21 60 x2))] [] w Q) ∧ (¬ ((f_at w 21 60 x2) = (f_at w 20 60 x2)) → Gw zs 1 m_Alm_movedFeasts 4 [some (.inr (.inl (some 16))), some (.inl (x1 + 1)), some (.inl (x2 + 1)), some (.inl (f_at w 21 60 x2))] [] w Q))))))) : Gw zs 1 m_Alm_movedFeasts 4 [some (.inr (.inl (some 16))), some (.inl x1), some (.inl x2), o3] [] w Q := by
  refine gw_iload_n k_Alm_movedFeasts f_Alm_movedFeasts_4 rfl ?_
  refine gw_aload_n k_Alm_movedFeasts f_Alm_movedFeasts_5 rfl ?_
  refine gw_getR k_Alm_movedFeasts f_Alm_movedFeasts_6 l_fldT_0_35 hc16 rfl ?_
  refine gw_virtual [] k_Alm_movedFeasts f_Alm_movedFeasts_9 l_invT_0_97 k_Fea_count hc8 rfl rfl rfl (by exact Nat.le_of_ble_eq_true rfl) (dc := 0) (by decide) ?_ rfl
  refine ev_Fea_count ?_
  show Gw zs 1 m_Alm_movedFeasts 12 [some (.inr (.inl (some 16))), some (.inl x1), some (.inl x2), o3] [.inl (f_Fea_count w), .inl x2] w _
  refine gw_icmp_ge (t := 49) k_Alm_movedFeasts f_Alm_movedFeasts_12 rfl (fun c1 => ?_) (fun c1 => ?_)
  · have h := h.1 c1
    refine gw_iload_n k_Alm_movedFeasts f_Alm_movedFeasts_49 rfl ?_
    exact gw_iret k_Alm_movedFeasts f_Alm_movedFeasts_50 rfl h
  · have h := h.2 c1
    refine gw_aload_n k_Alm_movedFeasts f_Alm_movedFeasts_15 rfl ?_
    refine gw_getR k_Alm_movedFeasts f_Alm_movedFeasts_16 l_fldT_0_24 hc16 rfl ?_
    refine gw_iload_n k_Alm_movedFeasts f_Alm_movedFeasts_19 rfl ?_
    refine gw_static [.inr (.inl (some 21)), .inl x2] k_Alm_movedFeasts f_Alm_movedFeasts_20 l_invT_0_60 (by decide) k_Bk_at rfl (by exact Nat.le_of_ble_eq_true rfl) (dc := 0) (by decide) ?_ rfl
    refine ev_at hc21 (by decide) ?_
    show Gw zs 1 m_Alm_movedFeasts 23 [some (.inr (.inl (some 16))), some (.inl x1), some (.inl x2), o3] [.inl (f_at w 21 60 x2)] w _
    refine gw_istore_n [some (.inr (.inl (some 16))), some (.inl x1), some (.inl x2), some (.inl (f_at w 21 60 x2))] k_Alm_movedFeasts f_Alm_movedFeasts_23 (Nat.le_of_ble_eq_true rfl) rfl ?_
    refine gw_iload_n k_Alm_movedFeasts f_Alm_movedFeasts_24 rfl ?_
    refine gw_if_lt (t := 43) k_Alm_movedFeasts f_Alm_movedFeasts_25 rfl (fun c2 => ?_) (fun c2 => ?_)
    · have h := h.1 c2
      refine gw_iinc [some (.inr (.inl (some 16))), some (.inl x1), some (.inl (x2 + 1)), some (.inl (f_at w 21 60 x2))] k_Alm_movedFeasts f_Alm_movedFeasts_43 rfl qc_1 (Nat.le_of_ble_eq_true rfl) rfl ?_
      refine gw_goto (t := 4) k_Alm_movedFeasts f_Alm_movedFeasts_46 rfl ?_
      exact h
    · have h := h.2 c2
      refine gw_iload_n k_Alm_movedFeasts f_Alm_movedFeasts_28 rfl ?_
      refine gw_aload_n k_Alm_movedFeasts f_Alm_movedFeasts_29 rfl ?_
      refine gw_getR k_Alm_movedFeasts f_Alm_movedFeasts_30 l_fldT_0_21 hc16 rfl ?_
      refine gw_iload_n k_Alm_movedFeasts f_Alm_movedFeasts_33 rfl ?_
      refine gw_static [.inr (.inl (some 20)), .inl x2] k_Alm_movedFeasts f_Alm_movedFeasts_34 l_invT_0_60 (by decide) k_Bk_at rfl (by exact Nat.le_of_ble_eq_true rfl) (dc := 0) (by decide) ?_ rfl
      refine ev_at hc20 (by decide) ?_
      show Gw zs 1 m_Alm_movedFeasts 37 [some (.inr (.inl (some 16))), some (.inl x1), some (.inl x2), some (.inl (f_at w 21 60 x2))] [.inl (f_at w 20 60 x2), .inl (f_at w 21 60 x2)] w _
      refine gw_icmp_eq (t := 43) k_Alm_movedFeasts f_Alm_movedFeasts_37 rfl (fun c3 => ?_) (fun c3 => ?_)
      · have h := h.1 c3
        refine gw_iinc [some (.inr (.inl (some 16))), some (.inl x1), some (.inl (x2 + 1)), some (.inl (f_at w 21 60 x2))] k_Alm_movedFeasts f_Alm_movedFeasts_43 rfl qc_1 (Nat.le_of_ble_eq_true rfl) rfl ?_
        refine gw_goto (t := 4) k_Alm_movedFeasts f_Alm_movedFeasts_46 rfl ?_
        exact h
      · have h := h.2 c3
        refine gw_iinc [some (.inr (.inl (some 16))), some (.inl (x1 + 1)), some (.inl x2), some (.inl (f_at w 21 60 x2))] k_Alm_movedFeasts f_Alm_movedFeasts_40 rfl qc_1 (Nat.le_of_ble_eq_true rfl) rfl ?_
        refine gw_iinc [some (.inr (.inl (some 16))), some (.inl (x1 + 1)), some (.inl (x2 + 1)), some (.inl (f_at w 21 60 x2))] k_Alm_movedFeasts f_Alm_movedFeasts_43 rfl qc_1 (Nat.le_of_ble_eq_true rfl) rfl ?_
        refine gw_goto (t := 4) k_Alm_movedFeasts f_Alm_movedFeasts_46 rfl ?_
        exact h
