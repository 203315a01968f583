/-! Ways from cut to cut -/
theorem sg_Md_roster_0 {zs : List Int32} {a0 a1 a2 : Int32} {w : Wd} {Q : Option AV → Wd → Prop} (h : (((f_Md_isDay a0 a1) = 0 → Q (some (.inl (-1))) w) ∧ (¬ ((f_Md_isDay a0 a1) = 0) → (((f_Md_in a2 1 60) = 0 → Q (some (.inl (-1))) w) ∧ (¬ ((f_Md_in a2 1 60) = 0) → (((a1 + a2) ≤ (f_Md_daysOf a0) → Ew zs 5 m_Md_reckon [.inr (.inl (some 155)), .inl a0] w (fun v w4 => v = none ∧ Gw zs 6 m_Md_roster 43 [some (.inr (.inl (some 155))), some (.inl a0), some (.inl a1), some (.inl a2), some (.inl 0), none, none, none, none, none, none] [] (wr w4 155 59 a2) Q)) ∧ (¬ ((a1 + a2) ≤ (f_Md_daysOf a0)) → Q (some (.inl (-1))) w))))))) : Gw zs 6 m_Md_roster 0 [some (.inr (.inl (some 155))), some (.inl a0), some (.inl a1), some (.inl a2), none, none, none, none, none, none, none] [] w Q := by
  refine gw_iload_n k_Md_roster f_Md_roster_0 rfl ?_
  refine gw_iload_n k_Md_roster f_Md_roster_1 rfl ?_
  refine gw_static [.inl a0, .inl a1] k_Md_roster f_Md_roster_2 l_invT_11_179 (by decide) k_Md_isDay rfl (by exact Nat.le_of_ble_eq_true rfl) (dc := 2) (by decide) ?_ rfl
  refine ev_Md_isDay ?_
  show Gw zs 6 m_Md_roster 5 [some (.inr (.inl (some 155))), some (.inl a0), some (.inl a1), some (.inl a2), none, none, none, none, none, none, none] [.inl (f_Md_isDay a0 a1)] w _
  refine gw_if_eq (t := 28) k_Md_roster f_Md_roster_5 rfl (fun c1 => ?_) (fun c1 => ?_)
  · have h := h.1 c1
    refine gw_iconst k_Md_roster f_Md_roster_28 qc_m1 ?_
    exact gw_iret k_Md_roster f_Md_roster_29 rfl h
  · have h := h.2 c1
    refine gw_iload_n k_Md_roster f_Md_roster_8 rfl ?_
    refine gw_iconst k_Md_roster f_Md_roster_9 qc_1 ?_
    refine gw_bipush k_Md_roster f_Md_roster_10 qb_60 ?_
    refine gw_static [.inl a2, .inl 1, .inl 60] k_Md_roster f_Md_roster_12 l_invT_11_1 (by decide) k_Md_in rfl (by exact Nat.le_of_ble_eq_true rfl) (dc := 0) (by decide) ?_ rfl
    refine ev_Md_in ?_
    show Gw zs 6 m_Md_roster 15 [some (.inr (.inl (some 155))), some (.inl a0), some (.inl a1), some (.inl a2), none, none, none, none, none, none, none] [.inl (f_Md_in a2 1 60)] w _
    refine gw_if_eq (t := 28) k_Md_roster f_Md_roster_15 rfl (fun c2 => ?_) (fun c2 => ?_)
    · have h := h.1 c2
      refine gw_iconst k_Md_roster f_Md_roster_28 qc_m1 ?_
      exact gw_iret k_Md_roster f_Md_roster_29 rfl h
    · have h := h.2 c2
      refine gw_iload_n k_Md_roster f_Md_roster_18 rfl ?_
      refine gw_iload_n k_Md_roster f_Md_roster_19 rfl ?_
      refine gw_iadd k_Md_roster f_Md_roster_20 ?_
      refine gw_iload_n k_Md_roster f_Md_roster_21 rfl ?_
      refine gw_static [.inl a0] k_Md_roster f_Md_roster_22 l_invT_11_15 (by decide) k_Md_daysOf rfl (by exact Nat.le_of_ble_eq_true rfl) (dc := 1) (by decide) ?_ rfl
      refine ev_Md_daysOf ?_
      show Gw zs 6 m_Md_roster 25 [some (.inr (.inl (some 155))), some (.inl a0), some (.inl a1), some (.inl a2), none, none, none, none, none, none, none] [.inl (f_Md_daysOf a0), .inl (a1 + a2)] w _
      refine gw_icmp_le (t := 30) k_Md_roster f_Md_roster_25 rfl (fun c3 => ?_) (fun c3 => ?_)
      · have h := h.1 c3
        refine gw_aload_n k_Md_roster f_Md_roster_30 rfl ?_
        refine gw_iload_n k_Md_roster f_Md_roster_31 rfl ?_
        refine gw_virtual [.inl a0] k_Md_roster f_Md_roster_32 l_invT_11_182 k_Md_reckon hc155 rfl rfl rfl (by exact Nat.le_of_ble_eq_true rfl) (dc := 5) (by decide) ?_ rfl
        refine h.mono (fun v w4 hh => ?_)
        obtain ⟨rfl, h⟩ := hh
        show Gw zs 6 m_Md_roster 35 [some (.inr (.inl (some 155))), some (.inl a0), some (.inl a1), some (.inl a2), none, none, none, none, none, none, none] [] w4 _
        refine gw_aload_n k_Md_roster f_Md_roster_35 rfl ?_
        refine gw_iload_n k_Md_roster f_Md_roster_36 rfl ?_
        refine gw_put k_Md_roster f_Md_roster_37 l_fldT_11_319 hc155 rfl rfl rfl rfl rfl ?_
        refine gw_iconst k_Md_roster f_Md_roster_40 qc_0 ?_
        refine gw_istore [some (.inr (.inl (some 155))), some (.inl a0), some (.inl a1), some (.inl a2), some (.inl 0), none, none, none, none, none, none] k_Md_roster f_Md_roster_41 (Nat.le_of_ble_eq_true rfl) rfl ?_
        exact h
      · have h := h.2 c3
        refine gw_iconst k_Md_roster f_Md_roster_28 qc_m1 ?_
        exact gw_iret k_Md_roster f_Md_roster_29 rfl h
theorem sg_Md_roster_43 {zs : List Int32} {x1 x2 x3 x4 : Int32} {o5 o6 o7 o8 o9 o10 : Option AV} {w : Wd} {Q : Option AV → Wd → Prop} (h : ((72 ≤ x4 → Gw zs 6 m_Md_roster 78 [some (.inr (.inl (some 155))), some (.inl x1), some (.inl x2), some (.inl x3), some (.inl 0), some (.inl 0), o6, o7, o8, o9, o10] [] w Q) ∧ (¬ (72 ≤ x4) → (vp_in x4 72 ∧ (vp_in x4 72 ∧ Gw zs 6 m_Md_roster 43 [some (.inr (.inl (some 155))), some (.inl x1), some (.inl x2), some (.inl x3), some (.inl (x4 + 1)), o5, o6, o7, o8, o9, o10] [] (wr (wr w 204 x4.toNatClampNeg 0) 205 x4.toNatClampNeg (-1)) Q))))) : Gw zs 6 m_Md_roster 43 [some (.inr (.inl (some 155))), some (.inl x1), some (.inl x2), some (.inl x3), some (.inl x4), o5, o6, o7, o8, o9, o10] [] w Q := by
  refine gw_iload k_Md_roster f_Md_roster_43 rfl ?_
  refine gw_bipush k_Md_roster f_Md_roster_45 qb_72 ?_
  refine gw_icmp_ge (t := 72) k_Md_roster f_Md_roster_47 rfl (fun c1 => ?_) (fun c1 => ?_)
  · have h := h.1 c1
    refine gw_iconst k_Md_roster f_Md_roster_72 qc_0 ?_
    refine gw_istore [some (.inr (.inl (some 155))), some (.inl x1), some (.inl x2), some (.inl x3), some (.inl 0), o5, o6, o7, o8, o9, o10] k_Md_roster f_Md_roster_73 (Nat.le_of_ble_eq_true rfl) rfl ?_
    refine gw_iconst k_Md_roster f_Md_roster_75 qc_0 ?_
    refine gw_istore [some (.inr (.inl (some 155))), some (.inl x1), some (.inl x2), some (.inl x3), some (.inl 0), some (.inl 0), o6, o7, o8, o9, o10] k_Md_roster f_Md_roster_76 (Nat.le_of_ble_eq_true rfl) rfl ?_
    exact h
  · have h := h.2 c1
    refine gw_aload_n k_Md_roster f_Md_roster_50 rfl ?_
    refine gw_getR k_Md_roster f_Md_roster_51 l_fldT_11_273 hc155 rfl ?_
    refine gw_iload k_Md_roster f_Md_roster_54 rfl ?_
    refine gw_iconst k_Md_roster f_Md_roster_56 qc_0 ?_
    have hp := h.1
    have h := h.2
    refine gw_iast k_Md_roster f_Md_roster_57 hc204 hp ?_
    refine gw_aload_n k_Md_roster f_Md_roster_58 rfl ?_
    refine gw_getR k_Md_roster f_Md_roster_59 l_fldT_11_276 hc155 rfl ?_
    refine gw_iload k_Md_roster f_Md_roster_62 rfl ?_
    refine gw_iconst k_Md_roster f_Md_roster_64 qc_m1 ?_
    have hp := h.1
    have h := h.2
    refine gw_iast k_Md_roster f_Md_roster_65 hc205 hp ?_
    refine gw_iinc [some (.inr (.inl (some 155))), some (.inl x1), some (.inl x2), some (.inl x3), some (.inl (x4 + 1)), o5, o6, o7, o8, o9, o10] k_Md_roster f_Md_roster_66 rfl qc_1 (Nat.le_of_ble_eq_true rfl) rfl ?_
    refine gw_goto (t := 43) k_Md_roster f_Md_roster_69 rfl ?_
    exact h
theorem sg_Md_roster_78 {zs : List Int32} {x1 x2 x3 x4 x5 : Int32} {o6 o7 o8 o9 o10 : Option AV} {w : Wd} {Q : Option AV → Wd → Prop} (h : ((x3 ≤ x5 → Q (some (.inl x4)) w) ∧ (¬ (x3 ≤ x5) → (vp_in (x2 + x5) 366 ∧ (vp_in (3 * x5) 180 ∧ (((w 173 ((x2 + x5).toNatClampNeg)) < 7 → (((w 173 ((x2 + x5).toNatClampNeg)) < 4 → (vp_in ((3 * x5) + 1) 180 ∧ (((w 173 ((x2 + x5).toNatClampNeg)) < 6 → (((w 173 ((x2 + x5).toNatClampNeg)) < 3 → (vp_in ((3 * x5) + 2) 180 ∧ Gw zs 6 m_Md_roster 178 [some (.inr (.inl (some 155))), some (.inl x1), some (.inl x2), some (.inl x3), some (.inl x4), some (.inl x5), some (.inl (w 173 ((x2 + x5).toNatClampNeg))), some (.inl 0), some (.inl 0), o9, o10] [] (wr (wr (wr w 202 ((3 * x5).toNatClampNeg) 1) 202 (((3 * x5) + 1).toNatClampNeg) 1) 202 (((3 * x5) + 2).toNatClampNeg) 1) Q)) ∧ (¬ ((w 173 ((x2 + x5).toNatClampNeg)) < 3) → (vp_in ((3 * x5) + 2) 180 ∧ Gw zs 6 m_Md_roster 178 [some (.inr (.inl (some 155))), some (.inl x1), some (.inl x2), some (.inl x3), some (.inl x4), some (.inl x5), some (.inl (w 173 ((x2 + x5).toNatClampNeg))), some (.inl 0), some (.inl 0), o9, o10] [] (wr (wr (wr w 202 ((3 * x5).toNatClampNeg) 1) 202 (((3 * x5) + 1).toNatClampNeg) 1) 202 (((3 * x5) + 2).toNatClampNeg) 3) Q)))) ∧ (¬ ((w 173 ((x2 + x5).toNatClampNeg)) < 6) → (vp_in ((3 * x5) + 2) 180 ∧ Gw zs 6 m_Md_roster 178 [some (.inr (.inl (some 155))), some (.inl x1), some (.inl x2), some (.inl x3), some (.inl x4), some (.inl x5), some (.inl (w 173 ((x2 + x5).toNatClampNeg))), some (.inl 0), some (.inl 0), o9, o10] [] (wr (wr (wr w 202 ((3 * x5).toNatClampNeg) 1) 202 (((3 * x5) + 1).toNatClampNeg) 1) 202 (((3 * x5) + 2).toNatClampNeg) 6) Q))))) ∧ (¬ ((w 173 ((x2 + x5).toNatClampNeg)) < 4) → (vp_in ((3 * x5) + 1) 180 ∧ (((w 173 ((x2 + x5).toNatClampNeg)) < 6 → (((w 173 ((x2 + x5).toNatClampNeg)) < 3 → (vp_in ((3 * x5) + 2) 180 ∧ Gw zs 6 m_Md_roster 178 [some (.inr (.inl (some 155))), some (.inl x1), some (.inl x2), some (.inl x3), some (.inl x4), some (.inl x5), some (.inl (w 173 ((x2 + x5).toNatClampNeg))), some (.inl 0), some (.inl 0), o9, o10] [] (wr (wr (wr w 202 ((3 * x5).toNatClampNeg) 1) 202 (((3 * x5) + 1).toNatClampNeg) 2) 202 (((3 * x5) + 2).toNatClampNeg) 1) Q)) ∧ (¬ ((w 173 ((x2 + x5).toNatClampNeg)) < 3) → (vp_in ((3 * x5) + 2) 180 ∧ Gw zs 6 m_Md_roster 178 [some (.inr (.inl (some 155))), some (.inl x1), some (.inl x2), some (.inl x3), some (.inl x4), some (.inl x5), some (.inl (w 173 ((x2 + x5).toNatClampNeg))), some (.inl 0), some (.inl 0), o9, o10] [] (wr (wr (wr w 202 ((3 * x5).toNatClampNeg) 1) 202 (((3 * x5) + 1).toNatClampNeg) 2) 202 (((3 * x5) + 2).toNatClampNeg) 3) Q)))) ∧ (¬ ((w 173 ((x2 + x5).toNatClampNeg)) < 6) → (vp_in ((3 * x5) + 2) 180 ∧ Gw zs 6 m_Md_roster 178 [some (.inr (.inl (some 155))), some (.inl x1), some (.inl x2), some (.inl x3), some (.inl x4), some (.inl x5), some (.inl (w 173 ((x2 + x5).toNatClampNeg))), some (.inl 0), some (.inl 0), o9, o10] [] (wr (wr (wr w 202 ((3 * x5).toNatClampNeg) 1) 202 (((3 * x5) + 1).toNatClampNeg) 2) 202 (((3 * x5) + 2).toNatClampNeg) 6) Q))))))) ∧ (¬ ((w 173 ((x2 + x5).toNatClampNeg)) < 7) → (vp_in ((3 * x5) + 1) 180 ∧ (((w 173 ((x2 + x5).toNatClampNeg)) < 6 → (((w 173 ((x2 + x5).toNatClampNeg)) < 3 → (vp_in ((3 * x5) + 2) 180 ∧ Gw zs 6 m_Md_roster 178 [some (.inr (.inl (some 155))), some (.inl x1), some (.inl x2), some (.inl x3), some (.inl x4), some (.inl x5), some (.inl (w 173 ((x2 + x5).toNatClampNeg))), some (.inl 0), some (.inl 0), o9, o10] [] (wr (wr (wr w 202 ((3 * x5).toNatClampNeg) 1) 202 (((3 * x5) + 1).toNatClampNeg) 4) 202 (((3 * x5) + 2).toNatClampNeg) 1) Q)) ∧ (¬ ((w 173 ((x2 + x5).toNatClampNeg)) < 3) → (vp_in ((3 * x5) + 2) 180 ∧ Gw zs 6 m_Md_roster 178 [some (.inr (.inl (some 155))), some (.inl x1), some (.inl x2), some (.inl x3), some (.inl x4), some (.inl x5), some (.inl (w 173 ((x2 + x5).toNatClampNeg))), some (.inl 0), some (.inl 0), o9, o10] [] (wr (wr (wr w 202 ((3 * x5).toNatClampNeg) 1) 202 (((3 * x5) + 1).toNatClampNeg) 4) 202 (((3 * x5) + 2).toNatClampNeg) 3) Q)))) ∧ (¬ ((w 173 ((x2 + x5).toNatClampNeg)) < 6) → (vp_in ((3 * x5) + 2) 180 ∧ Gw zs 6 m_Md_roster 178 [some (.inr (.inl (some 155))), some (.inl x1), some (.inl x2), some (.inl x3), some (.inl x4), some (.inl x5), some (.inl (w 173 ((x2 + x5).toNatClampNeg))), some (.inl 0), some (.inl 0), o9, o10] [] (wr (wr (wr w 202 ((3 * x5).toNatClampNeg) 1) 202 (((3 * x5) + 1).toNatClampNeg) 4) 202 (((3 * x5) + 2).toNatClampNeg) 6) Q))))))))))) : Gw zs 6 m_Md_roster 78 [some (.inr (.inl (some 155))), some (.inl x1), some (.inl x2), some (.inl x3), some (.inl x4), some (.inl x5), o6, o7, o8, o9, o10] [] w Q := by
  refine gw_iload k_Md_roster f_Md_roster_78 rfl ?_
  refine gw_iload_n k_Md_roster f_Md_roster_80 rfl ?_
  refine gw_icmp_ge (t := 333) k_Md_roster f_Md_roster_81 rfl (fun c1 => ?_) (fun c1 => ?_)
  · have h := h.1 c1
    refine gw_iload k_Md_roster f_Md_roster_333 rfl ?_
    exact gw_iret k_Md_roster f_Md_roster_335 rfl h
  · have h := h.2 c1
    refine gw_aload_n k_Md_roster f_Md_roster_84 rfl ?_
    refine gw_getR k_Md_roster f_Md_roster_85 l_fldT_11_164 hc155 rfl ?_
    refine gw_iload_n k_Md_roster f_Md_roster_88 rfl ?_
    refine gw_iload k_Md_roster f_Md_roster_89 rfl ?_
    refine gw_iadd k_Md_roster f_Md_roster_91 ?_
    have hp := h.1
    have h := h.2
    refine gw_iald k_Md_roster f_Md_roster_92 hc173 hp ?_
    refine gw_istore [some (.inr (.inl (some 155))), some (.inl x1), some (.inl x2), some (.inl x3), some (.inl x4), some (.inl x5), some (.inl (w 173 ((x2 + x5).toNatClampNeg))), o7, o8, o9, o10] k_Md_roster f_Md_roster_93 (Nat.le_of_ble_eq_true rfl) rfl ?_
    refine gw_aload_n k_Md_roster f_Md_roster_95 rfl ?_
    refine gw_getR k_Md_roster f_Md_roster_96 l_fldT_11_267 hc155 rfl ?_
    refine gw_iconst k_Md_roster f_Md_roster_99 qc_3 ?_
    refine gw_iload k_Md_roster f_Md_roster_100 rfl ?_
    refine gw_imul k_Md_roster f_Md_roster_102 ?_
    refine gw_iconst k_Md_roster f_Md_roster_103 qc_1 ?_
    have hp := h.1
    have h := h.2
    refine gw_iast k_Md_roster f_Md_roster_104 hc202 hp ?_
    refine gw_aload_n k_Md_roster f_Md_roster_105 rfl ?_
    refine gw_getR k_Md_roster f_Md_roster_106 l_fldT_11_267 hc155 rfl ?_
    refine gw_iconst k_Md_roster f_Md_roster_109 qc_3 ?_
    refine gw_iload k_Md_roster f_Md_roster_110 rfl ?_
    refine gw_imul k_Md_roster f_Md_roster_112 ?_
    refine gw_iconst k_Md_roster f_Md_roster_113 qc_1 ?_
    refine gw_iadd k_Md_roster f_Md_roster_114 ?_
    refine gw_iload k_Md_roster f_Md_roster_115 rfl ?_
    refine gw_bipush k_Md_roster f_Md_roster_117 qb_7 ?_
    refine gw_icmp_lt (t := 126) k_Md_roster f_Md_roster_119 rfl (fun c2 => ?_) (fun c2 => ?_)
    · have h := h.1 c2
      refine gw_iload k_Md_roster f_Md_roster_126 rfl ?_
      refine gw_iconst k_Md_roster f_Md_roster_128 qc_4 ?_
      refine gw_icmp_lt (t := 136) k_Md_roster f_Md_roster_129 rfl (fun c3 => ?_) (fun c3 => ?_)
      · have h := h.1 c3
        refine gw_iconst k_Md_roster f_Md_roster_136 qc_1 ?_
        have hp := h.1
        have h := h.2
        refine gw_iast k_Md_roster f_Md_roster_137 hc202 hp ?_
        refine gw_aload_n k_Md_roster f_Md_roster_138 rfl ?_
        refine gw_getR k_Md_roster f_Md_roster_139 l_fldT_11_267 hc155 rfl ?_
        refine gw_iconst k_Md_roster f_Md_roster_142 qc_3 ?_
        refine gw_iload k_Md_roster f_Md_roster_143 rfl ?_
        refine gw_imul k_Md_roster f_Md_roster_145 ?_
        refine gw_iconst k_Md_roster f_Md_roster_146 qc_2 ?_
        refine gw_iadd k_Md_roster f_Md_roster_147 ?_
        refine gw_iload k_Md_roster f_Md_roster_148 rfl ?_
        refine gw_bipush k_Md_roster f_Md_roster_150 qb_6 ?_
        refine gw_icmp_lt (t := 160) k_Md_roster f_Md_roster_152 rfl (fun c4 => ?_) (fun c4 => ?_)
        · have h := h.1 c4
          refine gw_iload k_Md_roster f_Md_roster_160 rfl ?_
          refine gw_iconst k_Md_roster f_Md_roster_162 qc_3 ?_
          refine gw_icmp_lt (t := 170) k_Md_roster f_Md_roster_163 rfl (fun c5 => ?_) (fun c5 => ?_)
          · have h := h.1 c5
            refine gw_iconst k_Md_roster f_Md_roster_170 qc_1 ?_
            have hp := h.1
            have h := h.2
            refine gw_iast k_Md_roster f_Md_roster_171 hc202 hp ?_
            refine gw_iconst k_Md_roster f_Md_roster_172 qc_0 ?_
            refine gw_istore [some (.inr (.inl (some 155))), some (.inl x1), some (.inl x2), some (.inl x3), some (.inl x4), some (.inl x5), some (.inl (w 173 ((x2 + x5).toNatClampNeg))), some (.inl 0), o8, o9, o10] k_Md_roster f_Md_roster_173 (Nat.le_of_ble_eq_true rfl) rfl ?_
            refine gw_iconst k_Md_roster f_Md_roster_175 qc_0 ?_
            refine gw_istore [some (.inr (.inl (some 155))), some (.inl x1), some (.inl x2), some (.inl x3), some (.inl x4), some (.inl x5), some (.inl (w 173 ((x2 + x5).toNatClampNeg))), some (.inl 0), some (.inl 0), o9, o10] k_Md_roster f_Md_roster_176 (Nat.le_of_ble_eq_true rfl) rfl ?_
            exact h
          · have h := h.2 c5
            refine gw_iconst k_Md_roster f_Md_roster_166 qc_3 ?_
            refine gw_goto (t := 171) k_Md_roster f_Md_roster_167 rfl ?_
            have hp := h.1
            have h := h.2
            refine gw_iast k_Md_roster f_Md_roster_171 hc202 hp ?_
            refine gw_iconst k_Md_roster f_Md_roster_172 qc_0 ?_
            refine gw_istore [some (.inr (.inl (some 155))), some (.inl x1), some (.inl x2), some (.inl x3), some (.inl x4), some (.inl x5), some (.inl (w 173 ((x2 + x5).toNatClampNeg))), some (.inl 0), o8, o9, o10] k_Md_roster f_Md_roster_173 (Nat.le_of_ble_eq_true rfl) rfl ?_
            refine gw_iconst k_Md_roster f_Md_roster_175 qc_0 ?_
            refine gw_istore [some (.inr (.inl (some 155))), some (.inl x1), some (.inl x2), some (.inl x3), some (.inl x4), some (.inl x5), some (.inl (w 173 ((x2 + x5).toNatClampNeg))), some (.inl 0), some (.inl 0), o9, o10] k_Md_roster f_Md_roster_176 (Nat.le_of_ble_eq_true rfl) rfl ?_
            exact h
        · have h := h.2 c4
          refine gw_bipush k_Md_roster f_Md_roster_155 qb_6 ?_
          refine gw_goto (t := 171) k_Md_roster f_Md_roster_157 rfl ?_
          have hp := h.1
          have h := h.2
          refine gw_iast k_Md_roster f_Md_roster_171 hc202 hp ?_
          refine gw_iconst k_Md_roster f_Md_roster_172 qc_0 ?_
          refine gw_istore [some (.inr (.inl (some 155))), some (.inl x1), some (.inl x2), some (.inl x3), some (.inl x4), some (.inl x5), some (.inl (w 173 ((x2 + x5).toNatClampNeg))), some (.inl 0), o8, o9, o10] k_Md_roster f_Md_roster_173 (Nat.le_of_ble_eq_true rfl) rfl ?_
          refine gw_iconst k_Md_roster f_Md_roster_175 qc_0 ?_
          refine gw_istore [some (.inr (.inl (some 155))), some (.inl x1), some (.inl x2), some (.inl x3), some (.inl x4), some (.inl x5), some (.inl (w 173 ((x2 + x5).toNatClampNeg))), some (.inl 0), some (.inl 0), o9, o10] k_Md_roster f_Md_roster_176 (Nat.le_of_ble_eq_true rfl) rfl ?_
          exact h
      · have h := h.2 c3
        refine gw_iconst k_Md_roster f_Md_roster_132 qc_2 ?_
        refine gw_goto (t := 137) k_Md_roster f_Md_roster_133 rfl ?_
        have hp := h.1
        have h := h.2
        refine gw_iast k_Md_roster f_Md_roster_137 hc202 hp ?_
        refine gw_aload_n k_Md_roster f_Md_roster_138 rfl ?_
        refine gw_getR k_Md_roster f_Md_roster_139 l_fldT_11_267 hc155 rfl ?_
        refine gw_iconst k_Md_roster f_Md_roster_142 qc_3 ?_
        refine gw_iload k_Md_roster f_Md_roster_143 rfl ?_
        refine gw_imul k_Md_roster f_Md_roster_145 ?_
        refine gw_iconst k_Md_roster f_Md_roster_146 qc_2 ?_
        refine gw_iadd k_Md_roster f_Md_roster_147 ?_
        refine gw_iload k_Md_roster f_Md_roster_148 rfl ?_
        refine gw_bipush k_Md_roster f_Md_roster_150 qb_6 ?_
        refine gw_icmp_lt (t := 160) k_Md_roster f_Md_roster_152 rfl (fun c6 => ?_) (fun c6 => ?_)
        · have h := h.1 c6
          refine gw_iload k_Md_roster f_Md_roster_160 rfl ?_
          refine gw_iconst k_Md_roster f_Md_roster_162 qc_3 ?_
          refine gw_icmp_lt (t := 170) k_Md_roster f_Md_roster_163 rfl (fun c7 => ?_) (fun c7 => ?_)
          · have h := h.1 c7
            refine gw_iconst k_Md_roster f_Md_roster_170 qc_1 ?_
            have hp := h.1
            have h := h.2
            refine gw_iast k_Md_roster f_Md_roster_171 hc202 hp ?_
            refine gw_iconst k_Md_roster f_Md_roster_172 qc_0 ?_
            refine gw_istore [some (.inr (.inl (some 155))), some (.inl x1), some (.inl x2), some (.inl x3), some (.inl x4), some (.inl x5), some (.inl (w 173 ((x2 + x5).toNatClampNeg))), some (.inl 0), o8, o9, o10] k_Md_roster f_Md_roster_173 (Nat.le_of_ble_eq_true rfl) rfl ?_
            refine gw_iconst k_Md_roster f_Md_roster_175 qc_0 ?_
            refine gw_istore [some (.inr (.inl (some 155))), some (.inl x1), some (.inl x2), some (.inl x3), some (.inl x4), some (.inl x5), some (.inl (w 173 ((x2 + x5).toNatClampNeg))), some (.inl 0), some (.inl 0), o9, o10] k_Md_roster f_Md_roster_176 (Nat.le_of_ble_eq_true rfl) rfl ?_
            exact h
          · have h := h.2 c7
            refine gw_iconst k_Md_roster f_Md_roster_166 qc_3 ?_
            refine gw_goto (t := 171) k_Md_roster f_Md_roster_167 rfl ?_
            have hp := h.1
            have h := h.2
            refine gw_iast k_Md_roster f_Md_roster_171 hc202 hp ?_
            refine gw_iconst k_Md_roster f_Md_roster_172 qc_0 ?_
            refine gw_istore [some (.inr (.inl (some 155))), some (.inl x1), some (.inl x2), some (.inl x3), some (.inl x4), some (.inl x5), some (.inl (w 173 ((x2 + x5).toNatClampNeg))), some (.inl 0), o8, o9, o10] k_Md_roster f_Md_roster_173 (Nat.le_of_ble_eq_true rfl) rfl ?_
            refine gw_iconst k_Md_roster f_Md_roster_175 qc_0 ?_
            refine gw_istore [some (.inr (.inl (some 155))), some (.inl x1), some (.inl x2), some (.inl x3), some (.inl x4), some (.inl x5), some (.inl (w 173 ((x2 + x5).toNatClampNeg))), some (.inl 0), some (.inl 0), o9, o10] k_Md_roster f_Md_roster_176 (Nat.le_of_ble_eq_true rfl) rfl ?_
            exact h
        · have h := h.2 c6
          refine gw_bipush k_Md_roster f_Md_roster_155 qb_6 ?_
          refine gw_goto (t := 171) k_Md_roster f_Md_roster_157 rfl ?_
          have hp := h.1
          have h := h.2
          refine gw_iast k_Md_roster f_Md_roster_171 hc202 hp ?_
          refine gw_iconst k_Md_roster f_Md_roster_172 qc_0 ?_
          refine gw_istore [some (.inr (.inl (some 155))), some (.inl x1), some (.inl x2), some (.inl x3), some (.inl x4), some (.inl x5), some (.inl (w 173 ((x2 + x5).toNatClampNeg))), some (.inl 0), o8, o9, o10] k_Md_roster f_Md_roster_173 (Nat.le_of_ble_eq_true rfl) rfl ?_
          refine gw_iconst k_Md_roster f_Md_roster_175 qc_0 ?_
          refine gw_istore [some (.inr (.inl (some 155))), some (.inl x1), some (.inl x2), some (.inl x3), some (.inl x4), some (.inl x5), some (.inl (w 173 ((x2 + x5).toNatClampNeg))), some (.inl 0), some (.inl 0), o9, o10] k_Md_roster f_Md_roster_176 (Nat.le_of_ble_eq_true rfl) rfl ?_
          exact h
    · have h := h.2 c2
      refine gw_iconst k_Md_roster f_Md_roster_122 qc_4 ?_
      refine gw_goto (t := 137) k_Md_roster f_Md_roster_123 rfl ?_
      have hp := h.1
      have h := h.2
      refine gw_iast k_Md_roster f_Md_roster_137 hc202 hp ?_
      refine gw_aload_n k_Md_roster f_Md_roster_138 rfl ?_
      refine gw_getR k_Md_roster f_Md_roster_139 l_fldT_11_267 hc155 rfl ?_
      refine gw_iconst k_Md_roster f_Md_roster_142 qc_3 ?_
      refine gw_iload k_Md_roster f_Md_roster_143 rfl ?_
      refine gw_imul k_Md_roster f_Md_roster_145 ?_
      refine gw_iconst k_Md_roster f_Md_roster_146 qc_2 ?_
      refine gw_iadd k_Md_roster f_Md_roster_147 ?_
      refine gw_iload k_Md_roster f_Md_roster_148 rfl ?_
      refine gw_bipush k_Md_roster f_Md_roster_150 qb_6 ?_
      refine gw_icmp_lt (t := 160) k_Md_roster f_Md_roster_152 rfl (fun c8 => ?_) (fun c8 => ?_)
      · have h := h.1 c8
        refine gw_iload k_Md_roster f_Md_roster_160 rfl ?_
        refine gw_iconst k_Md_roster f_Md_roster_162 qc_3 ?_
        refine gw_icmp_lt (t := 170) k_Md_roster f_Md_roster_163 rfl (fun c9 => ?_) (fun c9 => ?_)
        · have h := h.1 c9
          refine gw_iconst k_Md_roster f_Md_roster_170 qc_1 ?_
          have hp := h.1
          have h := h.2
          refine gw_iast k_Md_roster f_Md_roster_171 hc202 hp ?_
          refine gw_iconst k_Md_roster f_Md_roster_172 qc_0 ?_
          refine gw_istore [some (.inr (.inl (some 155))), some (.inl x1), some (.inl x2), some (.inl x3), some (.inl x4), some (.inl x5), some (.inl (w 173 ((x2 + x5).toNatClampNeg))), some (.inl 0), o8, o9, o10] k_Md_roster f_Md_roster_173 (Nat.le_of_ble_eq_true rfl) rfl ?_
          refine gw_iconst k_Md_roster f_Md_roster_175 qc_0 ?_
          refine gw_istore [some (.inr (.inl (some 155))), some (.inl x1), some (.inl x2), some (.inl x3), some (.inl x4), some (.inl x5), some (.inl (w 173 ((x2 + x5).toNatClampNeg))), some (.inl 0), some (.inl 0), o9, o10] k_Md_roster f_Md_roster_176 (Nat.le_of_ble_eq_true rfl) rfl ?_
          exact h
        · have h := h.2 c9
          refine gw_iconst k_Md_roster f_Md_roster_166 qc_3 ?_
          refine gw_goto (t := 171) k_Md_roster f_Md_roster_167 rfl ?_
          have hp := h.1
          have h := h.2
          refine gw_iast k_Md_roster f_Md_roster_171 hc202 hp ?_
          refine gw_iconst k_Md_roster f_Md_roster_172 qc_0 ?_
          refine gw_istore [some (.inr (.inl (some 155))), some (.inl x1), some (.inl x2), some (.inl x3), some (.inl x4), some (.inl x5), some (.inl (w 173 ((x2 + x5).toNatClampNeg))), some (.inl 0), o8, o9, o10] k_Md_roster f_Md_roster_173 (Nat.le_of_ble_eq_true rfl) rfl ?_
          refine gw_iconst k_Md_roster f_Md_roster_175 qc_0 ?_
          refine gw_istore [some (.inr (.inl (some 155))), some (.inl x1), some (.inl x2), some (.inl x3), some (.inl x4), some (.inl x5), some (.inl (w 173 ((x2 + x5).toNatClampNeg))), some (.inl 0), some (.inl 0), o9, o10] k_Md_roster f_Md_roster_176 (Nat.le_of_ble_eq_true rfl) rfl ?_
          exact h
      · have h := h.2 c8
        refine gw_bipush k_Md_roster f_Md_roster_155 qb_6 ?_
        refine gw_goto (t := 171) k_Md_roster f_Md_roster_157 rfl ?_
        have hp := h.1
        have h := h.2
        refine gw_iast k_Md_roster f_Md_roster_171 hc202 hp ?_
        refine gw_iconst k_Md_roster f_Md_roster_172 qc_0 ?_
        refine gw_istore [some (.inr (.inl (some 155))), some (.inl x1), some (.inl x2), some (.inl x3), some (.inl x4), some (.inl x5), some (.inl (w 173 ((x2 + x5).toNatClampNeg))), some (.inl 0), o8, o9, o10] k_Md_roster f_Md_roster_173 (Nat.le_of_ble_eq_true rfl) rfl ?_
        refine gw_iconst k_Md_roster f_Md_roster_175 qc_0 ?_
        refine gw_istore [some (.inr (.inl (some 155))), some (.inl x1), some (.inl x2), some (.inl x3), some (.inl x4), some (.inl x5), some (.inl (w 173 ((x2 + x5).toNatClampNeg))), some (.inl 0), some (.inl 0), o9, o10] k_Md_roster f_Md_roster_176 (Nat.le_of_ble_eq_true rfl) rfl ?_
        exact h
theorem sg_Md_roster_178 {zs : List Int32} {x1 x2 x3 x4 x5 x7 x8 : Int32} {o6 o9 o10 : Option AV} {w : Wd} {Q : Option AV → Wd → Prop} (h : ((3 ≤ x8 → Gw zs 6 m_Md_roster 78 [some (.inr (.inl (some 155))), some (.inl x1), some (.inl x2), some (.inl x3), some (.inl x4), some (.inl (x5 + 1)), o6, some (.inl x7), some (.inl x8), o9, o10] [] w Q) ∧ (¬ (3 ≤ x8) → Gw zs 6 m_Md_roster 187 [some (.inr (.inl (some 155))), some (.inl x1), some (.inl x2), some (.inl x3), some (.inl x4), some (.inl x5), o6, some (.inl x7), some (.inl x8), some (.inl 0), o10] [] w Q))) : Gw zs 6 m_Md_roster 178 [some (.inr (.inl (some 155))), some (.inl x1), some (.inl x2), some (.inl x3), some (.inl x4), some (.inl x5), o6, some (.inl x7), some (.inl x8), o9, o10] [] w Q := by
  refine gw_iload k_Md_roster f_Md_roster_178 rfl ?_
  refine gw_iconst k_Md_roster f_Md_roster_180 qc_3 ?_
  refine gw_icmp_ge (t := 327) k_Md_roster f_Md_roster_181 rfl (fun c1 => ?_) (fun c1 => ?_)
  · have h := h.1 c1
    refine gw_iinc [some (.inr (.inl (some 155))), some (.inl x1), some (.inl x2), some (.inl x3), some (.inl x4), some (.inl (x5 + 1)), o6, some (.inl x7), some (.inl x8), o9, o10] k_Md_roster f_Md_roster_327 rfl qc_1 (Nat.le_of_ble_eq_true rfl) rfl ?_
    refine gw_goto (t := 78) k_Md_roster f_Md_roster_330 rfl ?_
    exact h
  · have h := h.2 c1
    refine gw_iconst k_Md_roster f_Md_roster_184 qc_0 ?_
    refine gw_istore [some (.inr (.inl (some 155))), some (.inl x1), some (.inl x2), some (.inl x3), some (.inl x4), some (.inl x5), o6, some (.inl x7), some (.inl x8), some (.inl 0), o10] k_Md_roster f_Md_roster_185 (Nat.le_of_ble_eq_true rfl) rfl ?_
    exact h
theorem sg_Md_roster_187 {zs : List Int32} {x1 x2 x3 x4 x5 x7 x8 x9 : Int32} {o6 o10 : Option AV} {w : Wd} {Q : Option AV → Wd → Prop} (h : (vp_in ((3 * x5) + x8) 180 ∧ (((w 202 (((3 * x5) + x8).toNatClampNeg)) ≤ x9 → Gw zs 6 m_Md_roster 178 [some (.inr (.inl (some 155))), some (.inl x1), some (.inl x2), some (.inl x3), some (.inl x4), some (.inl x5), o6, some (.inl x7), some (.inl (x8 + 1)), some (.inl x9), o10] [] w Q) ∧ (¬ ((w 202 (((3 * x5) + x8).toNatClampNeg)) ≤ x9) → Ew zs 2 m_Md_chosen [.inr (.inl (some 155)), .inl x1, .inl (x2 + x5), .inl x8, .inl x7] w (fun v w3 => ∃ r2 : Int32, v = some (.inl r2) ∧ ((r2 = (-1) → (vp_in (((11 * x5) + (f_Md_placeOf x8)) + x9) 660 ∧ Gw zs 6 m_Md_roster 187 [some (.inr (.inl (some 155))), some (.inl x1), some (.inl x2), some (.inl x3), some (.inl (x4 + 1)), some (.inl x5), o6, some (.inl x7), some (.inl x8), some (.inl (x9 + 1)), some (.inl r2)] [] (wr w3 203 ((((11 * x5) + (f_Md_placeOf x8)) + x9).toNatClampNeg) (-2)) Q)) ∧ (¬ (r2 = (-1)) → (vp_in (((11 * x5) + (f_Md_placeOf x8)) + x9) 660 ∧ (vp_in ((3 * r2) + x8) 72 ∧ (vp_in ((3 * r2) + x8) 72 ∧ (vp_in ((3 * r2) + x8) 72 ∧ Gw zs 6 m_Md_roster 187 [some (.inr (.inl (some 155))), some (.inl x1), some (.inl x2), some (.inl x3), some (.inl (x4 + 0)), some (.inl x5), o6, some (.inl (x7 ||| (1 <<< (r2 &&& 31)))), some (.inl x8), some (.inl (x9 + 1)), some (.inl r2)] [] (wr (wr (wr w3 203 ((((11 * x5) + (f_Md_placeOf x8)) + x9).toNatClampNeg) r2) 204 (((3 * r2) + x8).toNatClampNeg) ((w3 204 (((3 * r2) + x8).toNatClampNeg)) + 1)) 205 (((3 * r2) + x8).toNatClampNeg) x5) Q))))))))))) : Gw zs 6 m_Md_roster 187 [some (.inr (.inl (some 155))), some (.inl x1), some (.inl x2), some (.inl x3), some (.inl x4), some (.inl x5), o6, some (.inl x7), some (.inl x8), some (.inl x9), o10] [] w Q := by
  refine gw_iload k_Md_roster f_Md_roster_187 rfl ?_
  refine gw_aload_n k_Md_roster f_Md_roster_189 rfl ?_
  refine gw_getR k_Md_roster f_Md_roster_190 l_fldT_11_267 hc155 rfl ?_
  refine gw_iconst k_Md_roster f_Md_roster_193 qc_3 ?_
  refine gw_iload k_Md_roster f_Md_roster_194 rfl ?_
  refine gw_imul k_Md_roster f_Md_roster_196 ?_
  refine gw_iload k_Md_roster f_Md_roster_197 rfl ?_
  refine gw_iadd k_Md_roster f_Md_roster_199 ?_
  have hp := h.1
  have h := h.2
  refine gw_iald k_Md_roster f_Md_roster_200 hc202 hp ?_
  refine gw_icmp_ge (t := 321) k_Md_roster f_Md_roster_201 rfl (fun c1 => ?_) (fun c1 => ?_)
  · have h := h.1 c1
    refine gw_iinc [some (.inr (.inl (some 155))), some (.inl x1), some (.inl x2), some (.inl x3), some (.inl x4), some (.inl x5), o6, some (.inl x7), some (.inl (x8 + 1)), some (.inl x9), o10] k_Md_roster f_Md_roster_321 rfl qc_1 (Nat.le_of_ble_eq_true rfl) rfl ?_
    refine gw_goto (t := 178) k_Md_roster f_Md_roster_324 rfl ?_
    exact h
  · have h := h.2 c1
    refine gw_aload_n k_Md_roster f_Md_roster_204 rfl ?_
    refine gw_iload_n k_Md_roster f_Md_roster_205 rfl ?_
    refine gw_iload_n k_Md_roster f_Md_roster_206 rfl ?_
    refine gw_iload k_Md_roster f_Md_roster_207 rfl ?_
    refine gw_iadd k_Md_roster f_Md_roster_209 ?_
    refine gw_iload k_Md_roster f_Md_roster_210 rfl ?_
    refine gw_iload k_Md_roster f_Md_roster_212 rfl ?_
    refine gw_virtual [.inl x1, .inl (x2 + x5), .inl x8, .inl x7] k_Md_roster f_Md_roster_214 l_invT_11_322 k_Md_chosen hc155 rfl rfl rfl (by exact Nat.le_of_ble_eq_true rfl) (dc := 2) (by decide) ?_ rfl
    refine h.mono (fun v w3 hh => ?_)
    obtain ⟨r2, rfl, h⟩ := hh
    show Gw zs 6 m_Md_roster 217 [some (.inr (.inl (some 155))), some (.inl x1), some (.inl x2), some (.inl x3), some (.inl x4), some (.inl x5), o6, some (.inl x7), some (.inl x8), some (.inl x9), o10] [.inl r2] w3 _
    refine gw_istore [some (.inr (.inl (some 155))), some (.inl x1), some (.inl x2), some (.inl x3), some (.inl x4), some (.inl x5), o6, some (.inl x7), some (.inl x8), some (.inl x9), some (.inl r2)] k_Md_roster f_Md_roster_217 (Nat.le_of_ble_eq_true rfl) rfl ?_
    refine gw_aload_n k_Md_roster f_Md_roster_219 rfl ?_
    refine gw_getR k_Md_roster f_Md_roster_220 l_fldT_11_270 hc155 rfl ?_
    refine gw_bipush k_Md_roster f_Md_roster_223 qb_11 ?_
    refine gw_iload k_Md_roster f_Md_roster_225 rfl ?_
    refine gw_imul k_Md_roster f_Md_roster_227 ?_
    refine gw_iload k_Md_roster f_Md_roster_228 rfl ?_
    refine gw_static [.inl x8] k_Md_roster f_Md_roster_230 l_invT_11_326 (by decide) k_Md_placeOf rfl (by exact Nat.le_of_ble_eq_true rfl) (dc := 0) (by decide) ?_ rfl
    refine ev_Md_placeOf ?_
    show Gw zs 6 m_Md_roster 233 [some (.inr (.inl (some 155))), some (.inl x1), some (.inl x2), some (.inl x3), some (.inl x4), some (.inl x5), o6, some (.inl x7), some (.inl x8), some (.inl x9), some (.inl r2)] [.inl (f_Md_placeOf x8), .inl (11 * x5), .inr (.inl (some 203))] w3 _
    refine gw_iadd k_Md_roster f_Md_roster_233 ?_
    refine gw_iload k_Md_roster f_Md_roster_234 rfl ?_
    refine gw_iadd k_Md_roster f_Md_roster_236 ?_
    refine gw_iload k_Md_roster f_Md_roster_237 rfl ?_
    refine gw_iconst k_Md_roster f_Md_roster_239 qc_m1 ?_
    refine gw_icmp_ne (t := 248) k_Md_roster f_Md_roster_240 rfl (fun c4 => ?_) (fun c4 => ?_)
    · have h := h.2 c4
      refine gw_iload k_Md_roster f_Md_roster_248 rfl ?_
      have hp := h.1
      have h := h.2
      refine gw_iast k_Md_roster f_Md_roster_250 hc203 hp ?_
      refine gw_iload k_Md_roster f_Md_roster_251 rfl ?_
      refine gw_iload k_Md_roster f_Md_roster_253 rfl ?_
      refine gw_iconst k_Md_roster f_Md_roster_255 qc_m1 ?_
      refine gw_icmp_ne (t := 263) k_Md_roster f_Md_roster_256 rfl (fun _ => ?_) (fun c => absurd (Decidable.not_not.mp c) c4)
      refine gw_iconst k_Md_roster f_Md_roster_263 qc_0 ?_
      refine gw_iadd k_Md_roster f_Md_roster_264 ?_
      refine gw_istore [some (.inr (.inl (some 155))), some (.inl x1), some (.inl x2), some (.inl x3), some (.inl (x4 + 0)), some (.inl x5), o6, some (.inl x7), some (.inl x8), some (.inl x9), some (.inl r2)] k_Md_roster f_Md_roster_265 (Nat.le_of_ble_eq_true rfl) rfl ?_
      refine gw_iload k_Md_roster f_Md_roster_267 rfl ?_
      refine gw_iconst k_Md_roster f_Md_roster_269 qc_m1 ?_
      refine gw_icmp_ne (t := 276) k_Md_roster f_Md_roster_270 rfl (fun _ => ?_) (fun c => absurd (Decidable.not_not.mp c) c4)
      refine gw_iload k_Md_roster f_Md_roster_276 rfl ?_
      refine gw_iconst k_Md_roster f_Md_roster_278 qc_1 ?_
      refine gw_iload k_Md_roster f_Md_roster_279 rfl ?_
      refine gw_ishl k_Md_roster f_Md_roster_281 ?_
      refine gw_ior k_Md_roster f_Md_roster_282 ?_
      refine gw_istore [some (.inr (.inl (some 155))), some (.inl x1), some (.inl x2), some (.inl x3), some (.inl (x4 + 0)), some (.inl x5), o6, some (.inl (x7 ||| (1 <<< (r2 &&& 31)))), some (.inl x8), some (.inl x9), some (.inl r2)] k_Md_roster f_Md_roster_283 (Nat.le_of_ble_eq_true rfl) rfl ?_
      refine gw_aload_n k_Md_roster f_Md_roster_285 rfl ?_
      refine gw_getR k_Md_roster f_Md_roster_286 l_fldT_11_273 hc155 rfl ?_
      refine gw_iconst k_Md_roster f_Md_roster_289 qc_3 ?_
      refine gw_iload k_Md_roster f_Md_roster_290 rfl ?_
      refine gw_imul k_Md_roster f_Md_roster_292 ?_
      refine gw_iload k_Md_roster f_Md_roster_293 rfl ?_
      refine gw_iadd k_Md_roster f_Md_roster_295 ?_
      refine gw_dup2 k_Md_roster f_Md_roster_296 ?_
      have hp := h.1
      have h := h.2
      refine gw_iald k_Md_roster f_Md_roster_297 hc204 hp ?_
      rw [show (wr w3 203 ((((11 * x5) + (f_Md_placeOf x8)) + x9).toNatClampNeg) r2) 204 (((3 * r2) + x8).toNatClampNeg) = w3 204 (((3 * r2) + x8).toNatClampNeg) from wr_nc (by decide)]
      refine gw_iconst k_Md_roster f_Md_roster_298 qc_1 ?_
      refine gw_iadd k_Md_roster f_Md_roster_299 ?_
      have hp := h.1
      have h := h.2
      refine gw_iast k_Md_roster f_Md_roster_300 hc204 hp ?_
      refine gw_aload_n k_Md_roster f_Md_roster_301 rfl ?_
      refine gw_getR k_Md_roster f_Md_roster_302 l_fldT_11_276 hc155 rfl ?_
      refine gw_iconst k_Md_roster f_Md_roster_305 qc_3 ?_
      refine gw_iload k_Md_roster f_Md_roster_306 rfl ?_
      refine gw_imul k_Md_roster f_Md_roster_308 ?_
      refine gw_iload k_Md_roster f_Md_roster_309 rfl ?_
      refine gw_iadd k_Md_roster f_Md_roster_311 ?_
      refine gw_iload k_Md_roster f_Md_roster_312 rfl ?_
      have hp := h.1
      have h := h.2
      refine gw_iast k_Md_roster f_Md_roster_314 hc205 hp ?_
      refine gw_iinc [some (.inr (.inl (some 155))), some (.inl x1), some (.inl x2), some (.inl x3), some (.inl (x4 + 0)), some (.inl x5), o6, some (.inl (x7 ||| (1 <<< (r2 &&& 31)))), some (.inl x8), some (.inl (x9 + 1)), some (.inl r2)] k_Md_roster f_Md_roster_315 rfl qc_1 (Nat.le_of_ble_eq_true rfl) rfl ?_
      refine gw_goto (t := 187) k_Md_roster f_Md_roster_318 rfl ?_
      exact h
    · have c4 := Decidable.not_not.mp c4
      have h := h.1 c4
      refine gw_bipush k_Md_roster f_Md_roster_243 qb_m2 ?_
      refine gw_goto (t := 250) k_Md_roster f_Md_roster_245 rfl ?_
      have hp := h.1
      have h := h.2
      refine gw_iast k_Md_roster f_Md_roster_250 hc203 hp ?_
      refine gw_iload k_Md_roster f_Md_roster_251 rfl ?_
      refine gw_iload k_Md_roster f_Md_roster_253 rfl ?_
      refine gw_iconst k_Md_roster f_Md_roster_255 qc_m1 ?_
      refine gw_icmp_ne (t := 263) k_Md_roster f_Md_roster_256 rfl (fun c => absurd c4 c) (fun _ => ?_)
      refine gw_iconst k_Md_roster f_Md_roster_259 qc_1 ?_
      refine gw_goto (t := 264) k_Md_roster f_Md_roster_260 rfl ?_
      refine gw_iadd k_Md_roster f_Md_roster_264 ?_
      refine gw_istore [some (.inr (.inl (some 155))), some (.inl x1), some (.inl x2), some (.inl x3), some (.inl (x4 + 1)), some (.inl x5), o6, some (.inl x7), some (.inl x8), some (.inl x9), some (.inl r2)] k_Md_roster f_Md_roster_265 (Nat.le_of_ble_eq_true rfl) rfl ?_
      refine gw_iload k_Md_roster f_Md_roster_267 rfl ?_
      refine gw_iconst k_Md_roster f_Md_roster_269 qc_m1 ?_
      refine gw_icmp_ne (t := 276) k_Md_roster f_Md_roster_270 rfl (fun c => absurd c4 c) (fun _ => ?_)
      refine gw_goto (t := 315) k_Md_roster f_Md_roster_273 rfl ?_
      refine gw_iinc [some (.inr (.inl (some 155))), some (.inl x1), some (.inl x2), some (.inl x3), some (.inl (x4 + 1)), some (.inl x5), o6, some (.inl x7), some (.inl x8), some (.inl (x9 + 1)), some (.inl r2)] k_Md_roster f_Md_roster_315 rfl qc_1 (Nat.le_of_ble_eq_true rfl) rfl ?_
      refine gw_goto (t := 187) k_Md_roster f_Md_roster_318 rfl ?_
      exact h
theorem sg_Md_turn_0 {zs : List Int32} {a0 a1 a2 : Int32} {w : Wd} {Q : Option AV → Wd → Prop} (h : (((f_Md_in a0 0 ((w 155 59) - 1)) = 0 → Q (some (.inl (-1))) w) ∧ (¬ ((f_Md_in a0 0 ((w 155 59) - 1)) = 0) → (((f_Md_in a1 0 2) = 0 → Q (some (.inl (-1))) w) ∧ (¬ ((f_Md_in a1 0 2) = 0) → (vp_in ((3 * a0) + a1) 180 ∧ (((f_Md_in a2 0 ((w 202 (((3 * a0) + a1).toNatClampNeg)) - 1)) = 0 → Q (some (.inl (-1))) w) ∧ (¬ ((f_Md_in a2 0 ((w 202 (((3 * a0) + a1).toNatClampNeg)) - 1)) = 0) → (vp_in (((11 * a0) + (f_Md_placeOf a1)) + a2) 660 ∧ Q (some (.inl (w 203 ((((11 * a0) + (f_Md_placeOf a1)) + a2).toNatClampNeg)))) w))))))))) : Gw zs 1 m_Md_turn 0 [some (.inr (.inl (some 155))), some (.inl a0), some (.inl a1), some (.inl a2)] [] w Q := by
  refine gw_iload_n k_Md_turn f_Md_turn_0 rfl ?_
  refine gw_iconst k_Md_turn f_Md_turn_1 qc_0 ?_
  refine gw_aload_n k_Md_turn f_Md_turn_2 rfl ?_
  refine gw_getI k_Md_turn f_Md_turn_3 l_fldT_11_319 hc155 rfl ?_
  refine gw_iconst k_Md_turn f_Md_turn_6 qc_1 ?_
  refine gw_isub k_Md_turn f_Md_turn_7 ?_
  refine gw_static [.inl a0, .inl 0, .inl ((w 155 59) - 1)] k_Md_turn f_Md_turn_8 l_invT_11_1 (by decide) k_Md_in rfl (by exact Nat.le_of_ble_eq_true rfl) (dc := 0) (by decide) ?_ rfl
  refine ev_Md_in ?_
  show Gw zs 1 m_Md_turn 11 [some (.inr (.inl (some 155))), some (.inl a0), some (.inl a1), some (.inl a2)] [.inl (f_Md_in a0 0 ((w 155 59) - 1))] w _
  refine gw_if_eq (t := 43) k_Md_turn f_Md_turn_11 rfl (fun c1 => ?_) (fun c1 => ?_)
  · have h := h.1 c1
    refine gw_iconst k_Md_turn f_Md_turn_43 qc_m1 ?_
    exact gw_iret k_Md_turn f_Md_turn_44 rfl h
  · have h := h.2 c1
    refine gw_iload_n k_Md_turn f_Md_turn_14 rfl ?_
    refine gw_iconst k_Md_turn f_Md_turn_15 qc_0 ?_
    refine gw_iconst k_Md_turn f_Md_turn_16 qc_2 ?_
    refine gw_static [.inl a1, .inl 0, .inl 2] k_Md_turn f_Md_turn_17 l_invT_11_1 (by decide) k_Md_in rfl (by exact Nat.le_of_ble_eq_true rfl) (dc := 0) (by decide) ?_ rfl
    refine ev_Md_in ?_
    show Gw zs 1 m_Md_turn 20 [some (.inr (.inl (some 155))), some (.inl a0), some (.inl a1), some (.inl a2)] [.inl (f_Md_in a1 0 2)] w _
    refine gw_if_eq (t := 43) k_Md_turn f_Md_turn_20 rfl (fun c2 => ?_) (fun c2 => ?_)
    · have h := h.1 c2
      refine gw_iconst k_Md_turn f_Md_turn_43 qc_m1 ?_
      exact gw_iret k_Md_turn f_Md_turn_44 rfl h
    · have h := h.2 c2
      refine gw_iload_n k_Md_turn f_Md_turn_23 rfl ?_
      refine gw_iconst k_Md_turn f_Md_turn_24 qc_0 ?_
      refine gw_aload_n k_Md_turn f_Md_turn_25 rfl ?_
      refine gw_getR k_Md_turn f_Md_turn_26 l_fldT_11_267 hc155 rfl ?_
      refine gw_iconst k_Md_turn f_Md_turn_29 qc_3 ?_
      refine gw_iload_n k_Md_turn f_Md_turn_30 rfl ?_
      refine gw_imul k_Md_turn f_Md_turn_31 ?_
      refine gw_iload_n k_Md_turn f_Md_turn_32 rfl ?_
      refine gw_iadd k_Md_turn f_Md_turn_33 ?_
      have hp := h.1
      have h := h.2
      refine gw_iald k_Md_turn f_Md_turn_34 hc202 hp ?_
      refine gw_iconst k_Md_turn f_Md_turn_35 qc_1 ?_
      refine gw_isub k_Md_turn f_Md_turn_36 ?_
      refine gw_static [.inl a2, .inl 0, .inl ((w 202 (((3 * a0) + a1).toNatClampNeg)) - 1)] k_Md_turn f_Md_turn_37 l_invT_11_1 (by decide) k_Md_in rfl (by exact Nat.le_of_ble_eq_true rfl) (dc := 0) (by decide) ?_ rfl
      refine ev_Md_in ?_
      show Gw zs 1 m_Md_turn 40 [some (.inr (.inl (some 155))), some (.inl a0), some (.inl a1), some (.inl a2)] [.inl (f_Md_in a2 0 ((w 202 (((3 * a0) + a1).toNatClampNeg)) - 1))] w _
      refine gw_if_ne (t := 45) k_Md_turn f_Md_turn_40 rfl (fun c3 => ?_) (fun c3 => ?_)
      · have h := h.2 c3
        refine gw_aload_n k_Md_turn f_Md_turn_45 rfl ?_
        refine gw_getR k_Md_turn f_Md_turn_46 l_fldT_11_270 hc155 rfl ?_
        refine gw_bipush k_Md_turn f_Md_turn_49 qb_11 ?_
        refine gw_iload_n k_Md_turn f_Md_turn_51 rfl ?_
        refine gw_imul k_Md_turn f_Md_turn_52 ?_
        refine gw_iload_n k_Md_turn f_Md_turn_53 rfl ?_
        refine gw_static [.inl a1] k_Md_turn f_Md_turn_54 l_invT_11_326 (by decide) k_Md_placeOf rfl (by exact Nat.le_of_ble_eq_true rfl) (dc := 0) (by decide) ?_ rfl
        refine ev_Md_placeOf ?_
        show Gw zs 1 m_Md_turn 57 [some (.inr (.inl (some 155))), some (.inl a0), some (.inl a1), some (.inl a2)] [.inl (f_Md_placeOf a1), .inl (11 * a0), .inr (.inl (some 203))] w _
        refine gw_iadd k_Md_turn f_Md_turn_57 ?_
        refine gw_iload_n k_Md_turn f_Md_turn_58 rfl ?_
        refine gw_iadd k_Md_turn f_Md_turn_59 ?_
        have hp := h.1
        have h := h.2
        refine gw_iald k_Md_turn f_Md_turn_60 hc203 hp ?_
        exact gw_iret k_Md_turn f_Md_turn_61 rfl h
      · have c3 := Decidable.not_not.mp c3
        have h := h.1 c3
        refine gw_iconst k_Md_turn f_Md_turn_43 qc_m1 ?_
        exact gw_iret k_Md_turn f_Md_turn_44 rfl h
theorem sg_Md_had_0 {zs : List Int32} {a0 a1 : Int32} {w : Wd} {Q : Option AV → Wd → Prop} (h : (((w 155 59) ≤ 0 → Q (some (.inl (-1))) w) ∧ (¬ ((w 155 59) ≤ 0) → (((f_Md_in a0 0 ((w 155 52) - 1)) = 0 → Q (some (.inl (-1))) w) ∧ (¬ ((f_Md_in a0 0 ((w 155 52) - 1)) = 0) → (((f_Md_in a1 0 2) = 0 → Q (some (.inl (-1))) w) ∧ (¬ ((f_Md_in a1 0 2) = 0) → (vp_in ((3 * a0) + a1) 72 ∧ Q (some (.inl (w 204 (((3 * a0) + a1).toNatClampNeg)))) w)))))))) : Gw zs 1 m_Md_had 0 [some (.inr (.inl (some 155))), some (.inl a0), some (.inl a1)] [] w Q := by
  refine gw_aload_n k_Md_had f_Md_had_0 rfl ?_
  refine gw_getI k_Md_had f_Md_had_1 l_fldT_11_319 hc155 rfl ?_
  refine gw_if_le (t := 43) k_Md_had f_Md_had_4 rfl (fun c1 => ?_) (fun c1 => ?_)
  · have h := h.1 c1
    refine gw_iconst k_Md_had f_Md_had_43 qc_m1 ?_
    exact gw_iret k_Md_had f_Md_had_44 rfl h
  · have h := h.2 c1
    refine gw_iload_n k_Md_had f_Md_had_7 rfl ?_
    refine gw_iconst k_Md_had f_Md_had_8 qc_0 ?_
    refine gw_aload_n k_Md_had f_Md_had_9 rfl ?_
    refine gw_getI k_Md_had f_Md_had_10 l_fldT_11_310 hc155 rfl ?_
    refine gw_iconst k_Md_had f_Md_had_13 qc_1 ?_
    refine gw_isub k_Md_had f_Md_had_14 ?_
    refine gw_static [.inl a0, .inl 0, .inl ((w 155 52) - 1)] k_Md_had f_Md_had_15 l_invT_11_1 (by decide) k_Md_in rfl (by exact Nat.le_of_ble_eq_true rfl) (dc := 0) (by decide) ?_ rfl
    refine ev_Md_in ?_
    show Gw zs 1 m_Md_had 18 [some (.inr (.inl (some 155))), some (.inl a0), some (.inl a1)] [.inl (f_Md_in a0 0 ((w 155 52) - 1))] w _
    refine gw_if_eq (t := 43) k_Md_had f_Md_had_18 rfl (fun c2 => ?_) (fun c2 => ?_)
    · have h := h.1 c2
      refine gw_iconst k_Md_had f_Md_had_43 qc_m1 ?_
      exact gw_iret k_Md_had f_Md_had_44 rfl h
    · have h := h.2 c2
      refine gw_iload_n k_Md_had f_Md_had_21 rfl ?_
      refine gw_iconst k_Md_had f_Md_had_22 qc_0 ?_
      refine gw_iconst k_Md_had f_Md_had_23 qc_2 ?_
      refine gw_static [.inl a1, .inl 0, .inl 2] k_Md_had f_Md_had_24 l_invT_11_1 (by decide) k_Md_in rfl (by exact Nat.le_of_ble_eq_true rfl) (dc := 0) (by decide) ?_ rfl
      refine ev_Md_in ?_
      show Gw zs 1 m_Md_had 27 [some (.inr (.inl (some 155))), some (.inl a0), some (.inl a1)] [.inl (f_Md_in a1 0 2)] w _
      refine gw_if_eq (t := 43) k_Md_had f_Md_had_27 rfl (fun c3 => ?_) (fun c3 => ?_)
      · have h := h.1 c3
        refine gw_iconst k_Md_had f_Md_had_43 qc_m1 ?_
        exact gw_iret k_Md_had f_Md_had_44 rfl h
      · have h := h.2 c3
        refine gw_aload_n k_Md_had f_Md_had_30 rfl ?_
        refine gw_getR k_Md_had f_Md_had_31 l_fldT_11_273 hc155 rfl ?_
        refine gw_iconst k_Md_had f_Md_had_34 qc_3 ?_
        refine gw_iload_n k_Md_had f_Md_had_35 rfl ?_
        refine gw_imul k_Md_had f_Md_had_36 ?_
        refine gw_iload_n k_Md_had f_Md_had_37 rfl ?_
        refine gw_iadd k_Md_had f_Md_had_38 ?_
        have hp := h.1
        have h := h.2
        refine gw_iald k_Md_had f_Md_had_39 hc204 hp ?_
        refine gw_goto (t := 44) k_Md_had f_Md_had_40 rfl ?_
        exact gw_iret k_Md_had f_Md_had_44 rfl h
