/-! Ways from cut to cut -/
theorem sg_Alm_feastsOfFate_0 {zs : List Int32} {a0 : Int32} {w : Wd} {Q : Option AV → Wd → Prop} (h : Gw zs 1 m_Alm_feastsOfFate 4 [some (.inr (.inl (some 16))), some (.inl a0), some (.inl 0), some (.inl 0)] [] w Q) : Gw zs 1 m_Alm_feastsOfFate 0 [some (.inr (.inl (some 16))), some (.inl a0), none, none] [] w Q := by
  refine gw_iconst k_Alm_feastsOfFate f_Alm_feastsOfFate_0 qc_0 ?_
  refine gw_istore_n [some (.inr (.inl (some 16))), some (.inl a0), some (.inl 0), none] k_Alm_feastsOfFate f_Alm_feastsOfFate_1 (Nat.le_of_ble_eq_true rfl) rfl ?_
  refine gw_iconst k_Alm_feastsOfFate f_Alm_feastsOfFate_2 qc_0 ?_
  refine gw_istore_n [some (.inr (.inl (some 16))), some (.inl a0), some (.inl 0), some (.inl 0)] k_Alm_feastsOfFate f_Alm_feastsOfFate_3 (Nat.le_of_ble_eq_true rfl) rfl ?_
  exact h
theorem sg_Alm_feastsOfFate_4 {zs : List Int32} {x1 x2 x3 : Int32} {w : Wd} {Q : Option AV → Wd → Prop} (h : (((f_Fea_count w) ≤ x3 → Q (some (.inl x2)) w) ∧ (¬ ((f_Fea_count w) ≤ x3) → (((f_at w 21 60 x3) = x1 → Gw zs 1 m_Alm_feastsOfFate 4 [some (.inr (.inl (some 16))), some (.inl x1), some (.inl (x2 + 1)), some (.inl (x3 + 1))] [] w Q) ∧ (¬ ((f_at w 21 60 x3) = x1) → Gw zs 1 m_Alm_feastsOfFate 4 [some (.inr (.inl (some 16))), some (.inl x1), some (.inl x2), some (.inl (x3 + 1))] [] w Q))))) : Gw zs 1 m_Alm_feastsOfFate 4 [some (.inr (.inl (some 16))), some (.inl x1), some (.inl x2), some (.inl x3)] [] w Q := by
  refine gw_iload_n k_Alm_feastsOfFate f_Alm_feastsOfFate_4 rfl ?_
  refine gw_aload_n k_Alm_feastsOfFate f_Alm_feastsOfFate_5 rfl ?_
  refine gw_getR k_Alm_feastsOfFate f_Alm_feastsOfFate_6 l_fldT_0_35 hc16 rfl ?_
  refine gw_virtual [] k_Alm_feastsOfFate f_Alm_feastsOfFate_9 l_invT_0_97 k_Fea_count hc8 rfl rfl rfl (by exact Nat.le_of_ble_eq_true rfl) (dc := 0) (by decide) ?_ rfl
  refine ev_Fea_count ?_
  show Gw zs 1 m_Alm_feastsOfFate 12 [some (.inr (.inl (some 16))), some (.inl x1), some (.inl x2), some (.inl x3)] [.inl (f_Fea_count w), .inl x3] w _
  refine gw_icmp_ge (t := 36) k_Alm_feastsOfFate f_Alm_feastsOfFate_12 rfl (fun c1 => ?_) (fun c1 => ?_)
  · have h := h.1 c1
    refine gw_iload_n k_Alm_feastsOfFate f_Alm_feastsOfFate_36 rfl ?_
    exact gw_iret k_Alm_feastsOfFate f_Alm_feastsOfFate_37 rfl h
  · have h := h.2 c1
    refine gw_aload_n k_Alm_feastsOfFate f_Alm_feastsOfFate_15 rfl ?_
    refine gw_getR k_Alm_feastsOfFate f_Alm_feastsOfFate_16 l_fldT_0_24 hc16 rfl ?_
    refine gw_iload_n k_Alm_feastsOfFate f_Alm_feastsOfFate_19 rfl ?_
    refine gw_static [.inr (.inl (some 21)), .inl x3] k_Alm_feastsOfFate f_Alm_feastsOfFate_20 l_invT_0_60 (by decide) k_Bk_at rfl (by exact Nat.le_of_ble_eq_true rfl) (dc := 0) (by decide) ?_ rfl
    refine ev_at hc21 (by decide) ?_
    show Gw zs 1 m_Alm_feastsOfFate 23 [some (.inr (.inl (some 16))), some (.inl x1), some (.inl x2), some (.inl x3)] [.inl (f_at w 21 60 x3)] w _
    refine gw_iload_n k_Alm_feastsOfFate f_Alm_feastsOfFate_23 rfl ?_
    refine gw_icmp_ne (t := 30) k_Alm_feastsOfFate f_Alm_feastsOfFate_24 rfl (fun c2 => ?_) (fun c2 => ?_)
    · have h := h.2 c2
      refine gw_iinc [some (.inr (.inl (some 16))), some (.inl x1), some (.inl x2), some (.inl (x3 + 1))] k_Alm_feastsOfFate f_Alm_feastsOfFate_30 rfl qc_1 (Nat.le_of_ble_eq_true rfl) rfl ?_
      refine gw_goto (t := 4) k_Alm_feastsOfFate f_Alm_feastsOfFate_33 rfl ?_
      exact h
    · have c2 := Decidable.not_not.mp c2
      have h := h.1 c2
      refine gw_iinc [some (.inr (.inl (some 16))), some (.inl x1), some (.inl (x2 + 1)), some (.inl x3)] k_Alm_feastsOfFate f_Alm_feastsOfFate_27 rfl qc_1 (Nat.le_of_ble_eq_true rfl) rfl ?_
      refine gw_iinc [some (.inr (.inl (some 16))), some (.inl x1), some (.inl (x2 + 1)), some (.inl (x3 + 1))] k_Alm_feastsOfFate f_Alm_feastsOfFate_30 rfl qc_1 (Nat.le_of_ble_eq_true rfl) rfl ?_
      refine gw_goto (t := 4) k_Alm_feastsOfFate f_Alm_feastsOfFate_33 rfl ?_
      exact h
theorem sg_Bk_tally_0 {zs : List Int32} {a0 a1 a2 : Int32} {w : Wd} {Q : Option AV → Wd → Prop} (h : Ew zs 6 m_Alm_open [.inr (.inl (some 16)), .inl a0] w (fun v w2 => ∃ r1 : Int32, v = some (.inl r1) ∧ ((r1 = 0 → Q (some (.inl (-1))) w2) ∧ (¬ (r1 = 0) → ((a1 = 0 → Ew zs 4 m_Alm_daysWith [.inr (.inl (some 16)), .inl 0, .inl a2] w2 (fun v w6 => ∃ r5 : Int32, v = some (.inl r5) ∧ Q (some (.inl r5)) w6)) ∧ (a1 = 1 → Ew zs 4 m_Alm_daysWith [.inr (.inl (some 16)), .inl 2, .inl a2] w2 (fun v w9 => ∃ r8 : Int32, v = some (.inl r8) ∧ Q (some (.inl r8)) w9)) ∧ (a1 = 2 → Ew zs 4 m_Alm_daysWith [.inr (.inl (some 16)), .inl 3, .inl a2] w2 (fun v w12 => ∃ r11 : Int32, v = some (.inl r11) ∧ Q (some (.inl r11)) w12)) ∧ (a1 = 3 → ((a2 = 0 → Ew zs 1 m_Alm_movedFeasts [.inr (.inl (some 16))] w2 (fun v w16 => ∃ r15 : Int32, v = some (.inl r15) ∧ Q (some (.inl r15)) w16)) ∧ (¬ (a2 = 0) → Q (some (.inl (-1))) w2))) ∧ (a1 = 4 → ((a2 = 0 → Ew zs 1 m_Alm_feastsOfFate [.inr (.inl (some 16)), .inl (-4)] w2 (fun v w20 => ∃ r19 : Int32, v = some (.inl r19) ∧ Q (some (.inl r19)) w20)) ∧ (¬ (a2 = 0) → Q (some (.inl (-1))) w2))) ∧ (a1 = 5 → ((a2 = 0 → Ew zs 1 m_Alm_feastsOfFate [.inr (.inl (some 16)), .inl (-2)] w2 (fun v w24 => ∃ r23 : Int32, v = some (.inl r23) ∧ Q (some (.inl r23)) w24)) ∧ (¬ (a2 = 0) → Q (some (.inl (-1))) w2))) ∧ (a1 = 6 → ((a2 = 0 → Ew zs 1 m_Alm_feastsOfFate [.inr (.inl (some 16)), .inl (-3)] w2 (fun v w28 => ∃ r27 : Int32, v = some (.inl r27) ∧ Q (some (.inl r27)) w28)) ∧ (¬ (a2 = 0) → Q (some (.inl (-1))) w2))) ∧ (¬ a1 = 0 → ¬ a1 = 1 → ¬ a1 = 2 → ¬ a1 = 3 → ¬ a1 = 4 → ¬ a1 = 5 → ¬ a1 = 6 → Q (some (.inl (-1))) w2)))))) : Gw zs 7 m_Bk_tally 0 [some (.inr (.inl (some 0))), some (.inl a0), some (.inl a1), some (.inl a2)] [] w Q := by
  refine gw_aload_n k_Bk_tally f_Bk_tally_0 rfl ?_
  refine gw_getR k_Bk_tally f_Bk_tally_1 l_fldT_10_28 hc0 rfl ?_
  refine gw_iload_n k_Bk_tally f_Bk_tally_4 rfl ?_
  refine gw_virtual [.inl a0] k_Bk_tally f_Bk_tally_5 l_invT_10_121 k_Alm_open hc16 rfl rfl rfl (by exact Nat.le_of_ble_eq_true rfl) (dc := 6) (by decide) ?_ rfl
  refine h.mono (fun v w2 hh => ?_)
  obtain ⟨r1, rfl, h⟩ := hh
  show Gw zs 7 m_Bk_tally 8 [some (.inr (.inl (some 0))), some (.inl a0), some (.inl a1), some (.inl a2)] [.inl r1] w2 _
  refine gw_if_ne (t := 13) k_Bk_tally f_Bk_tally_8 rfl (fun c3 => ?_) (fun c3 => ?_)
  · have h := h.2 c3
    refine gw_iload_n k_Bk_tally f_Bk_tally_13 rfl ?_
    refine gw_tsw k_Bk_tally f_Bk_tally_14 (by decide) (by decide) (fun q hq hx => ?_) (fun hx => ?_)
    · match q, hq, hx with
      | 0, hq, hx =>
        have c4 : a1 = 0 := hx.trans (by decide)
        have h := h.1 c4
        refine ⟨_, 56, rfl, rfl, ?_⟩
        refine gw_aload_n k_Bk_tally f_Bk_tally_56 rfl ?_
        refine gw_getR k_Bk_tally f_Bk_tally_57 l_fldT_10_28 hc0 rfl ?_
        refine gw_iconst k_Bk_tally f_Bk_tally_60 qc_0 ?_
        refine gw_iload_n k_Bk_tally f_Bk_tally_61 rfl ?_
        refine gw_virtual [.inl 0, .inl a2] k_Bk_tally f_Bk_tally_62 l_invT_10_127 k_Alm_daysWith hc16 rfl rfl rfl (by exact Nat.le_of_ble_eq_true rfl) (dc := 4) (by decide) ?_ rfl
        refine h.mono (fun v w6 hh => ?_)
        obtain ⟨r5, rfl, h⟩ := hh
        show Gw zs 7 m_Bk_tally 65 [some (.inr (.inl (some 0))), some (.inl a0), some (.inl a1), some (.inl a2)] [.inl r5] w6 _
        exact gw_iret k_Bk_tally f_Bk_tally_65 rfl h
      | 1, hq, hx =>
        have c7 : a1 = 1 := hx.trans (by decide)
        have h := h.2.1 c7
        refine ⟨_, 66, rfl, rfl, ?_⟩
        refine gw_aload_n k_Bk_tally f_Bk_tally_66 rfl ?_
        refine gw_getR k_Bk_tally f_Bk_tally_67 l_fldT_10_28 hc0 rfl ?_
        refine gw_iconst k_Bk_tally f_Bk_tally_70 qc_2 ?_
        refine gw_iload_n k_Bk_tally f_Bk_tally_71 rfl ?_
        refine gw_virtual [.inl 2, .inl a2] k_Bk_tally f_Bk_tally_72 l_invT_10_127 k_Alm_daysWith hc16 rfl rfl rfl (by exact Nat.le_of_ble_eq_true rfl) (dc := 4) (by decide) ?_ rfl
        refine h.mono (fun v w9 hh => ?_)
        obtain ⟨r8, rfl, h⟩ := hh
        show Gw zs 7 m_Bk_tally 75 [some (.inr (.inl (some 0))), some (.inl a0), some (.inl a1), some (.inl a2)] [.inl r8] w9 _
        exact gw_iret k_Bk_tally f_Bk_tally_75 rfl h
      | 2, hq, hx =>
        have c10 : a1 = 2 := hx.trans (by decide)
        have h := h.2.2.1 c10
        refine ⟨_, 76, rfl, rfl, ?_⟩
        refine gw_aload_n k_Bk_tally f_Bk_tally_76 rfl ?_
        refine gw_getR k_Bk_tally f_Bk_tally_77 l_fldT_10_28 hc0 rfl ?_
        refine gw_iconst k_Bk_tally f_Bk_tally_80 qc_3 ?_
        refine gw_iload_n k_Bk_tally f_Bk_tally_81 rfl ?_
        refine gw_virtual [.inl 3, .inl a2] k_Bk_tally f_Bk_tally_82 l_invT_10_127 k_Alm_daysWith hc16 rfl rfl rfl (by exact Nat.le_of_ble_eq_true rfl) (dc := 4) (by decide) ?_ rfl
        refine h.mono (fun v w12 hh => ?_)
        obtain ⟨r11, rfl, h⟩ := hh
        show Gw zs 7 m_Bk_tally 85 [some (.inr (.inl (some 0))), some (.inl a0), some (.inl a1), some (.inl a2)] [.inl r11] w12 _
        exact gw_iret k_Bk_tally f_Bk_tally_85 rfl h
      | 3, hq, hx =>
        have c13 : a1 = 3 := hx.trans (by decide)
        have h := h.2.2.2.1 c13
        refine ⟨_, 86, rfl, rfl, ?_⟩
        refine gw_iload_n k_Bk_tally f_Bk_tally_86 rfl ?_
        refine gw_if_ne (t := 100) k_Bk_tally f_Bk_tally_87 rfl (fun c14 => ?_) (fun c14 => ?_)
        · have h := h.2 c14
          refine gw_iconst k_Bk_tally f_Bk_tally_100 qc_m1 ?_
          exact gw_iret k_Bk_tally f_Bk_tally_101 rfl h
        · have c14 := Decidable.not_not.mp c14
          have h := h.1 c14
          refine gw_aload_n k_Bk_tally f_Bk_tally_90 rfl ?_
          refine gw_getR k_Bk_tally f_Bk_tally_91 l_fldT_10_28 hc0 rfl ?_
          refine gw_virtual [] k_Bk_tally f_Bk_tally_94 l_invT_10_130 k_Alm_movedFeasts hc16 rfl rfl rfl (by exact Nat.le_of_ble_eq_true rfl) (dc := 1) (by decide) ?_ rfl
          refine h.mono (fun v w16 hh => ?_)
          obtain ⟨r15, rfl, h⟩ := hh
          show Gw zs 7 m_Bk_tally 97 [some (.inr (.inl (some 0))), some (.inl a0), some (.inl a1), some (.inl a2)] [.inl r15] w16 _
          refine gw_goto (t := 101) k_Bk_tally f_Bk_tally_97 rfl ?_
          exact gw_iret k_Bk_tally f_Bk_tally_101 rfl h
      | 4, hq, hx =>
        have c17 : a1 = 4 := hx.trans (by decide)
        have h := h.2.2.2.2.1 c17
        refine ⟨_, 102, rfl, rfl, ?_⟩
        refine gw_iload_n k_Bk_tally f_Bk_tally_102 rfl ?_
        refine gw_if_ne (t := 118) k_Bk_tally f_Bk_tally_103 rfl (fun c18 => ?_) (fun c18 => ?_)
        · have h := h.2 c18
          refine gw_iconst k_Bk_tally f_Bk_tally_118 qc_m1 ?_
          exact gw_iret k_Bk_tally f_Bk_tally_119 rfl h
        · have c18 := Decidable.not_not.mp c18
          have h := h.1 c18
          refine gw_aload_n k_Bk_tally f_Bk_tally_106 rfl ?_
          refine gw_getR k_Bk_tally f_Bk_tally_107 l_fldT_10_28 hc0 rfl ?_
          refine gw_bipush k_Bk_tally f_Bk_tally_110 qb_m4 ?_
          refine gw_virtual [.inl (-4)] k_Bk_tally f_Bk_tally_112 l_invT_10_134 k_Alm_feastsOfFate hc16 rfl rfl rfl (by exact Nat.le_of_ble_eq_true rfl) (dc := 1) (by decide) ?_ rfl
          refine h.mono (fun v w20 hh => ?_)
          obtain ⟨r19, rfl, h⟩ := hh
          show Gw zs 7 m_Bk_tally 115 [some (.inr (.inl (some 0))), some (.inl a0), some (.inl a1), some (.inl a2)] [.inl r19] w20 _
          refine gw_goto (t := 119) k_Bk_tally f_Bk_tally_115 rfl ?_
          exact gw_iret k_Bk_tally f_Bk_tally_119 rfl h
      | 5, hq, hx =>
        have c21 : a1 = 5 := hx.trans (by decide)
        have h := h.2.2.2.2.2.1 c21
        refine ⟨_, 120, rfl, rfl, ?_⟩
        refine gw_iload_n k_Bk_tally f_Bk_tally_120 rfl ?_
        refine gw_if_ne (t := 136) k_Bk_tally f_Bk_tally_121 rfl (fun c22 => ?_) (fun c22 => ?_)
        · have h := h.2 c22
          refine gw_iconst k_Bk_tally f_Bk_tally_136 qc_m1 ?_
          exact gw_iret k_Bk_tally f_Bk_tally_137 rfl h
        · have c22 := Decidable.not_not.mp c22
          have h := h.1 c22
          refine gw_aload_n k_Bk_tally f_Bk_tally_124 rfl ?_
          refine gw_getR k_Bk_tally f_Bk_tally_125 l_fldT_10_28 hc0 rfl ?_
          refine gw_bipush k_Bk_tally f_Bk_tally_128 qb_m2 ?_
          refine gw_virtual [.inl (-2)] k_Bk_tally f_Bk_tally_130 l_invT_10_134 k_Alm_feastsOfFate hc16 rfl rfl rfl (by exact Nat.le_of_ble_eq_true rfl) (dc := 1) (by decide) ?_ rfl
          refine h.mono (fun v w24 hh => ?_)
          obtain ⟨r23, rfl, h⟩ := hh
          show Gw zs 7 m_Bk_tally 133 [some (.inr (.inl (some 0))), some (.inl a0), some (.inl a1), some (.inl a2)] [.inl r23] w24 _
          refine gw_goto (t := 137) k_Bk_tally f_Bk_tally_133 rfl ?_
          exact gw_iret k_Bk_tally f_Bk_tally_137 rfl h
      | 6, hq, hx =>
        have c25 : a1 = 6 := hx.trans (by decide)
        have h := h.2.2.2.2.2.2.1 c25
        refine ⟨_, 138, rfl, rfl, ?_⟩
        refine gw_iload_n k_Bk_tally f_Bk_tally_138 rfl ?_
        refine gw_if_ne (t := 154) k_Bk_tally f_Bk_tally_139 rfl (fun c26 => ?_) (fun c26 => ?_)
        · have h := h.2 c26
          refine gw_iconst k_Bk_tally f_Bk_tally_154 qc_m1 ?_
          exact gw_iret k_Bk_tally f_Bk_tally_155 rfl h
        · have c26 := Decidable.not_not.mp c26
          have h := h.1 c26
          refine gw_aload_n k_Bk_tally f_Bk_tally_142 rfl ?_
          refine gw_getR k_Bk_tally f_Bk_tally_143 l_fldT_10_28 hc0 rfl ?_
          refine gw_bipush k_Bk_tally f_Bk_tally_146 qb_m3 ?_
          refine gw_virtual [.inl (-3)] k_Bk_tally f_Bk_tally_148 l_invT_10_134 k_Alm_feastsOfFate hc16 rfl rfl rfl (by exact Nat.le_of_ble_eq_true rfl) (dc := 1) (by decide) ?_ rfl
          refine h.mono (fun v w28 hh => ?_)
          obtain ⟨r27, rfl, h⟩ := hh
          show Gw zs 7 m_Bk_tally 151 [some (.inr (.inl (some 0))), some (.inl a0), some (.inl a1), some (.inl a2)] [.inl r27] w28 _
          refine gw_goto (t := 155) k_Bk_tally f_Bk_tally_151 rfl ?_
          exact gw_iret k_Bk_tally f_Bk_tally_155 rfl h
      | q + 7, hq, hx => exact absurd hq (by show ¬ (q + 7 < 7); omega)
    ·
      have c29 : ¬ a1 = 0 := fun c => hx 0 (by decide) (c.trans (by decide))
      have c30 : ¬ a1 = 1 := fun c => hx 1 (by decide) (c.trans (by decide))
      have c31 : ¬ a1 = 2 := fun c => hx 2 (by decide) (c.trans (by decide))
      have c32 : ¬ a1 = 3 := fun c => hx 3 (by decide) (c.trans (by decide))
      have c33 : ¬ a1 = 4 := fun c => hx 4 (by decide) (c.trans (by decide))
      have c34 : ¬ a1 = 5 := fun c => hx 5 (by decide) (c.trans (by decide))
      have c35 : ¬ a1 = 6 := fun c => hx 6 (by decide) (c.trans (by decide))
      have h := h.2.2.2.2.2.2.2 c29 c30 c31 c32 c33 c34 c35
      refine ⟨156, rfl, ?_⟩
      refine gw_iconst k_Bk_tally f_Bk_tally_156 qc_m1 ?_
      exact gw_iret k_Bk_tally f_Bk_tally_157 rfl h
  · have c3 := Decidable.not_not.mp c3
    have h := h.1 c3
    refine gw_iconst k_Bk_tally f_Bk_tally_11 qc_m1 ?_
    exact gw_iret k_Bk_tally f_Bk_tally_12 rfl h
theorem sg_Psa_isUsedFrom_0 {zs : List Int32} {a0 : Int32} {w : Wd} {Q : Option AV → Wd → Prop} (h : Gw zs 1 m_Psa_isUsedFrom 2 [some (.inr (.inl (some 22))), some (.inl a0), some (.inl 1)] [] w Q) : Gw zs 1 m_Psa_isUsedFrom 0 [some (.inr (.inl (some 22))), some (.inl a0), none] [] w Q := by
  refine gw_iconst k_Psa_isUsedFrom f_Psa_isUsedFrom_0 qc_1 ?_
  refine gw_istore_n [some (.inr (.inl (some 22))), some (.inl a0), some (.inl 1)] k_Psa_isUsedFrom f_Psa_isUsedFrom_1 (Nat.le_of_ble_eq_true rfl) rfl ?_
  exact h
theorem sg_Psa_isUsedFrom_2 {zs : List Int32} {x1 x2 : Int32} {w : Wd} {Q : Option AV → Wd → Prop} (h : ((150 < x2 → Gw zs 1 m_Psa_isUsedFrom 31 [some (.inr (.inl (some 22))), some (.inl x1), some (.inl x1)] [] w Q) ∧ (¬ (150 < x2) → (((f_at w 24 151 x2) < x1 → Gw zs 1 m_Psa_isUsedFrom 2 [some (.inr (.inl (some 22))), some (.inl x1), some (.inl (x2 + 1))] [] w Q) ∧ (¬ ((f_at w 24 151 x2) < x1) → Q (some (.inl 1)) w))))) : Gw zs 1 m_Psa_isUsedFrom 2 [some (.inr (.inl (some 22))), some (.inl x1), some (.inl x2)] [] w Q := by
  refine gw_iload_n k_Psa_isUsedFrom f_Psa_isUsedFrom_2 rfl ?_
  refine gw_sipush k_Psa_isUsedFrom f_Psa_isUsedFrom_3 qs_150 ?_
  refine gw_icmp_gt (t := 29) k_Psa_isUsedFrom f_Psa_isUsedFrom_6 rfl (fun c1 => ?_) (fun c1 => ?_)
  · have h := h.1 c1
    refine gw_iload_n k_Psa_isUsedFrom f_Psa_isUsedFrom_29 rfl ?_
    refine gw_istore_n [some (.inr (.inl (some 22))), some (.inl x1), some (.inl x1)] k_Psa_isUsedFrom f_Psa_isUsedFrom_30 (Nat.le_of_ble_eq_true rfl) rfl ?_
    exact h
  · have h := h.2 c1
    refine gw_aload_n k_Psa_isUsedFrom f_Psa_isUsedFrom_9 rfl ?_
    refine gw_getR k_Psa_isUsedFrom f_Psa_isUsedFrom_10 l_fldT_5_15 hc22 rfl ?_
    refine gw_iload_n k_Psa_isUsedFrom f_Psa_isUsedFrom_13 rfl ?_
    refine gw_static [.inr (.inl (some 24)), .inl x2] k_Psa_isUsedFrom f_Psa_isUsedFrom_14 l_invT_5_48 (by decide) k_Bk_at rfl (by exact Nat.le_of_ble_eq_true rfl) (dc := 0) (by decide) ?_ rfl
    refine ev_at hc24 (by decide) ?_
    show Gw zs 1 m_Psa_isUsedFrom 17 [some (.inr (.inl (some 22))), some (.inl x1), some (.inl x2)] [.inl (f_at w 24 151 x2)] w _
    refine gw_iload_n k_Psa_isUsedFrom f_Psa_isUsedFrom_17 rfl ?_
    refine gw_icmp_lt (t := 23) k_Psa_isUsedFrom f_Psa_isUsedFrom_18 rfl (fun c2 => ?_) (fun c2 => ?_)
    · have h := h.1 c2
      refine gw_iinc [some (.inr (.inl (some 22))), some (.inl x1), some (.inl (x2 + 1))] k_Psa_isUsedFrom f_Psa_isUsedFrom_23 rfl qc_1 (Nat.le_of_ble_eq_true rfl) rfl ?_
      refine gw_goto (t := 2) k_Psa_isUsedFrom f_Psa_isUsedFrom_26 rfl ?_
      exact h
    · have h := h.2 c2
      refine gw_iconst k_Psa_isUsedFrom f_Psa_isUsedFrom_21 qc_1 ?_
      exact gw_zret k_Psa_isUsedFrom f_Psa_isUsedFrom_22 rfl (Or.inr rfl) h
theorem sg_Psa_isUsedFrom_31 {zs : List Int32} {x2 : Int32} {o1 : Option AV} {w : Wd} {Q : Option AV → Wd → Prop} (h : ((8 ≤ x2 → Q (some (.inl 0)) w) ∧ (¬ (8 ≤ x2) → (((f_at w 26 8 x2) ≤ 0 → Gw zs 1 m_Psa_isUsedFrom 31 [some (.inr (.inl (some 22))), o1, some (.inl (x2 + 1))] [] w Q) ∧ (¬ ((f_at w 26 8 x2) ≤ 0) → Q (some (.inl 1)) w))))) : Gw zs 1 m_Psa_isUsedFrom 31 [some (.inr (.inl (some 22))), o1, some (.inl x2)] [] w Q := by
  refine gw_iload_n k_Psa_isUsedFrom f_Psa_isUsedFrom_31 rfl ?_
  refine gw_bipush k_Psa_isUsedFrom f_Psa_isUsedFrom_32 qb_8 ?_
  refine gw_icmp_ge (t := 56) k_Psa_isUsedFrom f_Psa_isUsedFrom_34 rfl (fun c1 => ?_) (fun c1 => ?_)
  · have h := h.1 c1
    refine gw_iconst k_Psa_isUsedFrom f_Psa_isUsedFrom_56 qc_0 ?_
    exact gw_zret k_Psa_isUsedFrom f_Psa_isUsedFrom_57 rfl (Or.inl rfl) h
  · have h := h.2 c1
    refine gw_aload_n k_Psa_isUsedFrom f_Psa_isUsedFrom_37 rfl ?_
    refine gw_getR k_Psa_isUsedFrom f_Psa_isUsedFrom_38 l_fldT_5_21 hc22 rfl ?_
    refine gw_iload_n k_Psa_isUsedFrom f_Psa_isUsedFrom_41 rfl ?_
    refine gw_static [.inr (.inl (some 26)), .inl x2] k_Psa_isUsedFrom f_Psa_isUsedFrom_42 l_invT_5_48 (by decide) k_Bk_at rfl (by exact Nat.le_of_ble_eq_true rfl) (dc := 0) (by decide) ?_ rfl
    refine ev_at hc26 (by decide) ?_
    show Gw zs 1 m_Psa_isUsedFrom 45 [some (.inr (.inl (some 22))), o1, some (.inl x2)] [.inl (f_at w 26 8 x2)] w _
    refine gw_if_le (t := 50) k_Psa_isUsedFrom f_Psa_isUsedFrom_45 rfl (fun c2 => ?_) (fun c2 => ?_)
    · have h := h.1 c2
      refine gw_iinc [some (.inr (.inl (some 22))), o1, some (.inl (x2 + 1))] k_Psa_isUsedFrom f_Psa_isUsedFrom_50 rfl qc_1 (Nat.le_of_ble_eq_true rfl) rfl ?_
      refine gw_goto (t := 31) k_Psa_isUsedFrom f_Psa_isUsedFrom_53 rfl ?_
      exact h
    · have h := h.2 c2
      refine gw_iconst k_Psa_isUsedFrom f_Psa_isUsedFrom_48 qc_1 ?_
      exact gw_zret k_Psa_isUsedFrom f_Psa_isUsedFrom_49 rfl (Or.inr rfl) h
theorem sg_Psa_setHours_0 {zs : List Int32} {a0 : Int32} {w : Wd} {Q : Option AV → Wd → Prop} (h : (((f_Bk_within a0 1 8) = 0 → Q (some (.inl (-1))) w) ∧ (¬ ((f_Bk_within a0 1 8) = 0) → Ew zs 1 m_Psa_isUsedFrom [.inr (.inl (some 22)), .inl a0] w (fun v w3 => ∃ r2 : Int32, v = some (.inl r2) ∧ ((r2 = 0 → Q (some (.inl (w3 22 8))) (wr (wr w3 22 8 a0) 22 11 0)) ∧ (¬ (r2 = 0) → Q (some (.inl (-1))) w3)))))) : Gw zs 2 m_Psa_setHours 0 [some (.inr (.inl (some 22))), some (.inl a0), none] [] w Q := by
  refine gw_iload_n k_Psa_setHours f_Psa_setHours_0 rfl ?_
  refine gw_iconst k_Psa_setHours f_Psa_setHours_1 qc_1 ?_
  refine gw_bipush k_Psa_setHours f_Psa_setHours_2 qb_8 ?_
  refine gw_static [.inl a0, .inl 1, .inl 8] k_Psa_setHours f_Psa_setHours_4 l_invT_5_40 (by decide) k_Bk_within rfl (by exact Nat.le_of_ble_eq_true rfl) (dc := 0) (by decide) ?_ rfl
  refine ev_Bk_within ?_
  show Gw zs 2 m_Psa_setHours 7 [some (.inr (.inl (some 22))), some (.inl a0), none] [.inl (f_Bk_within a0 1 8)] w _
  refine gw_if_eq (t := 18) k_Psa_setHours f_Psa_setHours_7 rfl (fun c1 => ?_) (fun c1 => ?_)
  · have h := h.1 c1
    refine gw_iconst k_Psa_setHours f_Psa_setHours_18 qc_m1 ?_
    exact gw_iret k_Psa_setHours f_Psa_setHours_19 rfl h
  · have h := h.2 c1
    refine gw_aload_n k_Psa_setHours f_Psa_setHours_10 rfl ?_
    refine gw_iload_n k_Psa_setHours f_Psa_setHours_11 rfl ?_
    refine gw_virtual [.inl a0] k_Psa_setHours f_Psa_setHours_12 l_invT_5_60 k_Psa_isUsedFrom hc22 rfl rfl rfl (by exact Nat.le_of_ble_eq_true rfl) (dc := 1) (by decide) ?_ rfl
    refine h.mono (fun v w3 hh => ?_)
    obtain ⟨r2, rfl, h⟩ := hh
    show Gw zs 2 m_Psa_setHours 15 [some (.inr (.inl (some 22))), some (.inl a0), none] [.inl r2] w3 _
    refine gw_if_eq (t := 20) k_Psa_setHours f_Psa_setHours_15 rfl (fun c4 => ?_) (fun c4 => ?_)
    · have h := h.1 c4
      refine gw_aload_n k_Psa_setHours f_Psa_setHours_20 rfl ?_
      refine gw_getI k_Psa_setHours f_Psa_setHours_21 l_fldT_5_33 hc22 rfl ?_
      refine gw_istore_n [some (.inr (.inl (some 22))), some (.inl a0), some (.inl (w3 22 8))] k_Psa_setHours f_Psa_setHours_24 (Nat.le_of_ble_eq_true rfl) rfl ?_
      refine gw_aload_n k_Psa_setHours f_Psa_setHours_25 rfl ?_
      refine gw_iload_n k_Psa_setHours f_Psa_setHours_26 rfl ?_
      refine gw_put k_Psa_setHours f_Psa_setHours_27 l_fldT_5_33 hc22 rfl rfl rfl rfl rfl ?_
      refine gw_aload_n k_Psa_setHours f_Psa_setHours_30 rfl ?_
      refine gw_iconst k_Psa_setHours f_Psa_setHours_31 qc_0 ?_
      refine gw_put k_Psa_setHours f_Psa_setHours_32 l_fldT_5_56 hc22 rfl rfl rfl rfl (by decide) ?_
      refine gw_iload_n k_Psa_setHours f_Psa_setHours_35 rfl ?_
      exact gw_iret k_Psa_setHours f_Psa_setHours_36 rfl h
    · have h := h.2 c4
      refine gw_iconst k_Psa_setHours f_Psa_setHours_18 qc_m1 ?_
      exact gw_iret k_Psa_setHours f_Psa_setHours_19 rfl h
theorem sg_Bk_hours_0 {zs : List Int32} {a0 : Int32} {w : Wd} {Q : Option AV → Wd → Prop} (h : Ew zs 2 m_Psa_setHours [.inr (.inl (some 22)), .inl a0] w (fun v w2 => ∃ r1 : Int32, v = some (.inl r1) ∧ Q (some (.inl r1)) w2)) : Gw zs 3 m_Bk_hours 0 [some (.inr (.inl (some 0))), some (.inl a0)] [] w Q := by
  refine gw_aload_n k_Bk_hours f_Bk_hours_0 rfl ?_
  refine gw_getR k_Bk_hours f_Bk_hours_1 l_fldT_10_35 hc0 rfl ?_
  refine gw_iload_n k_Bk_hours f_Bk_hours_4 rfl ?_
  refine gw_virtual [.inl a0] k_Bk_hours f_Bk_hours_5 l_invT_10_140 k_Psa_setHours hc22 rfl rfl rfl (by exact Nat.le_of_ble_eq_true rfl) (dc := 2) (by decide) ?_ rfl
  refine h.mono (fun v w2 hh => ?_)
  obtain ⟨r1, rfl, h⟩ := hh
  show Gw zs 3 m_Bk_hours 8 [some (.inr (.inl (some 0))), some (.inl a0)] [.inl r1] w2 _
  exact gw_iret k_Bk_hours f_Bk_hours_8 rfl h
theorem sg_Psa_lineUp_0 {zs : List Int32} {w : Wd} {Q : Option AV → Wd → Prop} (h : Gw zs 1 m_Psa_lineUp 7 [some (.inr (.inl (some 22))), some (.inl 1)] [] (wr w 22 7 0) Q) : Gw zs 1 m_Psa_lineUp 0 [some (.inr (.inl (some 22))), none] [] w Q := by
  refine gw_aload_n k_Psa_lineUp f_Psa_lineUp_0 rfl ?_
  refine gw_iconst k_Psa_lineUp f_Psa_lineUp_1 qc_0 ?_
  refine gw_put k_Psa_lineUp f_Psa_lineUp_2 l_fldT_5_103 hc22 rfl rfl rfl rfl rfl ?_
  refine gw_iconst k_Psa_lineUp f_Psa_lineUp_5 qc_1 ?_
  refine gw_istore_n [some (.inr (.inl (some 22))), some (.inl 1)] k_Psa_lineUp f_Psa_lineUp_6 (Nat.le_of_ble_eq_true rfl) rfl ?_
  exact h
theorem sg_Psa_lineUp_7 {zs : List Int32} {x1 : Int32} {w : Wd} {Q : Option AV → Wd → Prop} (h : ((150 < x1 → Q (none) w) ∧ (¬ (150 < x1) → (((f_at w 24 151 x1) = (-1) → Gw zs 1 m_Psa_lineUp 7 [some (.inr (.inl (some 22))), some (.inl (x1 + 1))] [] (wr (g_put (g_put w 29 151 x1 (-1)) 27 150 (w 22 7) x1) 22 7 ((w 22 7) + 1)) Q) ∧ (¬ ((f_at w 24 151 x1) = (-1)) → Gw zs 1 m_Psa_lineUp 7 [some (.inr (.inl (some 22))), some (.inl (x1 + 1))] [] (g_put w 29 151 x1 (-1)) Q))))) : Gw zs 1 m_Psa_lineUp 7 [some (.inr (.inl (some 22))), some (.inl x1)] [] w Q := by
  refine gw_iload_n k_Psa_lineUp f_Psa_lineUp_7 rfl ?_
  refine gw_sipush k_Psa_lineUp f_Psa_lineUp_8 qs_150 ?_
  refine gw_icmp_gt (t := 63) k_Psa_lineUp f_Psa_lineUp_11 rfl (fun c1 => ?_) (fun c1 => ?_)
  · have h := h.1 c1
    exact gw_vret k_Psa_lineUp f_Psa_lineUp_63 rfl h
  · have h := h.2 c1
    refine gw_aload_n k_Psa_lineUp f_Psa_lineUp_14 rfl ?_
    refine gw_getR k_Psa_lineUp f_Psa_lineUp_15 l_fldT_5_30 hc22 rfl ?_
    refine gw_iload_n k_Psa_lineUp f_Psa_lineUp_18 rfl ?_
    refine gw_iconst k_Psa_lineUp f_Psa_lineUp_19 qc_m1 ?_
    refine gw_static [.inr (.inl (some 29)), .inl x1, .inl (-1)] k_Psa_lineUp f_Psa_lineUp_20 l_invT_5_52 (by decide) k_Bk_put rfl (by exact Nat.le_of_ble_eq_true rfl) (dc := 0) (by decide) ?_ rfl
    refine ev_put hc29 (by decide) ?_
    show Gw zs 1 m_Psa_lineUp 23 [some (.inr (.inl (some 22))), some (.inl x1)] [] (g_put w 29 151 x1 (-1)) _
    refine gw_aload_n k_Psa_lineUp f_Psa_lineUp_23 rfl ?_
    refine gw_getR k_Psa_lineUp f_Psa_lineUp_24 l_fldT_5_15 hc22 rfl ?_
    refine gw_iload_n k_Psa_lineUp f_Psa_lineUp_27 rfl ?_
    refine gw_static [.inr (.inl (some 24)), .inl x1] k_Psa_lineUp f_Psa_lineUp_28 l_invT_5_48 (by decide) k_Bk_at rfl (by exact Nat.le_of_ble_eq_true rfl) (dc := 0) (by decide) ?_ rfl
    refine ev_at hc24 (by decide) ?_
    rw [show f_at (g_put w 29 151 x1 (-1)) 24 151 x1 = f_at w 24 151 x1 from f_at_cg (fun _ => g_put_ne (by decide))]
    show Gw zs 1 m_Psa_lineUp 31 [some (.inr (.inl (some 22))), some (.inl x1)] [.inl (f_at w 24 151 x1)] (g_put w 29 151 x1 (-1)) _
    refine gw_iconst k_Psa_lineUp f_Psa_lineUp_31 qc_m1 ?_
    refine gw_icmp_ne (t := 57) k_Psa_lineUp f_Psa_lineUp_32 rfl (fun c2 => ?_) (fun c2 => ?_)
    · have h := h.2 c2
      refine gw_iinc [some (.inr (.inl (some 22))), some (.inl (x1 + 1))] k_Psa_lineUp f_Psa_lineUp_57 rfl qc_1 (Nat.le_of_ble_eq_true rfl) rfl ?_
      refine gw_goto (t := 7) k_Psa_lineUp f_Psa_lineUp_60 rfl ?_
      exact h
    · have c2 := Decidable.not_not.mp c2
      have h := h.1 c2
      refine gw_aload_n k_Psa_lineUp f_Psa_lineUp_35 rfl ?_
      refine gw_getR k_Psa_lineUp f_Psa_lineUp_36 l_fldT_5_24 hc22 rfl ?_
      refine gw_aload_n k_Psa_lineUp f_Psa_lineUp_39 rfl ?_
      refine gw_getI k_Psa_lineUp f_Psa_lineUp_40 l_fldT_5_103 hc22 rfl ?_
      rw [show (g_put w 29 151 x1 (-1)) 22 7 = w 22 7 from g_put_ne (by decide)]
      refine gw_iload_n k_Psa_lineUp f_Psa_lineUp_43 rfl ?_
      refine gw_static [.inr (.inl (some 27)), .inl (w 22 7), .inl x1] k_Psa_lineUp f_Psa_lineUp_44 l_invT_5_52 (by decide) k_Bk_put rfl (by exact Nat.le_of_ble_eq_true rfl) (dc := 0) (by decide) ?_ rfl
      refine ev_put hc27 (by decide) ?_
      show Gw zs 1 m_Psa_lineUp 47 [some (.inr (.inl (some 22))), some (.inl x1)] [] (g_put (g_put w 29 151 x1 (-1)) 27 150 (w 22 7) x1) _
      refine gw_aload_n k_Psa_lineUp f_Psa_lineUp_47 rfl ?_
      refine gw_dup k_Psa_lineUp f_Psa_lineUp_48 ?_
      refine gw_getI k_Psa_lineUp f_Psa_lineUp_49 l_fldT_5_103 hc22 rfl ?_
      rw [show (g_put (g_put w 29 151 x1 (-1)) 27 150 (w 22 7) x1) 22 7 = w 22 7 from (g_put_ne (by decide)).trans (g_put_ne (by decide))]
      refine gw_iconst k_Psa_lineUp f_Psa_lineUp_52 qc_1 ?_
      refine gw_iadd k_Psa_lineUp f_Psa_lineUp_53 ?_
      refine gw_put k_Psa_lineUp f_Psa_lineUp_54 l_fldT_5_103 hc22 rfl rfl rfl rfl rfl ?_
      refine gw_iinc [some (.inr (.inl (some 22))), some (.inl (x1 + 1))] k_Psa_lineUp f_Psa_lineUp_57 rfl qc_1 (Nat.le_of_ble_eq_true rfl) rfl ?_
      refine gw_goto (t := 7) k_Psa_lineUp f_Psa_lineUp_60 rfl ?_
      exact h
theorem sg_Psa_endOfHour_0 {zs : List Int32} {a0 a1 : Int32} {w : Wd} {Q : Option AV → Wd → Prop} (h : Gw zs 1 m_Psa_endOfHour 5 [some (.inr (.inl (some 22))), some (.inl a0), some (.inl a1), some (.inl 0), some (.inl a0)] [] w Q) : Gw zs 1 m_Psa_endOfHour 0 [some (.inr (.inl (some 22))), some (.inl a0), some (.inl a1), none, none] [] w Q := by
  refine gw_iconst k_Psa_endOfHour f_Psa_endOfHour_0 qc_0 ?_
  refine gw_istore_n [some (.inr (.inl (some 22))), some (.inl a0), some (.inl a1), some (.inl 0), none] k_Psa_endOfHour f_Psa_endOfHour_1 (Nat.le_of_ble_eq_true rfl) rfl ?_
  refine gw_iload_n k_Psa_endOfHour f_Psa_endOfHour_2 rfl ?_
  refine gw_istore [some (.inr (.inl (some 22))), some (.inl a0), some (.inl a1), some (.inl 0), some (.inl a0)] k_Psa_endOfHour f_Psa_endOfHour_3 (Nat.le_of_ble_eq_true rfl) rfl ?_
  exact h
theorem sg_Psa_endOfHour_5 {zs : List Int32} {x2 x3 x4 : Int32} {o1 : Option AV} {w : Wd} {Q : Option AV → Wd → Prop} (h : (((w 22 7) ≤ x4 → Q (some (.inl (w 22 7))) w) ∧ (¬ ((w 22 7) ≤ x4) → (((x3 + (f_at w 23 151 (f_at w 27 150 x4))) ≤ x2 → Gw zs 1 m_Psa_endOfHour 5 [some (.inr (.inl (some 22))), o1, some (.inl x2), some (.inl (x3 + (f_at w 23 151 (f_at w 27 150 x4)))), some (.inl (x4 + 1))] [] w Q) ∧ (¬ ((x3 + (f_at w 23 151 (f_at w 27 150 x4))) ≤ x2) → Q (some (.inl x4)) w))))) : Gw zs 1 m_Psa_endOfHour 5 [some (.inr (.inl (some 22))), o1, some (.inl x2), some (.inl x3), some (.inl x4)] [] w Q := by
  refine gw_iload k_Psa_endOfHour f_Psa_endOfHour_5 rfl ?_
  refine gw_aload_n k_Psa_endOfHour f_Psa_endOfHour_7 rfl ?_
  refine gw_getI k_Psa_endOfHour f_Psa_endOfHour_8 l_fldT_5_103 hc22 rfl ?_
  refine gw_icmp_ge (t := 47) k_Psa_endOfHour f_Psa_endOfHour_11 rfl (fun c1 => ?_) (fun c1 => ?_)
  · have h := h.1 c1
    refine gw_aload_n k_Psa_endOfHour f_Psa_endOfHour_47 rfl ?_
    refine gw_getI k_Psa_endOfHour f_Psa_endOfHour_48 l_fldT_5_103 hc22 rfl ?_
    exact gw_iret k_Psa_endOfHour f_Psa_endOfHour_51 rfl h
  · have h := h.2 c1
    refine gw_iload_n k_Psa_endOfHour f_Psa_endOfHour_14 rfl ?_
    refine gw_aload_n k_Psa_endOfHour f_Psa_endOfHour_15 rfl ?_
    refine gw_getR k_Psa_endOfHour f_Psa_endOfHour_16 l_fldT_5_11 hc22 rfl ?_
    refine gw_aload_n k_Psa_endOfHour f_Psa_endOfHour_19 rfl ?_
    refine gw_getR k_Psa_endOfHour f_Psa_endOfHour_20 l_fldT_5_24 hc22 rfl ?_
    refine gw_iload k_Psa_endOfHour f_Psa_endOfHour_23 rfl ?_
    refine gw_static [.inr (.inl (some 27)), .inl x4] k_Psa_endOfHour f_Psa_endOfHour_25 l_invT_5_48 (by decide) k_Bk_at rfl (by exact Nat.le_of_ble_eq_true rfl) (dc := 0) (by decide) ?_ rfl
    refine ev_at hc27 (by decide) ?_
    show Gw zs 1 m_Psa_endOfHour 28 [some (.inr (.inl (some 22))), o1, some (.inl x2), some (.inl x3), some (.inl x4)] [.inl (f_at w 27 150 x4), .inr (.inl (some 23)), .inl x3] w _
    refine gw_static [.inr (.inl (some 23)), .inl (f_at w 27 150 x4)] k_Psa_endOfHour f_Psa_endOfHour_28 l_invT_5_48 (by decide) k_Bk_at rfl (by exact Nat.le_of_ble_eq_true rfl) (dc := 0) (by decide) ?_ rfl
    refine ev_at hc23 (by decide) ?_
    show Gw zs 1 m_Psa_endOfHour 31 [some (.inr (.inl (some 22))), o1, some (.inl x2), some (.inl x3), some (.inl x4)] [.inl (f_at w 23 151 (f_at w 27 150 x4)), .inl x3] w _
    refine gw_iadd k_Psa_endOfHour f_Psa_endOfHour_31 ?_
    refine gw_istore_n [some (.inr (.inl (some 22))), o1, some (.inl x2), some (.inl (x3 + (f_at w 23 151 (f_at w 27 150 x4)))), some (.inl x4)] k_Psa_endOfHour f_Psa_endOfHour_32 (Nat.le_of_ble_eq_true rfl) rfl ?_
    refine gw_iload_n k_Psa_endOfHour f_Psa_endOfHour_33 rfl ?_
    refine gw_iload_n k_Psa_endOfHour f_Psa_endOfHour_34 rfl ?_
    refine gw_icmp_le (t := 41) k_Psa_endOfHour f_Psa_endOfHour_35 rfl (fun c2 => ?_) (fun c2 => ?_)
    · have h := h.1 c2
      refine gw_iinc [some (.inr (.inl (some 22))), o1, some (.inl x2), some (.inl (x3 + (f_at w 23 151 (f_at w 27 150 x4)))), some (.inl (x4 + 1))] k_Psa_endOfHour f_Psa_endOfHour_41 rfl qc_1 (Nat.le_of_ble_eq_true rfl) rfl ?_
      refine gw_goto (t := 5) k_Psa_endOfHour f_Psa_endOfHour_44 rfl ?_
      exact h
    · have h := h.2 c2
      refine gw_iload k_Psa_endOfHour f_Psa_endOfHour_38 rfl ?_
      exact gw_iret k_Psa_endOfHour f_Psa_endOfHour_40 rfl h
theorem sg_Psa_isEnough_0 {zs : List Int32} {a0 : Int32} {w : Wd} {Q : Option AV → Wd → Prop} (h : Gw zs 2 m_Psa_isEnough 4 [some (.inr (.inl (some 22))), some (.inl a0), some (.inl 0), some (.inl 0)] [] w Q) : Gw zs 2 m_Psa_isEnough 0 [some (.inr (.inl (some 22))), some (.inl a0), none, none] [] w Q := by
  refine gw_iconst k_Psa_isEnough f_Psa_isEnough_0 qc_0 ?_
  refine gw_istore_n [some (.inr (.inl (some 22))), some (.inl a0), some (.inl 0), none] k_Psa_isEnough f_Psa_isEnough_1 (Nat.le_of_ble_eq_true rfl) rfl ?_
  refine gw_iconst k_Psa_isEnough f_Psa_isEnough_2 qc_0 ?_
  refine gw_istore_n [some (.inr (.inl (some 22))), some (.inl a0), some (.inl 0), some (.inl 0)] k_Psa_isEnough f_Psa_isEnough_3 (Nat.le_of_ble_eq_true rfl) rfl ?_
  exact h
theorem sg_Psa_isEnough_4 {zs : List Int32} {x1 x2 x3 : Int32} {w : Wd} {Q : Option AV → Wd → Prop} (h : (((7 * (w 22 8)) ≤ x3 → ((x2 < (w 22 7) → Q (some (.inl 0)) w) ∧ (¬ (x2 < (w 22 7)) → Q (some (.inl 1)) w))) ∧ (¬ ((7 * (w 22 8)) ≤ x3) → Ew zs 1 m_Psa_endOfHour [.inr (.inl (some 22)), .inl x2, .inl x1] w (fun v w4 => ∃ r3 : Int32, v = some (.inl r3) ∧ Gw zs 2 m_Psa_isEnough 4 [some (.inr (.inl (some 22))), some (.inl x1), some (.inl r3), some (.inl (x3 + 1))] [] w4 Q)))) : Gw zs 2 m_Psa_isEnough 4 [some (.inr (.inl (some 22))), some (.inl x1), some (.inl x2), some (.inl x3)] [] w Q := by
  refine gw_iload_n k_Psa_isEnough f_Psa_isEnough_4 rfl ?_
  refine gw_bipush k_Psa_isEnough f_Psa_isEnough_5 qb_7 ?_
  refine gw_aload_n k_Psa_isEnough f_Psa_isEnough_7 rfl ?_
  refine gw_getI k_Psa_isEnough f_Psa_isEnough_8 l_fldT_5_33 hc22 rfl ?_
  refine gw_imul k_Psa_isEnough f_Psa_isEnough_11 ?_
  refine gw_icmp_ge (t := 28) k_Psa_isEnough f_Psa_isEnough_12 rfl (fun c1 => ?_) (fun c1 => ?_)
  · have h := h.1 c1
    refine gw_iload_n k_Psa_isEnough f_Psa_isEnough_28 rfl ?_
    refine gw_aload_n k_Psa_isEnough f_Psa_isEnough_29 rfl ?_
    refine gw_getI k_Psa_isEnough f_Psa_isEnough_30 l_fldT_5_103 hc22 rfl ?_
    refine gw_icmp_lt (t := 40) k_Psa_isEnough f_Psa_isEnough_33 rfl (fun c2 => ?_) (fun c2 => ?_)
    · have h := h.1 c2
      refine gw_iconst k_Psa_isEnough f_Psa_isEnough_40 qc_0 ?_
      exact gw_zret k_Psa_isEnough f_Psa_isEnough_41 rfl (Or.inl rfl) h
    · have h := h.2 c2
      refine gw_iconst k_Psa_isEnough f_Psa_isEnough_36 qc_1 ?_
      refine gw_goto (t := 41) k_Psa_isEnough f_Psa_isEnough_37 rfl ?_
      exact gw_zret k_Psa_isEnough f_Psa_isEnough_41 rfl (Or.inr rfl) h
  · have h := h.2 c1
    refine gw_aload_n k_Psa_isEnough f_Psa_isEnough_15 rfl ?_
    refine gw_iload_n k_Psa_isEnough f_Psa_isEnough_16 rfl ?_
    refine gw_iload_n k_Psa_isEnough f_Psa_isEnough_17 rfl ?_
    refine gw_virtual [.inl x2, .inl x1] k_Psa_isEnough f_Psa_isEnough_18 l_invT_5_96 k_Psa_endOfHour hc22 rfl rfl rfl (by exact Nat.le_of_ble_eq_true rfl) (dc := 1) (by decide) ?_ rfl
    refine h.mono (fun v w4 hh => ?_)
    obtain ⟨r3, rfl, h⟩ := hh
    show Gw zs 2 m_Psa_isEnough 21 [some (.inr (.inl (some 22))), some (.inl x1), some (.inl x2), some (.inl x3)] [.inl r3] w4 _
    refine gw_istore_n [some (.inr (.inl (some 22))), some (.inl x1), some (.inl r3), some (.inl x3)] k_Psa_isEnough f_Psa_isEnough_21 (Nat.le_of_ble_eq_true rfl) rfl ?_
    refine gw_iinc [some (.inr (.inl (some 22))), some (.inl x1), some (.inl r3), some (.inl (x3 + 1))] k_Psa_isEnough f_Psa_isEnough_22 rfl qc_1 (Nat.le_of_ble_eq_true rfl) rfl ?_
    refine gw_goto (t := 4) k_Psa_isEnough f_Psa_isEnough_25 rfl ?_
    exact h
theorem sg_Psa_findLimit_0 {zs : List Int32} {w : Wd} {Q : Option AV → Wd → Prop} (h : Gw zs 3 m_Psa_findLimit 6 [some (.inr (.inl (some 22))), some (.inl 0), some (.inl 0), some (.inl 0), none] [] w Q) : Gw zs 3 m_Psa_findLimit 0 [some (.inr (.inl (some 22))), none, none, none, none] [] w Q := by
  refine gw_iconst k_Psa_findLimit f_Psa_findLimit_0 qc_0 ?_
  refine gw_istore_n [some (.inr (.inl (some 22))), some (.inl 0), none, none, none] k_Psa_findLimit f_Psa_findLimit_1 (Nat.le_of_ble_eq_true rfl) rfl ?_
  refine gw_iconst k_Psa_findLimit f_Psa_findLimit_2 qc_0 ?_
  refine gw_istore_n [some (.inr (.inl (some 22))), some (.inl 0), some (.inl 0), none, none] k_Psa_findLimit f_Psa_findLimit_3 (Nat.le_of_ble_eq_true rfl) rfl ?_
  refine gw_iconst k_Psa_findLimit f_Psa_findLimit_4 qc_0 ?_
  refine gw_istore_n [some (.inr (.inl (some 22))), some (.inl 0), some (.inl 0), some (.inl 0), none] k_Psa_findLimit f_Psa_findLimit_5 (Nat.le_of_ble_eq_true rfl) rfl ?_
  exact h
theorem sg_Psa_findLimit_6 {zs : List Int32} {x1 x2 x3 : Int32} {o4 : Option AV} {w : Wd} {Q : Option AV → Wd → Prop} (h : (((w 22 7) ≤ x3 → Gw zs 3 m_Psa_findLimit 51 [some (.inr (.inl (some 22))), some (.inl x1), some (.inl x2), some (.inl 0), o4] [] w Q) ∧ (¬ ((w 22 7) ≤ x3) → Gw zs 3 m_Psa_findLimit 6 [some (.inr (.inl (some 22))), some (.inl (if x1 < (f_at w 23 151 (f_at w 27 150 x3)) then (f_at w 23 151 (f_at w 27 150 x3)) else x1)), some (.inl (x2 + (f_at w 23 151 (f_at w 27 150 x3)))), some (.inl (x3 + 1)), some (.inl (f_at w 23 151 (f_at w 27 150 x3)))] [] w Q))) : Gw zs 3 m_Psa_findLimit 6 [some (.inr (.inl (some 22))), some (.inl x1), some (.inl x2), some (.inl x3), o4] [] w Q := by
  refine gw_iload_n k_Psa_findLimit f_Psa_findLimit_6 rfl ?_
  refine gw_aload_n k_Psa_findLimit f_Psa_findLimit_7 rfl ?_
  refine gw_getI k_Psa_findLimit f_Psa_findLimit_8 l_fldT_5_103 hc22 rfl ?_
  refine gw_icmp_ge (t := 49) k_Psa_findLimit f_Psa_findLimit_11 rfl (fun c1 => ?_) (fun c1 => ?_)
  · have h := h.1 c1
    refine gw_iconst k_Psa_findLimit f_Psa_findLimit_49 qc_0 ?_
    refine gw_istore_n [some (.inr (.inl (some 22))), some (.inl x1), some (.inl x2), some (.inl 0), o4] k_Psa_findLimit f_Psa_findLimit_50 (Nat.le_of_ble_eq_true rfl) rfl ?_
    exact h
  · have h := h.2 c1
    refine gw_aload_n k_Psa_findLimit f_Psa_findLimit_14 rfl ?_
    refine gw_getR k_Psa_findLimit f_Psa_findLimit_15 l_fldT_5_11 hc22 rfl ?_
    refine gw_aload_n k_Psa_findLimit f_Psa_findLimit_18 rfl ?_
    refine gw_getR k_Psa_findLimit f_Psa_findLimit_19 l_fldT_5_24 hc22 rfl ?_
    refine gw_iload_n k_Psa_findLimit f_Psa_findLimit_22 rfl ?_
    refine gw_static [.inr (.inl (some 27)), .inl x3] k_Psa_findLimit f_Psa_findLimit_23 l_invT_5_48 (by decide) k_Bk_at rfl (by exact Nat.le_of_ble_eq_true rfl) (dc := 0) (by decide) ?_ rfl
    refine ev_at hc27 (by decide) ?_
    show Gw zs 3 m_Psa_findLimit 26 [some (.inr (.inl (some 22))), some (.inl x1), some (.inl x2), some (.inl x3), o4] [.inl (f_at w 27 150 x3), .inr (.inl (some 23))] w _
    refine gw_static [.inr (.inl (some 23)), .inl (f_at w 27 150 x3)] k_Psa_findLimit f_Psa_findLimit_26 l_invT_5_48 (by decide) k_Bk_at rfl (by exact Nat.le_of_ble_eq_true rfl) (dc := 0) (by decide) ?_ rfl
    refine ev_at hc23 (by decide) ?_
    show Gw zs 3 m_Psa_findLimit 29 [some (.inr (.inl (some 22))), some (.inl x1), some (.inl x2), some (.inl x3), o4] [.inl (f_at w 23 151 (f_at w 27 150 x3))] w _
    refine gw_istore [some (.inr (.inl (some 22))), some (.inl x1), some (.inl x2), some (.inl x3), some (.inl (f_at w 23 151 (f_at w 27 150 x3)))] k_Psa_findLimit f_Psa_findLimit_29 (Nat.le_of_ble_eq_true rfl) rfl ?_
    refine gw_iload_n k_Psa_findLimit f_Psa_findLimit_31 rfl ?_
    refine gw_iload k_Psa_findLimit f_Psa_findLimit_32 rfl ?_
    refine gw_max k_Psa_findLimit f_Psa_findLimit_34 l_invT_5_106 (by decide) (Nat.le_of_ble_eq_true rfl) ?_
    refine gw_istore_n [some (.inr (.inl (some 22))), some (.inl (if x1 < (f_at w 23 151 (f_at w 27 150 x3)) then (f_at w 23 151 (f_at w 27 150 x3)) else x1)), some (.inl x2), some (.inl x3), some (.inl (f_at w 23 151 (f_at w 27 150 x3)))] k_Psa_findLimit f_Psa_findLimit_37 (Nat.le_of_ble_eq_true rfl) rfl ?_
    refine gw_iload_n k_Psa_findLimit f_Psa_findLimit_38 rfl ?_
    refine gw_iload k_Psa_findLimit f_Psa_findLimit_39 rfl ?_
    refine gw_iadd k_Psa_findLimit f_Psa_findLimit_41 ?_
    refine gw_istore_n [some (.inr (.inl (some 22))), some (.inl (if x1 < (f_at w 23 151 (f_at w 27 150 x3)) then (f_at w 23 151 (f_at w 27 150 x3)) else x1)), some (.inl (x2 + (f_at w 23 151 (f_at w 27 150 x3)))), some (.inl x3), some (.inl (f_at w 23 151 (f_at w 27 150 x3)))] k_Psa_findLimit f_Psa_findLimit_42 (Nat.le_of_ble_eq_true rfl) rfl ?_
    refine gw_iinc [some (.inr (.inl (some 22))), some (.inl (if x1 < (f_at w 23 151 (f_at w 27 150 x3)) then (f_at w 23 151 (f_at w 27 150 x3)) else x1)), some (.inl (x2 + (f_at w 23 151 (f_at w 27 150 x3)))), some (.inl (x3 + 1)), some (.inl (f_at w 23 151 (f_at w 27 150 x3)))] k_Psa_findLimit f_Psa_findLimit_43 rfl qc_1 (Nat.le_of_ble_eq_true rfl) rfl ?_
    refine gw_goto (t := 6) k_Psa_findLimit f_Psa_findLimit_46 rfl ?_
    exact h
theorem sg_Psa_findLimit_51 {zs : List Int32} {x1 x2 x3 : Int32} {o4 : Option AV} {w : Wd} {Q : Option AV → Wd → Prop} (h : ((40 ≤ x3 → Q (none) (wr w 22 10 x1)) ∧ (¬ (40 ≤ x3) → ((x2 ≤ x1 → Q (none) (wr w 22 10 x1)) ∧ (¬ (x2 ≤ x1) → Ew zs 2 m_Psa_isEnough [.inr (.inl (some 22)), .inl (x1 + ((x2 - x1) / 2))] w (fun v w4 => ∃ r3 : Int32, v = some (.inl r3) ∧ ((r3 = 0 → Gw zs 3 m_Psa_findLimit 51 [some (.inr (.inl (some 22))), some (.inl ((x1 + ((x2 - x1) / 2)) + 1)), some (.inl x2), some (.inl (x3 + 1)), some (.inl (x1 + ((x2 - x1) / 2)))] [] w4 Q) ∧ (¬ (r3 = 0) → Gw zs 3 m_Psa_findLimit 51 [some (.inr (.inl (some 22))), some (.inl x1), some (.inl (x1 + ((x2 - x1) / 2))), some (.inl (x3 + 1)), some (.inl (x1 + ((x2 - x1) / 2)))] [] w4 Q)))))))) : Gw zs 3 m_Psa_findLimit 51 [some (.inr (.inl (some 22))), some (.inl x1), some (.inl x2), some (.inl x3), o4] [] w Q := by
  refine gw_iload_n k_Psa_findLimit f_Psa_findLimit_51 rfl ?_
  refine gw_bipush k_Psa_findLimit f_Psa_findLimit_52 qb_40 ?_
  refine gw_icmp_ge (t := 97) k_Psa_findLimit f_Psa_findLimit_54 rfl (fun c1 => ?_) (fun c1 => ?_)
  · have h := h.1 c1
    refine gw_aload_n k_Psa_findLimit f_Psa_findLimit_97 rfl ?_
    refine gw_iload_n k_Psa_findLimit f_Psa_findLimit_98 rfl ?_
    refine gw_put k_Psa_findLimit f_Psa_findLimit_99 l_fldT_5_69 hc22 rfl rfl rfl rfl rfl ?_
    exact gw_vret k_Psa_findLimit f_Psa_findLimit_102 rfl h
  · have h := h.2 c1
    refine gw_iload_n k_Psa_findLimit f_Psa_findLimit_57 rfl ?_
    refine gw_iload_n k_Psa_findLimit f_Psa_findLimit_58 rfl ?_
    refine gw_icmp_ge (t := 97) k_Psa_findLimit f_Psa_findLimit_59 rfl (fun c2 => ?_) (fun c2 => ?_)
    · have h := h.1 c2
      refine gw_aload_n k_Psa_findLimit f_Psa_findLimit_97 rfl ?_
      refine gw_iload_n k_Psa_findLimit f_Psa_findLimit_98 rfl ?_
      refine gw_put k_Psa_findLimit f_Psa_findLimit_99 l_fldT_5_69 hc22 rfl rfl rfl rfl rfl ?_
      exact gw_vret k_Psa_findLimit f_Psa_findLimit_102 rfl h
    · have h := h.2 c2
      refine gw_iload_n k_Psa_findLimit f_Psa_findLimit_62 rfl ?_
      refine gw_iload_n k_Psa_findLimit f_Psa_findLimit_63 rfl ?_
      refine gw_iload_n k_Psa_findLimit f_Psa_findLimit_64 rfl ?_
      refine gw_isub k_Psa_findLimit f_Psa_findLimit_65 ?_
      refine gw_iconst k_Psa_findLimit f_Psa_findLimit_66 qc_2 ?_
      refine gw_idiv k_Psa_findLimit f_Psa_findLimit_67 (by decide) ?_
      refine gw_iadd k_Psa_findLimit f_Psa_findLimit_68 ?_
      refine gw_istore [some (.inr (.inl (some 22))), some (.inl x1), some (.inl x2), some (.inl x3), some (.inl (x1 + ((x2 - x1) / 2)))] k_Psa_findLimit f_Psa_findLimit_69 (Nat.le_of_ble_eq_true rfl) rfl ?_
      refine gw_aload_n k_Psa_findLimit f_Psa_findLimit_71 rfl ?_
      refine gw_iload k_Psa_findLimit f_Psa_findLimit_72 rfl ?_
      refine gw_virtual [.inl (x1 + ((x2 - x1) / 2))] k_Psa_findLimit f_Psa_findLimit_74 l_invT_5_111 k_Psa_isEnough hc22 rfl rfl rfl (by exact Nat.le_of_ble_eq_true rfl) (dc := 2) (by decide) ?_ rfl
      refine h.mono (fun v w4 hh => ?_)
      obtain ⟨r3, rfl, h⟩ := hh
      show Gw zs 3 m_Psa_findLimit 77 [some (.inr (.inl (some 22))), some (.inl x1), some (.inl x2), some (.inl x3), some (.inl (x1 + ((x2 - x1) / 2)))] [.inl r3] w4 _
      refine gw_if_eq (t := 86) k_Psa_findLimit f_Psa_findLimit_77 rfl (fun c5 => ?_) (fun c5 => ?_)
      · have h := h.1 c5
        refine gw_iload k_Psa_findLimit f_Psa_findLimit_86 rfl ?_
        refine gw_iconst k_Psa_findLimit f_Psa_findLimit_88 qc_1 ?_
        refine gw_iadd k_Psa_findLimit f_Psa_findLimit_89 ?_
        refine gw_istore_n [some (.inr (.inl (some 22))), some (.inl ((x1 + ((x2 - x1) / 2)) + 1)), some (.inl x2), some (.inl x3), some (.inl (x1 + ((x2 - x1) / 2)))] k_Psa_findLimit f_Psa_findLimit_90 (Nat.le_of_ble_eq_true rfl) rfl ?_
        refine gw_iinc [some (.inr (.inl (some 22))), some (.inl ((x1 + ((x2 - x1) / 2)) + 1)), some (.inl x2), some (.inl (x3 + 1)), some (.inl (x1 + ((x2 - x1) / 2)))] k_Psa_findLimit f_Psa_findLimit_91 rfl qc_1 (Nat.le_of_ble_eq_true rfl) rfl ?_
        refine gw_goto (t := 51) k_Psa_findLimit f_Psa_findLimit_94 rfl ?_
        exact h
      · have h := h.2 c5
        refine gw_iload k_Psa_findLimit f_Psa_findLimit_80 rfl ?_
        refine gw_istore_n [some (.inr (.inl (some 22))), some (.inl x1), some (.inl (x1 + ((x2 - x1) / 2))), some (.inl x3), some (.inl (x1 + ((x2 - x1) / 2)))] k_Psa_findLimit f_Psa_findLimit_82 (Nat.le_of_ble_eq_true rfl) rfl ?_
        refine gw_goto (t := 91) k_Psa_findLimit f_Psa_findLimit_83 rfl ?_
        refine gw_iinc [some (.inr (.inl (some 22))), some (.inl x1), some (.inl (x1 + ((x2 - x1) / 2))), some (.inl (x3 + 1)), some (.inl (x1 + ((x2 - x1) / 2)))] k_Psa_findLimit f_Psa_findLimit_91 rfl qc_1 (Nat.le_of_ble_eq_true rfl) rfl ?_
        refine gw_goto (t := 51) k_Psa_findLimit f_Psa_findLimit_94 rfl ?_
        exact h
theorem sg_Psa_markSlot_0 {zs : List Int32} {a0 a1 a2 : Int32} {w : Wd} {Q : Option AV → Wd → Prop} (h : Gw zs 1 m_Psa_markSlot 3 [some (.inr (.inl (some 22))), some (.inl a0), some (.inl a1), some (.inl a2), some (.inl a1)] [] w Q) : Gw zs 1 m_Psa_markSlot 0 [some (.inr (.inl (some 22))), some (.inl a0), some (.inl a1), some (.inl a2), none] [] w Q := by
  refine gw_iload_n k_Psa_markSlot f_Psa_markSlot_0 rfl ?_
  refine gw_istore [some (.inr (.inl (some 22))), some (.inl a0), some (.inl a1), some (.inl a2), some (.inl a1)] k_Psa_markSlot f_Psa_markSlot_1 (Nat.le_of_ble_eq_true rfl) rfl ?_
  exact h
theorem sg_Psa_markSlot_3 {zs : List Int32} {x1 x3 x4 : Int32} {o2 : Option AV} {w : Wd} {Q : Option AV → Wd → Prop} (h : ((x3 ≤ x4 → Q (none) w) ∧ (¬ (x3 ≤ x4) → Gw zs 1 m_Psa_markSlot 3 [some (.inr (.inl (some 22))), some (.inl x1), o2, some (.inl x3), some (.inl (x4 + 1))] [] (g_put w 29 151 (f_at w 27 150 x4) x1) Q))) : Gw zs 1 m_Psa_markSlot 3 [some (.inr (.inl (some 22))), some (.inl x1), o2, some (.inl x3), some (.inl x4)] [] w Q := by
  refine gw_iload k_Psa_markSlot f_Psa_markSlot_3 rfl ?_
  refine gw_iload_n k_Psa_markSlot f_Psa_markSlot_5 rfl ?_
  refine gw_icmp_ge (t := 32) k_Psa_markSlot f_Psa_markSlot_6 rfl (fun c1 => ?_) (fun c1 => ?_)
  · have h := h.1 c1
    exact gw_vret k_Psa_markSlot f_Psa_markSlot_32 rfl h
  · have h := h.2 c1
    refine gw_aload_n k_Psa_markSlot f_Psa_markSlot_9 rfl ?_
    refine gw_getR k_Psa_markSlot f_Psa_markSlot_10 l_fldT_5_30 hc22 rfl ?_
    refine gw_aload_n k_Psa_markSlot f_Psa_markSlot_13 rfl ?_
    refine gw_getR k_Psa_markSlot f_Psa_markSlot_14 l_fldT_5_24 hc22 rfl ?_
    refine gw_iload k_Psa_markSlot f_Psa_markSlot_17 rfl ?_
    refine gw_static [.inr (.inl (some 27)), .inl x4] k_Psa_markSlot f_Psa_markSlot_19 l_invT_5_48 (by decide) k_Bk_at rfl (by exact Nat.le_of_ble_eq_true rfl) (dc := 0) (by decide) ?_ rfl
    refine ev_at hc27 (by decide) ?_
    show Gw zs 1 m_Psa_markSlot 22 [some (.inr (.inl (some 22))), some (.inl x1), o2, some (.inl x3), some (.inl x4)] [.inl (f_at w 27 150 x4), .inr (.inl (some 29))] w _
    refine gw_iload_n k_Psa_markSlot f_Psa_markSlot_22 rfl ?_
    refine gw_static [.inr (.inl (some 29)), .inl (f_at w 27 150 x4), .inl x1] k_Psa_markSlot f_Psa_markSlot_23 l_invT_5_52 (by decide) k_Bk_put rfl (by exact Nat.le_of_ble_eq_true rfl) (dc := 0) (by decide) ?_ rfl
    refine ev_put hc29 (by decide) ?_
    show Gw zs 1 m_Psa_markSlot 26 [some (.inr (.inl (some 22))), some (.inl x1), o2, some (.inl x3), some (.inl x4)] [] (g_put w 29 151 (f_at w 27 150 x4) x1) _
    refine gw_iinc [some (.inr (.inl (some 22))), some (.inl x1), o2, some (.inl x3), some (.inl (x4 + 1))] k_Psa_markSlot f_Psa_markSlot_26 rfl qc_1 (Nat.le_of_ble_eq_true rfl) rfl ?_
    refine gw_goto (t := 3) k_Psa_markSlot f_Psa_markSlot_29 rfl ?_
    exact h
theorem sg_Psa_deal_0 {zs : List Int32} {w : Wd} {Q : Option AV → Wd → Prop} (h : (((w 22 11) = 0 → Ew zs 1 m_Psa_lineUp [.inr (.inl (some 22))] (wr w 22 11 1) (fun v w2 => v = none ∧ Ew zs 3 m_Psa_findLimit [.inr (.inl (some 22))] w2 (fun v w3 => v = none ∧ Gw zs 4 m_Psa_deal 25 [some (.inr (.inl (some 22))), some (.inl 0), some (.inl 0), none] [] w3 Q))) ∧ (¬ ((w 22 11) = 0) → Q (none) w))) : Gw zs 4 m_Psa_deal 0 [some (.inr (.inl (some 22))), none, none, none] [] w Q := by
  refine gw_aload_n k_Psa_deal f_Psa_deal_0 rfl ?_
  refine gw_getI k_Psa_deal f_Psa_deal_1 l_fldT_5_56 hc22 rfl ?_
  refine gw_if_eq (t := 8) k_Psa_deal f_Psa_deal_4 rfl (fun c1 => ?_) (fun c1 => ?_)
  · have h := h.1 c1
    refine gw_aload_n k_Psa_deal f_Psa_deal_8 rfl ?_
    refine gw_iconst k_Psa_deal f_Psa_deal_9 qc_1 ?_
    refine gw_put k_Psa_deal f_Psa_deal_10 l_fldT_5_56 hc22 rfl rfl rfl rfl (by decide) ?_
    refine gw_aload_n k_Psa_deal f_Psa_deal_13 rfl ?_
    refine gw_virtual [] k_Psa_deal f_Psa_deal_14 l_invT_5_90 k_Psa_lineUp hc22 rfl rfl rfl (by exact Nat.le_of_ble_eq_true rfl) (dc := 1) (by decide) ?_ rfl
    refine h.mono (fun v w2 hh => ?_)
    obtain ⟨rfl, h⟩ := hh
    show Gw zs 4 m_Psa_deal 17 [some (.inr (.inl (some 22))), none, none, none] [] w2 _
    refine gw_aload_n k_Psa_deal f_Psa_deal_17 rfl ?_
    refine gw_virtual [] k_Psa_deal f_Psa_deal_18 l_invT_5_93 k_Psa_findLimit hc22 rfl rfl rfl (by exact Nat.le_of_ble_eq_true rfl) (dc := 3) (by decide) ?_ rfl
    refine h.mono (fun v w3 hh => ?_)
    obtain ⟨rfl, h⟩ := hh
    show Gw zs 4 m_Psa_deal 21 [some (.inr (.inl (some 22))), none, none, none] [] w3 _
    refine gw_iconst k_Psa_deal f_Psa_deal_21 qc_0 ?_
    refine gw_istore_n [some (.inr (.inl (some 22))), some (.inl 0), none, none] k_Psa_deal f_Psa_deal_22 (Nat.le_of_ble_eq_true rfl) rfl ?_
    refine gw_iconst k_Psa_deal f_Psa_deal_23 qc_0 ?_
    refine gw_istore_n [some (.inr (.inl (some 22))), some (.inl 0), some (.inl 0), none] k_Psa_deal f_Psa_deal_24 (Nat.le_of_ble_eq_true rfl) rfl ?_
    exact h
  · have h := h.2 c1
    exact gw_vret k_Psa_deal f_Psa_deal_7 rfl h
theorem sg_Psa_deal_25 {zs : List Int32} {x1 x2 : Int32} {o3 : Option AV} {w : Wd} {Q : Option AV → Wd → Prop} (h : (((7 * (w 22 8)) ≤ x2 → Q (none) w) ∧ (¬ ((7 * (w 22 8)) ≤ x2) → Ew zs 1 m_Psa_endOfHour [.inr (.inl (some 22)), .inl x1, .inl (w 22 10)] w (fun v w3 => ∃ r2 : Int32, v = some (.inl r2) ∧ Ew zs 1 m_Psa_markSlot [.inr (.inl (some 22)), .inl x2, .inl x1, .inl r2] (g_put w3 28 57 (x2 + 1) r2) (fun v w4 => v = none ∧ Gw zs 4 m_Psa_deal 25 [some (.inr (.inl (some 22))), some (.inl r2), some (.inl (x2 + 1)), some (.inl r2)] [] w4 Q))))) : Gw zs 4 m_Psa_deal 25 [some (.inr (.inl (some 22))), some (.inl x1), some (.inl x2), o3] [] w Q := by
  refine gw_iload_n k_Psa_deal f_Psa_deal_25 rfl ?_
  refine gw_bipush k_Psa_deal f_Psa_deal_26 qb_7 ?_
  refine gw_aload_n k_Psa_deal f_Psa_deal_28 rfl ?_
  refine gw_getI k_Psa_deal f_Psa_deal_29 l_fldT_5_33 hc22 rfl ?_
  refine gw_imul k_Psa_deal f_Psa_deal_32 ?_
  refine gw_icmp_ge (t := 72) k_Psa_deal f_Psa_deal_33 rfl (fun c1 => ?_) (fun c1 => ?_)
  · have h := h.1 c1
    exact gw_vret k_Psa_deal f_Psa_deal_72 rfl h
  · have h := h.2 c1
    refine gw_aload_n k_Psa_deal f_Psa_deal_36 rfl ?_
    refine gw_iload_n k_Psa_deal f_Psa_deal_37 rfl ?_
    refine gw_aload_n k_Psa_deal f_Psa_deal_38 rfl ?_
    refine gw_getI k_Psa_deal f_Psa_deal_39 l_fldT_5_69 hc22 rfl ?_
    refine gw_virtual [.inl x1, .inl (w 22 10)] k_Psa_deal f_Psa_deal_42 l_invT_5_96 k_Psa_endOfHour hc22 rfl rfl rfl (by exact Nat.le_of_ble_eq_true rfl) (dc := 1) (by decide) ?_ rfl
    refine h.mono (fun v w3 hh => ?_)
    obtain ⟨r2, rfl, h⟩ := hh
    show Gw zs 4 m_Psa_deal 45 [some (.inr (.inl (some 22))), some (.inl x1), some (.inl x2), o3] [.inl r2] w3 _
    refine gw_istore_n [some (.inr (.inl (some 22))), some (.inl x1), some (.inl x2), some (.inl r2)] k_Psa_deal f_Psa_deal_45 (Nat.le_of_ble_eq_true rfl) rfl ?_
    refine gw_aload_n k_Psa_deal f_Psa_deal_46 rfl ?_
    refine gw_getR k_Psa_deal f_Psa_deal_47 l_fldT_5_27 hc22 rfl ?_
    refine gw_iload_n k_Psa_deal f_Psa_deal_50 rfl ?_
    refine gw_iconst k_Psa_deal f_Psa_deal_51 qc_1 ?_
    refine gw_iadd k_Psa_deal f_Psa_deal_52 ?_
    refine gw_iload_n k_Psa_deal f_Psa_deal_53 rfl ?_
    refine gw_static [.inr (.inl (some 28)), .inl (x2 + 1), .inl r2] k_Psa_deal f_Psa_deal_54 l_invT_5_52 (by decide) k_Bk_put rfl (by exact Nat.le_of_ble_eq_true rfl) (dc := 0) (by decide) ?_ rfl
    refine ev_put hc28 (by decide) ?_
    show Gw zs 4 m_Psa_deal 57 [some (.inr (.inl (some 22))), some (.inl x1), some (.inl x2), some (.inl r2)] [] (g_put w3 28 57 (x2 + 1) r2) _
    refine gw_aload_n k_Psa_deal f_Psa_deal_57 rfl ?_
    refine gw_iload_n k_Psa_deal f_Psa_deal_58 rfl ?_
    refine gw_iload_n k_Psa_deal f_Psa_deal_59 rfl ?_
    refine gw_iload_n k_Psa_deal f_Psa_deal_60 rfl ?_
    refine gw_virtual [.inl x2, .inl x1, .inl r2] k_Psa_deal f_Psa_deal_61 l_invT_5_99 k_Psa_markSlot hc22 rfl rfl rfl (by exact Nat.le_of_ble_eq_true rfl) (dc := 1) (by decide) ?_ rfl
    refine h.mono (fun v w4 hh => ?_)
    obtain ⟨rfl, h⟩ := hh
    show Gw zs 4 m_Psa_deal 64 [some (.inr (.inl (some 22))), some (.inl x1), some (.inl x2), some (.inl r2)] [] w4 _
    refine gw_iload_n k_Psa_deal f_Psa_deal_64 rfl ?_
    refine gw_istore_n [some (.inr (.inl (some 22))), some (.inl r2), some (.inl x2), some (.inl r2)] k_Psa_deal f_Psa_deal_65 (Nat.le_of_ble_eq_true rfl) rfl ?_
    refine gw_iinc [some (.inr (.inl (some 22))), some (.inl r2), some (.inl (x2 + 1)), some (.inl r2)] k_Psa_deal f_Psa_deal_66 rfl qc_1 (Nat.le_of_ble_eq_true rfl) rfl ?_
    refine gw_goto (t := 25) k_Psa_deal f_Psa_deal_69 rfl ?_
    exact h
theorem sg_Psa_leastLimit_0 {zs : List Int32} {w : Wd} {Q : Option AV → Wd → Prop} (h : Ew zs 4 m_Psa_deal [.inr (.inl (some 22))] w (fun v w1 => v = none ∧ Q (some (.inl (w1 22 10))) w1)) : Gw zs 5 m_Psa_leastLimit 0 [some (.inr (.inl (some 22)))] [] w Q := by
  refine gw_aload_n k_Psa_leastLimit f_Psa_leastLimit_0 rfl ?_
  refine gw_virtual [] k_Psa_leastLimit f_Psa_leastLimit_1 l_invT_5_66 k_Psa_deal hc22 rfl rfl rfl (by exact Nat.le_of_ble_eq_true rfl) (dc := 4) (by decide) ?_ rfl
  refine h.mono (fun v w1 hh => ?_)
  obtain ⟨rfl, h⟩ := hh
  show Gw zs 5 m_Psa_leastLimit 4 [some (.inr (.inl (some 22)))] [] w1 _
  refine gw_aload_n k_Psa_leastLimit f_Psa_leastLimit_4 rfl ?_
  refine gw_getI k_Psa_leastLimit f_Psa_leastLimit_5 l_fldT_5_69 hc22 rfl ?_
  exact gw_iret k_Psa_leastLimit f_Psa_leastLimit_8 rfl h
theorem sg_Psa_firstDealt_0 {zs : List Int32} {a0 a1 : Int32} {w : Wd} {Q : Option AV → Wd → Prop} (h : Ew zs 4 m_Psa_deal [.inr (.inl (some 22))] w (fun v w1 => v = none ∧ Q (some (.inl (f_Psa_dealtPsalm w1 a0 a1 0))) w1)) : Gw zs 5 m_Psa_firstDealt 0 [some (.inr (.inl (some 22))), some (.inl a0), some (.inl a1)] [] w Q := by
  refine gw_aload_n k_Psa_firstDealt f_Psa_firstDealt_0 rfl ?_
  refine gw_virtual [] k_Psa_firstDealt f_Psa_firstDealt_1 l_invT_5_66 k_Psa_deal hc22 rfl rfl rfl (by exact Nat.le_of_ble_eq_true rfl) (dc := 4) (by decide) ?_ rfl
  refine h.mono (fun v w1 hh => ?_)
  obtain ⟨rfl, h⟩ := hh
  show Gw zs 5 m_Psa_firstDealt 4 [some (.inr (.inl (some 22))), some (.inl a0), some (.inl a1)] [] w1 _
  refine gw_aload_n k_Psa_firstDealt f_Psa_firstDealt_4 rfl ?_
  refine gw_iload_n k_Psa_firstDealt f_Psa_firstDealt_5 rfl ?_
  refine gw_iload_n k_Psa_firstDealt f_Psa_firstDealt_6 rfl ?_
  refine gw_iconst k_Psa_firstDealt f_Psa_firstDealt_7 qc_0 ?_
  refine gw_virtual [.inl a0, .inl a1, .inl 0] k_Psa_firstDealt f_Psa_firstDealt_8 l_invT_5_72 k_Psa_dealtPsalm hc22 rfl rfl rfl (by exact Nat.le_of_ble_eq_true rfl) (dc := 2) (by decide) ?_ rfl
  refine ev_Psa_dealtPsalm ?_
  show Gw zs 5 m_Psa_firstDealt 11 [some (.inr (.inl (some 22))), some (.inl a0), some (.inl a1)] [.inl (f_Psa_dealtPsalm w1 a0 a1 0)] w1 _
  exact gw_iret k_Psa_firstDealt f_Psa_firstDealt_11 rfl h
theorem sg_Psa_manyDealt_0 {zs : List Int32} {a0 a1 : Int32} {w : Wd} {Q : Option AV → Wd → Prop} (h : Ew zs 4 m_Psa_deal [.inr (.inl (some 22))] w (fun v w1 => v = none ∧ Q (some (.inl (f_Psa_countDealt w1 a0 a1))) w1)) : Gw zs 5 m_Psa_manyDealt 0 [some (.inr (.inl (some 22))), some (.inl a0), some (.inl a1)] [] w Q := by
  refine gw_aload_n k_Psa_manyDealt f_Psa_manyDealt_0 rfl ?_
  refine gw_virtual [] k_Psa_manyDealt f_Psa_manyDealt_1 l_invT_5_66 k_Psa_deal hc22 rfl rfl rfl (by exact Nat.le_of_ble_eq_true rfl) (dc := 4) (by decide) ?_ rfl
  refine h.mono (fun v w1 hh => ?_)
  obtain ⟨rfl, h⟩ := hh
  show Gw zs 5 m_Psa_manyDealt 4 [some (.inr (.inl (some 22))), some (.inl a0), some (.inl a1)] [] w1 _
  refine gw_aload_n k_Psa_manyDealt f_Psa_manyDealt_4 rfl ?_
  refine gw_iload_n k_Psa_manyDealt f_Psa_manyDealt_5 rfl ?_
  refine gw_iload_n k_Psa_manyDealt f_Psa_manyDealt_6 rfl ?_
  refine gw_virtual [.inl a0, .inl a1] k_Psa_manyDealt f_Psa_manyDealt_7 l_invT_5_76 k_Psa_countDealt hc22 rfl rfl rfl (by exact Nat.le_of_ble_eq_true rfl) (dc := 1) (by decide) ?_ rfl
  refine ev_Psa_countDealt ?_
  show Gw zs 5 m_Psa_manyDealt 10 [some (.inr (.inl (some 22))), some (.inl a0), some (.inl a1)] [.inl (f_Psa_countDealt w1 a0 a1)] w1 _
  exact gw_iret k_Psa_manyDealt f_Psa_manyDealt_10 rfl h
theorem sg_Psa_versesDealt_0 {zs : List Int32} {a0 a1 : Int32} {w : Wd} {Q : Option AV → Wd → Prop} (h : Ew zs 4 m_Psa_deal [.inr (.inl (some 22))] w (fun v w1 => v = none ∧ Gw zs 5 m_Psa_versesDealt 17 [some (.inr (.inl (some 22))), some (.inl a0), some (.inl a1), some (.inl 0), some (.inl (f_Psa_countDealt w1 a0 a1)), some (.inl 0)] [] w1 Q)) : Gw zs 5 m_Psa_versesDealt 0 [some (.inr (.inl (some 22))), some (.inl a0), some (.inl a1), none, none, none] [] w Q := by
  refine gw_aload_n k_Psa_versesDealt f_Psa_versesDealt_0 rfl ?_
  refine gw_virtual [] k_Psa_versesDealt f_Psa_versesDealt_1 l_invT_5_66 k_Psa_deal hc22 rfl rfl rfl (by exact Nat.le_of_ble_eq_true rfl) (dc := 4) (by decide) ?_ rfl
  refine h.mono (fun v w1 hh => ?_)
  obtain ⟨rfl, h⟩ := hh
  show Gw zs 5 m_Psa_versesDealt 4 [some (.inr (.inl (some 22))), some (.inl a0), some (.inl a1), none, none, none] [] w1 _
  refine gw_iconst k_Psa_versesDealt f_Psa_versesDealt_4 qc_0 ?_
  refine gw_istore_n [some (.inr (.inl (some 22))), some (.inl a0), some (.inl a1), some (.inl 0), none, none] k_Psa_versesDealt f_Psa_versesDealt_5 (Nat.le_of_ble_eq_true rfl) rfl ?_
  refine gw_aload_n k_Psa_versesDealt f_Psa_versesDealt_6 rfl ?_
  refine gw_iload_n k_Psa_versesDealt f_Psa_versesDealt_7 rfl ?_
  refine gw_iload_n k_Psa_versesDealt f_Psa_versesDealt_8 rfl ?_
  refine gw_virtual [.inl a0, .inl a1] k_Psa_versesDealt f_Psa_versesDealt_9 l_invT_5_76 k_Psa_countDealt hc22 rfl rfl rfl (by exact Nat.le_of_ble_eq_true rfl) (dc := 1) (by decide) ?_ rfl
  refine ev_Psa_countDealt ?_
  show Gw zs 5 m_Psa_versesDealt 12 [some (.inr (.inl (some 22))), some (.inl a0), some (.inl a1), some (.inl 0), none, none] [.inl (f_Psa_countDealt w1 a0 a1)] w1 _
  refine gw_istore [some (.inr (.inl (some 22))), some (.inl a0), some (.inl a1), some (.inl 0), some (.inl (f_Psa_countDealt w1 a0 a1)), none] k_Psa_versesDealt f_Psa_versesDealt_12 (Nat.le_of_ble_eq_true rfl) rfl ?_
  refine gw_iconst k_Psa_versesDealt f_Psa_versesDealt_14 qc_0 ?_
  refine gw_istore [some (.inr (.inl (some 22))), some (.inl a0), some (.inl a1), some (.inl 0), some (.inl (f_Psa_countDealt w1 a0 a1)), some (.inl 0)] k_Psa_versesDealt f_Psa_versesDealt_15 (Nat.le_of_ble_eq_true rfl) rfl ?_
  exact h
theorem sg_Psa_versesDealt_17 {zs : List Int32} {x1 x2 x3 x4 x5 : Int32} {w : Wd} {Q : Option AV → Wd → Prop} (h : ((x4 ≤ x5 → Q (some (.inl x3)) w) ∧ (¬ (x4 ≤ x5) → Gw zs 5 m_Psa_versesDealt 17 [some (.inr (.inl (some 22))), some (.inl x1), some (.inl x2), some (.inl (x3 + (f_at w 23 151 (f_Psa_dealtPsalm w x1 x2 x5)))), some (.inl x4), some (.inl (x5 + 1))] [] w Q))) : Gw zs 5 m_Psa_versesDealt 17 [some (.inr (.inl (some 22))), some (.inl x1), some (.inl x2), some (.inl x3), some (.inl x4), some (.inl x5)] [] w Q := by
  refine gw_iload k_Psa_versesDealt f_Psa_versesDealt_17 rfl ?_
  refine gw_iload k_Psa_versesDealt f_Psa_versesDealt_19 rfl ?_
  refine gw_icmp_ge (t := 48) k_Psa_versesDealt f_Psa_versesDealt_21 rfl (fun c1 => ?_) (fun c1 => ?_)
  · have h := h.1 c1
    refine gw_iload_n k_Psa_versesDealt f_Psa_versesDealt_48 rfl ?_
    exact gw_iret k_Psa_versesDealt f_Psa_versesDealt_49 rfl h
  · have h := h.2 c1
    refine gw_iload_n k_Psa_versesDealt f_Psa_versesDealt_24 rfl ?_
    refine gw_aload_n k_Psa_versesDealt f_Psa_versesDealt_25 rfl ?_
    refine gw_getR k_Psa_versesDealt f_Psa_versesDealt_26 l_fldT_5_11 hc22 rfl ?_
    refine gw_aload_n k_Psa_versesDealt f_Psa_versesDealt_29 rfl ?_
    refine gw_iload_n k_Psa_versesDealt f_Psa_versesDealt_30 rfl ?_
    refine gw_iload_n k_Psa_versesDealt f_Psa_versesDealt_31 rfl ?_
    refine gw_iload k_Psa_versesDealt f_Psa_versesDealt_32 rfl ?_
    refine gw_virtual [.inl x1, .inl x2, .inl x5] k_Psa_versesDealt f_Psa_versesDealt_34 l_invT_5_72 k_Psa_dealtPsalm hc22 rfl rfl rfl (by exact Nat.le_of_ble_eq_true rfl) (dc := 2) (by decide) ?_ rfl
    refine ev_Psa_dealtPsalm ?_
    show Gw zs 5 m_Psa_versesDealt 37 [some (.inr (.inl (some 22))), some (.inl x1), some (.inl x2), some (.inl x3), some (.inl x4), some (.inl x5)] [.inl (f_Psa_dealtPsalm w x1 x2 x5), .inr (.inl (some 23)), .inl x3] w _
    refine gw_static [.inr (.inl (some 23)), .inl (f_Psa_dealtPsalm w x1 x2 x5)] k_Psa_versesDealt f_Psa_versesDealt_37 l_invT_5_48 (by decide) k_Bk_at rfl (by exact Nat.le_of_ble_eq_true rfl) (dc := 0) (by decide) ?_ rfl
    refine ev_at hc23 (by decide) ?_
    show Gw zs 5 m_Psa_versesDealt 40 [some (.inr (.inl (some 22))), some (.inl x1), some (.inl x2), some (.inl x3), some (.inl x4), some (.inl x5)] [.inl (f_at w 23 151 (f_Psa_dealtPsalm w x1 x2 x5)), .inl x3] w _
    refine gw_iadd k_Psa_versesDealt f_Psa_versesDealt_40 ?_
    refine gw_istore_n [some (.inr (.inl (some 22))), some (.inl x1), some (.inl x2), some (.inl (x3 + (f_at w 23 151 (f_Psa_dealtPsalm w x1 x2 x5)))), some (.inl x4), some (.inl x5)] k_Psa_versesDealt f_Psa_versesDealt_41 (Nat.le_of_ble_eq_true rfl) rfl ?_
    refine gw_iinc [some (.inr (.inl (some 22))), some (.inl x1), some (.inl x2), some (.inl (x3 + (f_at w 23 151 (f_Psa_dealtPsalm w x1 x2 x5)))), some (.inl x4), some (.inl (x5 + 1))] k_Psa_versesDealt f_Psa_versesDealt_42 rfl qc_1 (Nat.le_of_ble_eq_true rfl) rfl ?_
    refine gw_goto (t := 17) k_Psa_versesDealt f_Psa_versesDealt_45 rfl ?_
    exact h
theorem sg_Bk_dealt_0 {zs : List Int32} {a0 a1 a2 : Int32} {w : Wd} {Q : Option AV → Wd → Prop} (h : ((a2 = 3 → Ew zs 5 m_Psa_leastLimit [.inr (.inl (some 22))] w (fun v w17 => ∃ r16 : Int32, v = some (.inl r16) ∧ Q (some (.inl r16)) w17)) ∧ (¬ (a2 = 3) → (((f_Bk_within a0 0 6) = 0 → Q (some (.inl (-1))) w) ∧ (¬ ((f_Bk_within a0 0 6) = 0) → (((f_Psa_hasHour w a1) = 0 → Q (some (.inl (-1))) w) ∧ (¬ ((f_Psa_hasHour w a1) = 0) → ((a2 = 0 → Ew zs 5 m_Psa_firstDealt [.inr (.inl (some 22)), .inl a0, .inl a1] w (fun v w6 => ∃ r5 : Int32, v = some (.inl r5) ∧ Q (some (.inl r5)) w6)) ∧ (a2 = 1 → Ew zs 5 m_Psa_manyDealt [.inr (.inl (some 22)), .inl a0, .inl a1] w (fun v w9 => ∃ r8 : Int32, v = some (.inl r8) ∧ Q (some (.inl r8)) w9)) ∧ (a2 = 2 → Ew zs 5 m_Psa_versesDealt [.inr (.inl (some 22)), .inl a0, .inl a1] w (fun v w12 => ∃ r11 : Int32, v = some (.inl r11) ∧ Q (some (.inl r11)) w12)) ∧ (¬ a2 = 0 → ¬ a2 = 1 → ¬ a2 = 2 → Q (some (.inl (-1))) w))))))))) : Gw zs 6 m_Bk_dealt 0 [some (.inr (.inl (some 0))), some (.inl a0), some (.inl a1), some (.inl a2)] [] w Q := by
  refine gw_iload_n k_Bk_dealt f_Bk_dealt_0 rfl ?_
  refine gw_iconst k_Bk_dealt f_Bk_dealt_1 qc_3 ?_
  refine gw_icmp_ne (t := 13) k_Bk_dealt f_Bk_dealt_2 rfl (fun c1 => ?_) (fun c1 => ?_)
  · have h := h.2 c1
    refine gw_iload_n k_Bk_dealt f_Bk_dealt_13 rfl ?_
    refine gw_iconst k_Bk_dealt f_Bk_dealt_14 qc_0 ?_
    refine gw_bipush k_Bk_dealt f_Bk_dealt_15 qb_6 ?_
    refine gw_static [.inl a0, .inl 0, .inl 6] k_Bk_dealt f_Bk_dealt_17 l_invT_10_155 (by decide) k_Bk_within rfl (by exact Nat.le_of_ble_eq_true rfl) (dc := 0) (by decide) ?_ rfl
    refine ev_Bk_within ?_
    show Gw zs 6 m_Bk_dealt 20 [some (.inr (.inl (some 0))), some (.inl a0), some (.inl a1), some (.inl a2)] [.inl (f_Bk_within a0 0 6)] w _
    refine gw_if_eq (t := 34) k_Bk_dealt f_Bk_dealt_20 rfl (fun c2 => ?_) (fun c2 => ?_)
    · have h := h.1 c2
      refine gw_iconst k_Bk_dealt f_Bk_dealt_34 qc_m1 ?_
      exact gw_iret k_Bk_dealt f_Bk_dealt_35 rfl h
    · have h := h.2 c2
      refine gw_aload_n k_Bk_dealt f_Bk_dealt_23 rfl ?_
      refine gw_getR k_Bk_dealt f_Bk_dealt_24 l_fldT_10_35 hc0 rfl ?_
      refine gw_iload_n k_Bk_dealt f_Bk_dealt_27 rfl ?_
      refine gw_virtual [.inl a1] k_Bk_dealt f_Bk_dealt_28 l_invT_10_159 k_Psa_hasHour hc22 rfl rfl rfl (by exact Nat.le_of_ble_eq_true rfl) (dc := 0) (by decide) ?_ rfl
      refine ev_Psa_hasHour ?_
      show Gw zs 6 m_Bk_dealt 31 [some (.inr (.inl (some 0))), some (.inl a0), some (.inl a1), some (.inl a2)] [.inl (f_Psa_hasHour w a1)] w _
      refine gw_if_ne (t := 36) k_Bk_dealt f_Bk_dealt_31 rfl (fun c3 => ?_) (fun c3 => ?_)
      · have h := h.2 c3
        refine gw_iload_n k_Bk_dealt f_Bk_dealt_36 rfl ?_
        refine gw_tsw k_Bk_dealt f_Bk_dealt_37 (by decide) (by decide) (fun q hq hx => ?_) (fun hx => ?_)
        · match q, hq, hx with
          | 0, hq, hx =>
            have c4 : a2 = 0 := hx.trans (by decide)
            have h := h.1 c4
            refine ⟨_, 64, rfl, rfl, ?_⟩
            refine gw_aload_n k_Bk_dealt f_Bk_dealt_64 rfl ?_
            refine gw_getR k_Bk_dealt f_Bk_dealt_65 l_fldT_10_35 hc0 rfl ?_
            refine gw_iload_n k_Bk_dealt f_Bk_dealt_68 rfl ?_
            refine gw_iload_n k_Bk_dealt f_Bk_dealt_69 rfl ?_
            refine gw_virtual [.inl a0, .inl a1] k_Bk_dealt f_Bk_dealt_70 l_invT_10_162 k_Psa_firstDealt hc22 rfl rfl rfl (by exact Nat.le_of_ble_eq_true rfl) (dc := 5) (by decide) ?_ rfl
            refine h.mono (fun v w6 hh => ?_)
            obtain ⟨r5, rfl, h⟩ := hh
            show Gw zs 6 m_Bk_dealt 73 [some (.inr (.inl (some 0))), some (.inl a0), some (.inl a1), some (.inl a2)] [.inl r5] w6 _
            exact gw_iret k_Bk_dealt f_Bk_dealt_73 rfl h
          | 1, hq, hx =>
            have c7 : a2 = 1 := hx.trans (by decide)
            have h := h.2.1 c7
            refine ⟨_, 74, rfl, rfl, ?_⟩
            refine gw_aload_n k_Bk_dealt f_Bk_dealt_74 rfl ?_
            refine gw_getR k_Bk_dealt f_Bk_dealt_75 l_fldT_10_35 hc0 rfl ?_
            refine gw_iload_n k_Bk_dealt f_Bk_dealt_78 rfl ?_
            refine gw_iload_n k_Bk_dealt f_Bk_dealt_79 rfl ?_
            refine gw_virtual [.inl a0, .inl a1] k_Bk_dealt f_Bk_dealt_80 l_invT_10_165 k_Psa_manyDealt hc22 rfl rfl rfl (by exact Nat.le_of_ble_eq_true rfl) (dc := 5) (by decide) ?_ rfl
            refine h.mono (fun v w9 hh => ?_)
            obtain ⟨r8, rfl, h⟩ := hh
            show Gw zs 6 m_Bk_dealt 83 [some (.inr (.inl (some 0))), some (.inl a0), some (.inl a1), some (.inl a2)] [.inl r8] w9 _
            exact gw_iret k_Bk_dealt f_Bk_dealt_83 rfl h
          | 2, hq, hx =>
            have c10 : a2 = 2 := hx.trans (by decide)
            have h := h.2.2.1 c10
            refine ⟨_, 84, rfl, rfl, ?_⟩
            refine gw_aload_n k_Bk_dealt f_Bk_dealt_84 rfl ?_
            refine gw_getR k_Bk_dealt f_Bk_dealt_85 l_fldT_10_35 hc0 rfl ?_
            refine gw_iload_n k_Bk_dealt f_Bk_dealt_88 rfl ?_
            refine gw_iload_n k_Bk_dealt f_Bk_dealt_89 rfl ?_
            refine gw_virtual [.inl a0, .inl a1] k_Bk_dealt f_Bk_dealt_90 l_invT_10_168 k_Psa_versesDealt hc22 rfl rfl rfl (by exact Nat.le_of_ble_eq_true rfl) (dc := 5) (by decide) ?_ rfl
            refine h.mono (fun v w12 hh => ?_)
            obtain ⟨r11, rfl, h⟩ := hh
            show Gw zs 6 m_Bk_dealt 93 [some (.inr (.inl (some 0))), some (.inl a0), some (.inl a1), some (.inl a2)] [.inl r11] w12 _
            exact gw_iret k_Bk_dealt f_Bk_dealt_93 rfl h
          | q + 3, hq, hx => exact absurd hq (by show ¬ (q + 3 < 3); omega)
        ·
          have c13 : ¬ a2 = 0 := fun c => hx 0 (by decide) (c.trans (by decide))
          have c14 : ¬ a2 = 1 := fun c => hx 1 (by decide) (c.trans (by decide))
          have c15 : ¬ a2 = 2 := fun c => hx 2 (by decide) (c.trans (by decide))
          have h := h.2.2.2 c13 c14 c15
          refine ⟨94, rfl, ?_⟩
          refine gw_iconst k_Bk_dealt f_Bk_dealt_94 qc_m1 ?_
          exact gw_iret k_Bk_dealt f_Bk_dealt_95 rfl h
      · have c3 := Decidable.not_not.mp c3
        have h := h.1 c3
        refine gw_iconst k_Bk_dealt f_Bk_dealt_34 qc_m1 ?_
        exact gw_iret k_Bk_dealt f_Bk_dealt_35 rfl h
  · have c1 := Decidable.not_not.mp c1
    have h := h.1 c1
    refine gw_aload_n k_Bk_dealt f_Bk_dealt_5 rfl ?_
    refine gw_getR k_Bk_dealt f_Bk_dealt_6 l_fldT_10_35 hc0 rfl ?_
    refine gw_virtual [] k_Bk_dealt f_Bk_dealt_9 l_invT_10_152 k_Psa_leastLimit hc22 rfl rfl rfl (by exact Nat.le_of_ble_eq_true rfl) (dc := 5) (by decide) ?_ rfl
    refine h.mono (fun v w17 hh => ?_)
    obtain ⟨r16, rfl, h⟩ := hh
    show Gw zs 6 m_Bk_dealt 12 [some (.inr (.inl (some 0))), some (.inl a0), some (.inl a1), some (.inl a2)] [.inl r16] w17 _
    exact gw_iret k_Bk_dealt f_Bk_dealt_12 rfl h
theorem sg_Psa_fixedPsalm_0 {zs : List Int32} {a0 a1 : Int32} {w : Wd} {Q : Option AV → Wd → Prop} (h : Gw zs 1 m_Psa_fixedPsalm 5 [some (.inr (.inl (some 22))), some (.inl a0), some (.inl a1), some (.inl a1), some (.inl 1)] [] w Q) : Gw zs 1 m_Psa_fixedPsalm 0 [some (.inr (.inl (some 22))), some (.inl a0), some (.inl a1), none, none] [] w Q := by
  refine gw_iload_n k_Psa_fixedPsalm f_Psa_fixedPsalm_0 rfl ?_
  refine gw_istore_n [some (.inr (.inl (some 22))), some (.inl a0), some (.inl a1), some (.inl a1), none] k_Psa_fixedPsalm f_Psa_fixedPsalm_1 (Nat.le_of_ble_eq_true rfl) rfl ?_
  refine gw_iconst k_Psa_fixedPsalm f_Psa_fixedPsalm_2 qc_1 ?_
  refine gw_istore [some (.inr (.inl (some 22))), some (.inl a0), some (.inl a1), some (.inl a1), some (.inl 1)] k_Psa_fixedPsalm f_Psa_fixedPsalm_3 (Nat.le_of_ble_eq_true rfl) rfl ?_
  exact h
theorem sg_Psa_fixedPsalm_5 {zs : List Int32} {x1 x3 x4 : Int32} {o2 : Option AV} {w : Wd} {Q : Option AV → Wd → Prop} (h : ((150 < x4 → Q (some (.inl (-1))) w) ∧ (¬ (150 < x4) → (((f_at w 24 151 x4) = x1 → ((x3 = 0 → Q (some (.inl x4)) w) ∧ (¬ (x3 = 0) → Gw zs 1 m_Psa_fixedPsalm 5 [some (.inr (.inl (some 22))), some (.inl x1), o2, some (.inl (x3 + (-1))), some (.inl (x4 + 1))] [] w Q))) ∧ (¬ ((f_at w 24 151 x4) = x1) → Gw zs 1 m_Psa_fixedPsalm 5 [some (.inr (.inl (some 22))), some (.inl x1), o2, some (.inl x3), some (.inl (x4 + 1))] [] w Q))))) : Gw zs 1 m_Psa_fixedPsalm 5 [some (.inr (.inl (some 22))), some (.inl x1), o2, some (.inl x3), some (.inl x4)] [] w Q := by
  refine gw_iload k_Psa_fixedPsalm f_Psa_fixedPsalm_5 rfl ?_
  refine gw_sipush k_Psa_fixedPsalm f_Psa_fixedPsalm_7 qs_150 ?_
  refine gw_icmp_gt (t := 42) k_Psa_fixedPsalm f_Psa_fixedPsalm_10 rfl (fun c1 => ?_) (fun c1 => ?_)
  · have h := h.1 c1
    refine gw_iconst k_Psa_fixedPsalm f_Psa_fixedPsalm_42 qc_m1 ?_
    exact gw_iret k_Psa_fixedPsalm f_Psa_fixedPsalm_43 rfl h
  · have h := h.2 c1
    refine gw_aload_n k_Psa_fixedPsalm f_Psa_fixedPsalm_13 rfl ?_
    refine gw_getR k_Psa_fixedPsalm f_Psa_fixedPsalm_14 l_fldT_5_15 hc22 rfl ?_
    refine gw_iload k_Psa_fixedPsalm f_Psa_fixedPsalm_17 rfl ?_
    refine gw_static [.inr (.inl (some 24)), .inl x4] k_Psa_fixedPsalm f_Psa_fixedPsalm_19 l_invT_5_48 (by decide) k_Bk_at rfl (by exact Nat.le_of_ble_eq_true rfl) (dc := 0) (by decide) ?_ rfl
    refine ev_at hc24 (by decide) ?_
    show Gw zs 1 m_Psa_fixedPsalm 22 [some (.inr (.inl (some 22))), some (.inl x1), o2, some (.inl x3), some (.inl x4)] [.inl (f_at w 24 151 x4)] w _
    refine gw_iload_n k_Psa_fixedPsalm f_Psa_fixedPsalm_22 rfl ?_
    refine gw_icmp_ne (t := 36) k_Psa_fixedPsalm f_Psa_fixedPsalm_23 rfl (fun c2 => ?_) (fun c2 => ?_)
    · have h := h.2 c2
      refine gw_iinc [some (.inr (.inl (some 22))), some (.inl x1), o2, some (.inl x3), some (.inl (x4 + 1))] k_Psa_fixedPsalm f_Psa_fixedPsalm_36 rfl qc_1 (Nat.le_of_ble_eq_true rfl) rfl ?_
      refine gw_goto (t := 5) k_Psa_fixedPsalm f_Psa_fixedPsalm_39 rfl ?_
      exact h
    · have c2 := Decidable.not_not.mp c2
      have h := h.1 c2
      refine gw_iload_n k_Psa_fixedPsalm f_Psa_fixedPsalm_26 rfl ?_
      refine gw_if_ne (t := 33) k_Psa_fixedPsalm f_Psa_fixedPsalm_27 rfl (fun c3 => ?_) (fun c3 => ?_)
      · have h := h.2 c3
        refine gw_iinc [some (.inr (.inl (some 22))), some (.inl x1), o2, some (.inl (x3 + (-1))), some (.inl x4)] k_Psa_fixedPsalm f_Psa_fixedPsalm_33 rfl qc_m1 (Nat.le_of_ble_eq_true rfl) rfl ?_
        refine gw_iinc [some (.inr (.inl (some 22))), some (.inl x1), o2, some (.inl (x3 + (-1))), some (.inl (x4 + 1))] k_Psa_fixedPsalm f_Psa_fixedPsalm_36 rfl qc_1 (Nat.le_of_ble_eq_true rfl) rfl ?_
        refine gw_goto (t := 5) k_Psa_fixedPsalm f_Psa_fixedPsalm_39 rfl ?_
        exact h
      · have c3 := Decidable.not_not.mp c3
        have h := h.1 c3
        refine gw_iload k_Psa_fixedPsalm f_Psa_fixedPsalm_30 rfl ?_
        exact gw_iret k_Psa_fixedPsalm f_Psa_fixedPsalm_32 rfl h
theorem sg_Psa_psalmSung_0 {zs : List Int32} {a0 a1 a2 a3 : Int32} {w : Wd} {Q : Option AV → Wd → Prop} (h : Ew zs 4 m_Psa_deal [.inr (.inl (some 22))] w (fun v w1 => v = none ∧ ((0 ≤ a3 → (((f_Psa_isFestive w1 a1 a2) = 0 → (((f_Psa_countDealt w1 a0 a1) ≤ a3 → Ew zs 1 m_Psa_fixedPsalm [.inr (.inl (some 22)), .inl a1, .inl (a3 - (f_Psa_countDealt w1 a0 a1))] w1 (fun v w6 => ∃ r5 : Int32, v = some (.inl r5) ∧ Q (some (.inl r5)) w6)) ∧ (¬ ((f_Psa_countDealt w1 a0 a1) ≤ a3) → Q (some (.inl (f_Psa_dealtPsalm w1 a0 a1 a3))) w1))) ∧ (¬ ((f_Psa_isFestive w1 a1 a2) = 0) → (((f_at w1 26 8 a1) ≤ a3 → Ew zs 1 m_Psa_fixedPsalm [.inr (.inl (some 22)), .inl a1, .inl (a3 - (f_at w1 26 8 a1))] w1 (fun v w9 => ∃ r8 : Int32, v = some (.inl r8) ∧ Q (some (.inl r8)) w9)) ∧ (¬ ((f_at w1 26 8 a1) ≤ a3) → Q (some (.inl (f_at w1 25 48 ((a1 * 6) + a3)))) w1))))) ∧ (¬ (0 ≤ a3) → Q (some (.inl (-1))) w1)))) : Gw zs 5 m_Psa_psalmSung 0 [some (.inr (.inl (some 22))), some (.inl a0), some (.inl a1), some (.inl a2), some (.inl a3), none, none] [] w Q := by
  refine gw_aload_n k_Psa_psalmSung f_Psa_psalmSung_0 rfl ?_
  refine gw_virtual [] k_Psa_psalmSung f_Psa_psalmSung_1 l_invT_5_66 k_Psa_deal hc22 rfl rfl rfl (by exact Nat.le_of_ble_eq_true rfl) (dc := 4) (by decide) ?_ rfl
  refine h.mono (fun v w1 hh => ?_)
  obtain ⟨rfl, h⟩ := hh
  show Gw zs 5 m_Psa_psalmSung 4 [some (.inr (.inl (some 22))), some (.inl a0), some (.inl a1), some (.inl a2), some (.inl a3), none, none] [] w1 _
  refine gw_iload k_Psa_psalmSung f_Psa_psalmSung_4 rfl ?_
  refine gw_if_ge (t := 11) k_Psa_psalmSung f_Psa_psalmSung_6 rfl (fun c2 => ?_) (fun c2 => ?_)
  · have h := h.1 c2
    refine gw_aload_n k_Psa_psalmSung f_Psa_psalmSung_11 rfl ?_
    refine gw_iload_n k_Psa_psalmSung f_Psa_psalmSung_12 rfl ?_
    refine gw_iload_n k_Psa_psalmSung f_Psa_psalmSung_13 rfl ?_
    refine gw_virtual [.inl a1, .inl a2] k_Psa_psalmSung f_Psa_psalmSung_14 l_invT_5_80 k_Psa_isFestive hc22 rfl rfl rfl (by exact Nat.le_of_ble_eq_true rfl) (dc := 1) (by decide) ?_ rfl
    refine ev_Psa_isFestive ?_
    show Gw zs 5 m_Psa_psalmSung 17 [some (.inr (.inl (some 22))), some (.inl a0), some (.inl a1), some (.inl a2), some (.inl a3), none, none] [.inl (f_Psa_isFestive w1 a1 a2)] w1 _
    refine gw_istore [some (.inr (.inl (some 22))), some (.inl a0), some (.inl a1), some (.inl a2), some (.inl a3), some (.inl (f_Psa_isFestive w1 a1 a2)), none] k_Psa_psalmSung f_Psa_psalmSung_17 (Nat.le_of_ble_eq_true rfl) rfl ?_
    refine gw_iload k_Psa_psalmSung f_Psa_psalmSung_19 rfl ?_
    refine gw_if_eq (t := 35) k_Psa_psalmSung f_Psa_psalmSung_21 rfl (fun c3 => ?_) (fun c3 => ?_)
    · have h := h.1 c3
      refine gw_aload_n k_Psa_psalmSung f_Psa_psalmSung_35 rfl ?_
      refine gw_iload_n k_Psa_psalmSung f_Psa_psalmSung_36 rfl ?_
      refine gw_iload_n k_Psa_psalmSung f_Psa_psalmSung_37 rfl ?_
      refine gw_virtual [.inl a0, .inl a1] k_Psa_psalmSung f_Psa_psalmSung_38 l_invT_5_76 k_Psa_countDealt hc22 rfl rfl rfl (by exact Nat.le_of_ble_eq_true rfl) (dc := 1) (by decide) ?_ rfl
      refine ev_Psa_countDealt ?_
      show Gw zs 5 m_Psa_psalmSung 41 [some (.inr (.inl (some 22))), some (.inl a0), some (.inl a1), some (.inl a2), some (.inl a3), some (.inl (f_Psa_isFestive w1 a1 a2)), none] [.inl (f_Psa_countDealt w1 a0 a1)] w1 _
      refine gw_istore [some (.inr (.inl (some 22))), some (.inl a0), some (.inl a1), some (.inl a2), some (.inl a3), some (.inl (f_Psa_isFestive w1 a1 a2)), some (.inl (f_Psa_countDealt w1 a0 a1))] k_Psa_psalmSung f_Psa_psalmSung_41 (Nat.le_of_ble_eq_true rfl) rfl ?_
      refine gw_iload k_Psa_psalmSung f_Psa_psalmSung_43 rfl ?_
      refine gw_iload k_Psa_psalmSung f_Psa_psalmSung_45 rfl ?_
      refine gw_icmp_ge (t := 81) k_Psa_psalmSung f_Psa_psalmSung_47 rfl (fun c4 => ?_) (fun c4 => ?_)
      · have h := h.1 c4
        refine gw_aload_n k_Psa_psalmSung f_Psa_psalmSung_81 rfl ?_
        refine gw_iload_n k_Psa_psalmSung f_Psa_psalmSung_82 rfl ?_
        refine gw_iload k_Psa_psalmSung f_Psa_psalmSung_83 rfl ?_
        refine gw_iload k_Psa_psalmSung f_Psa_psalmSung_85 rfl ?_
        refine gw_isub k_Psa_psalmSung f_Psa_psalmSung_87 ?_
        refine gw_virtual [.inl a1, .inl (a3 - (f_Psa_countDealt w1 a0 a1))] k_Psa_psalmSung f_Psa_psalmSung_88 l_invT_5_84 k_Psa_fixedPsalm hc22 rfl rfl rfl (by exact Nat.le_of_ble_eq_true rfl) (dc := 1) (by decide) ?_ rfl
        refine h.mono (fun v w6 hh => ?_)
        obtain ⟨r5, rfl, h⟩ := hh
        show Gw zs 5 m_Psa_psalmSung 91 [some (.inr (.inl (some 22))), some (.inl a0), some (.inl a1), some (.inl a2), some (.inl a3), some (.inl (f_Psa_isFestive w1 a1 a2)), some (.inl (f_Psa_countDealt w1 a0 a1))] [.inl r5] w6 _
        exact gw_iret k_Psa_psalmSung f_Psa_psalmSung_91 rfl h
      · have h := h.2 c4
        refine gw_iload k_Psa_psalmSung f_Psa_psalmSung_50 rfl ?_
        refine gw_if_eq (t := 72) k_Psa_psalmSung f_Psa_psalmSung_52 rfl (fun _ => ?_) (fun c => absurd c3 c)
        refine gw_aload_n k_Psa_psalmSung f_Psa_psalmSung_72 rfl ?_
        refine gw_iload_n k_Psa_psalmSung f_Psa_psalmSung_73 rfl ?_
        refine gw_iload_n k_Psa_psalmSung f_Psa_psalmSung_74 rfl ?_
        refine gw_iload k_Psa_psalmSung f_Psa_psalmSung_75 rfl ?_
        refine gw_virtual [.inl a0, .inl a1, .inl a3] k_Psa_psalmSung f_Psa_psalmSung_77 l_invT_5_72 k_Psa_dealtPsalm hc22 rfl rfl rfl (by exact Nat.le_of_ble_eq_true rfl) (dc := 2) (by decide) ?_ rfl
        refine ev_Psa_dealtPsalm ?_
        show Gw zs 5 m_Psa_psalmSung 80 [some (.inr (.inl (some 22))), some (.inl a0), some (.inl a1), some (.inl a2), some (.inl a3), some (.inl (f_Psa_isFestive w1 a1 a2)), some (.inl (f_Psa_countDealt w1 a0 a1))] [.inl (f_Psa_dealtPsalm w1 a0 a1 a3)] w1 _
        exact gw_iret k_Psa_psalmSung f_Psa_psalmSung_80 rfl h
    · have h := h.2 c3
      refine gw_aload_n k_Psa_psalmSung f_Psa_psalmSung_24 rfl ?_
      refine gw_getR k_Psa_psalmSung f_Psa_psalmSung_25 l_fldT_5_21 hc22 rfl ?_
      refine gw_iload_n k_Psa_psalmSung f_Psa_psalmSung_28 rfl ?_
      refine gw_static [.inr (.inl (some 26)), .inl a1] k_Psa_psalmSung f_Psa_psalmSung_29 l_invT_5_48 (by decide) k_Bk_at rfl (by exact Nat.le_of_ble_eq_true rfl) (dc := 0) (by decide) ?_ rfl
      refine ev_at hc26 (by decide) ?_
      show Gw zs 5 m_Psa_psalmSung 32 [some (.inr (.inl (some 22))), some (.inl a0), some (.inl a1), some (.inl a2), some (.inl a3), some (.inl (f_Psa_isFestive w1 a1 a2)), none] [.inl (f_at w1 26 8 a1)] w1 _
      refine gw_goto (t := 41) k_Psa_psalmSung f_Psa_psalmSung_32 rfl ?_
      refine gw_istore [some (.inr (.inl (some 22))), some (.inl a0), some (.inl a1), some (.inl a2), some (.inl a3), some (.inl (f_Psa_isFestive w1 a1 a2)), some (.inl (f_at w1 26 8 a1))] k_Psa_psalmSung f_Psa_psalmSung_41 (Nat.le_of_ble_eq_true rfl) rfl ?_
      refine gw_iload k_Psa_psalmSung f_Psa_psalmSung_43 rfl ?_
      refine gw_iload k_Psa_psalmSung f_Psa_psalmSung_45 rfl ?_
      refine gw_icmp_ge (t := 81) k_Psa_psalmSung f_Psa_psalmSung_47 rfl (fun c7 => ?_) (fun c7 => ?_)
      · have h := h.1 c7
        refine gw_aload_n k_Psa_psalmSung f_Psa_psalmSung_81 rfl ?_
        refine gw_iload_n k_Psa_psalmSung f_Psa_psalmSung_82 rfl ?_
        refine gw_iload k_Psa_psalmSung f_Psa_psalmSung_83 rfl ?_
        refine gw_iload k_Psa_psalmSung f_Psa_psalmSung_85 rfl ?_
        refine gw_isub k_Psa_psalmSung f_Psa_psalmSung_87 ?_
        refine gw_virtual [.inl a1, .inl (a3 - (f_at w1 26 8 a1))] k_Psa_psalmSung f_Psa_psalmSung_88 l_invT_5_84 k_Psa_fixedPsalm hc22 rfl rfl rfl (by exact Nat.le_of_ble_eq_true rfl) (dc := 1) (by decide) ?_ rfl
        refine h.mono (fun v w9 hh => ?_)
        obtain ⟨r8, rfl, h⟩ := hh
        show Gw zs 5 m_Psa_psalmSung 91 [some (.inr (.inl (some 22))), some (.inl a0), some (.inl a1), some (.inl a2), some (.inl a3), some (.inl (f_Psa_isFestive w1 a1 a2)), some (.inl (f_at w1 26 8 a1))] [.inl r8] w9 _
        exact gw_iret k_Psa_psalmSung f_Psa_psalmSung_91 rfl h
      · have h := h.2 c7
        refine gw_iload k_Psa_psalmSung f_Psa_psalmSung_50 rfl ?_
        refine gw_if_eq (t := 72) k_Psa_psalmSung f_Psa_psalmSung_52 rfl (fun c => absurd c c3) (fun _ => ?_)
        refine gw_aload_n k_Psa_psalmSung f_Psa_psalmSung_55 rfl ?_
        refine gw_getR k_Psa_psalmSung f_Psa_psalmSung_56 l_fldT_5_18 hc22 rfl ?_
        refine gw_iload_n k_Psa_psalmSung f_Psa_psalmSung_59 rfl ?_
        refine gw_bipush k_Psa_psalmSung f_Psa_psalmSung_60 qb_6 ?_
        refine gw_imul k_Psa_psalmSung f_Psa_psalmSung_62 ?_
        refine gw_iload k_Psa_psalmSung f_Psa_psalmSung_63 rfl ?_
        refine gw_iadd k_Psa_psalmSung f_Psa_psalmSung_65 ?_
        refine gw_static [.inr (.inl (some 25)), .inl ((a1 * 6) + a3)] k_Psa_psalmSung f_Psa_psalmSung_66 l_invT_5_48 (by decide) k_Bk_at rfl (by exact Nat.le_of_ble_eq_true rfl) (dc := 0) (by decide) ?_ rfl
        refine ev_at hc25 (by decide) ?_
        show Gw zs 5 m_Psa_psalmSung 69 [some (.inr (.inl (some 22))), some (.inl a0), some (.inl a1), some (.inl a2), some (.inl a3), some (.inl (f_Psa_isFestive w1 a1 a2)), some (.inl (f_at w1 26 8 a1))] [.inl (f_at w1 25 48 ((a1 * 6) + a3))] w1 _
        refine gw_goto (t := 80) k_Psa_psalmSung f_Psa_psalmSung_69 rfl ?_
        exact gw_iret k_Psa_psalmSung f_Psa_psalmSung_80 rfl h
  · have h := h.2 c2
    refine gw_iconst k_Psa_psalmSung f_Psa_psalmSung_9 qc_m1 ?_
    exact gw_iret k_Psa_psalmSung f_Psa_psalmSung_10 rfl h
theorem sg_Bk_sung_0 {zs : List Int32} {a0 a1 a2 a3 : Int32} {w : Wd} {Q : Option AV → Wd → Prop} (h : (((f_Psa_hasHour w a2) = 0 → Q (some (.inl (-1))) w) ∧ (¬ ((f_Psa_hasHour w a2) = 0) → Ew zs 6 m_Alm_openAt [.inr (.inl (some 16)), .inl a0, .inl a1] w (fun v w3 => ∃ r2 : Int32, v = some (.inl r2) ∧ ((r2 = 0 → Q (some (.inl (-1))) w3) ∧ (¬ (r2 = 0) → Ew zs 5 m_Psa_psalmSung [.inr (.inl (some 22)), .inl (f_Alm_weekdayOf w3 a1), .inl a2, .inl (f_Alm_rankOn w3 a1), .inl a3] w3 (fun v w6 => ∃ r5 : Int32, v = some (.inl r5) ∧ Q (some (.inl r5)) w6))))))) : Gw zs 7 m_Bk_sung 0 [some (.inr (.inl (some 0))), some (.inl a0), some (.inl a1), some (.inl a2), some (.inl a3)] [] w Q := by
  refine gw_aload_n k_Bk_sung f_Bk_sung_0 rfl ?_
  refine gw_getR k_Bk_sung f_Bk_sung_1 l_fldT_10_35 hc0 rfl ?_
  refine gw_iload_n k_Bk_sung f_Bk_sung_4 rfl ?_
  refine gw_virtual [.inl a2] k_Bk_sung f_Bk_sung_5 l_invT_10_159 k_Psa_hasHour hc22 rfl rfl rfl (by exact Nat.le_of_ble_eq_true rfl) (dc := 0) (by decide) ?_ rfl
  refine ev_Psa_hasHour ?_
  show Gw zs 7 m_Bk_sung 8 [some (.inr (.inl (some 0))), some (.inl a0), some (.inl a1), some (.inl a2), some (.inl a3)] [.inl (f_Psa_hasHour w a2)] w _
  refine gw_if_eq (t := 23) k_Bk_sung f_Bk_sung_8 rfl (fun c1 => ?_) (fun c1 => ?_)
  · have h := h.1 c1
    refine gw_iconst k_Bk_sung f_Bk_sung_23 qc_m1 ?_
    exact gw_iret k_Bk_sung f_Bk_sung_24 rfl h
  · have h := h.2 c1
    refine gw_aload_n k_Bk_sung f_Bk_sung_11 rfl ?_
    refine gw_getR k_Bk_sung f_Bk_sung_12 l_fldT_10_28 hc0 rfl ?_
    refine gw_iload_n k_Bk_sung f_Bk_sung_15 rfl ?_
    refine gw_iload_n k_Bk_sung f_Bk_sung_16 rfl ?_
    refine gw_virtual [.inl a0, .inl a1] k_Bk_sung f_Bk_sung_17 l_invT_10_107 k_Alm_openAt hc16 rfl rfl rfl (by exact Nat.le_of_ble_eq_true rfl) (dc := 6) (by decide) ?_ rfl
    refine h.mono (fun v w3 hh => ?_)
    obtain ⟨r2, rfl, h⟩ := hh
    show Gw zs 7 m_Bk_sung 20 [some (.inr (.inl (some 0))), some (.inl a0), some (.inl a1), some (.inl a2), some (.inl a3)] [.inl r2] w3 _
    refine gw_if_ne (t := 25) k_Bk_sung f_Bk_sung_20 rfl (fun c4 => ?_) (fun c4 => ?_)
    · have h := h.2 c4
      refine gw_aload_n k_Bk_sung f_Bk_sung_25 rfl ?_
      refine gw_getR k_Bk_sung f_Bk_sung_26 l_fldT_10_35 hc0 rfl ?_
      refine gw_aload_n k_Bk_sung f_Bk_sung_29 rfl ?_
      refine gw_getR k_Bk_sung f_Bk_sung_30 l_fldT_10_28 hc0 rfl ?_
      refine gw_iload_n k_Bk_sung f_Bk_sung_33 rfl ?_
      refine gw_virtual [.inl a1] k_Bk_sung f_Bk_sung_34 l_invT_10_171 k_Alm_weekdayOf hc16 rfl rfl rfl (by exact Nat.le_of_ble_eq_true rfl) (dc := 0) (by decide) ?_ rfl
      refine ev_Alm_weekdayOf ?_
      show Gw zs 7 m_Bk_sung 37 [some (.inr (.inl (some 0))), some (.inl a0), some (.inl a1), some (.inl a2), some (.inl a3)] [.inl (f_Alm_weekdayOf w3 a1), .inr (.inl (some 22))] w3 _
      refine gw_iload_n k_Bk_sung f_Bk_sung_37 rfl ?_
      refine gw_aload_n k_Bk_sung f_Bk_sung_38 rfl ?_
      refine gw_getR k_Bk_sung f_Bk_sung_39 l_fldT_10_28 hc0 rfl ?_
      refine gw_iload_n k_Bk_sung f_Bk_sung_42 rfl ?_
      refine gw_virtual [.inl a1] k_Bk_sung f_Bk_sung_43 l_invT_10_174 k_Alm_rankOn hc16 rfl rfl rfl (by exact Nat.le_of_ble_eq_true rfl) (dc := 1) (by decide) ?_ rfl
      refine ev_Alm_rankOn ?_
      show Gw zs 7 m_Bk_sung 46 [some (.inr (.inl (some 0))), some (.inl a0), some (.inl a1), some (.inl a2), some (.inl a3)] [.inl (f_Alm_rankOn w3 a1), .inl a2, .inl (f_Alm_weekdayOf w3 a1), .inr (.inl (some 22))] w3 _
      refine gw_iload k_Bk_sung f_Bk_sung_46 rfl ?_
      refine gw_virtual [.inl (f_Alm_weekdayOf w3 a1), .inl a2, .inl (f_Alm_rankOn w3 a1), .inl a3] k_Bk_sung f_Bk_sung_48 l_invT_10_177 k_Psa_psalmSung hc22 rfl rfl rfl (by exact Nat.le_of_ble_eq_true rfl) (dc := 5) (by decide) ?_ rfl
      refine h.mono (fun v w6 hh => ?_)
      obtain ⟨r5, rfl, h⟩ := hh
      show Gw zs 7 m_Bk_sung 51 [some (.inr (.inl (some 0))), some (.inl a0), some (.inl a1), some (.inl a2), some (.inl a3)] [.inl r5] w6 _
      exact gw_iret k_Bk_sung f_Bk_sung_51 rfl h
    · have c4 := Decidable.not_not.mp c4
      have h := h.1 c4
      refine gw_iconst k_Bk_sung f_Bk_sung_23 qc_m1 ?_
      exact gw_iret k_Bk_sung f_Bk_sung_24 rfl h
theorem sg_Psa_countFestal_0 {zs : List Int32} {a0 a1 : Int32} {w : Wd} {Q : Option AV → Wd → Prop} (h : Gw zs 1 m_Psa_countFestal 15 [some (.inr (.inl (some 22))), some (.inl a0), some (.inl a1), some (.inl 0), some (.inl (f_at w 26 8 a0)), some (.inl 0)] [] w Q) : Gw zs 1 m_Psa_countFestal 0 [some (.inr (.inl (some 22))), some (.inl a0), some (.inl a1), none, none, none] [] w Q := by
  refine gw_iconst k_Psa_countFestal f_Psa_countFestal_0 qc_0 ?_
  refine gw_istore_n [some (.inr (.inl (some 22))), some (.inl a0), some (.inl a1), some (.inl 0), none, none] k_Psa_countFestal f_Psa_countFestal_1 (Nat.le_of_ble_eq_true rfl) rfl ?_
  refine gw_aload_n k_Psa_countFestal f_Psa_countFestal_2 rfl ?_
  refine gw_getR k_Psa_countFestal f_Psa_countFestal_3 l_fldT_5_21 hc22 rfl ?_
  refine gw_iload_n k_Psa_countFestal f_Psa_countFestal_6 rfl ?_
  refine gw_static [.inr (.inl (some 26)), .inl a0] k_Psa_countFestal f_Psa_countFestal_7 l_invT_5_48 (by decide) k_Bk_at rfl (by exact Nat.le_of_ble_eq_true rfl) (dc := 0) (by decide) ?_ rfl
  refine ev_at hc26 (by decide) ?_
  show Gw zs 1 m_Psa_countFestal 10 [some (.inr (.inl (some 22))), some (.inl a0), some (.inl a1), some (.inl 0), none, none] [.inl (f_at w 26 8 a0)] w _
  refine gw_istore [some (.inr (.inl (some 22))), some (.inl a0), some (.inl a1), some (.inl 0), some (.inl (f_at w 26 8 a0)), none] k_Psa_countFestal f_Psa_countFestal_10 (Nat.le_of_ble_eq_true rfl) rfl ?_
  refine gw_iconst k_Psa_countFestal f_Psa_countFestal_12 qc_0 ?_
  refine gw_istore [some (.inr (.inl (some 22))), some (.inl a0), some (.inl a1), some (.inl 0), some (.inl (f_at w 26 8 a0)), some (.inl 0)] k_Psa_countFestal f_Psa_countFestal_13 (Nat.le_of_ble_eq_true rfl) rfl ?_
  exact h
theorem sg_Psa_countFestal_15 {zs : List Int32} {x1 x2 x3 x4 x5 : Int32} {w : Wd} {Q : Option AV → Wd → Prop} (h : ((x4 ≤ x5 → Q (some (.inl x3)) w) ∧ (¬ (x4 ≤ x5) → (((f_at w 25 48 ((x1 * 6) + x5)) = x2 → Gw zs 1 m_Psa_countFestal 15 [some (.inr (.inl (some 22))), some (.inl x1), some (.inl x2), some (.inl (x3 + 1)), some (.inl x4), some (.inl (x5 + 1))] [] w Q) ∧ (¬ ((f_at w 25 48 ((x1 * 6) + x5)) = x2) → Gw zs 1 m_Psa_countFestal 15 [some (.inr (.inl (some 22))), some (.inl x1), some (.inl x2), some (.inl x3), some (.inl x4), some (.inl (x5 + 1))] [] w Q))))) : Gw zs 1 m_Psa_countFestal 15 [some (.inr (.inl (some 22))), some (.inl x1), some (.inl x2), some (.inl x3), some (.inl x4), some (.inl x5)] [] w Q := by
  refine gw_iload k_Psa_countFestal f_Psa_countFestal_15 rfl ?_
  refine gw_iload k_Psa_countFestal f_Psa_countFestal_17 rfl ?_
  refine gw_icmp_ge (t := 49) k_Psa_countFestal f_Psa_countFestal_19 rfl (fun c1 => ?_) (fun c1 => ?_)
  · have h := h.1 c1
    refine gw_iload_n k_Psa_countFestal f_Psa_countFestal_49 rfl ?_
    exact gw_iret k_Psa_countFestal f_Psa_countFestal_50 rfl h
  · have h := h.2 c1
    refine gw_aload_n k_Psa_countFestal f_Psa_countFestal_22 rfl ?_
    refine gw_getR k_Psa_countFestal f_Psa_countFestal_23 l_fldT_5_18 hc22 rfl ?_
    refine gw_iload_n k_Psa_countFestal f_Psa_countFestal_26 rfl ?_
    refine gw_bipush k_Psa_countFestal f_Psa_countFestal_27 qb_6 ?_
    refine gw_imul k_Psa_countFestal f_Psa_countFestal_29 ?_
    refine gw_iload k_Psa_countFestal f_Psa_countFestal_30 rfl ?_
    refine gw_iadd k_Psa_countFestal f_Psa_countFestal_32 ?_
    refine gw_static [.inr (.inl (some 25)), .inl ((x1 * 6) + x5)] k_Psa_countFestal f_Psa_countFestal_33 l_invT_5_48 (by decide) k_Bk_at rfl (by exact Nat.le_of_ble_eq_true rfl) (dc := 0) (by decide) ?_ rfl
    refine ev_at hc25 (by decide) ?_
    show Gw zs 1 m_Psa_countFestal 36 [some (.inr (.inl (some 22))), some (.inl x1), some (.inl x2), some (.inl x3), some (.inl x4), some (.inl x5)] [.inl (f_at w 25 48 ((x1 * 6) + x5))] w _
    refine gw_iload_n k_Psa_countFestal f_Psa_countFestal_36 rfl ?_
    refine gw_icmp_ne (t := 43) k_Psa_countFestal f_Psa_countFestal_37 rfl (fun c2 => ?_) (fun c2 => ?_)
    · have h := h.2 c2
      refine gw_iinc [some (.inr (.inl (some 22))), some (.inl x1), some (.inl x2), some (.inl x3), some (.inl x4), some (.inl (x5 + 1))] k_Psa_countFestal f_Psa_countFestal_43 rfl qc_1 (Nat.le_of_ble_eq_true rfl) rfl ?_
      refine gw_goto (t := 15) k_Psa_countFestal f_Psa_countFestal_46 rfl ?_
      exact h
    · have c2 := Decidable.not_not.mp c2
      have h := h.1 c2
      refine gw_iinc [some (.inr (.inl (some 22))), some (.inl x1), some (.inl x2), some (.inl (x3 + 1)), some (.inl x4), some (.inl x5)] k_Psa_countFestal f_Psa_countFestal_40 rfl qc_1 (Nat.le_of_ble_eq_true rfl) rfl ?_
      refine gw_iinc [some (.inr (.inl (some 22))), some (.inl x1), some (.inl x2), some (.inl (x3 + 1)), some (.inl x4), some (.inl (x5 + 1))] k_Psa_countFestal f_Psa_countFestal_43 rfl qc_1 (Nat.le_of_ble_eq_true rfl) rfl ?_
      refine gw_goto (t := 15) k_Psa_countFestal f_Psa_countFestal_46 rfl ?_
      exact h
theorem sg_Psa_timesSung_0 {zs : List Int32} {a0 a1 a2 : Int32} {w : Wd} {Q : Option AV → Wd → Prop} (h : Ew zs 4 m_Psa_deal [.inr (.inl (some 22))] w (fun v w1 => v = none ∧ (((f_at w1 24 151 a2) = (-1) → Gw zs 5 m_Psa_timesSung 26 [some (.inr (.inl (some 22))), some (.inl a0), some (.inl a1), some (.inl a2), some (.inl 0), some (.inl 0)] [] w1 Q) ∧ (¬ ((f_at w1 24 151 a2) = (-1)) → Gw zs 5 m_Psa_timesSung 26 [some (.inr (.inl (some 22))), some (.inl a0), some (.inl a1), some (.inl a2), some (.inl 1), some (.inl 0)] [] w1 Q)))) : Gw zs 5 m_Psa_timesSung 0 [some (.inr (.inl (some 22))), some (.inl a0), some (.inl a1), some (.inl a2), none, none] [] w Q := by
  refine gw_aload_n k_Psa_timesSung f_Psa_timesSung_0 rfl ?_
  refine gw_virtual [] k_Psa_timesSung f_Psa_timesSung_1 l_invT_5_66 k_Psa_deal hc22 rfl rfl rfl (by exact Nat.le_of_ble_eq_true rfl) (dc := 4) (by decide) ?_ rfl
  refine h.mono (fun v w1 hh => ?_)
  obtain ⟨rfl, h⟩ := hh
  show Gw zs 5 m_Psa_timesSung 4 [some (.inr (.inl (some 22))), some (.inl a0), some (.inl a1), some (.inl a2), none, none] [] w1 _
  refine gw_aload_n k_Psa_timesSung f_Psa_timesSung_4 rfl ?_
  refine gw_getR k_Psa_timesSung f_Psa_timesSung_5 l_fldT_5_15 hc22 rfl ?_
  refine gw_iload_n k_Psa_timesSung f_Psa_timesSung_8 rfl ?_
  refine gw_static [.inr (.inl (some 24)), .inl a2] k_Psa_timesSung f_Psa_timesSung_9 l_invT_5_48 (by decide) k_Bk_at rfl (by exact Nat.le_of_ble_eq_true rfl) (dc := 0) (by decide) ?_ rfl
  refine ev_at hc24 (by decide) ?_
  show Gw zs 5 m_Psa_timesSung 12 [some (.inr (.inl (some 22))), some (.inl a0), some (.inl a1), some (.inl a2), none, none] [.inl (f_at w1 24 151 a2)] w1 _
  refine gw_iconst k_Psa_timesSung f_Psa_timesSung_12 qc_m1 ?_
  refine gw_icmp_ne (t := 20) k_Psa_timesSung f_Psa_timesSung_13 rfl (fun c2 => ?_) (fun c2 => ?_)
  · have h := h.2 c2
    refine gw_iconst k_Psa_timesSung f_Psa_timesSung_20 qc_1 ?_
    refine gw_istore [some (.inr (.inl (some 22))), some (.inl a0), some (.inl a1), some (.inl a2), some (.inl 1), none] k_Psa_timesSung f_Psa_timesSung_21 (Nat.le_of_ble_eq_true rfl) rfl ?_
    refine gw_iconst k_Psa_timesSung f_Psa_timesSung_23 qc_0 ?_
    refine gw_istore [some (.inr (.inl (some 22))), some (.inl a0), some (.inl a1), some (.inl a2), some (.inl 1), some (.inl 0)] k_Psa_timesSung f_Psa_timesSung_24 (Nat.le_of_ble_eq_true rfl) rfl ?_
    exact h
  · have c2 := Decidable.not_not.mp c2
    have h := h.1 c2
    refine gw_iconst k_Psa_timesSung f_Psa_timesSung_16 qc_0 ?_
    refine gw_goto (t := 21) k_Psa_timesSung f_Psa_timesSung_17 rfl ?_
    refine gw_istore [some (.inr (.inl (some 22))), some (.inl a0), some (.inl a1), some (.inl a2), some (.inl 0), none] k_Psa_timesSung f_Psa_timesSung_21 (Nat.le_of_ble_eq_true rfl) rfl ?_
    refine gw_iconst k_Psa_timesSung f_Psa_timesSung_23 qc_0 ?_
    refine gw_istore [some (.inr (.inl (some 22))), some (.inl a0), some (.inl a1), some (.inl a2), some (.inl 0), some (.inl 0)] k_Psa_timesSung f_Psa_timesSung_24 (Nat.le_of_ble_eq_true rfl) rfl ?_
    exact h
theorem sg_Psa_timesSung_26 {zs : List Int32} {x1 x2 x3 x4 x5 : Int32} {w : Wd} {Q : Option AV → Wd → Prop} (h : (((w 22 8) ≤ x5 → Q (some (.inl x4)) w) ∧ (¬ ((w 22 8) ≤ x5) → (((f_Psa_isFestive w x5 x2) = 0 → (((f_at w 29 151 x3) = ((x1 * (w 22 8)) + x5) → Gw zs 5 m_Psa_timesSung 26 [some (.inr (.inl (some 22))), some (.inl x1), some (.inl x2), some (.inl x3), some (.inl (x4 + 1)), some (.inl (x5 + 1))] [] w Q) ∧ (¬ ((f_at w 29 151 x3) = ((x1 * (w 22 8)) + x5)) → Gw zs 5 m_Psa_timesSung 26 [some (.inr (.inl (some 22))), some (.inl x1), some (.inl x2), some (.inl x3), some (.inl x4), some (.inl (x5 + 1))] [] w Q))) ∧ (¬ ((f_Psa_isFestive w x5 x2) = 0) → Ew zs 1 m_Psa_countFestal [.inr (.inl (some 22)), .inl x5, .inl x3] w (fun v w5 => ∃ r4 : Int32, v = some (.inl r4) ∧ Gw zs 5 m_Psa_timesSung 26 [some (.inr (.inl (some 22))), some (.inl x1), some (.inl x2), some (.inl x3), some (.inl (x4 + r4)), some (.inl (x5 + 1))] [] w5 Q)))))) : Gw zs 5 m_Psa_timesSung 26 [some (.inr (.inl (some 22))), some (.inl x1), some (.inl x2), some (.inl x3), some (.inl x4), some (.inl x5)] [] w Q := by
  refine gw_iload k_Psa_timesSung f_Psa_timesSung_26 rfl ?_
  refine gw_aload_n k_Psa_timesSung f_Psa_timesSung_28 rfl ?_
  refine gw_getI k_Psa_timesSung f_Psa_timesSung_29 l_fldT_5_33 hc22 rfl ?_
  refine gw_icmp_ge (t := 89) k_Psa_timesSung f_Psa_timesSung_32 rfl (fun c1 => ?_) (fun c1 => ?_)
  · have h := h.1 c1
    refine gw_iload k_Psa_timesSung f_Psa_timesSung_89 rfl ?_
    exact gw_iret k_Psa_timesSung f_Psa_timesSung_91 rfl h
  · have h := h.2 c1
    refine gw_aload_n k_Psa_timesSung f_Psa_timesSung_35 rfl ?_
    refine gw_iload k_Psa_timesSung f_Psa_timesSung_36 rfl ?_
    refine gw_iload_n k_Psa_timesSung f_Psa_timesSung_38 rfl ?_
    refine gw_virtual [.inl x5, .inl x2] k_Psa_timesSung f_Psa_timesSung_39 l_invT_5_80 k_Psa_isFestive hc22 rfl rfl rfl (by exact Nat.le_of_ble_eq_true rfl) (dc := 1) (by decide) ?_ rfl
    refine ev_Psa_isFestive ?_
    show Gw zs 5 m_Psa_timesSung 42 [some (.inr (.inl (some 22))), some (.inl x1), some (.inl x2), some (.inl x3), some (.inl x4), some (.inl x5)] [.inl (f_Psa_isFestive w x5 x2)] w _
    refine gw_if_eq (t := 60) k_Psa_timesSung f_Psa_timesSung_42 rfl (fun c2 => ?_) (fun c2 => ?_)
    · have h := h.1 c2
      refine gw_aload_n k_Psa_timesSung f_Psa_timesSung_60 rfl ?_
      refine gw_getR k_Psa_timesSung f_Psa_timesSung_61 l_fldT_5_30 hc22 rfl ?_
      refine gw_iload_n k_Psa_timesSung f_Psa_timesSung_64 rfl ?_
      refine gw_static [.inr (.inl (some 29)), .inl x3] k_Psa_timesSung f_Psa_timesSung_65 l_invT_5_48 (by decide) k_Bk_at rfl (by exact Nat.le_of_ble_eq_true rfl) (dc := 0) (by decide) ?_ rfl
      refine ev_at hc29 (by decide) ?_
      show Gw zs 5 m_Psa_timesSung 68 [some (.inr (.inl (some 22))), some (.inl x1), some (.inl x2), some (.inl x3), some (.inl x4), some (.inl x5)] [.inl (f_at w 29 151 x3)] w _
      refine gw_iload_n k_Psa_timesSung f_Psa_timesSung_68 rfl ?_
      refine gw_aload_n k_Psa_timesSung f_Psa_timesSung_69 rfl ?_
      refine gw_getI k_Psa_timesSung f_Psa_timesSung_70 l_fldT_5_33 hc22 rfl ?_
      refine gw_imul k_Psa_timesSung f_Psa_timesSung_73 ?_
      refine gw_iload k_Psa_timesSung f_Psa_timesSung_74 rfl ?_
      refine gw_iadd k_Psa_timesSung f_Psa_timesSung_76 ?_
      refine gw_icmp_ne (t := 83) k_Psa_timesSung f_Psa_timesSung_77 rfl (fun c3 => ?_) (fun c3 => ?_)
      · have h := h.2 c3
        refine gw_iinc [some (.inr (.inl (some 22))), some (.inl x1), some (.inl x2), some (.inl x3), some (.inl x4), some (.inl (x5 + 1))] k_Psa_timesSung f_Psa_timesSung_83 rfl qc_1 (Nat.le_of_ble_eq_true rfl) rfl ?_
        refine gw_goto (t := 26) k_Psa_timesSung f_Psa_timesSung_86 rfl ?_
        exact h
      · have c3 := Decidable.not_not.mp c3
        have h := h.1 c3
        refine gw_iinc [some (.inr (.inl (some 22))), some (.inl x1), some (.inl x2), some (.inl x3), some (.inl (x4 + 1)), some (.inl x5)] k_Psa_timesSung f_Psa_timesSung_80 rfl qc_1 (Nat.le_of_ble_eq_true rfl) rfl ?_
        refine gw_iinc [some (.inr (.inl (some 22))), some (.inl x1), some (.inl x2), some (.inl x3), some (.inl (x4 + 1)), some (.inl (x5 + 1))] k_Psa_timesSung f_Psa_timesSung_83 rfl qc_1 (Nat.le_of_ble_eq_true rfl) rfl ?_
        refine gw_goto (t := 26) k_Psa_timesSung f_Psa_timesSung_86 rfl ?_
        exact h
    · have h := h.2 c2
      refine gw_iload k_Psa_timesSung f_Psa_timesSung_45 rfl ?_
      refine gw_aload_n k_Psa_timesSung f_Psa_timesSung_47 rfl ?_
      refine gw_iload k_Psa_timesSung f_Psa_timesSung_48 rfl ?_
      refine gw_iload_n k_Psa_timesSung f_Psa_timesSung_50 rfl ?_
      refine gw_virtual [.inl x5, .inl x3] k_Psa_timesSung f_Psa_timesSung_51 l_invT_5_87 k_Psa_countFestal hc22 rfl rfl rfl (by exact Nat.le_of_ble_eq_true rfl) (dc := 1) (by decide) ?_ rfl
      refine h.mono (fun v w5 hh => ?_)
      obtain ⟨r4, rfl, h⟩ := hh
      show Gw zs 5 m_Psa_timesSung 54 [some (.inr (.inl (some 22))), some (.inl x1), some (.inl x2), some (.inl x3), some (.inl x4), some (.inl x5)] [.inl r4, .inl x4] w5 _
      refine gw_iadd k_Psa_timesSung f_Psa_timesSung_54 ?_
      refine gw_istore [some (.inr (.inl (some 22))), some (.inl x1), some (.inl x2), some (.inl x3), some (.inl (x4 + r4)), some (.inl x5)] k_Psa_timesSung f_Psa_timesSung_55 (Nat.le_of_ble_eq_true rfl) rfl ?_
      refine gw_goto (t := 83) k_Psa_timesSung f_Psa_timesSung_57 rfl ?_
      refine gw_iinc [some (.inr (.inl (some 22))), some (.inl x1), some (.inl x2), some (.inl x3), some (.inl (x4 + r4)), some (.inl (x5 + 1))] k_Psa_timesSung f_Psa_timesSung_83 rfl qc_1 (Nat.le_of_ble_eq_true rfl) rfl ?_
      refine gw_goto (t := 26) k_Psa_timesSung f_Psa_timesSung_86 rfl ?_
      exact h
theorem sg_Bk_times_0 {zs : List Int32} {a0 a1 a2 a3 : Int32} {w : Wd} {Q : Option AV → Wd → Prop} (h : (((f_Psa_hasPsalm a3) = 0 → Q (some (.inl (-1))) w) ∧ (¬ ((f_Psa_hasPsalm a3) = 0) → Ew zs 6 m_Alm_openAt [.inr (.inl (some 16)), .inl a0, .inl a1] w (fun v w3 => ∃ r2 : Int32, v = some (.inl r2) ∧ ((r2 = 0 → Q (some (.inl (-1))) w3) ∧ (¬ (r2 = 0) → Ew zs 6 m_Alm_openAt [.inr (.inl (some 16)), .inl a0, .inl a2] w3 (fun v w6 => ∃ r5 : Int32, v = some (.inl r5) ∧ ((r5 = 0 → Q (some (.inl (-1))) w6) ∧ (¬ (r5 = 0) → ((a1 ≤ a2 → Gw zs 7 m_Bk_times 49 [some (.inr (.inl (some 0))), some (.inl a0), some (.inl a1), some (.inl a2), some (.inl a3), some (.inl 0), some (.inl a1)] [] w6 Q) ∧ (¬ (a1 ≤ a2) → Q (some (.inl (-1))) w6))))))))))) : Gw zs 7 m_Bk_times 0 [some (.inr (.inl (some 0))), some (.inl a0), some (.inl a1), some (.inl a2), some (.inl a3), none, none] [] w Q := by
  refine gw_aload_n k_Bk_times f_Bk_times_0 rfl ?_
  refine gw_getR k_Bk_times f_Bk_times_1 l_fldT_10_35 hc0 rfl ?_
  refine gw_iload k_Bk_times f_Bk_times_4 rfl ?_
  refine gw_virtual [.inl a3] k_Bk_times f_Bk_times_6 l_invT_10_181 k_Psa_hasPsalm hc22 rfl rfl rfl (by exact Nat.le_of_ble_eq_true rfl) (dc := 1) (by decide) ?_ rfl
  refine ev_Psa_hasPsalm ?_
  show Gw zs 7 m_Bk_times 9 [some (.inr (.inl (some 0))), some (.inl a0), some (.inl a1), some (.inl a2), some (.inl a3), none, none] [.inl (f_Psa_hasPsalm a3)] w _
  refine gw_if_eq (t := 41) k_Bk_times f_Bk_times_9 rfl (fun c1 => ?_) (fun c1 => ?_)
  · have h := h.1 c1
    refine gw_iconst k_Bk_times f_Bk_times_41 qc_m1 ?_
    exact gw_iret k_Bk_times f_Bk_times_42 rfl h
  · have h := h.2 c1
    refine gw_aload_n k_Bk_times f_Bk_times_12 rfl ?_
    refine gw_getR k_Bk_times f_Bk_times_13 l_fldT_10_28 hc0 rfl ?_
    refine gw_iload_n k_Bk_times f_Bk_times_16 rfl ?_
    refine gw_iload_n k_Bk_times f_Bk_times_17 rfl ?_
    refine gw_virtual [.inl a0, .inl a1] k_Bk_times f_Bk_times_18 l_invT_10_107 k_Alm_openAt hc16 rfl rfl rfl (by exact Nat.le_of_ble_eq_true rfl) (dc := 6) (by decide) ?_ rfl
    refine h.mono (fun v w3 hh => ?_)
    obtain ⟨r2, rfl, h⟩ := hh
    show Gw zs 7 m_Bk_times 21 [some (.inr (.inl (some 0))), some (.inl a0), some (.inl a1), some (.inl a2), some (.inl a3), none, none] [.inl r2] w3 _
    refine gw_if_eq (t := 41) k_Bk_times f_Bk_times_21 rfl (fun c4 => ?_) (fun c4 => ?_)
    · have h := h.1 c4
      refine gw_iconst k_Bk_times f_Bk_times_41 qc_m1 ?_
      exact gw_iret k_Bk_times f_Bk_times_42 rfl h
    · have h := h.2 c4
      refine gw_aload_n k_Bk_times f_Bk_times_24 rfl ?_
      refine gw_getR k_Bk_times f_Bk_times_25 l_fldT_10_28 hc0 rfl ?_
      refine gw_iload_n k_Bk_times f_Bk_times_28 rfl ?_
      refine gw_iload_n k_Bk_times f_Bk_times_29 rfl ?_
      refine gw_virtual [.inl a0, .inl a2] k_Bk_times f_Bk_times_30 l_invT_10_107 k_Alm_openAt hc16 rfl rfl rfl (by exact Nat.le_of_ble_eq_true rfl) (dc := 6) (by decide) ?_ rfl
      refine h.mono (fun v w6 hh => ?_)
      obtain ⟨r5, rfl, h⟩ := hh
      show Gw zs 7 m_Bk_times 33 [some (.inr (.inl (some 0))), some (.inl a0), some (.inl a1), some (.inl a2), some (.inl a3), none, none] [.inl r5] w6 _
      refine gw_if_eq (t := 41) k_Bk_times f_Bk_times_33 rfl (fun c7 => ?_) (fun c7 => ?_)
      · have h := h.1 c7
        refine gw_iconst k_Bk_times f_Bk_times_41 qc_m1 ?_
        exact gw_iret k_Bk_times f_Bk_times_42 rfl h
      · have h := h.2 c7
        refine gw_iload_n k_Bk_times f_Bk_times_36 rfl ?_
        refine gw_iload_n k_Bk_times f_Bk_times_37 rfl ?_
        refine gw_icmp_le (t := 43) k_Bk_times f_Bk_times_38 rfl (fun c8 => ?_) (fun c8 => ?_)
        · have h := h.1 c8
          refine gw_iconst k_Bk_times f_Bk_times_43 qc_0 ?_
          refine gw_istore [some (.inr (.inl (some 0))), some (.inl a0), some (.inl a1), some (.inl a2), some (.inl a3), some (.inl 0), none] k_Bk_times f_Bk_times_44 (Nat.le_of_ble_eq_true rfl) rfl ?_
          refine gw_iload_n k_Bk_times f_Bk_times_46 rfl ?_
          refine gw_istore [some (.inr (.inl (some 0))), some (.inl a0), some (.inl a1), some (.inl a2), some (.inl a3), some (.inl 0), some (.inl a1)] k_Bk_times f_Bk_times_47 (Nat.le_of_ble_eq_true rfl) rfl ?_
          exact h
        · have h := h.2 c8
          refine gw_iconst k_Bk_times f_Bk_times_41 qc_m1 ?_
          exact gw_iret k_Bk_times f_Bk_times_42 rfl h
theorem sg_Bk_times_49 {zs : List Int32} {x3 x4 x5 x6 : Int32} {o1 o2 : Option AV} {w : Wd} {Q : Option AV → Wd → Prop} (h : ((x3 < x6 → Q (some (.inl x5)) w) ∧ (¬ (x3 < x6) → Ew zs 5 m_Psa_timesSung [.inr (.inl (some 22)), .inl (f_Alm_weekdayOf w x6), .inl (f_Alm_rankOn w x6), .inl x4] w (fun v w3 => ∃ r2 : Int32, v = some (.inl r2) ∧ Gw zs 7 m_Bk_times 49 [some (.inr (.inl (some 0))), o1, o2, some (.inl x3), some (.inl x4), some (.inl (x5 + r2)), some (.inl (x6 + 1))] [] w3 Q)))) : Gw zs 7 m_Bk_times 49 [some (.inr (.inl (some 0))), o1, o2, some (.inl x3), some (.inl x4), some (.inl x5), some (.inl x6)] [] w Q := by
  refine gw_iload k_Bk_times f_Bk_times_49 rfl ?_
  refine gw_iload_n k_Bk_times f_Bk_times_51 rfl ?_
  refine gw_icmp_gt (t := 93) k_Bk_times f_Bk_times_52 rfl (fun c1 => ?_) (fun c1 => ?_)
  · have h := h.1 c1
    refine gw_iload k_Bk_times f_Bk_times_93 rfl ?_
    exact gw_iret k_Bk_times f_Bk_times_95 rfl h
  · have h := h.2 c1
    refine gw_iload k_Bk_times f_Bk_times_55 rfl ?_
    refine gw_aload_n k_Bk_times f_Bk_times_57 rfl ?_
    refine gw_getR k_Bk_times f_Bk_times_58 l_fldT_10_35 hc0 rfl ?_
    refine gw_aload_n k_Bk_times f_Bk_times_61 rfl ?_
    refine gw_getR k_Bk_times f_Bk_times_62 l_fldT_10_28 hc0 rfl ?_
    refine gw_iload k_Bk_times f_Bk_times_65 rfl ?_
    refine gw_virtual [.inl x6] k_Bk_times f_Bk_times_67 l_invT_10_171 k_Alm_weekdayOf hc16 rfl rfl rfl (by exact Nat.le_of_ble_eq_true rfl) (dc := 0) (by decide) ?_ rfl
    refine ev_Alm_weekdayOf ?_
    show Gw zs 7 m_Bk_times 70 [some (.inr (.inl (some 0))), o1, o2, some (.inl x3), some (.inl x4), some (.inl x5), some (.inl x6)] [.inl (f_Alm_weekdayOf w x6), .inr (.inl (some 22)), .inl x5] w _
    refine gw_aload_n k_Bk_times f_Bk_times_70 rfl ?_
    refine gw_getR k_Bk_times f_Bk_times_71 l_fldT_10_28 hc0 rfl ?_
    refine gw_iload k_Bk_times f_Bk_times_74 rfl ?_
    refine gw_virtual [.inl x6] k_Bk_times f_Bk_times_76 l_invT_10_174 k_Alm_rankOn hc16 rfl rfl rfl (by exact Nat.le_of_ble_eq_true rfl) (dc := 1) (by decide) ?_ rfl
    refine ev_Alm_rankOn ?_
    show Gw zs 7 m_Bk_times 79 [some (.inr (.inl (some 0))), o1, o2, some (.inl x3), some (.inl x4), some (.inl x5), some (.inl x6)] [.inl (f_Alm_rankOn w x6), .inl (f_Alm_weekdayOf w x6), .inr (.inl (some 22)), .inl x5] w _
    refine gw_iload k_Bk_times f_Bk_times_79 rfl ?_
    refine gw_virtual [.inl (f_Alm_weekdayOf w x6), .inl (f_Alm_rankOn w x6), .inl x4] k_Bk_times f_Bk_times_81 l_invT_10_184 k_Psa_timesSung hc22 rfl rfl rfl (by exact Nat.le_of_ble_eq_true rfl) (dc := 5) (by decide) ?_ rfl
    refine h.mono (fun v w3 hh => ?_)
    obtain ⟨r2, rfl, h⟩ := hh
    show Gw zs 7 m_Bk_times 84 [some (.inr (.inl (some 0))), o1, o2, some (.inl x3), some (.inl x4), some (.inl x5), some (.inl x6)] [.inl r2, .inl x5] w3 _
    refine gw_iadd k_Bk_times f_Bk_times_84 ?_
    refine gw_istore [some (.inr (.inl (some 0))), o1, o2, some (.inl x3), some (.inl x4), some (.inl (x5 + r2)), some (.inl x6)] k_Bk_times f_Bk_times_85 (Nat.le_of_ble_eq_true rfl) rfl ?_
    refine gw_iinc [some (.inr (.inl (some 0))), o1, o2, some (.inl x3), some (.inl x4), some (.inl (x5 + r2)), some (.inl (x6 + 1))] k_Bk_times f_Bk_times_87 rfl qc_1 (Nat.le_of_ble_eq_true rfl) rfl ?_
    refine gw_goto (t := 49) k_Bk_times f_Bk_times_90 rfl ?_
    exact h
theorem sg_Ver_addSyllable_0 {zs : List Int32} {b : Nat} (hb : isVer b) {a0 : Int32} {w : Wd} {Q : Option AV → Wd → Prop} (h : (((w b 1) < 0 → Q (some (.inl (-1))) w) ∧ (¬ ((w b 1) < 0) → (((w b 1) < 60 → (vp_in (w b 1) 60 ∧ Q (some (.inl (((wr w (b + 1) ((w b 1).toNatClampNeg) (a0 &&& 1)) b 1) + 1))) (wr (wr w (b + 1) ((w b 1).toNatClampNeg) (a0 &&& 1)) b 1 (((wr w (b + 1) ((w b 1).toNatClampNeg) (a0 &&& 1)) b 1) + 1)))) ∧ (¬ ((w b 1) < 60) → Q (some (.inl (-1))) w))))) : Gw zs 0 m_Ver_addSyllable 0 [some (.inr (.inl (some b))), some (.inl a0)] [] w Q := by
  refine gw_aload_n k_Ver_addSyllable f_Ver_addSyllable_0 rfl ?_
  refine gw_getI k_Ver_addSyllable f_Ver_addSyllable_1 l_fldT_9_15 hb.1 rfl ?_
  refine gw_if_lt (t := 19) k_Ver_addSyllable f_Ver_addSyllable_4 rfl (fun c1 => ?_) (fun c1 => ?_)
  · have h := h.1 c1
    refine gw_iconst k_Ver_addSyllable f_Ver_addSyllable_19 qc_m1 ?_
    exact gw_iret k_Ver_addSyllable f_Ver_addSyllable_20 rfl h
  · have h := h.2 c1
    refine gw_aload_n k_Ver_addSyllable f_Ver_addSyllable_7 rfl ?_
    refine gw_getI k_Ver_addSyllable f_Ver_addSyllable_8 l_fldT_9_15 hb.1 rfl ?_
    refine gw_aload_n k_Ver_addSyllable f_Ver_addSyllable_11 rfl ?_
    refine gw_getR k_Ver_addSyllable f_Ver_addSyllable_12 l_fldT_9_11 hb.1 rfl ?_
    refine gw_alenZ k_Ver_addSyllable f_Ver_addSyllable_15 hb.2 qn_60 ?_
    refine gw_icmp_lt (t := 21) k_Ver_addSyllable f_Ver_addSyllable_16 rfl (fun c2 => ?_) (fun c2 => ?_)
    · have h := h.1 c2
      refine gw_aload_n k_Ver_addSyllable f_Ver_addSyllable_21 rfl ?_
      refine gw_getR k_Ver_addSyllable f_Ver_addSyllable_22 l_fldT_9_11 hb.1 rfl ?_
      refine gw_aload_n k_Ver_addSyllable f_Ver_addSyllable_25 rfl ?_
      refine gw_getI k_Ver_addSyllable f_Ver_addSyllable_26 l_fldT_9_15 hb.1 rfl ?_
      refine gw_iload_n k_Ver_addSyllable f_Ver_addSyllable_29 rfl ?_
      have hp := h.1
      have h := h.2
      refine gw_zast k_Ver_addSyllable f_Ver_addSyllable_30 hb.2 hp ?_
      refine gw_aload_n k_Ver_addSyllable f_Ver_addSyllable_31 rfl ?_
      refine gw_dup k_Ver_addSyllable f_Ver_addSyllable_32 ?_
      refine gw_getI k_Ver_addSyllable f_Ver_addSyllable_33 l_fldT_9_15 hb.1 rfl ?_
      refine gw_iconst k_Ver_addSyllable f_Ver_addSyllable_36 qc_1 ?_
      refine gw_iadd k_Ver_addSyllable f_Ver_addSyllable_37 ?_
      refine gw_put k_Ver_addSyllable f_Ver_addSyllable_38 l_fldT_9_15 hb.1 rfl rfl rfl rfl rfl ?_
      refine gw_aload_n k_Ver_addSyllable f_Ver_addSyllable_41 rfl ?_
      refine gw_getI k_Ver_addSyllable f_Ver_addSyllable_42 l_fldT_9_15 hb.1 rfl ?_
      rw [show (wr (wr w (b + 1) ((w b 1).toNatClampNeg) (a0 &&& 1)) b 1 (((wr w (b + 1) ((w b 1).toNatClampNeg) (a0 &&& 1)) b 1) + 1)) b 1 = ((wr w (b + 1) ((w b 1).toNatClampNeg) (a0 &&& 1)) b 1) + 1 from wr_eq]
      exact gw_iret k_Ver_addSyllable f_Ver_addSyllable_45 rfl h
    · have h := h.2 c2
      refine gw_iconst k_Ver_addSyllable f_Ver_addSyllable_19 qc_m1 ?_
      exact gw_iret k_Ver_addSyllable f_Ver_addSyllable_20 rfl h
theorem sg_Bk_syllable_0 {zs : List Int32} {a0 a1 : Int32} {w : Wd} {Q : Option AV → Wd → Prop} (h : ((a0 < 0 → Q (some (.inl (-1))) w) ∧ (¬ (a0 < 0) → ((20 ≤ a0 → Q (some (.inl (-1))) w) ∧ (¬ (20 ≤ a0) → Ew zs 0 m_Ver_addSyllable [.inr (.inl (some (104 + 2 * a0.toNatClampNeg))), .inl a1] w (fun v w6 => ∃ r5 : Int32, v = some (.inl r5) ∧ Q (some (.inl r5)) w6)))))) : Gw zs 1 m_Bk_syllable 0 [some (.inr (.inl (some 0))), some (.inl a0), some (.inl a1), none] [] w Q := by
  refine gw_aload_n k_Bk_syllable f_Bk_syllable_0 rfl ?_
  refine gw_iload_n k_Bk_syllable f_Bk_syllable_1 rfl ?_
  refine gw_virtual [.inl a0] k_Bk_syllable f_Bk_syllable_2 l_invT_10_209 k_Bk_verseOf hc0 rfl rfl rfl (by exact Nat.le_of_ble_eq_true rfl) (dc := 0) (by decide) ?_ rfl
  refine ew_of k_Bk_verseOf rfl ?_
  show Gw zs 0 m_Bk_verseOf 0 [some (.inr (.inl (some 0))), some (.inl a0)] [] w _
  refine gw_iload_n k_Bk_verseOf f_Bk_verseOf_0 rfl ?_
  refine gw_if_lt (t := 22) k_Bk_verseOf f_Bk_verseOf_1 rfl (fun c1 => ?_) (fun c1 => ?_)
  · have h := h.1 c1
    refine gw_null k_Bk_verseOf f_Bk_verseOf_22 ?_
    refine gw_aret k_Bk_verseOf f_Bk_verseOf_23 rfl ?_
    show Gw zs 1 m_Bk_syllable 5 [some (.inr (.inl (some 0))), some (.inl a0), some (.inl a1), none] [.inr (.inl none)] w _
    refine gw_astore_n [some (.inr (.inl (some 0))), some (.inl a0), some (.inl a1), some (.inr (.inl none))] k_Bk_syllable f_Bk_syllable_5 (Nat.le_of_ble_eq_true rfl) rfl ?_
    refine gw_aload_n k_Bk_syllable f_Bk_syllable_6 rfl ?_
    refine gw_ifnonnull_n k_Bk_syllable f_Bk_syllable_7 ?_
    refine gw_iconst k_Bk_syllable f_Bk_syllable_10 qc_m1 ?_
    refine gw_goto (t := 19) k_Bk_syllable f_Bk_syllable_11 rfl ?_
    exact gw_iret k_Bk_syllable f_Bk_syllable_19 rfl h
  · have h := h.2 c1
    refine gw_iload_n k_Bk_verseOf f_Bk_verseOf_4 rfl ?_
    refine gw_aload_n k_Bk_verseOf f_Bk_verseOf_5 rfl ?_
    refine gw_getR k_Bk_verseOf f_Bk_verseOf_6 l_fldT_10_48 hc0 rfl ?_
    refine gw_alenQ k_Bk_verseOf f_Bk_verseOf_9 hc103 qn_20 ?_
    refine gw_icmp_ge (t := 22) k_Bk_verseOf f_Bk_verseOf_10 rfl (fun c2 => ?_) (fun c2 => ?_)
    · have h := h.1 c2
      refine gw_null k_Bk_verseOf f_Bk_verseOf_22 ?_
      refine gw_aret k_Bk_verseOf f_Bk_verseOf_23 rfl ?_
      show Gw zs 1 m_Bk_syllable 5 [some (.inr (.inl (some 0))), some (.inl a0), some (.inl a1), none] [.inr (.inl none)] w _
      refine gw_astore_n [some (.inr (.inl (some 0))), some (.inl a0), some (.inl a1), some (.inr (.inl none))] k_Bk_syllable f_Bk_syllable_5 (Nat.le_of_ble_eq_true rfl) rfl ?_
      refine gw_aload_n k_Bk_syllable f_Bk_syllable_6 rfl ?_
      refine gw_ifnonnull_n k_Bk_syllable f_Bk_syllable_7 ?_
      refine gw_iconst k_Bk_syllable f_Bk_syllable_10 qc_m1 ?_
      refine gw_goto (t := 19) k_Bk_syllable f_Bk_syllable_11 rfl ?_
      exact gw_iret k_Bk_syllable f_Bk_syllable_19 rfl h
    · have h := h.2 c2
      refine gw_aload_n k_Bk_verseOf f_Bk_verseOf_13 rfl ?_
      refine gw_getR k_Bk_verseOf f_Bk_verseOf_14 l_fldT_10_48 hc0 rfl ?_
      refine gw_iload_n k_Bk_verseOf f_Bk_verseOf_17 rfl ?_
      have hp3 : vp_in a0 20 := (vin qn_20 (by decide) c1 c2)
      refine gw_aald k_Bk_verseOf f_Bk_verseOf_18 hc103 hp3 (ver_el (vp_lt hp3)) ?_
      have hb4 := ver_is (vp_lt hp3)
      refine gw_goto (t := 23) k_Bk_verseOf f_Bk_verseOf_19 rfl ?_
      refine gw_aret k_Bk_verseOf f_Bk_verseOf_23 rfl ?_
      show Gw zs 1 m_Bk_syllable 5 [some (.inr (.inl (some 0))), some (.inl a0), some (.inl a1), none] [.inr (.inl (some (104 + 2 * a0.toNatClampNeg)))] w _
      refine gw_astore_n [some (.inr (.inl (some 0))), some (.inl a0), some (.inl a1), some (.inr (.inl (some (104 + 2 * a0.toNatClampNeg))))] k_Bk_syllable f_Bk_syllable_5 (Nat.le_of_ble_eq_true rfl) rfl ?_
      refine gw_aload_n k_Bk_syllable f_Bk_syllable_6 rfl ?_
      refine gw_ifnonnull_s (t := 14) k_Bk_syllable f_Bk_syllable_7 rfl ?_
      refine gw_aload_n k_Bk_syllable f_Bk_syllable_14 rfl ?_
      refine gw_iload_n k_Bk_syllable f_Bk_syllable_15 rfl ?_
      refine gw_virtual [.inl a1] k_Bk_syllable f_Bk_syllable_16 l_invT_10_213 k_Ver_addSyllable hb4.1 rfl rfl rfl (by exact Nat.le_of_ble_eq_true rfl) (dc := 0) (by decide) ?_ rfl
      refine h.mono (fun v w6 hh => ?_)
      obtain ⟨r5, rfl, h⟩ := hh
      show Gw zs 1 m_Bk_syllable 19 [some (.inr (.inl (some 0))), some (.inl a0), some (.inl a1), some (.inr (.inl (some (104 + 2 * a0.toNatClampNeg))))] [.inl r5] w6 _
      exact gw_iret k_Bk_syllable f_Bk_syllable_19 rfl h
theorem sg_Cho_awayBits_0 {zs : List Int32} {a0 a1 : Int32} {w : Wd} {Q : Option AV → Wd → Prop} (h : Gw zs 1 m_Cho_awayBits 5 [some (.inr (.inl (some 144))), some (.inl a0), some (.inl a1), some (.inl 0), some (.inl 0)] [] w Q) : Gw zs 1 m_Cho_awayBits 0 [some (.inr (.inl (some 144))), some (.inl a0), some (.inl a1), none, none] [] w Q := by
  refine gw_iconst k_Cho_awayBits f_Cho_awayBits_0 qc_0 ?_
  refine gw_istore_n [some (.inr (.inl (some 144))), some (.inl a0), some (.inl a1), some (.inl 0), none] k_Cho_awayBits f_Cho_awayBits_1 (Nat.le_of_ble_eq_true rfl) rfl ?_
  refine gw_iconst k_Cho_awayBits f_Cho_awayBits_2 qc_0 ?_
  refine gw_istore [some (.inr (.inl (some 144))), some (.inl a0), some (.inl a1), some (.inl 0), some (.inl 0)] k_Cho_awayBits f_Cho_awayBits_3 (Nat.le_of_ble_eq_true rfl) rfl ?_
  exact h
theorem sg_Cho_awayBits_5 {zs : List Int32} {x1 x2 x3 x4 : Int32} {w : Wd} {Q : Option AV → Wd → Prop} (h : (((w 144 6) ≤ x4 → Q (some (.inl x3)) w) ∧ (¬ ((w 144 6) ≤ x4) → (((f_at w 147 60 x4) = x1 → (((f_Bk_within x2 (f_at w 148 60 x4) (f_at w 149 60 x4)) = 0 → Gw zs 1 m_Cho_awayBits 5 [some (.inr (.inl (some 144))), some (.inl x1), some (.inl x2), some (.inl x3), some (.inl (x4 + 1))] [] w Q) ∧ (¬ ((f_Bk_within x2 (f_at w 148 60 x4) (f_at w 149 60 x4)) = 0) → Gw zs 1 m_Cho_awayBits 5 [some (.inr (.inl (some 144))), some (.inl x1), some (.inl x2), some (.inl (x3 ||| (1 <<< ((f_at w 146 60 x4) &&& 31)))), some (.inl (x4 + 1))] [] w Q))) ∧ (¬ ((f_at w 147 60 x4) = x1) → Gw zs 1 m_Cho_awayBits 5 [some (.inr (.inl (some 144))), some (.inl x1), some (.inl x2), some (.inl x3), some (.inl (x4 + 1))] [] w Q))))) : Gw zs 1 m_Cho_awayBits 5 [some (.inr (.inl (some 144))), some (.inl x1), some (.inl x2), some (.inl x3), some (.inl x4)] [] w Q := by
  refine gw_iload k_Cho_awayBits f_Cho_awayBits_5 rfl ?_
  refine gw_aload_n k_Cho_awayBits f_Cho_awayBits_7 rfl ?_
  refine gw_getI k_Cho_awayBits f_Cho_awayBits_8 l_fldT_2_39 hc144 rfl ?_
  refine gw_icmp_ge (t := 72) k_Cho_awayBits f_Cho_awayBits_11 rfl (fun c1 => ?_) (fun c1 => ?_)
  · have h := h.1 c1
    refine gw_iload_n k_Cho_awayBits f_Cho_awayBits_72 rfl ?_
    exact gw_iret k_Cho_awayBits f_Cho_awayBits_73 rfl h
  · have h := h.2 c1
    refine gw_aload_n k_Cho_awayBits f_Cho_awayBits_14 rfl ?_
    refine gw_getR k_Cho_awayBits f_Cho_awayBits_15 l_fldT_2_18 hc144 rfl ?_
    refine gw_iload k_Cho_awayBits f_Cho_awayBits_18 rfl ?_
    refine gw_static [.inr (.inl (some 147)), .inl x4] k_Cho_awayBits f_Cho_awayBits_20 l_invT_2_55 (by decide) k_Bk_at rfl (by exact Nat.le_of_ble_eq_true rfl) (dc := 0) (by decide) ?_ rfl
    refine ev_at hc147 (by decide) ?_
    show Gw zs 1 m_Cho_awayBits 23 [some (.inr (.inl (some 144))), some (.inl x1), some (.inl x2), some (.inl x3), some (.inl x4)] [.inl (f_at w 147 60 x4)] w _
    refine gw_iload_n k_Cho_awayBits f_Cho_awayBits_23 rfl ?_
    refine gw_icmp_ne (t := 66) k_Cho_awayBits f_Cho_awayBits_24 rfl (fun c2 => ?_) (fun c2 => ?_)
    · have h := h.2 c2
      refine gw_iinc [some (.inr (.inl (some 144))), some (.inl x1), some (.inl x2), some (.inl x3), some (.inl (x4 + 1))] k_Cho_awayBits f_Cho_awayBits_66 rfl qc_1 (Nat.le_of_ble_eq_true rfl) rfl ?_
      refine gw_goto (t := 5) k_Cho_awayBits f_Cho_awayBits_69 rfl ?_
      exact h
    · have c2 := Decidable.not_not.mp c2
      have h := h.1 c2
      refine gw_iload_n k_Cho_awayBits f_Cho_awayBits_27 rfl ?_
      refine gw_aload_n k_Cho_awayBits f_Cho_awayBits_28 rfl ?_
      refine gw_getR k_Cho_awayBits f_Cho_awayBits_29 l_fldT_2_21 hc144 rfl ?_
      refine gw_iload k_Cho_awayBits f_Cho_awayBits_32 rfl ?_
      refine gw_static [.inr (.inl (some 148)), .inl x4] k_Cho_awayBits f_Cho_awayBits_34 l_invT_2_55 (by decide) k_Bk_at rfl (by exact Nat.le_of_ble_eq_true rfl) (dc := 0) (by decide) ?_ rfl
      refine ev_at hc148 (by decide) ?_
      show Gw zs 1 m_Cho_awayBits 37 [some (.inr (.inl (some 144))), some (.inl x1), some (.inl x2), some (.inl x3), some (.inl x4)] [.inl (f_at w 148 60 x4), .inl x2] w _
      refine gw_aload_n k_Cho_awayBits f_Cho_awayBits_37 rfl ?_
      refine gw_getR k_Cho_awayBits f_Cho_awayBits_38 l_fldT_2_24 hc144 rfl ?_
      refine gw_iload k_Cho_awayBits f_Cho_awayBits_41 rfl ?_
      refine gw_static [.inr (.inl (some 149)), .inl x4] k_Cho_awayBits f_Cho_awayBits_43 l_invT_2_55 (by decide) k_Bk_at rfl (by exact Nat.le_of_ble_eq_true rfl) (dc := 0) (by decide) ?_ rfl
      refine ev_at hc149 (by decide) ?_
      show Gw zs 1 m_Cho_awayBits 46 [some (.inr (.inl (some 144))), some (.inl x1), some (.inl x2), some (.inl x3), some (.inl x4)] [.inl (f_at w 149 60 x4), .inl (f_at w 148 60 x4), .inl x2] w _
      refine gw_static [.inl x2, .inl (f_at w 148 60 x4), .inl (f_at w 149 60 x4)] k_Cho_awayBits f_Cho_awayBits_46 l_invT_2_31 (by decide) k_Bk_within rfl (by exact Nat.le_of_ble_eq_true rfl) (dc := 0) (by decide) ?_ rfl
      refine ev_Bk_within ?_
      show Gw zs 1 m_Cho_awayBits 49 [some (.inr (.inl (some 144))), some (.inl x1), some (.inl x2), some (.inl x3), some (.inl x4)] [.inl (f_Bk_within x2 (f_at w 148 60 x4) (f_at w 149 60 x4))] w _
      refine gw_if_eq (t := 66) k_Cho_awayBits f_Cho_awayBits_49 rfl (fun c3 => ?_) (fun c3 => ?_)
      · have h := h.1 c3
        refine gw_iinc [some (.inr (.inl (some 144))), some (.inl x1), some (.inl x2), some (.inl x3), some (.inl (x4 + 1))] k_Cho_awayBits f_Cho_awayBits_66 rfl qc_1 (Nat.le_of_ble_eq_true rfl) rfl ?_
        refine gw_goto (t := 5) k_Cho_awayBits f_Cho_awayBits_69 rfl ?_
        exact h
      · have h := h.2 c3
        refine gw_iload_n k_Cho_awayBits f_Cho_awayBits_52 rfl ?_
        refine gw_iconst k_Cho_awayBits f_Cho_awayBits_53 qc_1 ?_
        refine gw_aload_n k_Cho_awayBits f_Cho_awayBits_54 rfl ?_
        refine gw_getR k_Cho_awayBits f_Cho_awayBits_55 l_fldT_2_15 hc144 rfl ?_
        refine gw_iload k_Cho_awayBits f_Cho_awayBits_58 rfl ?_
        refine gw_static [.inr (.inl (some 146)), .inl x4] k_Cho_awayBits f_Cho_awayBits_60 l_invT_2_55 (by decide) k_Bk_at rfl (by exact Nat.le_of_ble_eq_true rfl) (dc := 0) (by decide) ?_ rfl
        refine ev_at hc146 (by decide) ?_
        show Gw zs 1 m_Cho_awayBits 63 [some (.inr (.inl (some 144))), some (.inl x1), some (.inl x2), some (.inl x3), some (.inl x4)] [.inl (f_at w 146 60 x4), .inl 1, .inl x3] w _
        refine gw_ishl k_Cho_awayBits f_Cho_awayBits_63 ?_
        refine gw_ior k_Cho_awayBits f_Cho_awayBits_64 ?_
        refine gw_istore_n [some (.inr (.inl (some 144))), some (.inl x1), some (.inl x2), some (.inl (x3 ||| (1 <<< ((f_at w 146 60 x4) &&& 31)))), some (.inl x4)] k_Cho_awayBits f_Cho_awayBits_65 (Nat.le_of_ble_eq_true rfl) rfl ?_
        refine gw_iinc [some (.inr (.inl (some 144))), some (.inl x1), some (.inl x2), some (.inl (x3 ||| (1 <<< ((f_at w 146 60 x4) &&& 31)))), some (.inl (x4 + 1))] k_Cho_awayBits f_Cho_awayBits_66 rfl qc_1 (Nat.le_of_ble_eq_true rfl) rfl ?_
        refine gw_goto (t := 5) k_Cho_awayBits f_Cho_awayBits_69 rfl ?_
        exact h
theorem sg_Ros_nextMonk_0 {zs : List Int32} {a1 a2 : Int32} {w : Wd} {Q : Option AV → Wd → Prop} (h : Gw zs 2 m_Ros_nextMonk 7 [some (.inr (.inl (some 150))), some (.inr (.inl (some 144))), some (.inl a1), some (.inl a2), some (.inl (-2)), some (.inl 0), none] [] w Q) : Gw zs 2 m_Ros_nextMonk 0 [some (.inr (.inl (some 150))), some (.inr (.inl (some 144))), some (.inl a1), some (.inl a2), none, none, none] [] w Q := by
  refine gw_bipush k_Ros_nextMonk f_Ros_nextMonk_0 qb_m2 ?_
  refine gw_istore [some (.inr (.inl (some 150))), some (.inr (.inl (some 144))), some (.inl a1), some (.inl a2), some (.inl (-2)), none, none] k_Ros_nextMonk f_Ros_nextMonk_2 (Nat.le_of_ble_eq_true rfl) rfl ?_
  refine gw_iconst k_Ros_nextMonk f_Ros_nextMonk_4 qc_0 ?_
  refine gw_istore [some (.inr (.inl (some 150))), some (.inr (.inl (some 144))), some (.inl a1), some (.inl a2), some (.inl (-2)), some (.inl 0), none] k_Ros_nextMonk f_Ros_nextMonk_5 (Nat.le_of_ble_eq_true rfl) rfl ?_
  exact h
theorem sg_Ros_nextMonk_7 {zs : List Int32} {x2 x3 x4 x5 : Int32} {o6 : Option AV} {w : Wd} {Q : Option AV → Wd → Prop} (h : (((f_Cho_count w) ≤ x5 → Q (some (.inl x4)) w) ∧ (¬ ((f_Cho_count w) ≤ x5) → (((x3 &&& (1 <<< (x5 &&& 31))) = 0 → (((f_Cho_canDo w x5 x2) = 0 → Gw zs 2 m_Ros_nextMonk 7 [some (.inr (.inl (some 150))), some (.inr (.inl (some 144))), some (.inl x2), some (.inl x3), some (.inl x4), some (.inl (x5 + 1)), some (.inl 0)] [] w Q) ∧ (¬ ((f_Cho_canDo w x5 x2) = 0) → ((x4 = (-2) → Gw zs 2 m_Ros_nextMonk 7 [some (.inr (.inl (some 150))), some (.inr (.inl (some 144))), some (.inl x2), some (.inl x3), some (.inl x5), some (.inl (x5 + 1)), some (.inl 1)] [] w Q) ∧ (¬ (x4 = (-2)) → (((f_Ros_isAhead w x5 x4 x2) = 0 → Gw zs 2 m_Ros_nextMonk 7 [some (.inr (.inl (some 150))), some (.inr (.inl (some 144))), some (.inl x2), some (.inl x3), some (.inl x4), some (.inl (x5 + 1)), some (.inl 1)] [] w Q) ∧ (¬ ((f_Ros_isAhead w x5 x4 x2) = 0) → Gw zs 2 m_Ros_nextMonk 7 [some (.inr (.inl (some 150))), some (.inr (.inl (some 144))), some (.inl x2), some (.inl x3), some (.inl x5), some (.inl (x5 + 1)), some (.inl 1)] [] w Q))))))) ∧ (¬ ((x3 &&& (1 <<< (x5 &&& 31))) = 0) → Gw zs 2 m_Ros_nextMonk 7 [some (.inr (.inl (some 150))), some (.inr (.inl (some 144))), some (.inl x2), some (.inl x3), some (.inl x4), some (.inl (x5 + 1)), some (.inl 0)] [] w Q))))) : Gw zs 2 m_Ros_nextMonk 7 [some (.inr (.inl (some 150))), some (.inr (.inl (some 144))), some (.inl x2), some (.inl x3), some (.inl x4), some (.inl x5), o6] [] w Q := by
  refine gw_iload k_Ros_nextMonk f_Ros_nextMonk_7 rfl ?_
  refine gw_aload_n k_Ros_nextMonk f_Ros_nextMonk_9 rfl ?_
  refine gw_virtual [] k_Ros_nextMonk f_Ros_nextMonk_10 l_invT_6_75 k_Cho_count hc144 rfl rfl rfl (by exact Nat.le_of_ble_eq_true rfl) (dc := 0) (by decide) ?_ rfl
  refine ev_Cho_count ?_
  show Gw zs 2 m_Ros_nextMonk 13 [some (.inr (.inl (some 150))), some (.inr (.inl (some 144))), some (.inl x2), some (.inl x3), some (.inl x4), some (.inl x5), o6] [.inl (f_Cho_count w), .inl x5] w _
  refine gw_icmp_ge (t := 76) k_Ros_nextMonk f_Ros_nextMonk_13 rfl (fun c1 => ?_) (fun c1 => ?_)
  · have h := h.1 c1
    refine gw_iload k_Ros_nextMonk f_Ros_nextMonk_76 rfl ?_
    exact gw_iret k_Ros_nextMonk f_Ros_nextMonk_78 rfl h
  · have h := h.2 c1
    refine gw_iload_n k_Ros_nextMonk f_Ros_nextMonk_16 rfl ?_
    refine gw_iconst k_Ros_nextMonk f_Ros_nextMonk_17 qc_1 ?_
    refine gw_iload k_Ros_nextMonk f_Ros_nextMonk_18 rfl ?_
    refine gw_ishl k_Ros_nextMonk f_Ros_nextMonk_20 ?_
    refine gw_iand k_Ros_nextMonk f_Ros_nextMonk_21 ?_
    refine gw_if_ne (t := 39) k_Ros_nextMonk f_Ros_nextMonk_22 rfl (fun c2 => ?_) (fun c2 => ?_)
    · have h := h.2 c2
      refine gw_iconst k_Ros_nextMonk f_Ros_nextMonk_39 qc_0 ?_
      refine gw_istore [some (.inr (.inl (some 150))), some (.inr (.inl (some 144))), some (.inl x2), some (.inl x3), some (.inl x4), some (.inl x5), some (.inl 0)] k_Ros_nextMonk f_Ros_nextMonk_40 (Nat.le_of_ble_eq_true rfl) rfl ?_
      refine gw_iload k_Ros_nextMonk f_Ros_nextMonk_42 rfl ?_
      refine gw_if_eq (t := 70) k_Ros_nextMonk f_Ros_nextMonk_44 rfl (fun _ => ?_) (fun c => absurd (by decide) c)
      refine gw_iinc [some (.inr (.inl (some 150))), some (.inr (.inl (some 144))), some (.inl x2), some (.inl x3), some (.inl x4), some (.inl (x5 + 1)), some (.inl 0)] k_Ros_nextMonk f_Ros_nextMonk_70 rfl qc_1 (Nat.le_of_ble_eq_true rfl) rfl ?_
      refine gw_goto (t := 7) k_Ros_nextMonk f_Ros_nextMonk_73 rfl ?_
      exact h
    · have c2 := Decidable.not_not.mp c2
      have h := h.1 c2
      refine gw_aload_n k_Ros_nextMonk f_Ros_nextMonk_25 rfl ?_
      refine gw_iload k_Ros_nextMonk f_Ros_nextMonk_26 rfl ?_
      refine gw_iload_n k_Ros_nextMonk f_Ros_nextMonk_28 rfl ?_
      refine gw_virtual [.inl x5, .inl x2] k_Ros_nextMonk f_Ros_nextMonk_29 l_invT_6_78 k_Cho_canDo hc144 rfl rfl rfl (by exact Nat.le_of_ble_eq_true rfl) (dc := 1) (by decide) ?_ rfl
      refine ev_Cho_canDo ?_
      show Gw zs 2 m_Ros_nextMonk 32 [some (.inr (.inl (some 150))), some (.inr (.inl (some 144))), some (.inl x2), some (.inl x3), some (.inl x4), some (.inl x5), o6] [.inl (f_Cho_canDo w x5 x2)] w _
      refine gw_if_eq (t := 39) k_Ros_nextMonk f_Ros_nextMonk_32 rfl (fun c3 => ?_) (fun c3 => ?_)
      · have h := h.1 c3
        refine gw_iconst k_Ros_nextMonk f_Ros_nextMonk_39 qc_0 ?_
        refine gw_istore [some (.inr (.inl (some 150))), some (.inr (.inl (some 144))), some (.inl x2), some (.inl x3), some (.inl x4), some (.inl x5), some (.inl 0)] k_Ros_nextMonk f_Ros_nextMonk_40 (Nat.le_of_ble_eq_true rfl) rfl ?_
        refine gw_iload k_Ros_nextMonk f_Ros_nextMonk_42 rfl ?_
        refine gw_if_eq (t := 70) k_Ros_nextMonk f_Ros_nextMonk_44 rfl (fun _ => ?_) (fun c => absurd (by decide) c)
        refine gw_iinc [some (.inr (.inl (some 150))), some (.inr (.inl (some 144))), some (.inl x2), some (.inl x3), some (.inl x4), some (.inl (x5 + 1)), some (.inl 0)] k_Ros_nextMonk f_Ros_nextMonk_70 rfl qc_1 (Nat.le_of_ble_eq_true rfl) rfl ?_
        refine gw_goto (t := 7) k_Ros_nextMonk f_Ros_nextMonk_73 rfl ?_
        exact h
      · have h := h.2 c3
        refine gw_iconst k_Ros_nextMonk f_Ros_nextMonk_35 qc_1 ?_
        refine gw_goto (t := 40) k_Ros_nextMonk f_Ros_nextMonk_36 rfl ?_
        refine gw_istore [some (.inr (.inl (some 150))), some (.inr (.inl (some 144))), some (.inl x2), some (.inl x3), some (.inl x4), some (.inl x5), some (.inl 1)] k_Ros_nextMonk f_Ros_nextMonk_40 (Nat.le_of_ble_eq_true rfl) rfl ?_
        refine gw_iload k_Ros_nextMonk f_Ros_nextMonk_42 rfl ?_
        refine gw_if_eq (t := 70) k_Ros_nextMonk f_Ros_nextMonk_44 rfl (fun c => absurd c (by decide)) (fun _ => ?_)
        refine gw_iload k_Ros_nextMonk f_Ros_nextMonk_47 rfl ?_
        refine gw_bipush k_Ros_nextMonk f_Ros_nextMonk_49 qb_m2 ?_
        refine gw_icmp_eq (t := 66) k_Ros_nextMonk f_Ros_nextMonk_51 rfl (fun c4 => ?_) (fun c4 => ?_)
        · have h := h.1 c4
          refine gw_iload k_Ros_nextMonk f_Ros_nextMonk_66 rfl ?_
          refine gw_istore [some (.inr (.inl (some 150))), some (.inr (.inl (some 144))), some (.inl x2), some (.inl x3), some (.inl x5), some (.inl x5), some (.inl 1)] k_Ros_nextMonk f_Ros_nextMonk_68 (Nat.le_of_ble_eq_true rfl) rfl ?_
          refine gw_iinc [some (.inr (.inl (some 150))), some (.inr (.inl (some 144))), some (.inl x2), some (.inl x3), some (.inl x5), some (.inl (x5 + 1)), some (.inl 1)] k_Ros_nextMonk f_Ros_nextMonk_70 rfl qc_1 (Nat.le_of_ble_eq_true rfl) rfl ?_
          refine gw_goto (t := 7) k_Ros_nextMonk f_Ros_nextMonk_73 rfl ?_
          exact h
        · have h := h.2 c4
          refine gw_aload_n k_Ros_nextMonk f_Ros_nextMonk_54 rfl ?_
          refine gw_iload k_Ros_nextMonk f_Ros_nextMonk_55 rfl ?_
          refine gw_iload k_Ros_nextMonk f_Ros_nextMonk_57 rfl ?_
          refine gw_iload_n k_Ros_nextMonk f_Ros_nextMonk_59 rfl ?_
          refine gw_virtual [.inl x5, .inl x4, .inl x2] k_Ros_nextMonk f_Ros_nextMonk_60 l_invT_6_82 k_Ros_isAhead hc150 rfl rfl rfl (by exact Nat.le_of_ble_eq_true rfl) (dc := 1) (by decide) ?_ rfl
          refine ev_Ros_isAhead ?_
          show Gw zs 2 m_Ros_nextMonk 63 [some (.inr (.inl (some 150))), some (.inr (.inl (some 144))), some (.inl x2), some (.inl x3), some (.inl x4), some (.inl x5), some (.inl 1)] [.inl (f_Ros_isAhead w x5 x4 x2)] w _
          refine gw_if_eq (t := 70) k_Ros_nextMonk f_Ros_nextMonk_63 rfl (fun c5 => ?_) (fun c5 => ?_)
          · have h := h.1 c5
            refine gw_iinc [some (.inr (.inl (some 150))), some (.inr (.inl (some 144))), some (.inl x2), some (.inl x3), some (.inl x4), some (.inl (x5 + 1)), some (.inl 1)] k_Ros_nextMonk f_Ros_nextMonk_70 rfl qc_1 (Nat.le_of_ble_eq_true rfl) rfl ?_
            refine gw_goto (t := 7) k_Ros_nextMonk f_Ros_nextMonk_73 rfl ?_
            exact h
          · have h := h.2 c5
            refine gw_iload k_Ros_nextMonk f_Ros_nextMonk_66 rfl ?_
            refine gw_istore [some (.inr (.inl (some 150))), some (.inr (.inl (some 144))), some (.inl x2), some (.inl x3), some (.inl x5), some (.inl x5), some (.inl 1)] k_Ros_nextMonk f_Ros_nextMonk_68 (Nat.le_of_ble_eq_true rfl) rfl ?_
            refine gw_iinc [some (.inr (.inl (some 150))), some (.inr (.inl (some 144))), some (.inl x2), some (.inl x3), some (.inl x5), some (.inl (x5 + 1)), some (.inl 1)] k_Ros_nextMonk f_Ros_nextMonk_70 rfl qc_1 (Nat.le_of_ble_eq_true rfl) rfl ?_
            refine gw_goto (t := 7) k_Ros_nextMonk f_Ros_nextMonk_73 rfl ?_
            exact h
theorem sg_Ros_fillDay_0 {zs : List Int32} {a1 a2 : Int32} {w : Wd} {Q : Option AV → Wd → Prop} (h : Gw zs 3 m_Ros_fillDay 9 [some (.inr (.inl (some 150))), some (.inr (.inl (some 144))), some (.inl a1), some (.inl a2), some (.inl a2), some (.inl 0), some (.inl 0), none, none, none] [] w Q) : Gw zs 3 m_Ros_fillDay 0 [some (.inr (.inl (some 150))), some (.inr (.inl (some 144))), some (.inl a1), some (.inl a2), none, none, none, none, none, none] [] w Q := by
  refine gw_iload_n k_Ros_fillDay f_Ros_fillDay_0 rfl ?_
  refine gw_istore [some (.inr (.inl (some 150))), some (.inr (.inl (some 144))), some (.inl a1), some (.inl a2), some (.inl a2), none, none, none, none, none] k_Ros_fillDay f_Ros_fillDay_1 (Nat.le_of_ble_eq_true rfl) rfl ?_
  refine gw_iconst k_Ros_fillDay f_Ros_fillDay_3 qc_0 ?_
  refine gw_istore [some (.inr (.inl (some 150))), some (.inr (.inl (some 144))), some (.inl a1), some (.inl a2), some (.inl a2), some (.inl 0), none, none, none, none] k_Ros_fillDay f_Ros_fillDay_4 (Nat.le_of_ble_eq_true rfl) rfl ?_
  refine gw_iconst k_Ros_fillDay f_Ros_fillDay_6 qc_0 ?_
  refine gw_istore [some (.inr (.inl (some 150))), some (.inr (.inl (some 144))), some (.inl a1), some (.inl a2), some (.inl a2), some (.inl 0), some (.inl 0), none, none, none] k_Ros_fillDay f_Ros_fillDay_7 (Nat.le_of_ble_eq_true rfl) rfl ?_
  exact h
theorem sg_Ros_fillDay_9 {zs : List Int32} {x2 x4 x5 x6 : Int32} {o3 o7 o8 o9 : Option AV} {w : Wd} {Q : Option AV → Wd → Prop} (h : ((3 ≤ x6 → Q (some (.inl x5)) w) ∧ (¬ (3 ≤ x6) → Gw zs 3 m_Ros_fillDay 33 [some (.inr (.inl (some 150))), some (.inr (.inl (some 144))), some (.inl x2), o3, some (.inl x4), some (.inl x5), some (.inl x6), some (.inl (f_Ros_manySeats x6 (f_at w 152 60 x2))), some (.inl 0), o9] [] w Q))) : Gw zs 3 m_Ros_fillDay 9 [some (.inr (.inl (some 150))), some (.inr (.inl (some 144))), some (.inl x2), o3, some (.inl x4), some (.inl x5), some (.inl x6), o7, o8, o9] [] w Q := by
  refine gw_iload k_Ros_fillDay f_Ros_fillDay_9 rfl ?_
  refine gw_iconst k_Ros_fillDay f_Ros_fillDay_11 qc_3 ?_
  refine gw_icmp_ge (t := 111) k_Ros_fillDay f_Ros_fillDay_12 rfl (fun c1 => ?_) (fun c1 => ?_)
  · have h := h.1 c1
    refine gw_iload k_Ros_fillDay f_Ros_fillDay_111 rfl ?_
    exact gw_iret k_Ros_fillDay f_Ros_fillDay_113 rfl h
  · have h := h.2 c1
    refine gw_iload k_Ros_fillDay f_Ros_fillDay_15 rfl ?_
    refine gw_aload_n k_Ros_fillDay f_Ros_fillDay_17 rfl ?_
    refine gw_getR k_Ros_fillDay f_Ros_fillDay_18 l_fldT_6_15 hc150 rfl ?_
    refine gw_iload_n k_Ros_fillDay f_Ros_fillDay_21 rfl ?_
    refine gw_static [.inr (.inl (some 152)), .inl x2] k_Ros_fillDay f_Ros_fillDay_22 l_invT_6_57 (by decide) k_Bk_at rfl (by exact Nat.le_of_ble_eq_true rfl) (dc := 0) (by decide) ?_ rfl
    refine ev_at hc152 (by decide) ?_
    show Gw zs 3 m_Ros_fillDay 25 [some (.inr (.inl (some 150))), some (.inr (.inl (some 144))), some (.inl x2), o3, some (.inl x4), some (.inl x5), some (.inl x6), o7, o8, o9] [.inl (f_at w 152 60 x2), .inl x6] w _
    refine gw_static [.inl x6, .inl (f_at w 152 60 x2)] k_Ros_fillDay f_Ros_fillDay_25 l_invT_6_61 (by decide) k_Ros_manySeats rfl (by exact Nat.le_of_ble_eq_true rfl) (dc := 0) (by decide) ?_ rfl
    refine ev_Ros_manySeats ?_
    show Gw zs 3 m_Ros_fillDay 28 [some (.inr (.inl (some 150))), some (.inr (.inl (some 144))), some (.inl x2), o3, some (.inl x4), some (.inl x5), some (.inl x6), o7, o8, o9] [.inl (f_Ros_manySeats x6 (f_at w 152 60 x2))] w _
    refine gw_istore [some (.inr (.inl (some 150))), some (.inr (.inl (some 144))), some (.inl x2), o3, some (.inl x4), some (.inl x5), some (.inl x6), some (.inl (f_Ros_manySeats x6 (f_at w 152 60 x2))), o8, o9] k_Ros_fillDay f_Ros_fillDay_28 (Nat.le_of_ble_eq_true rfl) rfl ?_
    refine gw_iconst k_Ros_fillDay f_Ros_fillDay_30 qc_0 ?_
    refine gw_istore [some (.inr (.inl (some 150))), some (.inr (.inl (some 144))), some (.inl x2), o3, some (.inl x4), some (.inl x5), some (.inl x6), some (.inl (f_Ros_manySeats x6 (f_at w 152 60 x2))), some (.inl 0), o9] k_Ros_fillDay f_Ros_fillDay_31 (Nat.le_of_ble_eq_true rfl) rfl ?_
    exact h
theorem sg_Ros_fillDay_33 {zs : List Int32} {x2 x4 x5 x6 x7 x8 : Int32} {o3 o9 : Option AV} {w : Wd} {Q : Option AV → Wd → Prop} (h : ((x7 ≤ x8 → Gw zs 3 m_Ros_fillDay 9 [some (.inr (.inl (some 150))), some (.inr (.inl (some 144))), some (.inl x2), o3, some (.inl x4), some (.inl x5), some (.inl (x6 + 1)), some (.inl x7), some (.inl x8), o9] [] w Q) ∧ (¬ (x7 ≤ x8) → Ew zs 2 m_Ros_nextMonk [.inr (.inl (some 150)), .inr (.inl (some 144)), .inl x6, .inl x4] w (fun v w3 => ∃ r2 : Int32, v = some (.inl r2) ∧ ((r2 = (-2) → Gw zs 3 m_Ros_fillDay 33 [some (.inr (.inl (some 150))), some (.inr (.inl (some 144))), some (.inl x2), o3, some (.inl x4), some (.inl (x5 + 1)), some (.inl x6), some (.inl x7), some (.inl (x8 + 1)), some (.inl r2)] [] (g_put w3 151 660 (f_Ros_seatOf x2 x6 x8) r2) Q) ∧ (¬ (r2 = (-2)) → Gw zs 3 m_Ros_fillDay 33 [some (.inr (.inl (some 150))), some (.inr (.inl (some 144))), some (.inl x2), o3, some (.inl (x4 ||| (1 <<< (r2 &&& 31)))), some (.inl x5), some (.inl x6), some (.inl x7), some (.inl (x8 + 1)), some (.inl r2)] [] (g_Ros_enter (g_put w3 151 660 (f_Ros_seatOf x2 x6 x8) r2) r2 x6 x2) Q)))))) : Gw zs 3 m_Ros_fillDay 33 [some (.inr (.inl (some 150))), some (.inr (.inl (some 144))), some (.inl x2), o3, some (.inl x4), some (.inl x5), some (.inl x6), some (.inl x7), some (.inl x8), o9] [] w Q := by
  refine gw_iload k_Ros_fillDay f_Ros_fillDay_33 rfl ?_
  refine gw_iload k_Ros_fillDay f_Ros_fillDay_35 rfl ?_
  refine gw_icmp_ge (t := 105) k_Ros_fillDay f_Ros_fillDay_37 rfl (fun c1 => ?_) (fun c1 => ?_)
  · have h := h.1 c1
    refine gw_iinc [some (.inr (.inl (some 150))), some (.inr (.inl (some 144))), some (.inl x2), o3, some (.inl x4), some (.inl x5), some (.inl (x6 + 1)), some (.inl x7), some (.inl x8), o9] k_Ros_fillDay f_Ros_fillDay_105 rfl qc_1 (Nat.le_of_ble_eq_true rfl) rfl ?_
    refine gw_goto (t := 9) k_Ros_fillDay f_Ros_fillDay_108 rfl ?_
    exact h
  · have h := h.2 c1
    refine gw_aload_n k_Ros_fillDay f_Ros_fillDay_40 rfl ?_
    refine gw_aload_n k_Ros_fillDay f_Ros_fillDay_41 rfl ?_
    refine gw_iload k_Ros_fillDay f_Ros_fillDay_42 rfl ?_
    refine gw_iload k_Ros_fillDay f_Ros_fillDay_44 rfl ?_
    refine gw_virtual [.inr (.inl (some 144)), .inl x6, .inl x4] k_Ros_fillDay f_Ros_fillDay_46 l_invT_6_64 k_Ros_nextMonk hc150 rfl rfl rfl (by exact Nat.le_of_ble_eq_true rfl) (dc := 2) (by decide) ?_ rfl
    refine h.mono (fun v w3 hh => ?_)
    obtain ⟨r2, rfl, h⟩ := hh
    show Gw zs 3 m_Ros_fillDay 49 [some (.inr (.inl (some 150))), some (.inr (.inl (some 144))), some (.inl x2), o3, some (.inl x4), some (.inl x5), some (.inl x6), some (.inl x7), some (.inl x8), o9] [.inl r2] w3 _
    refine gw_istore [some (.inr (.inl (some 150))), some (.inr (.inl (some 144))), some (.inl x2), o3, some (.inl x4), some (.inl x5), some (.inl x6), some (.inl x7), some (.inl x8), some (.inl r2)] k_Ros_fillDay f_Ros_fillDay_49 (Nat.le_of_ble_eq_true rfl) rfl ?_
    refine gw_aload_n k_Ros_fillDay f_Ros_fillDay_51 rfl ?_
    refine gw_getR k_Ros_fillDay f_Ros_fillDay_52 l_fldT_6_11 hc150 rfl ?_
    refine gw_iload_n k_Ros_fillDay f_Ros_fillDay_55 rfl ?_
    refine gw_iload k_Ros_fillDay f_Ros_fillDay_56 rfl ?_
    refine gw_iload k_Ros_fillDay f_Ros_fillDay_58 rfl ?_
    refine gw_static [.inl x2, .inl x6, .inl x8] k_Ros_fillDay f_Ros_fillDay_60 l_invT_6_67 (by decide) k_Ros_seatOf rfl (by exact Nat.le_of_ble_eq_true rfl) (dc := 0) (by decide) ?_ rfl
    refine ev_Ros_seatOf ?_
    show Gw zs 3 m_Ros_fillDay 63 [some (.inr (.inl (some 150))), some (.inr (.inl (some 144))), some (.inl x2), o3, some (.inl x4), some (.inl x5), some (.inl x6), some (.inl x7), some (.inl x8), some (.inl r2)] [.inl (f_Ros_seatOf x2 x6 x8), .inr (.inl (some 151))] w3 _
    refine gw_iload k_Ros_fillDay f_Ros_fillDay_63 rfl ?_
    refine gw_static [.inr (.inl (some 151)), .inl (f_Ros_seatOf x2 x6 x8), .inl r2] k_Ros_fillDay f_Ros_fillDay_65 l_invT_6_42 (by decide) k_Bk_put rfl (by exact Nat.le_of_ble_eq_true rfl) (dc := 0) (by decide) ?_ rfl
    refine ev_put hc151 (by decide) ?_
    show Gw zs 3 m_Ros_fillDay 68 [some (.inr (.inl (some 150))), some (.inr (.inl (some 144))), some (.inl x2), o3, some (.inl x4), some (.inl x5), some (.inl x6), some (.inl x7), some (.inl x8), some (.inl r2)] [] (g_put w3 151 660 (f_Ros_seatOf x2 x6 x8) r2) _
    refine gw_iload k_Ros_fillDay f_Ros_fillDay_68 rfl ?_
    refine gw_bipush k_Ros_fillDay f_Ros_fillDay_70 qb_m2 ?_
    refine gw_icmp_ne (t := 81) k_Ros_fillDay f_Ros_fillDay_72 rfl (fun c4 => ?_) (fun c4 => ?_)
    · have h := h.2 c4
      refine gw_iload k_Ros_fillDay f_Ros_fillDay_81 rfl ?_
      refine gw_iconst k_Ros_fillDay f_Ros_fillDay_83 qc_1 ?_
      refine gw_iload k_Ros_fillDay f_Ros_fillDay_84 rfl ?_
      refine gw_ishl k_Ros_fillDay f_Ros_fillDay_86 ?_
      refine gw_ior k_Ros_fillDay f_Ros_fillDay_87 ?_
      refine gw_istore [some (.inr (.inl (some 150))), some (.inr (.inl (some 144))), some (.inl x2), o3, some (.inl (x4 ||| (1 <<< (r2 &&& 31)))), some (.inl x5), some (.inl x6), some (.inl x7), some (.inl x8), some (.inl r2)] k_Ros_fillDay f_Ros_fillDay_88 (Nat.le_of_ble_eq_true rfl) rfl ?_
      refine gw_aload_n k_Ros_fillDay f_Ros_fillDay_90 rfl ?_
      refine gw_iload k_Ros_fillDay f_Ros_fillDay_91 rfl ?_
      refine gw_iload k_Ros_fillDay f_Ros_fillDay_93 rfl ?_
      refine gw_iload_n k_Ros_fillDay f_Ros_fillDay_95 rfl ?_
      refine gw_virtual [.inl r2, .inl x6, .inl x2] k_Ros_fillDay f_Ros_fillDay_96 l_invT_6_71 k_Ros_enter hc150 rfl rfl rfl (by exact Nat.le_of_ble_eq_true rfl) (dc := 1) (by decide) ?_ rfl
      refine ev_Ros_enter ?_
      show Gw zs 3 m_Ros_fillDay 99 [some (.inr (.inl (some 150))), some (.inr (.inl (some 144))), some (.inl x2), o3, some (.inl (x4 ||| (1 <<< (r2 &&& 31)))), some (.inl x5), some (.inl x6), some (.inl x7), some (.inl x8), some (.inl r2)] [] (g_Ros_enter (g_put w3 151 660 (f_Ros_seatOf x2 x6 x8) r2) r2 x6 x2) _
      refine gw_iinc [some (.inr (.inl (some 150))), some (.inr (.inl (some 144))), some (.inl x2), o3, some (.inl (x4 ||| (1 <<< (r2 &&& 31)))), some (.inl x5), some (.inl x6), some (.inl x7), some (.inl (x8 + 1)), some (.inl r2)] k_Ros_fillDay f_Ros_fillDay_99 rfl qc_1 (Nat.le_of_ble_eq_true rfl) rfl ?_
      refine gw_goto (t := 33) k_Ros_fillDay f_Ros_fillDay_102 rfl ?_
      exact h
    · have c4 := Decidable.not_not.mp c4
      have h := h.1 c4
      refine gw_iinc [some (.inr (.inl (some 150))), some (.inr (.inl (some 144))), some (.inl x2), o3, some (.inl x4), some (.inl (x5 + 1)), some (.inl x6), some (.inl x7), some (.inl x8), some (.inl r2)] k_Ros_fillDay f_Ros_fillDay_75 rfl qc_1 (Nat.le_of_ble_eq_true rfl) rfl ?_
      refine gw_goto (t := 99) k_Ros_fillDay f_Ros_fillDay_78 rfl ?_
      refine gw_iinc [some (.inr (.inl (some 150))), some (.inr (.inl (some 144))), some (.inl x2), o3, some (.inl x4), some (.inl (x5 + 1)), some (.inl x6), some (.inl x7), some (.inl (x8 + 1)), some (.inl r2)] k_Ros_fillDay f_Ros_fillDay_99 rfl qc_1 (Nat.le_of_ble_eq_true rfl) rfl ?_
      refine gw_goto (t := 33) k_Ros_fillDay f_Ros_fillDay_102 rfl ?_
      exact h
theorem sg_Ros_make_0 {zs : List Int32} {a2 a3 : Int32} {w : Wd} {Q : Option AV → Wd → Prop} (h : Gw zs 4 m_Ros_make 14 [some (.inr (.inl (some 150))), some (.inr (.inl (some 144))), some (.inr (.inl (some 16))), some (.inl a2), some (.inl a3), some (.inl 0), none] [] (wr w 150 4 (if 60 < a3 then 60 else a3)) Q) : Gw zs 4 m_Ros_make 0 [some (.inr (.inl (some 150))), some (.inr (.inl (some 144))), some (.inr (.inl (some 16))), some (.inl a2), some (.inl a3), none, none] [] w Q := by
  refine gw_aload_n k_Ros_make f_Ros_make_0 rfl ?_
  refine gw_iload k_Ros_make f_Ros_make_1 rfl ?_
  refine gw_bipush k_Ros_make f_Ros_make_3 qb_60 ?_
  refine gw_min k_Ros_make f_Ros_make_5 l_invT_6_26 (by decide) (Nat.le_of_ble_eq_true rfl) ?_
  refine gw_put k_Ros_make f_Ros_make_8 l_fldT_6_32 hc150 rfl rfl rfl rfl rfl ?_
  refine gw_iconst k_Ros_make f_Ros_make_11 qc_0 ?_
  refine gw_istore [some (.inr (.inl (some 150))), some (.inr (.inl (some 144))), some (.inr (.inl (some 16))), some (.inl a2), some (.inl a3), some (.inl 0), none] k_Ros_make f_Ros_make_12 (Nat.le_of_ble_eq_true rfl) rfl ?_
  exact h
theorem sg_Ros_make_14 {zs : List Int32} {x3 x5 : Int32} {o4 o6 : Option AV} {w : Wd} {Q : Option AV → Wd → Prop} (h : ((72 ≤ x5 → Gw zs 4 m_Ros_make 41 [some (.inr (.inl (some 150))), some (.inr (.inl (some 144))), some (.inr (.inl (some 16))), some (.inl x3), o4, some (.inl 0), o6] [] w Q) ∧ (¬ (72 ≤ x5) → (vp_in x5 72 ∧ Gw zs 4 m_Ros_make 14 [some (.inr (.inl (some 150))), some (.inr (.inl (some 144))), some (.inr (.inl (some 16))), some (.inl x3), o4, some (.inl (x5 + 1)), o6] [] (wr w 153 x5.toNatClampNeg 0) Q)))) : Gw zs 4 m_Ros_make 14 [some (.inr (.inl (some 150))), some (.inr (.inl (some 144))), some (.inr (.inl (some 16))), some (.inl x3), o4, some (.inl x5), o6] [] w Q := by
  refine gw_iload k_Ros_make f_Ros_make_14 rfl ?_
  refine gw_aload_n k_Ros_make f_Ros_make_16 rfl ?_
  refine gw_getR k_Ros_make f_Ros_make_17 l_fldT_6_20 hc150 rfl ?_
  refine gw_alenI k_Ros_make f_Ros_make_20 hc153 qn_72 ?_
  refine gw_icmp_ge (t := 38) k_Ros_make f_Ros_make_21 rfl (fun c1 => ?_) (fun c1 => ?_)
  · have h := h.1 c1
    refine gw_iconst k_Ros_make f_Ros_make_38 qc_0 ?_
    refine gw_istore [some (.inr (.inl (some 150))), some (.inr (.inl (some 144))), some (.inr (.inl (some 16))), some (.inl x3), o4, some (.inl 0), o6] k_Ros_make f_Ros_make_39 (Nat.le_of_ble_eq_true rfl) rfl ?_
    exact h
  · have h := h.2 c1
    refine gw_aload_n k_Ros_make f_Ros_make_24 rfl ?_
    refine gw_getR k_Ros_make f_Ros_make_25 l_fldT_6_20 hc150 rfl ?_
    refine gw_iload k_Ros_make f_Ros_make_28 rfl ?_
    refine gw_iconst k_Ros_make f_Ros_make_30 qc_0 ?_
    have hp := h.1
    have h := h.2
    refine gw_iast k_Ros_make f_Ros_make_31 hc153 hp ?_
    refine gw_iinc [some (.inr (.inl (some 150))), some (.inr (.inl (some 144))), some (.inr (.inl (some 16))), some (.inl x3), o4, some (.inl (x5 + 1)), o6] k_Ros_make f_Ros_make_32 rfl qc_1 (Nat.le_of_ble_eq_true rfl) rfl ?_
    refine gw_goto (t := 14) k_Ros_make f_Ros_make_35 rfl ?_
    exact h
theorem sg_Ros_make_41 {zs : List Int32} {x3 x5 : Int32} {o4 o6 : Option AV} {w : Wd} {Q : Option AV → Wd → Prop} (h : ((72 ≤ x5 → Gw zs 4 m_Ros_make 71 [some (.inr (.inl (some 150))), some (.inr (.inl (some 144))), some (.inr (.inl (some 16))), some (.inl x3), o4, some (.inl 0), some (.inl 0)] [] w Q) ∧ (¬ (72 ≤ x5) → (vp_in x5 72 ∧ Gw zs 4 m_Ros_make 41 [some (.inr (.inl (some 150))), some (.inr (.inl (some 144))), some (.inr (.inl (some 16))), some (.inl x3), o4, some (.inl (x5 + 1)), o6] [] (wr w 154 x5.toNatClampNeg (-1)) Q)))) : Gw zs 4 m_Ros_make 41 [some (.inr (.inl (some 150))), some (.inr (.inl (some 144))), some (.inr (.inl (some 16))), some (.inl x3), o4, some (.inl x5), o6] [] w Q := by
  refine gw_iload k_Ros_make f_Ros_make_41 rfl ?_
  refine gw_aload_n k_Ros_make f_Ros_make_43 rfl ?_
  refine gw_getR k_Ros_make f_Ros_make_44 l_fldT_6_23 hc150 rfl ?_
  refine gw_alenI k_Ros_make f_Ros_make_47 hc154 qn_72 ?_
  refine gw_icmp_ge (t := 65) k_Ros_make f_Ros_make_48 rfl (fun c1 => ?_) (fun c1 => ?_)
  · have h := h.1 c1
    refine gw_iconst k_Ros_make f_Ros_make_65 qc_0 ?_
    refine gw_istore [some (.inr (.inl (some 150))), some (.inr (.inl (some 144))), some (.inr (.inl (some 16))), some (.inl x3), o4, some (.inl 0), o6] k_Ros_make f_Ros_make_66 (Nat.le_of_ble_eq_true rfl) rfl ?_
    refine gw_iconst k_Ros_make f_Ros_make_68 qc_0 ?_
    refine gw_istore [some (.inr (.inl (some 150))), some (.inr (.inl (some 144))), some (.inr (.inl (some 16))), some (.inl x3), o4, some (.inl 0), some (.inl 0)] k_Ros_make f_Ros_make_69 (Nat.le_of_ble_eq_true rfl) rfl ?_
    exact h
  · have h := h.2 c1
    refine gw_aload_n k_Ros_make f_Ros_make_51 rfl ?_
    refine gw_getR k_Ros_make f_Ros_make_52 l_fldT_6_23 hc150 rfl ?_
    refine gw_iload k_Ros_make f_Ros_make_55 rfl ?_
    refine gw_iconst k_Ros_make f_Ros_make_57 qc_m1 ?_
    have hp := h.1
    have h := h.2
    refine gw_iast k_Ros_make f_Ros_make_58 hc154 hp ?_
    refine gw_iinc [some (.inr (.inl (some 150))), some (.inr (.inl (some 144))), some (.inr (.inl (some 16))), some (.inl x3), o4, some (.inl (x5 + 1)), o6] k_Ros_make f_Ros_make_59 rfl qc_1 (Nat.le_of_ble_eq_true rfl) rfl ?_
    refine gw_goto (t := 41) k_Ros_make f_Ros_make_62 rfl ?_
    exact h
theorem sg_Ros_make_71 {zs : List Int32} {x3 x5 x6 : Int32} {o4 : Option AV} {w : Wd} {Q : Option AV → Wd → Prop} (h : (((w 150 4) ≤ x6 → Q (some (.inl x5)) w) ∧ (¬ ((w 150 4) ≤ x6) → Ew zs 1 m_Cho_awayBits [.inr (.inl (some 144)), .inl (f_Alm_yearMadeFor (g_put w 152 60 x6 (f_Alm_rankOn w (x3 + x6)))), .inl (x3 + x6)] (g_put w 152 60 x6 (f_Alm_rankOn w (x3 + x6))) (fun v w3 => ∃ r2 : Int32, v = some (.inl r2) ∧ Ew zs 3 m_Ros_fillDay [.inr (.inl (some 150)), .inr (.inl (some 144)), .inl x6, .inl r2] w3 (fun v w5 => ∃ r4 : Int32, v = some (.inl r4) ∧ Gw zs 4 m_Ros_make 71 [some (.inr (.inl (some 150))), some (.inr (.inl (some 144))), some (.inr (.inl (some 16))), some (.inl x3), o4, some (.inl (x5 + r4)), some (.inl (x6 + 1))] [] w5 Q))))) : Gw zs 4 m_Ros_make 71 [some (.inr (.inl (some 150))), some (.inr (.inl (some 144))), some (.inr (.inl (some 16))), some (.inl x3), o4, some (.inl x5), some (.inl x6)] [] w Q := by
  refine gw_iload k_Ros_make f_Ros_make_71 rfl ?_
  refine gw_aload_n k_Ros_make f_Ros_make_73 rfl ?_
  refine gw_getI k_Ros_make f_Ros_make_74 l_fldT_6_32 hc150 rfl ?_
  refine gw_icmp_ge (t := 127) k_Ros_make f_Ros_make_77 rfl (fun c1 => ?_) (fun c1 => ?_)
  · have h := h.1 c1
    refine gw_iload k_Ros_make f_Ros_make_127 rfl ?_
    exact gw_iret k_Ros_make f_Ros_make_129 rfl h
  · have h := h.2 c1
    refine gw_aload_n k_Ros_make f_Ros_make_80 rfl ?_
    refine gw_getR k_Ros_make f_Ros_make_81 l_fldT_6_15 hc150 rfl ?_
    refine gw_iload k_Ros_make f_Ros_make_84 rfl ?_
    refine gw_aload_n k_Ros_make f_Ros_make_86 rfl ?_
    refine gw_iload_n k_Ros_make f_Ros_make_87 rfl ?_
    refine gw_iload k_Ros_make f_Ros_make_88 rfl ?_
    refine gw_iadd k_Ros_make f_Ros_make_90 ?_
    refine gw_virtual [.inl (x3 + x6)] k_Ros_make f_Ros_make_91 l_invT_6_36 k_Alm_rankOn hc16 rfl rfl rfl (by exact Nat.le_of_ble_eq_true rfl) (dc := 1) (by decide) ?_ rfl
    refine ev_Alm_rankOn ?_
    show Gw zs 4 m_Ros_make 94 [some (.inr (.inl (some 150))), some (.inr (.inl (some 144))), some (.inr (.inl (some 16))), some (.inl x3), o4, some (.inl x5), some (.inl x6)] [.inl (f_Alm_rankOn w (x3 + x6)), .inl x6, .inr (.inl (some 152))] w _
    refine gw_static [.inr (.inl (some 152)), .inl x6, .inl (f_Alm_rankOn w (x3 + x6))] k_Ros_make f_Ros_make_94 l_invT_6_42 (by decide) k_Bk_put rfl (by exact Nat.le_of_ble_eq_true rfl) (dc := 0) (by decide) ?_ rfl
    refine ev_put hc152 (by decide) ?_
    show Gw zs 4 m_Ros_make 97 [some (.inr (.inl (some 150))), some (.inr (.inl (some 144))), some (.inr (.inl (some 16))), some (.inl x3), o4, some (.inl x5), some (.inl x6)] [] (g_put w 152 60 x6 (f_Alm_rankOn w (x3 + x6))) _
    refine gw_iload k_Ros_make f_Ros_make_97 rfl ?_
    refine gw_aload_n k_Ros_make f_Ros_make_99 rfl ?_
    refine gw_aload_n k_Ros_make f_Ros_make_100 rfl ?_
    refine gw_iload k_Ros_make f_Ros_make_101 rfl ?_
    refine gw_aload_n k_Ros_make f_Ros_make_103 rfl ?_
    refine gw_aload_n k_Ros_make f_Ros_make_104 rfl ?_
    refine gw_virtual [] k_Ros_make f_Ros_make_105 l_invT_6_46 k_Alm_yearMadeFor hc16 rfl rfl rfl (by exact Nat.le_of_ble_eq_true rfl) (dc := 0) (by decide) ?_ rfl
    refine ev_Alm_yearMadeFor ?_
    show Gw zs 4 m_Ros_make 108 [some (.inr (.inl (some 150))), some (.inr (.inl (some 144))), some (.inr (.inl (some 16))), some (.inl x3), o4, some (.inl x5), some (.inl x6)] [.inl (f_Alm_yearMadeFor (g_put w 152 60 x6 (f_Alm_rankOn w (x3 + x6)))), .inr (.inl (some 144)), .inl x6, .inr (.inl (some 144)), .inr (.inl (some 150)), .inl x5] (g_put w 152 60 x6 (f_Alm_rankOn w (x3 + x6))) _
    refine gw_iload_n k_Ros_make f_Ros_make_108 rfl ?_
    refine gw_iload k_Ros_make f_Ros_make_109 rfl ?_
    refine gw_iadd k_Ros_make f_Ros_make_111 ?_
    refine gw_virtual [.inl (f_Alm_yearMadeFor (g_put w 152 60 x6 (f_Alm_rankOn w (x3 + x6)))), .inl (x3 + x6)] k_Ros_make f_Ros_make_112 l_invT_6_50 k_Cho_awayBits hc144 rfl rfl rfl (by exact Nat.le_of_ble_eq_true rfl) (dc := 1) (by decide) ?_ rfl
    refine h.mono (fun v w3 hh => ?_)
    obtain ⟨r2, rfl, h⟩ := hh
    show Gw zs 4 m_Ros_make 115 [some (.inr (.inl (some 150))), some (.inr (.inl (some 144))), some (.inr (.inl (some 16))), some (.inl x3), o4, some (.inl x5), some (.inl x6)] [.inl r2, .inl x6, .inr (.inl (some 144)), .inr (.inl (some 150)), .inl x5] w3 _
    refine gw_virtual [.inr (.inl (some 144)), .inl x6, .inl r2] k_Ros_make f_Ros_make_115 l_invT_6_53 k_Ros_fillDay hc150 rfl rfl rfl (by exact Nat.le_of_ble_eq_true rfl) (dc := 3) (by decide) ?_ rfl
    refine h.mono (fun v w5 hh => ?_)
    obtain ⟨r4, rfl, h⟩ := hh
    show Gw zs 4 m_Ros_make 118 [some (.inr (.inl (some 150))), some (.inr (.inl (some 144))), some (.inr (.inl (some 16))), some (.inl x3), o4, some (.inl x5), some (.inl x6)] [.inl r4, .inl x5] w5 _
    refine gw_iadd k_Ros_make f_Ros_make_118 ?_
    refine gw_istore [some (.inr (.inl (some 150))), some (.inr (.inl (some 144))), some (.inr (.inl (some 16))), some (.inl x3), o4, some (.inl (x5 + r4)), some (.inl x6)] k_Ros_make f_Ros_make_119 (Nat.le_of_ble_eq_true rfl) rfl ?_
    refine gw_iinc [some (.inr (.inl (some 150))), some (.inr (.inl (some 144))), some (.inr (.inl (some 16))), some (.inl x3), o4, some (.inl (x5 + r4)), some (.inl (x6 + 1))] k_Ros_make f_Ros_make_121 rfl qc_1 (Nat.le_of_ble_eq_true rfl) rfl ?_
    refine gw_goto (t := 71) k_Ros_make f_Ros_make_124 rfl ?_
    exact h
