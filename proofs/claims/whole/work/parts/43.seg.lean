/-! Ways from cut to cut -/
theorem sg_Md_sets_0 {zs : List Int32} {a0 a1 a2 a3 a4 : Int32} {w : Wd} {Q : Option AV → Wd → Prop} (h : (vp_in a0 366 ∧ (vp_in a0 366 ∧ (vp_in a0 366 ∧ (vp_in a0 366 ∧ Q (none) (wr (wr (wr (wr w 171 a0.toNatClampNeg a1) 172 a0.toNatClampNeg a2) 173 a0.toNatClampNeg a3) 174 a0.toNatClampNeg a4)))))) : Gw zs 0 m_Md_sets 0 [some (.inr (.inl (some 155))), some (.inl a0), some (.inl a1), some (.inl a2), some (.inl a3), some (.inl a4)] [] w Q := by
  refine gw_aload_n k_Md_sets f_Md_sets_0 rfl ?_
  refine gw_getR k_Md_sets f_Md_sets_1 l_fldT_11_158 hc155 rfl ?_
  refine gw_iload_n k_Md_sets f_Md_sets_4 rfl ?_
  refine gw_iload_n k_Md_sets f_Md_sets_5 rfl ?_
  have hp := h.1
  have h := h.2
  refine gw_iast k_Md_sets f_Md_sets_6 hc171 hp ?_
  refine gw_aload_n k_Md_sets f_Md_sets_7 rfl ?_
  refine gw_getR k_Md_sets f_Md_sets_8 l_fldT_11_161 hc155 rfl ?_
  refine gw_iload_n k_Md_sets f_Md_sets_11 rfl ?_
  refine gw_iload_n k_Md_sets f_Md_sets_12 rfl ?_
  have hp := h.1
  have h := h.2
  refine gw_iast k_Md_sets f_Md_sets_13 hc172 hp ?_
  refine gw_aload_n k_Md_sets f_Md_sets_14 rfl ?_
  refine gw_getR k_Md_sets f_Md_sets_15 l_fldT_11_164 hc155 rfl ?_
  refine gw_iload_n k_Md_sets f_Md_sets_18 rfl ?_
  refine gw_iload k_Md_sets f_Md_sets_19 rfl ?_
  have hp := h.1
  have h := h.2
  refine gw_iast k_Md_sets f_Md_sets_21 hc173 hp ?_
  refine gw_aload_n k_Md_sets f_Md_sets_22 rfl ?_
  refine gw_getR k_Md_sets f_Md_sets_23 l_fldT_11_167 hc155 rfl ?_
  refine gw_iload_n k_Md_sets f_Md_sets_26 rfl ?_
  refine gw_iload k_Md_sets f_Md_sets_27 rfl ?_
  have hp := h.1
  have h := h.2
  refine gw_iast k_Md_sets f_Md_sets_29 hc174 hp ?_
  exact gw_vret k_Md_sets f_Md_sets_30 rfl h
theorem sg_Md_isOffice_0 {zs : List Int32} {a0 a1 : Int32} {w : Wd} {Q : Option AV → Wd → Prop} (h : (vp_in a0 366 ∧ (((w 171 a0.toNatClampNeg) = 2 → (vp_in a0 366 ∧ (((w 172 a0.toNatClampNeg) = a1 → Q (some (.inl 1)) w) ∧ (¬ ((w 172 a0.toNatClampNeg) = a1) → Q (some (.inl 0)) w)))) ∧ (¬ ((w 171 a0.toNatClampNeg) = 2) → Q (some (.inl 0)) w)))) : Gw zs 0 m_Md_isOffice 0 [some (.inr (.inl (some 155))), some (.inl a0), some (.inl a1)] [] w Q := by
  refine gw_aload_n k_Md_isOffice f_Md_isOffice_0 rfl ?_
  refine gw_getR k_Md_isOffice f_Md_isOffice_1 l_fldT_11_158 hc155 rfl ?_
  refine gw_iload_n k_Md_isOffice f_Md_isOffice_4 rfl ?_
  have hp := h.1
  have h := h.2
  refine gw_iald k_Md_isOffice f_Md_isOffice_5 hc171 hp ?_
  refine gw_iconst k_Md_isOffice f_Md_isOffice_6 qc_2 ?_
  refine gw_icmp_ne (t := 24) k_Md_isOffice f_Md_isOffice_7 rfl (fun c1 => ?_) (fun c1 => ?_)
  · have h := h.2 c1
    refine gw_iconst k_Md_isOffice f_Md_isOffice_24 qc_0 ?_
    exact gw_zret k_Md_isOffice f_Md_isOffice_25 rfl (Or.inl rfl) h
  · have c1 := Decidable.not_not.mp c1
    have h := h.1 c1
    refine gw_aload_n k_Md_isOffice f_Md_isOffice_10 rfl ?_
    refine gw_getR k_Md_isOffice f_Md_isOffice_11 l_fldT_11_161 hc155 rfl ?_
    refine gw_iload_n k_Md_isOffice f_Md_isOffice_14 rfl ?_
    have hp := h.1
    have h := h.2
    refine gw_iald k_Md_isOffice f_Md_isOffice_15 hc172 hp ?_
    refine gw_iload_n k_Md_isOffice f_Md_isOffice_16 rfl ?_
    refine gw_icmp_ne (t := 24) k_Md_isOffice f_Md_isOffice_17 rfl (fun c2 => ?_) (fun c2 => ?_)
    · have h := h.2 c2
      refine gw_iconst k_Md_isOffice f_Md_isOffice_24 qc_0 ?_
      exact gw_zret k_Md_isOffice f_Md_isOffice_25 rfl (Or.inl rfl) h
    · have c2 := Decidable.not_not.mp c2
      have h := h.1 c2
      refine gw_iconst k_Md_isOffice f_Md_isOffice_20 qc_1 ?_
      refine gw_goto (t := 25) k_Md_isOffice f_Md_isOffice_21 rfl ?_
      exact gw_zret k_Md_isOffice f_Md_isOffice_25 rfl (Or.inr rfl) h
theorem sg_Md_nextMoved_0 {zs : List Int32} {w : Wd} {Q : Option AV → Wd → Prop} (h : Gw zs 1 m_Md_nextMoved 4 [some (.inr (.inl (some 155))), some (.inl (-1)), some (.inl 0)] [] w Q) : Gw zs 1 m_Md_nextMoved 0 [some (.inr (.inl (some 155))), none, none] [] w Q := by
  refine gw_iconst k_Md_nextMoved f_Md_nextMoved_0 qc_m1 ?_
  refine gw_istore_n [some (.inr (.inl (some 155))), some (.inl (-1)), none] k_Md_nextMoved f_Md_nextMoved_1 (Nat.le_of_ble_eq_true rfl) rfl ?_
  refine gw_iconst k_Md_nextMoved f_Md_nextMoved_2 qc_0 ?_
  refine gw_istore_n [some (.inr (.inl (some 155))), some (.inl (-1)), some (.inl 0)] k_Md_nextMoved f_Md_nextMoved_3 (Nat.le_of_ble_eq_true rfl) rfl ?_
  exact h
theorem sg_Md_nextMoved_4 {zs : List Int32} {x1 x2 : Int32} {w : Wd} {Q : Option AV → Wd → Prop} (h : (((w 155 1) ≤ x2 → Q (some (.inl x1)) w) ∧ (¬ ((w 155 1) ≤ x2) → (vp_in x2 60 ∧ (((w 169 x2.toNatClampNeg) = (-1) → Gw zs 1 m_Md_nextMoved 4 [some (.inr (.inl (some 155))), some (.inl x1), some (.inl (x2 + 1))] [] w Q) ∧ (¬ ((w 169 x2.toNatClampNeg) = (-1)) → (vp_in x2 60 ∧ (((w 166 x2.toNatClampNeg) = 2 → (vp_in x2 60 ∧ (((w 170 x2.toNatClampNeg) = (-1) → (vp_in x2 60 ∧ Ew zs 0 m_Md_isOffice [.inr (.inl (some 155)), .inl (w 169 x2.toNatClampNeg), .inl x2] w (fun v w6 => ∃ r5 : Int32, v = some (.inl r5) ∧ ((r5 = 0 → ((x1 = (-1) → Gw zs 1 m_Md_nextMoved 4 [some (.inr (.inl (some 155))), some (.inl x2), some (.inl (x2 + 1))] [] w6 Q) ∧ (¬ (x1 = (-1)) → (vp_in x2 60 ∧ (vp_in x1 60 ∧ (((w6 164 x1.toNatClampNeg) < (w6 164 x2.toNatClampNeg) → Gw zs 1 m_Md_nextMoved 4 [some (.inr (.inl (some 155))), some (.inl x2), some (.inl (x2 + 1))] [] w6 Q) ∧ (¬ ((w6 164 x1.toNatClampNeg) < (w6 164 x2.toNatClampNeg)) → (vp_in x2 60 ∧ (vp_in x1 60 ∧ (((w6 164 x2.toNatClampNeg) = (w6 164 x1.toNatClampNeg) → (vp_in x2 60 ∧ (vp_in x1 60 ∧ (((w6 169 x1.toNatClampNeg) ≤ (w6 169 x2.toNatClampNeg) → Gw zs 1 m_Md_nextMoved 4 [some (.inr (.inl (some 155))), some (.inl x1), some (.inl (x2 + 1))] [] w6 Q) ∧ (¬ ((w6 169 x1.toNatClampNeg) ≤ (w6 169 x2.toNatClampNeg)) → Gw zs 1 m_Md_nextMoved 4 [some (.inr (.inl (some 155))), some (.inl x2), some (.inl (x2 + 1))] [] w6 Q))))) ∧ (¬ ((w6 164 x2.toNatClampNeg) = (w6 164 x1.toNatClampNeg)) → Gw zs 1 m_Md_nextMoved 4 [some (.inr (.inl (some 155))), some (.inl x1), some (.inl (x2 + 1))] [] w6 Q))))))))))) ∧ (¬ (r5 = 0) → Gw zs 1 m_Md_nextMoved 4 [some (.inr (.inl (some 155))), some (.inl x1), some (.inl (x2 + 1))] [] w6 Q))))) ∧ (¬ ((w 170 x2.toNatClampNeg) = (-1)) → Gw zs 1 m_Md_nextMoved 4 [some (.inr (.inl (some 155))), some (.inl x1), some (.inl (x2 + 1))] [] w Q)))) ∧ (¬ ((w 166 x2.toNatClampNeg) = 2) → Gw zs 1 m_Md_nextMoved 4 [some (.inr (.inl (some 155))), some (.inl x1), some (.inl (x2 + 1))] [] w Q))))))))) : Gw zs 1 m_Md_nextMoved 4 [some (.inr (.inl (some 155))), some (.inl x1), some (.inl x2)] [] w Q := by
  refine gw_iload_n k_Md_nextMoved f_Md_nextMoved_4 rfl ?_
  refine gw_aload_n k_Md_nextMoved f_Md_nextMoved_5 rfl ?_
  refine gw_getI k_Md_nextMoved f_Md_nextMoved_6 l_fldT_11_66 hc155 rfl ?_
  refine gw_icmp_ge (t := 117) k_Md_nextMoved f_Md_nextMoved_9 rfl (fun c1 => ?_) (fun c1 => ?_)
  · have h := h.1 c1
    refine gw_iload_n k_Md_nextMoved f_Md_nextMoved_117 rfl ?_
    exact gw_iret k_Md_nextMoved f_Md_nextMoved_118 rfl h
  · have h := h.2 c1
    refine gw_aload_n k_Md_nextMoved f_Md_nextMoved_12 rfl ?_
    refine gw_getR k_Md_nextMoved f_Md_nextMoved_13 l_fldT_11_129 hc155 rfl ?_
    refine gw_iload_n k_Md_nextMoved f_Md_nextMoved_16 rfl ?_
    have hp := h.1
    have h := h.2
    refine gw_iald k_Md_nextMoved f_Md_nextMoved_17 hc169 hp ?_
    refine gw_iconst k_Md_nextMoved f_Md_nextMoved_18 qc_m1 ?_
    refine gw_icmp_eq (t := 111) k_Md_nextMoved f_Md_nextMoved_19 rfl (fun c2 => ?_) (fun c2 => ?_)
    · have h := h.1 c2
      refine gw_iinc [some (.inr (.inl (some 155))), some (.inl x1), some (.inl (x2 + 1))] k_Md_nextMoved f_Md_nextMoved_111 rfl qc_1 (Nat.le_of_ble_eq_true rfl) rfl ?_
      refine gw_goto (t := 4) k_Md_nextMoved f_Md_nextMoved_114 rfl ?_
      exact h
    · have h := h.2 c2
      refine gw_aload_n k_Md_nextMoved f_Md_nextMoved_22 rfl ?_
      refine gw_getR k_Md_nextMoved f_Md_nextMoved_23 l_fldT_11_85 hc155 rfl ?_
      refine gw_iload_n k_Md_nextMoved f_Md_nextMoved_26 rfl ?_
      have hp := h.1
      have h := h.2
      refine gw_iald k_Md_nextMoved f_Md_nextMoved_27 hc166 hp ?_
      refine gw_iconst k_Md_nextMoved f_Md_nextMoved_28 qc_2 ?_
      refine gw_icmp_ne (t := 111) k_Md_nextMoved f_Md_nextMoved_29 rfl (fun c3 => ?_) (fun c3 => ?_)
      · have h := h.2 c3
        refine gw_iinc [some (.inr (.inl (some 155))), some (.inl x1), some (.inl (x2 + 1))] k_Md_nextMoved f_Md_nextMoved_111 rfl qc_1 (Nat.le_of_ble_eq_true rfl) rfl ?_
        refine gw_goto (t := 4) k_Md_nextMoved f_Md_nextMoved_114 rfl ?_
        exact h
      · have c3 := Decidable.not_not.mp c3
        have h := h.1 c3
        refine gw_aload_n k_Md_nextMoved f_Md_nextMoved_32 rfl ?_
        refine gw_getR k_Md_nextMoved f_Md_nextMoved_33 l_fldT_11_138 hc155 rfl ?_
        refine gw_iload_n k_Md_nextMoved f_Md_nextMoved_36 rfl ?_
        have hp := h.1
        have h := h.2
        refine gw_iald k_Md_nextMoved f_Md_nextMoved_37 hc170 hp ?_
        refine gw_iconst k_Md_nextMoved f_Md_nextMoved_38 qc_m1 ?_
        refine gw_icmp_ne (t := 111) k_Md_nextMoved f_Md_nextMoved_39 rfl (fun c4 => ?_) (fun c4 => ?_)
        · have h := h.2 c4
          refine gw_iinc [some (.inr (.inl (some 155))), some (.inl x1), some (.inl (x2 + 1))] k_Md_nextMoved f_Md_nextMoved_111 rfl qc_1 (Nat.le_of_ble_eq_true rfl) rfl ?_
          refine gw_goto (t := 4) k_Md_nextMoved f_Md_nextMoved_114 rfl ?_
          exact h
        · have c4 := Decidable.not_not.mp c4
          have h := h.1 c4
          refine gw_aload_n k_Md_nextMoved f_Md_nextMoved_42 rfl ?_
          refine gw_aload_n k_Md_nextMoved f_Md_nextMoved_43 rfl ?_
          refine gw_getR k_Md_nextMoved f_Md_nextMoved_44 l_fldT_11_129 hc155 rfl ?_
          refine gw_iload_n k_Md_nextMoved f_Md_nextMoved_47 rfl ?_
          have hp := h.1
          have h := h.2
          refine gw_iald k_Md_nextMoved f_Md_nextMoved_48 hc169 hp ?_
          refine gw_iload_n k_Md_nextMoved f_Md_nextMoved_49 rfl ?_
          refine gw_virtual [.inl (w 169 x2.toNatClampNeg), .inl x2] k_Md_nextMoved f_Md_nextMoved_50 l_invT_11_170 k_Md_isOffice hc155 rfl rfl rfl (by exact Nat.le_of_ble_eq_true rfl) (dc := 0) (by decide) ?_ rfl
          refine h.mono (fun v w6 hh => ?_)
          obtain ⟨r5, rfl, h⟩ := hh
          show Gw zs 1 m_Md_nextMoved 53 [some (.inr (.inl (some 155))), some (.inl x1), some (.inl x2)] [.inl r5] w6 _
          refine gw_if_eq (t := 59) k_Md_nextMoved f_Md_nextMoved_53 rfl (fun c7 => ?_) (fun c7 => ?_)
          · have h := h.1 c7
            refine gw_iload_n k_Md_nextMoved f_Md_nextMoved_59 rfl ?_
            refine gw_iconst k_Md_nextMoved f_Md_nextMoved_60 qc_m1 ?_
            refine gw_icmp_eq (t := 109) k_Md_nextMoved f_Md_nextMoved_61 rfl (fun c8 => ?_) (fun c8 => ?_)
            · have h := h.1 c8
              refine gw_iload_n k_Md_nextMoved f_Md_nextMoved_109 rfl ?_
              refine gw_istore_n [some (.inr (.inl (some 155))), some (.inl x2), some (.inl x2)] k_Md_nextMoved f_Md_nextMoved_110 (Nat.le_of_ble_eq_true rfl) rfl ?_
              refine gw_iinc [some (.inr (.inl (some 155))), some (.inl x2), some (.inl (x2 + 1))] k_Md_nextMoved f_Md_nextMoved_111 rfl qc_1 (Nat.le_of_ble_eq_true rfl) rfl ?_
              refine gw_goto (t := 4) k_Md_nextMoved f_Md_nextMoved_114 rfl ?_
              exact h
            · have h := h.2 c8
              refine gw_aload_n k_Md_nextMoved f_Md_nextMoved_64 rfl ?_
              refine gw_getR k_Md_nextMoved f_Md_nextMoved_65 l_fldT_11_79 hc155 rfl ?_
              refine gw_iload_n k_Md_nextMoved f_Md_nextMoved_68 rfl ?_
              have hp := h.1
              have h := h.2
              refine gw_iald k_Md_nextMoved f_Md_nextMoved_69 hc164 hp ?_
              refine gw_aload_n k_Md_nextMoved f_Md_nextMoved_70 rfl ?_
              refine gw_getR k_Md_nextMoved f_Md_nextMoved_71 l_fldT_11_79 hc155 rfl ?_
              refine gw_iload_n k_Md_nextMoved f_Md_nextMoved_74 rfl ?_
              have hp := h.1
              have h := h.2
              refine gw_iald k_Md_nextMoved f_Md_nextMoved_75 hc164 hp ?_
              refine gw_icmp_gt (t := 109) k_Md_nextMoved f_Md_nextMoved_76 rfl (fun c9 => ?_) (fun c9 => ?_)
              · have h := h.1 c9
                refine gw_iload_n k_Md_nextMoved f_Md_nextMoved_109 rfl ?_
                refine gw_istore_n [some (.inr (.inl (some 155))), some (.inl x2), some (.inl x2)] k_Md_nextMoved f_Md_nextMoved_110 (Nat.le_of_ble_eq_true rfl) rfl ?_
                refine gw_iinc [some (.inr (.inl (some 155))), some (.inl x2), some (.inl (x2 + 1))] k_Md_nextMoved f_Md_nextMoved_111 rfl qc_1 (Nat.le_of_ble_eq_true rfl) rfl ?_
                refine gw_goto (t := 4) k_Md_nextMoved f_Md_nextMoved_114 rfl ?_
                exact h
              · have h := h.2 c9
                refine gw_aload_n k_Md_nextMoved f_Md_nextMoved_79 rfl ?_
                refine gw_getR k_Md_nextMoved f_Md_nextMoved_80 l_fldT_11_79 hc155 rfl ?_
                refine gw_iload_n k_Md_nextMoved f_Md_nextMoved_83 rfl ?_
                have hp := h.1
                have h := h.2
                refine gw_iald k_Md_nextMoved f_Md_nextMoved_84 hc164 hp ?_
                refine gw_aload_n k_Md_nextMoved f_Md_nextMoved_85 rfl ?_
                refine gw_getR k_Md_nextMoved f_Md_nextMoved_86 l_fldT_11_79 hc155 rfl ?_
                refine gw_iload_n k_Md_nextMoved f_Md_nextMoved_89 rfl ?_
                have hp := h.1
                have h := h.2
                refine gw_iald k_Md_nextMoved f_Md_nextMoved_90 hc164 hp ?_
                refine gw_icmp_ne (t := 111) k_Md_nextMoved f_Md_nextMoved_91 rfl (fun c10 => ?_) (fun c10 => ?_)
                · have h := h.2 c10
                  refine gw_iinc [some (.inr (.inl (some 155))), some (.inl x1), some (.inl (x2 + 1))] k_Md_nextMoved f_Md_nextMoved_111 rfl qc_1 (Nat.le_of_ble_eq_true rfl) rfl ?_
                  refine gw_goto (t := 4) k_Md_nextMoved f_Md_nextMoved_114 rfl ?_
                  exact h
                · have c10 := Decidable.not_not.mp c10
                  have h := h.1 c10
                  refine gw_aload_n k_Md_nextMoved f_Md_nextMoved_94 rfl ?_
                  refine gw_getR k_Md_nextMoved f_Md_nextMoved_95 l_fldT_11_129 hc155 rfl ?_
                  refine gw_iload_n k_Md_nextMoved f_Md_nextMoved_98 rfl ?_
                  have hp := h.1
                  have h := h.2
                  refine gw_iald k_Md_nextMoved f_Md_nextMoved_99 hc169 hp ?_
                  refine gw_aload_n k_Md_nextMoved f_Md_nextMoved_100 rfl ?_
                  refine gw_getR k_Md_nextMoved f_Md_nextMoved_101 l_fldT_11_129 hc155 rfl ?_
                  refine gw_iload_n k_Md_nextMoved f_Md_nextMoved_104 rfl ?_
                  have hp := h.1
                  have h := h.2
                  refine gw_iald k_Md_nextMoved f_Md_nextMoved_105 hc169 hp ?_
                  refine gw_icmp_ge (t := 111) k_Md_nextMoved f_Md_nextMoved_106 rfl (fun c11 => ?_) (fun c11 => ?_)
                  · have h := h.1 c11
                    refine gw_iinc [some (.inr (.inl (some 155))), some (.inl x1), some (.inl (x2 + 1))] k_Md_nextMoved f_Md_nextMoved_111 rfl qc_1 (Nat.le_of_ble_eq_true rfl) rfl ?_
                    refine gw_goto (t := 4) k_Md_nextMoved f_Md_nextMoved_114 rfl ?_
                    exact h
                  · have h := h.2 c11
                    refine gw_iload_n k_Md_nextMoved f_Md_nextMoved_109 rfl ?_
                    refine gw_istore_n [some (.inr (.inl (some 155))), some (.inl x2), some (.inl x2)] k_Md_nextMoved f_Md_nextMoved_110 (Nat.le_of_ble_eq_true rfl) rfl ?_
                    refine gw_iinc [some (.inr (.inl (some 155))), some (.inl x2), some (.inl (x2 + 1))] k_Md_nextMoved f_Md_nextMoved_111 rfl qc_1 (Nat.le_of_ble_eq_true rfl) rfl ?_
                    refine gw_goto (t := 4) k_Md_nextMoved f_Md_nextMoved_114 rfl ?_
                    exact h
          · have h := h.2 c7
            refine gw_goto (t := 111) k_Md_nextMoved f_Md_nextMoved_56 rfl ?_
            refine gw_iinc [some (.inr (.inl (some 155))), some (.inl x1), some (.inl (x2 + 1))] k_Md_nextMoved f_Md_nextMoved_111 rfl qc_1 (Nat.le_of_ble_eq_true rfl) rfl ?_
            refine gw_goto (t := 4) k_Md_nextMoved f_Md_nextMoved_114 rfl ?_
            exact h
theorem sg_Md_moves_0 {zs : List Int32} {a0 a1 : Int32} {w : Wd} {Q : Option AV → Wd → Prop} (h : (vp_in a1 60 ∧ (vp_in a1 60 ∧ Gw zs 2 m_Md_moves 17 [some (.inr (.inl (some 155))), some (.inl a0), some (.inl a1), some (.inl ((w 169 a1.toNatClampNeg) + 1))] [] (wr w 170 a1.toNatClampNeg (-2)) Q))) : Gw zs 2 m_Md_moves 0 [some (.inr (.inl (some 155))), some (.inl a0), some (.inl a1), none] [] w Q := by
  refine gw_aload_n k_Md_moves f_Md_moves_0 rfl ?_
  refine gw_getR k_Md_moves f_Md_moves_1 l_fldT_11_138 hc155 rfl ?_
  refine gw_iload_n k_Md_moves f_Md_moves_4 rfl ?_
  refine gw_bipush k_Md_moves f_Md_moves_5 qb_m2 ?_
  have hp := h.1
  have h := h.2
  refine gw_iast k_Md_moves f_Md_moves_7 hc170 hp ?_
  refine gw_aload_n k_Md_moves f_Md_moves_8 rfl ?_
  refine gw_getR k_Md_moves f_Md_moves_9 l_fldT_11_129 hc155 rfl ?_
  refine gw_iload_n k_Md_moves f_Md_moves_12 rfl ?_
  have hp := h.1
  have h := h.2
  refine gw_iald k_Md_moves f_Md_moves_13 hc169 hp ?_
  rw [show (wr w 170 a1.toNatClampNeg (-2)) 169 a1.toNatClampNeg = w 169 a1.toNatClampNeg from wr_nc (by decide)]
  refine gw_iconst k_Md_moves f_Md_moves_14 qc_1 ?_
  refine gw_iadd k_Md_moves f_Md_moves_15 ?_
  refine gw_istore_n [some (.inr (.inl (some 155))), some (.inl a0), some (.inl a1), some (.inl ((w 169 a1.toNatClampNeg) + 1))] k_Md_moves f_Md_moves_16 (Nat.le_of_ble_eq_true rfl) rfl ?_
  exact h
theorem sg_Md_moves_17 {zs : List Int32} {x1 x2 x3 : Int32} {w : Wd} {Q : Option AV → Wd → Prop} (h : (vp_in x2 60 ∧ ((((w 169 x2.toNatClampNeg) + 60) < x3 → Q (none) w) ∧ (¬ (((w 169 x2.toNatClampNeg) + 60) < x3) → (((f_Md_daysOf x1) ≤ x3 → Q (none) w) ∧ (¬ ((f_Md_daysOf x1) ≤ x3) → (vp_in x3 366 ∧ (vp_in x2 60 ∧ (((w 164 x2.toNatClampNeg) ≤ (w 173 x3.toNatClampNeg) → Gw zs 2 m_Md_moves 17 [some (.inr (.inl (some 155))), some (.inl x1), some (.inl x2), some (.inl (x3 + 1))] [] w Q) ∧ (¬ ((w 164 x2.toNatClampNeg) ≤ (w 173 x3.toNatClampNeg)) → (vp_in x3 366 ∧ (((w 171 x3.toNatClampNeg) = 2 → (vp_in x3 366 ∧ (vp_in (w 172 x3.toNatClampNeg) 60 ∧ (((w 166 ((w 172 x3.toNatClampNeg).toNatClampNeg)) = 2 → Gw zs 2 m_Md_moves 17 [some (.inr (.inl (some 155))), some (.inl x1), some (.inl x2), some (.inl (x3 + 1))] [] w Q) ∧ (¬ ((w 166 ((w 172 x3.toNatClampNeg).toNatClampNeg)) = 2) → (vp_in x2 60 ∧ (vp_in x2 60 ∧ (vp_in x2 60 ∧ Ew zs 0 m_Md_sets [.inr (.inl (some 155)), .inl x3, .inl 2, .inl x2, .inl (w 164 x2.toNatClampNeg), .inl (w 165 x2.toNatClampNeg)] (wr w 170 x2.toNatClampNeg x3) (fun v w7 => v = none ∧ Q (none) w7))))))))) ∧ (¬ ((w 171 x3.toNatClampNeg) = 2) → (vp_in x2 60 ∧ (vp_in x2 60 ∧ (vp_in x2 60 ∧ Ew zs 0 m_Md_sets [.inr (.inl (some 155)), .inl x3, .inl 2, .inl x2, .inl (w 164 x2.toNatClampNeg), .inl (w 165 x2.toNatClampNeg)] (wr w 170 x2.toNatClampNeg x3) (fun v w5 => v = none ∧ Q (none) w5))))))))))))))))) : Gw zs 2 m_Md_moves 17 [some (.inr (.inl (some 155))), some (.inl x1), some (.inl x2), some (.inl x3)] [] w Q := by
  refine gw_iload_n k_Md_moves f_Md_moves_17 rfl ?_
  refine gw_aload_n k_Md_moves f_Md_moves_18 rfl ?_
  refine gw_getR k_Md_moves f_Md_moves_19 l_fldT_11_129 hc155 rfl ?_
  refine gw_iload_n k_Md_moves f_Md_moves_22 rfl ?_
  have hp := h.1
  have h := h.2
  refine gw_iald k_Md_moves f_Md_moves_23 hc169 hp ?_
  refine gw_bipush k_Md_moves f_Md_moves_24 qb_60 ?_
  refine gw_iadd k_Md_moves f_Md_moves_26 ?_
  refine gw_icmp_gt (t := 114) k_Md_moves f_Md_moves_27 rfl (fun c1 => ?_) (fun c1 => ?_)
  · have h := h.1 c1
    exact gw_vret k_Md_moves f_Md_moves_114 rfl h
  · have h := h.2 c1
    refine gw_iload_n k_Md_moves f_Md_moves_30 rfl ?_
    refine gw_iload_n k_Md_moves f_Md_moves_31 rfl ?_
    refine gw_static [.inl x1] k_Md_moves f_Md_moves_32 l_invT_11_15 (by decide) k_Md_daysOf rfl (by exact Nat.le_of_ble_eq_true rfl) (dc := 1) (by decide) ?_ rfl
    refine ev_Md_daysOf ?_
    show Gw zs 2 m_Md_moves 35 [some (.inr (.inl (some 155))), some (.inl x1), some (.inl x2), some (.inl x3)] [.inl (f_Md_daysOf x1), .inl x3] w _
    refine gw_icmp_ge (t := 114) k_Md_moves f_Md_moves_35 rfl (fun c2 => ?_) (fun c2 => ?_)
    · have h := h.1 c2
      exact gw_vret k_Md_moves f_Md_moves_114 rfl h
    · have h := h.2 c2
      refine gw_aload_n k_Md_moves f_Md_moves_38 rfl ?_
      refine gw_getR k_Md_moves f_Md_moves_39 l_fldT_11_164 hc155 rfl ?_
      refine gw_iload_n k_Md_moves f_Md_moves_42 rfl ?_
      have hp := h.1
      have h := h.2
      refine gw_iald k_Md_moves f_Md_moves_43 hc173 hp ?_
      refine gw_aload_n k_Md_moves f_Md_moves_44 rfl ?_
      refine gw_getR k_Md_moves f_Md_moves_45 l_fldT_11_79 hc155 rfl ?_
      refine gw_iload_n k_Md_moves f_Md_moves_48 rfl ?_
      have hp := h.1
      have h := h.2
      refine gw_iald k_Md_moves f_Md_moves_49 hc164 hp ?_
      refine gw_icmp_ge (t := 108) k_Md_moves f_Md_moves_50 rfl (fun c3 => ?_) (fun c3 => ?_)
      · have h := h.1 c3
        refine gw_iinc [some (.inr (.inl (some 155))), some (.inl x1), some (.inl x2), some (.inl (x3 + 1))] k_Md_moves f_Md_moves_108 rfl qc_1 (Nat.le_of_ble_eq_true rfl) rfl ?_
        refine gw_goto (t := 17) k_Md_moves f_Md_moves_111 rfl ?_
        exact h
      · have h := h.2 c3
        refine gw_aload_n k_Md_moves f_Md_moves_53 rfl ?_
        refine gw_getR k_Md_moves f_Md_moves_54 l_fldT_11_158 hc155 rfl ?_
        refine gw_iload_n k_Md_moves f_Md_moves_57 rfl ?_
        have hp := h.1
        have h := h.2
        refine gw_iald k_Md_moves f_Md_moves_58 hc171 hp ?_
        refine gw_iconst k_Md_moves f_Md_moves_59 qc_2 ?_
        refine gw_icmp_ne (t := 81) k_Md_moves f_Md_moves_60 rfl (fun c4 => ?_) (fun c4 => ?_)
        · have h := h.2 c4
          refine gw_aload_n k_Md_moves f_Md_moves_81 rfl ?_
          refine gw_getR k_Md_moves f_Md_moves_82 l_fldT_11_138 hc155 rfl ?_
          refine gw_iload_n k_Md_moves f_Md_moves_85 rfl ?_
          refine gw_iload_n k_Md_moves f_Md_moves_86 rfl ?_
          have hp := h.1
          have h := h.2
          refine gw_iast k_Md_moves f_Md_moves_87 hc170 hp ?_
          refine gw_aload_n k_Md_moves f_Md_moves_88 rfl ?_
          refine gw_iload_n k_Md_moves f_Md_moves_89 rfl ?_
          refine gw_iconst k_Md_moves f_Md_moves_90 qc_2 ?_
          refine gw_iload_n k_Md_moves f_Md_moves_91 rfl ?_
          refine gw_aload_n k_Md_moves f_Md_moves_92 rfl ?_
          refine gw_getR k_Md_moves f_Md_moves_93 l_fldT_11_79 hc155 rfl ?_
          refine gw_iload_n k_Md_moves f_Md_moves_96 rfl ?_
          have hp := h.1
          have h := h.2
          refine gw_iald k_Md_moves f_Md_moves_97 hc164 hp ?_
          rw [show (wr w 170 x2.toNatClampNeg x3) 164 x2.toNatClampNeg = w 164 x2.toNatClampNeg from wr_nc (by decide)]
          refine gw_aload_n k_Md_moves f_Md_moves_98 rfl ?_
          refine gw_getR k_Md_moves f_Md_moves_99 l_fldT_11_82 hc155 rfl ?_
          refine gw_iload_n k_Md_moves f_Md_moves_102 rfl ?_
          have hp := h.1
          have h := h.2
          refine gw_iald k_Md_moves f_Md_moves_103 hc165 hp ?_
          rw [show (wr w 170 x2.toNatClampNeg x3) 165 x2.toNatClampNeg = w 165 x2.toNatClampNeg from wr_nc (by decide)]
          refine gw_virtual [.inl x3, .inl 2, .inl x2, .inl (w 164 x2.toNatClampNeg), .inl (w 165 x2.toNatClampNeg)] k_Md_moves f_Md_moves_104 l_invT_11_148 k_Md_sets hc155 rfl rfl rfl (by exact Nat.le_of_ble_eq_true rfl) (dc := 0) (by decide) ?_ rfl
          refine h.mono (fun v w5 hh => ?_)
          obtain ⟨rfl, h⟩ := hh
          show Gw zs 2 m_Md_moves 107 [some (.inr (.inl (some 155))), some (.inl x1), some (.inl x2), some (.inl x3)] [] w5 _
          exact gw_vret k_Md_moves f_Md_moves_107 rfl h
        · have c4 := Decidable.not_not.mp c4
          have h := h.1 c4
          refine gw_aload_n k_Md_moves f_Md_moves_63 rfl ?_
          refine gw_getR k_Md_moves f_Md_moves_64 l_fldT_11_85 hc155 rfl ?_
          refine gw_aload_n k_Md_moves f_Md_moves_67 rfl ?_
          refine gw_getR k_Md_moves f_Md_moves_68 l_fldT_11_161 hc155 rfl ?_
          refine gw_iload_n k_Md_moves f_Md_moves_71 rfl ?_
          have hp := h.1
          have h := h.2
          refine gw_iald k_Md_moves f_Md_moves_72 hc172 hp ?_
          have hp := h.1
          have h := h.2
          refine gw_iald k_Md_moves f_Md_moves_73 hc166 hp ?_
          refine gw_iconst k_Md_moves f_Md_moves_74 qc_2 ?_
          refine gw_icmp_ne (t := 81) k_Md_moves f_Md_moves_75 rfl (fun c6 => ?_) (fun c6 => ?_)
          · have h := h.2 c6
            refine gw_aload_n k_Md_moves f_Md_moves_81 rfl ?_
            refine gw_getR k_Md_moves f_Md_moves_82 l_fldT_11_138 hc155 rfl ?_
            refine gw_iload_n k_Md_moves f_Md_moves_85 rfl ?_
            refine gw_iload_n k_Md_moves f_Md_moves_86 rfl ?_
            have hp := h.1
            have h := h.2
            refine gw_iast k_Md_moves f_Md_moves_87 hc170 hp ?_
            refine gw_aload_n k_Md_moves f_Md_moves_88 rfl ?_
            refine gw_iload_n k_Md_moves f_Md_moves_89 rfl ?_
            refine gw_iconst k_Md_moves f_Md_moves_90 qc_2 ?_
            refine gw_iload_n k_Md_moves f_Md_moves_91 rfl ?_
            refine gw_aload_n k_Md_moves f_Md_moves_92 rfl ?_
            refine gw_getR k_Md_moves f_Md_moves_93 l_fldT_11_79 hc155 rfl ?_
            refine gw_iload_n k_Md_moves f_Md_moves_96 rfl ?_
            have hp := h.1
            have h := h.2
            refine gw_iald k_Md_moves f_Md_moves_97 hc164 hp ?_
            rw [show (wr w 170 x2.toNatClampNeg x3) 164 x2.toNatClampNeg = w 164 x2.toNatClampNeg from wr_nc (by decide)]
            refine gw_aload_n k_Md_moves f_Md_moves_98 rfl ?_
            refine gw_getR k_Md_moves f_Md_moves_99 l_fldT_11_82 hc155 rfl ?_
            refine gw_iload_n k_Md_moves f_Md_moves_102 rfl ?_
            have hp := h.1
            have h := h.2
            refine gw_iald k_Md_moves f_Md_moves_103 hc165 hp ?_
            rw [show (wr w 170 x2.toNatClampNeg x3) 165 x2.toNatClampNeg = w 165 x2.toNatClampNeg from wr_nc (by decide)]
            refine gw_virtual [.inl x3, .inl 2, .inl x2, .inl (w 164 x2.toNatClampNeg), .inl (w 165 x2.toNatClampNeg)] k_Md_moves f_Md_moves_104 l_invT_11_148 k_Md_sets hc155 rfl rfl rfl (by exact Nat.le_of_ble_eq_true rfl) (dc := 0) (by decide) ?_ rfl
            refine h.mono (fun v w7 hh => ?_)
            obtain ⟨rfl, h⟩ := hh
            show Gw zs 2 m_Md_moves 107 [some (.inr (.inl (some 155))), some (.inl x1), some (.inl x2), some (.inl x3)] [] w7 _
            exact gw_vret k_Md_moves f_Md_moves_107 rfl h
          · have c6 := Decidable.not_not.mp c6
            have h := h.1 c6
            refine gw_goto (t := 108) k_Md_moves f_Md_moves_78 rfl ?_
            refine gw_iinc [some (.inr (.inl (some 155))), some (.inl x1), some (.inl x2), some (.inl (x3 + 1))] k_Md_moves f_Md_moves_108 rfl qc_1 (Nat.le_of_ble_eq_true rfl) rfl ?_
            refine gw_goto (t := 17) k_Md_moves f_Md_moves_111 rfl ?_
            exact h
theorem sg_Md_reckon_0 {zs : List Int32} {a0 : Int32} {w : Wd} {Q : Option AV → Wd → Prop} (h : (((w 155 15) = a0 → Q (none) w) ∧ (¬ ((w 155 15) = a0) → Ew zs 3 m_Md_easter [.inl a0] (wr w 155 15 a0) (fun v w3 => ∃ r2 : Int32, v = some (.inl r2) ∧ Ew zs 2 m_Md_firstWeekday [.inl a0] (wr w3 155 28 r2) (fun v w5 => ∃ r4 : Int32, v = some (.inl r4) ∧ Gw zs 5 m_Md_reckon 32 [some (.inr (.inl (some 155))), some (.inl a0), some (.inl 0), none, none] [] (wr w5 155 29 r4) Q))))) : Gw zs 5 m_Md_reckon 0 [some (.inr (.inl (some 155))), some (.inl a0), none, none, none] [] w Q := by
  refine gw_aload_n k_Md_reckon f_Md_reckon_0 rfl ?_
  refine gw_getI k_Md_reckon f_Md_reckon_1 l_fldT_11_56 hc155 rfl ?_
  refine gw_iload_n k_Md_reckon f_Md_reckon_4 rfl ?_
  refine gw_icmp_ne (t := 9) k_Md_reckon f_Md_reckon_5 rfl (fun c1 => ?_) (fun c1 => ?_)
  · have h := h.2 c1
    refine gw_aload_n k_Md_reckon f_Md_reckon_9 rfl ?_
    refine gw_iload_n k_Md_reckon f_Md_reckon_10 rfl ?_
    refine gw_put k_Md_reckon f_Md_reckon_11 l_fldT_11_56 hc155 rfl rfl rfl rfl rfl ?_
    refine gw_aload_n k_Md_reckon f_Md_reckon_14 rfl ?_
    refine gw_iload_n k_Md_reckon f_Md_reckon_15 rfl ?_
    refine gw_static [.inl a0] k_Md_reckon f_Md_reckon_16 l_invT_11_29 (by decide) k_Md_easter rfl (by exact Nat.le_of_ble_eq_true rfl) (dc := 3) (by decide) ?_ rfl
    refine h.mono (fun v w3 hh => ?_)
    obtain ⟨r2, rfl, h⟩ := hh
    show Gw zs 5 m_Md_reckon 19 [some (.inr (.inl (some 155))), some (.inl a0), none, none, none] [.inl r2, .inr (.inl (some 155))] w3 _
    refine gw_put k_Md_reckon f_Md_reckon_19 l_fldT_11_115 hc155 rfl rfl rfl rfl rfl ?_
    refine gw_aload_n k_Md_reckon f_Md_reckon_22 rfl ?_
    refine gw_iload_n k_Md_reckon f_Md_reckon_23 rfl ?_
    refine gw_static [.inl a0] k_Md_reckon f_Md_reckon_24 l_invT_11_26 (by decide) k_Md_firstWeekday rfl (by exact Nat.le_of_ble_eq_true rfl) (dc := 2) (by decide) ?_ rfl
    refine h.mono (fun v w5 hh => ?_)
    obtain ⟨r4, rfl, h⟩ := hh
    show Gw zs 5 m_Md_reckon 27 [some (.inr (.inl (some 155))), some (.inl a0), none, none, none] [.inl r4, .inr (.inl (some 155))] w5 _
    refine gw_put k_Md_reckon f_Md_reckon_27 l_fldT_11_122 hc155 rfl rfl rfl rfl rfl ?_
    refine gw_iconst k_Md_reckon f_Md_reckon_30 qc_0 ?_
    refine gw_istore_n [some (.inr (.inl (some 155))), some (.inl a0), some (.inl 0), none, none] k_Md_reckon f_Md_reckon_31 (Nat.le_of_ble_eq_true rfl) rfl ?_
    exact h
  · have c1 := Decidable.not_not.mp c1
    have h := h.1 c1
    exact gw_vret k_Md_reckon f_Md_reckon_8 rfl h
theorem sg_Md_reckon_32 {zs : List Int32} {x1 x2 : Int32} {o3 o4 : Option AV} {w : Wd} {Q : Option AV → Wd → Prop} (h : (((w 155 1) ≤ x2 → Gw zs 5 m_Md_reckon 77 [some (.inr (.inl (some 155))), some (.inl x1), some (.inl 0), o3, o4] [] w Q) ∧ (¬ ((w 155 1) ≤ x2) → (vp_in x2 60 ∧ (vp_in x2 60 ∧ Ew zs 4 m_Md_feastDay [.inl x1, .inl (w 162 x2.toNatClampNeg), .inl (w 163 x2.toNatClampNeg)] w (fun v w3 => ∃ r2 : Int32, v = some (.inl r2) ∧ (vp_in x2 60 ∧ (vp_in x2 60 ∧ Gw zs 5 m_Md_reckon 32 [some (.inr (.inl (some 155))), some (.inl x1), some (.inl (x2 + 1)), o3, o4] [] (wr (wr w3 169 x2.toNatClampNeg r2) 170 x2.toNatClampNeg (-1)) Q)))))))) : Gw zs 5 m_Md_reckon 32 [some (.inr (.inl (some 155))), some (.inl x1), some (.inl x2), o3, o4] [] w Q := by
  refine gw_iload_n k_Md_reckon f_Md_reckon_32 rfl ?_
  refine gw_aload_n k_Md_reckon f_Md_reckon_33 rfl ?_
  refine gw_getI k_Md_reckon f_Md_reckon_34 l_fldT_11_66 hc155 rfl ?_
  refine gw_icmp_ge (t := 75) k_Md_reckon f_Md_reckon_37 rfl (fun c1 => ?_) (fun c1 => ?_)
  · have h := h.1 c1
    refine gw_iconst k_Md_reckon f_Md_reckon_75 qc_0 ?_
    refine gw_istore_n [some (.inr (.inl (some 155))), some (.inl x1), some (.inl 0), o3, o4] k_Md_reckon f_Md_reckon_76 (Nat.le_of_ble_eq_true rfl) rfl ?_
    exact h
  · have h := h.2 c1
    refine gw_aload_n k_Md_reckon f_Md_reckon_40 rfl ?_
    refine gw_getR k_Md_reckon f_Md_reckon_41 l_fldT_11_129 hc155 rfl ?_
    refine gw_iload_n k_Md_reckon f_Md_reckon_44 rfl ?_
    refine gw_iload_n k_Md_reckon f_Md_reckon_45 rfl ?_
    refine gw_aload_n k_Md_reckon f_Md_reckon_46 rfl ?_
    refine gw_getR k_Md_reckon f_Md_reckon_47 l_fldT_11_73 hc155 rfl ?_
    refine gw_iload_n k_Md_reckon f_Md_reckon_50 rfl ?_
    have hp := h.1
    have h := h.2
    refine gw_iald k_Md_reckon f_Md_reckon_51 hc162 hp ?_
    refine gw_aload_n k_Md_reckon f_Md_reckon_52 rfl ?_
    refine gw_getR k_Md_reckon f_Md_reckon_53 l_fldT_11_76 hc155 rfl ?_
    refine gw_iload_n k_Md_reckon f_Md_reckon_56 rfl ?_
    have hp := h.1
    have h := h.2
    refine gw_iald k_Md_reckon f_Md_reckon_57 hc163 hp ?_
    refine gw_static [.inl x1, .inl (w 162 x2.toNatClampNeg), .inl (w 163 x2.toNatClampNeg)] k_Md_reckon f_Md_reckon_58 l_invT_11_135 (by decide) k_Md_feastDay rfl (by exact Nat.le_of_ble_eq_true rfl) (dc := 4) (by decide) ?_ rfl
    refine h.mono (fun v w3 hh => ?_)
    obtain ⟨r2, rfl, h⟩ := hh
    show Gw zs 5 m_Md_reckon 61 [some (.inr (.inl (some 155))), some (.inl x1), some (.inl x2), o3, o4] [.inl r2, .inl x2, .inr (.inl (some 169))] w3 _
    have hp := h.1
    have h := h.2
    refine gw_iast k_Md_reckon f_Md_reckon_61 hc169 hp ?_
    refine gw_aload_n k_Md_reckon f_Md_reckon_62 rfl ?_
    refine gw_getR k_Md_reckon f_Md_reckon_63 l_fldT_11_138 hc155 rfl ?_
    refine gw_iload_n k_Md_reckon f_Md_reckon_66 rfl ?_
    refine gw_iconst k_Md_reckon f_Md_reckon_67 qc_m1 ?_
    have hp := h.1
    have h := h.2
    refine gw_iast k_Md_reckon f_Md_reckon_68 hc170 hp ?_
    refine gw_iinc [some (.inr (.inl (some 155))), some (.inl x1), some (.inl (x2 + 1)), o3, o4] k_Md_reckon f_Md_reckon_69 rfl qc_1 (Nat.le_of_ble_eq_true rfl) rfl ?_
    refine gw_goto (t := 32) k_Md_reckon f_Md_reckon_72 rfl ?_
    exact h
theorem sg_Md_reckon_77 {zs : List Int32} {x1 x2 : Int32} {o3 o4 : Option AV} {w : Wd} {Q : Option AV → Wd → Prop} (h : (((f_Md_daysOf x1) ≤ x2 → Ew zs 1 m_Md_nextMoved [.inr (.inl (some 155))] w (fun v w3 => ∃ r2 : Int32, v = some (.inl r2) ∧ Gw zs 5 m_Md_reckon 168 [some (.inr (.inl (some 155))), some (.inl x1), some (.inl r2), o3, o4] [] w3 Q)) ∧ (¬ ((f_Md_daysOf x1) ≤ x2) → Ew zs 4 m_Md_gather [.inr (.inl (some 155)), .inl x1, .inl x2] w (fun v w4 => v = none ∧ Gw zs 5 m_Md_reckon 96 [some (.inr (.inl (some 155))), some (.inl x1), some (.inl x2), some (.inl 0), some (.inl 1)] [] w4 Q)))) : Gw zs 5 m_Md_reckon 77 [some (.inr (.inl (some 155))), some (.inl x1), some (.inl x2), o3, o4] [] w Q := by
  refine gw_iload_n k_Md_reckon f_Md_reckon_77 rfl ?_
  refine gw_iload_n k_Md_reckon f_Md_reckon_78 rfl ?_
  refine gw_static [.inl x1] k_Md_reckon f_Md_reckon_79 l_invT_11_15 (by decide) k_Md_daysOf rfl (by exact Nat.le_of_ble_eq_true rfl) (dc := 1) (by decide) ?_ rfl
  refine ev_Md_daysOf ?_
  show Gw zs 5 m_Md_reckon 82 [some (.inr (.inl (some 155))), some (.inl x1), some (.inl x2), o3, o4] [.inl (f_Md_daysOf x1), .inl x2] w _
  refine gw_icmp_ge (t := 163) k_Md_reckon f_Md_reckon_82 rfl (fun c1 => ?_) (fun c1 => ?_)
  · have h := h.1 c1
    refine gw_aload_n k_Md_reckon f_Md_reckon_163 rfl ?_
    refine gw_virtual [] k_Md_reckon f_Md_reckon_164 l_invT_11_151 k_Md_nextMoved hc155 rfl rfl rfl (by exact Nat.le_of_ble_eq_true rfl) (dc := 1) (by decide) ?_ rfl
    refine h.mono (fun v w3 hh => ?_)
    obtain ⟨r2, rfl, h⟩ := hh
    show Gw zs 5 m_Md_reckon 167 [some (.inr (.inl (some 155))), some (.inl x1), some (.inl x2), o3, o4] [.inl r2] w3 _
    refine gw_istore_n [some (.inr (.inl (some 155))), some (.inl x1), some (.inl r2), o3, o4] k_Md_reckon f_Md_reckon_167 (Nat.le_of_ble_eq_true rfl) rfl ?_
    exact h
  · have h := h.2 c1
    refine gw_aload_n k_Md_reckon f_Md_reckon_85 rfl ?_
    refine gw_iload_n k_Md_reckon f_Md_reckon_86 rfl ?_
    refine gw_iload_n k_Md_reckon f_Md_reckon_87 rfl ?_
    refine gw_virtual [.inl x1, .inl x2] k_Md_reckon f_Md_reckon_88 l_invT_11_141 k_Md_gather hc155 rfl rfl rfl (by exact Nat.le_of_ble_eq_true rfl) (dc := 4) (by decide) ?_ rfl
    refine h.mono (fun v w4 hh => ?_)
    obtain ⟨rfl, h⟩ := hh
    show Gw zs 5 m_Md_reckon 91 [some (.inr (.inl (some 155))), some (.inl x1), some (.inl x2), o3, o4] [] w4 _
    refine gw_iconst k_Md_reckon f_Md_reckon_91 qc_0 ?_
    refine gw_istore_n [some (.inr (.inl (some 155))), some (.inl x1), some (.inl x2), some (.inl 0), o4] k_Md_reckon f_Md_reckon_92 (Nat.le_of_ble_eq_true rfl) rfl ?_
    refine gw_iconst k_Md_reckon f_Md_reckon_93 qc_1 ?_
    refine gw_istore [some (.inr (.inl (some 155))), some (.inl x1), some (.inl x2), some (.inl 0), some (.inl 1)] k_Md_reckon f_Md_reckon_94 (Nat.le_of_ble_eq_true rfl) rfl ?_
    exact h
theorem sg_Md_reckon_96 {zs : List Int32} {x1 x2 x3 x4 : Int32} {w : Wd} {Q : Option AV → Wd → Prop} (h : (((w 155 22) ≤ x4 → (vp_in x3 200 ∧ (vp_in x3 200 ∧ (vp_in x3 200 ∧ (vp_in x3 200 ∧ Ew zs 0 m_Md_sets [.inr (.inl (some 155)), .inl x2, .inl (w 175 x3.toNatClampNeg), .inl (w 176 x3.toNatClampNeg), .inl (w 177 x3.toNatClampNeg), .inl (w 178 x3.toNatClampNeg)] w (fun v w2 => v = none ∧ Gw zs 5 m_Md_reckon 77 [some (.inr (.inl (some 155))), some (.inl x1), some (.inl (x2 + 1)), some (.inl x3), some (.inl x4)] [] w2 Q)))))) ∧ (¬ ((w 155 22) ≤ x4) → Ew zs 1 m_Md_isAhead [.inr (.inl (some 155)), .inl x4, .inl x3] w (fun v w4 => ∃ r3 : Int32, v = some (.inl r3) ∧ ((r3 = 0 → Gw zs 5 m_Md_reckon 96 [some (.inr (.inl (some 155))), some (.inl x1), some (.inl x2), some (.inl x3), some (.inl (x4 + 1))] [] w4 Q) ∧ (¬ (r3 = 0) → Gw zs 5 m_Md_reckon 96 [some (.inr (.inl (some 155))), some (.inl x1), some (.inl x2), some (.inl x4), some (.inl (x4 + 1))] [] w4 Q)))))) : Gw zs 5 m_Md_reckon 96 [some (.inr (.inl (some 155))), some (.inl x1), some (.inl x2), some (.inl x3), some (.inl x4)] [] w Q := by
  refine gw_iload k_Md_reckon f_Md_reckon_96 rfl ?_
  refine gw_aload_n k_Md_reckon f_Md_reckon_98 rfl ?_
  refine gw_getI k_Md_reckon f_Md_reckon_99 l_fldT_11_100 hc155 rfl ?_
  refine gw_icmp_ge (t := 128) k_Md_reckon f_Md_reckon_102 rfl (fun c1 => ?_) (fun c1 => ?_)
  · have h := h.1 c1
    refine gw_aload_n k_Md_reckon f_Md_reckon_128 rfl ?_
    refine gw_iload_n k_Md_reckon f_Md_reckon_129 rfl ?_
    refine gw_aload_n k_Md_reckon f_Md_reckon_130 rfl ?_
    refine gw_getR k_Md_reckon f_Md_reckon_131 l_fldT_11_97 hc155 rfl ?_
    refine gw_iload_n k_Md_reckon f_Md_reckon_134 rfl ?_
    have hp := h.1
    have h := h.2
    refine gw_iald k_Md_reckon f_Md_reckon_135 hc175 hp ?_
    refine gw_aload_n k_Md_reckon f_Md_reckon_136 rfl ?_
    refine gw_getR k_Md_reckon f_Md_reckon_137 l_fldT_11_103 hc155 rfl ?_
    refine gw_iload_n k_Md_reckon f_Md_reckon_140 rfl ?_
    have hp := h.1
    have h := h.2
    refine gw_iald k_Md_reckon f_Md_reckon_141 hc176 hp ?_
    refine gw_aload_n k_Md_reckon f_Md_reckon_142 rfl ?_
    refine gw_getR k_Md_reckon f_Md_reckon_143 l_fldT_11_106 hc155 rfl ?_
    refine gw_iload_n k_Md_reckon f_Md_reckon_146 rfl ?_
    have hp := h.1
    have h := h.2
    refine gw_iald k_Md_reckon f_Md_reckon_147 hc177 hp ?_
    refine gw_aload_n k_Md_reckon f_Md_reckon_148 rfl ?_
    refine gw_getR k_Md_reckon f_Md_reckon_149 l_fldT_11_109 hc155 rfl ?_
    refine gw_iload_n k_Md_reckon f_Md_reckon_152 rfl ?_
    have hp := h.1
    have h := h.2
    refine gw_iald k_Md_reckon f_Md_reckon_153 hc178 hp ?_
    refine gw_virtual [.inl x2, .inl (w 175 x3.toNatClampNeg), .inl (w 176 x3.toNatClampNeg), .inl (w 177 x3.toNatClampNeg), .inl (w 178 x3.toNatClampNeg)] k_Md_reckon f_Md_reckon_154 l_invT_11_148 k_Md_sets hc155 rfl rfl rfl (by exact Nat.le_of_ble_eq_true rfl) (dc := 0) (by decide) ?_ rfl
    refine h.mono (fun v w2 hh => ?_)
    obtain ⟨rfl, h⟩ := hh
    show Gw zs 5 m_Md_reckon 157 [some (.inr (.inl (some 155))), some (.inl x1), some (.inl x2), some (.inl x3), some (.inl x4)] [] w2 _
    refine gw_iinc [some (.inr (.inl (some 155))), some (.inl x1), some (.inl (x2 + 1)), some (.inl x3), some (.inl x4)] k_Md_reckon f_Md_reckon_157 rfl qc_1 (Nat.le_of_ble_eq_true rfl) rfl ?_
    refine gw_goto (t := 77) k_Md_reckon f_Md_reckon_160 rfl ?_
    exact h
  · have h := h.2 c1
    refine gw_aload_n k_Md_reckon f_Md_reckon_105 rfl ?_
    refine gw_iload k_Md_reckon f_Md_reckon_106 rfl ?_
    refine gw_iload_n k_Md_reckon f_Md_reckon_108 rfl ?_
    refine gw_virtual [.inl x4, .inl x3] k_Md_reckon f_Md_reckon_109 l_invT_11_145 k_Md_isAhead hc155 rfl rfl rfl (by exact Nat.le_of_ble_eq_true rfl) (dc := 1) (by decide) ?_ rfl
    refine h.mono (fun v w4 hh => ?_)
    obtain ⟨r3, rfl, h⟩ := hh
    show Gw zs 5 m_Md_reckon 112 [some (.inr (.inl (some 155))), some (.inl x1), some (.inl x2), some (.inl x3), some (.inl x4)] [.inl r3] w4 _
    refine gw_if_eq (t := 120) k_Md_reckon f_Md_reckon_112 rfl (fun c5 => ?_) (fun c5 => ?_)
    · have h := h.1 c5
      refine gw_iload_n k_Md_reckon f_Md_reckon_120 rfl ?_
      refine gw_istore_n [some (.inr (.inl (some 155))), some (.inl x1), some (.inl x2), some (.inl x3), some (.inl x4)] k_Md_reckon f_Md_reckon_121 (Nat.le_of_ble_eq_true rfl) rfl ?_
      refine gw_iinc [some (.inr (.inl (some 155))), some (.inl x1), some (.inl x2), some (.inl x3), some (.inl (x4 + 1))] k_Md_reckon f_Md_reckon_122 rfl qc_1 (Nat.le_of_ble_eq_true rfl) rfl ?_
      refine gw_goto (t := 96) k_Md_reckon f_Md_reckon_125 rfl ?_
      exact h
    · have h := h.2 c5
      refine gw_iload k_Md_reckon f_Md_reckon_115 rfl ?_
      refine gw_goto (t := 121) k_Md_reckon f_Md_reckon_117 rfl ?_
      refine gw_istore_n [some (.inr (.inl (some 155))), some (.inl x1), some (.inl x2), some (.inl x4), some (.inl x4)] k_Md_reckon f_Md_reckon_121 (Nat.le_of_ble_eq_true rfl) rfl ?_
      refine gw_iinc [some (.inr (.inl (some 155))), some (.inl x1), some (.inl x2), some (.inl x4), some (.inl (x4 + 1))] k_Md_reckon f_Md_reckon_122 rfl qc_1 (Nat.le_of_ble_eq_true rfl) rfl ?_
      refine gw_goto (t := 96) k_Md_reckon f_Md_reckon_125 rfl ?_
      exact h
theorem sg_Md_reckon_168 {zs : List Int32} {x1 x2 : Int32} {o3 o4 : Option AV} {w : Wd} {Q : Option AV → Wd → Prop} (h : ((x2 = (-1) → Q (none) w) ∧ (¬ (x2 = (-1)) → Ew zs 2 m_Md_moves [.inr (.inl (some 155)), .inl x1, .inl x2] w (fun v w2 => v = none ∧ Ew zs 1 m_Md_nextMoved [.inr (.inl (some 155))] w2 (fun v w4 => ∃ r3 : Int32, v = some (.inl r3) ∧ Gw zs 5 m_Md_reckon 168 [some (.inr (.inl (some 155))), some (.inl x1), some (.inl r3), o3, o4] [] w4 Q))))) : Gw zs 5 m_Md_reckon 168 [some (.inr (.inl (some 155))), some (.inl x1), some (.inl x2), o3, o4] [] w Q := by
  refine gw_iload_n k_Md_reckon f_Md_reckon_168 rfl ?_
  refine gw_iconst k_Md_reckon f_Md_reckon_169 qc_m1 ?_
  refine gw_icmp_eq (t := 187) k_Md_reckon f_Md_reckon_170 rfl (fun c1 => ?_) (fun c1 => ?_)
  · have h := h.1 c1
    exact gw_vret k_Md_reckon f_Md_reckon_187 rfl h
  · have h := h.2 c1
    refine gw_aload_n k_Md_reckon f_Md_reckon_173 rfl ?_
    refine gw_iload_n k_Md_reckon f_Md_reckon_174 rfl ?_
    refine gw_iload_n k_Md_reckon f_Md_reckon_175 rfl ?_
    refine gw_virtual [.inl x1, .inl x2] k_Md_reckon f_Md_reckon_176 l_invT_11_155 k_Md_moves hc155 rfl rfl rfl (by exact Nat.le_of_ble_eq_true rfl) (dc := 2) (by decide) ?_ rfl
    refine h.mono (fun v w2 hh => ?_)
    obtain ⟨rfl, h⟩ := hh
    show Gw zs 5 m_Md_reckon 179 [some (.inr (.inl (some 155))), some (.inl x1), some (.inl x2), o3, o4] [] w2 _
    refine gw_aload_n k_Md_reckon f_Md_reckon_179 rfl ?_
    refine gw_virtual [] k_Md_reckon f_Md_reckon_180 l_invT_11_151 k_Md_nextMoved hc155 rfl rfl rfl (by exact Nat.le_of_ble_eq_true rfl) (dc := 1) (by decide) ?_ rfl
    refine h.mono (fun v w4 hh => ?_)
    obtain ⟨r3, rfl, h⟩ := hh
    show Gw zs 5 m_Md_reckon 183 [some (.inr (.inl (some 155))), some (.inl x1), some (.inl x2), o3, o4] [.inl r3] w4 _
    refine gw_istore_n [some (.inr (.inl (some 155))), some (.inl x1), some (.inl r3), o3, o4] k_Md_reckon f_Md_reckon_183 (Nat.le_of_ble_eq_true rfl) rfl ?_
    refine gw_goto (t := 168) k_Md_reckon f_Md_reckon_184 rfl ?_
    exact h
theorem sg_Md_commemorates_0 {zs : List Int32} {a0 a1 : Int32} {w : Wd} {Q : Option AV → Wd → Prop} (h : Ew zs 4 m_Md_gather [.inr (.inl (some 155)), .inl a0, .inl a1] w (fun v w1 => v = none ∧ Gw zs 5 m_Md_commemorates 13 [some (.inr (.inl (some 155))), some (.inl a0), some (.inl a1), some (.inl 1), none, none, none] [] (wr w1 155 30 0) Q)) : Gw zs 5 m_Md_commemorates 0 [some (.inr (.inl (some 155))), some (.inl a0), some (.inl a1), none, none, none, none] [] w Q := by
  refine gw_aload_n k_Md_commemorates f_Md_commemorates_0 rfl ?_
  refine gw_iload_n k_Md_commemorates f_Md_commemorates_1 rfl ?_
  refine gw_iload_n k_Md_commemorates f_Md_commemorates_2 rfl ?_
  refine gw_virtual [.inl a0, .inl a1] k_Md_commemorates f_Md_commemorates_3 l_invT_11_141 k_Md_gather hc155 rfl rfl rfl (by exact Nat.le_of_ble_eq_true rfl) (dc := 4) (by decide) ?_ rfl
  refine h.mono (fun v w1 hh => ?_)
  obtain ⟨rfl, h⟩ := hh
  show Gw zs 5 m_Md_commemorates 6 [some (.inr (.inl (some 155))), some (.inl a0), some (.inl a1), none, none, none, none] [] w1 _
  refine gw_aload_n k_Md_commemorates f_Md_commemorates_6 rfl ?_
  refine gw_iconst k_Md_commemorates f_Md_commemorates_7 qc_0 ?_
  refine gw_put k_Md_commemorates f_Md_commemorates_8 l_fldT_11_173 hc155 rfl rfl rfl rfl rfl ?_
  refine gw_iconst k_Md_commemorates f_Md_commemorates_11 qc_1 ?_
  refine gw_istore_n [some (.inr (.inl (some 155))), some (.inl a0), some (.inl a1), some (.inl 1), none, none, none] k_Md_commemorates f_Md_commemorates_12 (Nat.le_of_ble_eq_true rfl) rfl ?_
  exact h
theorem sg_Md_commemorates_13 {zs : List Int32} {x2 x3 : Int32} {o1 o4 o5 o6 : Option AV} {w : Wd} {Q : Option AV → Wd → Prop} (h : ((3 ≤ (w 155 30) → Q (none) w) ∧ (¬ (3 ≤ (w 155 30)) → ((x3 = 0 → Q (none) w) ∧ (¬ (x3 = 0) → Gw zs 5 m_Md_commemorates 31 [some (.inr (.inl (some 155))), o1, some (.inl x2), some (.inl x3), some (.inl (-1)), some (.inl 0), o6] [] w Q))))) : Gw zs 5 m_Md_commemorates 13 [some (.inr (.inl (some 155))), o1, some (.inl x2), some (.inl x3), o4, o5, o6] [] w Q := by
  refine gw_aload_n k_Md_commemorates f_Md_commemorates_13 rfl ?_
  refine gw_getI k_Md_commemorates f_Md_commemorates_14 l_fldT_11_173 hc155 rfl ?_
  refine gw_iconst k_Md_commemorates f_Md_commemorates_17 qc_3 ?_
  refine gw_icmp_ge (t := 186) k_Md_commemorates f_Md_commemorates_18 rfl (fun c1 => ?_) (fun c1 => ?_)
  · have h := h.1 c1
    exact gw_vret k_Md_commemorates f_Md_commemorates_186 rfl h
  · have h := h.2 c1
    refine gw_iload_n k_Md_commemorates f_Md_commemorates_21 rfl ?_
    refine gw_if_eq (t := 186) k_Md_commemorates f_Md_commemorates_22 rfl (fun c2 => ?_) (fun c2 => ?_)
    · have h := h.1 c2
      exact gw_vret k_Md_commemorates f_Md_commemorates_186 rfl h
    · have h := h.2 c2
      refine gw_iconst k_Md_commemorates f_Md_commemorates_25 qc_m1 ?_
      refine gw_istore [some (.inr (.inl (some 155))), o1, some (.inl x2), some (.inl x3), some (.inl (-1)), o5, o6] k_Md_commemorates f_Md_commemorates_26 (Nat.le_of_ble_eq_true rfl) rfl ?_
      refine gw_iconst k_Md_commemorates f_Md_commemorates_28 qc_0 ?_
      refine gw_istore [some (.inr (.inl (some 155))), o1, some (.inl x2), some (.inl x3), some (.inl (-1)), some (.inl 0), o6] k_Md_commemorates f_Md_commemorates_29 (Nat.le_of_ble_eq_true rfl) rfl ?_
      exact h
theorem sg_Md_commemorates_31 {zs : List Int32} {x2 x4 x5 : Int32} {o1 o3 o6 : Option AV} {w : Wd} {Q : Option AV → Wd → Prop} (h : (((w 155 22) ≤ x5 → ((x4 = (-1) → Gw zs 5 m_Md_commemorates 13 [some (.inr (.inl (some 155))), o1, some (.inl x2), some (.inl 0), some (.inl x4), some (.inl x5), o6] [] w Q) ∧ (¬ (x4 = (-1)) → (vp_in (w 155 30) 3 ∧ (vp_in x4 200 ∧ Gw zs 5 m_Md_commemorates 13 [some (.inr (.inl (some 155))), o1, some (.inl x2), some (.inl 1), some (.inl x4), some (.inl x5), o6] [] (wr (wr (wr w 180 ((w 155 30).toNatClampNeg) x4) 155 30 ((w 155 30) + 1)) 179 x4.toNatClampNeg (-1)) Q))))) ∧ (¬ ((w 155 22) ≤ x5) → (vp_in x5 200 ∧ (vp_in x2 366 ∧ (((w 175 x5.toNatClampNeg) = (w 171 x2.toNatClampNeg) → (vp_in x5 200 ∧ (vp_in x2 366 ∧ (((w 176 x5.toNatClampNeg) = (w 172 x2.toNatClampNeg) → Gw zs 5 m_Md_commemorates 31 [some (.inr (.inl (some 155))), o1, some (.inl x2), o3, some (.inl x4), some (.inl (x5 + 1)), some (.inl 1)] [] w Q) ∧ (¬ ((w 176 x5.toNatClampNeg) = (w 172 x2.toNatClampNeg)) → (vp_in x5 200 ∧ (((w 179 x5.toNatClampNeg) = 1 → (vp_in x5 200 ∧ ((0 ≤ (w 175 x5.toNatClampNeg) → ((x4 = (-1) → Gw zs 5 m_Md_commemorates 31 [some (.inr (.inl (some 155))), o1, some (.inl x2), o3, some (.inl x5), some (.inl (x5 + 1)), some (.inl 0)] [] w Q) ∧ (¬ (x4 = (-1)) → Ew zs 1 m_Md_isAhead [.inr (.inl (some 155)), .inl x5, .inl x4] w (fun v w15 => ∃ r14 : Int32, v = some (.inl r14) ∧ ((r14 = 0 → Gw zs 5 m_Md_commemorates 31 [some (.inr (.inl (some 155))), o1, some (.inl x2), o3, some (.inl x4), some (.inl (x5 + 1)), some (.inl 0)] [] w15 Q) ∧ (¬ (r14 = 0) → Gw zs 5 m_Md_commemorates 31 [some (.inr (.inl (some 155))), o1, some (.inl x2), o3, some (.inl x5), some (.inl (x5 + 1)), some (.inl 0)] [] w15 Q)))))) ∧ (¬ (0 ≤ (w 175 x5.toNatClampNeg)) → Gw zs 5 m_Md_commemorates 31 [some (.inr (.inl (some 155))), o1, some (.inl x2), o3, some (.inl x4), some (.inl (x5 + 1)), some (.inl 0)] [] w Q)))) ∧ (¬ ((w 179 x5.toNatClampNeg) = 1) → Gw zs 5 m_Md_commemorates 31 [some (.inr (.inl (some 155))), o1, some (.inl x2), o3, some (.inl x4), some (.inl (x5 + 1)), some (.inl 0)] [] w Q)))))))) ∧ (¬ ((w 175 x5.toNatClampNeg) = (w 171 x2.toNatClampNeg)) → (vp_in x5 200 ∧ (((w 179 x5.toNatClampNeg) = 1 → (vp_in x5 200 ∧ ((0 ≤ (w 175 x5.toNatClampNeg) → ((x4 = (-1) → Gw zs 5 m_Md_commemorates 31 [some (.inr (.inl (some 155))), o1, some (.inl x2), o3, some (.inl x5), some (.inl (x5 + 1)), some (.inl 0)] [] w Q) ∧ (¬ (x4 = (-1)) → Ew zs 1 m_Md_isAhead [.inr (.inl (some 155)), .inl x5, .inl x4] w (fun v w8 => ∃ r7 : Int32, v = some (.inl r7) ∧ ((r7 = 0 → Gw zs 5 m_Md_commemorates 31 [some (.inr (.inl (some 155))), o1, some (.inl x2), o3, some (.inl x4), some (.inl (x5 + 1)), some (.inl 0)] [] w8 Q) ∧ (¬ (r7 = 0) → Gw zs 5 m_Md_commemorates 31 [some (.inr (.inl (some 155))), o1, some (.inl x2), o3, some (.inl x5), some (.inl (x5 + 1)), some (.inl 0)] [] w8 Q)))))) ∧ (¬ (0 ≤ (w 175 x5.toNatClampNeg)) → Gw zs 5 m_Md_commemorates 31 [some (.inr (.inl (some 155))), o1, some (.inl x2), o3, some (.inl x4), some (.inl (x5 + 1)), some (.inl 0)] [] w Q)))) ∧ (¬ ((w 179 x5.toNatClampNeg) = 1) → Gw zs 5 m_Md_commemorates 31 [some (.inr (.inl (some 155))), o1, some (.inl x2), o3, some (.inl x4), some (.inl (x5 + 1)), some (.inl 0)] [] w Q)))))))))) : Gw zs 5 m_Md_commemorates 31 [some (.inr (.inl (some 155))), o1, some (.inl x2), o3, some (.inl x4), some (.inl x5), o6] [] w Q := by
  refine gw_iload k_Md_commemorates f_Md_commemorates_31 rfl ?_
  refine gw_aload_n k_Md_commemorates f_Md_commemorates_33 rfl ?_
  refine gw_getI k_Md_commemorates f_Md_commemorates_34 l_fldT_11_100 hc155 rfl ?_
  refine gw_icmp_ge (t := 135) k_Md_commemorates f_Md_commemorates_37 rfl (fun c1 => ?_) (fun c1 => ?_)
  · have h := h.1 c1
    refine gw_iload k_Md_commemorates f_Md_commemorates_135 rfl ?_
    refine gw_iconst k_Md_commemorates f_Md_commemorates_137 qc_m1 ?_
    refine gw_icmp_eq (t := 145) k_Md_commemorates f_Md_commemorates_138 rfl (fun c2 => ?_) (fun c2 => ?_)
    · have h := h.1 c2
      refine gw_iconst k_Md_commemorates f_Md_commemorates_145 qc_0 ?_
      refine gw_istore_n [some (.inr (.inl (some 155))), o1, some (.inl x2), some (.inl 0), some (.inl x4), some (.inl x5), o6] k_Md_commemorates f_Md_commemorates_146 (Nat.le_of_ble_eq_true rfl) rfl ?_
      refine gw_iload_n k_Md_commemorates f_Md_commemorates_147 rfl ?_
      refine gw_if_ne (t := 154) k_Md_commemorates f_Md_commemorates_148 rfl (fun c => absurd c (by decide)) (fun _ => ?_)
      refine gw_goto (t := 13) k_Md_commemorates f_Md_commemorates_151 rfl ?_
      exact h
    · have h := h.2 c2
      refine gw_iconst k_Md_commemorates f_Md_commemorates_141 qc_1 ?_
      refine gw_goto (t := 146) k_Md_commemorates f_Md_commemorates_142 rfl ?_
      refine gw_istore_n [some (.inr (.inl (some 155))), o1, some (.inl x2), some (.inl 1), some (.inl x4), some (.inl x5), o6] k_Md_commemorates f_Md_commemorates_146 (Nat.le_of_ble_eq_true rfl) rfl ?_
      refine gw_iload_n k_Md_commemorates f_Md_commemorates_147 rfl ?_
      refine gw_if_ne (t := 154) k_Md_commemorates f_Md_commemorates_148 rfl (fun _ => ?_) (fun c => absurd (by decide) c)
      refine gw_aload_n k_Md_commemorates f_Md_commemorates_154 rfl ?_
      refine gw_getR k_Md_commemorates f_Md_commemorates_155 l_fldT_11_176 hc155 rfl ?_
      refine gw_aload_n k_Md_commemorates f_Md_commemorates_158 rfl ?_
      refine gw_getI k_Md_commemorates f_Md_commemorates_159 l_fldT_11_173 hc155 rfl ?_
      refine gw_iload k_Md_commemorates f_Md_commemorates_162 rfl ?_
      have hp := h.1
      have h := h.2
      refine gw_iast k_Md_commemorates f_Md_commemorates_164 hc180 hp ?_
      refine gw_aload_n k_Md_commemorates f_Md_commemorates_165 rfl ?_
      refine gw_dup k_Md_commemorates f_Md_commemorates_166 ?_
      refine gw_getI k_Md_commemorates f_Md_commemorates_167 l_fldT_11_173 hc155 rfl ?_
      rw [show (wr w 180 ((w 155 30).toNatClampNeg) x4) 155 30 = w 155 30 from wr_nc (by decide)]
      refine gw_iconst k_Md_commemorates f_Md_commemorates_170 qc_1 ?_
      refine gw_iadd k_Md_commemorates f_Md_commemorates_171 ?_
      refine gw_put k_Md_commemorates f_Md_commemorates_172 l_fldT_11_173 hc155 rfl rfl rfl rfl rfl ?_
      refine gw_aload_n k_Md_commemorates f_Md_commemorates_175 rfl ?_
      refine gw_getR k_Md_commemorates f_Md_commemorates_176 l_fldT_11_112 hc155 rfl ?_
      refine gw_iload k_Md_commemorates f_Md_commemorates_179 rfl ?_
      refine gw_iconst k_Md_commemorates f_Md_commemorates_181 qc_m1 ?_
      have hp := h.1
      have h := h.2
      refine gw_iast k_Md_commemorates f_Md_commemorates_182 hc179 hp ?_
      refine gw_goto (t := 13) k_Md_commemorates f_Md_commemorates_183 rfl ?_
      exact h
  · have h := h.2 c1
    refine gw_aload_n k_Md_commemorates f_Md_commemorates_40 rfl ?_
    refine gw_getR k_Md_commemorates f_Md_commemorates_41 l_fldT_11_97 hc155 rfl ?_
    refine gw_iload k_Md_commemorates f_Md_commemorates_44 rfl ?_
    have hp := h.1
    have h := h.2
    refine gw_iald k_Md_commemorates f_Md_commemorates_46 hc175 hp ?_
    refine gw_aload_n k_Md_commemorates f_Md_commemorates_47 rfl ?_
    refine gw_getR k_Md_commemorates f_Md_commemorates_48 l_fldT_11_158 hc155 rfl ?_
    refine gw_iload_n k_Md_commemorates f_Md_commemorates_51 rfl ?_
    have hp := h.1
    have h := h.2
    refine gw_iald k_Md_commemorates f_Md_commemorates_52 hc171 hp ?_
    refine gw_icmp_ne (t := 76) k_Md_commemorates f_Md_commemorates_53 rfl (fun c3 => ?_) (fun c3 => ?_)
    · have h := h.2 c3
      refine gw_iconst k_Md_commemorates f_Md_commemorates_76 qc_0 ?_
      refine gw_istore [some (.inr (.inl (some 155))), o1, some (.inl x2), o3, some (.inl x4), some (.inl x5), some (.inl 0)] k_Md_commemorates f_Md_commemorates_77 (Nat.le_of_ble_eq_true rfl) rfl ?_
      refine gw_iload k_Md_commemorates f_Md_commemorates_79 rfl ?_
      refine gw_if_ne (t := 129) k_Md_commemorates f_Md_commemorates_81 rfl (fun c => absurd c (by decide)) (fun _ => ?_)
      refine gw_aload_n k_Md_commemorates f_Md_commemorates_84 rfl ?_
      refine gw_getR k_Md_commemorates f_Md_commemorates_85 l_fldT_11_112 hc155 rfl ?_
      refine gw_iload k_Md_commemorates f_Md_commemorates_88 rfl ?_
      have hp := h.1
      have h := h.2
      refine gw_iald k_Md_commemorates f_Md_commemorates_90 hc179 hp ?_
      refine gw_iconst k_Md_commemorates f_Md_commemorates_91 qc_1 ?_
      refine gw_icmp_ne (t := 129) k_Md_commemorates f_Md_commemorates_92 rfl (fun c4 => ?_) (fun c4 => ?_)
      · have h := h.2 c4
        refine gw_iinc [some (.inr (.inl (some 155))), o1, some (.inl x2), o3, some (.inl x4), some (.inl (x5 + 1)), some (.inl 0)] k_Md_commemorates f_Md_commemorates_129 rfl qc_1 (Nat.le_of_ble_eq_true rfl) rfl ?_
        refine gw_goto (t := 31) k_Md_commemorates f_Md_commemorates_132 rfl ?_
        exact h
      · have c4 := Decidable.not_not.mp c4
        have h := h.1 c4
        refine gw_aload_n k_Md_commemorates f_Md_commemorates_95 rfl ?_
        refine gw_getR k_Md_commemorates f_Md_commemorates_96 l_fldT_11_97 hc155 rfl ?_
        refine gw_iload k_Md_commemorates f_Md_commemorates_99 rfl ?_
        have hp := h.1
        have h := h.2
        refine gw_iald k_Md_commemorates f_Md_commemorates_101 hc175 hp ?_
        refine gw_if_ge (t := 108) k_Md_commemorates f_Md_commemorates_102 rfl (fun c5 => ?_) (fun c5 => ?_)
        · have h := h.1 c5
          refine gw_iload k_Md_commemorates f_Md_commemorates_108 rfl ?_
          refine gw_iconst k_Md_commemorates f_Md_commemorates_110 qc_m1 ?_
          refine gw_icmp_eq (t := 125) k_Md_commemorates f_Md_commemorates_111 rfl (fun c6 => ?_) (fun c6 => ?_)
          · have h := h.1 c6
            refine gw_iload k_Md_commemorates f_Md_commemorates_125 rfl ?_
            refine gw_istore [some (.inr (.inl (some 155))), o1, some (.inl x2), o3, some (.inl x5), some (.inl x5), some (.inl 0)] k_Md_commemorates f_Md_commemorates_127 (Nat.le_of_ble_eq_true rfl) rfl ?_
            refine gw_iinc [some (.inr (.inl (some 155))), o1, some (.inl x2), o3, some (.inl x5), some (.inl (x5 + 1)), some (.inl 0)] k_Md_commemorates f_Md_commemorates_129 rfl qc_1 (Nat.le_of_ble_eq_true rfl) rfl ?_
            refine gw_goto (t := 31) k_Md_commemorates f_Md_commemorates_132 rfl ?_
            exact h
          · have h := h.2 c6
            refine gw_aload_n k_Md_commemorates f_Md_commemorates_114 rfl ?_
            refine gw_iload k_Md_commemorates f_Md_commemorates_115 rfl ?_
            refine gw_iload k_Md_commemorates f_Md_commemorates_117 rfl ?_
            refine gw_virtual [.inl x5, .inl x4] k_Md_commemorates f_Md_commemorates_119 l_invT_11_145 k_Md_isAhead hc155 rfl rfl rfl (by exact Nat.le_of_ble_eq_true rfl) (dc := 1) (by decide) ?_ rfl
            refine h.mono (fun v w8 hh => ?_)
            obtain ⟨r7, rfl, h⟩ := hh
            show Gw zs 5 m_Md_commemorates 122 [some (.inr (.inl (some 155))), o1, some (.inl x2), o3, some (.inl x4), some (.inl x5), some (.inl 0)] [.inl r7] w8 _
            refine gw_if_eq (t := 129) k_Md_commemorates f_Md_commemorates_122 rfl (fun c9 => ?_) (fun c9 => ?_)
            · have h := h.1 c9
              refine gw_iinc [some (.inr (.inl (some 155))), o1, some (.inl x2), o3, some (.inl x4), some (.inl (x5 + 1)), some (.inl 0)] k_Md_commemorates f_Md_commemorates_129 rfl qc_1 (Nat.le_of_ble_eq_true rfl) rfl ?_
              refine gw_goto (t := 31) k_Md_commemorates f_Md_commemorates_132 rfl ?_
              exact h
            · have h := h.2 c9
              refine gw_iload k_Md_commemorates f_Md_commemorates_125 rfl ?_
              refine gw_istore [some (.inr (.inl (some 155))), o1, some (.inl x2), o3, some (.inl x5), some (.inl x5), some (.inl 0)] k_Md_commemorates f_Md_commemorates_127 (Nat.le_of_ble_eq_true rfl) rfl ?_
              refine gw_iinc [some (.inr (.inl (some 155))), o1, some (.inl x2), o3, some (.inl x5), some (.inl (x5 + 1)), some (.inl 0)] k_Md_commemorates f_Md_commemorates_129 rfl qc_1 (Nat.le_of_ble_eq_true rfl) rfl ?_
              refine gw_goto (t := 31) k_Md_commemorates f_Md_commemorates_132 rfl ?_
              exact h
        · have h := h.2 c5
          refine gw_goto (t := 129) k_Md_commemorates f_Md_commemorates_105 rfl ?_
          refine gw_iinc [some (.inr (.inl (some 155))), o1, some (.inl x2), o3, some (.inl x4), some (.inl (x5 + 1)), some (.inl 0)] k_Md_commemorates f_Md_commemorates_129 rfl qc_1 (Nat.le_of_ble_eq_true rfl) rfl ?_
          refine gw_goto (t := 31) k_Md_commemorates f_Md_commemorates_132 rfl ?_
          exact h
    · have c3 := Decidable.not_not.mp c3
      have h := h.1 c3
      refine gw_aload_n k_Md_commemorates f_Md_commemorates_56 rfl ?_
      refine gw_getR k_Md_commemorates f_Md_commemorates_57 l_fldT_11_103 hc155 rfl ?_
      refine gw_iload k_Md_commemorates f_Md_commemorates_60 rfl ?_
      have hp := h.1
      have h := h.2
      refine gw_iald k_Md_commemorates f_Md_commemorates_62 hc176 hp ?_
      refine gw_aload_n k_Md_commemorates f_Md_commemorates_63 rfl ?_
      refine gw_getR k_Md_commemorates f_Md_commemorates_64 l_fldT_11_161 hc155 rfl ?_
      refine gw_iload_n k_Md_commemorates f_Md_commemorates_67 rfl ?_
      have hp := h.1
      have h := h.2
      refine gw_iald k_Md_commemorates f_Md_commemorates_68 hc172 hp ?_
      refine gw_icmp_ne (t := 76) k_Md_commemorates f_Md_commemorates_69 rfl (fun c10 => ?_) (fun c10 => ?_)
      · have h := h.2 c10
        refine gw_iconst k_Md_commemorates f_Md_commemorates_76 qc_0 ?_
        refine gw_istore [some (.inr (.inl (some 155))), o1, some (.inl x2), o3, some (.inl x4), some (.inl x5), some (.inl 0)] k_Md_commemorates f_Md_commemorates_77 (Nat.le_of_ble_eq_true rfl) rfl ?_
        refine gw_iload k_Md_commemorates f_Md_commemorates_79 rfl ?_
        refine gw_if_ne (t := 129) k_Md_commemorates f_Md_commemorates_81 rfl (fun c => absurd c (by decide)) (fun _ => ?_)
        refine gw_aload_n k_Md_commemorates f_Md_commemorates_84 rfl ?_
        refine gw_getR k_Md_commemorates f_Md_commemorates_85 l_fldT_11_112 hc155 rfl ?_
        refine gw_iload k_Md_commemorates f_Md_commemorates_88 rfl ?_
        have hp := h.1
        have h := h.2
        refine gw_iald k_Md_commemorates f_Md_commemorates_90 hc179 hp ?_
        refine gw_iconst k_Md_commemorates f_Md_commemorates_91 qc_1 ?_
        refine gw_icmp_ne (t := 129) k_Md_commemorates f_Md_commemorates_92 rfl (fun c11 => ?_) (fun c11 => ?_)
        · have h := h.2 c11
          refine gw_iinc [some (.inr (.inl (some 155))), o1, some (.inl x2), o3, some (.inl x4), some (.inl (x5 + 1)), some (.inl 0)] k_Md_commemorates f_Md_commemorates_129 rfl qc_1 (Nat.le_of_ble_eq_true rfl) rfl ?_
          refine gw_goto (t := 31) k_Md_commemorates f_Md_commemorates_132 rfl ?_
          exact h
        · have c11 := Decidable.not_not.mp c11
          have h := h.1 c11
          refine gw_aload_n k_Md_commemorates f_Md_commemorates_95 rfl ?_
          refine gw_getR k_Md_commemorates f_Md_commemorates_96 l_fldT_11_97 hc155 rfl ?_
          refine gw_iload k_Md_commemorates f_Md_commemorates_99 rfl ?_
          have hp := h.1
          have h := h.2
          refine gw_iald k_Md_commemorates f_Md_commemorates_101 hc175 hp ?_
          refine gw_if_ge (t := 108) k_Md_commemorates f_Md_commemorates_102 rfl (fun c12 => ?_) (fun c12 => ?_)
          · have h := h.1 c12
            refine gw_iload k_Md_commemorates f_Md_commemorates_108 rfl ?_
            refine gw_iconst k_Md_commemorates f_Md_commemorates_110 qc_m1 ?_
            refine gw_icmp_eq (t := 125) k_Md_commemorates f_Md_commemorates_111 rfl (fun c13 => ?_) (fun c13 => ?_)
            · have h := h.1 c13
              refine gw_iload k_Md_commemorates f_Md_commemorates_125 rfl ?_
              refine gw_istore [some (.inr (.inl (some 155))), o1, some (.inl x2), o3, some (.inl x5), some (.inl x5), some (.inl 0)] k_Md_commemorates f_Md_commemorates_127 (Nat.le_of_ble_eq_true rfl) rfl ?_
              refine gw_iinc [some (.inr (.inl (some 155))), o1, some (.inl x2), o3, some (.inl x5), some (.inl (x5 + 1)), some (.inl 0)] k_Md_commemorates f_Md_commemorates_129 rfl qc_1 (Nat.le_of_ble_eq_true rfl) rfl ?_
              refine gw_goto (t := 31) k_Md_commemorates f_Md_commemorates_132 rfl ?_
              exact h
            · have h := h.2 c13
              refine gw_aload_n k_Md_commemorates f_Md_commemorates_114 rfl ?_
              refine gw_iload k_Md_commemorates f_Md_commemorates_115 rfl ?_
              refine gw_iload k_Md_commemorates f_Md_commemorates_117 rfl ?_
              refine gw_virtual [.inl x5, .inl x4] k_Md_commemorates f_Md_commemorates_119 l_invT_11_145 k_Md_isAhead hc155 rfl rfl rfl (by exact Nat.le_of_ble_eq_true rfl) (dc := 1) (by decide) ?_ rfl
              refine h.mono (fun v w15 hh => ?_)
              obtain ⟨r14, rfl, h⟩ := hh
              show Gw zs 5 m_Md_commemorates 122 [some (.inr (.inl (some 155))), o1, some (.inl x2), o3, some (.inl x4), some (.inl x5), some (.inl 0)] [.inl r14] w15 _
              refine gw_if_eq (t := 129) k_Md_commemorates f_Md_commemorates_122 rfl (fun c16 => ?_) (fun c16 => ?_)
              · have h := h.1 c16
                refine gw_iinc [some (.inr (.inl (some 155))), o1, some (.inl x2), o3, some (.inl x4), some (.inl (x5 + 1)), some (.inl 0)] k_Md_commemorates f_Md_commemorates_129 rfl qc_1 (Nat.le_of_ble_eq_true rfl) rfl ?_
                refine gw_goto (t := 31) k_Md_commemorates f_Md_commemorates_132 rfl ?_
                exact h
              · have h := h.2 c16
                refine gw_iload k_Md_commemorates f_Md_commemorates_125 rfl ?_
                refine gw_istore [some (.inr (.inl (some 155))), o1, some (.inl x2), o3, some (.inl x5), some (.inl x5), some (.inl 0)] k_Md_commemorates f_Md_commemorates_127 (Nat.le_of_ble_eq_true rfl) rfl ?_
                refine gw_iinc [some (.inr (.inl (some 155))), o1, some (.inl x2), o3, some (.inl x5), some (.inl (x5 + 1)), some (.inl 0)] k_Md_commemorates f_Md_commemorates_129 rfl qc_1 (Nat.le_of_ble_eq_true rfl) rfl ?_
                refine gw_goto (t := 31) k_Md_commemorates f_Md_commemorates_132 rfl ?_
                exact h
          · have h := h.2 c12
            refine gw_goto (t := 129) k_Md_commemorates f_Md_commemorates_105 rfl ?_
            refine gw_iinc [some (.inr (.inl (some 155))), o1, some (.inl x2), o3, some (.inl x4), some (.inl (x5 + 1)), some (.inl 0)] k_Md_commemorates f_Md_commemorates_129 rfl qc_1 (Nat.le_of_ble_eq_true rfl) rfl ?_
            refine gw_goto (t := 31) k_Md_commemorates f_Md_commemorates_132 rfl ?_
            exact h
      · have c10 := Decidable.not_not.mp c10
        have h := h.1 c10
        refine gw_iconst k_Md_commemorates f_Md_commemorates_72 qc_1 ?_
        refine gw_goto (t := 77) k_Md_commemorates f_Md_commemorates_73 rfl ?_
        refine gw_istore [some (.inr (.inl (some 155))), o1, some (.inl x2), o3, some (.inl x4), some (.inl x5), some (.inl 1)] k_Md_commemorates f_Md_commemorates_77 (Nat.le_of_ble_eq_true rfl) rfl ?_
        refine gw_iload k_Md_commemorates f_Md_commemorates_79 rfl ?_
        refine gw_if_ne (t := 129) k_Md_commemorates f_Md_commemorates_81 rfl (fun _ => ?_) (fun c => absurd (by decide) c)
        refine gw_iinc [some (.inr (.inl (some 155))), o1, some (.inl x2), o3, some (.inl x4), some (.inl (x5 + 1)), some (.inl 1)] k_Md_commemorates f_Md_commemorates_129 rfl qc_1 (Nat.le_of_ble_eq_true rfl) rfl ?_
        refine gw_goto (t := 31) k_Md_commemorates f_Md_commemorates_132 rfl ?_
        exact h
theorem sg_Md_office_0 {zs : List Int32} {a0 a1 a2 : Int32} {w : Wd} {Q : Option AV → Wd → Prop} (h : (((f_Md_isDay a0 a1) = 0 → Q (some (.inl (-1))) w) ∧ (¬ ((f_Md_isDay a0 a1) = 0) → Ew zs 5 m_Md_reckon [.inr (.inl (some 155)), .inl a0] w (fun v w2 => v = none ∧ ((a2 = 0 → (vp_in a1 366 ∧ Q (some (.inl (w2 171 a1.toNatClampNeg))) w2)) ∧ (a2 = 1 → (vp_in a1 366 ∧ Q (some (.inl (w2 172 a1.toNatClampNeg))) w2)) ∧ (a2 = 2 → (vp_in a1 366 ∧ Q (some (.inl (w2 173 a1.toNatClampNeg))) w2)) ∧ (a2 = 3 → (vp_in a1 366 ∧ Q (some (.inl (w2 174 a1.toNatClampNeg))) w2)) ∧ (a2 = 4 → Ew zs 5 m_Md_commemorates [.inr (.inl (some 155)), .inl a0, .inl a1] w2 (fun v w8 => v = none ∧ Q (some (.inl (w8 155 30))) w8)) ∧ (a2 = 5 → (vp_in a1 366 ∧ (((w2 171 a1.toNatClampNeg) = 2 → (vp_in a1 366 ∧ (vp_in (w2 172 a1.toNatClampNeg) 60 ∧ Q (some (.inl (w2 169 ((w2 172 a1.toNatClampNeg).toNatClampNeg)))) w2))) ∧ (¬ ((w2 171 a1.toNatClampNeg) = 2) → Q (some (.inl a1)) w2)))) ∧ (¬ a2 = 0 → ¬ a2 = 1 → ¬ a2 = 2 → ¬ a2 = 3 → ¬ a2 = 4 → ¬ a2 = 5 → Q (some (.inl (-1))) w2)))))) : Gw zs 6 m_Md_office 0 [some (.inr (.inl (some 155))), some (.inl a0), some (.inl a1), some (.inl a2)] [] w Q := by
  refine gw_iload_n k_Md_office f_Md_office_0 rfl ?_
  refine gw_iload_n k_Md_office f_Md_office_1 rfl ?_
  refine gw_static [.inl a0, .inl a1] k_Md_office f_Md_office_2 l_invT_11_179 (by decide) k_Md_isDay rfl (by exact Nat.le_of_ble_eq_true rfl) (dc := 2) (by decide) ?_ rfl
  refine ev_Md_isDay ?_
  show Gw zs 6 m_Md_office 5 [some (.inr (.inl (some 155))), some (.inl a0), some (.inl a1), some (.inl a2)] [.inl (f_Md_isDay a0 a1)] w _
  refine gw_if_ne (t := 10) k_Md_office f_Md_office_5 rfl (fun c1 => ?_) (fun c1 => ?_)
  · have h := h.2 c1
    refine gw_aload_n k_Md_office f_Md_office_10 rfl ?_
    refine gw_iload_n k_Md_office f_Md_office_11 rfl ?_
    refine gw_virtual [.inl a0] k_Md_office f_Md_office_12 l_invT_11_182 k_Md_reckon hc155 rfl rfl rfl (by exact Nat.le_of_ble_eq_true rfl) (dc := 5) (by decide) ?_ rfl
    refine h.mono (fun v w2 hh => ?_)
    obtain ⟨rfl, h⟩ := hh
    show Gw zs 6 m_Md_office 15 [some (.inr (.inl (some 155))), some (.inl a0), some (.inl a1), some (.inl a2)] [] w2 _
    refine gw_iload_n k_Md_office f_Md_office_15 rfl ?_
    refine gw_tsw k_Md_office f_Md_office_16 (by decide) (by decide) (fun q hq hx => ?_) (fun hx => ?_)
    · match q, hq, hx with
      | 0, hq, hx =>
        have c3 : a2 = 0 := hx.trans (by decide)
        have h := h.1 c3
        refine ⟨_, 56, rfl, rfl, ?_⟩
        refine gw_aload_n k_Md_office f_Md_office_56 rfl ?_
        refine gw_getR k_Md_office f_Md_office_57 l_fldT_11_158 hc155 rfl ?_
        refine gw_iload_n k_Md_office f_Md_office_60 rfl ?_
        have hp := h.1
        have h := h.2
        refine gw_iald k_Md_office f_Md_office_61 hc171 hp ?_
        exact gw_iret k_Md_office f_Md_office_62 rfl h
      | 1, hq, hx =>
        have c4 : a2 = 1 := hx.trans (by decide)
        have h := h.2.1 c4
        refine ⟨_, 63, rfl, rfl, ?_⟩
        refine gw_aload_n k_Md_office f_Md_office_63 rfl ?_
        refine gw_getR k_Md_office f_Md_office_64 l_fldT_11_161 hc155 rfl ?_
        refine gw_iload_n k_Md_office f_Md_office_67 rfl ?_
        have hp := h.1
        have h := h.2
        refine gw_iald k_Md_office f_Md_office_68 hc172 hp ?_
        exact gw_iret k_Md_office f_Md_office_69 rfl h
      | 2, hq, hx =>
        have c5 : a2 = 2 := hx.trans (by decide)
        have h := h.2.2.1 c5
        refine ⟨_, 70, rfl, rfl, ?_⟩
        refine gw_aload_n k_Md_office f_Md_office_70 rfl ?_
        refine gw_getR k_Md_office f_Md_office_71 l_fldT_11_164 hc155 rfl ?_
        refine gw_iload_n k_Md_office f_Md_office_74 rfl ?_
        have hp := h.1
        have h := h.2
        refine gw_iald k_Md_office f_Md_office_75 hc173 hp ?_
        exact gw_iret k_Md_office f_Md_office_76 rfl h
      | 3, hq, hx =>
        have c6 : a2 = 3 := hx.trans (by decide)
        have h := h.2.2.2.1 c6
        refine ⟨_, 77, rfl, rfl, ?_⟩
        refine gw_aload_n k_Md_office f_Md_office_77 rfl ?_
        refine gw_getR k_Md_office f_Md_office_78 l_fldT_11_167 hc155 rfl ?_
        refine gw_iload_n k_Md_office f_Md_office_81 rfl ?_
        have hp := h.1
        have h := h.2
        refine gw_iald k_Md_office f_Md_office_82 hc174 hp ?_
        exact gw_iret k_Md_office f_Md_office_83 rfl h
      | 4, hq, hx =>
        have c7 : a2 = 4 := hx.trans (by decide)
        have h := h.2.2.2.2.1 c7
        refine ⟨_, 84, rfl, rfl, ?_⟩
        refine gw_aload_n k_Md_office f_Md_office_84 rfl ?_
        refine gw_iload_n k_Md_office f_Md_office_85 rfl ?_
        refine gw_iload_n k_Md_office f_Md_office_86 rfl ?_
        refine gw_virtual [.inl a0, .inl a1] k_Md_office f_Md_office_87 l_invT_11_186 k_Md_commemorates hc155 rfl rfl rfl (by exact Nat.le_of_ble_eq_true rfl) (dc := 5) (by decide) ?_ rfl
        refine h.mono (fun v w8 hh => ?_)
        obtain ⟨rfl, h⟩ := hh
        show Gw zs 6 m_Md_office 90 [some (.inr (.inl (some 155))), some (.inl a0), some (.inl a1), some (.inl a2)] [] w8 _
        refine gw_aload_n k_Md_office f_Md_office_90 rfl ?_
        refine gw_getI k_Md_office f_Md_office_91 l_fldT_11_173 hc155 rfl ?_
        exact gw_iret k_Md_office f_Md_office_94 rfl h
      | 5, hq, hx =>
        have c9 : a2 = 5 := hx.trans (by decide)
        have h := h.2.2.2.2.2.1 c9
        refine ⟨_, 95, rfl, rfl, ?_⟩
        refine gw_aload_n k_Md_office f_Md_office_95 rfl ?_
        refine gw_getR k_Md_office f_Md_office_96 l_fldT_11_158 hc155 rfl ?_
        refine gw_iload_n k_Md_office f_Md_office_99 rfl ?_
        have hp := h.1
        have h := h.2
        refine gw_iald k_Md_office f_Md_office_100 hc171 hp ?_
        refine gw_iconst k_Md_office f_Md_office_101 qc_2 ?_
        refine gw_icmp_ne (t := 119) k_Md_office f_Md_office_102 rfl (fun c10 => ?_) (fun c10 => ?_)
        · have h := h.2 c10
          refine gw_iload_n k_Md_office f_Md_office_119 rfl ?_
          exact gw_iret k_Md_office f_Md_office_120 rfl h
        · have c10 := Decidable.not_not.mp c10
          have h := h.1 c10
          refine gw_aload_n k_Md_office f_Md_office_105 rfl ?_
          refine gw_getR k_Md_office f_Md_office_106 l_fldT_11_129 hc155 rfl ?_
          refine gw_aload_n k_Md_office f_Md_office_109 rfl ?_
          refine gw_getR k_Md_office f_Md_office_110 l_fldT_11_161 hc155 rfl ?_
          refine gw_iload_n k_Md_office f_Md_office_113 rfl ?_
          have hp := h.1
          have h := h.2
          refine gw_iald k_Md_office f_Md_office_114 hc172 hp ?_
          have hp := h.1
          have h := h.2
          refine gw_iald k_Md_office f_Md_office_115 hc169 hp ?_
          refine gw_goto (t := 120) k_Md_office f_Md_office_116 rfl ?_
          exact gw_iret k_Md_office f_Md_office_120 rfl h
      | q + 6, hq, hx => exact absurd hq (by show ¬ (q + 6 < 6); omega)
    ·
      have c11 : ¬ a2 = 0 := fun c => hx 0 (by decide) (c.trans (by decide))
      have c12 : ¬ a2 = 1 := fun c => hx 1 (by decide) (c.trans (by decide))
      have c13 : ¬ a2 = 2 := fun c => hx 2 (by decide) (c.trans (by decide))
      have c14 : ¬ a2 = 3 := fun c => hx 3 (by decide) (c.trans (by decide))
      have c15 : ¬ a2 = 4 := fun c => hx 4 (by decide) (c.trans (by decide))
      have c16 : ¬ a2 = 5 := fun c => hx 5 (by decide) (c.trans (by decide))
      have h := h.2.2.2.2.2.2 c11 c12 c13 c14 c15 c16
      refine ⟨121, rfl, ?_⟩
      refine gw_iconst k_Md_office f_Md_office_121 qc_m1 ?_
      exact gw_iret k_Md_office f_Md_office_122 rfl h
  · have c1 := Decidable.not_not.mp c1
    have h := h.1 c1
    refine gw_iconst k_Md_office f_Md_office_8 qc_m1 ?_
    exact gw_iret k_Md_office f_Md_office_9 rfl h
theorem sg_Md_also_0 {zs : List Int32} {a0 a1 a2 a3 : Int32} {w : Wd} {Q : Option AV → Wd → Prop} (h : (((f_Md_isDay a0 a1) = 0 → Q (some (.inl (-1))) w) ∧ (¬ ((f_Md_isDay a0 a1) = 0) → Ew zs 5 m_Md_reckon [.inr (.inl (some 155)), .inl a0] w (fun v w2 => v = none ∧ Ew zs 5 m_Md_commemorates [.inr (.inl (some 155)), .inl a0, .inl a1] w2 (fun v w3 => v = none ∧ (((f_Md_in a2 0 ((w3 155 30) - 1)) = 0 → Q (some (.inl (-1))) w3) ∧ (¬ ((f_Md_in a2 0 ((w3 155 30) - 1)) = 0) → (vp_in a2 3 ∧ ((a3 = 0 → (vp_in (w3 180 a2.toNatClampNeg) 200 ∧ Q (some (.inl (w3 175 ((w3 180 a2.toNatClampNeg).toNatClampNeg)))) w3)) ∧ (¬ (a3 = 0) → ((a3 = 1 → (vp_in (w3 180 a2.toNatClampNeg) 200 ∧ Q (some (.inl (w3 176 ((w3 180 a2.toNatClampNeg).toNatClampNeg)))) w3)) ∧ (¬ (a3 = 1) → ((a3 = 2 → (vp_in (w3 180 a2.toNatClampNeg) 200 ∧ Q (some (.inl (w3 177 ((w3 180 a2.toNatClampNeg).toNatClampNeg)))) w3)) ∧ (¬ (a3 = 2) → Q (some (.inl (-1))) w3)))))))))))))) : Gw zs 6 m_Md_also 0 [some (.inr (.inl (some 155))), some (.inl a0), some (.inl a1), some (.inl a2), some (.inl a3), none] [] w Q := by
  refine gw_iload_n k_Md_also f_Md_also_0 rfl ?_
  refine gw_iload_n k_Md_also f_Md_also_1 rfl ?_
  refine gw_static [.inl a0, .inl a1] k_Md_also f_Md_also_2 l_invT_11_179 (by decide) k_Md_isDay rfl (by exact Nat.le_of_ble_eq_true rfl) (dc := 2) (by decide) ?_ rfl
  refine ev_Md_isDay ?_
  show Gw zs 6 m_Md_also 5 [some (.inr (.inl (some 155))), some (.inl a0), some (.inl a1), some (.inl a2), some (.inl a3), none] [.inl (f_Md_isDay a0 a1)] w _
  refine gw_if_ne (t := 10) k_Md_also f_Md_also_5 rfl (fun c1 => ?_) (fun c1 => ?_)
  · have h := h.2 c1
    refine gw_aload_n k_Md_also f_Md_also_10 rfl ?_
    refine gw_iload_n k_Md_also f_Md_also_11 rfl ?_
    refine gw_virtual [.inl a0] k_Md_also f_Md_also_12 l_invT_11_182 k_Md_reckon hc155 rfl rfl rfl (by exact Nat.le_of_ble_eq_true rfl) (dc := 5) (by decide) ?_ rfl
    refine h.mono (fun v w2 hh => ?_)
    obtain ⟨rfl, h⟩ := hh
    show Gw zs 6 m_Md_also 15 [some (.inr (.inl (some 155))), some (.inl a0), some (.inl a1), some (.inl a2), some (.inl a3), none] [] w2 _
    refine gw_aload_n k_Md_also f_Md_also_15 rfl ?_
    refine gw_iload_n k_Md_also f_Md_also_16 rfl ?_
    refine gw_iload_n k_Md_also f_Md_also_17 rfl ?_
    refine gw_virtual [.inl a0, .inl a1] k_Md_also f_Md_also_18 l_invT_11_186 k_Md_commemorates hc155 rfl rfl rfl (by exact Nat.le_of_ble_eq_true rfl) (dc := 5) (by decide) ?_ rfl
    refine h.mono (fun v w3 hh => ?_)
    obtain ⟨rfl, h⟩ := hh
    show Gw zs 6 m_Md_also 21 [some (.inr (.inl (some 155))), some (.inl a0), some (.inl a1), some (.inl a2), some (.inl a3), none] [] w3 _
    refine gw_iload_n k_Md_also f_Md_also_21 rfl ?_
    refine gw_iconst k_Md_also f_Md_also_22 qc_0 ?_
    refine gw_aload_n k_Md_also f_Md_also_23 rfl ?_
    refine gw_getI k_Md_also f_Md_also_24 l_fldT_11_173 hc155 rfl ?_
    refine gw_iconst k_Md_also f_Md_also_27 qc_1 ?_
    refine gw_isub k_Md_also f_Md_also_28 ?_
    refine gw_static [.inl a2, .inl 0, .inl ((w3 155 30) - 1)] k_Md_also f_Md_also_29 l_invT_11_1 (by decide) k_Md_in rfl (by exact Nat.le_of_ble_eq_true rfl) (dc := 0) (by decide) ?_ rfl
    refine ev_Md_in ?_
    show Gw zs 6 m_Md_also 32 [some (.inr (.inl (some 155))), some (.inl a0), some (.inl a1), some (.inl a2), some (.inl a3), none] [.inl (f_Md_in a2 0 ((w3 155 30) - 1))] w3 _
    refine gw_if_ne (t := 37) k_Md_also f_Md_also_32 rfl (fun c4 => ?_) (fun c4 => ?_)
    · have h := h.2 c4
      refine gw_aload_n k_Md_also f_Md_also_37 rfl ?_
      refine gw_getR k_Md_also f_Md_also_38 l_fldT_11_176 hc155 rfl ?_
      refine gw_iload_n k_Md_also f_Md_also_41 rfl ?_
      have hp := h.1
      have h := h.2
      refine gw_iald k_Md_also f_Md_also_42 hc180 hp ?_
      refine gw_istore [some (.inr (.inl (some 155))), some (.inl a0), some (.inl a1), some (.inl a2), some (.inl a3), some (.inl (w3 180 a2.toNatClampNeg))] k_Md_also f_Md_also_43 (Nat.le_of_ble_eq_true rfl) rfl ?_
      refine gw_iload k_Md_also f_Md_also_45 rfl ?_
      refine gw_if_ne (t := 60) k_Md_also f_Md_also_47 rfl (fun c5 => ?_) (fun c5 => ?_)
      · have h := h.2 c5
        refine gw_iload k_Md_also f_Md_also_60 rfl ?_
        refine gw_iconst k_Md_also f_Md_also_62 qc_1 ?_
        refine gw_icmp_ne (t := 76) k_Md_also f_Md_also_63 rfl (fun c6 => ?_) (fun c6 => ?_)
        · have h := h.2 c6
          refine gw_iload k_Md_also f_Md_also_76 rfl ?_
          refine gw_iconst k_Md_also f_Md_also_78 qc_2 ?_
          refine gw_icmp_ne (t := 92) k_Md_also f_Md_also_79 rfl (fun c7 => ?_) (fun c7 => ?_)
          · have h := h.2 c7
            refine gw_iconst k_Md_also f_Md_also_92 qc_m1 ?_
            exact gw_iret k_Md_also f_Md_also_93 rfl h
          · have c7 := Decidable.not_not.mp c7
            have h := h.1 c7
            refine gw_aload_n k_Md_also f_Md_also_82 rfl ?_
            refine gw_getR k_Md_also f_Md_also_83 l_fldT_11_106 hc155 rfl ?_
            refine gw_iload k_Md_also f_Md_also_86 rfl ?_
            have hp := h.1
            have h := h.2
            refine gw_iald k_Md_also f_Md_also_88 hc177 hp ?_
            refine gw_goto (t := 93) k_Md_also f_Md_also_89 rfl ?_
            exact gw_iret k_Md_also f_Md_also_93 rfl h
        · have c6 := Decidable.not_not.mp c6
          have h := h.1 c6
          refine gw_aload_n k_Md_also f_Md_also_66 rfl ?_
          refine gw_getR k_Md_also f_Md_also_67 l_fldT_11_103 hc155 rfl ?_
          refine gw_iload k_Md_also f_Md_also_70 rfl ?_
          have hp := h.1
          have h := h.2
          refine gw_iald k_Md_also f_Md_also_72 hc176 hp ?_
          refine gw_goto (t := 93) k_Md_also f_Md_also_73 rfl ?_
          exact gw_iret k_Md_also f_Md_also_93 rfl h
      · have c5 := Decidable.not_not.mp c5
        have h := h.1 c5
        refine gw_aload_n k_Md_also f_Md_also_50 rfl ?_
        refine gw_getR k_Md_also f_Md_also_51 l_fldT_11_97 hc155 rfl ?_
        refine gw_iload k_Md_also f_Md_also_54 rfl ?_
        have hp := h.1
        have h := h.2
        refine gw_iald k_Md_also f_Md_also_56 hc175 hp ?_
        refine gw_goto (t := 93) k_Md_also f_Md_also_57 rfl ?_
        exact gw_iret k_Md_also f_Md_also_93 rfl h
    · have c4 := Decidable.not_not.mp c4
      have h := h.1 c4
      refine gw_iconst k_Md_also f_Md_also_35 qc_m1 ?_
      exact gw_iret k_Md_also f_Md_also_36 rfl h
  · have c1 := Decidable.not_not.mp c1
    have h := h.1 c1
    refine gw_iconst k_Md_also f_Md_also_8 qc_m1 ?_
    exact gw_iret k_Md_also f_Md_also_9 rfl h
theorem sg_Md_keptDay_0 {zs : List Int32} {a0 a1 : Int32} {w : Wd} {Q : Option AV → Wd → Prop} (h : (vp_in a1 60 ∧ (((w 169 a1.toNatClampNeg) = (-1) → Q (some (.inl (-5))) w) ∧ (¬ ((w 169 a1.toNatClampNeg) = (-1)) → (vp_in a1 60 ∧ Ew zs 0 m_Md_isOffice [.inr (.inl (some 155)), .inl (w 169 a1.toNatClampNeg), .inl a1] w (fun v w3 => ∃ r2 : Int32, v = some (.inl r2) ∧ ((r2 = 0 → (vp_in a1 60 ∧ (((w3 166 a1.toNatClampNeg) = 2 → (vp_in a1 60 ∧ (((w3 170 a1.toNatClampNeg) = (-2) → Q (some (.inl (-4))) w3) ∧ (¬ ((w3 170 a1.toNatClampNeg) = (-2)) → (vp_in a1 60 ∧ Q (some (.inl (w3 170 a1.toNatClampNeg))) w3))))) ∧ (¬ ((w3 166 a1.toNatClampNeg) = 2) → (vp_in a1 60 ∧ Ew zs 5 m_Md_commemorates [.inr (.inl (some 155)), .inl a0, .inl (w3 169 a1.toNatClampNeg)] w3 (fun v w6 => v = none ∧ Gw zs 6 m_Md_keptDay 80 [some (.inr (.inl (some 155))), some (.inl a0), some (.inl a1), some (.inl 0)] [] w6 Q)))))) ∧ (¬ (r2 = 0) → (vp_in a1 60 ∧ Q (some (.inl (w3 169 a1.toNatClampNeg))) w3))))))))) : Gw zs 6 m_Md_keptDay 0 [some (.inr (.inl (some 155))), some (.inl a0), some (.inl a1), none] [] w Q := by
  refine gw_aload_n k_Md_keptDay f_Md_keptDay_0 rfl ?_
  refine gw_getR k_Md_keptDay f_Md_keptDay_1 l_fldT_11_129 hc155 rfl ?_
  refine gw_iload_n k_Md_keptDay f_Md_keptDay_4 rfl ?_
  have hp := h.1
  have h := h.2
  refine gw_iald k_Md_keptDay f_Md_keptDay_5 hc169 hp ?_
  refine gw_iconst k_Md_keptDay f_Md_keptDay_6 qc_m1 ?_
  refine gw_icmp_ne (t := 13) k_Md_keptDay f_Md_keptDay_7 rfl (fun c1 => ?_) (fun c1 => ?_)
  · have h := h.2 c1
    refine gw_aload_n k_Md_keptDay f_Md_keptDay_13 rfl ?_
    refine gw_aload_n k_Md_keptDay f_Md_keptDay_14 rfl ?_
    refine gw_getR k_Md_keptDay f_Md_keptDay_15 l_fldT_11_129 hc155 rfl ?_
    refine gw_iload_n k_Md_keptDay f_Md_keptDay_18 rfl ?_
    have hp := h.1
    have h := h.2
    refine gw_iald k_Md_keptDay f_Md_keptDay_19 hc169 hp ?_
    refine gw_iload_n k_Md_keptDay f_Md_keptDay_20 rfl ?_
    refine gw_virtual [.inl (w 169 a1.toNatClampNeg), .inl a1] k_Md_keptDay f_Md_keptDay_21 l_invT_11_170 k_Md_isOffice hc155 rfl rfl rfl (by exact Nat.le_of_ble_eq_true rfl) (dc := 0) (by decide) ?_ rfl
    refine h.mono (fun v w3 hh => ?_)
    obtain ⟨r2, rfl, h⟩ := hh
    show Gw zs 6 m_Md_keptDay 24 [some (.inr (.inl (some 155))), some (.inl a0), some (.inl a1), none] [.inl r2] w3 _
    refine gw_if_eq (t := 34) k_Md_keptDay f_Md_keptDay_24 rfl (fun c4 => ?_) (fun c4 => ?_)
    · have h := h.1 c4
      refine gw_aload_n k_Md_keptDay f_Md_keptDay_34 rfl ?_
      refine gw_getR k_Md_keptDay f_Md_keptDay_35 l_fldT_11_85 hc155 rfl ?_
      refine gw_iload_n k_Md_keptDay f_Md_keptDay_38 rfl ?_
      have hp := h.1
      have h := h.2
      refine gw_iald k_Md_keptDay f_Md_keptDay_39 hc166 hp ?_
      refine gw_iconst k_Md_keptDay f_Md_keptDay_40 qc_2 ?_
      refine gw_icmp_ne (t := 67) k_Md_keptDay f_Md_keptDay_41 rfl (fun c5 => ?_) (fun c5 => ?_)
      · have h := h.2 c5
        refine gw_aload_n k_Md_keptDay f_Md_keptDay_67 rfl ?_
        refine gw_iload_n k_Md_keptDay f_Md_keptDay_68 rfl ?_
        refine gw_aload_n k_Md_keptDay f_Md_keptDay_69 rfl ?_
        refine gw_getR k_Md_keptDay f_Md_keptDay_70 l_fldT_11_129 hc155 rfl ?_
        refine gw_iload_n k_Md_keptDay f_Md_keptDay_73 rfl ?_
        have hp := h.1
        have h := h.2
        refine gw_iald k_Md_keptDay f_Md_keptDay_74 hc169 hp ?_
        refine gw_virtual [.inl a0, .inl (w3 169 a1.toNatClampNeg)] k_Md_keptDay f_Md_keptDay_75 l_invT_11_186 k_Md_commemorates hc155 rfl rfl rfl (by exact Nat.le_of_ble_eq_true rfl) (dc := 5) (by decide) ?_ rfl
        refine h.mono (fun v w6 hh => ?_)
        obtain ⟨rfl, h⟩ := hh
        show Gw zs 6 m_Md_keptDay 78 [some (.inr (.inl (some 155))), some (.inl a0), some (.inl a1), none] [] w6 _
        refine gw_iconst k_Md_keptDay f_Md_keptDay_78 qc_0 ?_
        refine gw_istore_n [some (.inr (.inl (some 155))), some (.inl a0), some (.inl a1), some (.inl 0)] k_Md_keptDay f_Md_keptDay_79 (Nat.le_of_ble_eq_true rfl) rfl ?_
        exact h
      · have c5 := Decidable.not_not.mp c5
        have h := h.1 c5
        refine gw_aload_n k_Md_keptDay f_Md_keptDay_44 rfl ?_
        refine gw_getR k_Md_keptDay f_Md_keptDay_45 l_fldT_11_138 hc155 rfl ?_
        refine gw_iload_n k_Md_keptDay f_Md_keptDay_48 rfl ?_
        have hp := h.1
        have h := h.2
        refine gw_iald k_Md_keptDay f_Md_keptDay_49 hc170 hp ?_
        refine gw_bipush k_Md_keptDay f_Md_keptDay_50 qb_m2 ?_
        refine gw_icmp_ne (t := 60) k_Md_keptDay f_Md_keptDay_52 rfl (fun c7 => ?_) (fun c7 => ?_)
        · have h := h.2 c7
          refine gw_aload_n k_Md_keptDay f_Md_keptDay_60 rfl ?_
          refine gw_getR k_Md_keptDay f_Md_keptDay_61 l_fldT_11_138 hc155 rfl ?_
          refine gw_iload_n k_Md_keptDay f_Md_keptDay_64 rfl ?_
          have hp := h.1
          have h := h.2
          refine gw_iald k_Md_keptDay f_Md_keptDay_65 hc170 hp ?_
          exact gw_iret k_Md_keptDay f_Md_keptDay_66 rfl h
        · have c7 := Decidable.not_not.mp c7
          have h := h.1 c7
          refine gw_bipush k_Md_keptDay f_Md_keptDay_55 qb_m4 ?_
          refine gw_goto (t := 66) k_Md_keptDay f_Md_keptDay_57 rfl ?_
          exact gw_iret k_Md_keptDay f_Md_keptDay_66 rfl h
    · have h := h.2 c4
      refine gw_aload_n k_Md_keptDay f_Md_keptDay_27 rfl ?_
      refine gw_getR k_Md_keptDay f_Md_keptDay_28 l_fldT_11_129 hc155 rfl ?_
      refine gw_iload_n k_Md_keptDay f_Md_keptDay_31 rfl ?_
      have hp := h.1
      have h := h.2
      refine gw_iald k_Md_keptDay f_Md_keptDay_32 hc169 hp ?_
      exact gw_iret k_Md_keptDay f_Md_keptDay_33 rfl h
  · have c1 := Decidable.not_not.mp c1
    have h := h.1 c1
    refine gw_bipush k_Md_keptDay f_Md_keptDay_10 qb_m5 ?_
    exact gw_iret k_Md_keptDay f_Md_keptDay_12 rfl h
theorem sg_Md_keptDay_80 {zs : List Int32} {x2 x3 : Int32} {o1 : Option AV} {w : Wd} {Q : Option AV → Wd → Prop} (h : (((w 155 30) ≤ x3 → Q (some (.inl (-3))) w) ∧ (¬ ((w 155 30) ≤ x3) → (vp_in x3 3 ∧ (vp_in (w 180 x3.toNatClampNeg) 200 ∧ (((w 175 ((w 180 x3.toNatClampNeg).toNatClampNeg)) = 2 → (vp_in x3 3 ∧ (vp_in (w 180 x3.toNatClampNeg) 200 ∧ (((w 176 ((w 180 x3.toNatClampNeg).toNatClampNeg)) = x2 → Q (some (.inl (-2))) w) ∧ (¬ ((w 176 ((w 180 x3.toNatClampNeg).toNatClampNeg)) = x2) → Gw zs 6 m_Md_keptDay 80 [some (.inr (.inl (some 155))), o1, some (.inl x2), some (.inl (x3 + 1))] [] w Q))))) ∧ (¬ ((w 175 ((w 180 x3.toNatClampNeg).toNatClampNeg)) = 2) → Gw zs 6 m_Md_keptDay 80 [some (.inr (.inl (some 155))), o1, some (.inl x2), some (.inl (x3 + 1))] [] w Q))))))) : Gw zs 6 m_Md_keptDay 80 [some (.inr (.inl (some 155))), o1, some (.inl x2), some (.inl x3)] [] w Q := by
  refine gw_iload_n k_Md_keptDay f_Md_keptDay_80 rfl ?_
  refine gw_aload_n k_Md_keptDay f_Md_keptDay_81 rfl ?_
  refine gw_getI k_Md_keptDay f_Md_keptDay_82 l_fldT_11_173 hc155 rfl ?_
  refine gw_icmp_ge (t := 127) k_Md_keptDay f_Md_keptDay_85 rfl (fun c1 => ?_) (fun c1 => ?_)
  · have h := h.1 c1
    refine gw_bipush k_Md_keptDay f_Md_keptDay_127 qb_m3 ?_
    exact gw_iret k_Md_keptDay f_Md_keptDay_129 rfl h
  · have h := h.2 c1
    refine gw_aload_n k_Md_keptDay f_Md_keptDay_88 rfl ?_
    refine gw_getR k_Md_keptDay f_Md_keptDay_89 l_fldT_11_97 hc155 rfl ?_
    refine gw_aload_n k_Md_keptDay f_Md_keptDay_92 rfl ?_
    refine gw_getR k_Md_keptDay f_Md_keptDay_93 l_fldT_11_176 hc155 rfl ?_
    refine gw_iload_n k_Md_keptDay f_Md_keptDay_96 rfl ?_
    have hp := h.1
    have h := h.2
    refine gw_iald k_Md_keptDay f_Md_keptDay_97 hc180 hp ?_
    have hp := h.1
    have h := h.2
    refine gw_iald k_Md_keptDay f_Md_keptDay_98 hc175 hp ?_
    refine gw_iconst k_Md_keptDay f_Md_keptDay_99 qc_2 ?_
    refine gw_icmp_ne (t := 121) k_Md_keptDay f_Md_keptDay_100 rfl (fun c2 => ?_) (fun c2 => ?_)
    · have h := h.2 c2
      refine gw_iinc [some (.inr (.inl (some 155))), o1, some (.inl x2), some (.inl (x3 + 1))] k_Md_keptDay f_Md_keptDay_121 rfl qc_1 (Nat.le_of_ble_eq_true rfl) rfl ?_
      refine gw_goto (t := 80) k_Md_keptDay f_Md_keptDay_124 rfl ?_
      exact h
    · have c2 := Decidable.not_not.mp c2
      have h := h.1 c2
      refine gw_aload_n k_Md_keptDay f_Md_keptDay_103 rfl ?_
      refine gw_getR k_Md_keptDay f_Md_keptDay_104 l_fldT_11_103 hc155 rfl ?_
      refine gw_aload_n k_Md_keptDay f_Md_keptDay_107 rfl ?_
      refine gw_getR k_Md_keptDay f_Md_keptDay_108 l_fldT_11_176 hc155 rfl ?_
      refine gw_iload_n k_Md_keptDay f_Md_keptDay_111 rfl ?_
      have hp := h.1
      have h := h.2
      refine gw_iald k_Md_keptDay f_Md_keptDay_112 hc180 hp ?_
      have hp := h.1
      have h := h.2
      refine gw_iald k_Md_keptDay f_Md_keptDay_113 hc176 hp ?_
      refine gw_iload_n k_Md_keptDay f_Md_keptDay_114 rfl ?_
      refine gw_icmp_ne (t := 121) k_Md_keptDay f_Md_keptDay_115 rfl (fun c3 => ?_) (fun c3 => ?_)
      · have h := h.2 c3
        refine gw_iinc [some (.inr (.inl (some 155))), o1, some (.inl x2), some (.inl (x3 + 1))] k_Md_keptDay f_Md_keptDay_121 rfl qc_1 (Nat.le_of_ble_eq_true rfl) rfl ?_
        refine gw_goto (t := 80) k_Md_keptDay f_Md_keptDay_124 rfl ?_
        exact h
      · have c3 := Decidable.not_not.mp c3
        have h := h.1 c3
        refine gw_bipush k_Md_keptDay f_Md_keptDay_118 qb_m2 ?_
        exact gw_iret k_Md_keptDay f_Md_keptDay_120 rfl h
theorem sg_Md_kept_0 {zs : List Int32} {a0 a1 : Int32} {w : Wd} {Q : Option AV → Wd → Prop} (h : (((f_Md_isYear a0) = 0 → Q (some (.inl (-1))) w) ∧ (¬ ((f_Md_isYear a0) = 0) → (((f_Md_in a1 0 ((w 155 1) - 1)) = 0 → Q (some (.inl (-1))) w) ∧ (¬ ((f_Md_in a1 0 ((w 155 1) - 1)) = 0) → Ew zs 5 m_Md_reckon [.inr (.inl (some 155)), .inl a0] w (fun v w3 => v = none ∧ Ew zs 6 m_Md_keptDay [.inr (.inl (some 155)), .inl a0, .inl a1] w3 (fun v w5 => ∃ r4 : Int32, v = some (.inl r4) ∧ Q (some (.inl r4)) w5))))))) : Gw zs 7 m_Md_kept 0 [some (.inr (.inl (some 155))), some (.inl a0), some (.inl a1)] [] w Q := by
  refine gw_iload_n k_Md_kept f_Md_kept_0 rfl ?_
  refine gw_static [.inl a0] k_Md_kept f_Md_kept_1 l_invT_11_23 (by decide) k_Md_isYear rfl (by exact Nat.le_of_ble_eq_true rfl) (dc := 1) (by decide) ?_ rfl
  refine ev_Md_isYear ?_
  show Gw zs 7 m_Md_kept 4 [some (.inr (.inl (some 155))), some (.inl a0), some (.inl a1)] [.inl (f_Md_isYear a0)] w _
  refine gw_if_eq (t := 21) k_Md_kept f_Md_kept_4 rfl (fun c1 => ?_) (fun c1 => ?_)
  · have h := h.1 c1
    refine gw_iconst k_Md_kept f_Md_kept_21 qc_m1 ?_
    exact gw_iret k_Md_kept f_Md_kept_22 rfl h
  · have h := h.2 c1
    refine gw_iload_n k_Md_kept f_Md_kept_7 rfl ?_
    refine gw_iconst k_Md_kept f_Md_kept_8 qc_0 ?_
    refine gw_aload_n k_Md_kept f_Md_kept_9 rfl ?_
    refine gw_getI k_Md_kept f_Md_kept_10 l_fldT_11_66 hc155 rfl ?_
    refine gw_iconst k_Md_kept f_Md_kept_13 qc_1 ?_
    refine gw_isub k_Md_kept f_Md_kept_14 ?_
    refine gw_static [.inl a1, .inl 0, .inl ((w 155 1) - 1)] k_Md_kept f_Md_kept_15 l_invT_11_1 (by decide) k_Md_in rfl (by exact Nat.le_of_ble_eq_true rfl) (dc := 0) (by decide) ?_ rfl
    refine ev_Md_in ?_
    show Gw zs 7 m_Md_kept 18 [some (.inr (.inl (some 155))), some (.inl a0), some (.inl a1)] [.inl (f_Md_in a1 0 ((w 155 1) - 1))] w _
    refine gw_if_ne (t := 23) k_Md_kept f_Md_kept_18 rfl (fun c2 => ?_) (fun c2 => ?_)
    · have h := h.2 c2
      refine gw_aload_n k_Md_kept f_Md_kept_23 rfl ?_
      refine gw_iload_n k_Md_kept f_Md_kept_24 rfl ?_
      refine gw_virtual [.inl a0] k_Md_kept f_Md_kept_25 l_invT_11_182 k_Md_reckon hc155 rfl rfl rfl (by exact Nat.le_of_ble_eq_true rfl) (dc := 5) (by decide) ?_ rfl
      refine h.mono (fun v w3 hh => ?_)
      obtain ⟨rfl, h⟩ := hh
      show Gw zs 7 m_Md_kept 28 [some (.inr (.inl (some 155))), some (.inl a0), some (.inl a1)] [] w3 _
      refine gw_aload_n k_Md_kept f_Md_kept_28 rfl ?_
      refine gw_iload_n k_Md_kept f_Md_kept_29 rfl ?_
      refine gw_iload_n k_Md_kept f_Md_kept_30 rfl ?_
      refine gw_virtual [.inl a0, .inl a1] k_Md_kept f_Md_kept_31 l_invT_11_189 k_Md_keptDay hc155 rfl rfl rfl (by exact Nat.le_of_ble_eq_true rfl) (dc := 6) (by decide) ?_ rfl
      refine h.mono (fun v w5 hh => ?_)
      obtain ⟨r4, rfl, h⟩ := hh
      show Gw zs 7 m_Md_kept 34 [some (.inr (.inl (some 155))), some (.inl a0), some (.inl a1)] [.inl r4] w5 _
      exact gw_iret k_Md_kept f_Md_kept_34 rfl h
    · have c2 := Decidable.not_not.mp c2
      have h := h.1 c2
      refine gw_iconst k_Md_kept f_Md_kept_21 qc_m1 ?_
      exact gw_iret k_Md_kept f_Md_kept_22 rfl h
theorem sg_Md_tally_0 {zs : List Int32} {a0 a1 a2 : Int32} {w : Wd} {Q : Option AV → Wd → Prop} (h : (((f_Md_isYear a0) = 0 → Q (some (.inl (-1))) w) ∧ (¬ ((f_Md_isYear a0) = 0) → (((f_Md_in a1 0 6) = 0 → Q (some (.inl (-1))) w) ∧ (¬ ((f_Md_in a1 0 6) = 0) → ((a1 ≤ 2 → Ew zs 5 m_Md_reckon [.inr (.inl (some 155)), .inl a0] w (fun v w4 => v = none ∧ Gw zs 7 m_Md_tally 39 [some (.inr (.inl (some 155))), some (.inl a0), some (.inl a1), some (.inl a2), some (.inl 0), some (.inl 0), none, none] [] w4 Q)) ∧ (¬ (a1 ≤ 2) → ((a2 = 0 → Ew zs 5 m_Md_reckon [.inr (.inl (some 155)), .inl a0] w (fun v w6 => v = none ∧ Gw zs 7 m_Md_tally 39 [some (.inr (.inl (some 155))), some (.inl a0), some (.inl a1), some (.inl a2), some (.inl 0), some (.inl 0), none, none] [] w6 Q)) ∧ (¬ (a2 = 0) → Q (some (.inl (-1))) w))))))))) : Gw zs 7 m_Md_tally 0 [some (.inr (.inl (some 155))), some (.inl a0), some (.inl a1), some (.inl a2), none, none, none, none] [] w Q := by
  refine gw_iload_n k_Md_tally f_Md_tally_0 rfl ?_
  refine gw_static [.inl a0] k_Md_tally f_Md_tally_1 l_invT_11_23 (by decide) k_Md_isYear rfl (by exact Nat.le_of_ble_eq_true rfl) (dc := 1) (by decide) ?_ rfl
  refine ev_Md_isYear ?_
  show Gw zs 7 m_Md_tally 4 [some (.inr (.inl (some 155))), some (.inl a0), some (.inl a1), some (.inl a2), none, none, none, none] [.inl (f_Md_isYear a0)] w _
  refine gw_if_eq (t := 26) k_Md_tally f_Md_tally_4 rfl (fun c1 => ?_) (fun c1 => ?_)
  · have h := h.1 c1
    refine gw_iconst k_Md_tally f_Md_tally_26 qc_m1 ?_
    exact gw_iret k_Md_tally f_Md_tally_27 rfl h
  · have h := h.2 c1
    refine gw_iload_n k_Md_tally f_Md_tally_7 rfl ?_
    refine gw_iconst k_Md_tally f_Md_tally_8 qc_0 ?_
    refine gw_bipush k_Md_tally f_Md_tally_9 qb_6 ?_
    refine gw_static [.inl a1, .inl 0, .inl 6] k_Md_tally f_Md_tally_11 l_invT_11_1 (by decide) k_Md_in rfl (by exact Nat.le_of_ble_eq_true rfl) (dc := 0) (by decide) ?_ rfl
    refine ev_Md_in ?_
    show Gw zs 7 m_Md_tally 14 [some (.inr (.inl (some 155))), some (.inl a0), some (.inl a1), some (.inl a2), none, none, none, none] [.inl (f_Md_in a1 0 6)] w _
    refine gw_if_eq (t := 26) k_Md_tally f_Md_tally_14 rfl (fun c2 => ?_) (fun c2 => ?_)
    · have h := h.1 c2
      refine gw_iconst k_Md_tally f_Md_tally_26 qc_m1 ?_
      exact gw_iret k_Md_tally f_Md_tally_27 rfl h
    · have h := h.2 c2
      refine gw_iload_n k_Md_tally f_Md_tally_17 rfl ?_
      refine gw_iconst k_Md_tally f_Md_tally_18 qc_2 ?_
      refine gw_icmp_le (t := 28) k_Md_tally f_Md_tally_19 rfl (fun c3 => ?_) (fun c3 => ?_)
      · have h := h.1 c3
        refine gw_aload_n k_Md_tally f_Md_tally_28 rfl ?_
        refine gw_iload_n k_Md_tally f_Md_tally_29 rfl ?_
        refine gw_virtual [.inl a0] k_Md_tally f_Md_tally_30 l_invT_11_182 k_Md_reckon hc155 rfl rfl rfl (by exact Nat.le_of_ble_eq_true rfl) (dc := 5) (by decide) ?_ rfl
        refine h.mono (fun v w4 hh => ?_)
        obtain ⟨rfl, h⟩ := hh
        show Gw zs 7 m_Md_tally 33 [some (.inr (.inl (some 155))), some (.inl a0), some (.inl a1), some (.inl a2), none, none, none, none] [] w4 _
        refine gw_iconst k_Md_tally f_Md_tally_33 qc_0 ?_
        refine gw_istore [some (.inr (.inl (some 155))), some (.inl a0), some (.inl a1), some (.inl a2), some (.inl 0), none, none, none] k_Md_tally f_Md_tally_34 (Nat.le_of_ble_eq_true rfl) rfl ?_
        refine gw_iconst k_Md_tally f_Md_tally_36 qc_0 ?_
        refine gw_istore [some (.inr (.inl (some 155))), some (.inl a0), some (.inl a1), some (.inl a2), some (.inl 0), some (.inl 0), none, none] k_Md_tally f_Md_tally_37 (Nat.le_of_ble_eq_true rfl) rfl ?_
        exact h
      · have h := h.2 c3
        refine gw_iload_n k_Md_tally f_Md_tally_22 rfl ?_
        refine gw_if_eq (t := 28) k_Md_tally f_Md_tally_23 rfl (fun c5 => ?_) (fun c5 => ?_)
        · have h := h.1 c5
          refine gw_aload_n k_Md_tally f_Md_tally_28 rfl ?_
          refine gw_iload_n k_Md_tally f_Md_tally_29 rfl ?_
          refine gw_virtual [.inl a0] k_Md_tally f_Md_tally_30 l_invT_11_182 k_Md_reckon hc155 rfl rfl rfl (by exact Nat.le_of_ble_eq_true rfl) (dc := 5) (by decide) ?_ rfl
          refine h.mono (fun v w6 hh => ?_)
          obtain ⟨rfl, h⟩ := hh
          show Gw zs 7 m_Md_tally 33 [some (.inr (.inl (some 155))), some (.inl a0), some (.inl a1), some (.inl a2), none, none, none, none] [] w6 _
          refine gw_iconst k_Md_tally f_Md_tally_33 qc_0 ?_
          refine gw_istore [some (.inr (.inl (some 155))), some (.inl a0), some (.inl a1), some (.inl a2), some (.inl 0), none, none, none] k_Md_tally f_Md_tally_34 (Nat.le_of_ble_eq_true rfl) rfl ?_
          refine gw_iconst k_Md_tally f_Md_tally_36 qc_0 ?_
          refine gw_istore [some (.inr (.inl (some 155))), some (.inl a0), some (.inl a1), some (.inl a2), some (.inl 0), some (.inl 0), none, none] k_Md_tally f_Md_tally_37 (Nat.le_of_ble_eq_true rfl) rfl ?_
          exact h
        · have h := h.2 c5
          refine gw_iconst k_Md_tally f_Md_tally_26 qc_m1 ?_
          exact gw_iret k_Md_tally f_Md_tally_27 rfl h
theorem sg_Md_tally_39 {zs : List Int32} {x1 x2 x3 x4 x5 : Int32} {o6 o7 : Option AV} {w : Wd} {Q : Option AV → Wd → Prop} (h : (((f_Md_daysOf x1) ≤ x5 → Gw zs 7 m_Md_tally 116 [some (.inr (.inl (some 155))), some (.inl x1), some (.inl x2), some (.inl x3), some (.inl x4), some (.inl 0), o6, o7] [] w Q) ∧ (¬ ((f_Md_daysOf x1) ≤ x5) → ((3 ≤ x2 → Gw zs 7 m_Md_tally 116 [some (.inr (.inl (some 155))), some (.inl x1), some (.inl x2), some (.inl x3), some (.inl x4), some (.inl 0), o6, o7] [] w Q) ∧ (¬ (3 ≤ x2) → ((x2 = 0 → (vp_in x5 366 ∧ (((w 171 x5.toNatClampNeg) = x3 → Gw zs 7 m_Md_tally 39 [some (.inr (.inl (some 155))), some (.inl x1), some (.inl x2), some (.inl x3), some (.inl (x4 + 1)), some (.inl (x5 + 1)), some (.inl (w 171 x5.toNatClampNeg)), o7] [] w Q) ∧ (¬ ((w 171 x5.toNatClampNeg) = x3) → Gw zs 7 m_Md_tally 39 [some (.inr (.inl (some 155))), some (.inl x1), some (.inl x2), some (.inl x3), some (.inl (x4 + 0)), some (.inl (x5 + 1)), some (.inl (w 171 x5.toNatClampNeg)), o7] [] w Q)))) ∧ (¬ (x2 = 0) → ((x2 = 1 → (vp_in x5 366 ∧ (((w 173 x5.toNatClampNeg) = x3 → Gw zs 7 m_Md_tally 39 [some (.inr (.inl (some 155))), some (.inl x1), some (.inl x2), some (.inl x3), some (.inl (x4 + 1)), some (.inl (x5 + 1)), some (.inl (w 173 x5.toNatClampNeg)), o7] [] w Q) ∧ (¬ ((w 173 x5.toNatClampNeg) = x3) → Gw zs 7 m_Md_tally 39 [some (.inr (.inl (some 155))), some (.inl x1), some (.inl x2), some (.inl x3), some (.inl (x4 + 0)), some (.inl (x5 + 1)), some (.inl (w 173 x5.toNatClampNeg)), o7] [] w Q)))) ∧ (¬ (x2 = 1) → (vp_in x5 366 ∧ (((w 174 x5.toNatClampNeg) = x3 → Gw zs 7 m_Md_tally 39 [some (.inr (.inl (some 155))), some (.inl x1), some (.inl x2), some (.inl x3), some (.inl (x4 + 1)), some (.inl (x5 + 1)), some (.inl (w 174 x5.toNatClampNeg)), o7] [] w Q) ∧ (¬ ((w 174 x5.toNatClampNeg) = x3) → Gw zs 7 m_Md_tally 39 [some (.inr (.inl (some 155))), some (.inl x1), some (.inl x2), some (.inl x3), some (.inl (x4 + 0)), some (.inl (x5 + 1)), some (.inl (w 174 x5.toNatClampNeg)), o7] [] w Q)))))))))))) : Gw zs 7 m_Md_tally 39 [some (.inr (.inl (some 155))), some (.inl x1), some (.inl x2), some (.inl x3), some (.inl x4), some (.inl x5), o6, o7] [] w Q := by
  refine gw_iload k_Md_tally f_Md_tally_39 rfl ?_
  refine gw_iload_n k_Md_tally f_Md_tally_41 rfl ?_
  refine gw_static [.inl x1] k_Md_tally f_Md_tally_42 l_invT_11_15 (by decide) k_Md_daysOf rfl (by exact Nat.le_of_ble_eq_true rfl) (dc := 1) (by decide) ?_ rfl
  refine ev_Md_daysOf ?_
  show Gw zs 7 m_Md_tally 45 [some (.inr (.inl (some 155))), some (.inl x1), some (.inl x2), some (.inl x3), some (.inl x4), some (.inl x5), o6, o7] [.inl (f_Md_daysOf x1), .inl x5] w _
  refine gw_icmp_ge (t := 113) k_Md_tally f_Md_tally_45 rfl (fun c1 => ?_) (fun c1 => ?_)
  · have h := h.1 c1
    refine gw_iconst k_Md_tally f_Md_tally_113 qc_0 ?_
    refine gw_istore [some (.inr (.inl (some 155))), some (.inl x1), some (.inl x2), some (.inl x3), some (.inl x4), some (.inl 0), o6, o7] k_Md_tally f_Md_tally_114 (Nat.le_of_ble_eq_true rfl) rfl ?_
    exact h
  · have h := h.2 c1
    refine gw_iload_n k_Md_tally f_Md_tally_48 rfl ?_
    refine gw_iconst k_Md_tally f_Md_tally_49 qc_3 ?_
    refine gw_icmp_ge (t := 113) k_Md_tally f_Md_tally_50 rfl (fun c2 => ?_) (fun c2 => ?_)
    · have h := h.1 c2
      refine gw_iconst k_Md_tally f_Md_tally_113 qc_0 ?_
      refine gw_istore [some (.inr (.inl (some 155))), some (.inl x1), some (.inl x2), some (.inl x3), some (.inl x4), some (.inl 0), o6, o7] k_Md_tally f_Md_tally_114 (Nat.le_of_ble_eq_true rfl) rfl ?_
      exact h
    · have h := h.2 c2
      refine gw_iload_n k_Md_tally f_Md_tally_53 rfl ?_
      refine gw_if_ne (t := 67) k_Md_tally f_Md_tally_54 rfl (fun c3 => ?_) (fun c3 => ?_)
      · have h := h.2 c3
        refine gw_iload_n k_Md_tally f_Md_tally_67 rfl ?_
        refine gw_iconst k_Md_tally f_Md_tally_68 qc_1 ?_
        refine gw_icmp_ne (t := 82) k_Md_tally f_Md_tally_69 rfl (fun c4 => ?_) (fun c4 => ?_)
        · have h := h.2 c4
          refine gw_aload_n k_Md_tally f_Md_tally_82 rfl ?_
          refine gw_getR k_Md_tally f_Md_tally_83 l_fldT_11_167 hc155 rfl ?_
          refine gw_iload k_Md_tally f_Md_tally_86 rfl ?_
          have hp := h.1
          have h := h.2
          refine gw_iald k_Md_tally f_Md_tally_88 hc174 hp ?_
          refine gw_istore [some (.inr (.inl (some 155))), some (.inl x1), some (.inl x2), some (.inl x3), some (.inl x4), some (.inl x5), some (.inl (w 174 x5.toNatClampNeg)), o7] k_Md_tally f_Md_tally_89 (Nat.le_of_ble_eq_true rfl) rfl ?_
          refine gw_iload k_Md_tally f_Md_tally_91 rfl ?_
          refine gw_iload k_Md_tally f_Md_tally_93 rfl ?_
          refine gw_iload_n k_Md_tally f_Md_tally_95 rfl ?_
          refine gw_icmp_ne (t := 103) k_Md_tally f_Md_tally_96 rfl (fun c5 => ?_) (fun c5 => ?_)
          · have h := h.2 c5
            refine gw_iconst k_Md_tally f_Md_tally_103 qc_0 ?_
            refine gw_iadd k_Md_tally f_Md_tally_104 ?_
            refine gw_istore [some (.inr (.inl (some 155))), some (.inl x1), some (.inl x2), some (.inl x3), some (.inl (x4 + 0)), some (.inl x5), some (.inl (w 174 x5.toNatClampNeg)), o7] k_Md_tally f_Md_tally_105 (Nat.le_of_ble_eq_true rfl) rfl ?_
            refine gw_iinc [some (.inr (.inl (some 155))), some (.inl x1), some (.inl x2), some (.inl x3), some (.inl (x4 + 0)), some (.inl (x5 + 1)), some (.inl (w 174 x5.toNatClampNeg)), o7] k_Md_tally f_Md_tally_107 rfl qc_1 (Nat.le_of_ble_eq_true rfl) rfl ?_
            refine gw_goto (t := 39) k_Md_tally f_Md_tally_110 rfl ?_
            exact h
          · have c5 := Decidable.not_not.mp c5
            have h := h.1 c5
            refine gw_iconst k_Md_tally f_Md_tally_99 qc_1 ?_
            refine gw_goto (t := 104) k_Md_tally f_Md_tally_100 rfl ?_
            refine gw_iadd k_Md_tally f_Md_tally_104 ?_
            refine gw_istore [some (.inr (.inl (some 155))), some (.inl x1), some (.inl x2), some (.inl x3), some (.inl (x4 + 1)), some (.inl x5), some (.inl (w 174 x5.toNatClampNeg)), o7] k_Md_tally f_Md_tally_105 (Nat.le_of_ble_eq_true rfl) rfl ?_
            refine gw_iinc [some (.inr (.inl (some 155))), some (.inl x1), some (.inl x2), some (.inl x3), some (.inl (x4 + 1)), some (.inl (x5 + 1)), some (.inl (w 174 x5.toNatClampNeg)), o7] k_Md_tally f_Md_tally_107 rfl qc_1 (Nat.le_of_ble_eq_true rfl) rfl ?_
            refine gw_goto (t := 39) k_Md_tally f_Md_tally_110 rfl ?_
            exact h
        · have c4 := Decidable.not_not.mp c4
          have h := h.1 c4
          refine gw_aload_n k_Md_tally f_Md_tally_72 rfl ?_
          refine gw_getR k_Md_tally f_Md_tally_73 l_fldT_11_164 hc155 rfl ?_
          refine gw_iload k_Md_tally f_Md_tally_76 rfl ?_
          have hp := h.1
          have h := h.2
          refine gw_iald k_Md_tally f_Md_tally_78 hc173 hp ?_
          refine gw_goto (t := 89) k_Md_tally f_Md_tally_79 rfl ?_
          refine gw_istore [some (.inr (.inl (some 155))), some (.inl x1), some (.inl x2), some (.inl x3), some (.inl x4), some (.inl x5), some (.inl (w 173 x5.toNatClampNeg)), o7] k_Md_tally f_Md_tally_89 (Nat.le_of_ble_eq_true rfl) rfl ?_
          refine gw_iload k_Md_tally f_Md_tally_91 rfl ?_
          refine gw_iload k_Md_tally f_Md_tally_93 rfl ?_
          refine gw_iload_n k_Md_tally f_Md_tally_95 rfl ?_
          refine gw_icmp_ne (t := 103) k_Md_tally f_Md_tally_96 rfl (fun c6 => ?_) (fun c6 => ?_)
          · have h := h.2 c6
            refine gw_iconst k_Md_tally f_Md_tally_103 qc_0 ?_
            refine gw_iadd k_Md_tally f_Md_tally_104 ?_
            refine gw_istore [some (.inr (.inl (some 155))), some (.inl x1), some (.inl x2), some (.inl x3), some (.inl (x4 + 0)), some (.inl x5), some (.inl (w 173 x5.toNatClampNeg)), o7] k_Md_tally f_Md_tally_105 (Nat.le_of_ble_eq_true rfl) rfl ?_
            refine gw_iinc [some (.inr (.inl (some 155))), some (.inl x1), some (.inl x2), some (.inl x3), some (.inl (x4 + 0)), some (.inl (x5 + 1)), some (.inl (w 173 x5.toNatClampNeg)), o7] k_Md_tally f_Md_tally_107 rfl qc_1 (Nat.le_of_ble_eq_true rfl) rfl ?_
            refine gw_goto (t := 39) k_Md_tally f_Md_tally_110 rfl ?_
            exact h
          · have c6 := Decidable.not_not.mp c6
            have h := h.1 c6
            refine gw_iconst k_Md_tally f_Md_tally_99 qc_1 ?_
            refine gw_goto (t := 104) k_Md_tally f_Md_tally_100 rfl ?_
            refine gw_iadd k_Md_tally f_Md_tally_104 ?_
            refine gw_istore [some (.inr (.inl (some 155))), some (.inl x1), some (.inl x2), some (.inl x3), some (.inl (x4 + 1)), some (.inl x5), some (.inl (w 173 x5.toNatClampNeg)), o7] k_Md_tally f_Md_tally_105 (Nat.le_of_ble_eq_true rfl) rfl ?_
            refine gw_iinc [some (.inr (.inl (some 155))), some (.inl x1), some (.inl x2), some (.inl x3), some (.inl (x4 + 1)), some (.inl (x5 + 1)), some (.inl (w 173 x5.toNatClampNeg)), o7] k_Md_tally f_Md_tally_107 rfl qc_1 (Nat.le_of_ble_eq_true rfl) rfl ?_
            refine gw_goto (t := 39) k_Md_tally f_Md_tally_110 rfl ?_
            exact h
      · have c3 := Decidable.not_not.mp c3
        have h := h.1 c3
        refine gw_aload_n k_Md_tally f_Md_tally_57 rfl ?_
        refine gw_getR k_Md_tally f_Md_tally_58 l_fldT_11_158 hc155 rfl ?_
        refine gw_iload k_Md_tally f_Md_tally_61 rfl ?_
        have hp := h.1
        have h := h.2
        refine gw_iald k_Md_tally f_Md_tally_63 hc171 hp ?_
        refine gw_goto (t := 89) k_Md_tally f_Md_tally_64 rfl ?_
        refine gw_istore [some (.inr (.inl (some 155))), some (.inl x1), some (.inl x2), some (.inl x3), some (.inl x4), some (.inl x5), some (.inl (w 171 x5.toNatClampNeg)), o7] k_Md_tally f_Md_tally_89 (Nat.le_of_ble_eq_true rfl) rfl ?_
        refine gw_iload k_Md_tally f_Md_tally_91 rfl ?_
        refine gw_iload k_Md_tally f_Md_tally_93 rfl ?_
        refine gw_iload_n k_Md_tally f_Md_tally_95 rfl ?_
        refine gw_icmp_ne (t := 103) k_Md_tally f_Md_tally_96 rfl (fun c7 => ?_) (fun c7 => ?_)
        · have h := h.2 c7
          refine gw_iconst k_Md_tally f_Md_tally_103 qc_0 ?_
          refine gw_iadd k_Md_tally f_Md_tally_104 ?_
          refine gw_istore [some (.inr (.inl (some 155))), some (.inl x1), some (.inl x2), some (.inl x3), some (.inl (x4 + 0)), some (.inl x5), some (.inl (w 171 x5.toNatClampNeg)), o7] k_Md_tally f_Md_tally_105 (Nat.le_of_ble_eq_true rfl) rfl ?_
          refine gw_iinc [some (.inr (.inl (some 155))), some (.inl x1), some (.inl x2), some (.inl x3), some (.inl (x4 + 0)), some (.inl (x5 + 1)), some (.inl (w 171 x5.toNatClampNeg)), o7] k_Md_tally f_Md_tally_107 rfl qc_1 (Nat.le_of_ble_eq_true rfl) rfl ?_
          refine gw_goto (t := 39) k_Md_tally f_Md_tally_110 rfl ?_
          exact h
        · have c7 := Decidable.not_not.mp c7
          have h := h.1 c7
          refine gw_iconst k_Md_tally f_Md_tally_99 qc_1 ?_
          refine gw_goto (t := 104) k_Md_tally f_Md_tally_100 rfl ?_
          refine gw_iadd k_Md_tally f_Md_tally_104 ?_
          refine gw_istore [some (.inr (.inl (some 155))), some (.inl x1), some (.inl x2), some (.inl x3), some (.inl (x4 + 1)), some (.inl x5), some (.inl (w 171 x5.toNatClampNeg)), o7] k_Md_tally f_Md_tally_105 (Nat.le_of_ble_eq_true rfl) rfl ?_
          refine gw_iinc [some (.inr (.inl (some 155))), some (.inl x1), some (.inl x2), some (.inl x3), some (.inl (x4 + 1)), some (.inl (x5 + 1)), some (.inl (w 171 x5.toNatClampNeg)), o7] k_Md_tally f_Md_tally_107 rfl qc_1 (Nat.le_of_ble_eq_true rfl) rfl ?_
          refine gw_goto (t := 39) k_Md_tally f_Md_tally_110 rfl ?_
          exact h
theorem sg_Md_tally_116 {zs : List Int32} {x1 x2 x4 x5 : Int32} {o3 o6 o7 : Option AV} {w : Wd} {Q : Option AV → Wd → Prop} (h : (((w 155 1) ≤ x5 → Q (some (.inl x4)) w) ∧ (¬ ((w 155 1) ≤ x5) → ((x2 ≤ 2 → Q (some (.inl x4)) w) ∧ (¬ (x2 ≤ 2) → Ew zs 6 m_Md_keptDay [.inr (.inl (some 155)), .inl x1, .inl x5] w (fun v w4 => ∃ r3 : Int32, v = some (.inl r3) ∧ ((x2 = 3 → ((r3 < 0 → Gw zs 7 m_Md_tally 116 [some (.inr (.inl (some 155))), some (.inl x1), some (.inl x2), o3, some (.inl (x4 + 0)), some (.inl (x5 + 1)), some (.inl r3), some (.inl 0)] [] w4 Q) ∧ (¬ (r3 < 0) → (vp_in x5 60 ∧ ((r3 = (w4 169 x5.toNatClampNeg) → Gw zs 7 m_Md_tally 116 [some (.inr (.inl (some 155))), some (.inl x1), some (.inl x2), o3, some (.inl (x4 + 0)), some (.inl (x5 + 1)), some (.inl r3), some (.inl 0)] [] w4 Q) ∧ (¬ (r3 = (w4 169 x5.toNatClampNeg)) → Gw zs 7 m_Md_tally 116 [some (.inr (.inl (some 155))), some (.inl x1), some (.inl x2), o3, some (.inl (x4 + 1)), some (.inl (x5 + 1)), some (.inl r3), some (.inl 1)] [] w4 Q)))))) ∧ (¬ (x2 = 3) → ((x2 = 4 → ((r3 = (-4) → Gw zs 7 m_Md_tally 116 [some (.inr (.inl (some 155))), some (.inl x1), some (.inl x2), o3, some (.inl (x4 + 1)), some (.inl (x5 + 1)), some (.inl r3), some (.inl 1)] [] w4 Q) ∧ (¬ (r3 = (-4)) → Gw zs 7 m_Md_tally 116 [some (.inr (.inl (some 155))), some (.inl x1), some (.inl x2), o3, some (.inl (x4 + 0)), some (.inl (x5 + 1)), some (.inl r3), some (.inl 0)] [] w4 Q))) ∧ (¬ (x2 = 4) → ((x2 = 5 → ((r3 = (-2) → Gw zs 7 m_Md_tally 116 [some (.inr (.inl (some 155))), some (.inl x1), some (.inl x2), o3, some (.inl (x4 + 1)), some (.inl (x5 + 1)), some (.inl r3), some (.inl 1)] [] w4 Q) ∧ (¬ (r3 = (-2)) → Gw zs 7 m_Md_tally 116 [some (.inr (.inl (some 155))), some (.inl x1), some (.inl x2), o3, some (.inl (x4 + 0)), some (.inl (x5 + 1)), some (.inl r3), some (.inl 0)] [] w4 Q))) ∧ (¬ (x2 = 5) → ((r3 = (-3) → Gw zs 7 m_Md_tally 116 [some (.inr (.inl (some 155))), some (.inl x1), some (.inl x2), o3, some (.inl (x4 + 1)), some (.inl (x5 + 1)), some (.inl r3), some (.inl 1)] [] w4 Q) ∧ (¬ (r3 = (-3)) → Gw zs 7 m_Md_tally 116 [some (.inr (.inl (some 155))), some (.inl x1), some (.inl x2), o3, some (.inl (x4 + 0)), some (.inl (x5 + 1)), some (.inl r3), some (.inl 0)] [] w4 Q)))))))))))))) : Gw zs 7 m_Md_tally 116 [some (.inr (.inl (some 155))), some (.inl x1), some (.inl x2), o3, some (.inl x4), some (.inl x5), o6, o7] [] w Q := by
  refine gw_iload k_Md_tally f_Md_tally_116 rfl ?_
  refine gw_aload_n k_Md_tally f_Md_tally_118 rfl ?_
  refine gw_getI k_Md_tally f_Md_tally_119 l_fldT_11_66 hc155 rfl ?_
  refine gw_icmp_ge (t := 244) k_Md_tally f_Md_tally_122 rfl (fun c1 => ?_) (fun c1 => ?_)
  · have h := h.1 c1
    refine gw_iload k_Md_tally f_Md_tally_244 rfl ?_
    exact gw_iret k_Md_tally f_Md_tally_246 rfl h
  · have h := h.2 c1
    refine gw_iload_n k_Md_tally f_Md_tally_125 rfl ?_
    refine gw_iconst k_Md_tally f_Md_tally_126 qc_2 ?_
    refine gw_icmp_le (t := 244) k_Md_tally f_Md_tally_127 rfl (fun c2 => ?_) (fun c2 => ?_)
    · have h := h.1 c2
      refine gw_iload k_Md_tally f_Md_tally_244 rfl ?_
      exact gw_iret k_Md_tally f_Md_tally_246 rfl h
    · have h := h.2 c2
      refine gw_aload_n k_Md_tally f_Md_tally_130 rfl ?_
      refine gw_iload_n k_Md_tally f_Md_tally_131 rfl ?_
      refine gw_iload k_Md_tally f_Md_tally_132 rfl ?_
      refine gw_virtual [.inl x1, .inl x5] k_Md_tally f_Md_tally_134 l_invT_11_189 k_Md_keptDay hc155 rfl rfl rfl (by exact Nat.le_of_ble_eq_true rfl) (dc := 6) (by decide) ?_ rfl
      refine h.mono (fun v w4 hh => ?_)
      obtain ⟨r3, rfl, h⟩ := hh
      show Gw zs 7 m_Md_tally 137 [some (.inr (.inl (some 155))), some (.inl x1), some (.inl x2), o3, some (.inl x4), some (.inl x5), o6, o7] [.inl r3] w4 _
      refine gw_istore [some (.inr (.inl (some 155))), some (.inl x1), some (.inl x2), o3, some (.inl x4), some (.inl x5), some (.inl r3), o7] k_Md_tally f_Md_tally_137 (Nat.le_of_ble_eq_true rfl) rfl ?_
      refine gw_iload_n k_Md_tally f_Md_tally_139 rfl ?_
      refine gw_iconst k_Md_tally f_Md_tally_140 qc_3 ?_
      refine gw_icmp_ne (t := 169) k_Md_tally f_Md_tally_141 rfl (fun c5 => ?_) (fun c5 => ?_)
      · have h := h.2 c5
        refine gw_iload_n k_Md_tally f_Md_tally_169 rfl ?_
        refine gw_iconst k_Md_tally f_Md_tally_170 qc_4 ?_
        refine gw_icmp_ne (t := 189) k_Md_tally f_Md_tally_171 rfl (fun c6 => ?_) (fun c6 => ?_)
        · have h := h.2 c6
          refine gw_iload_n k_Md_tally f_Md_tally_189 rfl ?_
          refine gw_iconst k_Md_tally f_Md_tally_190 qc_5 ?_
          refine gw_icmp_ne (t := 209) k_Md_tally f_Md_tally_191 rfl (fun c7 => ?_) (fun c7 => ?_)
          · have h := h.2 c7
            refine gw_iload k_Md_tally f_Md_tally_209 rfl ?_
            refine gw_bipush k_Md_tally f_Md_tally_211 qb_m3 ?_
            refine gw_icmp_ne (t := 220) k_Md_tally f_Md_tally_213 rfl (fun c8 => ?_) (fun c8 => ?_)
            · have h := h.2 c8
              refine gw_iconst k_Md_tally f_Md_tally_220 qc_0 ?_
              refine gw_istore [some (.inr (.inl (some 155))), some (.inl x1), some (.inl x2), o3, some (.inl x4), some (.inl x5), some (.inl r3), some (.inl 0)] k_Md_tally f_Md_tally_221 (Nat.le_of_ble_eq_true rfl) rfl ?_
              refine gw_iload k_Md_tally f_Md_tally_223 rfl ?_
              refine gw_iload k_Md_tally f_Md_tally_225 rfl ?_
              refine gw_if_eq (t := 234) k_Md_tally f_Md_tally_227 rfl (fun _ => ?_) (fun c => absurd (by decide) c)
              refine gw_iconst k_Md_tally f_Md_tally_234 qc_0 ?_
              refine gw_iadd k_Md_tally f_Md_tally_235 ?_
              refine gw_istore [some (.inr (.inl (some 155))), some (.inl x1), some (.inl x2), o3, some (.inl (x4 + 0)), some (.inl x5), some (.inl r3), some (.inl 0)] k_Md_tally f_Md_tally_236 (Nat.le_of_ble_eq_true rfl) rfl ?_
              refine gw_iinc [some (.inr (.inl (some 155))), some (.inl x1), some (.inl x2), o3, some (.inl (x4 + 0)), some (.inl (x5 + 1)), some (.inl r3), some (.inl 0)] k_Md_tally f_Md_tally_238 rfl qc_1 (Nat.le_of_ble_eq_true rfl) rfl ?_
              refine gw_goto (t := 116) k_Md_tally f_Md_tally_241 rfl ?_
              exact h
            · have c8 := Decidable.not_not.mp c8
              have h := h.1 c8
              refine gw_iconst k_Md_tally f_Md_tally_216 qc_1 ?_
              refine gw_goto (t := 221) k_Md_tally f_Md_tally_217 rfl ?_
              refine gw_istore [some (.inr (.inl (some 155))), some (.inl x1), some (.inl x2), o3, some (.inl x4), some (.inl x5), some (.inl r3), some (.inl 1)] k_Md_tally f_Md_tally_221 (Nat.le_of_ble_eq_true rfl) rfl ?_
              refine gw_iload k_Md_tally f_Md_tally_223 rfl ?_
              refine gw_iload k_Md_tally f_Md_tally_225 rfl ?_
              refine gw_if_eq (t := 234) k_Md_tally f_Md_tally_227 rfl (fun c => absurd c (by decide)) (fun _ => ?_)
              refine gw_iconst k_Md_tally f_Md_tally_230 qc_1 ?_
              refine gw_goto (t := 235) k_Md_tally f_Md_tally_231 rfl ?_
              refine gw_iadd k_Md_tally f_Md_tally_235 ?_
              refine gw_istore [some (.inr (.inl (some 155))), some (.inl x1), some (.inl x2), o3, some (.inl (x4 + 1)), some (.inl x5), some (.inl r3), some (.inl 1)] k_Md_tally f_Md_tally_236 (Nat.le_of_ble_eq_true rfl) rfl ?_
              refine gw_iinc [some (.inr (.inl (some 155))), some (.inl x1), some (.inl x2), o3, some (.inl (x4 + 1)), some (.inl (x5 + 1)), some (.inl r3), some (.inl 1)] k_Md_tally f_Md_tally_238 rfl qc_1 (Nat.le_of_ble_eq_true rfl) rfl ?_
              refine gw_goto (t := 116) k_Md_tally f_Md_tally_241 rfl ?_
              exact h
          · have c7 := Decidable.not_not.mp c7
            have h := h.1 c7
            refine gw_iload k_Md_tally f_Md_tally_194 rfl ?_
            refine gw_bipush k_Md_tally f_Md_tally_196 qb_m2 ?_
            refine gw_icmp_ne (t := 205) k_Md_tally f_Md_tally_198 rfl (fun c9 => ?_) (fun c9 => ?_)
            · have h := h.2 c9
              refine gw_iconst k_Md_tally f_Md_tally_205 qc_0 ?_
              refine gw_goto (t := 221) k_Md_tally f_Md_tally_206 rfl ?_
              refine gw_istore [some (.inr (.inl (some 155))), some (.inl x1), some (.inl x2), o3, some (.inl x4), some (.inl x5), some (.inl r3), some (.inl 0)] k_Md_tally f_Md_tally_221 (Nat.le_of_ble_eq_true rfl) rfl ?_
              refine gw_iload k_Md_tally f_Md_tally_223 rfl ?_
              refine gw_iload k_Md_tally f_Md_tally_225 rfl ?_
              refine gw_if_eq (t := 234) k_Md_tally f_Md_tally_227 rfl (fun _ => ?_) (fun c => absurd (by decide) c)
              refine gw_iconst k_Md_tally f_Md_tally_234 qc_0 ?_
              refine gw_iadd k_Md_tally f_Md_tally_235 ?_
              refine gw_istore [some (.inr (.inl (some 155))), some (.inl x1), some (.inl x2), o3, some (.inl (x4 + 0)), some (.inl x5), some (.inl r3), some (.inl 0)] k_Md_tally f_Md_tally_236 (Nat.le_of_ble_eq_true rfl) rfl ?_
              refine gw_iinc [some (.inr (.inl (some 155))), some (.inl x1), some (.inl x2), o3, some (.inl (x4 + 0)), some (.inl (x5 + 1)), some (.inl r3), some (.inl 0)] k_Md_tally f_Md_tally_238 rfl qc_1 (Nat.le_of_ble_eq_true rfl) rfl ?_
              refine gw_goto (t := 116) k_Md_tally f_Md_tally_241 rfl ?_
              exact h
            · have c9 := Decidable.not_not.mp c9
              have h := h.1 c9
              refine gw_iconst k_Md_tally f_Md_tally_201 qc_1 ?_
              refine gw_goto (t := 221) k_Md_tally f_Md_tally_202 rfl ?_
              refine gw_istore [some (.inr (.inl (some 155))), some (.inl x1), some (.inl x2), o3, some (.inl x4), some (.inl x5), some (.inl r3), some (.inl 1)] k_Md_tally f_Md_tally_221 (Nat.le_of_ble_eq_true rfl) rfl ?_
              refine gw_iload k_Md_tally f_Md_tally_223 rfl ?_
              refine gw_iload k_Md_tally f_Md_tally_225 rfl ?_
              refine gw_if_eq (t := 234) k_Md_tally f_Md_tally_227 rfl (fun c => absurd c (by decide)) (fun _ => ?_)
              refine gw_iconst k_Md_tally f_Md_tally_230 qc_1 ?_
              refine gw_goto (t := 235) k_Md_tally f_Md_tally_231 rfl ?_
              refine gw_iadd k_Md_tally f_Md_tally_235 ?_
              refine gw_istore [some (.inr (.inl (some 155))), some (.inl x1), some (.inl x2), o3, some (.inl (x4 + 1)), some (.inl x5), some (.inl r3), some (.inl 1)] k_Md_tally f_Md_tally_236 (Nat.le_of_ble_eq_true rfl) rfl ?_
              refine gw_iinc [some (.inr (.inl (some 155))), some (.inl x1), some (.inl x2), o3, some (.inl (x4 + 1)), some (.inl (x5 + 1)), some (.inl r3), some (.inl 1)] k_Md_tally f_Md_tally_238 rfl qc_1 (Nat.le_of_ble_eq_true rfl) rfl ?_
              refine gw_goto (t := 116) k_Md_tally f_Md_tally_241 rfl ?_
              exact h
        · have c6 := Decidable.not_not.mp c6
          have h := h.1 c6
          refine gw_iload k_Md_tally f_Md_tally_174 rfl ?_
          refine gw_bipush k_Md_tally f_Md_tally_176 qb_m4 ?_
          refine gw_icmp_ne (t := 185) k_Md_tally f_Md_tally_178 rfl (fun c10 => ?_) (fun c10 => ?_)
          · have h := h.2 c10
            refine gw_iconst k_Md_tally f_Md_tally_185 qc_0 ?_
            refine gw_goto (t := 221) k_Md_tally f_Md_tally_186 rfl ?_
            refine gw_istore [some (.inr (.inl (some 155))), some (.inl x1), some (.inl x2), o3, some (.inl x4), some (.inl x5), some (.inl r3), some (.inl 0)] k_Md_tally f_Md_tally_221 (Nat.le_of_ble_eq_true rfl) rfl ?_
            refine gw_iload k_Md_tally f_Md_tally_223 rfl ?_
            refine gw_iload k_Md_tally f_Md_tally_225 rfl ?_
            refine gw_if_eq (t := 234) k_Md_tally f_Md_tally_227 rfl (fun _ => ?_) (fun c => absurd (by decide) c)
            refine gw_iconst k_Md_tally f_Md_tally_234 qc_0 ?_
            refine gw_iadd k_Md_tally f_Md_tally_235 ?_
            refine gw_istore [some (.inr (.inl (some 155))), some (.inl x1), some (.inl x2), o3, some (.inl (x4 + 0)), some (.inl x5), some (.inl r3), some (.inl 0)] k_Md_tally f_Md_tally_236 (Nat.le_of_ble_eq_true rfl) rfl ?_
            refine gw_iinc [some (.inr (.inl (some 155))), some (.inl x1), some (.inl x2), o3, some (.inl (x4 + 0)), some (.inl (x5 + 1)), some (.inl r3), some (.inl 0)] k_Md_tally f_Md_tally_238 rfl qc_1 (Nat.le_of_ble_eq_true rfl) rfl ?_
            refine gw_goto (t := 116) k_Md_tally f_Md_tally_241 rfl ?_
            exact h
          · have c10 := Decidable.not_not.mp c10
            have h := h.1 c10
            refine gw_iconst k_Md_tally f_Md_tally_181 qc_1 ?_
            refine gw_goto (t := 221) k_Md_tally f_Md_tally_182 rfl ?_
            refine gw_istore [some (.inr (.inl (some 155))), some (.inl x1), some (.inl x2), o3, some (.inl x4), some (.inl x5), some (.inl r3), some (.inl 1)] k_Md_tally f_Md_tally_221 (Nat.le_of_ble_eq_true rfl) rfl ?_
            refine gw_iload k_Md_tally f_Md_tally_223 rfl ?_
            refine gw_iload k_Md_tally f_Md_tally_225 rfl ?_
            refine gw_if_eq (t := 234) k_Md_tally f_Md_tally_227 rfl (fun c => absurd c (by decide)) (fun _ => ?_)
            refine gw_iconst k_Md_tally f_Md_tally_230 qc_1 ?_
            refine gw_goto (t := 235) k_Md_tally f_Md_tally_231 rfl ?_
            refine gw_iadd k_Md_tally f_Md_tally_235 ?_
            refine gw_istore [some (.inr (.inl (some 155))), some (.inl x1), some (.inl x2), o3, some (.inl (x4 + 1)), some (.inl x5), some (.inl r3), some (.inl 1)] k_Md_tally f_Md_tally_236 (Nat.le_of_ble_eq_true rfl) rfl ?_
            refine gw_iinc [some (.inr (.inl (some 155))), some (.inl x1), some (.inl x2), o3, some (.inl (x4 + 1)), some (.inl (x5 + 1)), some (.inl r3), some (.inl 1)] k_Md_tally f_Md_tally_238 rfl qc_1 (Nat.le_of_ble_eq_true rfl) rfl ?_
            refine gw_goto (t := 116) k_Md_tally f_Md_tally_241 rfl ?_
            exact h
      · have c5 := Decidable.not_not.mp c5
        have h := h.1 c5
        refine gw_iload k_Md_tally f_Md_tally_144 rfl ?_
        refine gw_if_lt (t := 165) k_Md_tally f_Md_tally_146 rfl (fun c11 => ?_) (fun c11 => ?_)
        · have h := h.1 c11
          refine gw_iconst k_Md_tally f_Md_tally_165 qc_0 ?_
          refine gw_goto (t := 221) k_Md_tally f_Md_tally_166 rfl ?_
          refine gw_istore [some (.inr (.inl (some 155))), some (.inl x1), some (.inl x2), o3, some (.inl x4), some (.inl x5), some (.inl r3), some (.inl 0)] k_Md_tally f_Md_tally_221 (Nat.le_of_ble_eq_true rfl) rfl ?_
          refine gw_iload k_Md_tally f_Md_tally_223 rfl ?_
          refine gw_iload k_Md_tally f_Md_tally_225 rfl ?_
          refine gw_if_eq (t := 234) k_Md_tally f_Md_tally_227 rfl (fun _ => ?_) (fun c => absurd (by decide) c)
          refine gw_iconst k_Md_tally f_Md_tally_234 qc_0 ?_
          refine gw_iadd k_Md_tally f_Md_tally_235 ?_
          refine gw_istore [some (.inr (.inl (some 155))), some (.inl x1), some (.inl x2), o3, some (.inl (x4 + 0)), some (.inl x5), some (.inl r3), some (.inl 0)] k_Md_tally f_Md_tally_236 (Nat.le_of_ble_eq_true rfl) rfl ?_
          refine gw_iinc [some (.inr (.inl (some 155))), some (.inl x1), some (.inl x2), o3, some (.inl (x4 + 0)), some (.inl (x5 + 1)), some (.inl r3), some (.inl 0)] k_Md_tally f_Md_tally_238 rfl qc_1 (Nat.le_of_ble_eq_true rfl) rfl ?_
          refine gw_goto (t := 116) k_Md_tally f_Md_tally_241 rfl ?_
          exact h
        · have h := h.2 c11
          refine gw_iload k_Md_tally f_Md_tally_149 rfl ?_
          refine gw_aload_n k_Md_tally f_Md_tally_151 rfl ?_
          refine gw_getR k_Md_tally f_Md_tally_152 l_fldT_11_129 hc155 rfl ?_
          refine gw_iload k_Md_tally f_Md_tally_155 rfl ?_
          have hp := h.1
          have h := h.2
          refine gw_iald k_Md_tally f_Md_tally_157 hc169 hp ?_
          refine gw_icmp_eq (t := 165) k_Md_tally f_Md_tally_158 rfl (fun c12 => ?_) (fun c12 => ?_)
          · have h := h.1 c12
            refine gw_iconst k_Md_tally f_Md_tally_165 qc_0 ?_
            refine gw_goto (t := 221) k_Md_tally f_Md_tally_166 rfl ?_
            refine gw_istore [some (.inr (.inl (some 155))), some (.inl x1), some (.inl x2), o3, some (.inl x4), some (.inl x5), some (.inl r3), some (.inl 0)] k_Md_tally f_Md_tally_221 (Nat.le_of_ble_eq_true rfl) rfl ?_
            refine gw_iload k_Md_tally f_Md_tally_223 rfl ?_
            refine gw_iload k_Md_tally f_Md_tally_225 rfl ?_
            refine gw_if_eq (t := 234) k_Md_tally f_Md_tally_227 rfl (fun _ => ?_) (fun c => absurd (by decide) c)
            refine gw_iconst k_Md_tally f_Md_tally_234 qc_0 ?_
            refine gw_iadd k_Md_tally f_Md_tally_235 ?_
            refine gw_istore [some (.inr (.inl (some 155))), some (.inl x1), some (.inl x2), o3, some (.inl (x4 + 0)), some (.inl x5), some (.inl r3), some (.inl 0)] k_Md_tally f_Md_tally_236 (Nat.le_of_ble_eq_true rfl) rfl ?_
            refine gw_iinc [some (.inr (.inl (some 155))), some (.inl x1), some (.inl x2), o3, some (.inl (x4 + 0)), some (.inl (x5 + 1)), some (.inl r3), some (.inl 0)] k_Md_tally f_Md_tally_238 rfl qc_1 (Nat.le_of_ble_eq_true rfl) rfl ?_
            refine gw_goto (t := 116) k_Md_tally f_Md_tally_241 rfl ?_
            exact h
          · have h := h.2 c12
            refine gw_iconst k_Md_tally f_Md_tally_161 qc_1 ?_
            refine gw_goto (t := 221) k_Md_tally f_Md_tally_162 rfl ?_
            refine gw_istore [some (.inr (.inl (some 155))), some (.inl x1), some (.inl x2), o3, some (.inl x4), some (.inl x5), some (.inl r3), some (.inl 1)] k_Md_tally f_Md_tally_221 (Nat.le_of_ble_eq_true rfl) rfl ?_
            refine gw_iload k_Md_tally f_Md_tally_223 rfl ?_
            refine gw_iload k_Md_tally f_Md_tally_225 rfl ?_
            refine gw_if_eq (t := 234) k_Md_tally f_Md_tally_227 rfl (fun c => absurd c (by decide)) (fun _ => ?_)
            refine gw_iconst k_Md_tally f_Md_tally_230 qc_1 ?_
            refine gw_goto (t := 235) k_Md_tally f_Md_tally_231 rfl ?_
            refine gw_iadd k_Md_tally f_Md_tally_235 ?_
            refine gw_istore [some (.inr (.inl (some 155))), some (.inl x1), some (.inl x2), o3, some (.inl (x4 + 1)), some (.inl x5), some (.inl r3), some (.inl 1)] k_Md_tally f_Md_tally_236 (Nat.le_of_ble_eq_true rfl) rfl ?_
            refine gw_iinc [some (.inr (.inl (some 155))), some (.inl x1), some (.inl x2), o3, some (.inl (x4 + 1)), some (.inl (x5 + 1)), some (.inl r3), some (.inl 1)] k_Md_tally f_Md_tally_238 rfl qc_1 (Nat.le_of_ble_eq_true rfl) rfl ?_
            refine gw_goto (t := 116) k_Md_tally f_Md_tally_241 rfl ?_
            exact h
theorem sg_Md_verses_0 {zs : List Int32} {a0 a1 : Int32} {w : Wd} {Q : Option AV → Wd → Prop} (h : (((f_Md_in a0 1 150) = 0 → Q (some (.inl (-1))) w) ∧ (¬ ((f_Md_in a0 1 150) = 0) → (((f_Md_in a1 1 200) = 0 → Q (some (.inl (-1))) w) ∧ (¬ ((f_Md_in a1 1 200) = 0) → (vp_in (a0 - 1) 150 ∧ (vp_in (a0 - 1) 150 ∧ Q (some (.inl (w 181 ((a0 - 1).toNatClampNeg)))) (wr w 181 ((a0 - 1).toNatClampNeg) a1)))))))) : Gw zs 1 m_Md_verses 0 [some (.inr (.inl (some 155))), some (.inl a0), some (.inl a1), none] [] w Q := by
  refine gw_iload_n k_Md_verses f_Md_verses_0 rfl ?_
  refine gw_iconst k_Md_verses f_Md_verses_1 qc_1 ?_
  refine gw_sipush k_Md_verses f_Md_verses_2 qs_150 ?_
  refine gw_static [.inl a0, .inl 1, .inl 150] k_Md_verses f_Md_verses_5 l_invT_11_1 (by decide) k_Md_in rfl (by exact Nat.le_of_ble_eq_true rfl) (dc := 0) (by decide) ?_ rfl
  refine ev_Md_in ?_
  show Gw zs 1 m_Md_verses 8 [some (.inr (.inl (some 155))), some (.inl a0), some (.inl a1), none] [.inl (f_Md_in a0 1 150)] w _
  refine gw_if_eq (t := 22) k_Md_verses f_Md_verses_8 rfl (fun c1 => ?_) (fun c1 => ?_)
  · have h := h.1 c1
    refine gw_iconst k_Md_verses f_Md_verses_22 qc_m1 ?_
    exact gw_iret k_Md_verses f_Md_verses_23 rfl h
  · have h := h.2 c1
    refine gw_iload_n k_Md_verses f_Md_verses_11 rfl ?_
    refine gw_iconst k_Md_verses f_Md_verses_12 qc_1 ?_
    refine gw_sipush k_Md_verses f_Md_verses_13 qs_200 ?_
    refine gw_static [.inl a1, .inl 1, .inl 200] k_Md_verses f_Md_verses_16 l_invT_11_1 (by decide) k_Md_in rfl (by exact Nat.le_of_ble_eq_true rfl) (dc := 0) (by decide) ?_ rfl
    refine ev_Md_in ?_
    show Gw zs 1 m_Md_verses 19 [some (.inr (.inl (some 155))), some (.inl a0), some (.inl a1), none] [.inl (f_Md_in a1 1 200)] w _
    refine gw_if_ne (t := 24) k_Md_verses f_Md_verses_19 rfl (fun c2 => ?_) (fun c2 => ?_)
    · have h := h.2 c2
      refine gw_aload_n k_Md_verses f_Md_verses_24 rfl ?_
      refine gw_getR k_Md_verses f_Md_verses_25 l_fldT_11_198 hc155 rfl ?_
      refine gw_iload_n k_Md_verses f_Md_verses_28 rfl ?_
      refine gw_iconst k_Md_verses f_Md_verses_29 qc_1 ?_
      refine gw_isub k_Md_verses f_Md_verses_30 ?_
      have hp := h.1
      have h := h.2
      refine gw_iald k_Md_verses f_Md_verses_31 hc181 hp ?_
      refine gw_istore_n [some (.inr (.inl (some 155))), some (.inl a0), some (.inl a1), some (.inl (w 181 ((a0 - 1).toNatClampNeg)))] k_Md_verses f_Md_verses_32 (Nat.le_of_ble_eq_true rfl) rfl ?_
      refine gw_aload_n k_Md_verses f_Md_verses_33 rfl ?_
      refine gw_getR k_Md_verses f_Md_verses_34 l_fldT_11_198 hc155 rfl ?_
      refine gw_iload_n k_Md_verses f_Md_verses_37 rfl ?_
      refine gw_iconst k_Md_verses f_Md_verses_38 qc_1 ?_
      refine gw_isub k_Md_verses f_Md_verses_39 ?_
      refine gw_iload_n k_Md_verses f_Md_verses_40 rfl ?_
      have hp := h.1
      have h := h.2
      refine gw_iast k_Md_verses f_Md_verses_41 hc181 hp ?_
      refine gw_iload_n k_Md_verses f_Md_verses_42 rfl ?_
      exact gw_iret k_Md_verses f_Md_verses_43 rfl h
    · have c2 := Decidable.not_not.mp c2
      have h := h.1 c2
      refine gw_iconst k_Md_verses f_Md_verses_22 qc_m1 ?_
      exact gw_iret k_Md_verses f_Md_verses_23 rfl h
theorem sg_Md_hours_0 {zs : List Int32} {a0 : Int32} {w : Wd} {Q : Option AV → Wd → Prop} (h : (((f_Md_in a0 1 8) = 0 → Q (some (.inl (-1))) w) ∧ (¬ ((f_Md_in a0 1 8) = 0) → Gw zs 1 m_Md_hours 14 [some (.inr (.inl (some 155))), some (.inl a0), some (.inl 0)] [] w Q))) : Gw zs 1 m_Md_hours 0 [some (.inr (.inl (some 155))), some (.inl a0), none] [] w Q := by
  refine gw_iload_n k_Md_hours f_Md_hours_0 rfl ?_
  refine gw_iconst k_Md_hours f_Md_hours_1 qc_1 ?_
  refine gw_bipush k_Md_hours f_Md_hours_2 qb_8 ?_
  refine gw_static [.inl a0, .inl 1, .inl 8] k_Md_hours f_Md_hours_4 l_invT_11_1 (by decide) k_Md_in rfl (by exact Nat.le_of_ble_eq_true rfl) (dc := 0) (by decide) ?_ rfl
  refine ev_Md_in ?_
  show Gw zs 1 m_Md_hours 7 [some (.inr (.inl (some 155))), some (.inl a0), none] [.inl (f_Md_in a0 1 8)] w _
  refine gw_if_ne (t := 12) k_Md_hours f_Md_hours_7 rfl (fun c1 => ?_) (fun c1 => ?_)
  · have h := h.2 c1
    refine gw_iconst k_Md_hours f_Md_hours_12 qc_0 ?_
    refine gw_istore_n [some (.inr (.inl (some 155))), some (.inl a0), some (.inl 0)] k_Md_hours f_Md_hours_13 (Nat.le_of_ble_eq_true rfl) rfl ?_
    exact h
  · have c1 := Decidable.not_not.mp c1
    have h := h.1 c1
    refine gw_iconst k_Md_hours f_Md_hours_10 qc_m1 ?_
    exact gw_iret k_Md_hours f_Md_hours_11 rfl h
theorem sg_Md_hours_14 {zs : List Int32} {x1 x2 : Int32} {w : Wd} {Q : Option AV → Wd → Prop} (h : ((150 ≤ x2 → Gw zs 1 m_Md_hours 41 [some (.inr (.inl (some 155))), some (.inl x1), some (.inl x1)] [] w Q) ∧ (¬ (150 ≤ x2) → (vp_in x2 150 ∧ (((w 182 x2.toNatClampNeg) < x1 → Gw zs 1 m_Md_hours 14 [some (.inr (.inl (some 155))), some (.inl x1), some (.inl (x2 + 1))] [] w Q) ∧ (¬ ((w 182 x2.toNatClampNeg) < x1) → Q (some (.inl (-1))) w)))))) : Gw zs 1 m_Md_hours 14 [some (.inr (.inl (some 155))), some (.inl x1), some (.inl x2)] [] w Q := by
  refine gw_iload_n k_Md_hours f_Md_hours_14 rfl ?_
  refine gw_sipush k_Md_hours f_Md_hours_15 qs_150 ?_
  refine gw_icmp_ge (t := 39) k_Md_hours f_Md_hours_18 rfl (fun c1 => ?_) (fun c1 => ?_)
  · have h := h.1 c1
    refine gw_iload_n k_Md_hours f_Md_hours_39 rfl ?_
    refine gw_istore_n [some (.inr (.inl (some 155))), some (.inl x1), some (.inl x1)] k_Md_hours f_Md_hours_40 (Nat.le_of_ble_eq_true rfl) rfl ?_
    exact h
  · have h := h.2 c1
    refine gw_aload_n k_Md_hours f_Md_hours_21 rfl ?_
    refine gw_getR k_Md_hours f_Md_hours_22 l_fldT_11_201 hc155 rfl ?_
    refine gw_iload_n k_Md_hours f_Md_hours_25 rfl ?_
    have hp := h.1
    have h := h.2
    refine gw_iald k_Md_hours f_Md_hours_26 hc182 hp ?_
    refine gw_iload_n k_Md_hours f_Md_hours_27 rfl ?_
    refine gw_icmp_lt (t := 33) k_Md_hours f_Md_hours_28 rfl (fun c2 => ?_) (fun c2 => ?_)
    · have h := h.1 c2
      refine gw_iinc [some (.inr (.inl (some 155))), some (.inl x1), some (.inl (x2 + 1))] k_Md_hours f_Md_hours_33 rfl qc_1 (Nat.le_of_ble_eq_true rfl) rfl ?_
      refine gw_goto (t := 14) k_Md_hours f_Md_hours_36 rfl ?_
      exact h
    · have h := h.2 c2
      refine gw_iconst k_Md_hours f_Md_hours_31 qc_m1 ?_
      exact gw_iret k_Md_hours f_Md_hours_32 rfl h
theorem sg_Md_hours_41 {zs : List Int32} {x1 x2 : Int32} {w : Wd} {Q : Option AV → Wd → Prop} (h : ((8 ≤ x2 → Q (some (.inl (w 155 36))) (wr w 155 36 x1)) ∧ (¬ (8 ≤ x2) → (vp_in x2 8 ∧ (((w 183 x2.toNatClampNeg) ≤ 0 → Gw zs 1 m_Md_hours 41 [some (.inr (.inl (some 155))), some (.inl x1), some (.inl (x2 + 1))] [] w Q) ∧ (¬ ((w 183 x2.toNatClampNeg) ≤ 0) → Q (some (.inl (-1))) w)))))) : Gw zs 1 m_Md_hours 41 [some (.inr (.inl (some 155))), some (.inl x1), some (.inl x2)] [] w Q := by
  refine gw_iload_n k_Md_hours f_Md_hours_41 rfl ?_
  refine gw_bipush k_Md_hours f_Md_hours_42 qb_8 ?_
  refine gw_icmp_ge (t := 64) k_Md_hours f_Md_hours_44 rfl (fun c1 => ?_) (fun c1 => ?_)
  · have h := h.1 c1
    refine gw_aload_n k_Md_hours f_Md_hours_64 rfl ?_
    refine gw_getI k_Md_hours f_Md_hours_65 l_fldT_11_210 hc155 rfl ?_
    refine gw_istore_n [some (.inr (.inl (some 155))), some (.inl x1), some (.inl (w 155 36))] k_Md_hours f_Md_hours_68 (Nat.le_of_ble_eq_true rfl) rfl ?_
    refine gw_aload_n k_Md_hours f_Md_hours_69 rfl ?_
    refine gw_iload_n k_Md_hours f_Md_hours_70 rfl ?_
    refine gw_put k_Md_hours f_Md_hours_71 l_fldT_11_210 hc155 rfl rfl rfl rfl rfl ?_
    refine gw_iload_n k_Md_hours f_Md_hours_74 rfl ?_
    exact gw_iret k_Md_hours f_Md_hours_75 rfl h
  · have h := h.2 c1
    refine gw_aload_n k_Md_hours f_Md_hours_47 rfl ?_
    refine gw_getR k_Md_hours f_Md_hours_48 l_fldT_11_204 hc155 rfl ?_
    refine gw_iload_n k_Md_hours f_Md_hours_51 rfl ?_
    have hp := h.1
    have h := h.2
    refine gw_iald k_Md_hours f_Md_hours_52 hc183 hp ?_
    refine gw_if_le (t := 58) k_Md_hours f_Md_hours_53 rfl (fun c2 => ?_) (fun c2 => ?_)
    · have h := h.1 c2
      refine gw_iinc [some (.inr (.inl (some 155))), some (.inl x1), some (.inl (x2 + 1))] k_Md_hours f_Md_hours_58 rfl qc_1 (Nat.le_of_ble_eq_true rfl) rfl ?_
      refine gw_goto (t := 41) k_Md_hours f_Md_hours_61 rfl ?_
      exact h
    · have h := h.2 c2
      refine gw_iconst k_Md_hours f_Md_hours_56 qc_m1 ?_
      exact gw_iret k_Md_hours f_Md_hours_57 rfl h
theorem sg_Md_fix_0 {zs : List Int32} {a0 a1 : Int32} {w : Wd} {Q : Option AV → Wd → Prop} (h : (((f_Md_in a0 1 150) = 0 → Q (some (.inl (-2))) w) ∧ (¬ ((f_Md_in a0 1 150) = 0) → (((f_Md_in a1 (-1) ((w 155 36) - 1)) = 0 → Q (some (.inl (-2))) w) ∧ (¬ ((f_Md_in a1 (-1) ((w 155 36) - 1)) = 0) → (vp_in (a0 - 1) 150 ∧ (vp_in (a0 - 1) 150 ∧ Q (some (.inl (w 182 ((a0 - 1).toNatClampNeg)))) (wr w 182 ((a0 - 1).toNatClampNeg) a1)))))))) : Gw zs 1 m_Md_fix 0 [some (.inr (.inl (some 155))), some (.inl a0), some (.inl a1), none] [] w Q := by
  refine gw_iload_n k_Md_fix f_Md_fix_0 rfl ?_
  refine gw_iconst k_Md_fix f_Md_fix_1 qc_1 ?_
  refine gw_sipush k_Md_fix f_Md_fix_2 qs_150 ?_
  refine gw_static [.inl a0, .inl 1, .inl 150] k_Md_fix f_Md_fix_5 l_invT_11_1 (by decide) k_Md_in rfl (by exact Nat.le_of_ble_eq_true rfl) (dc := 0) (by decide) ?_ rfl
  refine ev_Md_in ?_
  show Gw zs 1 m_Md_fix 8 [some (.inr (.inl (some 155))), some (.inl a0), some (.inl a1), none] [.inl (f_Md_in a0 1 150)] w _
  refine gw_if_eq (t := 25) k_Md_fix f_Md_fix_8 rfl (fun c1 => ?_) (fun c1 => ?_)
  · have h := h.1 c1
    refine gw_bipush k_Md_fix f_Md_fix_25 qb_m2 ?_
    exact gw_iret k_Md_fix f_Md_fix_27 rfl h
  · have h := h.2 c1
    refine gw_iload_n k_Md_fix f_Md_fix_11 rfl ?_
    refine gw_iconst k_Md_fix f_Md_fix_12 qc_m1 ?_
    refine gw_aload_n k_Md_fix f_Md_fix_13 rfl ?_
    refine gw_getI k_Md_fix f_Md_fix_14 l_fldT_11_210 hc155 rfl ?_
    refine gw_iconst k_Md_fix f_Md_fix_17 qc_1 ?_
    refine gw_isub k_Md_fix f_Md_fix_18 ?_
    refine gw_static [.inl a1, .inl (-1), .inl ((w 155 36) - 1)] k_Md_fix f_Md_fix_19 l_invT_11_1 (by decide) k_Md_in rfl (by exact Nat.le_of_ble_eq_true rfl) (dc := 0) (by decide) ?_ rfl
    refine ev_Md_in ?_
    show Gw zs 1 m_Md_fix 22 [some (.inr (.inl (some 155))), some (.inl a0), some (.inl a1), none] [.inl (f_Md_in a1 (-1) ((w 155 36) - 1))] w _
    refine gw_if_ne (t := 28) k_Md_fix f_Md_fix_22 rfl (fun c2 => ?_) (fun c2 => ?_)
    · have h := h.2 c2
      refine gw_aload_n k_Md_fix f_Md_fix_28 rfl ?_
      refine gw_getR k_Md_fix f_Md_fix_29 l_fldT_11_201 hc155 rfl ?_
      refine gw_iload_n k_Md_fix f_Md_fix_32 rfl ?_
      refine gw_iconst k_Md_fix f_Md_fix_33 qc_1 ?_
      refine gw_isub k_Md_fix f_Md_fix_34 ?_
      have hp := h.1
      have h := h.2
      refine gw_iald k_Md_fix f_Md_fix_35 hc182 hp ?_
      refine gw_istore_n [some (.inr (.inl (some 155))), some (.inl a0), some (.inl a1), some (.inl (w 182 ((a0 - 1).toNatClampNeg)))] k_Md_fix f_Md_fix_36 (Nat.le_of_ble_eq_true rfl) rfl ?_
      refine gw_aload_n k_Md_fix f_Md_fix_37 rfl ?_
      refine gw_getR k_Md_fix f_Md_fix_38 l_fldT_11_201 hc155 rfl ?_
      refine gw_iload_n k_Md_fix f_Md_fix_41 rfl ?_
      refine gw_iconst k_Md_fix f_Md_fix_42 qc_1 ?_
      refine gw_isub k_Md_fix f_Md_fix_43 ?_
      refine gw_iload_n k_Md_fix f_Md_fix_44 rfl ?_
      have hp := h.1
      have h := h.2
      refine gw_iast k_Md_fix f_Md_fix_45 hc182 hp ?_
      refine gw_iload_n k_Md_fix f_Md_fix_46 rfl ?_
      exact gw_iret k_Md_fix f_Md_fix_47 rfl h
    · have c2 := Decidable.not_not.mp c2
      have h := h.1 c2
      refine gw_bipush k_Md_fix f_Md_fix_25 qb_m2 ?_
      exact gw_iret k_Md_fix f_Md_fix_27 rfl h
theorem sg_Md_festal_0 {zs : List Int32} {a0 a1 : Int32} {w : Wd} {Q : Option AV → Wd → Prop} (h : (((f_Md_in a0 0 ((w 155 36) - 1)) = 0 → Q (some (.inl (-1))) w) ∧ (¬ ((f_Md_in a0 0 ((w 155 36) - 1)) = 0) → (((f_Md_in a1 1 150) = 0 → Q (some (.inl (-1))) w) ∧ (¬ ((f_Md_in a1 1 150) = 0) → (vp_in a0 8 ∧ (((w 183 a0.toNatClampNeg) = 6 → Q (some (.inl (-1))) w) ∧ (¬ ((w 183 a0.toNatClampNeg) = 6) → (vp_in a0 8 ∧ (vp_in ((6 * a0) + (w 183 a0.toNatClampNeg)) 48 ∧ (vp_in a0 8 ∧ (vp_in a0 8 ∧ (vp_in a0 8 ∧ Q (some (.inl ((w 183 a0.toNatClampNeg) + 1))) (wr (wr w 184 (((6 * a0) + (w 183 a0.toNatClampNeg)).toNatClampNeg) a1) 183 a0.toNatClampNeg ((w 183 a0.toNatClampNeg) + 1))))))))))))))) : Gw zs 1 m_Md_festal 0 [some (.inr (.inl (some 155))), some (.inl a0), some (.inl a1)] [] w Q := by
  refine gw_iload_n k_Md_festal f_Md_festal_0 rfl ?_
  refine gw_iconst k_Md_festal f_Md_festal_1 qc_0 ?_
  refine gw_aload_n k_Md_festal f_Md_festal_2 rfl ?_
  refine gw_getI k_Md_festal f_Md_festal_3 l_fldT_11_210 hc155 rfl ?_
  refine gw_iconst k_Md_festal f_Md_festal_6 qc_1 ?_
  refine gw_isub k_Md_festal f_Md_festal_7 ?_
  refine gw_static [.inl a0, .inl 0, .inl ((w 155 36) - 1)] k_Md_festal f_Md_festal_8 l_invT_11_1 (by decide) k_Md_in rfl (by exact Nat.le_of_ble_eq_true rfl) (dc := 0) (by decide) ?_ rfl
  refine ev_Md_in ?_
  show Gw zs 1 m_Md_festal 11 [some (.inr (.inl (some 155))), some (.inl a0), some (.inl a1)] [.inl (f_Md_in a0 0 ((w 155 36) - 1))] w _
  refine gw_if_eq (t := 36) k_Md_festal f_Md_festal_11 rfl (fun c1 => ?_) (fun c1 => ?_)
  · have h := h.1 c1
    refine gw_iconst k_Md_festal f_Md_festal_36 qc_m1 ?_
    exact gw_iret k_Md_festal f_Md_festal_37 rfl h
  · have h := h.2 c1
    refine gw_iload_n k_Md_festal f_Md_festal_14 rfl ?_
    refine gw_iconst k_Md_festal f_Md_festal_15 qc_1 ?_
    refine gw_sipush k_Md_festal f_Md_festal_16 qs_150 ?_
    refine gw_static [.inl a1, .inl 1, .inl 150] k_Md_festal f_Md_festal_19 l_invT_11_1 (by decide) k_Md_in rfl (by exact Nat.le_of_ble_eq_true rfl) (dc := 0) (by decide) ?_ rfl
    refine ev_Md_in ?_
    show Gw zs 1 m_Md_festal 22 [some (.inr (.inl (some 155))), some (.inl a0), some (.inl a1)] [.inl (f_Md_in a1 1 150)] w _
    refine gw_if_eq (t := 36) k_Md_festal f_Md_festal_22 rfl (fun c2 => ?_) (fun c2 => ?_)
    · have h := h.1 c2
      refine gw_iconst k_Md_festal f_Md_festal_36 qc_m1 ?_
      exact gw_iret k_Md_festal f_Md_festal_37 rfl h
    · have h := h.2 c2
      refine gw_aload_n k_Md_festal f_Md_festal_25 rfl ?_
      refine gw_getR k_Md_festal f_Md_festal_26 l_fldT_11_204 hc155 rfl ?_
      refine gw_iload_n k_Md_festal f_Md_festal_29 rfl ?_
      have hp := h.1
      have h := h.2
      refine gw_iald k_Md_festal f_Md_festal_30 hc183 hp ?_
      refine gw_bipush k_Md_festal f_Md_festal_31 qb_6 ?_
      refine gw_icmp_ne (t := 38) k_Md_festal f_Md_festal_33 rfl (fun c3 => ?_) (fun c3 => ?_)
      · have h := h.2 c3
        refine gw_aload_n k_Md_festal f_Md_festal_38 rfl ?_
        refine gw_getR k_Md_festal f_Md_festal_39 l_fldT_11_207 hc155 rfl ?_
        refine gw_bipush k_Md_festal f_Md_festal_42 qb_6 ?_
        refine gw_iload_n k_Md_festal f_Md_festal_44 rfl ?_
        refine gw_imul k_Md_festal f_Md_festal_45 ?_
        refine gw_aload_n k_Md_festal f_Md_festal_46 rfl ?_
        refine gw_getR k_Md_festal f_Md_festal_47 l_fldT_11_204 hc155 rfl ?_
        refine gw_iload_n k_Md_festal f_Md_festal_50 rfl ?_
        have hp := h.1
        have h := h.2
        refine gw_iald k_Md_festal f_Md_festal_51 hc183 hp ?_
        refine gw_iadd k_Md_festal f_Md_festal_52 ?_
        refine gw_iload_n k_Md_festal f_Md_festal_53 rfl ?_
        have hp := h.1
        have h := h.2
        refine gw_iast k_Md_festal f_Md_festal_54 hc184 hp ?_
        refine gw_aload_n k_Md_festal f_Md_festal_55 rfl ?_
        refine gw_getR k_Md_festal f_Md_festal_56 l_fldT_11_204 hc155 rfl ?_
        refine gw_iload_n k_Md_festal f_Md_festal_59 rfl ?_
        refine gw_dup2 k_Md_festal f_Md_festal_60 ?_
        have hp := h.1
        have h := h.2
        refine gw_iald k_Md_festal f_Md_festal_61 hc183 hp ?_
        rw [show (wr w 184 (((6 * a0) + (w 183 a0.toNatClampNeg)).toNatClampNeg) a1) 183 a0.toNatClampNeg = w 183 a0.toNatClampNeg from wr_nc (by decide)]
        refine gw_iconst k_Md_festal f_Md_festal_62 qc_1 ?_
        refine gw_iadd k_Md_festal f_Md_festal_63 ?_
        have hp := h.1
        have h := h.2
        refine gw_iast k_Md_festal f_Md_festal_64 hc183 hp ?_
        refine gw_aload_n k_Md_festal f_Md_festal_65 rfl ?_
        refine gw_getR k_Md_festal f_Md_festal_66 l_fldT_11_204 hc155 rfl ?_
        refine gw_iload_n k_Md_festal f_Md_festal_69 rfl ?_
        have hp := h.1
        have h := h.2
        refine gw_iald k_Md_festal f_Md_festal_70 hc183 hp ?_
        rw [show (wr (wr w 184 (((6 * a0) + (w 183 a0.toNatClampNeg)).toNatClampNeg) a1) 183 a0.toNatClampNeg ((w 183 a0.toNatClampNeg) + 1)) 183 a0.toNatClampNeg = (w 183 a0.toNatClampNeg) + 1 from wr_eq]
        exact gw_iret k_Md_festal f_Md_festal_71 rfl h
      · have c3 := Decidable.not_not.mp c3
        have h := h.1 c3
        refine gw_iconst k_Md_festal f_Md_festal_36 qc_m1 ?_
        exact gw_iret k_Md_festal f_Md_festal_37 rfl h
theorem sg_Md_deals_0 {zs : List Int32} {a0 : Int32} {w : Wd} {Q : Option AV → Wd → Prop} (h : Gw zs 0 m_Md_deals 10 [some (.inr (.inl (some 155))), some (.inl a0), some (.inl (7 * (w 155 36))), some (.inl 0), none] [] w Q) : Gw zs 0 m_Md_deals 0 [some (.inr (.inl (some 155))), some (.inl a0), none, none, none] [] w Q := by
  refine gw_bipush k_Md_deals f_Md_deals_0 qb_7 ?_
  refine gw_aload_n k_Md_deals f_Md_deals_2 rfl ?_
  refine gw_getI k_Md_deals f_Md_deals_3 l_fldT_11_210 hc155 rfl ?_
  refine gw_imul k_Md_deals f_Md_deals_6 ?_
  refine gw_istore_n [some (.inr (.inl (some 155))), some (.inl a0), some (.inl (7 * (w 155 36))), none, none] k_Md_deals f_Md_deals_7 (Nat.le_of_ble_eq_true rfl) rfl ?_
  refine gw_iconst k_Md_deals f_Md_deals_8 qc_0 ?_
  refine gw_istore_n [some (.inr (.inl (some 155))), some (.inl a0), some (.inl (7 * (w 155 36))), some (.inl 0), none] k_Md_deals f_Md_deals_9 (Nat.le_of_ble_eq_true rfl) rfl ?_
  exact h
theorem sg_Md_deals_10 {zs : List Int32} {x1 x2 x3 : Int32} {o4 : Option AV} {w : Wd} {Q : Option AV → Wd → Prop} (h : ((x2 ≤ x3 → Gw zs 0 m_Md_deals 47 [some (.inr (.inl (some 155))), some (.inl x1), some (.inl x2), some (.inl 0), some (.inl 0)] [] w Q) ∧ (¬ (x2 ≤ x3) → (vp_in x3 56 ∧ (vp_in x3 56 ∧ (vp_in x3 56 ∧ Gw zs 0 m_Md_deals 10 [some (.inr (.inl (some 155))), some (.inl x1), some (.inl x2), some (.inl (x3 + 1)), o4] [] (wr (wr (wr w 185 x3.toNatClampNeg (-1)) 186 x3.toNatClampNeg 0) 187 x3.toNatClampNeg 0) Q)))))) : Gw zs 0 m_Md_deals 10 [some (.inr (.inl (some 155))), some (.inl x1), some (.inl x2), some (.inl x3), o4] [] w Q := by
  refine gw_iload_n k_Md_deals f_Md_deals_10 rfl ?_
  refine gw_iload_n k_Md_deals f_Md_deals_11 rfl ?_
  refine gw_icmp_ge (t := 42) k_Md_deals f_Md_deals_12 rfl (fun c1 => ?_) (fun c1 => ?_)
  · have h := h.1 c1
    refine gw_iconst k_Md_deals f_Md_deals_42 qc_0 ?_
    refine gw_istore_n [some (.inr (.inl (some 155))), some (.inl x1), some (.inl x2), some (.inl 0), o4] k_Md_deals f_Md_deals_43 (Nat.le_of_ble_eq_true rfl) rfl ?_
    refine gw_iconst k_Md_deals f_Md_deals_44 qc_0 ?_
    refine gw_istore [some (.inr (.inl (some 155))), some (.inl x1), some (.inl x2), some (.inl 0), some (.inl 0)] k_Md_deals f_Md_deals_45 (Nat.le_of_ble_eq_true rfl) rfl ?_
    exact h
  · have h := h.2 c1
    refine gw_aload_n k_Md_deals f_Md_deals_15 rfl ?_
    refine gw_getR k_Md_deals f_Md_deals_16 l_fldT_11_216 hc155 rfl ?_
    refine gw_iload_n k_Md_deals f_Md_deals_19 rfl ?_
    refine gw_iconst k_Md_deals f_Md_deals_20 qc_m1 ?_
    have hp := h.1
    have h := h.2
    refine gw_iast k_Md_deals f_Md_deals_21 hc185 hp ?_
    refine gw_aload_n k_Md_deals f_Md_deals_22 rfl ?_
    refine gw_getR k_Md_deals f_Md_deals_23 l_fldT_11_219 hc155 rfl ?_
    refine gw_iload_n k_Md_deals f_Md_deals_26 rfl ?_
    refine gw_iconst k_Md_deals f_Md_deals_27 qc_0 ?_
    have hp := h.1
    have h := h.2
    refine gw_iast k_Md_deals f_Md_deals_28 hc186 hp ?_
    refine gw_aload_n k_Md_deals f_Md_deals_29 rfl ?_
    refine gw_getR k_Md_deals f_Md_deals_30 l_fldT_11_222 hc155 rfl ?_
    refine gw_iload_n k_Md_deals f_Md_deals_33 rfl ?_
    refine gw_iconst k_Md_deals f_Md_deals_34 qc_0 ?_
    have hp := h.1
    have h := h.2
    refine gw_iast k_Md_deals f_Md_deals_35 hc187 hp ?_
    refine gw_iinc [some (.inr (.inl (some 155))), some (.inl x1), some (.inl x2), some (.inl (x3 + 1)), o4] k_Md_deals f_Md_deals_36 rfl qc_1 (Nat.le_of_ble_eq_true rfl) rfl ?_
    refine gw_goto (t := 10) k_Md_deals f_Md_deals_39 rfl ?_
    exact h
theorem sg_Md_deals_47 {zs : List Int32} {x1 x2 x3 x4 : Int32} {w : Wd} {Q : Option AV → Wd → Prop} (h : ((150 ≤ x4 → Q (some (.inl 1)) w) ∧ (¬ (150 ≤ x4) → (vp_in x4 150 ∧ (((w 182 x4.toNatClampNeg) = (-1) → (vp_in x4 150 ∧ (((w 181 x4.toNatClampNeg) ≤ x1 → (vp_in x3 56 ∧ (vp_in x4 150 ∧ ((((w 187 x3.toNatClampNeg) + (w 181 x4.toNatClampNeg)) ≤ x1 → ((x3 = x2 → Q (some (.inl 0)) w) ∧ (¬ (x3 = x2) → (vp_in x3 56 ∧ (((w 186 x3.toNatClampNeg) = 0 → (vp_in x3 56 ∧ (vp_in x3 56 ∧ (vp_in x3 56 ∧ (vp_in x3 56 ∧ (vp_in x4 150 ∧ (vp_in x3 56 ∧ Gw zs 0 m_Md_deals 47 [some (.inr (.inl (some 155))), some (.inl x1), some (.inl x2), some (.inl x3), some (.inl (x4 + 1))] [] (wr (wr (wr w 185 x3.toNatClampNeg (x4 + 1)) 186 x3.toNatClampNeg ((w 186 x3.toNatClampNeg) + 1)) 187 x3.toNatClampNeg ((w 187 x3.toNatClampNeg) + (w 181 x4.toNatClampNeg))) Q))))))) ∧ (¬ ((w 186 x3.toNatClampNeg) = 0) → (vp_in x3 56 ∧ (vp_in x3 56 ∧ (vp_in x3 56 ∧ (vp_in x4 150 ∧ (vp_in x3 56 ∧ Gw zs 0 m_Md_deals 47 [some (.inr (.inl (some 155))), some (.inl x1), some (.inl x2), some (.inl x3), some (.inl (x4 + 1))] [] (wr (wr w 186 x3.toNatClampNeg ((w 186 x3.toNatClampNeg) + 1)) 187 x3.toNatClampNeg ((w 187 x3.toNatClampNeg) + (w 181 x4.toNatClampNeg))) Q))))))))))) ∧ (¬ (((w 187 x3.toNatClampNeg) + (w 181 x4.toNatClampNeg)) ≤ x1) → (((x3 + 1) = x2 → Q (some (.inl 0)) w) ∧ (¬ ((x3 + 1) = x2) → (vp_in (x3 + 1) 56 ∧ (((w 186 ((x3 + 1).toNatClampNeg)) = 0 → (vp_in (x3 + 1) 56 ∧ (vp_in (x3 + 1) 56 ∧ (vp_in (x3 + 1) 56 ∧ (vp_in (x3 + 1) 56 ∧ (vp_in x4 150 ∧ (vp_in (x3 + 1) 56 ∧ Gw zs 0 m_Md_deals 47 [some (.inr (.inl (some 155))), some (.inl x1), some (.inl x2), some (.inl (x3 + 1)), some (.inl (x4 + 1))] [] (wr (wr (wr w 185 ((x3 + 1).toNatClampNeg) (x4 + 1)) 186 ((x3 + 1).toNatClampNeg) ((w 186 ((x3 + 1).toNatClampNeg)) + 1)) 187 ((x3 + 1).toNatClampNeg) ((w 187 ((x3 + 1).toNatClampNeg)) + (w 181 x4.toNatClampNeg))) Q))))))) ∧ (¬ ((w 186 ((x3 + 1).toNatClampNeg)) = 0) → (vp_in (x3 + 1) 56 ∧ (vp_in (x3 + 1) 56 ∧ (vp_in (x3 + 1) 56 ∧ (vp_in x4 150 ∧ (vp_in (x3 + 1) 56 ∧ Gw zs 0 m_Md_deals 47 [some (.inr (.inl (some 155))), some (.inl x1), some (.inl x2), some (.inl (x3 + 1)), some (.inl (x4 + 1))] [] (wr (wr w 186 ((x3 + 1).toNatClampNeg) ((w 186 ((x3 + 1).toNatClampNeg)) + 1)) 187 ((x3 + 1).toNatClampNeg) ((w 187 ((x3 + 1).toNatClampNeg)) + (w 181 x4.toNatClampNeg))) Q))))))))))))))) ∧ (¬ ((w 181 x4.toNatClampNeg) ≤ x1) → Q (some (.inl 0)) w)))) ∧ (¬ ((w 182 x4.toNatClampNeg) = (-1)) → Gw zs 0 m_Md_deals 47 [some (.inr (.inl (some 155))), some (.inl x1), some (.inl x2), some (.inl x3), some (.inl (x4 + 1))] [] w Q)))))) : Gw zs 0 m_Md_deals 47 [some (.inr (.inl (some 155))), some (.inl x1), some (.inl x2), some (.inl x3), some (.inl x4)] [] w Q := by
  refine gw_iload k_Md_deals f_Md_deals_47 rfl ?_
  refine gw_sipush k_Md_deals f_Md_deals_49 qs_150 ?_
  refine gw_icmp_ge (t := 161) k_Md_deals f_Md_deals_52 rfl (fun c1 => ?_) (fun c1 => ?_)
  · have h := h.1 c1
    refine gw_iconst k_Md_deals f_Md_deals_161 qc_1 ?_
    exact gw_zret k_Md_deals f_Md_deals_162 rfl (Or.inr rfl) h
  · have h := h.2 c1
    refine gw_aload_n k_Md_deals f_Md_deals_55 rfl ?_
    refine gw_getR k_Md_deals f_Md_deals_56 l_fldT_11_201 hc155 rfl ?_
    refine gw_iload k_Md_deals f_Md_deals_59 rfl ?_
    have hp := h.1
    have h := h.2
    refine gw_iald k_Md_deals f_Md_deals_61 hc182 hp ?_
    refine gw_iconst k_Md_deals f_Md_deals_62 qc_m1 ?_
    refine gw_icmp_eq (t := 69) k_Md_deals f_Md_deals_63 rfl (fun c2 => ?_) (fun c2 => ?_)
    · have h := h.1 c2
      refine gw_aload_n k_Md_deals f_Md_deals_69 rfl ?_
      refine gw_getR k_Md_deals f_Md_deals_70 l_fldT_11_198 hc155 rfl ?_
      refine gw_iload k_Md_deals f_Md_deals_73 rfl ?_
      have hp := h.1
      have h := h.2
      refine gw_iald k_Md_deals f_Md_deals_75 hc181 hp ?_
      refine gw_iload_n k_Md_deals f_Md_deals_76 rfl ?_
      refine gw_icmp_le (t := 82) k_Md_deals f_Md_deals_77 rfl (fun c3 => ?_) (fun c3 => ?_)
      · have h := h.1 c3
        refine gw_aload_n k_Md_deals f_Md_deals_82 rfl ?_
        refine gw_getR k_Md_deals f_Md_deals_83 l_fldT_11_222 hc155 rfl ?_
        refine gw_iload_n k_Md_deals f_Md_deals_86 rfl ?_
        have hp := h.1
        have h := h.2
        refine gw_iald k_Md_deals f_Md_deals_87 hc187 hp ?_
        refine gw_aload_n k_Md_deals f_Md_deals_88 rfl ?_
        refine gw_getR k_Md_deals f_Md_deals_89 l_fldT_11_198 hc155 rfl ?_
        refine gw_iload k_Md_deals f_Md_deals_92 rfl ?_
        have hp := h.1
        have h := h.2
        refine gw_iald k_Md_deals f_Md_deals_94 hc181 hp ?_
        refine gw_iadd k_Md_deals f_Md_deals_95 ?_
        refine gw_iload_n k_Md_deals f_Md_deals_96 rfl ?_
        refine gw_icmp_le (t := 103) k_Md_deals f_Md_deals_97 rfl (fun c4 => ?_) (fun c4 => ?_)
        · have h := h.1 c4
          refine gw_iload_n k_Md_deals f_Md_deals_103 rfl ?_
          refine gw_iload_n k_Md_deals f_Md_deals_104 rfl ?_
          refine gw_icmp_ne (t := 110) k_Md_deals f_Md_deals_105 rfl (fun c5 => ?_) (fun c5 => ?_)
          · have h := h.2 c5
            refine gw_aload_n k_Md_deals f_Md_deals_110 rfl ?_
            refine gw_getR k_Md_deals f_Md_deals_111 l_fldT_11_219 hc155 rfl ?_
            refine gw_iload_n k_Md_deals f_Md_deals_114 rfl ?_
            have hp := h.1
            have h := h.2
            refine gw_iald k_Md_deals f_Md_deals_115 hc186 hp ?_
            refine gw_if_ne (t := 129) k_Md_deals f_Md_deals_116 rfl (fun c6 => ?_) (fun c6 => ?_)
            · have h := h.2 c6
              refine gw_aload_n k_Md_deals f_Md_deals_129 rfl ?_
              refine gw_getR k_Md_deals f_Md_deals_130 l_fldT_11_219 hc155 rfl ?_
              refine gw_iload_n k_Md_deals f_Md_deals_133 rfl ?_
              refine gw_dup2 k_Md_deals f_Md_deals_134 ?_
              have hp := h.1
              have h := h.2
              refine gw_iald k_Md_deals f_Md_deals_135 hc186 hp ?_
              refine gw_iconst k_Md_deals f_Md_deals_136 qc_1 ?_
              refine gw_iadd k_Md_deals f_Md_deals_137 ?_
              have hp := h.1
              have h := h.2
              refine gw_iast k_Md_deals f_Md_deals_138 hc186 hp ?_
              refine gw_aload_n k_Md_deals f_Md_deals_139 rfl ?_
              refine gw_getR k_Md_deals f_Md_deals_140 l_fldT_11_222 hc155 rfl ?_
              refine gw_iload_n k_Md_deals f_Md_deals_143 rfl ?_
              refine gw_dup2 k_Md_deals f_Md_deals_144 ?_
              have hp := h.1
              have h := h.2
              refine gw_iald k_Md_deals f_Md_deals_145 hc187 hp ?_
              rw [show (wr w 186 x3.toNatClampNeg ((w 186 x3.toNatClampNeg) + 1)) 187 x3.toNatClampNeg = w 187 x3.toNatClampNeg from wr_nc (by decide)]
              refine gw_aload_n k_Md_deals f_Md_deals_146 rfl ?_
              refine gw_getR k_Md_deals f_Md_deals_147 l_fldT_11_198 hc155 rfl ?_
              refine gw_iload k_Md_deals f_Md_deals_150 rfl ?_
              have hp := h.1
              have h := h.2
              refine gw_iald k_Md_deals f_Md_deals_152 hc181 hp ?_
              rw [show (wr w 186 x3.toNatClampNeg ((w 186 x3.toNatClampNeg) + 1)) 181 x4.toNatClampNeg = w 181 x4.toNatClampNeg from wr_nc (by decide)]
              refine gw_iadd k_Md_deals f_Md_deals_153 ?_
              have hp := h.1
              have h := h.2
              refine gw_iast k_Md_deals f_Md_deals_154 hc187 hp ?_
              refine gw_iinc [some (.inr (.inl (some 155))), some (.inl x1), some (.inl x2), some (.inl x3), some (.inl (x4 + 1))] k_Md_deals f_Md_deals_155 rfl qc_1 (Nat.le_of_ble_eq_true rfl) rfl ?_
              refine gw_goto (t := 47) k_Md_deals f_Md_deals_158 rfl ?_
              exact h
            · have c6 := Decidable.not_not.mp c6
              have h := h.1 c6
              refine gw_aload_n k_Md_deals f_Md_deals_119 rfl ?_
              refine gw_getR k_Md_deals f_Md_deals_120 l_fldT_11_216 hc155 rfl ?_
              refine gw_iload_n k_Md_deals f_Md_deals_123 rfl ?_
              refine gw_iload k_Md_deals f_Md_deals_124 rfl ?_
              refine gw_iconst k_Md_deals f_Md_deals_126 qc_1 ?_
              refine gw_iadd k_Md_deals f_Md_deals_127 ?_
              have hp := h.1
              have h := h.2
              refine gw_iast k_Md_deals f_Md_deals_128 hc185 hp ?_
              refine gw_aload_n k_Md_deals f_Md_deals_129 rfl ?_
              refine gw_getR k_Md_deals f_Md_deals_130 l_fldT_11_219 hc155 rfl ?_
              refine gw_iload_n k_Md_deals f_Md_deals_133 rfl ?_
              refine gw_dup2 k_Md_deals f_Md_deals_134 ?_
              have hp := h.1
              have h := h.2
              refine gw_iald k_Md_deals f_Md_deals_135 hc186 hp ?_
              rw [show (wr w 185 x3.toNatClampNeg (x4 + 1)) 186 x3.toNatClampNeg = w 186 x3.toNatClampNeg from wr_nc (by decide)]
              refine gw_iconst k_Md_deals f_Md_deals_136 qc_1 ?_
              refine gw_iadd k_Md_deals f_Md_deals_137 ?_
              have hp := h.1
              have h := h.2
              refine gw_iast k_Md_deals f_Md_deals_138 hc186 hp ?_
              refine gw_aload_n k_Md_deals f_Md_deals_139 rfl ?_
              refine gw_getR k_Md_deals f_Md_deals_140 l_fldT_11_222 hc155 rfl ?_
              refine gw_iload_n k_Md_deals f_Md_deals_143 rfl ?_
              refine gw_dup2 k_Md_deals f_Md_deals_144 ?_
              have hp := h.1
              have h := h.2
              refine gw_iald k_Md_deals f_Md_deals_145 hc187 hp ?_
              rw [show (wr (wr w 185 x3.toNatClampNeg (x4 + 1)) 186 x3.toNatClampNeg ((w 186 x3.toNatClampNeg) + 1)) 187 x3.toNatClampNeg = w 187 x3.toNatClampNeg from (wr_nc (by decide)).trans (wr_nc (by decide))]
              refine gw_aload_n k_Md_deals f_Md_deals_146 rfl ?_
              refine gw_getR k_Md_deals f_Md_deals_147 l_fldT_11_198 hc155 rfl ?_
              refine gw_iload k_Md_deals f_Md_deals_150 rfl ?_
              have hp := h.1
              have h := h.2
              refine gw_iald k_Md_deals f_Md_deals_152 hc181 hp ?_
              rw [show (wr (wr w 185 x3.toNatClampNeg (x4 + 1)) 186 x3.toNatClampNeg ((w 186 x3.toNatClampNeg) + 1)) 181 x4.toNatClampNeg = w 181 x4.toNatClampNeg from (wr_nc (by decide)).trans (wr_nc (by decide))]
              refine gw_iadd k_Md_deals f_Md_deals_153 ?_
              have hp := h.1
              have h := h.2
              refine gw_iast k_Md_deals f_Md_deals_154 hc187 hp ?_
              refine gw_iinc [some (.inr (.inl (some 155))), some (.inl x1), some (.inl x2), some (.inl x3), some (.inl (x4 + 1))] k_Md_deals f_Md_deals_155 rfl qc_1 (Nat.le_of_ble_eq_true rfl) rfl ?_
              refine gw_goto (t := 47) k_Md_deals f_Md_deals_158 rfl ?_
              exact h
          · have c5 := Decidable.not_not.mp c5
            have h := h.1 c5
            refine gw_iconst k_Md_deals f_Md_deals_108 qc_0 ?_
            exact gw_zret k_Md_deals f_Md_deals_109 rfl (Or.inl rfl) h
        · have h := h.2 c4
          refine gw_iinc [some (.inr (.inl (some 155))), some (.inl x1), some (.inl x2), some (.inl (x3 + 1)), some (.inl x4)] k_Md_deals f_Md_deals_100 rfl qc_1 (Nat.le_of_ble_eq_true rfl) rfl ?_
          refine gw_iload_n k_Md_deals f_Md_deals_103 rfl ?_
          refine gw_iload_n k_Md_deals f_Md_deals_104 rfl ?_
          refine gw_icmp_ne (t := 110) k_Md_deals f_Md_deals_105 rfl (fun c7 => ?_) (fun c7 => ?_)
          · have h := h.2 c7
            refine gw_aload_n k_Md_deals f_Md_deals_110 rfl ?_
            refine gw_getR k_Md_deals f_Md_deals_111 l_fldT_11_219 hc155 rfl ?_
            refine gw_iload_n k_Md_deals f_Md_deals_114 rfl ?_
            have hp := h.1
            have h := h.2
            refine gw_iald k_Md_deals f_Md_deals_115 hc186 hp ?_
            refine gw_if_ne (t := 129) k_Md_deals f_Md_deals_116 rfl (fun c8 => ?_) (fun c8 => ?_)
            · have h := h.2 c8
              refine gw_aload_n k_Md_deals f_Md_deals_129 rfl ?_
              refine gw_getR k_Md_deals f_Md_deals_130 l_fldT_11_219 hc155 rfl ?_
              refine gw_iload_n k_Md_deals f_Md_deals_133 rfl ?_
              refine gw_dup2 k_Md_deals f_Md_deals_134 ?_
              have hp := h.1
              have h := h.2
              refine gw_iald k_Md_deals f_Md_deals_135 hc186 hp ?_
              refine gw_iconst k_Md_deals f_Md_deals_136 qc_1 ?_
              refine gw_iadd k_Md_deals f_Md_deals_137 ?_
              have hp := h.1
              have h := h.2
              refine gw_iast k_Md_deals f_Md_deals_138 hc186 hp ?_
              refine gw_aload_n k_Md_deals f_Md_deals_139 rfl ?_
              refine gw_getR k_Md_deals f_Md_deals_140 l_fldT_11_222 hc155 rfl ?_
              refine gw_iload_n k_Md_deals f_Md_deals_143 rfl ?_
              refine gw_dup2 k_Md_deals f_Md_deals_144 ?_
              have hp := h.1
              have h := h.2
              refine gw_iald k_Md_deals f_Md_deals_145 hc187 hp ?_
              rw [show (wr w 186 ((x3 + 1).toNatClampNeg) ((w 186 ((x3 + 1).toNatClampNeg)) + 1)) 187 ((x3 + 1).toNatClampNeg) = w 187 ((x3 + 1).toNatClampNeg) from wr_nc (by decide)]
              refine gw_aload_n k_Md_deals f_Md_deals_146 rfl ?_
              refine gw_getR k_Md_deals f_Md_deals_147 l_fldT_11_198 hc155 rfl ?_
              refine gw_iload k_Md_deals f_Md_deals_150 rfl ?_
              have hp := h.1
              have h := h.2
              refine gw_iald k_Md_deals f_Md_deals_152 hc181 hp ?_
              rw [show (wr w 186 ((x3 + 1).toNatClampNeg) ((w 186 ((x3 + 1).toNatClampNeg)) + 1)) 181 x4.toNatClampNeg = w 181 x4.toNatClampNeg from wr_nc (by decide)]
              refine gw_iadd k_Md_deals f_Md_deals_153 ?_
              have hp := h.1
              have h := h.2
              refine gw_iast k_Md_deals f_Md_deals_154 hc187 hp ?_
              refine gw_iinc [some (.inr (.inl (some 155))), some (.inl x1), some (.inl x2), some (.inl (x3 + 1)), some (.inl (x4 + 1))] k_Md_deals f_Md_deals_155 rfl qc_1 (Nat.le_of_ble_eq_true rfl) rfl ?_
              refine gw_goto (t := 47) k_Md_deals f_Md_deals_158 rfl ?_
              exact h
            · have c8 := Decidable.not_not.mp c8
              have h := h.1 c8
              refine gw_aload_n k_Md_deals f_Md_deals_119 rfl ?_
              refine gw_getR k_Md_deals f_Md_deals_120 l_fldT_11_216 hc155 rfl ?_
              refine gw_iload_n k_Md_deals f_Md_deals_123 rfl ?_
              refine gw_iload k_Md_deals f_Md_deals_124 rfl ?_
              refine gw_iconst k_Md_deals f_Md_deals_126 qc_1 ?_
              refine gw_iadd k_Md_deals f_Md_deals_127 ?_
              have hp := h.1
              have h := h.2
              refine gw_iast k_Md_deals f_Md_deals_128 hc185 hp ?_
              refine gw_aload_n k_Md_deals f_Md_deals_129 rfl ?_
              refine gw_getR k_Md_deals f_Md_deals_130 l_fldT_11_219 hc155 rfl ?_
              refine gw_iload_n k_Md_deals f_Md_deals_133 rfl ?_
              refine gw_dup2 k_Md_deals f_Md_deals_134 ?_
              have hp := h.1
              have h := h.2
              refine gw_iald k_Md_deals f_Md_deals_135 hc186 hp ?_
              rw [show (wr w 185 ((x3 + 1).toNatClampNeg) (x4 + 1)) 186 ((x3 + 1).toNatClampNeg) = w 186 ((x3 + 1).toNatClampNeg) from wr_nc (by decide)]
              refine gw_iconst k_Md_deals f_Md_deals_136 qc_1 ?_
              refine gw_iadd k_Md_deals f_Md_deals_137 ?_
              have hp := h.1
              have h := h.2
              refine gw_iast k_Md_deals f_Md_deals_138 hc186 hp ?_
              refine gw_aload_n k_Md_deals f_Md_deals_139 rfl ?_
              refine gw_getR k_Md_deals f_Md_deals_140 l_fldT_11_222 hc155 rfl ?_
              refine gw_iload_n k_Md_deals f_Md_deals_143 rfl ?_
              refine gw_dup2 k_Md_deals f_Md_deals_144 ?_
              have hp := h.1
              have h := h.2
              refine gw_iald k_Md_deals f_Md_deals_145 hc187 hp ?_
              rw [show (wr (wr w 185 ((x3 + 1).toNatClampNeg) (x4 + 1)) 186 ((x3 + 1).toNatClampNeg) ((w 186 ((x3 + 1).toNatClampNeg)) + 1)) 187 ((x3 + 1).toNatClampNeg) = w 187 ((x3 + 1).toNatClampNeg) from (wr_nc (by decide)).trans (wr_nc (by decide))]
              refine gw_aload_n k_Md_deals f_Md_deals_146 rfl ?_
              refine gw_getR k_Md_deals f_Md_deals_147 l_fldT_11_198 hc155 rfl ?_
              refine gw_iload k_Md_deals f_Md_deals_150 rfl ?_
              have hp := h.1
              have h := h.2
              refine gw_iald k_Md_deals f_Md_deals_152 hc181 hp ?_
              rw [show (wr (wr w 185 ((x3 + 1).toNatClampNeg) (x4 + 1)) 186 ((x3 + 1).toNatClampNeg) ((w 186 ((x3 + 1).toNatClampNeg)) + 1)) 181 x4.toNatClampNeg = w 181 x4.toNatClampNeg from (wr_nc (by decide)).trans (wr_nc (by decide))]
              refine gw_iadd k_Md_deals f_Md_deals_153 ?_
              have hp := h.1
              have h := h.2
              refine gw_iast k_Md_deals f_Md_deals_154 hc187 hp ?_
              refine gw_iinc [some (.inr (.inl (some 155))), some (.inl x1), some (.inl x2), some (.inl (x3 + 1)), some (.inl (x4 + 1))] k_Md_deals f_Md_deals_155 rfl qc_1 (Nat.le_of_ble_eq_true rfl) rfl ?_
              refine gw_goto (t := 47) k_Md_deals f_Md_deals_158 rfl ?_
              exact h
          · have c7 := Decidable.not_not.mp c7
            have h := h.1 c7
            refine gw_iconst k_Md_deals f_Md_deals_108 qc_0 ?_
            exact gw_zret k_Md_deals f_Md_deals_109 rfl (Or.inl rfl) h
      · have h := h.2 c3
        refine gw_iconst k_Md_deals f_Md_deals_80 qc_0 ?_
        exact gw_zret k_Md_deals f_Md_deals_81 rfl (Or.inl rfl) h
    · have h := h.2 c2
      refine gw_goto (t := 155) k_Md_deals f_Md_deals_66 rfl ?_
      refine gw_iinc [some (.inr (.inl (some 155))), some (.inl x1), some (.inl x2), some (.inl x3), some (.inl (x4 + 1))] k_Md_deals f_Md_deals_155 rfl qc_1 (Nat.le_of_ble_eq_true rfl) rfl ?_
      refine gw_goto (t := 47) k_Md_deals f_Md_deals_158 rfl ?_
      exact h
