/-! Ways from cut to cut -/
theorem sg_Md_deal_0 {zs : List Int32} {w : Wd} {Q : Option AV → Wd → Prop} (h : Gw zs 1 m_Md_deal 6 [some (.inr (.inl (some 155))), some (.inl 0), some (.inl 30000), none] [] w Q) : Gw zs 1 m_Md_deal 0 [some (.inr (.inl (some 155))), none, none, none] [] w Q := by
  refine gw_iconst k_Md_deal f_Md_deal_0 qc_0 ?_
  refine gw_istore_n [some (.inr (.inl (some 155))), some (.inl 0), none, none] k_Md_deal f_Md_deal_1 (Nat.le_of_ble_eq_true rfl) rfl ?_
  refine gw_sipush k_Md_deal f_Md_deal_2 qs_30000 ?_
  refine gw_istore_n [some (.inr (.inl (some 155))), some (.inl 0), some (.inl 30000), none] k_Md_deal f_Md_deal_5 (Nat.le_of_ble_eq_true rfl) rfl ?_
  exact h
theorem sg_Md_deal_6 {zs : List Int32} {x1 x2 : Int32} {o3 : Option AV} {w : Wd} {Q : Option AV → Wd → Prop} (h : ((x2 ≤ x1 → Ew zs 0 m_Md_deals [.inr (.inl (some 155)), .inl x1] (wr w 155 38 x1) (fun v w3 => ∃ r2 : Int32, v = some (.inl r2) ∧ Q (none) w3)) ∧ (¬ (x2 ≤ x1) → Ew zs 0 m_Md_deals [.inr (.inl (some 155)), .inl ((x1 + x2) / 2)] w (fun v w5 => ∃ r4 : Int32, v = some (.inl r4) ∧ ((r4 = 0 → Gw zs 1 m_Md_deal 6 [some (.inr (.inl (some 155))), some (.inl (((x1 + x2) / 2) + 1)), some (.inl x2), some (.inl ((x1 + x2) / 2))] [] w5 Q) ∧ (¬ (r4 = 0) → Gw zs 1 m_Md_deal 6 [some (.inr (.inl (some 155))), some (.inl x1), some (.inl ((x1 + x2) / 2)), some (.inl ((x1 + x2) / 2))] [] w5 Q)))))) : Gw zs 1 m_Md_deal 6 [some (.inr (.inl (some 155))), some (.inl x1), some (.inl x2), o3] [] w Q := by
  refine gw_iload_n k_Md_deal f_Md_deal_6 rfl ?_
  refine gw_iload_n k_Md_deal f_Md_deal_7 rfl ?_
  refine gw_icmp_ge (t := 37) k_Md_deal f_Md_deal_8 rfl (fun c1 => ?_) (fun c1 => ?_)
  · have h := h.1 c1
    refine gw_aload_n k_Md_deal f_Md_deal_37 rfl ?_
    refine gw_iload_n k_Md_deal f_Md_deal_38 rfl ?_
    refine gw_put k_Md_deal f_Md_deal_39 l_fldT_11_282 hc155 rfl rfl rfl rfl rfl ?_
    refine gw_aload_n k_Md_deal f_Md_deal_42 rfl ?_
    refine gw_aload_n k_Md_deal f_Md_deal_43 rfl ?_
    refine gw_getI k_Md_deal f_Md_deal_44 l_fldT_11_282 hc155 rfl ?_
    rw [show (wr w 155 38 x1) 155 38 = x1 from wr_eq]
    refine gw_virtual [.inl x1] k_Md_deal f_Md_deal_47 l_invT_11_279 k_Md_deals hc155 rfl rfl rfl (by exact Nat.le_of_ble_eq_true rfl) (dc := 0) (by decide) ?_ rfl
    refine h.mono (fun v w3 hh => ?_)
    obtain ⟨r2, rfl, h⟩ := hh
    show Gw zs 1 m_Md_deal 50 [some (.inr (.inl (some 155))), some (.inl x1), some (.inl x2), o3] [.inl r2] w3 _
    refine gw_pop k_Md_deal f_Md_deal_50 ?_
    exact gw_vret k_Md_deal f_Md_deal_51 rfl h
  · have h := h.2 c1
    refine gw_iload_n k_Md_deal f_Md_deal_11 rfl ?_
    refine gw_iload_n k_Md_deal f_Md_deal_12 rfl ?_
    refine gw_iadd k_Md_deal f_Md_deal_13 ?_
    refine gw_iconst k_Md_deal f_Md_deal_14 qc_2 ?_
    refine gw_idiv k_Md_deal f_Md_deal_15 (by decide) ?_
    refine gw_istore_n [some (.inr (.inl (some 155))), some (.inl x1), some (.inl x2), some (.inl ((x1 + x2) / 2))] k_Md_deal f_Md_deal_16 (Nat.le_of_ble_eq_true rfl) rfl ?_
    refine gw_aload_n k_Md_deal f_Md_deal_17 rfl ?_
    refine gw_iload_n k_Md_deal f_Md_deal_18 rfl ?_
    refine gw_virtual [.inl ((x1 + x2) / 2)] k_Md_deal f_Md_deal_19 l_invT_11_279 k_Md_deals hc155 rfl rfl rfl (by exact Nat.le_of_ble_eq_true rfl) (dc := 0) (by decide) ?_ rfl
    refine h.mono (fun v w5 hh => ?_)
    obtain ⟨r4, rfl, h⟩ := hh
    show Gw zs 1 m_Md_deal 22 [some (.inr (.inl (some 155))), some (.inl x1), some (.inl x2), some (.inl ((x1 + x2) / 2))] [.inl r4] w5 _
    refine gw_if_eq (t := 30) k_Md_deal f_Md_deal_22 rfl (fun c6 => ?_) (fun c6 => ?_)
    · have h := h.1 c6
      refine gw_iload_n k_Md_deal f_Md_deal_30 rfl ?_
      refine gw_iconst k_Md_deal f_Md_deal_31 qc_1 ?_
      refine gw_iadd k_Md_deal f_Md_deal_32 ?_
      refine gw_istore_n [some (.inr (.inl (some 155))), some (.inl (((x1 + x2) / 2) + 1)), some (.inl x2), some (.inl ((x1 + x2) / 2))] k_Md_deal f_Md_deal_33 (Nat.le_of_ble_eq_true rfl) rfl ?_
      refine gw_goto (t := 6) k_Md_deal f_Md_deal_34 rfl ?_
      exact h
    · have h := h.2 c6
      refine gw_iload_n k_Md_deal f_Md_deal_25 rfl ?_
      refine gw_istore_n [some (.inr (.inl (some 155))), some (.inl x1), some (.inl ((x1 + x2) / 2)), some (.inl ((x1 + x2) / 2))] k_Md_deal f_Md_deal_26 (Nat.le_of_ble_eq_true rfl) rfl ?_
      refine gw_goto (t := 34) k_Md_deal f_Md_deal_27 rfl ?_
      refine gw_goto (t := 6) k_Md_deal f_Md_deal_34 rfl ?_
      exact h
theorem sg_Md_dealt_0 {zs : List Int32} {a0 a1 a2 : Int32} {w : Wd} {Q : Option AV → Wd → Prop} (h : ((a2 = 3 → Ew zs 1 m_Md_deal [.inr (.inl (some 155))] w (fun v w8 => v = none ∧ Q (some (.inl (w8 155 38))) w8)) ∧ (¬ (a2 = 3) → (((f_Md_in a0 0 6) = 0 → Q (some (.inl (-1))) w) ∧ (¬ ((f_Md_in a0 0 6) = 0) → (((f_Md_in a1 0 ((w 155 36) - 1)) = 0 → Q (some (.inl (-1))) w) ∧ (¬ ((f_Md_in a1 0 ((w 155 36) - 1)) = 0) → (((f_Md_in a2 0 2) = 0 → Q (some (.inl (-1))) w) ∧ (¬ ((f_Md_in a2 0 2) = 0) → Ew zs 1 m_Md_deal [.inr (.inl (some 155))] w (fun v w5 => v = none ∧ ((a2 = 0 → (vp_in (((w5 155 36) * a0) + a1) 56 ∧ Q (some (.inl (w5 185 ((((w5 155 36) * a0) + a1).toNatClampNeg)))) w5)) ∧ (¬ (a2 = 0) → ((a2 = 1 → (vp_in (((w5 155 36) * a0) + a1) 56 ∧ Q (some (.inl (w5 186 ((((w5 155 36) * a0) + a1).toNatClampNeg)))) w5)) ∧ (¬ (a2 = 1) → (vp_in (((w5 155 36) * a0) + a1) 56 ∧ Q (some (.inl (w5 187 ((((w5 155 36) * a0) + a1).toNatClampNeg)))) w5))))))))))))))) : Gw zs 2 m_Md_dealt 0 [some (.inr (.inl (some 155))), some (.inl a0), some (.inl a1), some (.inl a2), none] [] w Q := by
  refine gw_iload_n k_Md_dealt f_Md_dealt_0 rfl ?_
  refine gw_iconst k_Md_dealt f_Md_dealt_1 qc_3 ?_
  refine gw_icmp_ne (t := 14) k_Md_dealt f_Md_dealt_2 rfl (fun c1 => ?_) (fun c1 => ?_)
  · have h := h.2 c1
    refine gw_iload_n k_Md_dealt f_Md_dealt_14 rfl ?_
    refine gw_iconst k_Md_dealt f_Md_dealt_15 qc_0 ?_
    refine gw_bipush k_Md_dealt f_Md_dealt_16 qb_6 ?_
    refine gw_static [.inl a0, .inl 0, .inl 6] k_Md_dealt f_Md_dealt_18 l_invT_11_1 (by decide) k_Md_in rfl (by exact Nat.le_of_ble_eq_true rfl) (dc := 0) (by decide) ?_ rfl
    refine ev_Md_in ?_
    show Gw zs 2 m_Md_dealt 21 [some (.inr (.inl (some 155))), some (.inl a0), some (.inl a1), some (.inl a2), none] [.inl (f_Md_in a0 0 6)] w _
    refine gw_if_eq (t := 47) k_Md_dealt f_Md_dealt_21 rfl (fun c2 => ?_) (fun c2 => ?_)
    · have h := h.1 c2
      refine gw_iconst k_Md_dealt f_Md_dealt_47 qc_m1 ?_
      exact gw_iret k_Md_dealt f_Md_dealt_48 rfl h
    · have h := h.2 c2
      refine gw_iload_n k_Md_dealt f_Md_dealt_24 rfl ?_
      refine gw_iconst k_Md_dealt f_Md_dealt_25 qc_0 ?_
      refine gw_aload_n k_Md_dealt f_Md_dealt_26 rfl ?_
      refine gw_getI k_Md_dealt f_Md_dealt_27 l_fldT_11_210 hc155 rfl ?_
      refine gw_iconst k_Md_dealt f_Md_dealt_30 qc_1 ?_
      refine gw_isub k_Md_dealt f_Md_dealt_31 ?_
      refine gw_static [.inl a1, .inl 0, .inl ((w 155 36) - 1)] k_Md_dealt f_Md_dealt_32 l_invT_11_1 (by decide) k_Md_in rfl (by exact Nat.le_of_ble_eq_true rfl) (dc := 0) (by decide) ?_ rfl
      refine ev_Md_in ?_
      show Gw zs 2 m_Md_dealt 35 [some (.inr (.inl (some 155))), some (.inl a0), some (.inl a1), some (.inl a2), none] [.inl (f_Md_in a1 0 ((w 155 36) - 1))] w _
      refine gw_if_eq (t := 47) k_Md_dealt f_Md_dealt_35 rfl (fun c3 => ?_) (fun c3 => ?_)
      · have h := h.1 c3
        refine gw_iconst k_Md_dealt f_Md_dealt_47 qc_m1 ?_
        exact gw_iret k_Md_dealt f_Md_dealt_48 rfl h
      · have h := h.2 c3
        refine gw_iload_n k_Md_dealt f_Md_dealt_38 rfl ?_
        refine gw_iconst k_Md_dealt f_Md_dealt_39 qc_0 ?_
        refine gw_iconst k_Md_dealt f_Md_dealt_40 qc_2 ?_
        refine gw_static [.inl a2, .inl 0, .inl 2] k_Md_dealt f_Md_dealt_41 l_invT_11_1 (by decide) k_Md_in rfl (by exact Nat.le_of_ble_eq_true rfl) (dc := 0) (by decide) ?_ rfl
        refine ev_Md_in ?_
        show Gw zs 2 m_Md_dealt 44 [some (.inr (.inl (some 155))), some (.inl a0), some (.inl a1), some (.inl a2), none] [.inl (f_Md_in a2 0 2)] w _
        refine gw_if_ne (t := 49) k_Md_dealt f_Md_dealt_44 rfl (fun c4 => ?_) (fun c4 => ?_)
        · have h := h.2 c4
          refine gw_aload_n k_Md_dealt f_Md_dealt_49 rfl ?_
          refine gw_virtual [] k_Md_dealt f_Md_dealt_50 l_invT_11_285 k_Md_deal hc155 rfl rfl rfl (by exact Nat.le_of_ble_eq_true rfl) (dc := 1) (by decide) ?_ rfl
          refine h.mono (fun v w5 hh => ?_)
          obtain ⟨rfl, h⟩ := hh
          show Gw zs 2 m_Md_dealt 53 [some (.inr (.inl (some 155))), some (.inl a0), some (.inl a1), some (.inl a2), none] [] w5 _
          refine gw_aload_n k_Md_dealt f_Md_dealt_53 rfl ?_
          refine gw_getI k_Md_dealt f_Md_dealt_54 l_fldT_11_210 hc155 rfl ?_
          refine gw_iload_n k_Md_dealt f_Md_dealt_57 rfl ?_
          refine gw_imul k_Md_dealt f_Md_dealt_58 ?_
          refine gw_iload_n k_Md_dealt f_Md_dealt_59 rfl ?_
          refine gw_iadd k_Md_dealt f_Md_dealt_60 ?_
          refine gw_istore [some (.inr (.inl (some 155))), some (.inl a0), some (.inl a1), some (.inl a2), some (.inl (((w5 155 36) * a0) + a1))] k_Md_dealt f_Md_dealt_61 (Nat.le_of_ble_eq_true rfl) rfl ?_
          refine gw_iload_n k_Md_dealt f_Md_dealt_63 rfl ?_
          refine gw_if_ne (t := 77) k_Md_dealt f_Md_dealt_64 rfl (fun c6 => ?_) (fun c6 => ?_)
          · have h := h.2 c6
            refine gw_iload_n k_Md_dealt f_Md_dealt_77 rfl ?_
            refine gw_iconst k_Md_dealt f_Md_dealt_78 qc_1 ?_
            refine gw_icmp_ne (t := 92) k_Md_dealt f_Md_dealt_79 rfl (fun c7 => ?_) (fun c7 => ?_)
            · have h := h.2 c7
              refine gw_aload_n k_Md_dealt f_Md_dealt_92 rfl ?_
              refine gw_getR k_Md_dealt f_Md_dealt_93 l_fldT_11_222 hc155 rfl ?_
              refine gw_iload k_Md_dealt f_Md_dealt_96 rfl ?_
              have hp := h.1
              have h := h.2
              refine gw_iald k_Md_dealt f_Md_dealt_98 hc187 hp ?_
              exact gw_iret k_Md_dealt f_Md_dealt_99 rfl h
            · have c7 := Decidable.not_not.mp c7
              have h := h.1 c7
              refine gw_aload_n k_Md_dealt f_Md_dealt_82 rfl ?_
              refine gw_getR k_Md_dealt f_Md_dealt_83 l_fldT_11_219 hc155 rfl ?_
              refine gw_iload k_Md_dealt f_Md_dealt_86 rfl ?_
              have hp := h.1
              have h := h.2
              refine gw_iald k_Md_dealt f_Md_dealt_88 hc186 hp ?_
              refine gw_goto (t := 99) k_Md_dealt f_Md_dealt_89 rfl ?_
              exact gw_iret k_Md_dealt f_Md_dealt_99 rfl h
          · have c6 := Decidable.not_not.mp c6
            have h := h.1 c6
            refine gw_aload_n k_Md_dealt f_Md_dealt_67 rfl ?_
            refine gw_getR k_Md_dealt f_Md_dealt_68 l_fldT_11_216 hc155 rfl ?_
            refine gw_iload k_Md_dealt f_Md_dealt_71 rfl ?_
            have hp := h.1
            have h := h.2
            refine gw_iald k_Md_dealt f_Md_dealt_73 hc185 hp ?_
            refine gw_goto (t := 99) k_Md_dealt f_Md_dealt_74 rfl ?_
            exact gw_iret k_Md_dealt f_Md_dealt_99 rfl h
        · have c4 := Decidable.not_not.mp c4
          have h := h.1 c4
          refine gw_iconst k_Md_dealt f_Md_dealt_47 qc_m1 ?_
          exact gw_iret k_Md_dealt f_Md_dealt_48 rfl h
  · have c1 := Decidable.not_not.mp c1
    have h := h.1 c1
    refine gw_aload_n k_Md_dealt f_Md_dealt_5 rfl ?_
    refine gw_virtual [] k_Md_dealt f_Md_dealt_6 l_invT_11_285 k_Md_deal hc155 rfl rfl rfl (by exact Nat.le_of_ble_eq_true rfl) (dc := 1) (by decide) ?_ rfl
    refine h.mono (fun v w8 hh => ?_)
    obtain ⟨rfl, h⟩ := hh
    show Gw zs 2 m_Md_dealt 9 [some (.inr (.inl (some 155))), some (.inl a0), some (.inl a1), some (.inl a2), none] [] w8 _
    refine gw_aload_n k_Md_dealt f_Md_dealt_9 rfl ?_
    refine gw_getI k_Md_dealt f_Md_dealt_10 l_fldT_11_282 hc155 rfl ?_
    exact gw_iret k_Md_dealt f_Md_dealt_13 rfl h
theorem sg_Md_adds_0 {zs : List Int32} {a0 : Int32} {w : Wd} {Q : Option AV → Wd → Prop} (h : (vp_in (w 155 42) 310 ∧ Q (none) (wr (wr w 188 ((w 155 42).toNatClampNeg) a0) 155 42 ((w 155 42) + 1)))) : Gw zs 0 m_Md_adds 0 [some (.inr (.inl (some 155))), some (.inl a0)] [] w Q := by
  refine gw_aload_n k_Md_adds f_Md_adds_0 rfl ?_
  refine gw_getR k_Md_adds f_Md_adds_1 l_fldT_11_225 hc155 rfl ?_
  refine gw_aload_n k_Md_adds f_Md_adds_4 rfl ?_
  refine gw_getI k_Md_adds f_Md_adds_5 l_fldT_11_288 hc155 rfl ?_
  refine gw_iload_n k_Md_adds f_Md_adds_8 rfl ?_
  have hp := h.1
  have h := h.2
  refine gw_iast k_Md_adds f_Md_adds_9 hc188 hp ?_
  refine gw_aload_n k_Md_adds f_Md_adds_10 rfl ?_
  refine gw_dup k_Md_adds f_Md_adds_11 ?_
  refine gw_getI k_Md_adds f_Md_adds_12 l_fldT_11_288 hc155 rfl ?_
  rw [show (wr w 188 ((w 155 42).toNatClampNeg) a0) 155 42 = w 155 42 from wr_nc (by decide)]
  refine gw_iconst k_Md_adds f_Md_adds_15 qc_1 ?_
  refine gw_iadd k_Md_adds f_Md_adds_16 ?_
  refine gw_put k_Md_adds f_Md_adds_17 l_fldT_11_288 hc155 rfl rfl rfl rfl rfl ?_
  exact gw_vret k_Md_adds f_Md_adds_20 rfl h
theorem sg_Md_sings_0 {zs : List Int32} {a0 a1 : Int32} {w : Wd} {Q : Option AV → Wd → Prop} (h : (vp_in a0 366 ∧ (((w 173 a0.toNatClampNeg) < (w 155 37) → (vp_in (((w 155 36) * (((w 155 29) + a0) - ((w 155 29) + a0) / 7 * 7)) + a1) 56 ∧ (vp_in (((w 155 36) * (((w 155 29) + a0) - ((w 155 29) + a0) / 7 * 7)) + a1) 56 ∧ Gw zs 1 m_Md_sings 96 [some (.inr (.inl (some 155))), some (.inl a0), some (.inl a1), some (.inl (((w 155 36) * (((w 155 29) + a0) - ((w 155 29) + a0) / 7 * 7)) + a1)), some (.inl (w 186 ((((w 155 36) * (((w 155 29) + a0) - ((w 155 29) + a0) / 7 * 7)) + a1).toNatClampNeg))), some (.inl (w 185 ((((w 155 36) * (((w 155 29) + a0) - ((w 155 29) + a0) / 7 * 7)) + a1).toNatClampNeg)))] [] (wr w 155 42 0) Q))) ∧ (¬ ((w 173 a0.toNatClampNeg) < (w 155 37)) → (vp_in a1 8 ∧ (((w 183 a1.toNatClampNeg) ≤ 0 → (vp_in (((w 155 36) * (((w 155 29) + a0) - ((w 155 29) + a0) / 7 * 7)) + a1) 56 ∧ (vp_in (((w 155 36) * (((w 155 29) + a0) - ((w 155 29) + a0) / 7 * 7)) + a1) 56 ∧ Gw zs 1 m_Md_sings 96 [some (.inr (.inl (some 155))), some (.inl a0), some (.inl a1), some (.inl (((w 155 36) * (((w 155 29) + a0) - ((w 155 29) + a0) / 7 * 7)) + a1)), some (.inl (w 186 ((((w 155 36) * (((w 155 29) + a0) - ((w 155 29) + a0) / 7 * 7)) + a1).toNatClampNeg))), some (.inl (w 185 ((((w 155 36) * (((w 155 29) + a0) - ((w 155 29) + a0) / 7 * 7)) + a1).toNatClampNeg)))] [] (wr w 155 42 0) Q))) ∧ (¬ ((w 183 a1.toNatClampNeg) ≤ 0) → Gw zs 1 m_Md_sings 29 [some (.inr (.inl (some 155))), some (.inl a0), some (.inl a1), some (.inl 0), none, none] [] (wr w 155 42 0) Q))))))) : Gw zs 1 m_Md_sings 0 [some (.inr (.inl (some 155))), some (.inl a0), some (.inl a1), none, none, none] [] w Q := by
  refine gw_aload_n k_Md_sings f_Md_sings_0 rfl ?_
  refine gw_iconst k_Md_sings f_Md_sings_1 qc_0 ?_
  refine gw_put k_Md_sings f_Md_sings_2 l_fldT_11_288 hc155 rfl rfl rfl rfl rfl ?_
  refine gw_aload_n k_Md_sings f_Md_sings_5 rfl ?_
  refine gw_getR k_Md_sings f_Md_sings_6 l_fldT_11_164 hc155 rfl ?_
  refine gw_iload_n k_Md_sings f_Md_sings_9 rfl ?_
  have hp := h.1
  have h := h.2
  refine gw_iald k_Md_sings f_Md_sings_10 hc173 hp ?_
  rw [show (wr w 155 42 0) 173 a0.toNatClampNeg = w 173 a0.toNatClampNeg from wr_nc (by decide)]
  refine gw_aload_n k_Md_sings f_Md_sings_11 rfl ?_
  refine gw_getI k_Md_sings f_Md_sings_12 l_fldT_11_213 hc155 rfl ?_
  rw [show (wr w 155 42 0) 155 37 = w 155 37 from wr_nk (by decide)]
  refine gw_icmp_lt (t := 63) k_Md_sings f_Md_sings_15 rfl (fun c1 => ?_) (fun c1 => ?_)
  · have h := h.1 c1
    refine gw_aload_n k_Md_sings f_Md_sings_63 rfl ?_
    refine gw_getI k_Md_sings f_Md_sings_64 l_fldT_11_210 hc155 rfl ?_
    rw [show (wr w 155 42 0) 155 36 = w 155 36 from wr_nk (by decide)]
    refine gw_aload_n k_Md_sings f_Md_sings_67 rfl ?_
    refine gw_getI k_Md_sings f_Md_sings_68 l_fldT_11_122 hc155 rfl ?_
    rw [show (wr w 155 42 0) 155 29 = w 155 29 from wr_nk (by decide)]
    refine gw_iload_n k_Md_sings f_Md_sings_71 rfl ?_
    refine gw_iadd k_Md_sings f_Md_sings_72 ?_
    refine gw_bipush k_Md_sings f_Md_sings_73 qb_7 ?_
    refine gw_irem k_Md_sings f_Md_sings_75 (by decide) ?_
    refine gw_imul k_Md_sings f_Md_sings_76 ?_
    refine gw_iload_n k_Md_sings f_Md_sings_77 rfl ?_
    refine gw_iadd k_Md_sings f_Md_sings_78 ?_
    refine gw_istore_n [some (.inr (.inl (some 155))), some (.inl a0), some (.inl a1), some (.inl (((w 155 36) * (((w 155 29) + a0) - ((w 155 29) + a0) / 7 * 7)) + a1)), none, none] k_Md_sings f_Md_sings_79 (Nat.le_of_ble_eq_true rfl) rfl ?_
    refine gw_aload_n k_Md_sings f_Md_sings_80 rfl ?_
    refine gw_getR k_Md_sings f_Md_sings_81 l_fldT_11_219 hc155 rfl ?_
    refine gw_iload_n k_Md_sings f_Md_sings_84 rfl ?_
    have hp := h.1
    have h := h.2
    refine gw_iald k_Md_sings f_Md_sings_85 hc186 hp ?_
    rw [show (wr w 155 42 0) 186 ((((w 155 36) * (((w 155 29) + a0) - ((w 155 29) + a0) / 7 * 7)) + a1).toNatClampNeg) = w 186 ((((w 155 36) * (((w 155 29) + a0) - ((w 155 29) + a0) / 7 * 7)) + a1).toNatClampNeg) from wr_nc (by decide)]
    refine gw_istore [some (.inr (.inl (some 155))), some (.inl a0), some (.inl a1), some (.inl (((w 155 36) * (((w 155 29) + a0) - ((w 155 29) + a0) / 7 * 7)) + a1)), some (.inl (w 186 ((((w 155 36) * (((w 155 29) + a0) - ((w 155 29) + a0) / 7 * 7)) + a1).toNatClampNeg))), none] k_Md_sings f_Md_sings_86 (Nat.le_of_ble_eq_true rfl) rfl ?_
    refine gw_aload_n k_Md_sings f_Md_sings_88 rfl ?_
    refine gw_getR k_Md_sings f_Md_sings_89 l_fldT_11_216 hc155 rfl ?_
    refine gw_iload_n k_Md_sings f_Md_sings_92 rfl ?_
    have hp := h.1
    have h := h.2
    refine gw_iald k_Md_sings f_Md_sings_93 hc185 hp ?_
    rw [show (wr w 155 42 0) 185 ((((w 155 36) * (((w 155 29) + a0) - ((w 155 29) + a0) / 7 * 7)) + a1).toNatClampNeg) = w 185 ((((w 155 36) * (((w 155 29) + a0) - ((w 155 29) + a0) / 7 * 7)) + a1).toNatClampNeg) from wr_nc (by decide)]
    refine gw_istore [some (.inr (.inl (some 155))), some (.inl a0), some (.inl a1), some (.inl (((w 155 36) * (((w 155 29) + a0) - ((w 155 29) + a0) / 7 * 7)) + a1)), some (.inl (w 186 ((((w 155 36) * (((w 155 29) + a0) - ((w 155 29) + a0) / 7 * 7)) + a1).toNatClampNeg))), some (.inl (w 185 ((((w 155 36) * (((w 155 29) + a0) - ((w 155 29) + a0) / 7 * 7)) + a1).toNatClampNeg)))] k_Md_sings f_Md_sings_94 (Nat.le_of_ble_eq_true rfl) rfl ?_
    exact h
  · have h := h.2 c1
    refine gw_aload_n k_Md_sings f_Md_sings_18 rfl ?_
    refine gw_getR k_Md_sings f_Md_sings_19 l_fldT_11_204 hc155 rfl ?_
    refine gw_iload_n k_Md_sings f_Md_sings_22 rfl ?_
    have hp := h.1
    have h := h.2
    refine gw_iald k_Md_sings f_Md_sings_23 hc183 hp ?_
    rw [show (wr w 155 42 0) 183 a1.toNatClampNeg = w 183 a1.toNatClampNeg from wr_nc (by decide)]
    refine gw_if_le (t := 63) k_Md_sings f_Md_sings_24 rfl (fun c2 => ?_) (fun c2 => ?_)
    · have h := h.1 c2
      refine gw_aload_n k_Md_sings f_Md_sings_63 rfl ?_
      refine gw_getI k_Md_sings f_Md_sings_64 l_fldT_11_210 hc155 rfl ?_
      rw [show (wr w 155 42 0) 155 36 = w 155 36 from wr_nk (by decide)]
      refine gw_aload_n k_Md_sings f_Md_sings_67 rfl ?_
      refine gw_getI k_Md_sings f_Md_sings_68 l_fldT_11_122 hc155 rfl ?_
      rw [show (wr w 155 42 0) 155 29 = w 155 29 from wr_nk (by decide)]
      refine gw_iload_n k_Md_sings f_Md_sings_71 rfl ?_
      refine gw_iadd k_Md_sings f_Md_sings_72 ?_
      refine gw_bipush k_Md_sings f_Md_sings_73 qb_7 ?_
      refine gw_irem k_Md_sings f_Md_sings_75 (by decide) ?_
      refine gw_imul k_Md_sings f_Md_sings_76 ?_
      refine gw_iload_n k_Md_sings f_Md_sings_77 rfl ?_
      refine gw_iadd k_Md_sings f_Md_sings_78 ?_
      refine gw_istore_n [some (.inr (.inl (some 155))), some (.inl a0), some (.inl a1), some (.inl (((w 155 36) * (((w 155 29) + a0) - ((w 155 29) + a0) / 7 * 7)) + a1)), none, none] k_Md_sings f_Md_sings_79 (Nat.le_of_ble_eq_true rfl) rfl ?_
      refine gw_aload_n k_Md_sings f_Md_sings_80 rfl ?_
      refine gw_getR k_Md_sings f_Md_sings_81 l_fldT_11_219 hc155 rfl ?_
      refine gw_iload_n k_Md_sings f_Md_sings_84 rfl ?_
      have hp := h.1
      have h := h.2
      refine gw_iald k_Md_sings f_Md_sings_85 hc186 hp ?_
      rw [show (wr w 155 42 0) 186 ((((w 155 36) * (((w 155 29) + a0) - ((w 155 29) + a0) / 7 * 7)) + a1).toNatClampNeg) = w 186 ((((w 155 36) * (((w 155 29) + a0) - ((w 155 29) + a0) / 7 * 7)) + a1).toNatClampNeg) from wr_nc (by decide)]
      refine gw_istore [some (.inr (.inl (some 155))), some (.inl a0), some (.inl a1), some (.inl (((w 155 36) * (((w 155 29) + a0) - ((w 155 29) + a0) / 7 * 7)) + a1)), some (.inl (w 186 ((((w 155 36) * (((w 155 29) + a0) - ((w 155 29) + a0) / 7 * 7)) + a1).toNatClampNeg))), none] k_Md_sings f_Md_sings_86 (Nat.le_of_ble_eq_true rfl) rfl ?_
      refine gw_aload_n k_Md_sings f_Md_sings_88 rfl ?_
      refine gw_getR k_Md_sings f_Md_sings_89 l_fldT_11_216 hc155 rfl ?_
      refine gw_iload_n k_Md_sings f_Md_sings_92 rfl ?_
      have hp := h.1
      have h := h.2
      refine gw_iald k_Md_sings f_Md_sings_93 hc185 hp ?_
      rw [show (wr w 155 42 0) 185 ((((w 155 36) * (((w 155 29) + a0) - ((w 155 29) + a0) / 7 * 7)) + a1).toNatClampNeg) = w 185 ((((w 155 36) * (((w 155 29) + a0) - ((w 155 29) + a0) / 7 * 7)) + a1).toNatClampNeg) from wr_nc (by decide)]
      refine gw_istore [some (.inr (.inl (some 155))), some (.inl a0), some (.inl a1), some (.inl (((w 155 36) * (((w 155 29) + a0) - ((w 155 29) + a0) / 7 * 7)) + a1)), some (.inl (w 186 ((((w 155 36) * (((w 155 29) + a0) - ((w 155 29) + a0) / 7 * 7)) + a1).toNatClampNeg))), some (.inl (w 185 ((((w 155 36) * (((w 155 29) + a0) - ((w 155 29) + a0) / 7 * 7)) + a1).toNatClampNeg)))] k_Md_sings f_Md_sings_94 (Nat.le_of_ble_eq_true rfl) rfl ?_
      exact h
    · have h := h.2 c2
      refine gw_iconst k_Md_sings f_Md_sings_27 qc_0 ?_
      refine gw_istore_n [some (.inr (.inl (some 155))), some (.inl a0), some (.inl a1), some (.inl 0), none, none] k_Md_sings f_Md_sings_28 (Nat.le_of_ble_eq_true rfl) rfl ?_
      exact h
theorem sg_Md_sings_29 {zs : List Int32} {x2 x3 : Int32} {o1 o4 o5 : Option AV} {w : Wd} {Q : Option AV → Wd → Prop} (h : (vp_in x2 8 ∧ (((w 183 x2.toNatClampNeg) ≤ x3 → Gw zs 1 m_Md_sings 134 [some (.inr (.inl (some 155))), o1, some (.inl x2), some (.inl 0), o4, o5] [] w Q) ∧ (¬ ((w 183 x2.toNatClampNeg) ≤ x3) → (vp_in ((6 * x2) + x3) 48 ∧ Ew zs 0 m_Md_adds [.inr (.inl (some 155)), .inl (w 184 (((6 * x2) + x3).toNatClampNeg))] w (fun v w2 => v = none ∧ Gw zs 1 m_Md_sings 29 [some (.inr (.inl (some 155))), o1, some (.inl x2), some (.inl (x3 + 1)), o4, o5] [] w2 Q)))))) : Gw zs 1 m_Md_sings 29 [some (.inr (.inl (some 155))), o1, some (.inl x2), some (.inl x3), o4, o5] [] w Q := by
  refine gw_iload_n k_Md_sings f_Md_sings_29 rfl ?_
  refine gw_aload_n k_Md_sings f_Md_sings_30 rfl ?_
  refine gw_getR k_Md_sings f_Md_sings_31 l_fldT_11_204 hc155 rfl ?_
  refine gw_iload_n k_Md_sings f_Md_sings_34 rfl ?_
  have hp := h.1
  have h := h.2
  refine gw_iald k_Md_sings f_Md_sings_35 hc183 hp ?_
  refine gw_icmp_ge (t := 60) k_Md_sings f_Md_sings_36 rfl (fun c1 => ?_) (fun c1 => ?_)
  · have h := h.1 c1
    refine gw_goto (t := 132) k_Md_sings f_Md_sings_60 rfl ?_
    refine gw_iconst k_Md_sings f_Md_sings_132 qc_0 ?_
    refine gw_istore_n [some (.inr (.inl (some 155))), o1, some (.inl x2), some (.inl 0), o4, o5] k_Md_sings f_Md_sings_133 (Nat.le_of_ble_eq_true rfl) rfl ?_
    exact h
  · have h := h.2 c1
    refine gw_aload_n k_Md_sings f_Md_sings_39 rfl ?_
    refine gw_aload_n k_Md_sings f_Md_sings_40 rfl ?_
    refine gw_getR k_Md_sings f_Md_sings_41 l_fldT_11_207 hc155 rfl ?_
    refine gw_bipush k_Md_sings f_Md_sings_44 qb_6 ?_
    refine gw_iload_n k_Md_sings f_Md_sings_46 rfl ?_
    refine gw_imul k_Md_sings f_Md_sings_47 ?_
    refine gw_iload_n k_Md_sings f_Md_sings_48 rfl ?_
    refine gw_iadd k_Md_sings f_Md_sings_49 ?_
    have hp := h.1
    have h := h.2
    refine gw_iald k_Md_sings f_Md_sings_50 hc184 hp ?_
    refine gw_virtual [.inl (w 184 (((6 * x2) + x3).toNatClampNeg))] k_Md_sings f_Md_sings_51 l_invT_11_291 k_Md_adds hc155 rfl rfl rfl (by exact Nat.le_of_ble_eq_true rfl) (dc := 0) (by decide) ?_ rfl
    refine h.mono (fun v w2 hh => ?_)
    obtain ⟨rfl, h⟩ := hh
    show Gw zs 1 m_Md_sings 54 [some (.inr (.inl (some 155))), o1, some (.inl x2), some (.inl x3), o4, o5] [] w2 _
    refine gw_iinc [some (.inr (.inl (some 155))), o1, some (.inl x2), some (.inl (x3 + 1)), o4, o5] k_Md_sings f_Md_sings_54 rfl qc_1 (Nat.le_of_ble_eq_true rfl) rfl ?_
    refine gw_goto (t := 29) k_Md_sings f_Md_sings_57 rfl ?_
    exact h
theorem sg_Md_sings_96 {zs : List Int32} {x2 x4 x5 : Int32} {o1 o3 : Option AV} {w : Wd} {Q : Option AV → Wd → Prop} (h : ((x4 ≤ 0 → Gw zs 1 m_Md_sings 134 [some (.inr (.inl (some 155))), o1, some (.inl x2), some (.inl 0), some (.inl x4), some (.inl x5)] [] w Q) ∧ (¬ (x4 ≤ 0) → (vp_in (x5 - 1) 150 ∧ (((w 182 ((x5 - 1).toNatClampNeg)) = (-1) → Ew zs 0 m_Md_adds [.inr (.inl (some 155)), .inl x5] w (fun v w3 => v = none ∧ Gw zs 1 m_Md_sings 96 [some (.inr (.inl (some 155))), o1, some (.inl x2), o3, some (.inl (x4 + (-1))), some (.inl (x5 + 1))] [] w3 Q)) ∧ (¬ ((w 182 ((x5 - 1).toNatClampNeg)) = (-1)) → Gw zs 1 m_Md_sings 96 [some (.inr (.inl (some 155))), o1, some (.inl x2), o3, some (.inl x4), some (.inl (x5 + 1))] [] w Q)))))) : Gw zs 1 m_Md_sings 96 [some (.inr (.inl (some 155))), o1, some (.inl x2), o3, some (.inl x4), some (.inl x5)] [] w Q := by
  refine gw_iload k_Md_sings f_Md_sings_96 rfl ?_
  refine gw_if_le (t := 132) k_Md_sings f_Md_sings_98 rfl (fun c1 => ?_) (fun c1 => ?_)
  · have h := h.1 c1
    refine gw_iconst k_Md_sings f_Md_sings_132 qc_0 ?_
    refine gw_istore_n [some (.inr (.inl (some 155))), o1, some (.inl x2), some (.inl 0), some (.inl x4), some (.inl x5)] k_Md_sings f_Md_sings_133 (Nat.le_of_ble_eq_true rfl) rfl ?_
    exact h
  · have h := h.2 c1
    refine gw_aload_n k_Md_sings f_Md_sings_101 rfl ?_
    refine gw_getR k_Md_sings f_Md_sings_102 l_fldT_11_201 hc155 rfl ?_
    refine gw_iload k_Md_sings f_Md_sings_105 rfl ?_
    refine gw_iconst k_Md_sings f_Md_sings_107 qc_1 ?_
    refine gw_isub k_Md_sings f_Md_sings_108 ?_
    have hp := h.1
    have h := h.2
    refine gw_iald k_Md_sings f_Md_sings_109 hc182 hp ?_
    refine gw_iconst k_Md_sings f_Md_sings_110 qc_m1 ?_
    refine gw_icmp_eq (t := 117) k_Md_sings f_Md_sings_111 rfl (fun c2 => ?_) (fun c2 => ?_)
    · have h := h.1 c2
      refine gw_aload_n k_Md_sings f_Md_sings_117 rfl ?_
      refine gw_iload k_Md_sings f_Md_sings_118 rfl ?_
      refine gw_virtual [.inl x5] k_Md_sings f_Md_sings_120 l_invT_11_291 k_Md_adds hc155 rfl rfl rfl (by exact Nat.le_of_ble_eq_true rfl) (dc := 0) (by decide) ?_ rfl
      refine h.mono (fun v w3 hh => ?_)
      obtain ⟨rfl, h⟩ := hh
      show Gw zs 1 m_Md_sings 123 [some (.inr (.inl (some 155))), o1, some (.inl x2), o3, some (.inl x4), some (.inl x5)] [] w3 _
      refine gw_iinc [some (.inr (.inl (some 155))), o1, some (.inl x2), o3, some (.inl (x4 + (-1))), some (.inl x5)] k_Md_sings f_Md_sings_123 rfl qc_m1 (Nat.le_of_ble_eq_true rfl) rfl ?_
      refine gw_iinc [some (.inr (.inl (some 155))), o1, some (.inl x2), o3, some (.inl (x4 + (-1))), some (.inl (x5 + 1))] k_Md_sings f_Md_sings_126 rfl qc_1 (Nat.le_of_ble_eq_true rfl) rfl ?_
      refine gw_goto (t := 96) k_Md_sings f_Md_sings_129 rfl ?_
      exact h
    · have h := h.2 c2
      refine gw_goto (t := 126) k_Md_sings f_Md_sings_114 rfl ?_
      refine gw_iinc [some (.inr (.inl (some 155))), o1, some (.inl x2), o3, some (.inl x4), some (.inl (x5 + 1))] k_Md_sings f_Md_sings_126 rfl qc_1 (Nat.le_of_ble_eq_true rfl) rfl ?_
      refine gw_goto (t := 96) k_Md_sings f_Md_sings_129 rfl ?_
      exact h
theorem sg_Md_sings_134 {zs : List Int32} {x2 x3 : Int32} {o1 o4 o5 : Option AV} {w : Wd} {Q : Option AV → Wd → Prop} (h : ((150 ≤ x3 → Q (none) w) ∧ (¬ (150 ≤ x3) → (vp_in x3 150 ∧ (((w 182 x3.toNatClampNeg) = x2 → Ew zs 0 m_Md_adds [.inr (.inl (some 155)), .inl (x3 + 1)] w (fun v w3 => v = none ∧ Gw zs 1 m_Md_sings 134 [some (.inr (.inl (some 155))), o1, some (.inl x2), some (.inl (x3 + 1)), o4, o5] [] w3 Q)) ∧ (¬ ((w 182 x3.toNatClampNeg) = x2) → Gw zs 1 m_Md_sings 134 [some (.inr (.inl (some 155))), o1, some (.inl x2), some (.inl (x3 + 1)), o4, o5] [] w Q)))))) : Gw zs 1 m_Md_sings 134 [some (.inr (.inl (some 155))), o1, some (.inl x2), some (.inl x3), o4, o5] [] w Q := by
  refine gw_iload_n k_Md_sings f_Md_sings_134 rfl ?_
  refine gw_sipush k_Md_sings f_Md_sings_135 qs_150 ?_
  refine gw_icmp_ge (t := 164) k_Md_sings f_Md_sings_138 rfl (fun c1 => ?_) (fun c1 => ?_)
  · have h := h.1 c1
    exact gw_vret k_Md_sings f_Md_sings_164 rfl h
  · have h := h.2 c1
    refine gw_aload_n k_Md_sings f_Md_sings_141 rfl ?_
    refine gw_getR k_Md_sings f_Md_sings_142 l_fldT_11_201 hc155 rfl ?_
    refine gw_iload_n k_Md_sings f_Md_sings_145 rfl ?_
    have hp := h.1
    have h := h.2
    refine gw_iald k_Md_sings f_Md_sings_146 hc182 hp ?_
    refine gw_iload_n k_Md_sings f_Md_sings_147 rfl ?_
    refine gw_icmp_ne (t := 158) k_Md_sings f_Md_sings_148 rfl (fun c2 => ?_) (fun c2 => ?_)
    · have h := h.2 c2
      refine gw_iinc [some (.inr (.inl (some 155))), o1, some (.inl x2), some (.inl (x3 + 1)), o4, o5] k_Md_sings f_Md_sings_158 rfl qc_1 (Nat.le_of_ble_eq_true rfl) rfl ?_
      refine gw_goto (t := 134) k_Md_sings f_Md_sings_161 rfl ?_
      exact h
    · have c2 := Decidable.not_not.mp c2
      have h := h.1 c2
      refine gw_aload_n k_Md_sings f_Md_sings_151 rfl ?_
      refine gw_iload_n k_Md_sings f_Md_sings_152 rfl ?_
      refine gw_iconst k_Md_sings f_Md_sings_153 qc_1 ?_
      refine gw_iadd k_Md_sings f_Md_sings_154 ?_
      refine gw_virtual [.inl (x3 + 1)] k_Md_sings f_Md_sings_155 l_invT_11_291 k_Md_adds hc155 rfl rfl rfl (by exact Nat.le_of_ble_eq_true rfl) (dc := 0) (by decide) ?_ rfl
      refine h.mono (fun v w3 hh => ?_)
      obtain ⟨rfl, h⟩ := hh
      show Gw zs 1 m_Md_sings 158 [some (.inr (.inl (some 155))), o1, some (.inl x2), some (.inl x3), o4, o5] [] w3 _
      refine gw_iinc [some (.inr (.inl (some 155))), o1, some (.inl x2), some (.inl (x3 + 1)), o4, o5] k_Md_sings f_Md_sings_158 rfl qc_1 (Nat.le_of_ble_eq_true rfl) rfl ?_
      refine gw_goto (t := 134) k_Md_sings f_Md_sings_161 rfl ?_
      exact h
theorem sg_Md_sung_0 {zs : List Int32} {a0 a1 a2 a3 : Int32} {w : Wd} {Q : Option AV → Wd → Prop} (h : (((f_Md_isDay a0 a1) = 0 → Q (some (.inl (-1))) w) ∧ (¬ ((f_Md_isDay a0 a1) = 0) → (((f_Md_in a2 0 ((w 155 36) - 1)) = 0 → Q (some (.inl (-1))) w) ∧ (¬ ((f_Md_in a2 0 ((w 155 36) - 1)) = 0) → Ew zs 5 m_Md_reckon [.inr (.inl (some 155)), .inl a0] w (fun v w3 => v = none ∧ Ew zs 1 m_Md_deal [.inr (.inl (some 155))] w3 (fun v w4 => v = none ∧ Ew zs 1 m_Md_sings [.inr (.inl (some 155)), .inl a1, .inl a2] w4 (fun v w5 => v = none ∧ (((f_Md_in a3 0 ((w5 155 42) - 1)) = 0 → Q (some (.inl (-1))) w5) ∧ (¬ ((f_Md_in a3 0 ((w5 155 42) - 1)) = 0) → (vp_in a3 310 ∧ Q (some (.inl (w5 188 a3.toNatClampNeg))) w5))))))))))) : Gw zs 6 m_Md_sung 0 [some (.inr (.inl (some 155))), some (.inl a0), some (.inl a1), some (.inl a2), some (.inl a3)] [] w Q := by
  refine gw_iload_n k_Md_sung f_Md_sung_0 rfl ?_
  refine gw_iload_n k_Md_sung f_Md_sung_1 rfl ?_
  refine gw_static [.inl a0, .inl a1] k_Md_sung f_Md_sung_2 l_invT_11_179 (by decide) k_Md_isDay rfl (by exact Nat.le_of_ble_eq_true rfl) (dc := 2) (by decide) ?_ rfl
  refine ev_Md_isDay ?_
  show Gw zs 6 m_Md_sung 5 [some (.inr (.inl (some 155))), some (.inl a0), some (.inl a1), some (.inl a2), some (.inl a3)] [.inl (f_Md_isDay a0 a1)] w _
  refine gw_if_eq (t := 22) k_Md_sung f_Md_sung_5 rfl (fun c1 => ?_) (fun c1 => ?_)
  · have h := h.1 c1
    refine gw_iconst k_Md_sung f_Md_sung_22 qc_m1 ?_
    exact gw_iret k_Md_sung f_Md_sung_23 rfl h
  · have h := h.2 c1
    refine gw_iload_n k_Md_sung f_Md_sung_8 rfl ?_
    refine gw_iconst k_Md_sung f_Md_sung_9 qc_0 ?_
    refine gw_aload_n k_Md_sung f_Md_sung_10 rfl ?_
    refine gw_getI k_Md_sung f_Md_sung_11 l_fldT_11_210 hc155 rfl ?_
    refine gw_iconst k_Md_sung f_Md_sung_14 qc_1 ?_
    refine gw_isub k_Md_sung f_Md_sung_15 ?_
    refine gw_static [.inl a2, .inl 0, .inl ((w 155 36) - 1)] k_Md_sung f_Md_sung_16 l_invT_11_1 (by decide) k_Md_in rfl (by exact Nat.le_of_ble_eq_true rfl) (dc := 0) (by decide) ?_ rfl
    refine ev_Md_in ?_
    show Gw zs 6 m_Md_sung 19 [some (.inr (.inl (some 155))), some (.inl a0), some (.inl a1), some (.inl a2), some (.inl a3)] [.inl (f_Md_in a2 0 ((w 155 36) - 1))] w _
    refine gw_if_ne (t := 24) k_Md_sung f_Md_sung_19 rfl (fun c2 => ?_) (fun c2 => ?_)
    · have h := h.2 c2
      refine gw_aload_n k_Md_sung f_Md_sung_24 rfl ?_
      refine gw_iload_n k_Md_sung f_Md_sung_25 rfl ?_
      refine gw_virtual [.inl a0] k_Md_sung f_Md_sung_26 l_invT_11_182 k_Md_reckon hc155 rfl rfl rfl (by exact Nat.le_of_ble_eq_true rfl) (dc := 5) (by decide) ?_ rfl
      refine h.mono (fun v w3 hh => ?_)
      obtain ⟨rfl, h⟩ := hh
      show Gw zs 6 m_Md_sung 29 [some (.inr (.inl (some 155))), some (.inl a0), some (.inl a1), some (.inl a2), some (.inl a3)] [] w3 _
      refine gw_aload_n k_Md_sung f_Md_sung_29 rfl ?_
      refine gw_virtual [] k_Md_sung f_Md_sung_30 l_invT_11_285 k_Md_deal hc155 rfl rfl rfl (by exact Nat.le_of_ble_eq_true rfl) (dc := 1) (by decide) ?_ rfl
      refine h.mono (fun v w4 hh => ?_)
      obtain ⟨rfl, h⟩ := hh
      show Gw zs 6 m_Md_sung 33 [some (.inr (.inl (some 155))), some (.inl a0), some (.inl a1), some (.inl a2), some (.inl a3)] [] w4 _
      refine gw_aload_n k_Md_sung f_Md_sung_33 rfl ?_
      refine gw_iload_n k_Md_sung f_Md_sung_34 rfl ?_
      refine gw_iload_n k_Md_sung f_Md_sung_35 rfl ?_
      refine gw_virtual [.inl a1, .inl a2] k_Md_sung f_Md_sung_36 l_invT_11_294 k_Md_sings hc155 rfl rfl rfl (by exact Nat.le_of_ble_eq_true rfl) (dc := 1) (by decide) ?_ rfl
      refine h.mono (fun v w5 hh => ?_)
      obtain ⟨rfl, h⟩ := hh
      show Gw zs 6 m_Md_sung 39 [some (.inr (.inl (some 155))), some (.inl a0), some (.inl a1), some (.inl a2), some (.inl a3)] [] w5 _
      refine gw_iload k_Md_sung f_Md_sung_39 rfl ?_
      refine gw_iconst k_Md_sung f_Md_sung_41 qc_0 ?_
      refine gw_aload_n k_Md_sung f_Md_sung_42 rfl ?_
      refine gw_getI k_Md_sung f_Md_sung_43 l_fldT_11_288 hc155 rfl ?_
      refine gw_iconst k_Md_sung f_Md_sung_46 qc_1 ?_
      refine gw_isub k_Md_sung f_Md_sung_47 ?_
      refine gw_static [.inl a3, .inl 0, .inl ((w5 155 42) - 1)] k_Md_sung f_Md_sung_48 l_invT_11_1 (by decide) k_Md_in rfl (by exact Nat.le_of_ble_eq_true rfl) (dc := 0) (by decide) ?_ rfl
      refine ev_Md_in ?_
      show Gw zs 6 m_Md_sung 51 [some (.inr (.inl (some 155))), some (.inl a0), some (.inl a1), some (.inl a2), some (.inl a3)] [.inl (f_Md_in a3 0 ((w5 155 42) - 1))] w5 _
      refine gw_if_eq (t := 64) k_Md_sung f_Md_sung_51 rfl (fun c6 => ?_) (fun c6 => ?_)
      · have h := h.1 c6
        refine gw_iconst k_Md_sung f_Md_sung_64 qc_m1 ?_
        exact gw_iret k_Md_sung f_Md_sung_65 rfl h
      · have h := h.2 c6
        refine gw_aload_n k_Md_sung f_Md_sung_54 rfl ?_
        refine gw_getR k_Md_sung f_Md_sung_55 l_fldT_11_225 hc155 rfl ?_
        refine gw_iload k_Md_sung f_Md_sung_58 rfl ?_
        have hp := h.1
        have h := h.2
        refine gw_iald k_Md_sung f_Md_sung_60 hc188 hp ?_
        refine gw_goto (t := 65) k_Md_sung f_Md_sung_61 rfl ?_
        exact gw_iret k_Md_sung f_Md_sung_65 rfl h
    · have c2 := Decidable.not_not.mp c2
      have h := h.1 c2
      refine gw_iconst k_Md_sung f_Md_sung_22 qc_m1 ?_
      exact gw_iret k_Md_sung f_Md_sung_23 rfl h
theorem sg_Md_times_0 {zs : List Int32} {a0 a1 a2 a3 : Int32} {w : Wd} {Q : Option AV → Wd → Prop} (h : (((f_Md_isDay a0 a1) = 0 → Q (some (.inl (-1))) w) ∧ (¬ ((f_Md_isDay a0 a1) = 0) → (((f_Md_isDay a0 a2) = 0 → Q (some (.inl (-1))) w) ∧ (¬ ((f_Md_isDay a0 a2) = 0) → ((a2 < a1 → Q (some (.inl (-1))) w) ∧ (¬ (a2 < a1) → (((f_Md_in a3 1 150) = 0 → Q (some (.inl (-1))) w) ∧ (¬ ((f_Md_in a3 1 150) = 0) → Ew zs 5 m_Md_reckon [.inr (.inl (some 155)), .inl a0] w (fun v w5 => v = none ∧ Ew zs 1 m_Md_deal [.inr (.inl (some 155))] w5 (fun v w6 => v = none ∧ Gw zs 6 m_Md_times 50 [some (.inr (.inl (some 155))), some (.inl a0), some (.inl a1), some (.inl a2), some (.inl a3), some (.inl 0), some (.inl a1), none, none] [] w6 Q))))))))))) : Gw zs 6 m_Md_times 0 [some (.inr (.inl (some 155))), some (.inl a0), some (.inl a1), some (.inl a2), some (.inl a3), none, none, none, none] [] w Q := by
  refine gw_iload_n k_Md_times f_Md_times_0 rfl ?_
  refine gw_iload_n k_Md_times f_Md_times_1 rfl ?_
  refine gw_static [.inl a0, .inl a1] k_Md_times f_Md_times_2 l_invT_11_179 (by decide) k_Md_isDay rfl (by exact Nat.le_of_ble_eq_true rfl) (dc := 2) (by decide) ?_ rfl
  refine ev_Md_isDay ?_
  show Gw zs 6 m_Md_times 5 [some (.inr (.inl (some 155))), some (.inl a0), some (.inl a1), some (.inl a2), some (.inl a3), none, none, none, none] [.inl (f_Md_isDay a0 a1)] w _
  refine gw_if_eq (t := 33) k_Md_times f_Md_times_5 rfl (fun c1 => ?_) (fun c1 => ?_)
  · have h := h.1 c1
    refine gw_iconst k_Md_times f_Md_times_33 qc_m1 ?_
    exact gw_iret k_Md_times f_Md_times_34 rfl h
  · have h := h.2 c1
    refine gw_iload_n k_Md_times f_Md_times_8 rfl ?_
    refine gw_iload_n k_Md_times f_Md_times_9 rfl ?_
    refine gw_static [.inl a0, .inl a2] k_Md_times f_Md_times_10 l_invT_11_179 (by decide) k_Md_isDay rfl (by exact Nat.le_of_ble_eq_true rfl) (dc := 2) (by decide) ?_ rfl
    refine ev_Md_isDay ?_
    show Gw zs 6 m_Md_times 13 [some (.inr (.inl (some 155))), some (.inl a0), some (.inl a1), some (.inl a2), some (.inl a3), none, none, none, none] [.inl (f_Md_isDay a0 a2)] w _
    refine gw_if_eq (t := 33) k_Md_times f_Md_times_13 rfl (fun c2 => ?_) (fun c2 => ?_)
    · have h := h.1 c2
      refine gw_iconst k_Md_times f_Md_times_33 qc_m1 ?_
      exact gw_iret k_Md_times f_Md_times_34 rfl h
    · have h := h.2 c2
      refine gw_iload_n k_Md_times f_Md_times_16 rfl ?_
      refine gw_iload_n k_Md_times f_Md_times_17 rfl ?_
      refine gw_icmp_gt (t := 33) k_Md_times f_Md_times_18 rfl (fun c3 => ?_) (fun c3 => ?_)
      · have h := h.1 c3
        refine gw_iconst k_Md_times f_Md_times_33 qc_m1 ?_
        exact gw_iret k_Md_times f_Md_times_34 rfl h
      · have h := h.2 c3
        refine gw_iload k_Md_times f_Md_times_21 rfl ?_
        refine gw_iconst k_Md_times f_Md_times_23 qc_1 ?_
        refine gw_sipush k_Md_times f_Md_times_24 qs_150 ?_
        refine gw_static [.inl a3, .inl 1, .inl 150] k_Md_times f_Md_times_27 l_invT_11_1 (by decide) k_Md_in rfl (by exact Nat.le_of_ble_eq_true rfl) (dc := 0) (by decide) ?_ rfl
        refine ev_Md_in ?_
        show Gw zs 6 m_Md_times 30 [some (.inr (.inl (some 155))), some (.inl a0), some (.inl a1), some (.inl a2), some (.inl a3), none, none, none, none] [.inl (f_Md_in a3 1 150)] w _
        refine gw_if_ne (t := 35) k_Md_times f_Md_times_30 rfl (fun c4 => ?_) (fun c4 => ?_)
        · have h := h.2 c4
          refine gw_aload_n k_Md_times f_Md_times_35 rfl ?_
          refine gw_iload_n k_Md_times f_Md_times_36 rfl ?_
          refine gw_virtual [.inl a0] k_Md_times f_Md_times_37 l_invT_11_182 k_Md_reckon hc155 rfl rfl rfl (by exact Nat.le_of_ble_eq_true rfl) (dc := 5) (by decide) ?_ rfl
          refine h.mono (fun v w5 hh => ?_)
          obtain ⟨rfl, h⟩ := hh
          show Gw zs 6 m_Md_times 40 [some (.inr (.inl (some 155))), some (.inl a0), some (.inl a1), some (.inl a2), some (.inl a3), none, none, none, none] [] w5 _
          refine gw_aload_n k_Md_times f_Md_times_40 rfl ?_
          refine gw_virtual [] k_Md_times f_Md_times_41 l_invT_11_285 k_Md_deal hc155 rfl rfl rfl (by exact Nat.le_of_ble_eq_true rfl) (dc := 1) (by decide) ?_ rfl
          refine h.mono (fun v w6 hh => ?_)
          obtain ⟨rfl, h⟩ := hh
          show Gw zs 6 m_Md_times 44 [some (.inr (.inl (some 155))), some (.inl a0), some (.inl a1), some (.inl a2), some (.inl a3), none, none, none, none] [] w6 _
          refine gw_iconst k_Md_times f_Md_times_44 qc_0 ?_
          refine gw_istore [some (.inr (.inl (some 155))), some (.inl a0), some (.inl a1), some (.inl a2), some (.inl a3), some (.inl 0), none, none, none] k_Md_times f_Md_times_45 (Nat.le_of_ble_eq_true rfl) rfl ?_
          refine gw_iload_n k_Md_times f_Md_times_47 rfl ?_
          refine gw_istore [some (.inr (.inl (some 155))), some (.inl a0), some (.inl a1), some (.inl a2), some (.inl a3), some (.inl 0), some (.inl a1), none, none] k_Md_times f_Md_times_48 (Nat.le_of_ble_eq_true rfl) rfl ?_
          exact h
        · have c4 := Decidable.not_not.mp c4
          have h := h.1 c4
          refine gw_iconst k_Md_times f_Md_times_33 qc_m1 ?_
          exact gw_iret k_Md_times f_Md_times_34 rfl h
theorem sg_Md_times_50 {zs : List Int32} {x3 x4 x5 x6 : Int32} {o1 o2 o7 o8 : Option AV} {w : Wd} {Q : Option AV → Wd → Prop} (h : ((x3 < x6 → Q (some (.inl x5)) w) ∧ (¬ (x3 < x6) → Gw zs 6 m_Md_times 59 [some (.inr (.inl (some 155))), o1, o2, some (.inl x3), some (.inl x4), some (.inl x5), some (.inl x6), some (.inl 0), o8] [] w Q))) : Gw zs 6 m_Md_times 50 [some (.inr (.inl (some 155))), o1, o2, some (.inl x3), some (.inl x4), some (.inl x5), some (.inl x6), o7, o8] [] w Q := by
  refine gw_iload k_Md_times f_Md_times_50 rfl ?_
  refine gw_iload_n k_Md_times f_Md_times_52 rfl ?_
  refine gw_icmp_gt (t := 128) k_Md_times f_Md_times_53 rfl (fun c1 => ?_) (fun c1 => ?_)
  · have h := h.1 c1
    refine gw_iload k_Md_times f_Md_times_128 rfl ?_
    exact gw_iret k_Md_times f_Md_times_130 rfl h
  · have h := h.2 c1
    refine gw_iconst k_Md_times f_Md_times_56 qc_0 ?_
    refine gw_istore [some (.inr (.inl (some 155))), o1, o2, some (.inl x3), some (.inl x4), some (.inl x5), some (.inl x6), some (.inl 0), o8] k_Md_times f_Md_times_57 (Nat.le_of_ble_eq_true rfl) rfl ?_
    exact h
theorem sg_Md_times_59 {zs : List Int32} {x3 x4 x5 x6 x7 : Int32} {o1 o2 o8 : Option AV} {w : Wd} {Q : Option AV → Wd → Prop} (h : (((w 155 36) ≤ x7 → Gw zs 6 m_Md_times 50 [some (.inr (.inl (some 155))), o1, o2, some (.inl x3), some (.inl x4), some (.inl x5), some (.inl (x6 + 1)), some (.inl x7), o8] [] w Q) ∧ (¬ ((w 155 36) ≤ x7) → Ew zs 1 m_Md_sings [.inr (.inl (some 155)), .inl x6, .inl x7] w (fun v w2 => v = none ∧ Gw zs 6 m_Md_times 79 [some (.inr (.inl (some 155))), o1, o2, some (.inl x3), some (.inl x4), some (.inl x5), some (.inl x6), some (.inl x7), some (.inl 0)] [] w2 Q)))) : Gw zs 6 m_Md_times 59 [some (.inr (.inl (some 155))), o1, o2, some (.inl x3), some (.inl x4), some (.inl x5), some (.inl x6), some (.inl x7), o8] [] w Q := by
  refine gw_iload k_Md_times f_Md_times_59 rfl ?_
  refine gw_aload_n k_Md_times f_Md_times_61 rfl ?_
  refine gw_getI k_Md_times f_Md_times_62 l_fldT_11_210 hc155 rfl ?_
  refine gw_icmp_ge (t := 122) k_Md_times f_Md_times_65 rfl (fun c1 => ?_) (fun c1 => ?_)
  · have h := h.1 c1
    refine gw_iinc [some (.inr (.inl (some 155))), o1, o2, some (.inl x3), some (.inl x4), some (.inl x5), some (.inl (x6 + 1)), some (.inl x7), o8] k_Md_times f_Md_times_122 rfl qc_1 (Nat.le_of_ble_eq_true rfl) rfl ?_
    refine gw_goto (t := 50) k_Md_times f_Md_times_125 rfl ?_
    exact h
  · have h := h.2 c1
    refine gw_aload_n k_Md_times f_Md_times_68 rfl ?_
    refine gw_iload k_Md_times f_Md_times_69 rfl ?_
    refine gw_iload k_Md_times f_Md_times_71 rfl ?_
    refine gw_virtual [.inl x6, .inl x7] k_Md_times f_Md_times_73 l_invT_11_294 k_Md_sings hc155 rfl rfl rfl (by exact Nat.le_of_ble_eq_true rfl) (dc := 1) (by decide) ?_ rfl
    refine h.mono (fun v w2 hh => ?_)
    obtain ⟨rfl, h⟩ := hh
    show Gw zs 6 m_Md_times 76 [some (.inr (.inl (some 155))), o1, o2, some (.inl x3), some (.inl x4), some (.inl x5), some (.inl x6), some (.inl x7), o8] [] w2 _
    refine gw_iconst k_Md_times f_Md_times_76 qc_0 ?_
    refine gw_istore [some (.inr (.inl (some 155))), o1, o2, some (.inl x3), some (.inl x4), some (.inl x5), some (.inl x6), some (.inl x7), some (.inl 0)] k_Md_times f_Md_times_77 (Nat.le_of_ble_eq_true rfl) rfl ?_
    exact h
theorem sg_Md_times_79 {zs : List Int32} {x3 x4 x5 x6 x7 x8 : Int32} {o1 o2 : Option AV} {w : Wd} {Q : Option AV → Wd → Prop} (h : (((w 155 42) ≤ x8 → Gw zs 6 m_Md_times 59 [some (.inr (.inl (some 155))), o1, o2, some (.inl x3), some (.inl x4), some (.inl x5), some (.inl x6), some (.inl (x7 + 1)), some (.inl x8)] [] w Q) ∧ (¬ ((w 155 42) ≤ x8) → (vp_in x8 310 ∧ (((w 188 x8.toNatClampNeg) = x4 → Gw zs 6 m_Md_times 79 [some (.inr (.inl (some 155))), o1, o2, some (.inl x3), some (.inl x4), some (.inl (x5 + 1)), some (.inl x6), some (.inl x7), some (.inl (x8 + 1))] [] w Q) ∧ (¬ ((w 188 x8.toNatClampNeg) = x4) → Gw zs 6 m_Md_times 79 [some (.inr (.inl (some 155))), o1, o2, some (.inl x3), some (.inl x4), some (.inl (x5 + 0)), some (.inl x6), some (.inl x7), some (.inl (x8 + 1))] [] w Q)))))) : Gw zs 6 m_Md_times 79 [some (.inr (.inl (some 155))), o1, o2, some (.inl x3), some (.inl x4), some (.inl x5), some (.inl x6), some (.inl x7), some (.inl x8)] [] w Q := by
  refine gw_iload k_Md_times f_Md_times_79 rfl ?_
  refine gw_aload_n k_Md_times f_Md_times_81 rfl ?_
  refine gw_getI k_Md_times f_Md_times_82 l_fldT_11_288 hc155 rfl ?_
  refine gw_icmp_ge (t := 116) k_Md_times f_Md_times_85 rfl (fun c1 => ?_) (fun c1 => ?_)
  · have h := h.1 c1
    refine gw_iinc [some (.inr (.inl (some 155))), o1, o2, some (.inl x3), some (.inl x4), some (.inl x5), some (.inl x6), some (.inl (x7 + 1)), some (.inl x8)] k_Md_times f_Md_times_116 rfl qc_1 (Nat.le_of_ble_eq_true rfl) rfl ?_
    refine gw_goto (t := 59) k_Md_times f_Md_times_119 rfl ?_
    exact h
  · have h := h.2 c1
    refine gw_iload k_Md_times f_Md_times_88 rfl ?_
    refine gw_aload_n k_Md_times f_Md_times_90 rfl ?_
    refine gw_getR k_Md_times f_Md_times_91 l_fldT_11_225 hc155 rfl ?_
    refine gw_iload k_Md_times f_Md_times_94 rfl ?_
    have hp := h.1
    have h := h.2
    refine gw_iald k_Md_times f_Md_times_96 hc188 hp ?_
    refine gw_iload k_Md_times f_Md_times_97 rfl ?_
    refine gw_icmp_ne (t := 106) k_Md_times f_Md_times_99 rfl (fun c2 => ?_) (fun c2 => ?_)
    · have h := h.2 c2
      refine gw_iconst k_Md_times f_Md_times_106 qc_0 ?_
      refine gw_iadd k_Md_times f_Md_times_107 ?_
      refine gw_istore [some (.inr (.inl (some 155))), o1, o2, some (.inl x3), some (.inl x4), some (.inl (x5 + 0)), some (.inl x6), some (.inl x7), some (.inl x8)] k_Md_times f_Md_times_108 (Nat.le_of_ble_eq_true rfl) rfl ?_
      refine gw_iinc [some (.inr (.inl (some 155))), o1, o2, some (.inl x3), some (.inl x4), some (.inl (x5 + 0)), some (.inl x6), some (.inl x7), some (.inl (x8 + 1))] k_Md_times f_Md_times_110 rfl qc_1 (Nat.le_of_ble_eq_true rfl) rfl ?_
      refine gw_goto (t := 79) k_Md_times f_Md_times_113 rfl ?_
      exact h
    · have c2 := Decidable.not_not.mp c2
      have h := h.1 c2
      refine gw_iconst k_Md_times f_Md_times_102 qc_1 ?_
      refine gw_goto (t := 107) k_Md_times f_Md_times_103 rfl ?_
      refine gw_iadd k_Md_times f_Md_times_107 ?_
      refine gw_istore [some (.inr (.inl (some 155))), o1, o2, some (.inl x3), some (.inl x4), some (.inl (x5 + 1)), some (.inl x6), some (.inl x7), some (.inl x8)] k_Md_times f_Md_times_108 (Nat.le_of_ble_eq_true rfl) rfl ?_
      refine gw_iinc [some (.inr (.inl (some 155))), o1, o2, some (.inl x3), some (.inl x4), some (.inl (x5 + 1)), some (.inl x6), some (.inl x7), some (.inl (x8 + 1))] k_Md_times f_Md_times_110 rfl qc_1 (Nat.le_of_ble_eq_true rfl) rfl ?_
      refine gw_goto (t := 79) k_Md_times f_Md_times_113 rfl ?_
      exact h
theorem sg_Md_tenor_0 {zs : List Int32} {a0 a1 : Int32} {w : Wd} {Q : Option AV → Wd → Prop} (h : (((f_Md_in a0 0 8) = 0 → Q (some (.inl (-1))) w) ∧ (¬ ((f_Md_in a0 0 8) = 0) → (((f_Md_isNote a1) = 0 → Q (some (.inl (-1))) w) ∧ (¬ ((f_Md_isNote a1) = 0) → (vp_in a0 9 ∧ Q (some (.inl 0)) (wr w 189 a0.toNatClampNeg a1))))))) : Gw zs 2 m_Md_tenor 0 [some (.inr (.inl (some 155))), some (.inl a0), some (.inl a1)] [] w Q := by
  refine gw_iload_n k_Md_tenor f_Md_tenor_0 rfl ?_
  refine gw_iconst k_Md_tenor f_Md_tenor_1 qc_0 ?_
  refine gw_bipush k_Md_tenor f_Md_tenor_2 qb_8 ?_
  refine gw_static [.inl a0, .inl 0, .inl 8] k_Md_tenor f_Md_tenor_4 l_invT_11_1 (by decide) k_Md_in rfl (by exact Nat.le_of_ble_eq_true rfl) (dc := 0) (by decide) ?_ rfl
  refine ev_Md_in ?_
  show Gw zs 2 m_Md_tenor 7 [some (.inr (.inl (some 155))), some (.inl a0), some (.inl a1)] [.inl (f_Md_in a0 0 8)] w _
  refine gw_if_eq (t := 17) k_Md_tenor f_Md_tenor_7 rfl (fun c1 => ?_) (fun c1 => ?_)
  · have h := h.1 c1
    refine gw_iconst k_Md_tenor f_Md_tenor_17 qc_m1 ?_
    exact gw_iret k_Md_tenor f_Md_tenor_18 rfl h
  · have h := h.2 c1
    refine gw_iload_n k_Md_tenor f_Md_tenor_10 rfl ?_
    refine gw_static [.inl a1] k_Md_tenor f_Md_tenor_11 l_invT_11_297 (by decide) k_Md_isNote rfl (by exact Nat.le_of_ble_eq_true rfl) (dc := 1) (by decide) ?_ rfl
    refine ev_Md_isNote ?_
    show Gw zs 2 m_Md_tenor 14 [some (.inr (.inl (some 155))), some (.inl a0), some (.inl a1)] [.inl (f_Md_isNote a1)] w _
    refine gw_if_ne (t := 19) k_Md_tenor f_Md_tenor_14 rfl (fun c2 => ?_) (fun c2 => ?_)
    · have h := h.2 c2
      refine gw_aload_n k_Md_tenor f_Md_tenor_19 rfl ?_
      refine gw_getR k_Md_tenor f_Md_tenor_20 l_fldT_11_228 hc155 rfl ?_
      refine gw_iload_n k_Md_tenor f_Md_tenor_23 rfl ?_
      refine gw_iload_n k_Md_tenor f_Md_tenor_24 rfl ?_
      have hp := h.1
      have h := h.2
      refine gw_iast k_Md_tenor f_Md_tenor_25 hc189 hp ?_
      refine gw_iconst k_Md_tenor f_Md_tenor_26 qc_0 ?_
      exact gw_iret k_Md_tenor f_Md_tenor_27 rfl h
    · have c2 := Decidable.not_not.mp c2
      have h := h.1 c2
      refine gw_iconst k_Md_tenor f_Md_tenor_17 qc_m1 ?_
      exact gw_iret k_Md_tenor f_Md_tenor_18 rfl h
theorem sg_Md_note_0 {zs : List Int32} {a0 a1 a2 : Int32} {w : Wd} {Q : Option AV → Wd → Prop} (h : (((f_Md_in a0 0 8) = 0 → Q (some (.inl (-1))) w) ∧ (¬ ((f_Md_in a0 0 8) = 0) → (((f_Md_in a1 0 2) = 0 → Q (some (.inl (-1))) w) ∧ (¬ ((f_Md_in a1 0 2) = 0) → (((f_Md_isNote a2) = 0 → Q (some (.inl (-1))) w) ∧ (¬ ((f_Md_isNote a2) = 0) → (vp_in ((3 * a0) + a1) 27 ∧ ((a1 = 0 → (((w 190 (((3 * a0) + a1).toNatClampNeg)) = 4 → Q (some (.inl (-1))) w) ∧ (¬ ((w 190 (((3 * a0) + a1).toNatClampNeg)) = 4) → (vp_in ((3 * a0) + a1) 27 ∧ (vp_in ((4 * ((3 * a0) + a1)) + (w 190 (((3 * a0) + a1).toNatClampNeg))) 108 ∧ (vp_in ((3 * a0) + a1) 27 ∧ (vp_in ((3 * a0) + a1) 27 ∧ (vp_in ((3 * a0) + a1) 27 ∧ Q (some (.inl ((w 190 (((3 * a0) + a1).toNatClampNeg)) + 1))) (wr (wr w 191 (((4 * ((3 * a0) + a1)) + (w 190 (((3 * a0) + a1).toNatClampNeg))).toNatClampNeg) a2) 190 (((3 * a0) + a1).toNatClampNeg) ((w 190 (((3 * a0) + a1).toNatClampNeg)) + 1)))))))))) ∧ (¬ (a1 = 0) → (((w 190 (((3 * a0) + a1).toNatClampNeg)) = 3 → Q (some (.inl (-1))) w) ∧ (¬ ((w 190 (((3 * a0) + a1).toNatClampNeg)) = 3) → (vp_in ((3 * a0) + a1) 27 ∧ (vp_in ((4 * ((3 * a0) + a1)) + (w 190 (((3 * a0) + a1).toNatClampNeg))) 108 ∧ (vp_in ((3 * a0) + a1) 27 ∧ (vp_in ((3 * a0) + a1) 27 ∧ (vp_in ((3 * a0) + a1) 27 ∧ Q (some (.inl ((w 190 (((3 * a0) + a1).toNatClampNeg)) + 1))) (wr (wr w 191 (((4 * ((3 * a0) + a1)) + (w 190 (((3 * a0) + a1).toNatClampNeg))).toNatClampNeg) a2) 190 (((3 * a0) + a1).toNatClampNeg) ((w 190 (((3 * a0) + a1).toNatClampNeg)) + 1))))))))))))))))))) : Gw zs 2 m_Md_note 0 [some (.inr (.inl (some 155))), some (.inl a0), some (.inl a1), some (.inl a2), none] [] w Q := by
  refine gw_iload_n k_Md_note f_Md_note_0 rfl ?_
  refine gw_iconst k_Md_note f_Md_note_1 qc_0 ?_
  refine gw_bipush k_Md_note f_Md_note_2 qb_8 ?_
  refine gw_static [.inl a0, .inl 0, .inl 8] k_Md_note f_Md_note_4 l_invT_11_1 (by decide) k_Md_in rfl (by exact Nat.le_of_ble_eq_true rfl) (dc := 0) (by decide) ?_ rfl
  refine ev_Md_in ?_
  show Gw zs 2 m_Md_note 7 [some (.inr (.inl (some 155))), some (.inl a0), some (.inl a1), some (.inl a2), none] [.inl (f_Md_in a0 0 8)] w _
  refine gw_if_eq (t := 26) k_Md_note f_Md_note_7 rfl (fun c1 => ?_) (fun c1 => ?_)
  · have h := h.1 c1
    refine gw_iconst k_Md_note f_Md_note_26 qc_m1 ?_
    exact gw_iret k_Md_note f_Md_note_27 rfl h
  · have h := h.2 c1
    refine gw_iload_n k_Md_note f_Md_note_10 rfl ?_
    refine gw_iconst k_Md_note f_Md_note_11 qc_0 ?_
    refine gw_iconst k_Md_note f_Md_note_12 qc_2 ?_
    refine gw_static [.inl a1, .inl 0, .inl 2] k_Md_note f_Md_note_13 l_invT_11_1 (by decide) k_Md_in rfl (by exact Nat.le_of_ble_eq_true rfl) (dc := 0) (by decide) ?_ rfl
    refine ev_Md_in ?_
    show Gw zs 2 m_Md_note 16 [some (.inr (.inl (some 155))), some (.inl a0), some (.inl a1), some (.inl a2), none] [.inl (f_Md_in a1 0 2)] w _
    refine gw_if_eq (t := 26) k_Md_note f_Md_note_16 rfl (fun c2 => ?_) (fun c2 => ?_)
    · have h := h.1 c2
      refine gw_iconst k_Md_note f_Md_note_26 qc_m1 ?_
      exact gw_iret k_Md_note f_Md_note_27 rfl h
    · have h := h.2 c2
      refine gw_iload_n k_Md_note f_Md_note_19 rfl ?_
      refine gw_static [.inl a2] k_Md_note f_Md_note_20 l_invT_11_297 (by decide) k_Md_isNote rfl (by exact Nat.le_of_ble_eq_true rfl) (dc := 1) (by decide) ?_ rfl
      refine ev_Md_isNote ?_
      show Gw zs 2 m_Md_note 23 [some (.inr (.inl (some 155))), some (.inl a0), some (.inl a1), some (.inl a2), none] [.inl (f_Md_isNote a2)] w _
      refine gw_if_ne (t := 28) k_Md_note f_Md_note_23 rfl (fun c3 => ?_) (fun c3 => ?_)
      · have h := h.2 c3
        refine gw_iconst k_Md_note f_Md_note_28 qc_3 ?_
        refine gw_iload_n k_Md_note f_Md_note_29 rfl ?_
        refine gw_imul k_Md_note f_Md_note_30 ?_
        refine gw_iload_n k_Md_note f_Md_note_31 rfl ?_
        refine gw_iadd k_Md_note f_Md_note_32 ?_
        refine gw_istore [some (.inr (.inl (some 155))), some (.inl a0), some (.inl a1), some (.inl a2), some (.inl ((3 * a0) + a1))] k_Md_note f_Md_note_33 (Nat.le_of_ble_eq_true rfl) rfl ?_
        refine gw_aload_n k_Md_note f_Md_note_35 rfl ?_
        refine gw_getR k_Md_note f_Md_note_36 l_fldT_11_231 hc155 rfl ?_
        refine gw_iload k_Md_note f_Md_note_39 rfl ?_
        have hp := h.1
        have h := h.2
        refine gw_iald k_Md_note f_Md_note_41 hc190 hp ?_
        refine gw_iload_n k_Md_note f_Md_note_42 rfl ?_
        refine gw_if_ne (t := 50) k_Md_note f_Md_note_43 rfl (fun c4 => ?_) (fun c4 => ?_)
        · have h := h.2 c4
          refine gw_iconst k_Md_note f_Md_note_50 qc_3 ?_
          refine gw_icmp_ne (t := 56) k_Md_note f_Md_note_51 rfl (fun c5 => ?_) (fun c5 => ?_)
          · have h := h.2 c5
            refine gw_aload_n k_Md_note f_Md_note_56 rfl ?_
            refine gw_getR k_Md_note f_Md_note_57 l_fldT_11_234 hc155 rfl ?_
            refine gw_iconst k_Md_note f_Md_note_60 qc_4 ?_
            refine gw_iload k_Md_note f_Md_note_61 rfl ?_
            refine gw_imul k_Md_note f_Md_note_63 ?_
            refine gw_aload_n k_Md_note f_Md_note_64 rfl ?_
            refine gw_getR k_Md_note f_Md_note_65 l_fldT_11_231 hc155 rfl ?_
            refine gw_iload k_Md_note f_Md_note_68 rfl ?_
            have hp := h.1
            have h := h.2
            refine gw_iald k_Md_note f_Md_note_70 hc190 hp ?_
            refine gw_iadd k_Md_note f_Md_note_71 ?_
            refine gw_iload_n k_Md_note f_Md_note_72 rfl ?_
            have hp := h.1
            have h := h.2
            refine gw_iast k_Md_note f_Md_note_73 hc191 hp ?_
            refine gw_aload_n k_Md_note f_Md_note_74 rfl ?_
            refine gw_getR k_Md_note f_Md_note_75 l_fldT_11_231 hc155 rfl ?_
            refine gw_iload k_Md_note f_Md_note_78 rfl ?_
            refine gw_dup2 k_Md_note f_Md_note_80 ?_
            have hp := h.1
            have h := h.2
            refine gw_iald k_Md_note f_Md_note_81 hc190 hp ?_
            rw [show (wr w 191 (((4 * ((3 * a0) + a1)) + (w 190 (((3 * a0) + a1).toNatClampNeg))).toNatClampNeg) a2) 190 (((3 * a0) + a1).toNatClampNeg) = w 190 (((3 * a0) + a1).toNatClampNeg) from wr_nc (by decide)]
            refine gw_iconst k_Md_note f_Md_note_82 qc_1 ?_
            refine gw_iadd k_Md_note f_Md_note_83 ?_
            have hp := h.1
            have h := h.2
            refine gw_iast k_Md_note f_Md_note_84 hc190 hp ?_
            refine gw_aload_n k_Md_note f_Md_note_85 rfl ?_
            refine gw_getR k_Md_note f_Md_note_86 l_fldT_11_231 hc155 rfl ?_
            refine gw_iload k_Md_note f_Md_note_89 rfl ?_
            have hp := h.1
            have h := h.2
            refine gw_iald k_Md_note f_Md_note_91 hc190 hp ?_
            rw [show (wr (wr w 191 (((4 * ((3 * a0) + a1)) + (w 190 (((3 * a0) + a1).toNatClampNeg))).toNatClampNeg) a2) 190 (((3 * a0) + a1).toNatClampNeg) ((w 190 (((3 * a0) + a1).toNatClampNeg)) + 1)) 190 (((3 * a0) + a1).toNatClampNeg) = (w 190 (((3 * a0) + a1).toNatClampNeg)) + 1 from wr_eq]
            exact gw_iret k_Md_note f_Md_note_92 rfl h
          · have c5 := Decidable.not_not.mp c5
            have h := h.1 c5
            refine gw_iconst k_Md_note f_Md_note_54 qc_m1 ?_
            exact gw_iret k_Md_note f_Md_note_55 rfl h
        · have c4 := Decidable.not_not.mp c4
          have h := h.1 c4
          refine gw_iconst k_Md_note f_Md_note_46 qc_4 ?_
          refine gw_goto (t := 51) k_Md_note f_Md_note_47 rfl ?_
          refine gw_icmp_ne (t := 56) k_Md_note f_Md_note_51 rfl (fun c6 => ?_) (fun c6 => ?_)
          · have h := h.2 c6
            refine gw_aload_n k_Md_note f_Md_note_56 rfl ?_
            refine gw_getR k_Md_note f_Md_note_57 l_fldT_11_234 hc155 rfl ?_
            refine gw_iconst k_Md_note f_Md_note_60 qc_4 ?_
            refine gw_iload k_Md_note f_Md_note_61 rfl ?_
            refine gw_imul k_Md_note f_Md_note_63 ?_
            refine gw_aload_n k_Md_note f_Md_note_64 rfl ?_
            refine gw_getR k_Md_note f_Md_note_65 l_fldT_11_231 hc155 rfl ?_
            refine gw_iload k_Md_note f_Md_note_68 rfl ?_
            have hp := h.1
            have h := h.2
            refine gw_iald k_Md_note f_Md_note_70 hc190 hp ?_
            refine gw_iadd k_Md_note f_Md_note_71 ?_
            refine gw_iload_n k_Md_note f_Md_note_72 rfl ?_
            have hp := h.1
            have h := h.2
            refine gw_iast k_Md_note f_Md_note_73 hc191 hp ?_
            refine gw_aload_n k_Md_note f_Md_note_74 rfl ?_
            refine gw_getR k_Md_note f_Md_note_75 l_fldT_11_231 hc155 rfl ?_
            refine gw_iload k_Md_note f_Md_note_78 rfl ?_
            refine gw_dup2 k_Md_note f_Md_note_80 ?_
            have hp := h.1
            have h := h.2
            refine gw_iald k_Md_note f_Md_note_81 hc190 hp ?_
            rw [show (wr w 191 (((4 * ((3 * a0) + a1)) + (w 190 (((3 * a0) + a1).toNatClampNeg))).toNatClampNeg) a2) 190 (((3 * a0) + a1).toNatClampNeg) = w 190 (((3 * a0) + a1).toNatClampNeg) from wr_nc (by decide)]
            refine gw_iconst k_Md_note f_Md_note_82 qc_1 ?_
            refine gw_iadd k_Md_note f_Md_note_83 ?_
            have hp := h.1
            have h := h.2
            refine gw_iast k_Md_note f_Md_note_84 hc190 hp ?_
            refine gw_aload_n k_Md_note f_Md_note_85 rfl ?_
            refine gw_getR k_Md_note f_Md_note_86 l_fldT_11_231 hc155 rfl ?_
            refine gw_iload k_Md_note f_Md_note_89 rfl ?_
            have hp := h.1
            have h := h.2
            refine gw_iald k_Md_note f_Md_note_91 hc190 hp ?_
            rw [show (wr (wr w 191 (((4 * ((3 * a0) + a1)) + (w 190 (((3 * a0) + a1).toNatClampNeg))).toNatClampNeg) a2) 190 (((3 * a0) + a1).toNatClampNeg) ((w 190 (((3 * a0) + a1).toNatClampNeg)) + 1)) 190 (((3 * a0) + a1).toNatClampNeg) = (w 190 (((3 * a0) + a1).toNatClampNeg)) + 1 from wr_eq]
            exact gw_iret k_Md_note f_Md_note_92 rfl h
          · have c6 := Decidable.not_not.mp c6
            have h := h.1 c6
            refine gw_iconst k_Md_note f_Md_note_54 qc_m1 ?_
            exact gw_iret k_Md_note f_Md_note_55 rfl h
      · have c3 := Decidable.not_not.mp c3
        have h := h.1 c3
        refine gw_iconst k_Md_note f_Md_note_26 qc_m1 ?_
        exact gw_iret k_Md_note f_Md_note_27 rfl h
theorem sg_Md_accent_0 {zs : List Int32} {a0 a1 a2 a3 a4 a5 : Int32} {w : Wd} {Q : Option AV → Wd → Prop} (h : (((f_Md_in a0 0 8) = 0 → Q (some (.inl (-1))) w) ∧ (¬ ((f_Md_in a0 0 8) = 0) → (((f_Md_in a1 0 1) = 0 → Q (some (.inl (-1))) w) ∧ (¬ ((f_Md_in a1 0 1) = 0) → (((f_Md_in a2 0 1) = 0 → Q (some (.inl (-1))) w) ∧ (¬ ((f_Md_in a2 0 1) = 0) → (((f_Md_isNote a3) = 0 → Q (some (.inl (-1))) w) ∧ (¬ ((f_Md_isNote a3) = 0) → (((f_Md_isNote a4) = 0 → Q (some (.inl (-1))) w) ∧ (¬ ((f_Md_isNote a4) = 0) → (((f_Md_isNote a5) = 0 → Q (some (.inl (-1))) w) ∧ (¬ ((f_Md_isNote a5) = 0) → (vp_in (3 * (((4 * a0) + (2 * a1)) + a2)) 108 ∧ (vp_in ((3 * (((4 * a0) + (2 * a1)) + a2)) + 1) 108 ∧ (vp_in ((3 * (((4 * a0) + (2 * a1)) + a2)) + 2) 108 ∧ Q (some (.inl 0)) (wr (wr (wr w 193 ((3 * (((4 * a0) + (2 * a1)) + a2)).toNatClampNeg) a3) 193 (((3 * (((4 * a0) + (2 * a1)) + a2)) + 1).toNatClampNeg) a4) 193 (((3 * (((4 * a0) + (2 * a1)) + a2)) + 2).toNatClampNeg) a5))))))))))))))))) : Gw zs 2 m_Md_accent 0 [some (.inr (.inl (some 155))), some (.inl a0), some (.inl a1), some (.inl a2), some (.inl a3), some (.inl a4), some (.inl a5), none] [] w Q := by
  refine gw_iload_n k_Md_accent f_Md_accent_0 rfl ?_
  refine gw_iconst k_Md_accent f_Md_accent_1 qc_0 ?_
  refine gw_bipush k_Md_accent f_Md_accent_2 qb_8 ?_
  refine gw_static [.inl a0, .inl 0, .inl 8] k_Md_accent f_Md_accent_4 l_invT_11_1 (by decide) k_Md_in rfl (by exact Nat.le_of_ble_eq_true rfl) (dc := 0) (by decide) ?_ rfl
  refine ev_Md_in ?_
  show Gw zs 2 m_Md_accent 7 [some (.inr (.inl (some 155))), some (.inl a0), some (.inl a1), some (.inl a2), some (.inl a3), some (.inl a4), some (.inl a5), none] [.inl (f_Md_in a0 0 8)] w _
  refine gw_if_eq (t := 52) k_Md_accent f_Md_accent_7 rfl (fun c1 => ?_) (fun c1 => ?_)
  · have h := h.1 c1
    refine gw_iconst k_Md_accent f_Md_accent_52 qc_m1 ?_
    exact gw_iret k_Md_accent f_Md_accent_53 rfl h
  · have h := h.2 c1
    refine gw_iload_n k_Md_accent f_Md_accent_10 rfl ?_
    refine gw_iconst k_Md_accent f_Md_accent_11 qc_0 ?_
    refine gw_iconst k_Md_accent f_Md_accent_12 qc_1 ?_
    refine gw_static [.inl a1, .inl 0, .inl 1] k_Md_accent f_Md_accent_13 l_invT_11_1 (by decide) k_Md_in rfl (by exact Nat.le_of_ble_eq_true rfl) (dc := 0) (by decide) ?_ rfl
    refine ev_Md_in ?_
    show Gw zs 2 m_Md_accent 16 [some (.inr (.inl (some 155))), some (.inl a0), some (.inl a1), some (.inl a2), some (.inl a3), some (.inl a4), some (.inl a5), none] [.inl (f_Md_in a1 0 1)] w _
    refine gw_if_eq (t := 52) k_Md_accent f_Md_accent_16 rfl (fun c2 => ?_) (fun c2 => ?_)
    · have h := h.1 c2
      refine gw_iconst k_Md_accent f_Md_accent_52 qc_m1 ?_
      exact gw_iret k_Md_accent f_Md_accent_53 rfl h
    · have h := h.2 c2
      refine gw_iload_n k_Md_accent f_Md_accent_19 rfl ?_
      refine gw_iconst k_Md_accent f_Md_accent_20 qc_0 ?_
      refine gw_iconst k_Md_accent f_Md_accent_21 qc_1 ?_
      refine gw_static [.inl a2, .inl 0, .inl 1] k_Md_accent f_Md_accent_22 l_invT_11_1 (by decide) k_Md_in rfl (by exact Nat.le_of_ble_eq_true rfl) (dc := 0) (by decide) ?_ rfl
      refine ev_Md_in ?_
      show Gw zs 2 m_Md_accent 25 [some (.inr (.inl (some 155))), some (.inl a0), some (.inl a1), some (.inl a2), some (.inl a3), some (.inl a4), some (.inl a5), none] [.inl (f_Md_in a2 0 1)] w _
      refine gw_if_eq (t := 52) k_Md_accent f_Md_accent_25 rfl (fun c3 => ?_) (fun c3 => ?_)
      · have h := h.1 c3
        refine gw_iconst k_Md_accent f_Md_accent_52 qc_m1 ?_
        exact gw_iret k_Md_accent f_Md_accent_53 rfl h
      · have h := h.2 c3
        refine gw_iload k_Md_accent f_Md_accent_28 rfl ?_
        refine gw_static [.inl a3] k_Md_accent f_Md_accent_30 l_invT_11_297 (by decide) k_Md_isNote rfl (by exact Nat.le_of_ble_eq_true rfl) (dc := 1) (by decide) ?_ rfl
        refine ev_Md_isNote ?_
        show Gw zs 2 m_Md_accent 33 [some (.inr (.inl (some 155))), some (.inl a0), some (.inl a1), some (.inl a2), some (.inl a3), some (.inl a4), some (.inl a5), none] [.inl (f_Md_isNote a3)] w _
        refine gw_if_eq (t := 52) k_Md_accent f_Md_accent_33 rfl (fun c4 => ?_) (fun c4 => ?_)
        · have h := h.1 c4
          refine gw_iconst k_Md_accent f_Md_accent_52 qc_m1 ?_
          exact gw_iret k_Md_accent f_Md_accent_53 rfl h
        · have h := h.2 c4
          refine gw_iload k_Md_accent f_Md_accent_36 rfl ?_
          refine gw_static [.inl a4] k_Md_accent f_Md_accent_38 l_invT_11_297 (by decide) k_Md_isNote rfl (by exact Nat.le_of_ble_eq_true rfl) (dc := 1) (by decide) ?_ rfl
          refine ev_Md_isNote ?_
          show Gw zs 2 m_Md_accent 41 [some (.inr (.inl (some 155))), some (.inl a0), some (.inl a1), some (.inl a2), some (.inl a3), some (.inl a4), some (.inl a5), none] [.inl (f_Md_isNote a4)] w _
          refine gw_if_eq (t := 52) k_Md_accent f_Md_accent_41 rfl (fun c5 => ?_) (fun c5 => ?_)
          · have h := h.1 c5
            refine gw_iconst k_Md_accent f_Md_accent_52 qc_m1 ?_
            exact gw_iret k_Md_accent f_Md_accent_53 rfl h
          · have h := h.2 c5
            refine gw_iload k_Md_accent f_Md_accent_44 rfl ?_
            refine gw_static [.inl a5] k_Md_accent f_Md_accent_46 l_invT_11_297 (by decide) k_Md_isNote rfl (by exact Nat.le_of_ble_eq_true rfl) (dc := 1) (by decide) ?_ rfl
            refine ev_Md_isNote ?_
            show Gw zs 2 m_Md_accent 49 [some (.inr (.inl (some 155))), some (.inl a0), some (.inl a1), some (.inl a2), some (.inl a3), some (.inl a4), some (.inl a5), none] [.inl (f_Md_isNote a5)] w _
            refine gw_if_ne (t := 54) k_Md_accent f_Md_accent_49 rfl (fun c6 => ?_) (fun c6 => ?_)
            · have h := h.2 c6
              refine gw_iconst k_Md_accent f_Md_accent_54 qc_3 ?_
              refine gw_iconst k_Md_accent f_Md_accent_55 qc_4 ?_
              refine gw_iload_n k_Md_accent f_Md_accent_56 rfl ?_
              refine gw_imul k_Md_accent f_Md_accent_57 ?_
              refine gw_iconst k_Md_accent f_Md_accent_58 qc_2 ?_
              refine gw_iload_n k_Md_accent f_Md_accent_59 rfl ?_
              refine gw_imul k_Md_accent f_Md_accent_60 ?_
              refine gw_iadd k_Md_accent f_Md_accent_61 ?_
              refine gw_iload_n k_Md_accent f_Md_accent_62 rfl ?_
              refine gw_iadd k_Md_accent f_Md_accent_63 ?_
              refine gw_imul k_Md_accent f_Md_accent_64 ?_
              refine gw_istore [some (.inr (.inl (some 155))), some (.inl a0), some (.inl a1), some (.inl a2), some (.inl a3), some (.inl a4), some (.inl a5), some (.inl (3 * (((4 * a0) + (2 * a1)) + a2)))] k_Md_accent f_Md_accent_65 (Nat.le_of_ble_eq_true rfl) rfl ?_
              refine gw_aload_n k_Md_accent f_Md_accent_67 rfl ?_
              refine gw_getR k_Md_accent f_Md_accent_68 l_fldT_11_240 hc155 rfl ?_
              refine gw_iload k_Md_accent f_Md_accent_71 rfl ?_
              refine gw_iload k_Md_accent f_Md_accent_73 rfl ?_
              have hp := h.1
              have h := h.2
              refine gw_iast k_Md_accent f_Md_accent_75 hc193 hp ?_
              refine gw_aload_n k_Md_accent f_Md_accent_76 rfl ?_
              refine gw_getR k_Md_accent f_Md_accent_77 l_fldT_11_240 hc155 rfl ?_
              refine gw_iload k_Md_accent f_Md_accent_80 rfl ?_
              refine gw_iconst k_Md_accent f_Md_accent_82 qc_1 ?_
              refine gw_iadd k_Md_accent f_Md_accent_83 ?_
              refine gw_iload k_Md_accent f_Md_accent_84 rfl ?_
              have hp := h.1
              have h := h.2
              refine gw_iast k_Md_accent f_Md_accent_86 hc193 hp ?_
              refine gw_aload_n k_Md_accent f_Md_accent_87 rfl ?_
              refine gw_getR k_Md_accent f_Md_accent_88 l_fldT_11_240 hc155 rfl ?_
              refine gw_iload k_Md_accent f_Md_accent_91 rfl ?_
              refine gw_iconst k_Md_accent f_Md_accent_93 qc_2 ?_
              refine gw_iadd k_Md_accent f_Md_accent_94 ?_
              refine gw_iload k_Md_accent f_Md_accent_95 rfl ?_
              have hp := h.1
              have h := h.2
              refine gw_iast k_Md_accent f_Md_accent_97 hc193 hp ?_
              refine gw_iconst k_Md_accent f_Md_accent_98 qc_0 ?_
              exact gw_iret k_Md_accent f_Md_accent_99 rfl h
            · have c6 := Decidable.not_not.mp c6
              have h := h.1 c6
              refine gw_iconst k_Md_accent f_Md_accent_52 qc_m1 ?_
              exact gw_iret k_Md_accent f_Md_accent_53 rfl h
theorem sg_Md_accents_0 {zs : List Int32} {a0 a1 a2 : Int32} {w : Wd} {Q : Option AV → Wd → Prop} (h : (((f_Md_in a0 0 8) = 0 → Q (some (.inl (-1))) w) ∧ (¬ ((f_Md_in a0 0 8) = 0) → (((f_Md_in a1 0 1) = 0 → Q (some (.inl (-1))) w) ∧ (¬ ((f_Md_in a1 0 1) = 0) → (((f_Md_in a2 1 2) = 0 → Q (some (.inl (-1))) w) ∧ (¬ ((f_Md_in a2 1 2) = 0) → ((a2 = 2 → (vp_in ((2 * a0) + a1) 18 ∧ Q (some (.inl 0)) (wr w 192 (((2 * a0) + a1).toNatClampNeg) (1 &&& 1)))) ∧ (¬ (a2 = 2) → (vp_in ((2 * a0) + a1) 18 ∧ Q (some (.inl 0)) (wr w 192 (((2 * a0) + a1).toNatClampNeg) (0 &&& 1)))))))))))) : Gw zs 1 m_Md_accents 0 [some (.inr (.inl (some 155))), some (.inl a0), some (.inl a1), some (.inl a2)] [] w Q := by
  refine gw_iload_n k_Md_accents f_Md_accents_0 rfl ?_
  refine gw_iconst k_Md_accents f_Md_accents_1 qc_0 ?_
  refine gw_bipush k_Md_accents f_Md_accents_2 qb_8 ?_
  refine gw_static [.inl a0, .inl 0, .inl 8] k_Md_accents f_Md_accents_4 l_invT_11_1 (by decide) k_Md_in rfl (by exact Nat.le_of_ble_eq_true rfl) (dc := 0) (by decide) ?_ rfl
  refine ev_Md_in ?_
  show Gw zs 1 m_Md_accents 7 [some (.inr (.inl (some 155))), some (.inl a0), some (.inl a1), some (.inl a2)] [.inl (f_Md_in a0 0 8)] w _
  refine gw_if_eq (t := 28) k_Md_accents f_Md_accents_7 rfl (fun c1 => ?_) (fun c1 => ?_)
  · have h := h.1 c1
    refine gw_iconst k_Md_accents f_Md_accents_28 qc_m1 ?_
    exact gw_iret k_Md_accents f_Md_accents_29 rfl h
  · have h := h.2 c1
    refine gw_iload_n k_Md_accents f_Md_accents_10 rfl ?_
    refine gw_iconst k_Md_accents f_Md_accents_11 qc_0 ?_
    refine gw_iconst k_Md_accents f_Md_accents_12 qc_1 ?_
    refine gw_static [.inl a1, .inl 0, .inl 1] k_Md_accents f_Md_accents_13 l_invT_11_1 (by decide) k_Md_in rfl (by exact Nat.le_of_ble_eq_true rfl) (dc := 0) (by decide) ?_ rfl
    refine ev_Md_in ?_
    show Gw zs 1 m_Md_accents 16 [some (.inr (.inl (some 155))), some (.inl a0), some (.inl a1), some (.inl a2)] [.inl (f_Md_in a1 0 1)] w _
    refine gw_if_eq (t := 28) k_Md_accents f_Md_accents_16 rfl (fun c2 => ?_) (fun c2 => ?_)
    · have h := h.1 c2
      refine gw_iconst k_Md_accents f_Md_accents_28 qc_m1 ?_
      exact gw_iret k_Md_accents f_Md_accents_29 rfl h
    · have h := h.2 c2
      refine gw_iload_n k_Md_accents f_Md_accents_19 rfl ?_
      refine gw_iconst k_Md_accents f_Md_accents_20 qc_1 ?_
      refine gw_iconst k_Md_accents f_Md_accents_21 qc_2 ?_
      refine gw_static [.inl a2, .inl 1, .inl 2] k_Md_accents f_Md_accents_22 l_invT_11_1 (by decide) k_Md_in rfl (by exact Nat.le_of_ble_eq_true rfl) (dc := 0) (by decide) ?_ rfl
      refine ev_Md_in ?_
      show Gw zs 1 m_Md_accents 25 [some (.inr (.inl (some 155))), some (.inl a0), some (.inl a1), some (.inl a2)] [.inl (f_Md_in a2 1 2)] w _
      refine gw_if_ne (t := 30) k_Md_accents f_Md_accents_25 rfl (fun c3 => ?_) (fun c3 => ?_)
      · have h := h.2 c3
        refine gw_aload_n k_Md_accents f_Md_accents_30 rfl ?_
        refine gw_getR k_Md_accents f_Md_accents_31 l_fldT_11_237 hc155 rfl ?_
        refine gw_iconst k_Md_accents f_Md_accents_34 qc_2 ?_
        refine gw_iload_n k_Md_accents f_Md_accents_35 rfl ?_
        refine gw_imul k_Md_accents f_Md_accents_36 ?_
        refine gw_iload_n k_Md_accents f_Md_accents_37 rfl ?_
        refine gw_iadd k_Md_accents f_Md_accents_38 ?_
        refine gw_iload_n k_Md_accents f_Md_accents_39 rfl ?_
        refine gw_iconst k_Md_accents f_Md_accents_40 qc_2 ?_
        refine gw_icmp_ne (t := 48) k_Md_accents f_Md_accents_41 rfl (fun c4 => ?_) (fun c4 => ?_)
        · have h := h.2 c4
          refine gw_iconst k_Md_accents f_Md_accents_48 qc_0 ?_
          have hp := h.1
          have h := h.2
          refine gw_zast k_Md_accents f_Md_accents_49 hc192 hp ?_
          refine gw_iconst k_Md_accents f_Md_accents_50 qc_0 ?_
          exact gw_iret k_Md_accents f_Md_accents_51 rfl h
        · have c4 := Decidable.not_not.mp c4
          have h := h.1 c4
          refine gw_iconst k_Md_accents f_Md_accents_44 qc_1 ?_
          refine gw_goto (t := 49) k_Md_accents f_Md_accents_45 rfl ?_
          have hp := h.1
          have h := h.2
          refine gw_zast k_Md_accents f_Md_accents_49 hc192 hp ?_
          refine gw_iconst k_Md_accents f_Md_accents_50 qc_0 ?_
          exact gw_iret k_Md_accents f_Md_accents_51 rfl h
      · have c3 := Decidable.not_not.mp c3
        have h := h.1 c3
        refine gw_iconst k_Md_accents f_Md_accents_28 qc_m1 ?_
        exact gw_iret k_Md_accents f_Md_accents_29 rfl h
theorem sg_Md_syllable_0 {zs : List Int32} {a0 a1 : Int32} {w : Wd} {Q : Option AV → Wd → Prop} (h : (((f_Md_in a0 0 19) = 0 → Q (some (.inl (-1))) w) ∧ (¬ ((f_Md_in a0 0 19) = 0) → (vp_in a0 20 ∧ (((w 194 a0.toNatClampNeg) = 60 → Q (some (.inl (-1))) w) ∧ (¬ ((w 194 a0.toNatClampNeg) = 60) → (vp_in a0 20 ∧ (vp_in ((60 * a0) + (w 194 a0.toNatClampNeg)) 1200 ∧ (vp_in a0 20 ∧ (vp_in a0 20 ∧ (vp_in a0 20 ∧ Q (some (.inl ((w 194 a0.toNatClampNeg) + 1))) (wr (wr w 195 (((60 * a0) + (w 194 a0.toNatClampNeg)).toNatClampNeg) (a1 &&& 1)) 194 a0.toNatClampNeg ((w 194 a0.toNatClampNeg) + 1))))))))))))) : Gw zs 1 m_Md_syllable 0 [some (.inr (.inl (some 155))), some (.inl a0), some (.inl a1)] [] w Q := by
  refine gw_iload_n k_Md_syllable f_Md_syllable_0 rfl ?_
  refine gw_iconst k_Md_syllable f_Md_syllable_1 qc_0 ?_
  refine gw_bipush k_Md_syllable f_Md_syllable_2 qb_19 ?_
  refine gw_static [.inl a0, .inl 0, .inl 19] k_Md_syllable f_Md_syllable_4 l_invT_11_1 (by decide) k_Md_in rfl (by exact Nat.le_of_ble_eq_true rfl) (dc := 0) (by decide) ?_ rfl
  refine ev_Md_in ?_
  show Gw zs 1 m_Md_syllable 7 [some (.inr (.inl (some 155))), some (.inl a0), some (.inl a1)] [.inl (f_Md_in a0 0 19)] w _
  refine gw_if_eq (t := 21) k_Md_syllable f_Md_syllable_7 rfl (fun c1 => ?_) (fun c1 => ?_)
  · have h := h.1 c1
    refine gw_iconst k_Md_syllable f_Md_syllable_21 qc_m1 ?_
    exact gw_iret k_Md_syllable f_Md_syllable_22 rfl h
  · have h := h.2 c1
    refine gw_aload_n k_Md_syllable f_Md_syllable_10 rfl ?_
    refine gw_getR k_Md_syllable f_Md_syllable_11 l_fldT_11_243 hc155 rfl ?_
    refine gw_iload_n k_Md_syllable f_Md_syllable_14 rfl ?_
    have hp := h.1
    have h := h.2
    refine gw_iald k_Md_syllable f_Md_syllable_15 hc194 hp ?_
    refine gw_bipush k_Md_syllable f_Md_syllable_16 qb_60 ?_
    refine gw_icmp_ne (t := 23) k_Md_syllable f_Md_syllable_18 rfl (fun c2 => ?_) (fun c2 => ?_)
    · have h := h.2 c2
      refine gw_aload_n k_Md_syllable f_Md_syllable_23 rfl ?_
      refine gw_getR k_Md_syllable f_Md_syllable_24 l_fldT_11_246 hc155 rfl ?_
      refine gw_bipush k_Md_syllable f_Md_syllable_27 qb_60 ?_
      refine gw_iload_n k_Md_syllable f_Md_syllable_29 rfl ?_
      refine gw_imul k_Md_syllable f_Md_syllable_30 ?_
      refine gw_aload_n k_Md_syllable f_Md_syllable_31 rfl ?_
      refine gw_getR k_Md_syllable f_Md_syllable_32 l_fldT_11_243 hc155 rfl ?_
      refine gw_iload_n k_Md_syllable f_Md_syllable_35 rfl ?_
      have hp := h.1
      have h := h.2
      refine gw_iald k_Md_syllable f_Md_syllable_36 hc194 hp ?_
      refine gw_iadd k_Md_syllable f_Md_syllable_37 ?_
      refine gw_iload_n k_Md_syllable f_Md_syllable_38 rfl ?_
      have hp := h.1
      have h := h.2
      refine gw_zast k_Md_syllable f_Md_syllable_39 hc195 hp ?_
      refine gw_aload_n k_Md_syllable f_Md_syllable_40 rfl ?_
      refine gw_getR k_Md_syllable f_Md_syllable_41 l_fldT_11_243 hc155 rfl ?_
      refine gw_iload_n k_Md_syllable f_Md_syllable_44 rfl ?_
      refine gw_dup2 k_Md_syllable f_Md_syllable_45 ?_
      have hp := h.1
      have h := h.2
      refine gw_iald k_Md_syllable f_Md_syllable_46 hc194 hp ?_
      rw [show (wr w 195 (((60 * a0) + (w 194 a0.toNatClampNeg)).toNatClampNeg) (a1 &&& 1)) 194 a0.toNatClampNeg = w 194 a0.toNatClampNeg from wr_nc (by decide)]
      refine gw_iconst k_Md_syllable f_Md_syllable_47 qc_1 ?_
      refine gw_iadd k_Md_syllable f_Md_syllable_48 ?_
      have hp := h.1
      have h := h.2
      refine gw_iast k_Md_syllable f_Md_syllable_49 hc194 hp ?_
      refine gw_aload_n k_Md_syllable f_Md_syllable_50 rfl ?_
      refine gw_getR k_Md_syllable f_Md_syllable_51 l_fldT_11_243 hc155 rfl ?_
      refine gw_iload_n k_Md_syllable f_Md_syllable_54 rfl ?_
      have hp := h.1
      have h := h.2
      refine gw_iald k_Md_syllable f_Md_syllable_55 hc194 hp ?_
      rw [show (wr (wr w 195 (((60 * a0) + (w 194 a0.toNatClampNeg)).toNatClampNeg) (a1 &&& 1)) 194 a0.toNatClampNeg ((w 194 a0.toNatClampNeg) + 1)) 194 a0.toNatClampNeg = (w 194 a0.toNatClampNeg) + 1 from wr_eq]
      exact gw_iret k_Md_syllable f_Md_syllable_56 rfl h
    · have c2 := Decidable.not_not.mp c2
      have h := h.1 c2
      refine gw_iconst k_Md_syllable f_Md_syllable_21 qc_m1 ?_
      exact gw_iret k_Md_syllable f_Md_syllable_22 rfl h
theorem sg_Md_part_0 {zs : List Int32} {a0 : Int32} {w : Wd} {Q : Option AV → Wd → Prop} (h : (((f_Md_in a0 0 19) = 0 → Q (some (.inl (-1))) w) ∧ (¬ ((f_Md_in a0 0 19) = 0) → (vp_in a0 20 ∧ (((w 194 a0.toNatClampNeg) = 0 → Q (some (.inl (-1))) w) ∧ (¬ ((w 194 a0.toNatClampNeg) = 0) → (vp_in a0 20 ∧ (((w 196 a0.toNatClampNeg) ≤ 0 → (vp_in a0 20 ∧ (vp_in a0 20 ∧ (vp_in a0 20 ∧ Q (some (.inl (w 194 a0.toNatClampNeg))) (wr w 196 a0.toNatClampNeg (w 194 a0.toNatClampNeg)))))) ∧ (¬ ((w 196 a0.toNatClampNeg) ≤ 0) → Q (some (.inl (-1))) w))))))))) : Gw zs 1 m_Md_part 0 [some (.inr (.inl (some 155))), some (.inl a0)] [] w Q := by
  refine gw_iload_n k_Md_part f_Md_part_0 rfl ?_
  refine gw_iconst k_Md_part f_Md_part_1 qc_0 ?_
  refine gw_bipush k_Md_part f_Md_part_2 qb_19 ?_
  refine gw_static [.inl a0, .inl 0, .inl 19] k_Md_part f_Md_part_4 l_invT_11_1 (by decide) k_Md_in rfl (by exact Nat.le_of_ble_eq_true rfl) (dc := 0) (by decide) ?_ rfl
  refine ev_Md_in ?_
  show Gw zs 1 m_Md_part 7 [some (.inr (.inl (some 155))), some (.inl a0)] [.inl (f_Md_in a0 0 19)] w _
  refine gw_if_eq (t := 28) k_Md_part f_Md_part_7 rfl (fun c1 => ?_) (fun c1 => ?_)
  · have h := h.1 c1
    refine gw_iconst k_Md_part f_Md_part_28 qc_m1 ?_
    exact gw_iret k_Md_part f_Md_part_29 rfl h
  · have h := h.2 c1
    refine gw_aload_n k_Md_part f_Md_part_10 rfl ?_
    refine gw_getR k_Md_part f_Md_part_11 l_fldT_11_243 hc155 rfl ?_
    refine gw_iload_n k_Md_part f_Md_part_14 rfl ?_
    have hp := h.1
    have h := h.2
    refine gw_iald k_Md_part f_Md_part_15 hc194 hp ?_
    refine gw_if_eq (t := 28) k_Md_part f_Md_part_16 rfl (fun c2 => ?_) (fun c2 => ?_)
    · have h := h.1 c2
      refine gw_iconst k_Md_part f_Md_part_28 qc_m1 ?_
      exact gw_iret k_Md_part f_Md_part_29 rfl h
    · have h := h.2 c2
      refine gw_aload_n k_Md_part f_Md_part_19 rfl ?_
      refine gw_getR k_Md_part f_Md_part_20 l_fldT_11_249 hc155 rfl ?_
      refine gw_iload_n k_Md_part f_Md_part_23 rfl ?_
      have hp := h.1
      have h := h.2
      refine gw_iald k_Md_part f_Md_part_24 hc196 hp ?_
      refine gw_if_le (t := 30) k_Md_part f_Md_part_25 rfl (fun c3 => ?_) (fun c3 => ?_)
      · have h := h.1 c3
        refine gw_aload_n k_Md_part f_Md_part_30 rfl ?_
        refine gw_getR k_Md_part f_Md_part_31 l_fldT_11_249 hc155 rfl ?_
        refine gw_iload_n k_Md_part f_Md_part_34 rfl ?_
        refine gw_aload_n k_Md_part f_Md_part_35 rfl ?_
        refine gw_getR k_Md_part f_Md_part_36 l_fldT_11_243 hc155 rfl ?_
        refine gw_iload_n k_Md_part f_Md_part_39 rfl ?_
        have hp := h.1
        have h := h.2
        refine gw_iald k_Md_part f_Md_part_40 hc194 hp ?_
        have hp := h.1
        have h := h.2
        refine gw_iast k_Md_part f_Md_part_41 hc196 hp ?_
        refine gw_aload_n k_Md_part f_Md_part_42 rfl ?_
        refine gw_getR k_Md_part f_Md_part_43 l_fldT_11_249 hc155 rfl ?_
        refine gw_iload_n k_Md_part f_Md_part_46 rfl ?_
        have hp := h.1
        have h := h.2
        refine gw_iald k_Md_part f_Md_part_47 hc196 hp ?_
        rw [show (wr w 196 a0.toNatClampNeg (w 194 a0.toNatClampNeg)) 196 a0.toNatClampNeg = w 194 a0.toNatClampNeg from wr_eq]
        exact gw_iret k_Md_part f_Md_part_48 rfl h
      · have h := h.2 c3
        refine gw_iconst k_Md_part f_Md_part_28 qc_m1 ?_
        exact gw_iret k_Md_part f_Md_part_29 rfl h
theorem sg_Md_isStressed_0 {zs : List Int32} {a0 a1 a2 : Int32} {w : Wd} {Q : Option AV → Wd → Prop} (h : ((a2 < 0 → Q (some (.inl 0)) w) ∧ (¬ (a2 < 0) → (vp_in (((60 * a0) + a1) + a2) 1200 ∧ (((w 195 ((((60 * a0) + a1) + a2).toNatClampNeg)) = 0 → Q (some (.inl 0)) w) ∧ (¬ ((w 195 ((((60 * a0) + a1) + a2).toNatClampNeg)) = 0) → Q (some (.inl 1)) w)))))) : Gw zs 0 m_Md_isStressed 0 [some (.inr (.inl (some 155))), some (.inl a0), some (.inl a1), some (.inl a2)] [] w Q := by
  refine gw_iload_n k_Md_isStressed f_Md_isStressed_0 rfl ?_
  refine gw_if_lt (t := 24) k_Md_isStressed f_Md_isStressed_1 rfl (fun c1 => ?_) (fun c1 => ?_)
  · have h := h.1 c1
    refine gw_iconst k_Md_isStressed f_Md_isStressed_24 qc_0 ?_
    exact gw_zret k_Md_isStressed f_Md_isStressed_25 rfl (Or.inl rfl) h
  · have h := h.2 c1
    refine gw_aload_n k_Md_isStressed f_Md_isStressed_4 rfl ?_
    refine gw_getR k_Md_isStressed f_Md_isStressed_5 l_fldT_11_246 hc155 rfl ?_
    refine gw_bipush k_Md_isStressed f_Md_isStressed_8 qb_60 ?_
    refine gw_iload_n k_Md_isStressed f_Md_isStressed_10 rfl ?_
    refine gw_imul k_Md_isStressed f_Md_isStressed_11 ?_
    refine gw_iload_n k_Md_isStressed f_Md_isStressed_12 rfl ?_
    refine gw_iadd k_Md_isStressed f_Md_isStressed_13 ?_
    refine gw_iload_n k_Md_isStressed f_Md_isStressed_14 rfl ?_
    refine gw_iadd k_Md_isStressed f_Md_isStressed_15 ?_
    have hp := h.1
    have h := h.2
    refine gw_zald k_Md_isStressed f_Md_isStressed_16 hc195 hp ?_
    refine gw_if_eq (t := 24) k_Md_isStressed f_Md_isStressed_17 rfl (fun c2 => ?_) (fun c2 => ?_)
    · have h := h.1 c2
      refine gw_iconst k_Md_isStressed f_Md_isStressed_24 qc_0 ?_
      exact gw_zret k_Md_isStressed f_Md_isStressed_25 rfl (Or.inl rfl) h
    · have h := h.2 c2
      refine gw_iconst k_Md_isStressed f_Md_isStressed_20 qc_1 ?_
      refine gw_goto (t := 25) k_Md_isStressed f_Md_isStressed_21 rfl ?_
      exact gw_zret k_Md_isStressed f_Md_isStressed_25 rfl (Or.inr rfl) h
theorem sg_Md_byAccent_0 {zs : List Int32} {a0 a1 a2 a3 a4 : Int32} {w : Wd} {Q : Option AV → Wd → Prop} (h : ((a3 = 0 → (vp_in (3 * (((4 * a0) + (2 * a1)) + a2)) 108 ∧ Q (some (.inl (w 193 ((3 * (((4 * a0) + (2 * a1)) + a2)).toNatClampNeg)))) w)) ∧ (¬ (a3 = 0) → ((a4 = 2 → ((a3 = 1 → (vp_in ((3 * (((4 * a0) + (2 * a1)) + a2)) + 1) 108 ∧ Q (some (.inl (w 193 (((3 * (((4 * a0) + (2 * a1)) + a2)) + 1).toNatClampNeg)))) w)) ∧ (¬ (a3 = 1) → (vp_in ((3 * (((4 * a0) + (2 * a1)) + a2)) + 2) 108 ∧ Q (some (.inl (w 193 (((3 * (((4 * a0) + (2 * a1)) + a2)) + 2).toNatClampNeg)))) w)))) ∧ (¬ (a4 = 2) → (vp_in ((3 * (((4 * a0) + (2 * a1)) + a2)) + 2) 108 ∧ Q (some (.inl (w 193 (((3 * (((4 * a0) + (2 * a1)) + a2)) + 2).toNatClampNeg)))) w)))))) : Gw zs 0 m_Md_byAccent 0 [some (.inr (.inl (some 155))), some (.inl a0), some (.inl a1), some (.inl a2), some (.inl a3), some (.inl a4), none] [] w Q := by
  refine gw_iconst k_Md_byAccent f_Md_byAccent_0 qc_3 ?_
  refine gw_iconst k_Md_byAccent f_Md_byAccent_1 qc_4 ?_
  refine gw_iload_n k_Md_byAccent f_Md_byAccent_2 rfl ?_
  refine gw_imul k_Md_byAccent f_Md_byAccent_3 ?_
  refine gw_iconst k_Md_byAccent f_Md_byAccent_4 qc_2 ?_
  refine gw_iload_n k_Md_byAccent f_Md_byAccent_5 rfl ?_
  refine gw_imul k_Md_byAccent f_Md_byAccent_6 ?_
  refine gw_iadd k_Md_byAccent f_Md_byAccent_7 ?_
  refine gw_iload_n k_Md_byAccent f_Md_byAccent_8 rfl ?_
  refine gw_iadd k_Md_byAccent f_Md_byAccent_9 ?_
  refine gw_imul k_Md_byAccent f_Md_byAccent_10 ?_
  refine gw_istore [some (.inr (.inl (some 155))), some (.inl a0), some (.inl a1), some (.inl a2), some (.inl a3), some (.inl a4), some (.inl (3 * (((4 * a0) + (2 * a1)) + a2)))] k_Md_byAccent f_Md_byAccent_11 (Nat.le_of_ble_eq_true rfl) rfl ?_
  refine gw_iload k_Md_byAccent f_Md_byAccent_13 rfl ?_
  refine gw_if_ne (t := 26) k_Md_byAccent f_Md_byAccent_15 rfl (fun c1 => ?_) (fun c1 => ?_)
  · have h := h.2 c1
    refine gw_iload k_Md_byAccent f_Md_byAccent_26 rfl ?_
    refine gw_iconst k_Md_byAccent f_Md_byAccent_28 qc_2 ?_
    refine gw_icmp_ne (t := 50) k_Md_byAccent f_Md_byAccent_29 rfl (fun c2 => ?_) (fun c2 => ?_)
    · have h := h.2 c2
      refine gw_aload_n k_Md_byAccent f_Md_byAccent_50 rfl ?_
      refine gw_getR k_Md_byAccent f_Md_byAccent_51 l_fldT_11_240 hc155 rfl ?_
      refine gw_iload k_Md_byAccent f_Md_byAccent_54 rfl ?_
      refine gw_iconst k_Md_byAccent f_Md_byAccent_56 qc_2 ?_
      refine gw_iadd k_Md_byAccent f_Md_byAccent_57 ?_
      have hp := h.1
      have h := h.2
      refine gw_iald k_Md_byAccent f_Md_byAccent_58 hc193 hp ?_
      exact gw_iret k_Md_byAccent f_Md_byAccent_59 rfl h
    · have c2 := Decidable.not_not.mp c2
      have h := h.1 c2
      refine gw_iload k_Md_byAccent f_Md_byAccent_32 rfl ?_
      refine gw_iconst k_Md_byAccent f_Md_byAccent_34 qc_1 ?_
      refine gw_icmp_ne (t := 50) k_Md_byAccent f_Md_byAccent_35 rfl (fun c3 => ?_) (fun c3 => ?_)
      · have h := h.2 c3
        refine gw_aload_n k_Md_byAccent f_Md_byAccent_50 rfl ?_
        refine gw_getR k_Md_byAccent f_Md_byAccent_51 l_fldT_11_240 hc155 rfl ?_
        refine gw_iload k_Md_byAccent f_Md_byAccent_54 rfl ?_
        refine gw_iconst k_Md_byAccent f_Md_byAccent_56 qc_2 ?_
        refine gw_iadd k_Md_byAccent f_Md_byAccent_57 ?_
        have hp := h.1
        have h := h.2
        refine gw_iald k_Md_byAccent f_Md_byAccent_58 hc193 hp ?_
        exact gw_iret k_Md_byAccent f_Md_byAccent_59 rfl h
      · have c3 := Decidable.not_not.mp c3
        have h := h.1 c3
        refine gw_aload_n k_Md_byAccent f_Md_byAccent_38 rfl ?_
        refine gw_getR k_Md_byAccent f_Md_byAccent_39 l_fldT_11_240 hc155 rfl ?_
        refine gw_iload k_Md_byAccent f_Md_byAccent_42 rfl ?_
        refine gw_iconst k_Md_byAccent f_Md_byAccent_44 qc_1 ?_
        refine gw_iadd k_Md_byAccent f_Md_byAccent_45 ?_
        have hp := h.1
        have h := h.2
        refine gw_iald k_Md_byAccent f_Md_byAccent_46 hc193 hp ?_
        refine gw_goto (t := 59) k_Md_byAccent f_Md_byAccent_47 rfl ?_
        exact gw_iret k_Md_byAccent f_Md_byAccent_59 rfl h
  · have c1 := Decidable.not_not.mp c1
    have h := h.1 c1
    refine gw_aload_n k_Md_byAccent f_Md_byAccent_18 rfl ?_
    refine gw_getR k_Md_byAccent f_Md_byAccent_19 l_fldT_11_240 hc155 rfl ?_
    refine gw_iload k_Md_byAccent f_Md_byAccent_22 rfl ?_
    have hp := h.1
    have h := h.2
    refine gw_iald k_Md_byAccent f_Md_byAccent_24 hc193 hp ?_
    exact gw_iret k_Md_byAccent f_Md_byAccent_25 rfl h
theorem sg_Md_sing_0 {zs : List Int32} {a0 a1 a2 : Int32} {w : Wd} {Q : Option AV → Wd → Prop} (h : (((f_Md_in a0 0 19) = 0 → Gw zs 1 m_Md_sing 60 [some (.inr (.inl (some 155))), some (.inl a0), some (.inl a1), some (.inl a2), none, none, none, none, none, none, none, none] [] w Q) ∧ (¬ ((f_Md_in a0 0 19) = 0) → (((f_Md_in a1 0 8) = 0 → Gw zs 1 m_Md_sing 60 [some (.inr (.inl (some 155))), some (.inl a0), some (.inl a1), some (.inl a2), none, none, none, none, none, none, none, none] [] w Q) ∧ (¬ ((f_Md_in a1 0 8) = 0) → (vp_in a0 20 ∧ (((f_Md_in a2 0 ((w 194 a0.toNatClampNeg) - 1)) = 0 → Gw zs 1 m_Md_sing 60 [some (.inr (.inl (some 155))), some (.inl a0), some (.inl a1), some (.inl a2), none, none, none, none, none, none, none, none] [] w Q) ∧ (¬ ((f_Md_in a2 0 ((w 194 a0.toNatClampNeg) - 1)) = 0) → (vp_in a0 20 ∧ (((w 196 a0.toNatClampNeg) ≤ 0 → Gw zs 1 m_Md_sing 62 [some (.inr (.inl (some 155))), some (.inl a0), some (.inl a1), some (.inl a2), none, none, none, none, none, none, none, none] [] w Q) ∧ (¬ ((w 196 a0.toNatClampNeg) ≤ 0) → (vp_in a0 20 ∧ (vp_in a0 20 ∧ (((w 196 a0.toNatClampNeg) = (w 194 a0.toNatClampNeg) → Gw zs 1 m_Md_sing 60 [some (.inr (.inl (some 155))), some (.inl a0), some (.inl a1), some (.inl a2), none, none, none, none, none, none, none, none] [] w Q) ∧ (¬ ((w 196 a0.toNatClampNeg) = (w 194 a0.toNatClampNeg)) → Gw zs 1 m_Md_sing 62 [some (.inr (.inl (some 155))), some (.inl a0), some (.inl a1), some (.inl a2), none, none, none, none, none, none, none, none] [] w Q))))))))))))))) : Gw zs 1 m_Md_sing 0 [some (.inr (.inl (some 155))), some (.inl a0), some (.inl a1), some (.inl a2), none, none, none, none, none, none, none, none] [] w Q := by
  refine gw_iload_n k_Md_sing f_Md_sing_0 rfl ?_
  refine gw_iconst k_Md_sing f_Md_sing_1 qc_0 ?_
  refine gw_bipush k_Md_sing f_Md_sing_2 qb_19 ?_
  refine gw_static [.inl a0, .inl 0, .inl 19] k_Md_sing f_Md_sing_4 l_invT_11_1 (by decide) k_Md_in rfl (by exact Nat.le_of_ble_eq_true rfl) (dc := 0) (by decide) ?_ rfl
  refine ev_Md_in ?_
  show Gw zs 1 m_Md_sing 7 [some (.inr (.inl (some 155))), some (.inl a0), some (.inl a1), some (.inl a2), none, none, none, none, none, none, none, none] [.inl (f_Md_in a0 0 19)] w _
  refine gw_if_eq (t := 60) k_Md_sing f_Md_sing_7 rfl (fun c1 => ?_) (fun c1 => ?_)
  · have h := h.1 c1
    exact h
  · have h := h.2 c1
    refine gw_iload_n k_Md_sing f_Md_sing_10 rfl ?_
    refine gw_iconst k_Md_sing f_Md_sing_11 qc_0 ?_
    refine gw_bipush k_Md_sing f_Md_sing_12 qb_8 ?_
    refine gw_static [.inl a1, .inl 0, .inl 8] k_Md_sing f_Md_sing_14 l_invT_11_1 (by decide) k_Md_in rfl (by exact Nat.le_of_ble_eq_true rfl) (dc := 0) (by decide) ?_ rfl
    refine ev_Md_in ?_
    show Gw zs 1 m_Md_sing 17 [some (.inr (.inl (some 155))), some (.inl a0), some (.inl a1), some (.inl a2), none, none, none, none, none, none, none, none] [.inl (f_Md_in a1 0 8)] w _
    refine gw_if_eq (t := 60) k_Md_sing f_Md_sing_17 rfl (fun c2 => ?_) (fun c2 => ?_)
    · have h := h.1 c2
      exact h
    · have h := h.2 c2
      refine gw_iload_n k_Md_sing f_Md_sing_20 rfl ?_
      refine gw_iconst k_Md_sing f_Md_sing_21 qc_0 ?_
      refine gw_aload_n k_Md_sing f_Md_sing_22 rfl ?_
      refine gw_getR k_Md_sing f_Md_sing_23 l_fldT_11_243 hc155 rfl ?_
      refine gw_iload_n k_Md_sing f_Md_sing_26 rfl ?_
      have hp := h.1
      have h := h.2
      refine gw_iald k_Md_sing f_Md_sing_27 hc194 hp ?_
      refine gw_iconst k_Md_sing f_Md_sing_28 qc_1 ?_
      refine gw_isub k_Md_sing f_Md_sing_29 ?_
      refine gw_static [.inl a2, .inl 0, .inl ((w 194 a0.toNatClampNeg) - 1)] k_Md_sing f_Md_sing_30 l_invT_11_1 (by decide) k_Md_in rfl (by exact Nat.le_of_ble_eq_true rfl) (dc := 0) (by decide) ?_ rfl
      refine ev_Md_in ?_
      show Gw zs 1 m_Md_sing 33 [some (.inr (.inl (some 155))), some (.inl a0), some (.inl a1), some (.inl a2), none, none, none, none, none, none, none, none] [.inl (f_Md_in a2 0 ((w 194 a0.toNatClampNeg) - 1))] w _
      refine gw_if_eq (t := 60) k_Md_sing f_Md_sing_33 rfl (fun c3 => ?_) (fun c3 => ?_)
      · have h := h.1 c3
        exact h
      · have h := h.2 c3
        refine gw_aload_n k_Md_sing f_Md_sing_36 rfl ?_
        refine gw_getR k_Md_sing f_Md_sing_37 l_fldT_11_249 hc155 rfl ?_
        refine gw_iload_n k_Md_sing f_Md_sing_40 rfl ?_
        have hp := h.1
        have h := h.2
        refine gw_iald k_Md_sing f_Md_sing_41 hc196 hp ?_
        refine gw_if_le (t := 62) k_Md_sing f_Md_sing_42 rfl (fun c4 => ?_) (fun c4 => ?_)
        · have h := h.1 c4
          exact h
        · have h := h.2 c4
          refine gw_aload_n k_Md_sing f_Md_sing_45 rfl ?_
          refine gw_getR k_Md_sing f_Md_sing_46 l_fldT_11_249 hc155 rfl ?_
          refine gw_iload_n k_Md_sing f_Md_sing_49 rfl ?_
          have hp := h.1
          have h := h.2
          refine gw_iald k_Md_sing f_Md_sing_50 hc196 hp ?_
          refine gw_aload_n k_Md_sing f_Md_sing_51 rfl ?_
          refine gw_getR k_Md_sing f_Md_sing_52 l_fldT_11_243 hc155 rfl ?_
          refine gw_iload_n k_Md_sing f_Md_sing_55 rfl ?_
          have hp := h.1
          have h := h.2
          refine gw_iald k_Md_sing f_Md_sing_56 hc194 hp ?_
          refine gw_icmp_ne (t := 62) k_Md_sing f_Md_sing_57 rfl (fun c5 => ?_) (fun c5 => ?_)
          · have h := h.2 c5
            exact h
          · have c5 := Decidable.not_not.mp c5
            have h := h.1 c5
            exact h
theorem sg_Md_sing_60 {zs : List Int32} {o0 o1 o2 o3 o4 o5 o6 o7 o8 o9 o10 o11 : Option AV} {w : Wd} {Q : Option AV → Wd → Prop} (h : Q (some (.inl (-1))) w) : Gw zs 1 m_Md_sing 60 [o0, o1, o2, o3, o4, o5, o6, o7, o8, o9, o10, o11] [] w Q := by
  refine gw_iconst k_Md_sing f_Md_sing_60 qc_m1 ?_
  exact gw_iret k_Md_sing f_Md_sing_61 rfl h
theorem sg_Md_sing_62 {zs : List Int32} {x1 x2 x3 : Int32} {o4 o5 o6 o7 o8 o9 o10 o11 : Option AV} {w : Wd} {Q : Option AV → Wd → Prop} (h : (vp_in x1 20 ∧ (((w 196 x1.toNatClampNeg) ≤ x3 → Gw zs 1 m_Md_sing 77 [some (.inr (.inl (some 155))), some (.inl x1), some (.inl x2), some (.inl x3), o4, o5, o6, o7, o8, o9, o10, o11] [.inl 1] w Q) ∧ (¬ ((w 196 x1.toNatClampNeg) ≤ x3) → Gw zs 1 m_Md_sing 77 [some (.inr (.inl (some 155))), some (.inl x1), some (.inl x2), some (.inl x3), o4, o5, o6, o7, o8, o9, o10, o11] [.inl 0] w Q)))) : Gw zs 1 m_Md_sing 62 [some (.inr (.inl (some 155))), some (.inl x1), some (.inl x2), some (.inl x3), o4, o5, o6, o7, o8, o9, o10, o11] [] w Q := by
  refine gw_iload_n k_Md_sing f_Md_sing_62 rfl ?_
  refine gw_aload_n k_Md_sing f_Md_sing_63 rfl ?_
  refine gw_getR k_Md_sing f_Md_sing_64 l_fldT_11_249 hc155 rfl ?_
  refine gw_iload_n k_Md_sing f_Md_sing_67 rfl ?_
  have hp := h.1
  have h := h.2
  refine gw_iald k_Md_sing f_Md_sing_68 hc196 hp ?_
  refine gw_icmp_ge (t := 76) k_Md_sing f_Md_sing_69 rfl (fun c1 => ?_) (fun c1 => ?_)
  · have h := h.1 c1
    refine gw_iconst k_Md_sing f_Md_sing_76 qc_1 ?_
    exact h
  · have h := h.2 c1
    refine gw_iconst k_Md_sing f_Md_sing_72 qc_0 ?_
    refine gw_goto (t := 77) k_Md_sing f_Md_sing_73 rfl ?_
    exact h
theorem sg_Md_sing_77 {zs : List Int32} {x1 x2 x3 s0 : Int32} {o4 o5 o6 o7 o8 o9 o10 o11 : Option AV} {w : Wd} {Q : Option AV → Wd → Prop} (h : ((s0 = 0 → Gw zs 1 m_Md_sing 94 [some (.inr (.inl (some 155))), some (.inl x1), some (.inl x2), some (.inl x3), some (.inl s0), o5, o6, o7, o8, o9, o10, o11] [.inl 0] w Q) ∧ (¬ (s0 = 0) → (vp_in x1 20 ∧ Gw zs 1 m_Md_sing 94 [some (.inr (.inl (some 155))), some (.inl x1), some (.inl x2), some (.inl x3), some (.inl s0), o5, o6, o7, o8, o9, o10, o11] [.inl (w 196 x1.toNatClampNeg)] w Q)))) : Gw zs 1 m_Md_sing 77 [some (.inr (.inl (some 155))), some (.inl x1), some (.inl x2), some (.inl x3), o4, o5, o6, o7, o8, o9, o10, o11] [.inl s0] w Q := by
  refine gw_istore [some (.inr (.inl (some 155))), some (.inl x1), some (.inl x2), some (.inl x3), some (.inl s0), o5, o6, o7, o8, o9, o10, o11] k_Md_sing f_Md_sing_77 (Nat.le_of_ble_eq_true rfl) rfl ?_
  refine gw_iload k_Md_sing f_Md_sing_79 rfl ?_
  refine gw_if_ne (t := 88) k_Md_sing f_Md_sing_81 rfl (fun c1 => ?_) (fun c1 => ?_)
  · have h := h.2 c1
    refine gw_aload_n k_Md_sing f_Md_sing_88 rfl ?_
    refine gw_getR k_Md_sing f_Md_sing_89 l_fldT_11_249 hc155 rfl ?_
    refine gw_iload_n k_Md_sing f_Md_sing_92 rfl ?_
    have hp := h.1
    have h := h.2
    refine gw_iald k_Md_sing f_Md_sing_93 hc196 hp ?_
    exact h
  · have c1 := Decidable.not_not.mp c1
    have h := h.1 c1
    refine gw_iconst k_Md_sing f_Md_sing_84 qc_0 ?_
    refine gw_goto (t := 94) k_Md_sing f_Md_sing_85 rfl ?_
    exact h
theorem sg_Md_sing_94 {zs : List Int32} {x1 x2 x3 x4 s0 : Int32} {o5 o6 o7 o8 o9 o10 o11 : Option AV} {w : Wd} {Q : Option AV → Wd → Prop} (h : ((x4 = 0 → (vp_in x1 20 ∧ Gw zs 1 m_Md_sing 116 [some (.inr (.inl (some 155))), some (.inl x1), some (.inl x2), some (.inl x3), some (.inl x4), some (.inl s0), o6, o7, o8, o9, o10, o11] [.inl (w 196 x1.toNatClampNeg)] w Q)) ∧ (¬ (x4 = 0) → (vp_in x1 20 ∧ Gw zs 1 m_Md_sing 116 [some (.inr (.inl (some 155))), some (.inl x1), some (.inl x2), some (.inl x3), some (.inl x4), some (.inl s0), o6, o7, o8, o9, o10, o11] [.inl (w 194 x1.toNatClampNeg)] w Q)))) : Gw zs 1 m_Md_sing 94 [some (.inr (.inl (some 155))), some (.inl x1), some (.inl x2), some (.inl x3), some (.inl x4), o5, o6, o7, o8, o9, o10, o11] [.inl s0] w Q := by
  refine gw_istore [some (.inr (.inl (some 155))), some (.inl x1), some (.inl x2), some (.inl x3), some (.inl x4), some (.inl s0), o6, o7, o8, o9, o10, o11] k_Md_sing f_Md_sing_94 (Nat.le_of_ble_eq_true rfl) rfl ?_
  refine gw_iload k_Md_sing f_Md_sing_96 rfl ?_
  refine gw_if_ne (t := 110) k_Md_sing f_Md_sing_98 rfl (fun c1 => ?_) (fun c1 => ?_)
  · have h := h.2 c1
    refine gw_aload_n k_Md_sing f_Md_sing_110 rfl ?_
    refine gw_getR k_Md_sing f_Md_sing_111 l_fldT_11_243 hc155 rfl ?_
    refine gw_iload_n k_Md_sing f_Md_sing_114 rfl ?_
    have hp := h.1
    have h := h.2
    refine gw_iald k_Md_sing f_Md_sing_115 hc194 hp ?_
    exact h
  · have c1 := Decidable.not_not.mp c1
    have h := h.1 c1
    refine gw_aload_n k_Md_sing f_Md_sing_101 rfl ?_
    refine gw_getR k_Md_sing f_Md_sing_102 l_fldT_11_249 hc155 rfl ?_
    refine gw_iload_n k_Md_sing f_Md_sing_105 rfl ?_
    have hp := h.1
    have h := h.2
    refine gw_iald k_Md_sing f_Md_sing_106 hc196 hp ?_
    refine gw_goto (t := 116) k_Md_sing f_Md_sing_107 rfl ?_
    exact h
theorem sg_Md_sing_116 {zs : List Int32} {x1 x2 x3 x4 x5 s0 : Int32} {o6 o7 o8 o9 o10 o11 : Option AV} {w : Wd} {Q : Option AV → Wd → Prop} (h : Ew zs 0 m_Md_isStressed [.inr (.inl (some 155)), .inl x1, .inl x5, .inl ((s0 - x5) - 2)] w (fun v w2 => ∃ r1 : Int32, v = some (.inl r1) ∧ ((r1 = 0 → Ew zs 0 m_Md_isStressed [.inr (.inl (some 155)), .inl x1, .inl x5, .inl ((s0 - x5) - 3)] w2 (fun v w5 => ∃ r4 : Int32, v = some (.inl r4) ∧ ((r4 = 0 → Gw zs 1 m_Md_sing 174 [some (.inr (.inl (some 155))), some (.inl x1), some (.inl x2), some (.inl x3), some (.inl x4), some (.inl x5), some (.inl (s0 - x5)), some (.inl (x3 - x5)), o8, o9, o10, o11] [.inl (f_Md_lastBut (s0 - x5))] w5 Q) ∧ (¬ (r4 = 0) → Gw zs 1 m_Md_sing 174 [some (.inr (.inl (some 155))), some (.inl x1), some (.inl x2), some (.inl x3), some (.inl x4), some (.inl x5), some (.inl (s0 - x5)), some (.inl (x3 - x5)), o8, o9, o10, o11] [.inl ((s0 - x5) - 3)] w5 Q)))) ∧ (¬ (r1 = 0) → Gw zs 1 m_Md_sing 174 [some (.inr (.inl (some 155))), some (.inl x1), some (.inl x2), some (.inl x3), some (.inl x4), some (.inl x5), some (.inl (s0 - x5)), some (.inl (x3 - x5)), o8, o9, o10, o11] [.inl ((s0 - x5) - 2)] w2 Q)))) : Gw zs 1 m_Md_sing 116 [some (.inr (.inl (some 155))), some (.inl x1), some (.inl x2), some (.inl x3), some (.inl x4), some (.inl x5), o6, o7, o8, o9, o10, o11] [.inl s0] w Q := by
  refine gw_iload k_Md_sing f_Md_sing_116 rfl ?_
  refine gw_isub k_Md_sing f_Md_sing_118 ?_
  refine gw_istore [some (.inr (.inl (some 155))), some (.inl x1), some (.inl x2), some (.inl x3), some (.inl x4), some (.inl x5), some (.inl (s0 - x5)), o7, o8, o9, o10, o11] k_Md_sing f_Md_sing_119 (Nat.le_of_ble_eq_true rfl) rfl ?_
  refine gw_iload_n k_Md_sing f_Md_sing_121 rfl ?_
  refine gw_iload k_Md_sing f_Md_sing_122 rfl ?_
  refine gw_isub k_Md_sing f_Md_sing_124 ?_
  refine gw_istore [some (.inr (.inl (some 155))), some (.inl x1), some (.inl x2), some (.inl x3), some (.inl x4), some (.inl x5), some (.inl (s0 - x5)), some (.inl (x3 - x5)), o8, o9, o10, o11] k_Md_sing f_Md_sing_125 (Nat.le_of_ble_eq_true rfl) rfl ?_
  refine gw_aload_n k_Md_sing f_Md_sing_127 rfl ?_
  refine gw_iload_n k_Md_sing f_Md_sing_128 rfl ?_
  refine gw_iload k_Md_sing f_Md_sing_129 rfl ?_
  refine gw_iload k_Md_sing f_Md_sing_131 rfl ?_
  refine gw_iconst k_Md_sing f_Md_sing_133 qc_2 ?_
  refine gw_isub k_Md_sing f_Md_sing_134 ?_
  refine gw_virtual [.inl x1, .inl x5, .inl ((s0 - x5) - 2)] k_Md_sing f_Md_sing_135 l_invT_11_300 k_Md_isStressed hc155 rfl rfl rfl (by exact Nat.le_of_ble_eq_true rfl) (dc := 0) (by decide) ?_ rfl
  refine h.mono (fun v w2 hh => ?_)
  obtain ⟨r1, rfl, h⟩ := hh
  show Gw zs 1 m_Md_sing 138 [some (.inr (.inl (some 155))), some (.inl x1), some (.inl x2), some (.inl x3), some (.inl x4), some (.inl x5), some (.inl (s0 - x5)), some (.inl (x3 - x5)), o8, o9, o10, o11] [.inl r1] w2 _
  refine gw_if_eq (t := 148) k_Md_sing f_Md_sing_138 rfl (fun c3 => ?_) (fun c3 => ?_)
  · have h := h.1 c3
    refine gw_aload_n k_Md_sing f_Md_sing_148 rfl ?_
    refine gw_iload_n k_Md_sing f_Md_sing_149 rfl ?_
    refine gw_iload k_Md_sing f_Md_sing_150 rfl ?_
    refine gw_iload k_Md_sing f_Md_sing_152 rfl ?_
    refine gw_iconst k_Md_sing f_Md_sing_154 qc_3 ?_
    refine gw_isub k_Md_sing f_Md_sing_155 ?_
    refine gw_virtual [.inl x1, .inl x5, .inl ((s0 - x5) - 3)] k_Md_sing f_Md_sing_156 l_invT_11_300 k_Md_isStressed hc155 rfl rfl rfl (by exact Nat.le_of_ble_eq_true rfl) (dc := 0) (by decide) ?_ rfl
    refine h.mono (fun v w5 hh => ?_)
    obtain ⟨r4, rfl, h⟩ := hh
    show Gw zs 1 m_Md_sing 159 [some (.inr (.inl (some 155))), some (.inl x1), some (.inl x2), some (.inl x3), some (.inl x4), some (.inl x5), some (.inl (s0 - x5)), some (.inl (x3 - x5)), o8, o9, o10, o11] [.inl r4] w5 _
    refine gw_if_eq (t := 169) k_Md_sing f_Md_sing_159 rfl (fun c6 => ?_) (fun c6 => ?_)
    · have h := h.1 c6
      refine gw_iload k_Md_sing f_Md_sing_169 rfl ?_
      refine gw_static [.inl (s0 - x5)] k_Md_sing f_Md_sing_171 l_invT_11_303 (by decide) k_Md_lastBut rfl (by exact Nat.le_of_ble_eq_true rfl) (dc := 0) (by decide) ?_ rfl
      refine ev_Md_lastBut ?_
      show Gw zs 1 m_Md_sing 174 [some (.inr (.inl (some 155))), some (.inl x1), some (.inl x2), some (.inl x3), some (.inl x4), some (.inl x5), some (.inl (s0 - x5)), some (.inl (x3 - x5)), o8, o9, o10, o11] [.inl (f_Md_lastBut (s0 - x5))] w5 _
      exact h
    · have h := h.2 c6
      refine gw_iload k_Md_sing f_Md_sing_162 rfl ?_
      refine gw_iconst k_Md_sing f_Md_sing_164 qc_3 ?_
      refine gw_isub k_Md_sing f_Md_sing_165 ?_
      refine gw_goto (t := 174) k_Md_sing f_Md_sing_166 rfl ?_
      exact h
  · have h := h.2 c3
    refine gw_iload k_Md_sing f_Md_sing_141 rfl ?_
    refine gw_iconst k_Md_sing f_Md_sing_143 qc_2 ?_
    refine gw_isub k_Md_sing f_Md_sing_144 ?_
    refine gw_goto (t := 174) k_Md_sing f_Md_sing_145 rfl ?_
    exact h
theorem sg_Md_sing_174 {zs : List Int32} {x1 x2 x4 x5 x6 x7 s0 : Int32} {o3 o8 o9 o10 o11 : Option AV} {w : Wd} {Q : Option AV → Wd → Prop} (h : (vp_in ((2 * x2) + x4) 18 ∧ (((w 192 (((2 * x2) + x4).toNatClampNeg)) = 0 → Gw zs 1 m_Md_sing 248 [some (.inr (.inl (some 155))), some (.inl x1), some (.inl x2), o3, some (.inl x4), some (.inl x5), some (.inl x6), some (.inl x7), some (.inl s0), some (.inl s0), o10, o11] [] w Q) ∧ (¬ ((w 192 (((2 * x2) + x4).toNatClampNeg)) = 0) → ((s0 ≤ 1 → Gw zs 1 m_Md_sing 248 [some (.inr (.inl (some 155))), some (.inl x1), some (.inl x2), o3, some (.inl x4), some (.inl x5), some (.inl x6), some (.inl x7), some (.inl s0), some (.inl s0), o10, o11] [] w Q) ∧ (¬ (s0 ≤ 1) → Ew zs 0 m_Md_isStressed [.inr (.inl (some 155)), .inl x1, .inl x5, .inl (s0 - 2)] w (fun v w4 => ∃ r3 : Int32, v = some (.inl r3) ∧ ((r3 = 0 → Ew zs 0 m_Md_isStressed [.inr (.inl (some 155)), .inl x1, .inl x5, .inl (s0 - 3)] w4 (fun v w7 => ∃ r6 : Int32, v = some (.inl r6) ∧ ((r6 = 0 → Gw zs 1 m_Md_sing 246 [some (.inr (.inl (some 155))), some (.inl x1), some (.inl x2), o3, some (.inl x4), some (.inl x5), some (.inl x6), some (.inl x7), some (.inl s0), some (.inl s0), o10, o11] [.inl (s0 - 2)] w7 Q) ∧ (¬ (r6 = 0) → Gw zs 1 m_Md_sing 246 [some (.inr (.inl (some 155))), some (.inl x1), some (.inl x2), o3, some (.inl x4), some (.inl x5), some (.inl x6), some (.inl x7), some (.inl s0), some (.inl s0), o10, o11] [.inl (s0 - 3)] w7 Q)))) ∧ (¬ (r3 = 0) → Gw zs 1 m_Md_sing 246 [some (.inr (.inl (some 155))), some (.inl x1), some (.inl x2), o3, some (.inl x4), some (.inl x5), some (.inl x6), some (.inl x7), some (.inl s0), some (.inl s0), o10, o11] [.inl (s0 - 2)] w4 Q))))))))) : Gw zs 1 m_Md_sing 174 [some (.inr (.inl (some 155))), some (.inl x1), some (.inl x2), o3, some (.inl x4), some (.inl x5), some (.inl x6), some (.inl x7), o8, o9, o10, o11] [.inl s0] w Q := by
  refine gw_istore [some (.inr (.inl (some 155))), some (.inl x1), some (.inl x2), o3, some (.inl x4), some (.inl x5), some (.inl x6), some (.inl x7), some (.inl s0), o9, o10, o11] k_Md_sing f_Md_sing_174 (Nat.le_of_ble_eq_true rfl) rfl ?_
  refine gw_iload k_Md_sing f_Md_sing_176 rfl ?_
  refine gw_istore [some (.inr (.inl (some 155))), some (.inl x1), some (.inl x2), o3, some (.inl x4), some (.inl x5), some (.inl x6), some (.inl x7), some (.inl s0), some (.inl s0), o10, o11] k_Md_sing f_Md_sing_178 (Nat.le_of_ble_eq_true rfl) rfl ?_
  refine gw_aload_n k_Md_sing f_Md_sing_180 rfl ?_
  refine gw_getR k_Md_sing f_Md_sing_181 l_fldT_11_237 hc155 rfl ?_
  refine gw_iconst k_Md_sing f_Md_sing_184 qc_2 ?_
  refine gw_iload_n k_Md_sing f_Md_sing_185 rfl ?_
  refine gw_imul k_Md_sing f_Md_sing_186 ?_
  refine gw_iload k_Md_sing f_Md_sing_187 rfl ?_
  refine gw_iadd k_Md_sing f_Md_sing_189 ?_
  have hp := h.1
  have h := h.2
  refine gw_zald k_Md_sing f_Md_sing_190 hc192 hp ?_
  refine gw_if_eq (t := 248) k_Md_sing f_Md_sing_191 rfl (fun c1 => ?_) (fun c1 => ?_)
  · have h := h.1 c1
    exact h
  · have h := h.2 c1
    refine gw_iload k_Md_sing f_Md_sing_194 rfl ?_
    refine gw_iconst k_Md_sing f_Md_sing_196 qc_1 ?_
    refine gw_icmp_le (t := 248) k_Md_sing f_Md_sing_197 rfl (fun c2 => ?_) (fun c2 => ?_)
    · have h := h.1 c2
      exact h
    · have h := h.2 c2
      refine gw_aload_n k_Md_sing f_Md_sing_200 rfl ?_
      refine gw_iload_n k_Md_sing f_Md_sing_201 rfl ?_
      refine gw_iload k_Md_sing f_Md_sing_202 rfl ?_
      refine gw_iload k_Md_sing f_Md_sing_204 rfl ?_
      refine gw_iconst k_Md_sing f_Md_sing_206 qc_2 ?_
      refine gw_isub k_Md_sing f_Md_sing_207 ?_
      refine gw_virtual [.inl x1, .inl x5, .inl (s0 - 2)] k_Md_sing f_Md_sing_208 l_invT_11_300 k_Md_isStressed hc155 rfl rfl rfl (by exact Nat.le_of_ble_eq_true rfl) (dc := 0) (by decide) ?_ rfl
      refine h.mono (fun v w4 hh => ?_)
      obtain ⟨r3, rfl, h⟩ := hh
      show Gw zs 1 m_Md_sing 211 [some (.inr (.inl (some 155))), some (.inl x1), some (.inl x2), o3, some (.inl x4), some (.inl x5), some (.inl x6), some (.inl x7), some (.inl s0), some (.inl s0), o10, o11] [.inl r3] w4 _
      refine gw_if_eq (t := 221) k_Md_sing f_Md_sing_211 rfl (fun c5 => ?_) (fun c5 => ?_)
      · have h := h.1 c5
        refine gw_aload_n k_Md_sing f_Md_sing_221 rfl ?_
        refine gw_iload_n k_Md_sing f_Md_sing_222 rfl ?_
        refine gw_iload k_Md_sing f_Md_sing_223 rfl ?_
        refine gw_iload k_Md_sing f_Md_sing_225 rfl ?_
        refine gw_iconst k_Md_sing f_Md_sing_227 qc_3 ?_
        refine gw_isub k_Md_sing f_Md_sing_228 ?_
        refine gw_virtual [.inl x1, .inl x5, .inl (s0 - 3)] k_Md_sing f_Md_sing_229 l_invT_11_300 k_Md_isStressed hc155 rfl rfl rfl (by exact Nat.le_of_ble_eq_true rfl) (dc := 0) (by decide) ?_ rfl
        refine h.mono (fun v w7 hh => ?_)
        obtain ⟨r6, rfl, h⟩ := hh
        show Gw zs 1 m_Md_sing 232 [some (.inr (.inl (some 155))), some (.inl x1), some (.inl x2), o3, some (.inl x4), some (.inl x5), some (.inl x6), some (.inl x7), some (.inl s0), some (.inl s0), o10, o11] [.inl r6] w7 _
        refine gw_if_eq (t := 242) k_Md_sing f_Md_sing_232 rfl (fun c8 => ?_) (fun c8 => ?_)
        · have h := h.1 c8
          refine gw_iload k_Md_sing f_Md_sing_242 rfl ?_
          refine gw_iconst k_Md_sing f_Md_sing_244 qc_2 ?_
          refine gw_isub k_Md_sing f_Md_sing_245 ?_
          exact h
        · have h := h.2 c8
          refine gw_iload k_Md_sing f_Md_sing_235 rfl ?_
          refine gw_iconst k_Md_sing f_Md_sing_237 qc_3 ?_
          refine gw_isub k_Md_sing f_Md_sing_238 ?_
          refine gw_goto (t := 246) k_Md_sing f_Md_sing_239 rfl ?_
          exact h
      · have h := h.2 c5
        refine gw_iload k_Md_sing f_Md_sing_214 rfl ?_
        refine gw_iconst k_Md_sing f_Md_sing_216 qc_2 ?_
        refine gw_isub k_Md_sing f_Md_sing_217 ?_
        refine gw_goto (t := 246) k_Md_sing f_Md_sing_218 rfl ?_
        exact h
theorem sg_Md_sing_246 {zs : List Int32} {x2 x4 x5 x6 x7 x8 s0 : Int32} {o1 o3 o9 o10 o11 : Option AV} {w : Wd} {Q : Option AV → Wd → Prop} (h : Gw zs 1 m_Md_sing 248 [some (.inr (.inl (some 155))), o1, some (.inl x2), o3, some (.inl x4), some (.inl x5), some (.inl x6), some (.inl x7), some (.inl x8), some (.inl s0), o10, o11] [] w Q) : Gw zs 1 m_Md_sing 246 [some (.inr (.inl (some 155))), o1, some (.inl x2), o3, some (.inl x4), some (.inl x5), some (.inl x6), some (.inl x7), some (.inl x8), o9, o10, o11] [.inl s0] w Q := by
  refine gw_istore [some (.inr (.inl (some 155))), o1, some (.inl x2), o3, some (.inl x4), some (.inl x5), some (.inl x6), some (.inl x7), some (.inl x8), some (.inl s0), o10, o11] k_Md_sing f_Md_sing_246 (Nat.le_of_ble_eq_true rfl) rfl ?_
  exact h
theorem sg_Md_sing_248 {zs : List Int32} {x2 x4 x5 x6 x7 x8 x9 : Int32} {o1 o3 o10 o11 : Option AV} {w : Wd} {Q : Option AV → Wd → Prop} (h : ((x7 < x8 → ((x7 < x9 → (vp_in (((3 * x2) + 1) + x4) 27 ∧ (((w 190 ((((3 * x2) + 1) + x4).toNatClampNeg)) < (x9 - x7) → ((x5 = 0 → (vp_in (3 * x2) 27 ∧ (((w 190 ((3 * x2).toNatClampNeg)) ≤ x7 → Gw zs 1 m_Md_sing 385 [some (.inr (.inl (some 155))), o1, some (.inl x2), o3, some (.inl x4), some (.inl x5), some (.inl x6), some (.inl x7), some (.inl x8), some (.inl x9), some (.inl (((3 * x2) + 1) + x4)), some (.inl (w 190 ((((3 * x2) + 1) + x4).toNatClampNeg)))] [] w Q) ∧ (¬ ((w 190 ((3 * x2).toNatClampNeg)) ≤ x7) → (vp_in ((12 * x2) + x7) 108 ∧ Gw zs 1 m_Md_sing 391 [some (.inr (.inl (some 155))), o1, some (.inl x2), o3, some (.inl x4), some (.inl x5), some (.inl x6), some (.inl x7), some (.inl x8), some (.inl x9), some (.inl (((3 * x2) + 1) + x4)), some (.inl (w 190 ((((3 * x2) + 1) + x4).toNatClampNeg)))] [.inl (w 191 (((12 * x2) + x7).toNatClampNeg))] w Q))))) ∧ (¬ (x5 = 0) → Gw zs 1 m_Md_sing 385 [some (.inr (.inl (some 155))), o1, some (.inl x2), o3, some (.inl x4), some (.inl x5), some (.inl x6), some (.inl x7), some (.inl x8), some (.inl x9), some (.inl (((3 * x2) + 1) + x4)), some (.inl (w 190 ((((3 * x2) + 1) + x4).toNatClampNeg)))] [] w Q))) ∧ (¬ ((w 190 ((((3 * x2) + 1) + x4).toNatClampNeg)) < (x9 - x7)) → (vp_in (((4 * (((3 * x2) + 1) + x4)) + (w 190 ((((3 * x2) + 1) + x4).toNatClampNeg))) - (x9 - x7)) 108 ∧ Q (some (.inl (w 191 ((((4 * (((3 * x2) + 1) + x4)) + (w 190 ((((3 * x2) + 1) + x4).toNatClampNeg))) - (x9 - x7)).toNatClampNeg)))) w))))) ∧ (¬ (x7 < x9) → Ew zs 0 m_Md_byAccent [.inr (.inl (some 155)), .inl x2, .inl x4, .inl 0, .inl (x7 - x9), .inl ((x8 - x9) - 1)] w (fun v w7 => ∃ r6 : Int32, v = some (.inl r6) ∧ Q (some (.inl r6)) w7)))) ∧ (¬ (x7 < x8) → Ew zs 0 m_Md_byAccent [.inr (.inl (some 155)), .inl x2, .inl x4, .inl 1, .inl (x7 - x8), .inl ((x6 - 1) - x8)] w (fun v w9 => ∃ r8 : Int32, v = some (.inl r8) ∧ Q (some (.inl r8)) w9)))) : Gw zs 1 m_Md_sing 248 [some (.inr (.inl (some 155))), o1, some (.inl x2), o3, some (.inl x4), some (.inl x5), some (.inl x6), some (.inl x7), some (.inl x8), some (.inl x9), o10, o11] [] w Q := by
  refine gw_iload k_Md_sing f_Md_sing_248 rfl ?_
  refine gw_iload k_Md_sing f_Md_sing_250 rfl ?_
  refine gw_icmp_lt (t := 276) k_Md_sing f_Md_sing_252 rfl (fun c1 => ?_) (fun c1 => ?_)
  · have h := h.1 c1
    refine gw_iload k_Md_sing f_Md_sing_276 rfl ?_
    refine gw_iload k_Md_sing f_Md_sing_278 rfl ?_
    refine gw_icmp_lt (t := 304) k_Md_sing f_Md_sing_280 rfl (fun c2 => ?_) (fun c2 => ?_)
    · have h := h.1 c2
      refine gw_iconst k_Md_sing f_Md_sing_304 qc_3 ?_
      refine gw_iload_n k_Md_sing f_Md_sing_305 rfl ?_
      refine gw_imul k_Md_sing f_Md_sing_306 ?_
      refine gw_iconst k_Md_sing f_Md_sing_307 qc_1 ?_
      refine gw_iadd k_Md_sing f_Md_sing_308 ?_
      refine gw_iload k_Md_sing f_Md_sing_309 rfl ?_
      refine gw_iadd k_Md_sing f_Md_sing_311 ?_
      refine gw_istore [some (.inr (.inl (some 155))), o1, some (.inl x2), o3, some (.inl x4), some (.inl x5), some (.inl x6), some (.inl x7), some (.inl x8), some (.inl x9), some (.inl (((3 * x2) + 1) + x4)), o11] k_Md_sing f_Md_sing_312 (Nat.le_of_ble_eq_true rfl) rfl ?_
      refine gw_aload_n k_Md_sing f_Md_sing_314 rfl ?_
      refine gw_getR k_Md_sing f_Md_sing_315 l_fldT_11_231 hc155 rfl ?_
      refine gw_iload k_Md_sing f_Md_sing_318 rfl ?_
      have hp := h.1
      have h := h.2
      refine gw_iald k_Md_sing f_Md_sing_320 hc190 hp ?_
      refine gw_istore [some (.inr (.inl (some 155))), o1, some (.inl x2), o3, some (.inl x4), some (.inl x5), some (.inl x6), some (.inl x7), some (.inl x8), some (.inl x9), some (.inl (((3 * x2) + 1) + x4)), some (.inl (w 190 ((((3 * x2) + 1) + x4).toNatClampNeg)))] k_Md_sing f_Md_sing_321 (Nat.le_of_ble_eq_true rfl) rfl ?_
      refine gw_iload k_Md_sing f_Md_sing_323 rfl ?_
      refine gw_iload k_Md_sing f_Md_sing_325 rfl ?_
      refine gw_isub k_Md_sing f_Md_sing_327 ?_
      refine gw_iload k_Md_sing f_Md_sing_328 rfl ?_
      refine gw_icmp_gt (t := 352) k_Md_sing f_Md_sing_330 rfl (fun c3 => ?_) (fun c3 => ?_)
      · have h := h.1 c3
        refine gw_iload k_Md_sing f_Md_sing_352 rfl ?_
        refine gw_if_ne (t := 385) k_Md_sing f_Md_sing_354 rfl (fun c4 => ?_) (fun c4 => ?_)
        · have h := h.2 c4
          exact h
        · have c4 := Decidable.not_not.mp c4
          have h := h.1 c4
          refine gw_iload k_Md_sing f_Md_sing_357 rfl ?_
          refine gw_aload_n k_Md_sing f_Md_sing_359 rfl ?_
          refine gw_getR k_Md_sing f_Md_sing_360 l_fldT_11_231 hc155 rfl ?_
          refine gw_iconst k_Md_sing f_Md_sing_363 qc_3 ?_
          refine gw_iload_n k_Md_sing f_Md_sing_364 rfl ?_
          refine gw_imul k_Md_sing f_Md_sing_365 ?_
          have hp := h.1
          have h := h.2
          refine gw_iald k_Md_sing f_Md_sing_366 hc190 hp ?_
          refine gw_icmp_ge (t := 385) k_Md_sing f_Md_sing_367 rfl (fun c5 => ?_) (fun c5 => ?_)
          · have h := h.1 c5
            exact h
          · have h := h.2 c5
            refine gw_aload_n k_Md_sing f_Md_sing_370 rfl ?_
            refine gw_getR k_Md_sing f_Md_sing_371 l_fldT_11_234 hc155 rfl ?_
            refine gw_bipush k_Md_sing f_Md_sing_374 qb_12 ?_
            refine gw_iload_n k_Md_sing f_Md_sing_376 rfl ?_
            refine gw_imul k_Md_sing f_Md_sing_377 ?_
            refine gw_iload k_Md_sing f_Md_sing_378 rfl ?_
            refine gw_iadd k_Md_sing f_Md_sing_380 ?_
            have hp := h.1
            have h := h.2
            refine gw_iald k_Md_sing f_Md_sing_381 hc191 hp ?_
            refine gw_goto (t := 391) k_Md_sing f_Md_sing_382 rfl ?_
            exact h
      · have h := h.2 c3
        refine gw_aload_n k_Md_sing f_Md_sing_333 rfl ?_
        refine gw_getR k_Md_sing f_Md_sing_334 l_fldT_11_234 hc155 rfl ?_
        refine gw_iconst k_Md_sing f_Md_sing_337 qc_4 ?_
        refine gw_iload k_Md_sing f_Md_sing_338 rfl ?_
        refine gw_imul k_Md_sing f_Md_sing_340 ?_
        refine gw_iload k_Md_sing f_Md_sing_341 rfl ?_
        refine gw_iadd k_Md_sing f_Md_sing_343 ?_
        refine gw_iload k_Md_sing f_Md_sing_344 rfl ?_
        refine gw_iload k_Md_sing f_Md_sing_346 rfl ?_
        refine gw_isub k_Md_sing f_Md_sing_348 ?_
        refine gw_isub k_Md_sing f_Md_sing_349 ?_
        have hp := h.1
        have h := h.2
        refine gw_iald k_Md_sing f_Md_sing_350 hc191 hp ?_
        exact gw_iret k_Md_sing f_Md_sing_351 rfl h
    · have h := h.2 c2
      refine gw_aload_n k_Md_sing f_Md_sing_283 rfl ?_
      refine gw_iload_n k_Md_sing f_Md_sing_284 rfl ?_
      refine gw_iload k_Md_sing f_Md_sing_285 rfl ?_
      refine gw_iconst k_Md_sing f_Md_sing_287 qc_0 ?_
      refine gw_iload k_Md_sing f_Md_sing_288 rfl ?_
      refine gw_iload k_Md_sing f_Md_sing_290 rfl ?_
      refine gw_isub k_Md_sing f_Md_sing_292 ?_
      refine gw_iload k_Md_sing f_Md_sing_293 rfl ?_
      refine gw_iload k_Md_sing f_Md_sing_295 rfl ?_
      refine gw_isub k_Md_sing f_Md_sing_297 ?_
      refine gw_iconst k_Md_sing f_Md_sing_298 qc_1 ?_
      refine gw_isub k_Md_sing f_Md_sing_299 ?_
      refine gw_virtual [.inl x2, .inl x4, .inl 0, .inl (x7 - x9), .inl ((x8 - x9) - 1)] k_Md_sing f_Md_sing_300 l_invT_11_306 k_Md_byAccent hc155 rfl rfl rfl (by exact Nat.le_of_ble_eq_true rfl) (dc := 0) (by decide) ?_ rfl
      refine h.mono (fun v w7 hh => ?_)
      obtain ⟨r6, rfl, h⟩ := hh
      show Gw zs 1 m_Md_sing 303 [some (.inr (.inl (some 155))), o1, some (.inl x2), o3, some (.inl x4), some (.inl x5), some (.inl x6), some (.inl x7), some (.inl x8), some (.inl x9), o10, o11] [.inl r6] w7 _
      exact gw_iret k_Md_sing f_Md_sing_303 rfl h
  · have h := h.2 c1
    refine gw_aload_n k_Md_sing f_Md_sing_255 rfl ?_
    refine gw_iload_n k_Md_sing f_Md_sing_256 rfl ?_
    refine gw_iload k_Md_sing f_Md_sing_257 rfl ?_
    refine gw_iconst k_Md_sing f_Md_sing_259 qc_1 ?_
    refine gw_iload k_Md_sing f_Md_sing_260 rfl ?_
    refine gw_iload k_Md_sing f_Md_sing_262 rfl ?_
    refine gw_isub k_Md_sing f_Md_sing_264 ?_
    refine gw_iload k_Md_sing f_Md_sing_265 rfl ?_
    refine gw_iconst k_Md_sing f_Md_sing_267 qc_1 ?_
    refine gw_isub k_Md_sing f_Md_sing_268 ?_
    refine gw_iload k_Md_sing f_Md_sing_269 rfl ?_
    refine gw_isub k_Md_sing f_Md_sing_271 ?_
    refine gw_virtual [.inl x2, .inl x4, .inl 1, .inl (x7 - x8), .inl ((x6 - 1) - x8)] k_Md_sing f_Md_sing_272 l_invT_11_306 k_Md_byAccent hc155 rfl rfl rfl (by exact Nat.le_of_ble_eq_true rfl) (dc := 0) (by decide) ?_ rfl
    refine h.mono (fun v w9 hh => ?_)
    obtain ⟨r8, rfl, h⟩ := hh
    show Gw zs 1 m_Md_sing 275 [some (.inr (.inl (some 155))), o1, some (.inl x2), o3, some (.inl x4), some (.inl x5), some (.inl x6), some (.inl x7), some (.inl x8), some (.inl x9), o10, o11] [.inl r8] w9 _
    exact gw_iret k_Md_sing f_Md_sing_275 rfl h
theorem sg_Md_sing_385 {zs : List Int32} {x2 : Int32} {o1 o3 o4 o5 o6 o7 o8 o9 o10 o11 : Option AV} {w : Wd} {Q : Option AV → Wd → Prop} (h : (vp_in x2 9 ∧ Gw zs 1 m_Md_sing 391 [some (.inr (.inl (some 155))), o1, some (.inl x2), o3, o4, o5, o6, o7, o8, o9, o10, o11] [.inl (w 189 x2.toNatClampNeg)] w Q)) : Gw zs 1 m_Md_sing 385 [some (.inr (.inl (some 155))), o1, some (.inl x2), o3, o4, o5, o6, o7, o8, o9, o10, o11] [] w Q := by
  refine gw_aload_n k_Md_sing f_Md_sing_385 rfl ?_
  refine gw_getR k_Md_sing f_Md_sing_386 l_fldT_11_228 hc155 rfl ?_
  refine gw_iload_n k_Md_sing f_Md_sing_389 rfl ?_
  have hp := h.1
  have h := h.2
  refine gw_iald k_Md_sing f_Md_sing_390 hc189 hp ?_
  exact h
theorem sg_Md_sing_391 {zs : List Int32} {s0 : Int32} {o0 o1 o2 o3 o4 o5 o6 o7 o8 o9 o10 o11 : Option AV} {w : Wd} {Q : Option AV → Wd → Prop} (h : Q (some (.inl s0)) w) : Gw zs 1 m_Md_sing 391 [o0, o1, o2, o3, o4, o5, o6, o7, o8, o9, o10, o11] [.inl s0] w Q := by
  exact gw_iret k_Md_sing f_Md_sing_391 rfl h
theorem sg_Md_monk_0 {zs : List Int32} {a0 : Int32} {w : Wd} {Q : Option AV → Wd → Prop} (h : (((w 155 52) = 24 → Q (some (.inl (-1))) w) ∧ (¬ ((w 155 52) = 24) → (((f_Md_in a0 0 7) = 0 → Q (some (.inl (-1))) w) ∧ (¬ ((f_Md_in a0 0 7) = 0) → (vp_in (w 155 52) 24 ∧ Gw zs 1 m_Md_monk 33 [some (.inr (.inl (some 155))), some (.inl a0), some (.inl 0)] [] (wr w 197 ((w 155 52).toNatClampNeg) a0) Q)))))) : Gw zs 1 m_Md_monk 0 [some (.inr (.inl (some 155))), some (.inl a0), none] [] w Q := by
  refine gw_aload_n k_Md_monk f_Md_monk_0 rfl ?_
  refine gw_getI k_Md_monk f_Md_monk_1 l_fldT_11_310 hc155 rfl ?_
  refine gw_bipush k_Md_monk f_Md_monk_4 qb_24 ?_
  refine gw_icmp_eq (t := 19) k_Md_monk f_Md_monk_6 rfl (fun c1 => ?_) (fun c1 => ?_)
  · have h := h.1 c1
    refine gw_iconst k_Md_monk f_Md_monk_19 qc_m1 ?_
    exact gw_iret k_Md_monk f_Md_monk_20 rfl h
  · have h := h.2 c1
    refine gw_iload_n k_Md_monk f_Md_monk_9 rfl ?_
    refine gw_iconst k_Md_monk f_Md_monk_10 qc_0 ?_
    refine gw_bipush k_Md_monk f_Md_monk_11 qb_7 ?_
    refine gw_static [.inl a0, .inl 0, .inl 7] k_Md_monk f_Md_monk_13 l_invT_11_1 (by decide) k_Md_in rfl (by exact Nat.le_of_ble_eq_true rfl) (dc := 0) (by decide) ?_ rfl
    refine ev_Md_in ?_
    show Gw zs 1 m_Md_monk 16 [some (.inr (.inl (some 155))), some (.inl a0), none] [.inl (f_Md_in a0 0 7)] w _
    refine gw_if_ne (t := 21) k_Md_monk f_Md_monk_16 rfl (fun c2 => ?_) (fun c2 => ?_)
    · have h := h.2 c2
      refine gw_aload_n k_Md_monk f_Md_monk_21 rfl ?_
      refine gw_getR k_Md_monk f_Md_monk_22 l_fldT_11_252 hc155 rfl ?_
      refine gw_aload_n k_Md_monk f_Md_monk_25 rfl ?_
      refine gw_getI k_Md_monk f_Md_monk_26 l_fldT_11_310 hc155 rfl ?_
      refine gw_iload_n k_Md_monk f_Md_monk_29 rfl ?_
      have hp := h.1
      have h := h.2
      refine gw_iast k_Md_monk f_Md_monk_30 hc197 hp ?_
      refine gw_iconst k_Md_monk f_Md_monk_31 qc_0 ?_
      refine gw_istore_n [some (.inr (.inl (some 155))), some (.inl a0), some (.inl 0)] k_Md_monk f_Md_monk_32 (Nat.le_of_ble_eq_true rfl) rfl ?_
      exact h
    · have c2 := Decidable.not_not.mp c2
      have h := h.1 c2
      refine gw_iconst k_Md_monk f_Md_monk_19 qc_m1 ?_
      exact gw_iret k_Md_monk f_Md_monk_20 rfl h
theorem sg_Md_monk_33 {zs : List Int32} {x2 : Int32} {o1 : Option AV} {w : Wd} {Q : Option AV → Wd → Prop} (h : ((3 ≤ x2 → Q (some (.inl (((w 155 52) + 1) - 1))) (wr w 155 52 ((w 155 52) + 1))) ∧ (¬ (3 ≤ x2) → (vp_in ((3 * (w 155 52)) + x2) 72 ∧ Gw zs 1 m_Md_monk 33 [some (.inr (.inl (some 155))), o1, some (.inl (x2 + 1))] [] (wr w 204 (((3 * (w 155 52)) + x2).toNatClampNeg) 0) Q)))) : Gw zs 1 m_Md_monk 33 [some (.inr (.inl (some 155))), o1, some (.inl x2)] [] w Q := by
  refine gw_iload_n k_Md_monk f_Md_monk_33 rfl ?_
  refine gw_iconst k_Md_monk f_Md_monk_34 qc_3 ?_
  refine gw_icmp_ge (t := 58) k_Md_monk f_Md_monk_35 rfl (fun c1 => ?_) (fun c1 => ?_)
  · have h := h.1 c1
    refine gw_aload_n k_Md_monk f_Md_monk_58 rfl ?_
    refine gw_dup k_Md_monk f_Md_monk_59 ?_
    refine gw_getI k_Md_monk f_Md_monk_60 l_fldT_11_310 hc155 rfl ?_
    refine gw_iconst k_Md_monk f_Md_monk_63 qc_1 ?_
    refine gw_iadd k_Md_monk f_Md_monk_64 ?_
    refine gw_put k_Md_monk f_Md_monk_65 l_fldT_11_310 hc155 rfl rfl rfl rfl rfl ?_
    refine gw_aload_n k_Md_monk f_Md_monk_68 rfl ?_
    refine gw_getI k_Md_monk f_Md_monk_69 l_fldT_11_310 hc155 rfl ?_
    rw [show (wr w 155 52 ((w 155 52) + 1)) 155 52 = (w 155 52) + 1 from wr_eq]
    refine gw_iconst k_Md_monk f_Md_monk_72 qc_1 ?_
    refine gw_isub k_Md_monk f_Md_monk_73 ?_
    exact gw_iret k_Md_monk f_Md_monk_74 rfl h
  · have h := h.2 c1
    refine gw_aload_n k_Md_monk f_Md_monk_38 rfl ?_
    refine gw_getR k_Md_monk f_Md_monk_39 l_fldT_11_273 hc155 rfl ?_
    refine gw_iconst k_Md_monk f_Md_monk_42 qc_3 ?_
    refine gw_aload_n k_Md_monk f_Md_monk_43 rfl ?_
    refine gw_getI k_Md_monk f_Md_monk_44 l_fldT_11_310 hc155 rfl ?_
    refine gw_imul k_Md_monk f_Md_monk_47 ?_
    refine gw_iload_n k_Md_monk f_Md_monk_48 rfl ?_
    refine gw_iadd k_Md_monk f_Md_monk_49 ?_
    refine gw_iconst k_Md_monk f_Md_monk_50 qc_0 ?_
    have hp := h.1
    have h := h.2
    refine gw_iast k_Md_monk f_Md_monk_51 hc204 hp ?_
    refine gw_iinc [some (.inr (.inl (some 155))), o1, some (.inl (x2 + 1))] k_Md_monk f_Md_monk_52 rfl qc_1 (Nat.le_of_ble_eq_true rfl) rfl ?_
    refine gw_goto (t := 33) k_Md_monk f_Md_monk_55 rfl ?_
    exact h
theorem sg_Md_absence_0 {zs : List Int32} {a0 a1 a2 a3 : Int32} {w : Wd} {Q : Option AV → Wd → Prop} (h : (((w 155 53) = 60 → Q (some (.inl (-1))) w) ∧ (¬ ((w 155 53) = 60) → (((f_Md_in a0 0 ((w 155 52) - 1)) = 0 → Q (some (.inl (-1))) w) ∧ (¬ ((f_Md_in a0 0 ((w 155 52) - 1)) = 0) → (((f_Md_isDay a1 a2) = 0 → Q (some (.inl (-1))) w) ∧ (¬ ((f_Md_isDay a1 a2) = 0) → (((f_Md_isDay a1 a3) = 0 → Q (some (.inl (-1))) w) ∧ (¬ ((f_Md_isDay a1 a3) = 0) → ((a2 ≤ a3 → (vp_in (w 155 53) 60 ∧ (vp_in (w 155 53) 60 ∧ (vp_in (w 155 53) 60 ∧ (vp_in (w 155 53) 60 ∧ Q (some (.inl ((w 155 53) + 1))) (wr (wr (wr (wr (wr w 198 ((w 155 53).toNatClampNeg) a0) 199 ((w 155 53).toNatClampNeg) a1) 200 ((w 155 53).toNatClampNeg) a2) 201 ((w 155 53).toNatClampNeg) a3) 155 53 ((w 155 53) + 1))))))) ∧ (¬ (a2 ≤ a3) → Q (some (.inl (-1))) w))))))))))) : Gw zs 3 m_Md_absence 0 [some (.inr (.inl (some 155))), some (.inl a0), some (.inl a1), some (.inl a2), some (.inl a3)] [] w Q := by
  refine gw_aload_n k_Md_absence f_Md_absence_0 rfl ?_
  refine gw_getI k_Md_absence f_Md_absence_1 l_fldT_11_313 hc155 rfl ?_
  refine gw_bipush k_Md_absence f_Md_absence_4 qb_60 ?_
  refine gw_icmp_eq (t := 46) k_Md_absence f_Md_absence_6 rfl (fun c1 => ?_) (fun c1 => ?_)
  · have h := h.1 c1
    refine gw_iconst k_Md_absence f_Md_absence_46 qc_m1 ?_
    exact gw_iret k_Md_absence f_Md_absence_47 rfl h
  · have h := h.2 c1
    refine gw_iload_n k_Md_absence f_Md_absence_9 rfl ?_
    refine gw_iconst k_Md_absence f_Md_absence_10 qc_0 ?_
    refine gw_aload_n k_Md_absence f_Md_absence_11 rfl ?_
    refine gw_getI k_Md_absence f_Md_absence_12 l_fldT_11_310 hc155 rfl ?_
    refine gw_iconst k_Md_absence f_Md_absence_15 qc_1 ?_
    refine gw_isub k_Md_absence f_Md_absence_16 ?_
    refine gw_static [.inl a0, .inl 0, .inl ((w 155 52) - 1)] k_Md_absence f_Md_absence_17 l_invT_11_1 (by decide) k_Md_in rfl (by exact Nat.le_of_ble_eq_true rfl) (dc := 0) (by decide) ?_ rfl
    refine ev_Md_in ?_
    show Gw zs 3 m_Md_absence 20 [some (.inr (.inl (some 155))), some (.inl a0), some (.inl a1), some (.inl a2), some (.inl a3)] [.inl (f_Md_in a0 0 ((w 155 52) - 1))] w _
    refine gw_if_eq (t := 46) k_Md_absence f_Md_absence_20 rfl (fun c2 => ?_) (fun c2 => ?_)
    · have h := h.1 c2
      refine gw_iconst k_Md_absence f_Md_absence_46 qc_m1 ?_
      exact gw_iret k_Md_absence f_Md_absence_47 rfl h
    · have h := h.2 c2
      refine gw_iload_n k_Md_absence f_Md_absence_23 rfl ?_
      refine gw_iload_n k_Md_absence f_Md_absence_24 rfl ?_
      refine gw_static [.inl a1, .inl a2] k_Md_absence f_Md_absence_25 l_invT_11_179 (by decide) k_Md_isDay rfl (by exact Nat.le_of_ble_eq_true rfl) (dc := 2) (by decide) ?_ rfl
      refine ev_Md_isDay ?_
      show Gw zs 3 m_Md_absence 28 [some (.inr (.inl (some 155))), some (.inl a0), some (.inl a1), some (.inl a2), some (.inl a3)] [.inl (f_Md_isDay a1 a2)] w _
      refine gw_if_eq (t := 46) k_Md_absence f_Md_absence_28 rfl (fun c3 => ?_) (fun c3 => ?_)
      · have h := h.1 c3
        refine gw_iconst k_Md_absence f_Md_absence_46 qc_m1 ?_
        exact gw_iret k_Md_absence f_Md_absence_47 rfl h
      · have h := h.2 c3
        refine gw_iload_n k_Md_absence f_Md_absence_31 rfl ?_
        refine gw_iload k_Md_absence f_Md_absence_32 rfl ?_
        refine gw_static [.inl a1, .inl a3] k_Md_absence f_Md_absence_34 l_invT_11_179 (by decide) k_Md_isDay rfl (by exact Nat.le_of_ble_eq_true rfl) (dc := 2) (by decide) ?_ rfl
        refine ev_Md_isDay ?_
        show Gw zs 3 m_Md_absence 37 [some (.inr (.inl (some 155))), some (.inl a0), some (.inl a1), some (.inl a2), some (.inl a3)] [.inl (f_Md_isDay a1 a3)] w _
        refine gw_if_eq (t := 46) k_Md_absence f_Md_absence_37 rfl (fun c4 => ?_) (fun c4 => ?_)
        · have h := h.1 c4
          refine gw_iconst k_Md_absence f_Md_absence_46 qc_m1 ?_
          exact gw_iret k_Md_absence f_Md_absence_47 rfl h
        · have h := h.2 c4
          refine gw_iload_n k_Md_absence f_Md_absence_40 rfl ?_
          refine gw_iload k_Md_absence f_Md_absence_41 rfl ?_
          refine gw_icmp_le (t := 48) k_Md_absence f_Md_absence_43 rfl (fun c5 => ?_) (fun c5 => ?_)
          · have h := h.1 c5
            refine gw_aload_n k_Md_absence f_Md_absence_48 rfl ?_
            refine gw_getR k_Md_absence f_Md_absence_49 l_fldT_11_255 hc155 rfl ?_
            refine gw_aload_n k_Md_absence f_Md_absence_52 rfl ?_
            refine gw_getI k_Md_absence f_Md_absence_53 l_fldT_11_313 hc155 rfl ?_
            refine gw_iload_n k_Md_absence f_Md_absence_56 rfl ?_
            have hp := h.1
            have h := h.2
            refine gw_iast k_Md_absence f_Md_absence_57 hc198 hp ?_
            refine gw_aload_n k_Md_absence f_Md_absence_58 rfl ?_
            refine gw_getR k_Md_absence f_Md_absence_59 l_fldT_11_258 hc155 rfl ?_
            refine gw_aload_n k_Md_absence f_Md_absence_62 rfl ?_
            refine gw_getI k_Md_absence f_Md_absence_63 l_fldT_11_313 hc155 rfl ?_
            rw [show (wr w 198 ((w 155 53).toNatClampNeg) a0) 155 53 = w 155 53 from wr_nc (by decide)]
            refine gw_iload_n k_Md_absence f_Md_absence_66 rfl ?_
            have hp := h.1
            have h := h.2
            refine gw_iast k_Md_absence f_Md_absence_67 hc199 hp ?_
            refine gw_aload_n k_Md_absence f_Md_absence_68 rfl ?_
            refine gw_getR k_Md_absence f_Md_absence_69 l_fldT_11_261 hc155 rfl ?_
            refine gw_aload_n k_Md_absence f_Md_absence_72 rfl ?_
            refine gw_getI k_Md_absence f_Md_absence_73 l_fldT_11_313 hc155 rfl ?_
            rw [show (wr (wr w 198 ((w 155 53).toNatClampNeg) a0) 199 ((w 155 53).toNatClampNeg) a1) 155 53 = w 155 53 from (wr_nc (by decide)).trans (wr_nc (by decide))]
            refine gw_iload_n k_Md_absence f_Md_absence_76 rfl ?_
            have hp := h.1
            have h := h.2
            refine gw_iast k_Md_absence f_Md_absence_77 hc200 hp ?_
            refine gw_aload_n k_Md_absence f_Md_absence_78 rfl ?_
            refine gw_getR k_Md_absence f_Md_absence_79 l_fldT_11_264 hc155 rfl ?_
            refine gw_aload_n k_Md_absence f_Md_absence_82 rfl ?_
            refine gw_getI k_Md_absence f_Md_absence_83 l_fldT_11_313 hc155 rfl ?_
            rw [show (wr (wr (wr w 198 ((w 155 53).toNatClampNeg) a0) 199 ((w 155 53).toNatClampNeg) a1) 200 ((w 155 53).toNatClampNeg) a2) 155 53 = w 155 53 from (wr_nc (by decide)).trans ((wr_nc (by decide)).trans (wr_nc (by decide)))]
            refine gw_iload k_Md_absence f_Md_absence_86 rfl ?_
            have hp := h.1
            have h := h.2
            refine gw_iast k_Md_absence f_Md_absence_88 hc201 hp ?_
            refine gw_aload_n k_Md_absence f_Md_absence_89 rfl ?_
            refine gw_dup k_Md_absence f_Md_absence_90 ?_
            refine gw_getI k_Md_absence f_Md_absence_91 l_fldT_11_313 hc155 rfl ?_
            rw [show (wr (wr (wr (wr w 198 ((w 155 53).toNatClampNeg) a0) 199 ((w 155 53).toNatClampNeg) a1) 200 ((w 155 53).toNatClampNeg) a2) 201 ((w 155 53).toNatClampNeg) a3) 155 53 = w 155 53 from (wr_nc (by decide)).trans ((wr_nc (by decide)).trans ((wr_nc (by decide)).trans (wr_nc (by decide))))]
            refine gw_iconst k_Md_absence f_Md_absence_94 qc_1 ?_
            refine gw_iadd k_Md_absence f_Md_absence_95 ?_
            refine gw_put k_Md_absence f_Md_absence_96 l_fldT_11_313 hc155 rfl rfl rfl rfl rfl ?_
            refine gw_aload_n k_Md_absence f_Md_absence_99 rfl ?_
            refine gw_getI k_Md_absence f_Md_absence_100 l_fldT_11_313 hc155 rfl ?_
            rw [show (wr (wr (wr (wr (wr w 198 ((w 155 53).toNatClampNeg) a0) 199 ((w 155 53).toNatClampNeg) a1) 200 ((w 155 53).toNatClampNeg) a2) 201 ((w 155 53).toNatClampNeg) a3) 155 53 ((w 155 53) + 1)) 155 53 = (w 155 53) + 1 from wr_eq]
            exact gw_iret k_Md_absence f_Md_absence_103 rfl h
          · have h := h.2 c5
            refine gw_iconst k_Md_absence f_Md_absence_46 qc_m1 ?_
            exact gw_iret k_Md_absence f_Md_absence_47 rfl h
theorem sg_Md_isThere_0 {zs : List Int32} {a0 a1 a2 : Int32} {w : Wd} {Q : Option AV → Wd → Prop} (h : Gw zs 1 m_Md_isThere 6 [some (.inr (.inl (some 155))), some (.inl a0), some (.inl a1), some (.inl a2), some (.inl 1), some (.inl 0)] [] w Q) : Gw zs 1 m_Md_isThere 0 [some (.inr (.inl (some 155))), some (.inl a0), some (.inl a1), some (.inl a2), none, none] [] w Q := by
  refine gw_iconst k_Md_isThere f_Md_isThere_0 qc_1 ?_
  refine gw_istore [some (.inr (.inl (some 155))), some (.inl a0), some (.inl a1), some (.inl a2), some (.inl 1), none] k_Md_isThere f_Md_isThere_1 (Nat.le_of_ble_eq_true rfl) rfl ?_
  refine gw_iconst k_Md_isThere f_Md_isThere_3 qc_0 ?_
  refine gw_istore [some (.inr (.inl (some 155))), some (.inl a0), some (.inl a1), some (.inl a2), some (.inl 1), some (.inl 0)] k_Md_isThere f_Md_isThere_4 (Nat.le_of_ble_eq_true rfl) rfl ?_
  exact h
theorem sg_Md_isThere_6 {zs : List Int32} {x1 x2 x3 x4 x5 : Int32} {w : Wd} {Q : Option AV → Wd → Prop} (h : (((w 155 53) ≤ x5 → ((x4 = 0 ∨ x4 = 1) ∧ Q (some (.inl x4)) w)) ∧ (¬ ((w 155 53) ≤ x5) → ((x4 = 0 → Gw zs 1 m_Md_isThere 6 [some (.inr (.inl (some 155))), some (.inl x1), some (.inl x2), some (.inl x3), some (.inl 0), some (.inl (x5 + 1))] [] w Q) ∧ (¬ (x4 = 0) → (vp_in x5 60 ∧ (((w 198 x5.toNatClampNeg) = x1 → (vp_in x5 60 ∧ (((w 199 x5.toNatClampNeg) = x2 → (vp_in x5 60 ∧ (vp_in x5 60 ∧ (((f_Md_in x3 (w 200 x5.toNatClampNeg) (w 201 x5.toNatClampNeg)) = 0 → Gw zs 1 m_Md_isThere 6 [some (.inr (.inl (some 155))), some (.inl x1), some (.inl x2), some (.inl x3), some (.inl 1), some (.inl (x5 + 1))] [] w Q) ∧ (¬ ((f_Md_in x3 (w 200 x5.toNatClampNeg) (w 201 x5.toNatClampNeg)) = 0) → Gw zs 1 m_Md_isThere 6 [some (.inr (.inl (some 155))), some (.inl x1), some (.inl x2), some (.inl x3), some (.inl 0), some (.inl (x5 + 1))] [] w Q))))) ∧ (¬ ((w 199 x5.toNatClampNeg) = x2) → Gw zs 1 m_Md_isThere 6 [some (.inr (.inl (some 155))), some (.inl x1), some (.inl x2), some (.inl x3), some (.inl 1), some (.inl (x5 + 1))] [] w Q)))) ∧ (¬ ((w 198 x5.toNatClampNeg) = x1) → Gw zs 1 m_Md_isThere 6 [some (.inr (.inl (some 155))), some (.inl x1), some (.inl x2), some (.inl x3), some (.inl 1), some (.inl (x5 + 1))] [] w Q)))))))) : Gw zs 1 m_Md_isThere 6 [some (.inr (.inl (some 155))), some (.inl x1), some (.inl x2), some (.inl x3), some (.inl x4), some (.inl x5)] [] w Q := by
  refine gw_iload k_Md_isThere f_Md_isThere_6 rfl ?_
  refine gw_aload_n k_Md_isThere f_Md_isThere_8 rfl ?_
  refine gw_getI k_Md_isThere f_Md_isThere_9 l_fldT_11_313 hc155 rfl ?_
  refine gw_icmp_ge (t := 76) k_Md_isThere f_Md_isThere_12 rfl (fun c1 => ?_) (fun c1 => ?_)
  · have h := h.1 c1
    refine gw_iload k_Md_isThere f_Md_isThere_76 rfl ?_
    have hp := h.1
    have h := h.2
    exact gw_zret k_Md_isThere f_Md_isThere_78 rfl hp h
  · have h := h.2 c1
    refine gw_iload k_Md_isThere f_Md_isThere_15 rfl ?_
    refine gw_if_eq (t := 67) k_Md_isThere f_Md_isThere_17 rfl (fun c2 => ?_) (fun c2 => ?_)
    · have h := h.1 c2
      refine gw_iconst k_Md_isThere f_Md_isThere_67 qc_0 ?_
      refine gw_istore [some (.inr (.inl (some 155))), some (.inl x1), some (.inl x2), some (.inl x3), some (.inl 0), some (.inl x5)] k_Md_isThere f_Md_isThere_68 (Nat.le_of_ble_eq_true rfl) rfl ?_
      refine gw_iinc [some (.inr (.inl (some 155))), some (.inl x1), some (.inl x2), some (.inl x3), some (.inl 0), some (.inl (x5 + 1))] k_Md_isThere f_Md_isThere_70 rfl qc_1 (Nat.le_of_ble_eq_true rfl) rfl ?_
      refine gw_goto (t := 6) k_Md_isThere f_Md_isThere_73 rfl ?_
      exact h
    · have h := h.2 c2
      refine gw_aload_n k_Md_isThere f_Md_isThere_20 rfl ?_
      refine gw_getR k_Md_isThere f_Md_isThere_21 l_fldT_11_255 hc155 rfl ?_
      refine gw_iload k_Md_isThere f_Md_isThere_24 rfl ?_
      have hp := h.1
      have h := h.2
      refine gw_iald k_Md_isThere f_Md_isThere_26 hc198 hp ?_
      refine gw_iload_n k_Md_isThere f_Md_isThere_27 rfl ?_
      refine gw_icmp_ne (t := 63) k_Md_isThere f_Md_isThere_28 rfl (fun c3 => ?_) (fun c3 => ?_)
      · have h := h.2 c3
        refine gw_iconst k_Md_isThere f_Md_isThere_63 qc_1 ?_
        refine gw_goto (t := 68) k_Md_isThere f_Md_isThere_64 rfl ?_
        refine gw_istore [some (.inr (.inl (some 155))), some (.inl x1), some (.inl x2), some (.inl x3), some (.inl 1), some (.inl x5)] k_Md_isThere f_Md_isThere_68 (Nat.le_of_ble_eq_true rfl) rfl ?_
        refine gw_iinc [some (.inr (.inl (some 155))), some (.inl x1), some (.inl x2), some (.inl x3), some (.inl 1), some (.inl (x5 + 1))] k_Md_isThere f_Md_isThere_70 rfl qc_1 (Nat.le_of_ble_eq_true rfl) rfl ?_
        refine gw_goto (t := 6) k_Md_isThere f_Md_isThere_73 rfl ?_
        exact h
      · have c3 := Decidable.not_not.mp c3
        have h := h.1 c3
        refine gw_aload_n k_Md_isThere f_Md_isThere_31 rfl ?_
        refine gw_getR k_Md_isThere f_Md_isThere_32 l_fldT_11_258 hc155 rfl ?_
        refine gw_iload k_Md_isThere f_Md_isThere_35 rfl ?_
        have hp := h.1
        have h := h.2
        refine gw_iald k_Md_isThere f_Md_isThere_37 hc199 hp ?_
        refine gw_iload_n k_Md_isThere f_Md_isThere_38 rfl ?_
        refine gw_icmp_ne (t := 63) k_Md_isThere f_Md_isThere_39 rfl (fun c4 => ?_) (fun c4 => ?_)
        · have h := h.2 c4
          refine gw_iconst k_Md_isThere f_Md_isThere_63 qc_1 ?_
          refine gw_goto (t := 68) k_Md_isThere f_Md_isThere_64 rfl ?_
          refine gw_istore [some (.inr (.inl (some 155))), some (.inl x1), some (.inl x2), some (.inl x3), some (.inl 1), some (.inl x5)] k_Md_isThere f_Md_isThere_68 (Nat.le_of_ble_eq_true rfl) rfl ?_
          refine gw_iinc [some (.inr (.inl (some 155))), some (.inl x1), some (.inl x2), some (.inl x3), some (.inl 1), some (.inl (x5 + 1))] k_Md_isThere f_Md_isThere_70 rfl qc_1 (Nat.le_of_ble_eq_true rfl) rfl ?_
          refine gw_goto (t := 6) k_Md_isThere f_Md_isThere_73 rfl ?_
          exact h
        · have c4 := Decidable.not_not.mp c4
          have h := h.1 c4
          refine gw_iload_n k_Md_isThere f_Md_isThere_42 rfl ?_
          refine gw_aload_n k_Md_isThere f_Md_isThere_43 rfl ?_
          refine gw_getR k_Md_isThere f_Md_isThere_44 l_fldT_11_261 hc155 rfl ?_
          refine gw_iload k_Md_isThere f_Md_isThere_47 rfl ?_
          have hp := h.1
          have h := h.2
          refine gw_iald k_Md_isThere f_Md_isThere_49 hc200 hp ?_
          refine gw_aload_n k_Md_isThere f_Md_isThere_50 rfl ?_
          refine gw_getR k_Md_isThere f_Md_isThere_51 l_fldT_11_264 hc155 rfl ?_
          refine gw_iload k_Md_isThere f_Md_isThere_54 rfl ?_
          have hp := h.1
          have h := h.2
          refine gw_iald k_Md_isThere f_Md_isThere_56 hc201 hp ?_
          refine gw_static [.inl x3, .inl (w 200 x5.toNatClampNeg), .inl (w 201 x5.toNatClampNeg)] k_Md_isThere f_Md_isThere_57 l_invT_11_1 (by decide) k_Md_in rfl (by exact Nat.le_of_ble_eq_true rfl) (dc := 0) (by decide) ?_ rfl
          refine ev_Md_in ?_
          show Gw zs 1 m_Md_isThere 60 [some (.inr (.inl (some 155))), some (.inl x1), some (.inl x2), some (.inl x3), some (.inl x4), some (.inl x5)] [.inl (f_Md_in x3 (w 200 x5.toNatClampNeg) (w 201 x5.toNatClampNeg))] w _
          refine gw_if_ne (t := 67) k_Md_isThere f_Md_isThere_60 rfl (fun c5 => ?_) (fun c5 => ?_)
          · have h := h.2 c5
            refine gw_iconst k_Md_isThere f_Md_isThere_67 qc_0 ?_
            refine gw_istore [some (.inr (.inl (some 155))), some (.inl x1), some (.inl x2), some (.inl x3), some (.inl 0), some (.inl x5)] k_Md_isThere f_Md_isThere_68 (Nat.le_of_ble_eq_true rfl) rfl ?_
            refine gw_iinc [some (.inr (.inl (some 155))), some (.inl x1), some (.inl x2), some (.inl x3), some (.inl 0), some (.inl (x5 + 1))] k_Md_isThere f_Md_isThere_70 rfl qc_1 (Nat.le_of_ble_eq_true rfl) rfl ?_
            refine gw_goto (t := 6) k_Md_isThere f_Md_isThere_73 rfl ?_
            exact h
          · have c5 := Decidable.not_not.mp c5
            have h := h.1 c5
            refine gw_iconst k_Md_isThere f_Md_isThere_63 qc_1 ?_
            refine gw_goto (t := 68) k_Md_isThere f_Md_isThere_64 rfl ?_
            refine gw_istore [some (.inr (.inl (some 155))), some (.inl x1), some (.inl x2), some (.inl x3), some (.inl 1), some (.inl x5)] k_Md_isThere f_Md_isThere_68 (Nat.le_of_ble_eq_true rfl) rfl ?_
            refine gw_iinc [some (.inr (.inl (some 155))), some (.inl x1), some (.inl x2), some (.inl x3), some (.inl 1), some (.inl (x5 + 1))] k_Md_isThere f_Md_isThere_70 rfl qc_1 (Nat.le_of_ble_eq_true rfl) rfl ?_
            refine gw_goto (t := 6) k_Md_isThere f_Md_isThere_73 rfl ?_
            exact h
theorem sg_Md_chosen_0 {zs : List Int32} {a0 a1 a2 a3 : Int32} {w : Wd} {Q : Option AV → Wd → Prop} (h : Gw zs 2 m_Md_chosen 6 [some (.inr (.inl (some 155))), some (.inl a0), some (.inl a1), some (.inl a2), some (.inl a3), some (.inl (-1)), some (.inl 0), none, none] [] w Q) : Gw zs 2 m_Md_chosen 0 [some (.inr (.inl (some 155))), some (.inl a0), some (.inl a1), some (.inl a2), some (.inl a3), none, none, none, none] [] w Q := by
  refine gw_iconst k_Md_chosen f_Md_chosen_0 qc_m1 ?_
  refine gw_istore [some (.inr (.inl (some 155))), some (.inl a0), some (.inl a1), some (.inl a2), some (.inl a3), some (.inl (-1)), none, none, none] k_Md_chosen f_Md_chosen_1 (Nat.le_of_ble_eq_true rfl) rfl ?_
  refine gw_iconst k_Md_chosen f_Md_chosen_3 qc_0 ?_
  refine gw_istore [some (.inr (.inl (some 155))), some (.inl a0), some (.inl a1), some (.inl a2), some (.inl a3), some (.inl (-1)), some (.inl 0), none, none] k_Md_chosen f_Md_chosen_4 (Nat.le_of_ble_eq_true rfl) rfl ?_
  exact h
theorem sg_Md_chosen_6 {zs : List Int32} {x1 x2 x3 x4 x5 x6 : Int32} {o7 o8 : Option AV} {w : Wd} {Q : Option AV → Wd → Prop} (h : (((w 155 52) ≤ x6 → Q (some (.inl x5)) w) ∧ (¬ ((w 155 52) ≤ x6) → (vp_in x6 24 ∧ (((((w 197 x6.toNatClampNeg) >>> (x3 &&& 31)) &&& 1) = 0 → Gw zs 2 m_Md_chosen 6 [some (.inr (.inl (some 155))), some (.inl x1), some (.inl x2), some (.inl x3), some (.inl x4), some (.inl x5), some (.inl (x6 + 1)), o7, o8] [] w Q) ∧ (¬ ((((w 197 x6.toNatClampNeg) >>> (x3 &&& 31)) &&& 1) = 0) → ((((x4 >>> (x6 &&& 31)) &&& 1) = 1 → Gw zs 2 m_Md_chosen 6 [some (.inr (.inl (some 155))), some (.inl x1), some (.inl x2), some (.inl x3), some (.inl x4), some (.inl x5), some (.inl (x6 + 1)), o7, o8] [] w Q) ∧ (¬ (((x4 >>> (x6 &&& 31)) &&& 1) = 1) → Ew zs 1 m_Md_isThere [.inr (.inl (some 155)), .inl x6, .inl x1, .inl x2] w (fun v w5 => ∃ r4 : Int32, v = some (.inl r4) ∧ ((r4 = 0 → Gw zs 2 m_Md_chosen 6 [some (.inr (.inl (some 155))), some (.inl x1), some (.inl x2), some (.inl x3), some (.inl x4), some (.inl x5), some (.inl (x6 + 1)), o7, o8] [] w5 Q) ∧ (¬ (r4 = 0) → ((x5 = (-1) → Gw zs 2 m_Md_chosen 6 [some (.inr (.inl (some 155))), some (.inl x1), some (.inl x2), some (.inl x3), some (.inl x4), some (.inl x6), some (.inl (x6 + 1)), some (.inl ((3 * x6) + x3)), some (.inl ((3 * x5) + x3))] [] w5 Q) ∧ (¬ (x5 = (-1)) → (vp_in ((3 * x6) + x3) 72 ∧ (vp_in ((3 * x5) + x3) 72 ∧ (((w5 204 (((3 * x6) + x3).toNatClampNeg)) < (w5 204 (((3 * x5) + x3).toNatClampNeg)) → Gw zs 2 m_Md_chosen 6 [some (.inr (.inl (some 155))), some (.inl x1), some (.inl x2), some (.inl x3), some (.inl x4), some (.inl x6), some (.inl (x6 + 1)), some (.inl ((3 * x6) + x3)), some (.inl ((3 * x5) + x3))] [] w5 Q) ∧ (¬ ((w5 204 (((3 * x6) + x3).toNatClampNeg)) < (w5 204 (((3 * x5) + x3).toNatClampNeg))) → (vp_in ((3 * x6) + x3) 72 ∧ (vp_in ((3 * x5) + x3) 72 ∧ (((w5 204 (((3 * x6) + x3).toNatClampNeg)) = (w5 204 (((3 * x5) + x3).toNatClampNeg)) → (vp_in ((3 * x6) + x3) 72 ∧ (vp_in ((3 * x5) + x3) 72 ∧ (((w5 205 (((3 * x5) + x3).toNatClampNeg)) ≤ (w5 205 (((3 * x6) + x3).toNatClampNeg)) → Gw zs 2 m_Md_chosen 6 [some (.inr (.inl (some 155))), some (.inl x1), some (.inl x2), some (.inl x3), some (.inl x4), some (.inl x5), some (.inl (x6 + 1)), some (.inl ((3 * x6) + x3)), some (.inl ((3 * x5) + x3))] [] w5 Q) ∧ (¬ ((w5 205 (((3 * x5) + x3).toNatClampNeg)) ≤ (w5 205 (((3 * x6) + x3).toNatClampNeg))) → Gw zs 2 m_Md_chosen 6 [some (.inr (.inl (some 155))), some (.inl x1), some (.inl x2), some (.inl x3), some (.inl x4), some (.inl x6), some (.inl (x6 + 1)), some (.inl ((3 * x6) + x3)), some (.inl ((3 * x5) + x3))] [] w5 Q))))) ∧ (¬ ((w5 204 (((3 * x6) + x3).toNatClampNeg)) = (w5 204 (((3 * x5) + x3).toNatClampNeg))) → Gw zs 2 m_Md_chosen 6 [some (.inr (.inl (some 155))), some (.inl x1), some (.inl x2), some (.inl x3), some (.inl x4), some (.inl x5), some (.inl (x6 + 1)), some (.inl ((3 * x6) + x3)), some (.inl ((3 * x5) + x3))] [] w5 Q))))))))))))))))))))) : Gw zs 2 m_Md_chosen 6 [some (.inr (.inl (some 155))), some (.inl x1), some (.inl x2), some (.inl x3), some (.inl x4), some (.inl x5), some (.inl x6), o7, o8] [] w Q := by
  refine gw_iload k_Md_chosen f_Md_chosen_6 rfl ?_
  refine gw_aload_n k_Md_chosen f_Md_chosen_8 rfl ?_
  refine gw_getI k_Md_chosen f_Md_chosen_9 l_fldT_11_310 hc155 rfl ?_
  refine gw_icmp_ge (t := 137) k_Md_chosen f_Md_chosen_12 rfl (fun c1 => ?_) (fun c1 => ?_)
  · have h := h.1 c1
    refine gw_iload k_Md_chosen f_Md_chosen_137 rfl ?_
    exact gw_iret k_Md_chosen f_Md_chosen_139 rfl h
  · have h := h.2 c1
    refine gw_aload_n k_Md_chosen f_Md_chosen_15 rfl ?_
    refine gw_getR k_Md_chosen f_Md_chosen_16 l_fldT_11_252 hc155 rfl ?_
    refine gw_iload k_Md_chosen f_Md_chosen_19 rfl ?_
    have hp := h.1
    have h := h.2
    refine gw_iald k_Md_chosen f_Md_chosen_21 hc197 hp ?_
    refine gw_iload_n k_Md_chosen f_Md_chosen_22 rfl ?_
    refine gw_ishr k_Md_chosen f_Md_chosen_23 ?_
    refine gw_iconst k_Md_chosen f_Md_chosen_24 qc_1 ?_
    refine gw_iand k_Md_chosen f_Md_chosen_25 ?_
    refine gw_if_eq (t := 131) k_Md_chosen f_Md_chosen_26 rfl (fun c2 => ?_) (fun c2 => ?_)
    · have h := h.1 c2
      refine gw_iinc [some (.inr (.inl (some 155))), some (.inl x1), some (.inl x2), some (.inl x3), some (.inl x4), some (.inl x5), some (.inl (x6 + 1)), o7, o8] k_Md_chosen f_Md_chosen_131 rfl qc_1 (Nat.le_of_ble_eq_true rfl) rfl ?_
      refine gw_goto (t := 6) k_Md_chosen f_Md_chosen_134 rfl ?_
      exact h
    · have h := h.2 c2
      refine gw_iload k_Md_chosen f_Md_chosen_29 rfl ?_
      refine gw_iload k_Md_chosen f_Md_chosen_31 rfl ?_
      refine gw_ishr k_Md_chosen f_Md_chosen_33 ?_
      refine gw_iconst k_Md_chosen f_Md_chosen_34 qc_1 ?_
      refine gw_iand k_Md_chosen f_Md_chosen_35 ?_
      refine gw_iconst k_Md_chosen f_Md_chosen_36 qc_1 ?_
      refine gw_icmp_eq (t := 131) k_Md_chosen f_Md_chosen_37 rfl (fun c3 => ?_) (fun c3 => ?_)
      · have h := h.1 c3
        refine gw_iinc [some (.inr (.inl (some 155))), some (.inl x1), some (.inl x2), some (.inl x3), some (.inl x4), some (.inl x5), some (.inl (x6 + 1)), o7, o8] k_Md_chosen f_Md_chosen_131 rfl qc_1 (Nat.le_of_ble_eq_true rfl) rfl ?_
        refine gw_goto (t := 6) k_Md_chosen f_Md_chosen_134 rfl ?_
        exact h
      · have h := h.2 c3
        refine gw_aload_n k_Md_chosen f_Md_chosen_40 rfl ?_
        refine gw_iload k_Md_chosen f_Md_chosen_41 rfl ?_
        refine gw_iload_n k_Md_chosen f_Md_chosen_43 rfl ?_
        refine gw_iload_n k_Md_chosen f_Md_chosen_44 rfl ?_
        refine gw_virtual [.inl x6, .inl x1, .inl x2] k_Md_chosen f_Md_chosen_45 l_invT_11_316 k_Md_isThere hc155 rfl rfl rfl (by exact Nat.le_of_ble_eq_true rfl) (dc := 1) (by decide) ?_ rfl
        refine h.mono (fun v w5 hh => ?_)
        obtain ⟨r4, rfl, h⟩ := hh
        show Gw zs 2 m_Md_chosen 48 [some (.inr (.inl (some 155))), some (.inl x1), some (.inl x2), some (.inl x3), some (.inl x4), some (.inl x5), some (.inl x6), o7, o8] [.inl r4] w5 _
        refine gw_if_ne (t := 54) k_Md_chosen f_Md_chosen_48 rfl (fun c6 => ?_) (fun c6 => ?_)
        · have h := h.2 c6
          refine gw_iconst k_Md_chosen f_Md_chosen_54 qc_3 ?_
          refine gw_iload k_Md_chosen f_Md_chosen_55 rfl ?_
          refine gw_imul k_Md_chosen f_Md_chosen_57 ?_
          refine gw_iload_n k_Md_chosen f_Md_chosen_58 rfl ?_
          refine gw_iadd k_Md_chosen f_Md_chosen_59 ?_
          refine gw_istore [some (.inr (.inl (some 155))), some (.inl x1), some (.inl x2), some (.inl x3), some (.inl x4), some (.inl x5), some (.inl x6), some (.inl ((3 * x6) + x3)), o8] k_Md_chosen f_Md_chosen_60 (Nat.le_of_ble_eq_true rfl) rfl ?_
          refine gw_iconst k_Md_chosen f_Md_chosen_62 qc_3 ?_
          refine gw_iload k_Md_chosen f_Md_chosen_63 rfl ?_
          refine gw_imul k_Md_chosen f_Md_chosen_65 ?_
          refine gw_iload_n k_Md_chosen f_Md_chosen_66 rfl ?_
          refine gw_iadd k_Md_chosen f_Md_chosen_67 ?_
          refine gw_istore [some (.inr (.inl (some 155))), some (.inl x1), some (.inl x2), some (.inl x3), some (.inl x4), some (.inl x5), some (.inl x6), some (.inl ((3 * x6) + x3)), some (.inl ((3 * x5) + x3))] k_Md_chosen f_Md_chosen_68 (Nat.le_of_ble_eq_true rfl) rfl ?_
          refine gw_iload k_Md_chosen f_Md_chosen_70 rfl ?_
          refine gw_iconst k_Md_chosen f_Md_chosen_72 qc_m1 ?_
          refine gw_icmp_eq (t := 127) k_Md_chosen f_Md_chosen_73 rfl (fun c7 => ?_) (fun c7 => ?_)
          · have h := h.1 c7
            refine gw_iload k_Md_chosen f_Md_chosen_127 rfl ?_
            refine gw_istore [some (.inr (.inl (some 155))), some (.inl x1), some (.inl x2), some (.inl x3), some (.inl x4), some (.inl x6), some (.inl x6), some (.inl ((3 * x6) + x3)), some (.inl ((3 * x5) + x3))] k_Md_chosen f_Md_chosen_129 (Nat.le_of_ble_eq_true rfl) rfl ?_
            refine gw_iinc [some (.inr (.inl (some 155))), some (.inl x1), some (.inl x2), some (.inl x3), some (.inl x4), some (.inl x6), some (.inl (x6 + 1)), some (.inl ((3 * x6) + x3)), some (.inl ((3 * x5) + x3))] k_Md_chosen f_Md_chosen_131 rfl qc_1 (Nat.le_of_ble_eq_true rfl) rfl ?_
            refine gw_goto (t := 6) k_Md_chosen f_Md_chosen_134 rfl ?_
            exact h
          · have h := h.2 c7
            refine gw_aload_n k_Md_chosen f_Md_chosen_76 rfl ?_
            refine gw_getR k_Md_chosen f_Md_chosen_77 l_fldT_11_273 hc155 rfl ?_
            refine gw_iload k_Md_chosen f_Md_chosen_80 rfl ?_
            have hp := h.1
            have h := h.2
            refine gw_iald k_Md_chosen f_Md_chosen_82 hc204 hp ?_
            refine gw_aload_n k_Md_chosen f_Md_chosen_83 rfl ?_
            refine gw_getR k_Md_chosen f_Md_chosen_84 l_fldT_11_273 hc155 rfl ?_
            refine gw_iload k_Md_chosen f_Md_chosen_87 rfl ?_
            have hp := h.1
            have h := h.2
            refine gw_iald k_Md_chosen f_Md_chosen_89 hc204 hp ?_
            refine gw_icmp_lt (t := 127) k_Md_chosen f_Md_chosen_90 rfl (fun c8 => ?_) (fun c8 => ?_)
            · have h := h.1 c8
              refine gw_iload k_Md_chosen f_Md_chosen_127 rfl ?_
              refine gw_istore [some (.inr (.inl (some 155))), some (.inl x1), some (.inl x2), some (.inl x3), some (.inl x4), some (.inl x6), some (.inl x6), some (.inl ((3 * x6) + x3)), some (.inl ((3 * x5) + x3))] k_Md_chosen f_Md_chosen_129 (Nat.le_of_ble_eq_true rfl) rfl ?_
              refine gw_iinc [some (.inr (.inl (some 155))), some (.inl x1), some (.inl x2), some (.inl x3), some (.inl x4), some (.inl x6), some (.inl (x6 + 1)), some (.inl ((3 * x6) + x3)), some (.inl ((3 * x5) + x3))] k_Md_chosen f_Md_chosen_131 rfl qc_1 (Nat.le_of_ble_eq_true rfl) rfl ?_
              refine gw_goto (t := 6) k_Md_chosen f_Md_chosen_134 rfl ?_
              exact h
            · have h := h.2 c8
              refine gw_aload_n k_Md_chosen f_Md_chosen_93 rfl ?_
              refine gw_getR k_Md_chosen f_Md_chosen_94 l_fldT_11_273 hc155 rfl ?_
              refine gw_iload k_Md_chosen f_Md_chosen_97 rfl ?_
              have hp := h.1
              have h := h.2
              refine gw_iald k_Md_chosen f_Md_chosen_99 hc204 hp ?_
              refine gw_aload_n k_Md_chosen f_Md_chosen_100 rfl ?_
              refine gw_getR k_Md_chosen f_Md_chosen_101 l_fldT_11_273 hc155 rfl ?_
              refine gw_iload k_Md_chosen f_Md_chosen_104 rfl ?_
              have hp := h.1
              have h := h.2
              refine gw_iald k_Md_chosen f_Md_chosen_106 hc204 hp ?_
              refine gw_icmp_ne (t := 131) k_Md_chosen f_Md_chosen_107 rfl (fun c9 => ?_) (fun c9 => ?_)
              · have h := h.2 c9
                refine gw_iinc [some (.inr (.inl (some 155))), some (.inl x1), some (.inl x2), some (.inl x3), some (.inl x4), some (.inl x5), some (.inl (x6 + 1)), some (.inl ((3 * x6) + x3)), some (.inl ((3 * x5) + x3))] k_Md_chosen f_Md_chosen_131 rfl qc_1 (Nat.le_of_ble_eq_true rfl) rfl ?_
                refine gw_goto (t := 6) k_Md_chosen f_Md_chosen_134 rfl ?_
                exact h
              · have c9 := Decidable.not_not.mp c9
                have h := h.1 c9
                refine gw_aload_n k_Md_chosen f_Md_chosen_110 rfl ?_
                refine gw_getR k_Md_chosen f_Md_chosen_111 l_fldT_11_276 hc155 rfl ?_
                refine gw_iload k_Md_chosen f_Md_chosen_114 rfl ?_
                have hp := h.1
                have h := h.2
                refine gw_iald k_Md_chosen f_Md_chosen_116 hc205 hp ?_
                refine gw_aload_n k_Md_chosen f_Md_chosen_117 rfl ?_
                refine gw_getR k_Md_chosen f_Md_chosen_118 l_fldT_11_276 hc155 rfl ?_
                refine gw_iload k_Md_chosen f_Md_chosen_121 rfl ?_
                have hp := h.1
                have h := h.2
                refine gw_iald k_Md_chosen f_Md_chosen_123 hc205 hp ?_
                refine gw_icmp_ge (t := 131) k_Md_chosen f_Md_chosen_124 rfl (fun c10 => ?_) (fun c10 => ?_)
                · have h := h.1 c10
                  refine gw_iinc [some (.inr (.inl (some 155))), some (.inl x1), some (.inl x2), some (.inl x3), some (.inl x4), some (.inl x5), some (.inl (x6 + 1)), some (.inl ((3 * x6) + x3)), some (.inl ((3 * x5) + x3))] k_Md_chosen f_Md_chosen_131 rfl qc_1 (Nat.le_of_ble_eq_true rfl) rfl ?_
                  refine gw_goto (t := 6) k_Md_chosen f_Md_chosen_134 rfl ?_
                  exact h
                · have h := h.2 c10
                  refine gw_iload k_Md_chosen f_Md_chosen_127 rfl ?_
                  refine gw_istore [some (.inr (.inl (some 155))), some (.inl x1), some (.inl x2), some (.inl x3), some (.inl x4), some (.inl x6), some (.inl x6), some (.inl ((3 * x6) + x3)), some (.inl ((3 * x5) + x3))] k_Md_chosen f_Md_chosen_129 (Nat.le_of_ble_eq_true rfl) rfl ?_
                  refine gw_iinc [some (.inr (.inl (some 155))), some (.inl x1), some (.inl x2), some (.inl x3), some (.inl x4), some (.inl x6), some (.inl (x6 + 1)), some (.inl ((3 * x6) + x3)), some (.inl ((3 * x5) + x3))] k_Md_chosen f_Md_chosen_131 rfl qc_1 (Nat.le_of_ble_eq_true rfl) rfl ?_
                  refine gw_goto (t := 6) k_Md_chosen f_Md_chosen_134 rfl ?_
                  exact h
        · have c6 := Decidable.not_not.mp c6
          have h := h.1 c6
          refine gw_goto (t := 131) k_Md_chosen f_Md_chosen_51 rfl ?_
          refine gw_iinc [some (.inr (.inl (some 155))), some (.inl x1), some (.inl x2), some (.inl x3), some (.inl x4), some (.inl x5), some (.inl (x6 + 1)), o7, o8] k_Md_chosen f_Md_chosen_131 rfl qc_1 (Nat.le_of_ble_eq_true rfl) rfl ?_
          refine gw_goto (t := 6) k_Md_chosen f_Md_chosen_134 rfl ?_
          exact h
