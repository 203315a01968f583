/-! Methods without loops: values and worlds -/
def f_Psa_addFestal (w : Wd) (a0 : Int32) (a1 : Int32) : Int32 := if (f_Psa_hasHour w a0) = 0 then (-1) else if (f_Psa_hasPsalm a1) = 0 then (-1) else if (f_at w 26 8 a0) < 6 then ((f_at w 26 8 a0) + 1) else (-1)
def g_Psa_addFestal (w : Wd) (a0 : Int32) (a1 : Int32) : Wd := if (f_Psa_hasHour w a0) = 0 then w else if (f_Psa_hasPsalm a1) = 0 then w else if (f_at w 26 8 a0) < 6 then g_put (g_put w 25 48 ((a0 * 6) + (f_at w 26 8 a0)) a1) 26 8 a0 ((f_at w 26 8 a0) + 1) else w
theorem sg_Psa_addFestal_0 {zs : List Int32} {a0 a1 : Int32} {w : Wd} {Q : Option AV → Wd → Prop} (h : (((f_Psa_hasHour w a0) = 0 → Q (some (.inl (-1))) w) ∧ (¬ ((f_Psa_hasHour w a0) = 0) → (((f_Psa_hasPsalm a1) = 0 → Q (some (.inl (-1))) w) ∧ (¬ ((f_Psa_hasPsalm a1) = 0) → (((f_at w 26 8 a0) < 6 → Q (some (.inl ((f_at w 26 8 a0) + 1))) (g_put (g_put w 25 48 ((a0 * 6) + (f_at w 26 8 a0)) a1) 26 8 a0 ((f_at w 26 8 a0) + 1))) ∧ (¬ ((f_at w 26 8 a0) < 6) → Q (some (.inl (-1))) w))))))) : Gw zs 2 m_Psa_addFestal 0 [some (.inr (.inl (some 22))), some (.inl a0), some (.inl a1), none] [] w Q := by
  refine gw_aload_n k_Psa_addFestal f_Psa_addFestal_0 rfl ?_
  refine gw_iload_n k_Psa_addFestal f_Psa_addFestal_1 rfl ?_
  refine gw_virtual [.inl a0] k_Psa_addFestal f_Psa_addFestal_2 l_invT_5_63 k_Psa_hasHour hc22 rfl rfl rfl (by exact Nat.le_of_ble_eq_true rfl) (dc := 0) (by decide) ?_ rfl
  refine ev_Psa_hasHour ?_
  show Gw zs 2 m_Psa_addFestal 5 [some (.inr (.inl (some 22))), some (.inl a0), some (.inl a1), none] [.inl (f_Psa_hasHour w a0)] w _
  refine gw_if_eq (t := 29) k_Psa_addFestal f_Psa_addFestal_5 rfl (fun c1 => ?_) (fun c1 => ?_)
  · have h := h.1 c1
    refine gw_iconst k_Psa_addFestal f_Psa_addFestal_29 qc_m1 ?_
    exact gw_iret k_Psa_addFestal f_Psa_addFestal_30 rfl h
  · have h := h.2 c1
    refine gw_aload_n k_Psa_addFestal f_Psa_addFestal_8 rfl ?_
    refine gw_iload_n k_Psa_addFestal f_Psa_addFestal_9 rfl ?_
    refine gw_virtual [.inl a1] k_Psa_addFestal f_Psa_addFestal_10 l_invT_5_44 k_Psa_hasPsalm hc22 rfl rfl rfl (by exact Nat.le_of_ble_eq_true rfl) (dc := 1) (by decide) ?_ rfl
    refine ev_Psa_hasPsalm ?_
    show Gw zs 2 m_Psa_addFestal 13 [some (.inr (.inl (some 22))), some (.inl a0), some (.inl a1), none] [.inl (f_Psa_hasPsalm a1)] w _
    refine gw_if_eq (t := 29) k_Psa_addFestal f_Psa_addFestal_13 rfl (fun c2 => ?_) (fun c2 => ?_)
    · have h := h.1 c2
      refine gw_iconst k_Psa_addFestal f_Psa_addFestal_29 qc_m1 ?_
      exact gw_iret k_Psa_addFestal f_Psa_addFestal_30 rfl h
    · have h := h.2 c2
      refine gw_aload_n k_Psa_addFestal f_Psa_addFestal_16 rfl ?_
      refine gw_getR k_Psa_addFestal f_Psa_addFestal_17 l_fldT_5_21 hc22 rfl ?_
      refine gw_iload_n k_Psa_addFestal f_Psa_addFestal_20 rfl ?_
      refine gw_static [.inr (.inl (some 26)), .inl a0] k_Psa_addFestal f_Psa_addFestal_21 l_invT_5_48 (by decide) k_Bk_at rfl (by exact Nat.le_of_ble_eq_true rfl) (dc := 0) (by decide) ?_ rfl
      refine ev_at hc26 (by decide) ?_
      show Gw zs 2 m_Psa_addFestal 24 [some (.inr (.inl (some 22))), some (.inl a0), some (.inl a1), none] [.inl (f_at w 26 8 a0)] w _
      refine gw_bipush k_Psa_addFestal f_Psa_addFestal_24 qb_6 ?_
      refine gw_icmp_lt (t := 31) k_Psa_addFestal f_Psa_addFestal_26 rfl (fun c3 => ?_) (fun c3 => ?_)
      · have h := h.1 c3
        refine gw_aload_n k_Psa_addFestal f_Psa_addFestal_31 rfl ?_
        refine gw_getR k_Psa_addFestal f_Psa_addFestal_32 l_fldT_5_21 hc22 rfl ?_
        refine gw_iload_n k_Psa_addFestal f_Psa_addFestal_35 rfl ?_
        refine gw_static [.inr (.inl (some 26)), .inl a0] k_Psa_addFestal f_Psa_addFestal_36 l_invT_5_48 (by decide) k_Bk_at rfl (by exact Nat.le_of_ble_eq_true rfl) (dc := 0) (by decide) ?_ rfl
        refine ev_at hc26 (by decide) ?_
        show Gw zs 2 m_Psa_addFestal 39 [some (.inr (.inl (some 22))), some (.inl a0), some (.inl a1), none] [.inl (f_at w 26 8 a0)] w _
        refine gw_istore_n [some (.inr (.inl (some 22))), some (.inl a0), some (.inl a1), some (.inl (f_at w 26 8 a0))] k_Psa_addFestal f_Psa_addFestal_39 (Nat.le_of_ble_eq_true rfl) rfl ?_
        refine gw_aload_n k_Psa_addFestal f_Psa_addFestal_40 rfl ?_
        refine gw_getR k_Psa_addFestal f_Psa_addFestal_41 l_fldT_5_18 hc22 rfl ?_
        refine gw_iload_n k_Psa_addFestal f_Psa_addFestal_44 rfl ?_
        refine gw_bipush k_Psa_addFestal f_Psa_addFestal_45 qb_6 ?_
        refine gw_imul k_Psa_addFestal f_Psa_addFestal_47 ?_
        refine gw_iload_n k_Psa_addFestal f_Psa_addFestal_48 rfl ?_
        refine gw_iadd k_Psa_addFestal f_Psa_addFestal_49 ?_
        refine gw_iload_n k_Psa_addFestal f_Psa_addFestal_50 rfl ?_
        refine gw_static [.inr (.inl (some 25)), .inl ((a0 * 6) + (f_at w 26 8 a0)), .inl a1] k_Psa_addFestal f_Psa_addFestal_51 l_invT_5_52 (by decide) k_Bk_put rfl (by exact Nat.le_of_ble_eq_true rfl) (dc := 0) (by decide) ?_ rfl
        refine ev_put hc25 (by decide) ?_
        show Gw zs 2 m_Psa_addFestal 54 [some (.inr (.inl (some 22))), some (.inl a0), some (.inl a1), some (.inl (f_at w 26 8 a0))] [] (g_put w 25 48 ((a0 * 6) + (f_at w 26 8 a0)) a1) _
        refine gw_aload_n k_Psa_addFestal f_Psa_addFestal_54 rfl ?_
        refine gw_getR k_Psa_addFestal f_Psa_addFestal_55 l_fldT_5_21 hc22 rfl ?_
        refine gw_iload_n k_Psa_addFestal f_Psa_addFestal_58 rfl ?_
        refine gw_iload_n k_Psa_addFestal f_Psa_addFestal_59 rfl ?_
        refine gw_iconst k_Psa_addFestal f_Psa_addFestal_60 qc_1 ?_
        refine gw_iadd k_Psa_addFestal f_Psa_addFestal_61 ?_
        refine gw_static [.inr (.inl (some 26)), .inl a0, .inl ((f_at w 26 8 a0) + 1)] k_Psa_addFestal f_Psa_addFestal_62 l_invT_5_52 (by decide) k_Bk_put rfl (by exact Nat.le_of_ble_eq_true rfl) (dc := 0) (by decide) ?_ rfl
        refine ev_put hc26 (by decide) ?_
        show Gw zs 2 m_Psa_addFestal 65 [some (.inr (.inl (some 22))), some (.inl a0), some (.inl a1), some (.inl (f_at w 26 8 a0))] [] (g_put (g_put w 25 48 ((a0 * 6) + (f_at w 26 8 a0)) a1) 26 8 a0 ((f_at w 26 8 a0) + 1)) _
        refine gw_iload_n k_Psa_addFestal f_Psa_addFestal_65 rfl ?_
        refine gw_iconst k_Psa_addFestal f_Psa_addFestal_66 qc_1 ?_
        refine gw_iadd k_Psa_addFestal f_Psa_addFestal_67 ?_
        exact gw_iret k_Psa_addFestal f_Psa_addFestal_68 rfl h
      · have h := h.2 c3
        refine gw_iconst k_Psa_addFestal f_Psa_addFestal_29 qc_m1 ?_
        exact gw_iret k_Psa_addFestal f_Psa_addFestal_30 rfl h
theorem ev_Psa_addFestal {zs : List Int32} {a0 a1 : Int32} {w : Wd} {Q : Option AV → Wd → Prop} (h : Q (some (.inl (f_Psa_addFestal w a0 a1))) (g_Psa_addFestal w a0 a1)) : Ew zs 2 m_Psa_addFestal [.inr (.inl (some 22)), .inl a0, .inl a1] w Q := by
  refine ew_of k_Psa_addFestal rfl (sg_Psa_addFestal_0 ?_)
  refine ⟨fun c1 => ?_, fun c1 => ?_⟩
  ·
    rw [show f_Psa_addFestal w a0 a1 = (-1) from by unfold f_Psa_addFestal; rw [if_pos c1]] at h
    rw [show g_Psa_addFestal w a0 a1 = w from by unfold g_Psa_addFestal; rw [if_pos c1]] at h
    exact h
  ·
    refine ⟨fun c2 => ?_, fun c2 => ?_⟩
    ·
      rw [show f_Psa_addFestal w a0 a1 = (-1) from by unfold f_Psa_addFestal; rw [if_neg c1, if_pos c2]] at h
      rw [show g_Psa_addFestal w a0 a1 = w from by unfold g_Psa_addFestal; rw [if_neg c1, if_pos c2]] at h
      exact h
    ·
      refine ⟨fun c3 => ?_, fun c3 => ?_⟩
      ·
        rw [show f_Psa_addFestal w a0 a1 = ((f_at w 26 8 a0) + 1) from by unfold f_Psa_addFestal; rw [if_neg c1, if_neg c2, if_pos c3]] at h
        rw [show g_Psa_addFestal w a0 a1 = (g_put (g_put w 25 48 ((a0 * 6) + (f_at w 26 8 a0)) a1) 26 8 a0 ((f_at w 26 8 a0) + 1)) from by unfold g_Psa_addFestal; rw [if_neg c1, if_neg c2, if_pos c3]] at h
        exact h
      ·
        rw [show f_Psa_addFestal w a0 a1 = (-1) from by unfold f_Psa_addFestal; rw [if_neg c1, if_neg c2, if_neg c3]] at h
        rw [show g_Psa_addFestal w a0 a1 = w from by unfold g_Psa_addFestal; rw [if_neg c1, if_neg c2, if_neg c3]] at h
        exact h
theorem gn_Psa_addFestal {w : Wd} {a0 : Int32} {a1 : Int32} {c k : Nat} (h : c ∉ [25, 26]) : g_Psa_addFestal w a0 a1 c k = w c k := by
  simp only [List.mem_cons, List.not_mem_nil, or_false, not_or] at h
  unfold g_Psa_addFestal
  repeat' split
  all_goals simp [wr, g_put_ne, h]
def f_Bk_festal (w : Wd) (a0 : Int32) (a1 : Int32) : Int32 := (f_Psa_addFestal w a0 a1)
def g_Bk_festal (w : Wd) (a0 : Int32) (a1 : Int32) : Wd := g_Psa_addFestal w a0 a1
theorem sg_Bk_festal_0 {zs : List Int32} {a0 a1 : Int32} {w : Wd} {Q : Option AV → Wd → Prop} (h : Q (some (.inl (f_Psa_addFestal w a0 a1))) (g_Psa_addFestal w a0 a1)) : Gw zs 3 m_Bk_festal 0 [some (.inr (.inl (some 0))), some (.inl a0), some (.inl a1)] [] w Q := by
  refine gw_aload_n k_Bk_festal f_Bk_festal_0 rfl ?_
  refine gw_getR k_Bk_festal f_Bk_festal_1 l_fldT_10_35 hc0 rfl ?_
  refine gw_iload_n k_Bk_festal f_Bk_festal_4 rfl ?_
  refine gw_iload_n k_Bk_festal f_Bk_festal_5 rfl ?_
  refine gw_virtual [.inl a0, .inl a1] k_Bk_festal f_Bk_festal_6 l_invT_10_146 k_Psa_addFestal hc22 rfl rfl rfl (by exact Nat.le_of_ble_eq_true rfl) (dc := 2) (by decide) ?_ rfl
  refine ev_Psa_addFestal ?_
  show Gw zs 3 m_Bk_festal 9 [some (.inr (.inl (some 0))), some (.inl a0), some (.inl a1)] [.inl (f_Psa_addFestal w a0 a1)] (g_Psa_addFestal w a0 a1) _
  exact gw_iret k_Bk_festal f_Bk_festal_9 rfl h
theorem ev_Bk_festal {zs : List Int32} {a0 a1 : Int32} {w : Wd} {Q : Option AV → Wd → Prop} (h : Q (some (.inl (f_Bk_festal w a0 a1))) (g_Bk_festal w a0 a1)) : Ew zs 3 m_Bk_festal [.inr (.inl (some 0)), .inl a0, .inl a1] w Q := by
  refine ew_of k_Bk_festal rfl (sg_Bk_festal_0 ?_)
  rw [show f_Bk_festal w a0 a1 = (f_Psa_addFestal w a0 a1) from by unfold f_Bk_festal; rfl] at h
  rw [show g_Bk_festal w a0 a1 = (g_Psa_addFestal w a0 a1) from by unfold g_Bk_festal; rfl] at h
  exact h
theorem gn_Bk_festal {w : Wd} {a0 : Int32} {a1 : Int32} {c k : Nat} (h : c ∉ [25, 26]) : g_Bk_festal w a0 a1 c k = w c k := by
  simp only [List.mem_cons, List.not_mem_nil, or_false, not_or] at h
  unfold g_Bk_festal
  repeat' split
  all_goals simp [wr, gn_Psa_addFestal, h]
def f_Psa_setFeastRank (w : Wd) (a0 : Int32) : Int32 := if (f_Bk_within a0 1 10) = 0 then (-1) else (w 22 9)
def g_Psa_setFeastRank (w : Wd) (a0 : Int32) : Wd := if (f_Bk_within a0 1 10) = 0 then w else wr w 22 9 a0
theorem sg_Psa_setFeastRank_0 {zs : List Int32} {a0 : Int32} {w : Wd} {Q : Option AV → Wd → Prop} (h : (((f_Bk_within a0 1 10) = 0 → Q (some (.inl (-1))) w) ∧ (¬ ((f_Bk_within a0 1 10) = 0) → Q (some (.inl (w 22 9))) (wr w 22 9 a0)))) : Gw zs 1 m_Psa_setFeastRank 0 [some (.inr (.inl (some 22))), some (.inl a0), none] [] w Q := by
  refine gw_iload_n k_Psa_setFeastRank f_Psa_setFeastRank_0 rfl ?_
  refine gw_iconst k_Psa_setFeastRank f_Psa_setFeastRank_1 qc_1 ?_
  refine gw_bipush k_Psa_setFeastRank f_Psa_setFeastRank_2 qb_10 ?_
  refine gw_static [.inl a0, .inl 1, .inl 10] k_Psa_setFeastRank f_Psa_setFeastRank_4 l_invT_5_40 (by decide) k_Bk_within rfl (by exact Nat.le_of_ble_eq_true rfl) (dc := 0) (by decide) ?_ rfl
  refine ev_Bk_within ?_
  show Gw zs 1 m_Psa_setFeastRank 7 [some (.inr (.inl (some 22))), some (.inl a0), none] [.inl (f_Bk_within a0 1 10)] w _
  refine gw_if_ne (t := 12) k_Psa_setFeastRank f_Psa_setFeastRank_7 rfl (fun c1 => ?_) (fun c1 => ?_)
  · have h := h.2 c1
    refine gw_aload_n k_Psa_setFeastRank f_Psa_setFeastRank_12 rfl ?_
    refine gw_getI k_Psa_setFeastRank f_Psa_setFeastRank_13 l_fldT_5_37 hc22 rfl ?_
    refine gw_istore_n [some (.inr (.inl (some 22))), some (.inl a0), some (.inl (w 22 9))] k_Psa_setFeastRank f_Psa_setFeastRank_16 (Nat.le_of_ble_eq_true rfl) rfl ?_
    refine gw_aload_n k_Psa_setFeastRank f_Psa_setFeastRank_17 rfl ?_
    refine gw_iload_n k_Psa_setFeastRank f_Psa_setFeastRank_18 rfl ?_
    refine gw_put k_Psa_setFeastRank f_Psa_setFeastRank_19 l_fldT_5_37 hc22 rfl rfl rfl rfl rfl ?_
    refine gw_iload_n k_Psa_setFeastRank f_Psa_setFeastRank_22 rfl ?_
    exact gw_iret k_Psa_setFeastRank f_Psa_setFeastRank_23 rfl h
  · have c1 := Decidable.not_not.mp c1
    have h := h.1 c1
    refine gw_iconst k_Psa_setFeastRank f_Psa_setFeastRank_10 qc_m1 ?_
    exact gw_iret k_Psa_setFeastRank f_Psa_setFeastRank_11 rfl h
theorem ev_Psa_setFeastRank {zs : List Int32} {a0 : Int32} {w : Wd} {Q : Option AV → Wd → Prop} (h : Q (some (.inl (f_Psa_setFeastRank w a0))) (g_Psa_setFeastRank w a0)) : Ew zs 1 m_Psa_setFeastRank [.inr (.inl (some 22)), .inl a0] w Q := by
  refine ew_of k_Psa_setFeastRank rfl (sg_Psa_setFeastRank_0 ?_)
  refine ⟨fun c1 => ?_, fun c1 => ?_⟩
  ·
    rw [show f_Psa_setFeastRank w a0 = (-1) from by unfold f_Psa_setFeastRank; rw [if_pos c1]] at h
    rw [show g_Psa_setFeastRank w a0 = w from by unfold g_Psa_setFeastRank; rw [if_pos c1]] at h
    exact h
  ·
    rw [show f_Psa_setFeastRank w a0 = (w 22 9) from by unfold f_Psa_setFeastRank; rw [if_neg c1]] at h
    rw [show g_Psa_setFeastRank w a0 = (wr w 22 9 a0) from by unfold g_Psa_setFeastRank; rw [if_neg c1]] at h
    exact h
theorem gn_Psa_setFeastRank {w : Wd} {a0 : Int32} {c k : Nat} (h : c ∉ [22]) : g_Psa_setFeastRank w a0 c k = w c k := by
  simp only [List.mem_cons, List.not_mem_nil, or_false, not_or] at h
  unfold g_Psa_setFeastRank
  repeat' split
  all_goals simp [wr, h]
def f_Bk_limit (w : Wd) (a0 : Int32) : Int32 := (f_Psa_setFeastRank w a0)
def g_Bk_limit (w : Wd) (a0 : Int32) : Wd := g_Psa_setFeastRank w a0
theorem sg_Bk_limit_0 {zs : List Int32} {a0 : Int32} {w : Wd} {Q : Option AV → Wd → Prop} (h : Q (some (.inl (f_Psa_setFeastRank w a0))) (g_Psa_setFeastRank w a0)) : Gw zs 2 m_Bk_limit 0 [some (.inr (.inl (some 0))), some (.inl a0)] [] w Q := by
  refine gw_aload_n k_Bk_limit f_Bk_limit_0 rfl ?_
  refine gw_getR k_Bk_limit f_Bk_limit_1 l_fldT_10_35 hc0 rfl ?_
  refine gw_iload_n k_Bk_limit f_Bk_limit_4 rfl ?_
  refine gw_virtual [.inl a0] k_Bk_limit f_Bk_limit_5 l_invT_10_149 k_Psa_setFeastRank hc22 rfl rfl rfl (by exact Nat.le_of_ble_eq_true rfl) (dc := 1) (by decide) ?_ rfl
  refine ev_Psa_setFeastRank ?_
  show Gw zs 2 m_Bk_limit 8 [some (.inr (.inl (some 0))), some (.inl a0)] [.inl (f_Psa_setFeastRank w a0)] (g_Psa_setFeastRank w a0) _
  exact gw_iret k_Bk_limit f_Bk_limit_8 rfl h
theorem ev_Bk_limit {zs : List Int32} {a0 : Int32} {w : Wd} {Q : Option AV → Wd → Prop} (h : Q (some (.inl (f_Bk_limit w a0))) (g_Bk_limit w a0)) : Ew zs 2 m_Bk_limit [.inr (.inl (some 0)), .inl a0] w Q := by
  refine ew_of k_Bk_limit rfl (sg_Bk_limit_0 ?_)
  rw [show f_Bk_limit w a0 = (f_Psa_setFeastRank w a0) from by unfold f_Bk_limit; rfl] at h
  rw [show g_Bk_limit w a0 = (g_Psa_setFeastRank w a0) from by unfold g_Bk_limit; rfl] at h
  exact h
theorem gn_Bk_limit {w : Wd} {a0 : Int32} {c k : Nat} (h : c ∉ [22]) : g_Bk_limit w a0 c k = w c k := by
  simp only [List.mem_cons, List.not_mem_nil, or_false, not_or] at h
  unfold g_Bk_limit
  repeat' split
  all_goals simp [wr, gn_Psa_setFeastRank, h]
def f_Psa_countDealt (w : Wd) (a0 : Int32) (a1 : Int32) : Int32 := ((f_at w 28 57 (((a0 * (w 22 8)) + a1) + 1)) - (f_at w 28 57 ((a0 * (w 22 8)) + a1)))
theorem sg_Psa_countDealt_0 {zs : List Int32} {a0 a1 : Int32} {w : Wd} {Q : Option AV → Wd → Prop} (h : Q (some (.inl ((f_at w 28 57 (((a0 * (w 22 8)) + a1) + 1)) - (f_at w 28 57 ((a0 * (w 22 8)) + a1))))) w) : Gw zs 1 m_Psa_countDealt 0 [some (.inr (.inl (some 22))), some (.inl a0), some (.inl a1), none] [] w Q := by
  refine gw_iload_n k_Psa_countDealt f_Psa_countDealt_0 rfl ?_
  refine gw_aload_n k_Psa_countDealt f_Psa_countDealt_1 rfl ?_
  refine gw_getI k_Psa_countDealt f_Psa_countDealt_2 l_fldT_5_33 hc22 rfl ?_
  refine gw_imul k_Psa_countDealt f_Psa_countDealt_5 ?_
  refine gw_iload_n k_Psa_countDealt f_Psa_countDealt_6 rfl ?_
  refine gw_iadd k_Psa_countDealt f_Psa_countDealt_7 ?_
  refine gw_istore_n [some (.inr (.inl (some 22))), some (.inl a0), some (.inl a1), some (.inl ((a0 * (w 22 8)) + a1))] k_Psa_countDealt f_Psa_countDealt_8 (Nat.le_of_ble_eq_true rfl) rfl ?_
  refine gw_aload_n k_Psa_countDealt f_Psa_countDealt_9 rfl ?_
  refine gw_getR k_Psa_countDealt f_Psa_countDealt_10 l_fldT_5_27 hc22 rfl ?_
  refine gw_iload_n k_Psa_countDealt f_Psa_countDealt_13 rfl ?_
  refine gw_iconst k_Psa_countDealt f_Psa_countDealt_14 qc_1 ?_
  refine gw_iadd k_Psa_countDealt f_Psa_countDealt_15 ?_
  refine gw_static [.inr (.inl (some 28)), .inl (((a0 * (w 22 8)) + a1) + 1)] k_Psa_countDealt f_Psa_countDealt_16 l_invT_5_48 (by decide) k_Bk_at rfl (by exact Nat.le_of_ble_eq_true rfl) (dc := 0) (by decide) ?_ rfl
  refine ev_at hc28 (by decide) ?_
  show Gw zs 1 m_Psa_countDealt 19 [some (.inr (.inl (some 22))), some (.inl a0), some (.inl a1), some (.inl ((a0 * (w 22 8)) + a1))] [.inl (f_at w 28 57 (((a0 * (w 22 8)) + a1) + 1))] w _
  refine gw_aload_n k_Psa_countDealt f_Psa_countDealt_19 rfl ?_
  refine gw_getR k_Psa_countDealt f_Psa_countDealt_20 l_fldT_5_27 hc22 rfl ?_
  refine gw_iload_n k_Psa_countDealt f_Psa_countDealt_23 rfl ?_
  refine gw_static [.inr (.inl (some 28)), .inl ((a0 * (w 22 8)) + a1)] k_Psa_countDealt f_Psa_countDealt_24 l_invT_5_48 (by decide) k_Bk_at rfl (by exact Nat.le_of_ble_eq_true rfl) (dc := 0) (by decide) ?_ rfl
  refine ev_at hc28 (by decide) ?_
  show Gw zs 1 m_Psa_countDealt 27 [some (.inr (.inl (some 22))), some (.inl a0), some (.inl a1), some (.inl ((a0 * (w 22 8)) + a1))] [.inl (f_at w 28 57 ((a0 * (w 22 8)) + a1)), .inl (f_at w 28 57 (((a0 * (w 22 8)) + a1) + 1))] w _
  refine gw_isub k_Psa_countDealt f_Psa_countDealt_27 ?_
  exact gw_iret k_Psa_countDealt f_Psa_countDealt_28 rfl h
theorem ev_Psa_countDealt {zs : List Int32} {a0 a1 : Int32} {w : Wd} {Q : Option AV → Wd → Prop} (h : Q (some (.inl (f_Psa_countDealt w a0 a1))) w) : Ew zs 1 m_Psa_countDealt [.inr (.inl (some 22)), .inl a0, .inl a1] w Q := by
  refine ew_of k_Psa_countDealt rfl (sg_Psa_countDealt_0 ?_)
  rw [show f_Psa_countDealt w a0 a1 = ((f_at w 28 57 (((a0 * (w 22 8)) + a1) + 1)) - (f_at w 28 57 ((a0 * (w 22 8)) + a1))) from by unfold f_Psa_countDealt; rfl] at h
  exact h
def f_Psa_dealtPsalm (w : Wd) (a0 : Int32) (a1 : Int32) (a2 : Int32) : Int32 := if (f_Psa_countDealt w a0 a1) ≤ a2 then (-1) else (f_at w 27 150 ((f_at w 28 57 ((a0 * (w 22 8)) + a1)) + a2))
theorem sg_Psa_dealtPsalm_0 {zs : List Int32} {a0 a1 a2 : Int32} {w : Wd} {Q : Option AV → Wd → Prop} (h : (((f_Psa_countDealt w a0 a1) ≤ a2 → Q (some (.inl (-1))) w) ∧ (¬ ((f_Psa_countDealt w a0 a1) ≤ a2) → Q (some (.inl (f_at w 27 150 ((f_at w 28 57 ((a0 * (w 22 8)) + a1)) + a2)))) w))) : Gw zs 2 m_Psa_dealtPsalm 0 [some (.inr (.inl (some 22))), some (.inl a0), some (.inl a1), some (.inl a2)] [] w Q := by
  refine gw_iload_n k_Psa_dealtPsalm f_Psa_dealtPsalm_0 rfl ?_
  refine gw_aload_n k_Psa_dealtPsalm f_Psa_dealtPsalm_1 rfl ?_
  refine gw_iload_n k_Psa_dealtPsalm f_Psa_dealtPsalm_2 rfl ?_
  refine gw_iload_n k_Psa_dealtPsalm f_Psa_dealtPsalm_3 rfl ?_
  refine gw_virtual [.inl a0, .inl a1] k_Psa_dealtPsalm f_Psa_dealtPsalm_4 l_invT_5_76 k_Psa_countDealt hc22 rfl rfl rfl (by exact Nat.le_of_ble_eq_true rfl) (dc := 1) (by decide) ?_ rfl
  refine ev_Psa_countDealt ?_
  show Gw zs 2 m_Psa_dealtPsalm 7 [some (.inr (.inl (some 22))), some (.inl a0), some (.inl a1), some (.inl a2)] [.inl (f_Psa_countDealt w a0 a1), .inl a2] w _
  refine gw_icmp_ge (t := 37) k_Psa_dealtPsalm f_Psa_dealtPsalm_7 rfl (fun c1 => ?_) (fun c1 => ?_)
  · have h := h.1 c1
    refine gw_iconst k_Psa_dealtPsalm f_Psa_dealtPsalm_37 qc_m1 ?_
    exact gw_iret k_Psa_dealtPsalm f_Psa_dealtPsalm_38 rfl h
  · have h := h.2 c1
    refine gw_aload_n k_Psa_dealtPsalm f_Psa_dealtPsalm_10 rfl ?_
    refine gw_getR k_Psa_dealtPsalm f_Psa_dealtPsalm_11 l_fldT_5_24 hc22 rfl ?_
    refine gw_aload_n k_Psa_dealtPsalm f_Psa_dealtPsalm_14 rfl ?_
    refine gw_getR k_Psa_dealtPsalm f_Psa_dealtPsalm_15 l_fldT_5_27 hc22 rfl ?_
    refine gw_iload_n k_Psa_dealtPsalm f_Psa_dealtPsalm_18 rfl ?_
    refine gw_aload_n k_Psa_dealtPsalm f_Psa_dealtPsalm_19 rfl ?_
    refine gw_getI k_Psa_dealtPsalm f_Psa_dealtPsalm_20 l_fldT_5_33 hc22 rfl ?_
    refine gw_imul k_Psa_dealtPsalm f_Psa_dealtPsalm_23 ?_
    refine gw_iload_n k_Psa_dealtPsalm f_Psa_dealtPsalm_24 rfl ?_
    refine gw_iadd k_Psa_dealtPsalm f_Psa_dealtPsalm_25 ?_
    refine gw_static [.inr (.inl (some 28)), .inl ((a0 * (w 22 8)) + a1)] k_Psa_dealtPsalm f_Psa_dealtPsalm_26 l_invT_5_48 (by decide) k_Bk_at rfl (by exact Nat.le_of_ble_eq_true rfl) (dc := 0) (by decide) ?_ rfl
    refine ev_at hc28 (by decide) ?_
    show Gw zs 2 m_Psa_dealtPsalm 29 [some (.inr (.inl (some 22))), some (.inl a0), some (.inl a1), some (.inl a2)] [.inl (f_at w 28 57 ((a0 * (w 22 8)) + a1)), .inr (.inl (some 27))] w _
    refine gw_iload_n k_Psa_dealtPsalm f_Psa_dealtPsalm_29 rfl ?_
    refine gw_iadd k_Psa_dealtPsalm f_Psa_dealtPsalm_30 ?_
    refine gw_static [.inr (.inl (some 27)), .inl ((f_at w 28 57 ((a0 * (w 22 8)) + a1)) + a2)] k_Psa_dealtPsalm f_Psa_dealtPsalm_31 l_invT_5_48 (by decide) k_Bk_at rfl (by exact Nat.le_of_ble_eq_true rfl) (dc := 0) (by decide) ?_ rfl
    refine ev_at hc27 (by decide) ?_
    show Gw zs 2 m_Psa_dealtPsalm 34 [some (.inr (.inl (some 22))), some (.inl a0), some (.inl a1), some (.inl a2)] [.inl (f_at w 27 150 ((f_at w 28 57 ((a0 * (w 22 8)) + a1)) + a2))] w _
    refine gw_goto (t := 38) k_Psa_dealtPsalm f_Psa_dealtPsalm_34 rfl ?_
    exact gw_iret k_Psa_dealtPsalm f_Psa_dealtPsalm_38 rfl h
theorem ev_Psa_dealtPsalm {zs : List Int32} {a0 a1 a2 : Int32} {w : Wd} {Q : Option AV → Wd → Prop} (h : Q (some (.inl (f_Psa_dealtPsalm w a0 a1 a2))) w) : Ew zs 2 m_Psa_dealtPsalm [.inr (.inl (some 22)), .inl a0, .inl a1, .inl a2] w Q := by
  refine ew_of k_Psa_dealtPsalm rfl (sg_Psa_dealtPsalm_0 ?_)
  refine ⟨fun c1 => ?_, fun c1 => ?_⟩
  ·
    rw [show f_Psa_dealtPsalm w a0 a1 a2 = (-1) from by unfold f_Psa_dealtPsalm; rw [if_pos c1]] at h
    exact h
  ·
    rw [show f_Psa_dealtPsalm w a0 a1 a2 = (f_at w 27 150 ((f_at w 28 57 ((a0 * (w 22 8)) + a1)) + a2)) from by unfold f_Psa_dealtPsalm; rw [if_neg c1]] at h
    exact h
def f_Alm_rankOn (w : Wd) (a0 : Int32) : Int32 := (f_Alm_rankIn (f_at w 18 366 a0))
theorem sg_Alm_rankOn_0 {zs : List Int32} {a0 : Int32} {w : Wd} {Q : Option AV → Wd → Prop} (h : Q (some (.inl (f_Alm_rankIn (f_at w 18 366 a0)))) w) : Gw zs 1 m_Alm_rankOn 0 [some (.inr (.inl (some 16))), some (.inl a0)] [] w Q := by
  refine gw_aload_n k_Alm_rankOn f_Alm_rankOn_0 rfl ?_
  refine gw_getR k_Alm_rankOn f_Alm_rankOn_1 l_fldT_0_15 hc16 rfl ?_
  refine gw_iload_n k_Alm_rankOn f_Alm_rankOn_4 rfl ?_
  refine gw_static [.inr (.inl (some 18)), .inl a0] k_Alm_rankOn f_Alm_rankOn_5 l_invT_0_60 (by decide) k_Bk_at rfl (by exact Nat.le_of_ble_eq_true rfl) (dc := 0) (by decide) ?_ rfl
  refine ev_at hc18 (by decide) ?_
  show Gw zs 1 m_Alm_rankOn 8 [some (.inr (.inl (some 16))), some (.inl a0)] [.inl (f_at w 18 366 a0)] w _
  refine gw_static [.inl (f_at w 18 366 a0)] k_Alm_rankOn f_Alm_rankOn_8 l_invT_0_80 (by decide) k_Alm_rankIn rfl (by exact Nat.le_of_ble_eq_true rfl) (dc := 0) (by decide) ?_ rfl
  refine ev_Alm_rankIn ?_
  show Gw zs 1 m_Alm_rankOn 11 [some (.inr (.inl (some 16))), some (.inl a0)] [.inl (f_Alm_rankIn (f_at w 18 366 a0))] w _
  exact gw_iret k_Alm_rankOn f_Alm_rankOn_11 rfl h
theorem ev_Alm_rankOn {zs : List Int32} {a0 : Int32} {w : Wd} {Q : Option AV → Wd → Prop} (h : Q (some (.inl (f_Alm_rankOn w a0))) w) : Ew zs 1 m_Alm_rankOn [.inr (.inl (some 16)), .inl a0] w Q := by
  refine ew_of k_Alm_rankOn rfl (sg_Alm_rankOn_0 ?_)
  rw [show f_Alm_rankOn w a0 = (f_Alm_rankIn (f_at w 18 366 a0)) from by unfold f_Alm_rankOn; rfl] at h
  exact h
def f_Psa_isFestive (w : Wd) (a0 : Int32) (a1 : Int32) : Int32 := if a1 < (w 22 9) then 0 else if (f_at w 26 8 a0) ≤ 0 then 0 else 1
theorem sg_Psa_isFestive_0 {zs : List Int32} {a0 a1 : Int32} {w : Wd} {Q : Option AV → Wd → Prop} (h : ((a1 < (w 22 9) → Q (some (.inl 0)) w) ∧ (¬ (a1 < (w 22 9)) → (((f_at w 26 8 a0) ≤ 0 → Q (some (.inl 0)) w) ∧ (¬ ((f_at w 26 8 a0) ≤ 0) → Q (some (.inl 1)) w))))) : Gw zs 1 m_Psa_isFestive 0 [some (.inr (.inl (some 22))), some (.inl a0), some (.inl a1)] [] w Q := by
  refine gw_iload_n k_Psa_isFestive f_Psa_isFestive_0 rfl ?_
  refine gw_aload_n k_Psa_isFestive f_Psa_isFestive_1 rfl ?_
  refine gw_getI k_Psa_isFestive f_Psa_isFestive_2 l_fldT_5_37 hc22 rfl ?_
  refine gw_icmp_lt (t := 23) k_Psa_isFestive f_Psa_isFestive_5 rfl (fun c1 => ?_) (fun c1 => ?_)
  · have h := h.1 c1
    refine gw_iconst k_Psa_isFestive f_Psa_isFestive_23 qc_0 ?_
    exact gw_zret k_Psa_isFestive f_Psa_isFestive_24 rfl (Or.inl rfl) h
  · have h := h.2 c1
    refine gw_aload_n k_Psa_isFestive f_Psa_isFestive_8 rfl ?_
    refine gw_getR k_Psa_isFestive f_Psa_isFestive_9 l_fldT_5_21 hc22 rfl ?_
    refine gw_iload_n k_Psa_isFestive f_Psa_isFestive_12 rfl ?_
    refine gw_static [.inr (.inl (some 26)), .inl a0] k_Psa_isFestive f_Psa_isFestive_13 l_invT_5_48 (by decide) k_Bk_at rfl (by exact Nat.le_of_ble_eq_true rfl) (dc := 0) (by decide) ?_ rfl
    refine ev_at hc26 (by decide) ?_
    show Gw zs 1 m_Psa_isFestive 16 [some (.inr (.inl (some 22))), some (.inl a0), some (.inl a1)] [.inl (f_at w 26 8 a0)] w _
    refine gw_if_le (t := 23) k_Psa_isFestive f_Psa_isFestive_16 rfl (fun c2 => ?_) (fun c2 => ?_)
    · have h := h.1 c2
      refine gw_iconst k_Psa_isFestive f_Psa_isFestive_23 qc_0 ?_
      exact gw_zret k_Psa_isFestive f_Psa_isFestive_24 rfl (Or.inl rfl) h
    · have h := h.2 c2
      refine gw_iconst k_Psa_isFestive f_Psa_isFestive_19 qc_1 ?_
      refine gw_goto (t := 24) k_Psa_isFestive f_Psa_isFestive_20 rfl ?_
      exact gw_zret k_Psa_isFestive f_Psa_isFestive_24 rfl (Or.inr rfl) h
theorem ev_Psa_isFestive {zs : List Int32} {a0 a1 : Int32} {w : Wd} {Q : Option AV → Wd → Prop} (h : Q (some (.inl (f_Psa_isFestive w a0 a1))) w) : Ew zs 1 m_Psa_isFestive [.inr (.inl (some 22)), .inl a0, .inl a1] w Q := by
  refine ew_of k_Psa_isFestive rfl (sg_Psa_isFestive_0 ?_)
  refine ⟨fun c1 => ?_, fun c1 => ?_⟩
  ·
    rw [show f_Psa_isFestive w a0 a1 = 0 from by unfold f_Psa_isFestive; rw [if_pos c1]] at h
    exact h
  ·
    refine ⟨fun c2 => ?_, fun c2 => ?_⟩
    ·
      rw [show f_Psa_isFestive w a0 a1 = 0 from by unfold f_Psa_isFestive; rw [if_neg c1, if_pos c2]] at h
      exact h
    ·
      rw [show f_Psa_isFestive w a0 a1 = 1 from by unfold f_Psa_isFestive; rw [if_neg c1, if_neg c2]] at h
      exact h
theorem fb_Psa_isFestive {w : Wd} {a0 : Int32} {a1 : Int32} : f_Psa_isFestive w a0 a1 = 0 ∨ f_Psa_isFestive w a0 a1 = 1 := by
  unfold f_Psa_isFestive
  exact (if01 (Or.inl rfl) (if01 (Or.inl rfl) (Or.inr rfl)))
def f_Ton_isNote (a0 : Int32) : Int32 := (f_Bk_within a0 0 30)
theorem sg_Ton_isNote_0 {zs : List Int32} {a0 : Int32} {w : Wd} {Q : Option AV → Wd → Prop} (h : Q (some (.inl (f_Bk_within a0 0 30))) w) : Gw zs 1 m_Ton_isNote 0 [some (.inl a0)] [] w Q := by
  refine gw_iload_n k_Ton_isNote f_Ton_isNote_0 rfl ?_
  refine gw_iconst k_Ton_isNote f_Ton_isNote_1 qc_0 ?_
  refine gw_bipush k_Ton_isNote f_Ton_isNote_2 qb_30 ?_
  refine gw_static [.inl a0, .inl 0, .inl 30] k_Ton_isNote f_Ton_isNote_4 l_invT_8_25 (by decide) k_Bk_within rfl (by exact Nat.le_of_ble_eq_true rfl) (dc := 0) (by decide) ?_ rfl
  refine ev_Bk_within ?_
  show Gw zs 1 m_Ton_isNote 7 [some (.inl a0)] [.inl (f_Bk_within a0 0 30)] w _
  exact gw_zret k_Ton_isNote f_Ton_isNote_7 rfl (fb_Bk_within ..) h
theorem ev_Ton_isNote {zs : List Int32} {a0 : Int32} {w : Wd} {Q : Option AV → Wd → Prop} (h : Q (some (.inl (f_Ton_isNote a0))) w) : Ew zs 1 m_Ton_isNote [.inl a0] w Q := by
  refine ew_of k_Ton_isNote rfl (sg_Ton_isNote_0 ?_)
  rw [show f_Ton_isNote a0 = (f_Bk_within a0 0 30) from by unfold f_Ton_isNote; rfl] at h
  exact h
theorem fb_Ton_isNote {a0 : Int32} : f_Ton_isNote a0 = 0 ∨ f_Ton_isNote a0 = 1 := by
  unfold f_Ton_isNote
  exact (fb_Bk_within ..)
def f_Ton_setTenor (b : Nat) (a0 : Int32) : Int32 := if (f_Ton_isNote a0) = 0 then (-1) else 0
def g_Ton_setTenor (w : Wd) (b : Nat) (a0 : Int32) : Wd := if (f_Ton_isNote a0) = 0 then w else wr w b 4 a0
theorem sg_Ton_setTenor_0 {zs : List Int32} {b : Nat} (hb : isTon b) {a0 : Int32} {w : Wd} {Q : Option AV → Wd → Prop} (h : (((f_Ton_isNote a0) = 0 → Q (some (.inl (-1))) w) ∧ (¬ ((f_Ton_isNote a0) = 0) → Q (some (.inl 0)) (wr w b 4 a0)))) : Gw zs 2 m_Ton_setTenor 0 [some (.inr (.inl (some b))), some (.inl a0)] [] w Q := by
  refine gw_iload_n k_Ton_setTenor f_Ton_setTenor_0 rfl ?_
  refine gw_static [.inl a0] k_Ton_setTenor f_Ton_setTenor_1 l_invT_8_29 (by decide) k_Ton_isNote rfl (by exact Nat.le_of_ble_eq_true rfl) (dc := 1) (by decide) ?_ rfl
  refine ev_Ton_isNote ?_
  show Gw zs 2 m_Ton_setTenor 4 [some (.inr (.inl (some b))), some (.inl a0)] [.inl (f_Ton_isNote a0)] w _
  refine gw_if_ne (t := 9) k_Ton_setTenor f_Ton_setTenor_4 rfl (fun c1 => ?_) (fun c1 => ?_)
  · have h := h.2 c1
    refine gw_aload_n k_Ton_setTenor f_Ton_setTenor_9 rfl ?_
    refine gw_iload_n k_Ton_setTenor f_Ton_setTenor_10 rfl ?_
    refine gw_put k_Ton_setTenor f_Ton_setTenor_11 l_fldT_8_33 hb.1 rfl rfl rfl rfl rfl ?_
    refine gw_iconst k_Ton_setTenor f_Ton_setTenor_14 qc_0 ?_
    exact gw_iret k_Ton_setTenor f_Ton_setTenor_15 rfl h
  · have c1 := Decidable.not_not.mp c1
    have h := h.1 c1
    refine gw_iconst k_Ton_setTenor f_Ton_setTenor_7 qc_m1 ?_
    exact gw_iret k_Ton_setTenor f_Ton_setTenor_8 rfl h
theorem ev_Ton_setTenor {zs : List Int32} {b : Nat} (hb : isTon b) {a0 : Int32} {w : Wd} {Q : Option AV → Wd → Prop} (h : Q (some (.inl (f_Ton_setTenor b a0))) (g_Ton_setTenor w b a0)) : Ew zs 2 m_Ton_setTenor [.inr (.inl (some b)), .inl a0] w Q := by
  refine ew_of k_Ton_setTenor rfl (sg_Ton_setTenor_0 hb ?_)
  refine ⟨fun c1 => ?_, fun c1 => ?_⟩
  ·
    rw [show f_Ton_setTenor b a0 = (-1) from by unfold f_Ton_setTenor; rw [if_pos c1]] at h
    rw [show g_Ton_setTenor w b a0 = w from by unfold g_Ton_setTenor; rw [if_pos c1]] at h
    exact h
  ·
    rw [show f_Ton_setTenor b a0 = 0 from by unfold f_Ton_setTenor; rw [if_neg c1]] at h
    rw [show g_Ton_setTenor w b a0 = (wr w b 4 a0) from by unfold g_Ton_setTenor; rw [if_neg c1]] at h
    exact h
def f_Bk_tenor (a0 : Int32) (a1 : Int32) : Int32 := if a0 < 0 then (-1) else if 9 ≤ a0 then (-1) else (f_Ton_setTenor (31 + 8 * a0.toNatClampNeg) a1)
def g_Bk_tenor (w : Wd) (a0 : Int32) (a1 : Int32) : Wd := if a0 < 0 then w else if 9 ≤ a0 then w else g_Ton_setTenor w (31 + 8 * a0.toNatClampNeg) a1
theorem sg_Bk_tenor_0 {zs : List Int32} {a0 a1 : Int32} {w : Wd} {Q : Option AV → Wd → Prop} (h : ((a0 < 0 → Q (some (.inl (-1))) w) ∧ (¬ (a0 < 0) → ((9 ≤ a0 → Q (some (.inl (-1))) w) ∧ (¬ (9 ≤ a0) → Q (some (.inl (f_Ton_setTenor (31 + 8 * a0.toNatClampNeg) a1))) (g_Ton_setTenor w (31 + 8 * a0.toNatClampNeg) a1)))))) : Gw zs 3 m_Bk_tenor 0 [some (.inr (.inl (some 0))), some (.inl a0), some (.inl a1), none] [] w Q := by
  refine gw_aload_n k_Bk_tenor f_Bk_tenor_0 rfl ?_
  refine gw_iload_n k_Bk_tenor f_Bk_tenor_1 rfl ?_
  refine gw_virtual [.inl a0] k_Bk_tenor f_Bk_tenor_2 l_invT_10_187 k_Bk_toneOf hc0 rfl rfl rfl (by exact Nat.le_of_ble_eq_true rfl) (dc := 0) (by decide) ?_ rfl
  refine ew_of k_Bk_toneOf rfl ?_
  show Gw zs 0 m_Bk_toneOf 0 [some (.inr (.inl (some 0))), some (.inl a0)] [] w _
  refine gw_iload_n k_Bk_toneOf f_Bk_toneOf_0 rfl ?_
  refine gw_if_lt (t := 22) k_Bk_toneOf f_Bk_toneOf_1 rfl (fun c1 => ?_) (fun c1 => ?_)
  · have h := h.1 c1
    refine gw_null k_Bk_toneOf f_Bk_toneOf_22 ?_
    refine gw_aret k_Bk_toneOf f_Bk_toneOf_23 rfl ?_
    show Gw zs 3 m_Bk_tenor 5 [some (.inr (.inl (some 0))), some (.inl a0), some (.inl a1), none] [.inr (.inl none)] w _
    refine gw_astore_n [some (.inr (.inl (some 0))), some (.inl a0), some (.inl a1), some (.inr (.inl none))] k_Bk_tenor f_Bk_tenor_5 (Nat.le_of_ble_eq_true rfl) rfl ?_
    refine gw_aload_n k_Bk_tenor f_Bk_tenor_6 rfl ?_
    refine gw_ifnonnull_n k_Bk_tenor f_Bk_tenor_7 ?_
    refine gw_iconst k_Bk_tenor f_Bk_tenor_10 qc_m1 ?_
    refine gw_goto (t := 19) k_Bk_tenor f_Bk_tenor_11 rfl ?_
    exact gw_iret k_Bk_tenor f_Bk_tenor_19 rfl h
  · have h := h.2 c1
    refine gw_iload_n k_Bk_toneOf f_Bk_toneOf_4 rfl ?_
    refine gw_aload_n k_Bk_toneOf f_Bk_toneOf_5 rfl ?_
    refine gw_getR k_Bk_toneOf f_Bk_toneOf_6 l_fldT_10_41 hc0 rfl ?_
    refine gw_alenQ k_Bk_toneOf f_Bk_toneOf_9 hc30 qn_9 ?_
    refine gw_icmp_ge (t := 22) k_Bk_toneOf f_Bk_toneOf_10 rfl (fun c2 => ?_) (fun c2 => ?_)
    · have h := h.1 c2
      refine gw_null k_Bk_toneOf f_Bk_toneOf_22 ?_
      refine gw_aret k_Bk_toneOf f_Bk_toneOf_23 rfl ?_
      show Gw zs 3 m_Bk_tenor 5 [some (.inr (.inl (some 0))), some (.inl a0), some (.inl a1), none] [.inr (.inl none)] w _
      refine gw_astore_n [some (.inr (.inl (some 0))), some (.inl a0), some (.inl a1), some (.inr (.inl none))] k_Bk_tenor f_Bk_tenor_5 (Nat.le_of_ble_eq_true rfl) rfl ?_
      refine gw_aload_n k_Bk_tenor f_Bk_tenor_6 rfl ?_
      refine gw_ifnonnull_n k_Bk_tenor f_Bk_tenor_7 ?_
      refine gw_iconst k_Bk_tenor f_Bk_tenor_10 qc_m1 ?_
      refine gw_goto (t := 19) k_Bk_tenor f_Bk_tenor_11 rfl ?_
      exact gw_iret k_Bk_tenor f_Bk_tenor_19 rfl h
    · have h := h.2 c2
      refine gw_aload_n k_Bk_toneOf f_Bk_toneOf_13 rfl ?_
      refine gw_getR k_Bk_toneOf f_Bk_toneOf_14 l_fldT_10_41 hc0 rfl ?_
      refine gw_iload_n k_Bk_toneOf f_Bk_toneOf_17 rfl ?_
      have hp3 : vp_in a0 9 := (vin qn_9 (by decide) c1 c2)
      refine gw_aald k_Bk_toneOf f_Bk_toneOf_18 hc30 hp3 (ton_el (vp_lt hp3)) ?_
      have hb4 := ton_is (vp_lt hp3)
      refine gw_goto (t := 23) k_Bk_toneOf f_Bk_toneOf_19 rfl ?_
      refine gw_aret k_Bk_toneOf f_Bk_toneOf_23 rfl ?_
      show Gw zs 3 m_Bk_tenor 5 [some (.inr (.inl (some 0))), some (.inl a0), some (.inl a1), none] [.inr (.inl (some (31 + 8 * a0.toNatClampNeg)))] w _
      refine gw_astore_n [some (.inr (.inl (some 0))), some (.inl a0), some (.inl a1), some (.inr (.inl (some (31 + 8 * a0.toNatClampNeg))))] k_Bk_tenor f_Bk_tenor_5 (Nat.le_of_ble_eq_true rfl) rfl ?_
      refine gw_aload_n k_Bk_tenor f_Bk_tenor_6 rfl ?_
      refine gw_ifnonnull_s (t := 14) k_Bk_tenor f_Bk_tenor_7 rfl ?_
      refine gw_aload_n k_Bk_tenor f_Bk_tenor_14 rfl ?_
      refine gw_iload_n k_Bk_tenor f_Bk_tenor_15 rfl ?_
      refine gw_virtual [.inl a1] k_Bk_tenor f_Bk_tenor_16 l_invT_10_191 k_Ton_setTenor hb4.1 rfl rfl rfl (by exact Nat.le_of_ble_eq_true rfl) (dc := 2) (by decide) ?_ rfl
      refine ev_Ton_setTenor hb4 ?_
      show Gw zs 3 m_Bk_tenor 19 [some (.inr (.inl (some 0))), some (.inl a0), some (.inl a1), some (.inr (.inl (some (31 + 8 * a0.toNatClampNeg))))] [.inl (f_Ton_setTenor (31 + 8 * a0.toNatClampNeg) a1)] (g_Ton_setTenor w (31 + 8 * a0.toNatClampNeg) a1) _
      exact gw_iret k_Bk_tenor f_Bk_tenor_19 rfl h
theorem ev_Bk_tenor {zs : List Int32} {a0 a1 : Int32} {w : Wd} {Q : Option AV → Wd → Prop} (h : Q (some (.inl (f_Bk_tenor a0 a1))) (g_Bk_tenor w a0 a1)) : Ew zs 3 m_Bk_tenor [.inr (.inl (some 0)), .inl a0, .inl a1] w Q := by
  refine ew_of k_Bk_tenor rfl (sg_Bk_tenor_0 ?_)
  refine ⟨fun c1 => ?_, fun c1 => ?_⟩
  ·
    rw [show f_Bk_tenor a0 a1 = (-1) from by unfold f_Bk_tenor; rw [if_pos c1]] at h
    rw [show g_Bk_tenor w a0 a1 = w from by unfold g_Bk_tenor; rw [if_pos c1]] at h
    exact h
  ·
    refine ⟨fun c2 => ?_, fun c2 => ?_⟩
    ·
      rw [show f_Bk_tenor a0 a1 = (-1) from by unfold f_Bk_tenor; rw [if_neg c1, if_pos c2]] at h
      rw [show g_Bk_tenor w a0 a1 = w from by unfold g_Bk_tenor; rw [if_neg c1, if_pos c2]] at h
      exact h
    ·
      rw [show f_Bk_tenor a0 a1 = (f_Ton_setTenor (31 + 8 * a0.toNatClampNeg) a1) from by unfold f_Bk_tenor; rw [if_neg c1, if_neg c2]] at h
      rw [show g_Bk_tenor w a0 a1 = (g_Ton_setTenor w (31 + 8 * a0.toNatClampNeg) a1) from by unfold g_Bk_tenor; rw [if_neg c1, if_neg c2]] at h
      exact h
def f_Ton_addIntonation (w : Wd) (b : Nat) (a0 : Int32) : Int32 := if (w b 3) < 4 then (((g_put w (b + 1) 4 (w b 3) a0) b 3) + 1) else (-1)
def g_Ton_addIntonation (w : Wd) (b : Nat) (a0 : Int32) : Wd := if (w b 3) < 4 then wr (g_put w (b + 1) 4 (w b 3) a0) b 3 (((g_put w (b + 1) 4 (w b 3) a0) b 3) + 1) else w
theorem sg_Ton_addIntonation_0 {zs : List Int32} {b : Nat} (hb : isTon b) {a0 : Int32} {w : Wd} {Q : Option AV → Wd → Prop} (h : (((w b 3) < 4 → Q (some (.inl (((g_put w (b + 1) 4 (w b 3) a0) b 3) + 1))) (wr (g_put w (b + 1) 4 (w b 3) a0) b 3 (((g_put w (b + 1) 4 (w b 3) a0) b 3) + 1))) ∧ (¬ ((w b 3) < 4) → Q (some (.inl (-1))) w))) : Gw zs 1 m_Ton_addIntonation 0 [some (.inr (.inl (some b))), some (.inl a0)] [] w Q := by
  refine gw_aload_n k_Ton_addIntonation f_Ton_addIntonation_0 rfl ?_
  refine gw_getI k_Ton_addIntonation f_Ton_addIntonation_1 l_fldT_8_44 hb.1 rfl ?_
  refine gw_iconst k_Ton_addIntonation f_Ton_addIntonation_4 qc_4 ?_
  refine gw_icmp_lt (t := 10) k_Ton_addIntonation f_Ton_addIntonation_5 rfl (fun c1 => ?_) (fun c1 => ?_)
  · have h := h.1 c1
    refine gw_aload_n k_Ton_addIntonation f_Ton_addIntonation_10 rfl ?_
    refine gw_getR k_Ton_addIntonation f_Ton_addIntonation_11 l_fldT_8_11 hb.1 rfl ?_
    refine gw_aload_n k_Ton_addIntonation f_Ton_addIntonation_14 rfl ?_
    refine gw_getI k_Ton_addIntonation f_Ton_addIntonation_15 l_fldT_8_44 hb.1 rfl ?_
    refine gw_iload_n k_Ton_addIntonation f_Ton_addIntonation_18 rfl ?_
    refine gw_static [.inr (.inl (some (b + 1))), .inl (w b 3), .inl a0] k_Ton_addIntonation f_Ton_addIntonation_19 l_invT_8_47 (by decide) k_Bk_put rfl (by exact Nat.le_of_ble_eq_true rfl) (dc := 0) (by decide) ?_ rfl
    refine ev_put hb.2.1 (by decide) ?_
    show Gw zs 1 m_Ton_addIntonation 22 [some (.inr (.inl (some b))), some (.inl a0)] [] (g_put w (b + 1) 4 (w b 3) a0) _
    refine gw_aload_n k_Ton_addIntonation f_Ton_addIntonation_22 rfl ?_
    refine gw_dup k_Ton_addIntonation f_Ton_addIntonation_23 ?_
    refine gw_getI k_Ton_addIntonation f_Ton_addIntonation_24 l_fldT_8_44 hb.1 rfl ?_
    refine gw_iconst k_Ton_addIntonation f_Ton_addIntonation_27 qc_1 ?_
    refine gw_iadd k_Ton_addIntonation f_Ton_addIntonation_28 ?_
    refine gw_put k_Ton_addIntonation f_Ton_addIntonation_29 l_fldT_8_44 hb.1 rfl rfl rfl rfl rfl ?_
    refine gw_aload_n k_Ton_addIntonation f_Ton_addIntonation_32 rfl ?_
    refine gw_getI k_Ton_addIntonation f_Ton_addIntonation_33 l_fldT_8_44 hb.1 rfl ?_
    rw [show (wr (g_put w (b + 1) 4 (w b 3) a0) b 3 (((g_put w (b + 1) 4 (w b 3) a0) b 3) + 1)) b 3 = ((g_put w (b + 1) 4 (w b 3) a0) b 3) + 1 from wr_eq]
    exact gw_iret k_Ton_addIntonation f_Ton_addIntonation_36 rfl h
  · have h := h.2 c1
    refine gw_iconst k_Ton_addIntonation f_Ton_addIntonation_8 qc_m1 ?_
    exact gw_iret k_Ton_addIntonation f_Ton_addIntonation_9 rfl h
theorem ev_Ton_addIntonation {zs : List Int32} {b : Nat} (hb : isTon b) {a0 : Int32} {w : Wd} {Q : Option AV → Wd → Prop} (h : Q (some (.inl (f_Ton_addIntonation w b a0))) (g_Ton_addIntonation w b a0)) : Ew zs 1 m_Ton_addIntonation [.inr (.inl (some b)), .inl a0] w Q := by
  refine ew_of k_Ton_addIntonation rfl (sg_Ton_addIntonation_0 hb ?_)
  refine ⟨fun c1 => ?_, fun c1 => ?_⟩
  ·
    rw [show f_Ton_addIntonation w b a0 = (((g_put w (b + 1) 4 (w b 3) a0) b 3) + 1) from by unfold f_Ton_addIntonation; rw [if_pos c1]] at h
    rw [show g_Ton_addIntonation w b a0 = (wr (g_put w (b + 1) 4 (w b 3) a0) b 3 (((g_put w (b + 1) 4 (w b 3) a0) b 3) + 1)) from by unfold g_Ton_addIntonation; rw [if_pos c1]] at h
    exact h
  ·
    rw [show f_Ton_addIntonation w b a0 = (-1) from by unfold f_Ton_addIntonation; rw [if_neg c1]] at h
    rw [show g_Ton_addIntonation w b a0 = w from by unfold g_Ton_addIntonation; rw [if_neg c1]] at h
    exact h
def f_Cad_addBefore (w : Wd) (b : Nat) (a0 : Int32) : Int32 := if (w b 2) < 3 then (((g_put w (b + 1) 3 (w b 2) a0) b 2) + 1) else (-1)
def g_Cad_addBefore (w : Wd) (b : Nat) (a0 : Int32) : Wd := if (w b 2) < 3 then wr (g_put w (b + 1) 3 (w b 2) a0) b 2 (((g_put w (b + 1) 3 (w b 2) a0) b 2) + 1) else w
theorem sg_Cad_addBefore_0 {zs : List Int32} {b : Nat} (hb : isCad b) {a0 : Int32} {w : Wd} {Q : Option AV → Wd → Prop} (h : (((w b 2) < 3 → Q (some (.inl (((g_put w (b + 1) 3 (w b 2) a0) b 2) + 1))) (wr (g_put w (b + 1) 3 (w b 2) a0) b 2 (((g_put w (b + 1) 3 (w b 2) a0) b 2) + 1))) ∧ (¬ ((w b 2) < 3) → Q (some (.inl (-1))) w))) : Gw zs 1 m_Cad_addBefore 0 [some (.inr (.inl (some b))), some (.inl a0)] [] w Q := by
  refine gw_aload_n k_Cad_addBefore f_Cad_addBefore_0 rfl ?_
  refine gw_getI k_Cad_addBefore f_Cad_addBefore_1 l_fldT_1_22 hb.1 rfl ?_
  refine gw_iconst k_Cad_addBefore f_Cad_addBefore_4 qc_3 ?_
  refine gw_icmp_lt (t := 10) k_Cad_addBefore f_Cad_addBefore_5 rfl (fun c1 => ?_) (fun c1 => ?_)
  · have h := h.1 c1
    refine gw_aload_n k_Cad_addBefore f_Cad_addBefore_10 rfl ?_
    refine gw_getR k_Cad_addBefore f_Cad_addBefore_11 l_fldT_1_11 hb.1 rfl ?_
    refine gw_aload_n k_Cad_addBefore f_Cad_addBefore_14 rfl ?_
    refine gw_getI k_Cad_addBefore f_Cad_addBefore_15 l_fldT_1_22 hb.1 rfl ?_
    refine gw_iload_n k_Cad_addBefore f_Cad_addBefore_18 rfl ?_
    refine gw_static [.inr (.inl (some (b + 1))), .inl (w b 2), .inl a0] k_Cad_addBefore f_Cad_addBefore_19 l_invT_1_25 (by decide) k_Bk_put rfl (by exact Nat.le_of_ble_eq_true rfl) (dc := 0) (by decide) ?_ rfl
    refine ev_put hb.2.1 (by decide) ?_
    show Gw zs 1 m_Cad_addBefore 22 [some (.inr (.inl (some b))), some (.inl a0)] [] (g_put w (b + 1) 3 (w b 2) a0) _
    refine gw_aload_n k_Cad_addBefore f_Cad_addBefore_22 rfl ?_
    refine gw_dup k_Cad_addBefore f_Cad_addBefore_23 ?_
    refine gw_getI k_Cad_addBefore f_Cad_addBefore_24 l_fldT_1_22 hb.1 rfl ?_
    refine gw_iconst k_Cad_addBefore f_Cad_addBefore_27 qc_1 ?_
    refine gw_iadd k_Cad_addBefore f_Cad_addBefore_28 ?_
    refine gw_put k_Cad_addBefore f_Cad_addBefore_29 l_fldT_1_22 hb.1 rfl rfl rfl rfl rfl ?_
    refine gw_aload_n k_Cad_addBefore f_Cad_addBefore_32 rfl ?_
    refine gw_getI k_Cad_addBefore f_Cad_addBefore_33 l_fldT_1_22 hb.1 rfl ?_
    rw [show (wr (g_put w (b + 1) 3 (w b 2) a0) b 2 (((g_put w (b + 1) 3 (w b 2) a0) b 2) + 1)) b 2 = ((g_put w (b + 1) 3 (w b 2) a0) b 2) + 1 from wr_eq]
    exact gw_iret k_Cad_addBefore f_Cad_addBefore_36 rfl h
  · have h := h.2 c1
    refine gw_iconst k_Cad_addBefore f_Cad_addBefore_8 qc_m1 ?_
    exact gw_iret k_Cad_addBefore f_Cad_addBefore_9 rfl h
theorem ev_Cad_addBefore {zs : List Int32} {b : Nat} (hb : isCad b) {a0 : Int32} {w : Wd} {Q : Option AV → Wd → Prop} (h : Q (some (.inl (f_Cad_addBefore w b a0))) (g_Cad_addBefore w b a0)) : Ew zs 1 m_Cad_addBefore [.inr (.inl (some b)), .inl a0] w Q := by
  refine ew_of k_Cad_addBefore rfl (sg_Cad_addBefore_0 hb ?_)
  refine ⟨fun c1 => ?_, fun c1 => ?_⟩
  ·
    rw [show f_Cad_addBefore w b a0 = (((g_put w (b + 1) 3 (w b 2) a0) b 2) + 1) from by unfold f_Cad_addBefore; rw [if_pos c1]] at h
    rw [show g_Cad_addBefore w b a0 = (wr (g_put w (b + 1) 3 (w b 2) a0) b 2 (((g_put w (b + 1) 3 (w b 2) a0) b 2) + 1)) from by unfold g_Cad_addBefore; rw [if_pos c1]] at h
    exact h
  ·
    rw [show f_Cad_addBefore w b a0 = (-1) from by unfold f_Cad_addBefore; rw [if_neg c1]] at h
    rw [show g_Cad_addBefore w b a0 = w from by unfold g_Cad_addBefore; rw [if_neg c1]] at h
    exact h
def f_Ton_addNote (w : Wd) (b : Nat) (a0 : Int32) (a1 : Int32) : Int32 := if (f_Ton_isNote a1) = 0 then (-1) else if a0 = 0 then (f_Ton_addIntonation w b a1) else if a0 = 1 then (f_Cad_addBefore w (b + 2) a1) else if a0 = 2 then (f_Cad_addBefore w (b + 5) a1) else (-1)
def g_Ton_addNote (w : Wd) (b : Nat) (a0 : Int32) (a1 : Int32) : Wd := if (f_Ton_isNote a1) = 0 then w else if a0 = 0 then g_Ton_addIntonation w b a1 else if a0 = 1 then g_Cad_addBefore w (b + 2) a1 else if a0 = 2 then g_Cad_addBefore w (b + 5) a1 else w
theorem sg_Ton_addNote_0 {zs : List Int32} {b : Nat} (hb : isTon b) {a0 a1 : Int32} {w : Wd} {Q : Option AV → Wd → Prop} (h : (((f_Ton_isNote a1) = 0 → Q (some (.inl (-1))) w) ∧ (¬ ((f_Ton_isNote a1) = 0) → ((a0 = 0 → Q (some (.inl (f_Ton_addIntonation w b a1))) (g_Ton_addIntonation w b a1)) ∧ (a0 = 1 → Q (some (.inl (f_Cad_addBefore w (b + 2) a1))) (g_Cad_addBefore w (b + 2) a1)) ∧ (a0 = 2 → Q (some (.inl (f_Cad_addBefore w (b + 5) a1))) (g_Cad_addBefore w (b + 5) a1)) ∧ (¬ a0 = 0 → ¬ a0 = 1 → ¬ a0 = 2 → Q (some (.inl (-1))) w))))) : Gw zs 2 m_Ton_addNote 0 [some (.inr (.inl (some b))), some (.inl a0), some (.inl a1)] [] w Q := by
  refine gw_iload_n k_Ton_addNote f_Ton_addNote_0 rfl ?_
  refine gw_static [.inl a1] k_Ton_addNote f_Ton_addNote_1 l_invT_8_29 (by decide) k_Ton_isNote rfl (by exact Nat.le_of_ble_eq_true rfl) (dc := 1) (by decide) ?_ rfl
  refine ev_Ton_isNote ?_
  show Gw zs 2 m_Ton_addNote 4 [some (.inr (.inl (some b))), some (.inl a0), some (.inl a1)] [.inl (f_Ton_isNote a1)] w _
  refine gw_if_ne (t := 9) k_Ton_addNote f_Ton_addNote_4 rfl (fun c1 => ?_) (fun c1 => ?_)
  · have h := h.2 c1
    refine gw_iload_n k_Ton_addNote f_Ton_addNote_9 rfl ?_
    refine gw_tsw k_Ton_addNote f_Ton_addNote_10 (by decide) (by decide) (fun q hq hx => ?_) (fun hx => ?_)
    · match q, hq, hx with
      | 0, hq, hx =>
        have c2 : a0 = 0 := hx.trans (by decide)
        have h := h.1 c2
        refine ⟨_, 36, rfl, rfl, ?_⟩
        refine gw_aload_n k_Ton_addNote f_Ton_addNote_36 rfl ?_
        refine gw_iload_n k_Ton_addNote f_Ton_addNote_37 rfl ?_
        refine gw_virtual [.inl a1] k_Ton_addNote f_Ton_addNote_38 l_invT_8_37 k_Ton_addIntonation hb.1 rfl rfl rfl (by exact Nat.le_of_ble_eq_true rfl) (dc := 1) (by decide) ?_ rfl
        refine ev_Ton_addIntonation hb ?_
        show Gw zs 2 m_Ton_addNote 41 [some (.inr (.inl (some b))), some (.inl a0), some (.inl a1)] [.inl (f_Ton_addIntonation w b a1)] (g_Ton_addIntonation w b a1) _
        exact gw_iret k_Ton_addNote f_Ton_addNote_41 rfl h
      | 1, hq, hx =>
        have c3 : a0 = 1 := hx.trans (by decide)
        have h := h.2.1 c3
        refine ⟨_, 42, rfl, rfl, ?_⟩
        refine gw_aload_n k_Ton_addNote f_Ton_addNote_42 rfl ?_
        refine gw_getR k_Ton_addNote f_Ton_addNote_43 l_fldT_8_18 hb.1 rfl ?_
        refine gw_iload_n k_Ton_addNote f_Ton_addNote_46 rfl ?_
        refine gw_virtual [.inl a1] k_Ton_addNote f_Ton_addNote_47 l_invT_8_41 k_Cad_addBefore hb.2.2.1.1 rfl rfl rfl (by exact Nat.le_of_ble_eq_true rfl) (dc := 1) (by decide) ?_ rfl
        refine ev_Cad_addBefore hb.2.2.1 ?_
        show Gw zs 2 m_Ton_addNote 50 [some (.inr (.inl (some b))), some (.inl a0), some (.inl a1)] [.inl (f_Cad_addBefore w (b + 2) a1)] (g_Cad_addBefore w (b + 2) a1) _
        exact gw_iret k_Ton_addNote f_Ton_addNote_50 rfl h
      | 2, hq, hx =>
        have c4 : a0 = 2 := hx.trans (by decide)
        have h := h.2.2.1 c4
        refine ⟨_, 51, rfl, rfl, ?_⟩
        refine gw_aload_n k_Ton_addNote f_Ton_addNote_51 rfl ?_
        refine gw_getR k_Ton_addNote f_Ton_addNote_52 l_fldT_8_22 hb.1 rfl ?_
        refine gw_iload_n k_Ton_addNote f_Ton_addNote_55 rfl ?_
        refine gw_virtual [.inl a1] k_Ton_addNote f_Ton_addNote_56 l_invT_8_41 k_Cad_addBefore hb.2.2.2.1 rfl rfl rfl (by exact Nat.le_of_ble_eq_true rfl) (dc := 1) (by decide) ?_ rfl
        refine ev_Cad_addBefore hb.2.2.2 ?_
        show Gw zs 2 m_Ton_addNote 59 [some (.inr (.inl (some b))), some (.inl a0), some (.inl a1)] [.inl (f_Cad_addBefore w (b + 5) a1)] (g_Cad_addBefore w (b + 5) a1) _
        exact gw_iret k_Ton_addNote f_Ton_addNote_59 rfl h
      | q + 3, hq, hx => exact absurd hq (by show ¬ (q + 3 < 3); omega)
    ·
      have c5 : ¬ a0 = 0 := fun c => hx 0 (by decide) (c.trans (by decide))
      have c6 : ¬ a0 = 1 := fun c => hx 1 (by decide) (c.trans (by decide))
      have c7 : ¬ a0 = 2 := fun c => hx 2 (by decide) (c.trans (by decide))
      have h := h.2.2.2 c5 c6 c7
      refine ⟨60, rfl, ?_⟩
      refine gw_iconst k_Ton_addNote f_Ton_addNote_60 qc_m1 ?_
      exact gw_iret k_Ton_addNote f_Ton_addNote_61 rfl h
  · have c1 := Decidable.not_not.mp c1
    have h := h.1 c1
    refine gw_iconst k_Ton_addNote f_Ton_addNote_7 qc_m1 ?_
    exact gw_iret k_Ton_addNote f_Ton_addNote_8 rfl h
theorem ev_Ton_addNote {zs : List Int32} {b : Nat} (hb : isTon b) {a0 a1 : Int32} {w : Wd} {Q : Option AV → Wd → Prop} (h : Q (some (.inl (f_Ton_addNote w b a0 a1))) (g_Ton_addNote w b a0 a1)) : Ew zs 2 m_Ton_addNote [.inr (.inl (some b)), .inl a0, .inl a1] w Q := by
  refine ew_of k_Ton_addNote rfl (sg_Ton_addNote_0 hb ?_)
  refine ⟨fun c1 => ?_, fun c1 => ?_⟩
  ·
    rw [show f_Ton_addNote w b a0 a1 = (-1) from by unfold f_Ton_addNote; rw [if_pos c1]] at h
    rw [show g_Ton_addNote w b a0 a1 = w from by unfold g_Ton_addNote; rw [if_pos c1]] at h
    exact h
  ·
    refine ⟨fun c0_2 => ?_, fun c1_2 => ?_, fun c2_2 => ?_, fun c0_2 c1_2 c2_2 => ?_⟩
    ·
      rw [show f_Ton_addNote w b a0 a1 = (f_Ton_addIntonation w b a1) from by unfold f_Ton_addNote; rw [if_neg c1, if_pos c0_2]] at h
      rw [show g_Ton_addNote w b a0 a1 = (g_Ton_addIntonation w b a1) from by unfold g_Ton_addNote; rw [if_neg c1, if_pos c0_2]] at h
      exact h
    ·
      rw [show f_Ton_addNote w b a0 a1 = (f_Cad_addBefore w (b + 2) a1) from by unfold f_Ton_addNote; rw [if_neg c1, if_neg (by rw [c1_2]; decide), if_pos c1_2]] at h
      rw [show g_Ton_addNote w b a0 a1 = (g_Cad_addBefore w (b + 2) a1) from by unfold g_Ton_addNote; rw [if_neg c1, if_neg (by rw [c1_2]; decide), if_pos c1_2]] at h
      exact h
    ·
      rw [show f_Ton_addNote w b a0 a1 = (f_Cad_addBefore w (b + 5) a1) from by unfold f_Ton_addNote; rw [if_neg c1, if_neg (by rw [c2_2]; decide), if_neg (by rw [c2_2]; decide), if_pos c2_2]] at h
      rw [show g_Ton_addNote w b a0 a1 = (g_Cad_addBefore w (b + 5) a1) from by unfold g_Ton_addNote; rw [if_neg c1, if_neg (by rw [c2_2]; decide), if_neg (by rw [c2_2]; decide), if_pos c2_2]] at h
      exact h
    ·
      rw [show f_Ton_addNote w b a0 a1 = (-1) from by unfold f_Ton_addNote; rw [if_neg c1, if_neg c0_2, if_neg c1_2, if_neg c2_2]] at h
      rw [show g_Ton_addNote w b a0 a1 = w from by unfold g_Ton_addNote; rw [if_neg c1, if_neg c0_2, if_neg c1_2, if_neg c2_2]] at h
      exact h
def f_Bk_note (w : Wd) (a0 : Int32) (a1 : Int32) (a2 : Int32) : Int32 := if a0 < 0 then (-1) else if 9 ≤ a0 then (-1) else (f_Ton_addNote w (31 + 8 * a0.toNatClampNeg) a1 a2)
def g_Bk_note (w : Wd) (a0 : Int32) (a1 : Int32) (a2 : Int32) : Wd := if a0 < 0 then w else if 9 ≤ a0 then w else g_Ton_addNote w (31 + 8 * a0.toNatClampNeg) a1 a2
theorem sg_Bk_note_0 {zs : List Int32} {a0 a1 a2 : Int32} {w : Wd} {Q : Option AV → Wd → Prop} (h : ((a0 < 0 → Q (some (.inl (-1))) w) ∧ (¬ (a0 < 0) → ((9 ≤ a0 → Q (some (.inl (-1))) w) ∧ (¬ (9 ≤ a0) → Q (some (.inl (f_Ton_addNote w (31 + 8 * a0.toNatClampNeg) a1 a2))) (g_Ton_addNote w (31 + 8 * a0.toNatClampNeg) a1 a2)))))) : Gw zs 3 m_Bk_note 0 [some (.inr (.inl (some 0))), some (.inl a0), some (.inl a1), some (.inl a2), none] [] w Q := by
  refine gw_aload_n k_Bk_note f_Bk_note_0 rfl ?_
  refine gw_iload_n k_Bk_note f_Bk_note_1 rfl ?_
  refine gw_virtual [.inl a0] k_Bk_note f_Bk_note_2 l_invT_10_187 k_Bk_toneOf hc0 rfl rfl rfl (by exact Nat.le_of_ble_eq_true rfl) (dc := 0) (by decide) ?_ rfl
  refine ew_of k_Bk_toneOf rfl ?_
  show Gw zs 0 m_Bk_toneOf 0 [some (.inr (.inl (some 0))), some (.inl a0)] [] w _
  refine gw_iload_n k_Bk_toneOf f_Bk_toneOf_0 rfl ?_
  refine gw_if_lt (t := 22) k_Bk_toneOf f_Bk_toneOf_1 rfl (fun c1 => ?_) (fun c1 => ?_)
  · have h := h.1 c1
    refine gw_null k_Bk_toneOf f_Bk_toneOf_22 ?_
    refine gw_aret k_Bk_toneOf f_Bk_toneOf_23 rfl ?_
    show Gw zs 3 m_Bk_note 5 [some (.inr (.inl (some 0))), some (.inl a0), some (.inl a1), some (.inl a2), none] [.inr (.inl none)] w _
    refine gw_astore [some (.inr (.inl (some 0))), some (.inl a0), some (.inl a1), some (.inl a2), some (.inr (.inl none))] k_Bk_note f_Bk_note_5 (Nat.le_of_ble_eq_true rfl) rfl ?_
    refine gw_aload k_Bk_note f_Bk_note_7 rfl ?_
    refine gw_ifnonnull_n k_Bk_note f_Bk_note_9 ?_
    refine gw_iconst k_Bk_note f_Bk_note_12 qc_m1 ?_
    refine gw_goto (t := 23) k_Bk_note f_Bk_note_13 rfl ?_
    exact gw_iret k_Bk_note f_Bk_note_23 rfl h
  · have h := h.2 c1
    refine gw_iload_n k_Bk_toneOf f_Bk_toneOf_4 rfl ?_
    refine gw_aload_n k_Bk_toneOf f_Bk_toneOf_5 rfl ?_
    refine gw_getR k_Bk_toneOf f_Bk_toneOf_6 l_fldT_10_41 hc0 rfl ?_
    refine gw_alenQ k_Bk_toneOf f_Bk_toneOf_9 hc30 qn_9 ?_
    refine gw_icmp_ge (t := 22) k_Bk_toneOf f_Bk_toneOf_10 rfl (fun c2 => ?_) (fun c2 => ?_)
    · have h := h.1 c2
      refine gw_null k_Bk_toneOf f_Bk_toneOf_22 ?_
      refine gw_aret k_Bk_toneOf f_Bk_toneOf_23 rfl ?_
      show Gw zs 3 m_Bk_note 5 [some (.inr (.inl (some 0))), some (.inl a0), some (.inl a1), some (.inl a2), none] [.inr (.inl none)] w _
      refine gw_astore [some (.inr (.inl (some 0))), some (.inl a0), some (.inl a1), some (.inl a2), some (.inr (.inl none))] k_Bk_note f_Bk_note_5 (Nat.le_of_ble_eq_true rfl) rfl ?_
      refine gw_aload k_Bk_note f_Bk_note_7 rfl ?_
      refine gw_ifnonnull_n k_Bk_note f_Bk_note_9 ?_
      refine gw_iconst k_Bk_note f_Bk_note_12 qc_m1 ?_
      refine gw_goto (t := 23) k_Bk_note f_Bk_note_13 rfl ?_
      exact gw_iret k_Bk_note f_Bk_note_23 rfl h
    · have h := h.2 c2
      refine gw_aload_n k_Bk_toneOf f_Bk_toneOf_13 rfl ?_
      refine gw_getR k_Bk_toneOf f_Bk_toneOf_14 l_fldT_10_41 hc0 rfl ?_
      refine gw_iload_n k_Bk_toneOf f_Bk_toneOf_17 rfl ?_
      have hp3 : vp_in a0 9 := (vin qn_9 (by decide) c1 c2)
      refine gw_aald k_Bk_toneOf f_Bk_toneOf_18 hc30 hp3 (ton_el (vp_lt hp3)) ?_
      have hb4 := ton_is (vp_lt hp3)
      refine gw_goto (t := 23) k_Bk_toneOf f_Bk_toneOf_19 rfl ?_
      refine gw_aret k_Bk_toneOf f_Bk_toneOf_23 rfl ?_
      show Gw zs 3 m_Bk_note 5 [some (.inr (.inl (some 0))), some (.inl a0), some (.inl a1), some (.inl a2), none] [.inr (.inl (some (31 + 8 * a0.toNatClampNeg)))] w _
      refine gw_astore [some (.inr (.inl (some 0))), some (.inl a0), some (.inl a1), some (.inl a2), some (.inr (.inl (some (31 + 8 * a0.toNatClampNeg))))] k_Bk_note f_Bk_note_5 (Nat.le_of_ble_eq_true rfl) rfl ?_
      refine gw_aload k_Bk_note f_Bk_note_7 rfl ?_
      refine gw_ifnonnull_s (t := 16) k_Bk_note f_Bk_note_9 rfl ?_
      refine gw_aload k_Bk_note f_Bk_note_16 rfl ?_
      refine gw_iload_n k_Bk_note f_Bk_note_18 rfl ?_
      refine gw_iload_n k_Bk_note f_Bk_note_19 rfl ?_
      refine gw_virtual [.inl a1, .inl a2] k_Bk_note f_Bk_note_20 l_invT_10_194 k_Ton_addNote hb4.1 rfl rfl rfl (by exact Nat.le_of_ble_eq_true rfl) (dc := 2) (by decide) ?_ rfl
      refine ev_Ton_addNote hb4 ?_
      show Gw zs 3 m_Bk_note 23 [some (.inr (.inl (some 0))), some (.inl a0), some (.inl a1), some (.inl a2), some (.inr (.inl (some (31 + 8 * a0.toNatClampNeg))))] [.inl (f_Ton_addNote w (31 + 8 * a0.toNatClampNeg) a1 a2)] (g_Ton_addNote w (31 + 8 * a0.toNatClampNeg) a1 a2) _
      exact gw_iret k_Bk_note f_Bk_note_23 rfl h
theorem ev_Bk_note {zs : List Int32} {a0 a1 a2 : Int32} {w : Wd} {Q : Option AV → Wd → Prop} (h : Q (some (.inl (f_Bk_note w a0 a1 a2))) (g_Bk_note w a0 a1 a2)) : Ew zs 3 m_Bk_note [.inr (.inl (some 0)), .inl a0, .inl a1, .inl a2] w Q := by
  refine ew_of k_Bk_note rfl (sg_Bk_note_0 ?_)
  refine ⟨fun c1 => ?_, fun c1 => ?_⟩
  ·
    rw [show f_Bk_note w a0 a1 a2 = (-1) from by unfold f_Bk_note; rw [if_pos c1]] at h
    rw [show g_Bk_note w a0 a1 a2 = w from by unfold g_Bk_note; rw [if_pos c1]] at h
    exact h
  ·
    refine ⟨fun c2 => ?_, fun c2 => ?_⟩
    ·
      rw [show f_Bk_note w a0 a1 a2 = (-1) from by unfold f_Bk_note; rw [if_neg c1, if_pos c2]] at h
      rw [show g_Bk_note w a0 a1 a2 = w from by unfold g_Bk_note; rw [if_neg c1, if_pos c2]] at h
      exact h
    ·
      rw [show f_Bk_note w a0 a1 a2 = (f_Ton_addNote w (31 + 8 * a0.toNatClampNeg) a1 a2) from by unfold f_Bk_note; rw [if_neg c1, if_neg c2]] at h
      rw [show g_Bk_note w a0 a1 a2 = (g_Ton_addNote w (31 + 8 * a0.toNatClampNeg) a1 a2) from by unfold g_Bk_note; rw [if_neg c1, if_neg c2]] at h
      exact h
def f_Cad_setAccent (b : Nat) (a0 : Int32) (a1 : Int32) (a2 : Int32) (a3 : Int32) : Int32 := if (f_Bk_within a0 0 1) = 0 then (-1) else if (f_Ton_isNote a1) = 0 then (-1) else if (f_Ton_isNote a2) = 0 then (-1) else if (f_Ton_isNote a3) = 0 then (-1) else 0
def g_Cad_setAccent (w : Wd) (b : Nat) (a0 : Int32) (a1 : Int32) (a2 : Int32) (a3 : Int32) : Wd := if (f_Bk_within a0 0 1) = 0 then w else if (f_Ton_isNote a1) = 0 then w else if (f_Ton_isNote a2) = 0 then w else if (f_Ton_isNote a3) = 0 then w else g_put (g_put (g_put w (b + 2) 6 (a0 * 3) a1) (b + 2) 6 ((a0 * 3) + 1) a2) (b + 2) 6 ((a0 * 3) + 2) a3
theorem sg_Cad_setAccent_0 {zs : List Int32} {b : Nat} (hb : isCad b) {a0 a1 a2 a3 : Int32} {w : Wd} {Q : Option AV → Wd → Prop} (h : (((f_Bk_within a0 0 1) = 0 → Q (some (.inl (-1))) w) ∧ (¬ ((f_Bk_within a0 0 1) = 0) → (((f_Ton_isNote a1) = 0 → Q (some (.inl (-1))) w) ∧ (¬ ((f_Ton_isNote a1) = 0) → (((f_Ton_isNote a2) = 0 → Q (some (.inl (-1))) w) ∧ (¬ ((f_Ton_isNote a2) = 0) → (((f_Ton_isNote a3) = 0 → Q (some (.inl (-1))) w) ∧ (¬ ((f_Ton_isNote a3) = 0) → Q (some (.inl 0)) (g_put (g_put (g_put w (b + 2) 6 (a0 * 3) a1) (b + 2) 6 ((a0 * 3) + 1) a2) (b + 2) 6 ((a0 * 3) + 2) a3)))))))))) : Gw zs 2 m_Cad_setAccent 0 [some (.inr (.inl (some b))), some (.inl a0), some (.inl a1), some (.inl a2), some (.inl a3)] [] w Q := by
  refine gw_iload_n k_Cad_setAccent f_Cad_setAccent_0 rfl ?_
  refine gw_iconst k_Cad_setAccent f_Cad_setAccent_1 qc_0 ?_
  refine gw_iconst k_Cad_setAccent f_Cad_setAccent_2 qc_1 ?_
  refine gw_static [.inl a0, .inl 0, .inl 1] k_Cad_setAccent f_Cad_setAccent_3 l_invT_1_29 (by decide) k_Bk_within rfl (by exact Nat.le_of_ble_eq_true rfl) (dc := 0) (by decide) ?_ rfl
  refine ev_Bk_within ?_
  show Gw zs 2 m_Cad_setAccent 6 [some (.inr (.inl (some b))), some (.inl a0), some (.inl a1), some (.inl a2), some (.inl a3)] [.inl (f_Bk_within a0 0 1)] w _
  refine gw_if_eq (t := 31) k_Cad_setAccent f_Cad_setAccent_6 rfl (fun c1 => ?_) (fun c1 => ?_)
  · have h := h.1 c1
    refine gw_iconst k_Cad_setAccent f_Cad_setAccent_31 qc_m1 ?_
    exact gw_iret k_Cad_setAccent f_Cad_setAccent_32 rfl h
  · have h := h.2 c1
    refine gw_iload_n k_Cad_setAccent f_Cad_setAccent_9 rfl ?_
    refine gw_static [.inl a1] k_Cad_setAccent f_Cad_setAccent_10 l_invT_1_33 (by decide) k_Ton_isNote rfl (by exact Nat.le_of_ble_eq_true rfl) (dc := 1) (by decide) ?_ rfl
    refine ev_Ton_isNote ?_
    show Gw zs 2 m_Cad_setAccent 13 [some (.inr (.inl (some b))), some (.inl a0), some (.inl a1), some (.inl a2), some (.inl a3)] [.inl (f_Ton_isNote a1)] w _
    refine gw_if_eq (t := 31) k_Cad_setAccent f_Cad_setAccent_13 rfl (fun c2 => ?_) (fun c2 => ?_)
    · have h := h.1 c2
      refine gw_iconst k_Cad_setAccent f_Cad_setAccent_31 qc_m1 ?_
      exact gw_iret k_Cad_setAccent f_Cad_setAccent_32 rfl h
    · have h := h.2 c2
      refine gw_iload_n k_Cad_setAccent f_Cad_setAccent_16 rfl ?_
      refine gw_static [.inl a2] k_Cad_setAccent f_Cad_setAccent_17 l_invT_1_33 (by decide) k_Ton_isNote rfl (by exact Nat.le_of_ble_eq_true rfl) (dc := 1) (by decide) ?_ rfl
      refine ev_Ton_isNote ?_
      show Gw zs 2 m_Cad_setAccent 20 [some (.inr (.inl (some b))), some (.inl a0), some (.inl a1), some (.inl a2), some (.inl a3)] [.inl (f_Ton_isNote a2)] w _
      refine gw_if_eq (t := 31) k_Cad_setAccent f_Cad_setAccent_20 rfl (fun c3 => ?_) (fun c3 => ?_)
      · have h := h.1 c3
        refine gw_iconst k_Cad_setAccent f_Cad_setAccent_31 qc_m1 ?_
        exact gw_iret k_Cad_setAccent f_Cad_setAccent_32 rfl h
      · have h := h.2 c3
        refine gw_iload k_Cad_setAccent f_Cad_setAccent_23 rfl ?_
        refine gw_static [.inl a3] k_Cad_setAccent f_Cad_setAccent_25 l_invT_1_33 (by decide) k_Ton_isNote rfl (by exact Nat.le_of_ble_eq_true rfl) (dc := 1) (by decide) ?_ rfl
        refine ev_Ton_isNote ?_
        show Gw zs 2 m_Cad_setAccent 28 [some (.inr (.inl (some b))), some (.inl a0), some (.inl a1), some (.inl a2), some (.inl a3)] [.inl (f_Ton_isNote a3)] w _
        refine gw_if_ne (t := 33) k_Cad_setAccent f_Cad_setAccent_28 rfl (fun c4 => ?_) (fun c4 => ?_)
        · have h := h.2 c4
          refine gw_aload_n k_Cad_setAccent f_Cad_setAccent_33 rfl ?_
          refine gw_getR k_Cad_setAccent f_Cad_setAccent_34 l_fldT_1_15 hb.1 rfl ?_
          refine gw_iload_n k_Cad_setAccent f_Cad_setAccent_37 rfl ?_
          refine gw_iconst k_Cad_setAccent f_Cad_setAccent_38 qc_3 ?_
          refine gw_imul k_Cad_setAccent f_Cad_setAccent_39 ?_
          refine gw_iload_n k_Cad_setAccent f_Cad_setAccent_40 rfl ?_
          refine gw_static [.inr (.inl (some (b + 2))), .inl (a0 * 3), .inl a1] k_Cad_setAccent f_Cad_setAccent_41 l_invT_1_25 (by decide) k_Bk_put rfl (by exact Nat.le_of_ble_eq_true rfl) (dc := 0) (by decide) ?_ rfl
          refine ev_put hb.2.2 (by decide) ?_
          show Gw zs 2 m_Cad_setAccent 44 [some (.inr (.inl (some b))), some (.inl a0), some (.inl a1), some (.inl a2), some (.inl a3)] [] (g_put w (b + 2) 6 (a0 * 3) a1) _
          refine gw_aload_n k_Cad_setAccent f_Cad_setAccent_44 rfl ?_
          refine gw_getR k_Cad_setAccent f_Cad_setAccent_45 l_fldT_1_15 hb.1 rfl ?_
          refine gw_iload_n k_Cad_setAccent f_Cad_setAccent_48 rfl ?_
          refine gw_iconst k_Cad_setAccent f_Cad_setAccent_49 qc_3 ?_
          refine gw_imul k_Cad_setAccent f_Cad_setAccent_50 ?_
          refine gw_iconst k_Cad_setAccent f_Cad_setAccent_51 qc_1 ?_
          refine gw_iadd k_Cad_setAccent f_Cad_setAccent_52 ?_
          refine gw_iload_n k_Cad_setAccent f_Cad_setAccent_53 rfl ?_
          refine gw_static [.inr (.inl (some (b + 2))), .inl ((a0 * 3) + 1), .inl a2] k_Cad_setAccent f_Cad_setAccent_54 l_invT_1_25 (by decide) k_Bk_put rfl (by exact Nat.le_of_ble_eq_true rfl) (dc := 0) (by decide) ?_ rfl
          refine ev_put hb.2.2 (by decide) ?_
          show Gw zs 2 m_Cad_setAccent 57 [some (.inr (.inl (some b))), some (.inl a0), some (.inl a1), some (.inl a2), some (.inl a3)] [] (g_put (g_put w (b + 2) 6 (a0 * 3) a1) (b + 2) 6 ((a0 * 3) + 1) a2) _
          refine gw_aload_n k_Cad_setAccent f_Cad_setAccent_57 rfl ?_
          refine gw_getR k_Cad_setAccent f_Cad_setAccent_58 l_fldT_1_15 hb.1 rfl ?_
          refine gw_iload_n k_Cad_setAccent f_Cad_setAccent_61 rfl ?_
          refine gw_iconst k_Cad_setAccent f_Cad_setAccent_62 qc_3 ?_
          refine gw_imul k_Cad_setAccent f_Cad_setAccent_63 ?_
          refine gw_iconst k_Cad_setAccent f_Cad_setAccent_64 qc_2 ?_
          refine gw_iadd k_Cad_setAccent f_Cad_setAccent_65 ?_
          refine gw_iload k_Cad_setAccent f_Cad_setAccent_66 rfl ?_
          refine gw_static [.inr (.inl (some (b + 2))), .inl ((a0 * 3) + 2), .inl a3] k_Cad_setAccent f_Cad_setAccent_68 l_invT_1_25 (by decide) k_Bk_put rfl (by exact Nat.le_of_ble_eq_true rfl) (dc := 0) (by decide) ?_ rfl
          refine ev_put hb.2.2 (by decide) ?_
          show Gw zs 2 m_Cad_setAccent 71 [some (.inr (.inl (some b))), some (.inl a0), some (.inl a1), some (.inl a2), some (.inl a3)] [] (g_put (g_put (g_put w (b + 2) 6 (a0 * 3) a1) (b + 2) 6 ((a0 * 3) + 1) a2) (b + 2) 6 ((a0 * 3) + 2) a3) _
          refine gw_iconst k_Cad_setAccent f_Cad_setAccent_71 qc_0 ?_
          exact gw_iret k_Cad_setAccent f_Cad_setAccent_72 rfl h
        · have c4 := Decidable.not_not.mp c4
          have h := h.1 c4
          refine gw_iconst k_Cad_setAccent f_Cad_setAccent_31 qc_m1 ?_
          exact gw_iret k_Cad_setAccent f_Cad_setAccent_32 rfl h
theorem ev_Cad_setAccent {zs : List Int32} {b : Nat} (hb : isCad b) {a0 a1 a2 a3 : Int32} {w : Wd} {Q : Option AV → Wd → Prop} (h : Q (some (.inl (f_Cad_setAccent b a0 a1 a2 a3))) (g_Cad_setAccent w b a0 a1 a2 a3)) : Ew zs 2 m_Cad_setAccent [.inr (.inl (some b)), .inl a0, .inl a1, .inl a2, .inl a3] w Q := by
  refine ew_of k_Cad_setAccent rfl (sg_Cad_setAccent_0 hb ?_)
  refine ⟨fun c1 => ?_, fun c1 => ?_⟩
  ·
    rw [show f_Cad_setAccent b a0 a1 a2 a3 = (-1) from by unfold f_Cad_setAccent; rw [if_pos c1]] at h
    rw [show g_Cad_setAccent w b a0 a1 a2 a3 = w from by unfold g_Cad_setAccent; rw [if_pos c1]] at h
    exact h
  ·
    refine ⟨fun c2 => ?_, fun c2 => ?_⟩
    ·
      rw [show f_Cad_setAccent b a0 a1 a2 a3 = (-1) from by unfold f_Cad_setAccent; rw [if_neg c1, if_pos c2]] at h
      rw [show g_Cad_setAccent w b a0 a1 a2 a3 = w from by unfold g_Cad_setAccent; rw [if_neg c1, if_pos c2]] at h
      exact h
    ·
      refine ⟨fun c3 => ?_, fun c3 => ?_⟩
      ·
        rw [show f_Cad_setAccent b a0 a1 a2 a3 = (-1) from by unfold f_Cad_setAccent; rw [if_neg c1, if_neg c2, if_pos c3]] at h
        rw [show g_Cad_setAccent w b a0 a1 a2 a3 = w from by unfold g_Cad_setAccent; rw [if_neg c1, if_neg c2, if_pos c3]] at h
        exact h
      ·
        refine ⟨fun c4 => ?_, fun c4 => ?_⟩
        ·
          rw [show f_Cad_setAccent b a0 a1 a2 a3 = (-1) from by unfold f_Cad_setAccent; rw [if_neg c1, if_neg c2, if_neg c3, if_pos c4]] at h
          rw [show g_Cad_setAccent w b a0 a1 a2 a3 = w from by unfold g_Cad_setAccent; rw [if_neg c1, if_neg c2, if_neg c3, if_pos c4]] at h
          exact h
        ·
          rw [show f_Cad_setAccent b a0 a1 a2 a3 = 0 from by unfold f_Cad_setAccent; rw [if_neg c1, if_neg c2, if_neg c3, if_neg c4]] at h
          rw [show g_Cad_setAccent w b a0 a1 a2 a3 = (g_put (g_put (g_put w (b + 2) 6 (a0 * 3) a1) (b + 2) 6 ((a0 * 3) + 1) a2) (b + 2) 6 ((a0 * 3) + 2) a3) from by unfold g_Cad_setAccent; rw [if_neg c1, if_neg c2, if_neg c3, if_neg c4]] at h
          exact h
def f_Bk_accent (a0 : Int32) (a1 : Int32) (a2 : Int32) (a3 : Int32) (a4 : Int32) (a5 : Int32) : Int32 := if a0 < 0 then (-1) else if 9 ≤ a0 then (-1) else if a1 = 0 then (f_Cad_setAccent ((31 + 8 * a0.toNatClampNeg) + 2) a2 a3 a4 a5) else if a1 = 1 then (f_Cad_setAccent ((31 + 8 * a0.toNatClampNeg) + 5) a2 a3 a4 a5) else (-1)
def g_Bk_accent (w : Wd) (a0 : Int32) (a1 : Int32) (a2 : Int32) (a3 : Int32) (a4 : Int32) (a5 : Int32) : Wd := if a0 < 0 then w else if 9 ≤ a0 then w else if a1 = 0 then g_Cad_setAccent w ((31 + 8 * a0.toNatClampNeg) + 2) a2 a3 a4 a5 else if a1 = 1 then g_Cad_setAccent w ((31 + 8 * a0.toNatClampNeg) + 5) a2 a3 a4 a5 else w
theorem sg_Bk_accent_0 {zs : List Int32} {a0 a1 a2 a3 a4 a5 : Int32} {w : Wd} {Q : Option AV → Wd → Prop} (h : ((a0 < 0 → Q (some (.inl (-1))) w) ∧ (¬ (a0 < 0) → ((9 ≤ a0 → Q (some (.inl (-1))) w) ∧ (¬ (9 ≤ a0) → ((a1 = 0 → Q (some (.inl (f_Cad_setAccent ((31 + 8 * a0.toNatClampNeg) + 2) a2 a3 a4 a5))) (g_Cad_setAccent w ((31 + 8 * a0.toNatClampNeg) + 2) a2 a3 a4 a5)) ∧ (a1 = 1 → Q (some (.inl (f_Cad_setAccent ((31 + 8 * a0.toNatClampNeg) + 5) a2 a3 a4 a5))) (g_Cad_setAccent w ((31 + 8 * a0.toNatClampNeg) + 5) a2 a3 a4 a5)) ∧ (¬ a1 = 0 → ¬ a1 = 1 → Q (some (.inl (-1))) w))))))) : Gw zs 3 m_Bk_accent 0 [some (.inr (.inl (some 0))), some (.inl a0), some (.inl a1), some (.inl a2), some (.inl a3), some (.inl a4), some (.inl a5), none] [] w Q := by
  refine gw_aload_n k_Bk_accent f_Bk_accent_0 rfl ?_
  refine gw_iload_n k_Bk_accent f_Bk_accent_1 rfl ?_
  refine gw_iload_n k_Bk_accent f_Bk_accent_2 rfl ?_
  refine gw_virtual [.inl a0, .inl a1] k_Bk_accent f_Bk_accent_3 l_invT_10_197 k_Bk_cadenceOf hc0 rfl rfl rfl (by exact Nat.le_of_ble_eq_true rfl) (dc := 1) (by decide) ?_ rfl
  refine ew_of k_Bk_cadenceOf rfl ?_
  show Gw zs 1 m_Bk_cadenceOf 0 [some (.inr (.inl (some 0))), some (.inl a0), some (.inl a1), none] [] w _
  refine gw_aload_n k_Bk_cadenceOf f_Bk_cadenceOf_0 rfl ?_
  refine gw_iload_n k_Bk_cadenceOf f_Bk_cadenceOf_1 rfl ?_
  refine gw_virtual [.inl a0] k_Bk_cadenceOf f_Bk_cadenceOf_2 l_invT_10_187 k_Bk_toneOf hc0 rfl rfl rfl (by exact Nat.le_of_ble_eq_true rfl) (dc := 0) (by decide) ?_ rfl
  refine ew_of k_Bk_toneOf rfl ?_
  show Gw zs 0 m_Bk_toneOf 0 [some (.inr (.inl (some 0))), some (.inl a0)] [] w _
  refine gw_iload_n k_Bk_toneOf f_Bk_toneOf_0 rfl ?_
  refine gw_if_lt (t := 22) k_Bk_toneOf f_Bk_toneOf_1 rfl (fun c1 => ?_) (fun c1 => ?_)
  · have h := h.1 c1
    refine gw_null k_Bk_toneOf f_Bk_toneOf_22 ?_
    refine gw_aret k_Bk_toneOf f_Bk_toneOf_23 rfl ?_
    show Gw zs 1 m_Bk_cadenceOf 5 [some (.inr (.inl (some 0))), some (.inl a0), some (.inl a1), none] [.inr (.inl none)] w _
    refine gw_astore_n [some (.inr (.inl (some 0))), some (.inl a0), some (.inl a1), some (.inr (.inl none))] k_Bk_cadenceOf f_Bk_cadenceOf_5 (Nat.le_of_ble_eq_true rfl) rfl ?_
    refine gw_aload_n k_Bk_cadenceOf f_Bk_cadenceOf_6 rfl ?_
    refine gw_ifnonnull_n k_Bk_cadenceOf f_Bk_cadenceOf_7 ?_
    refine gw_null k_Bk_cadenceOf f_Bk_cadenceOf_10 ?_
    refine gw_goto (t := 19) k_Bk_cadenceOf f_Bk_cadenceOf_11 rfl ?_
    refine gw_aret k_Bk_cadenceOf f_Bk_cadenceOf_19 rfl ?_
    show Gw zs 3 m_Bk_accent 6 [some (.inr (.inl (some 0))), some (.inl a0), some (.inl a1), some (.inl a2), some (.inl a3), some (.inl a4), some (.inl a5), none] [.inr (.inl none)] w _
    refine gw_astore [some (.inr (.inl (some 0))), some (.inl a0), some (.inl a1), some (.inl a2), some (.inl a3), some (.inl a4), some (.inl a5), some (.inr (.inl none))] k_Bk_accent f_Bk_accent_6 (Nat.le_of_ble_eq_true rfl) rfl ?_
    refine gw_aload k_Bk_accent f_Bk_accent_8 rfl ?_
    refine gw_ifnonnull_n k_Bk_accent f_Bk_accent_10 ?_
    refine gw_iconst k_Bk_accent f_Bk_accent_13 qc_m1 ?_
    refine gw_goto (t := 29) k_Bk_accent f_Bk_accent_14 rfl ?_
    exact gw_iret k_Bk_accent f_Bk_accent_29 rfl h
  · have h := h.2 c1
    refine gw_iload_n k_Bk_toneOf f_Bk_toneOf_4 rfl ?_
    refine gw_aload_n k_Bk_toneOf f_Bk_toneOf_5 rfl ?_
    refine gw_getR k_Bk_toneOf f_Bk_toneOf_6 l_fldT_10_41 hc0 rfl ?_
    refine gw_alenQ k_Bk_toneOf f_Bk_toneOf_9 hc30 qn_9 ?_
    refine gw_icmp_ge (t := 22) k_Bk_toneOf f_Bk_toneOf_10 rfl (fun c2 => ?_) (fun c2 => ?_)
    · have h := h.1 c2
      refine gw_null k_Bk_toneOf f_Bk_toneOf_22 ?_
      refine gw_aret k_Bk_toneOf f_Bk_toneOf_23 rfl ?_
      show Gw zs 1 m_Bk_cadenceOf 5 [some (.inr (.inl (some 0))), some (.inl a0), some (.inl a1), none] [.inr (.inl none)] w _
      refine gw_astore_n [some (.inr (.inl (some 0))), some (.inl a0), some (.inl a1), some (.inr (.inl none))] k_Bk_cadenceOf f_Bk_cadenceOf_5 (Nat.le_of_ble_eq_true rfl) rfl ?_
      refine gw_aload_n k_Bk_cadenceOf f_Bk_cadenceOf_6 rfl ?_
      refine gw_ifnonnull_n k_Bk_cadenceOf f_Bk_cadenceOf_7 ?_
      refine gw_null k_Bk_cadenceOf f_Bk_cadenceOf_10 ?_
      refine gw_goto (t := 19) k_Bk_cadenceOf f_Bk_cadenceOf_11 rfl ?_
      refine gw_aret k_Bk_cadenceOf f_Bk_cadenceOf_19 rfl ?_
      show Gw zs 3 m_Bk_accent 6 [some (.inr (.inl (some 0))), some (.inl a0), some (.inl a1), some (.inl a2), some (.inl a3), some (.inl a4), some (.inl a5), none] [.inr (.inl none)] w _
      refine gw_astore [some (.inr (.inl (some 0))), some (.inl a0), some (.inl a1), some (.inl a2), some (.inl a3), some (.inl a4), some (.inl a5), some (.inr (.inl none))] k_Bk_accent f_Bk_accent_6 (Nat.le_of_ble_eq_true rfl) rfl ?_
      refine gw_aload k_Bk_accent f_Bk_accent_8 rfl ?_
      refine gw_ifnonnull_n k_Bk_accent f_Bk_accent_10 ?_
      refine gw_iconst k_Bk_accent f_Bk_accent_13 qc_m1 ?_
      refine gw_goto (t := 29) k_Bk_accent f_Bk_accent_14 rfl ?_
      exact gw_iret k_Bk_accent f_Bk_accent_29 rfl h
    · have h := h.2 c2
      refine gw_aload_n k_Bk_toneOf f_Bk_toneOf_13 rfl ?_
      refine gw_getR k_Bk_toneOf f_Bk_toneOf_14 l_fldT_10_41 hc0 rfl ?_
      refine gw_iload_n k_Bk_toneOf f_Bk_toneOf_17 rfl ?_
      have hp3 : vp_in a0 9 := (vin qn_9 (by decide) c1 c2)
      refine gw_aald k_Bk_toneOf f_Bk_toneOf_18 hc30 hp3 (ton_el (vp_lt hp3)) ?_
      have hb4 := ton_is (vp_lt hp3)
      refine gw_goto (t := 23) k_Bk_toneOf f_Bk_toneOf_19 rfl ?_
      refine gw_aret k_Bk_toneOf f_Bk_toneOf_23 rfl ?_
      show Gw zs 1 m_Bk_cadenceOf 5 [some (.inr (.inl (some 0))), some (.inl a0), some (.inl a1), none] [.inr (.inl (some (31 + 8 * a0.toNatClampNeg)))] w _
      refine gw_astore_n [some (.inr (.inl (some 0))), some (.inl a0), some (.inl a1), some (.inr (.inl (some (31 + 8 * a0.toNatClampNeg))))] k_Bk_cadenceOf f_Bk_cadenceOf_5 (Nat.le_of_ble_eq_true rfl) rfl ?_
      refine gw_aload_n k_Bk_cadenceOf f_Bk_cadenceOf_6 rfl ?_
      refine gw_ifnonnull_s (t := 14) k_Bk_cadenceOf f_Bk_cadenceOf_7 rfl ?_
      refine gw_aload_n k_Bk_cadenceOf f_Bk_cadenceOf_14 rfl ?_
      refine gw_iload_n k_Bk_cadenceOf f_Bk_cadenceOf_15 rfl ?_
      refine gw_virtual [.inl a1] k_Bk_cadenceOf f_Bk_cadenceOf_16 l_invT_10_249 k_Ton_cadenceAt hb4.1 rfl rfl rfl (by exact Nat.le_of_ble_eq_true rfl) (dc := 0) (by decide) ?_ rfl
      refine ew_of k_Ton_cadenceAt rfl ?_
      show Gw zs 0 m_Ton_cadenceAt 0 [some (.inr (.inl (some (31 + 8 * a0.toNatClampNeg)))), some (.inl a1)] [] w _
      refine gw_iload_n k_Ton_cadenceAt f_Ton_cadenceAt_0 rfl ?_
      refine gw_ls2 (t0 := 28) (t1 := 33) (td := 38) k_Ton_cadenceAt f_Ton_cadenceAt_1 rfl rfl rfl (fun cx => ?_) (fun cx => ?_) (fun cx cy => ?_)
      · have h := h.1 cx
        refine gw_aload_n k_Ton_cadenceAt f_Ton_cadenceAt_28 rfl ?_
        refine gw_getR k_Ton_cadenceAt f_Ton_cadenceAt_29 l_fldT_8_18 hb4.1 rfl ?_
        refine gw_aret k_Ton_cadenceAt f_Ton_cadenceAt_32 rfl ?_
        show Gw zs 1 m_Bk_cadenceOf 19 [some (.inr (.inl (some 0))), some (.inl a0), some (.inl a1), some (.inr (.inl (some (31 + 8 * a0.toNatClampNeg))))] [.inr (.inl (some ((31 + 8 * a0.toNatClampNeg) + 2)))] w _
        refine gw_aret k_Bk_cadenceOf f_Bk_cadenceOf_19 rfl ?_
        show Gw zs 3 m_Bk_accent 6 [some (.inr (.inl (some 0))), some (.inl a0), some (.inl a1), some (.inl a2), some (.inl a3), some (.inl a4), some (.inl a5), none] [.inr (.inl (some ((31 + 8 * a0.toNatClampNeg) + 2)))] w _
        refine gw_astore [some (.inr (.inl (some 0))), some (.inl a0), some (.inl a1), some (.inl a2), some (.inl a3), some (.inl a4), some (.inl a5), some (.inr (.inl (some ((31 + 8 * a0.toNatClampNeg) + 2))))] k_Bk_accent f_Bk_accent_6 (Nat.le_of_ble_eq_true rfl) rfl ?_
        refine gw_aload k_Bk_accent f_Bk_accent_8 rfl ?_
        refine gw_ifnonnull_s (t := 17) k_Bk_accent f_Bk_accent_10 rfl ?_
        refine gw_aload k_Bk_accent f_Bk_accent_17 rfl ?_
        refine gw_iload_n k_Bk_accent f_Bk_accent_19 rfl ?_
        refine gw_iload k_Bk_accent f_Bk_accent_20 rfl ?_
        refine gw_iload k_Bk_accent f_Bk_accent_22 rfl ?_
        refine gw_iload k_Bk_accent f_Bk_accent_24 rfl ?_
        refine gw_virtual [.inl a2, .inl a3, .inl a4, .inl a5] k_Bk_accent f_Bk_accent_26 l_invT_10_201 k_Cad_setAccent hb4.2.2.1.1 rfl rfl rfl (by exact Nat.le_of_ble_eq_true rfl) (dc := 2) (by decide) ?_ rfl
        refine ev_Cad_setAccent hb4.2.2.1 ?_
        show Gw zs 3 m_Bk_accent 29 [some (.inr (.inl (some 0))), some (.inl a0), some (.inl a1), some (.inl a2), some (.inl a3), some (.inl a4), some (.inl a5), some (.inr (.inl (some ((31 + 8 * a0.toNatClampNeg) + 2))))] [.inl (f_Cad_setAccent ((31 + 8 * a0.toNatClampNeg) + 2) a2 a3 a4 a5)] (g_Cad_setAccent w ((31 + 8 * a0.toNatClampNeg) + 2) a2 a3 a4 a5) _
        exact gw_iret k_Bk_accent f_Bk_accent_29 rfl h
      · have h := h.2.1 cx
        refine gw_aload_n k_Ton_cadenceAt f_Ton_cadenceAt_33 rfl ?_
        refine gw_getR k_Ton_cadenceAt f_Ton_cadenceAt_34 l_fldT_8_22 hb4.1 rfl ?_
        refine gw_aret k_Ton_cadenceAt f_Ton_cadenceAt_37 rfl ?_
        show Gw zs 1 m_Bk_cadenceOf 19 [some (.inr (.inl (some 0))), some (.inl a0), some (.inl a1), some (.inr (.inl (some (31 + 8 * a0.toNatClampNeg))))] [.inr (.inl (some ((31 + 8 * a0.toNatClampNeg) + 5)))] w _
        refine gw_aret k_Bk_cadenceOf f_Bk_cadenceOf_19 rfl ?_
        show Gw zs 3 m_Bk_accent 6 [some (.inr (.inl (some 0))), some (.inl a0), some (.inl a1), some (.inl a2), some (.inl a3), some (.inl a4), some (.inl a5), none] [.inr (.inl (some ((31 + 8 * a0.toNatClampNeg) + 5)))] w _
        refine gw_astore [some (.inr (.inl (some 0))), some (.inl a0), some (.inl a1), some (.inl a2), some (.inl a3), some (.inl a4), some (.inl a5), some (.inr (.inl (some ((31 + 8 * a0.toNatClampNeg) + 5))))] k_Bk_accent f_Bk_accent_6 (Nat.le_of_ble_eq_true rfl) rfl ?_
        refine gw_aload k_Bk_accent f_Bk_accent_8 rfl ?_
        refine gw_ifnonnull_s (t := 17) k_Bk_accent f_Bk_accent_10 rfl ?_
        refine gw_aload k_Bk_accent f_Bk_accent_17 rfl ?_
        refine gw_iload_n k_Bk_accent f_Bk_accent_19 rfl ?_
        refine gw_iload k_Bk_accent f_Bk_accent_20 rfl ?_
        refine gw_iload k_Bk_accent f_Bk_accent_22 rfl ?_
        refine gw_iload k_Bk_accent f_Bk_accent_24 rfl ?_
        refine gw_virtual [.inl a2, .inl a3, .inl a4, .inl a5] k_Bk_accent f_Bk_accent_26 l_invT_10_201 k_Cad_setAccent hb4.2.2.2.1 rfl rfl rfl (by exact Nat.le_of_ble_eq_true rfl) (dc := 2) (by decide) ?_ rfl
        refine ev_Cad_setAccent hb4.2.2.2 ?_
        show Gw zs 3 m_Bk_accent 29 [some (.inr (.inl (some 0))), some (.inl a0), some (.inl a1), some (.inl a2), some (.inl a3), some (.inl a4), some (.inl a5), some (.inr (.inl (some ((31 + 8 * a0.toNatClampNeg) + 5))))] [.inl (f_Cad_setAccent ((31 + 8 * a0.toNatClampNeg) + 5) a2 a3 a4 a5)] (g_Cad_setAccent w ((31 + 8 * a0.toNatClampNeg) + 5) a2 a3 a4 a5) _
        exact gw_iret k_Bk_accent f_Bk_accent_29 rfl h
      · have h := h.2.2 cx cy
        refine gw_null k_Ton_cadenceAt f_Ton_cadenceAt_38 ?_
        refine gw_aret k_Ton_cadenceAt f_Ton_cadenceAt_39 rfl ?_
        show Gw zs 1 m_Bk_cadenceOf 19 [some (.inr (.inl (some 0))), some (.inl a0), some (.inl a1), some (.inr (.inl (some (31 + 8 * a0.toNatClampNeg))))] [.inr (.inl none)] w _
        refine gw_aret k_Bk_cadenceOf f_Bk_cadenceOf_19 rfl ?_
        show Gw zs 3 m_Bk_accent 6 [some (.inr (.inl (some 0))), some (.inl a0), some (.inl a1), some (.inl a2), some (.inl a3), some (.inl a4), some (.inl a5), none] [.inr (.inl none)] w _
        refine gw_astore [some (.inr (.inl (some 0))), some (.inl a0), some (.inl a1), some (.inl a2), some (.inl a3), some (.inl a4), some (.inl a5), some (.inr (.inl none))] k_Bk_accent f_Bk_accent_6 (Nat.le_of_ble_eq_true rfl) rfl ?_
        refine gw_aload k_Bk_accent f_Bk_accent_8 rfl ?_
        refine gw_ifnonnull_n k_Bk_accent f_Bk_accent_10 ?_
        refine gw_iconst k_Bk_accent f_Bk_accent_13 qc_m1 ?_
        refine gw_goto (t := 29) k_Bk_accent f_Bk_accent_14 rfl ?_
        exact gw_iret k_Bk_accent f_Bk_accent_29 rfl h
theorem ev_Bk_accent {zs : List Int32} {a0 a1 a2 a3 a4 a5 : Int32} {w : Wd} {Q : Option AV → Wd → Prop} (h : Q (some (.inl (f_Bk_accent a0 a1 a2 a3 a4 a5))) (g_Bk_accent w a0 a1 a2 a3 a4 a5)) : Ew zs 3 m_Bk_accent [.inr (.inl (some 0)), .inl a0, .inl a1, .inl a2, .inl a3, .inl a4, .inl a5] w Q := by
  refine ew_of k_Bk_accent rfl (sg_Bk_accent_0 ?_)
  refine ⟨fun c1 => ?_, fun c1 => ?_⟩
  ·
    rw [show f_Bk_accent a0 a1 a2 a3 a4 a5 = (-1) from by unfold f_Bk_accent; rw [if_pos c1]] at h
    rw [show g_Bk_accent w a0 a1 a2 a3 a4 a5 = w from by unfold g_Bk_accent; rw [if_pos c1]] at h
    exact h
  ·
    refine ⟨fun c2 => ?_, fun c2 => ?_⟩
    ·
      rw [show f_Bk_accent a0 a1 a2 a3 a4 a5 = (-1) from by unfold f_Bk_accent; rw [if_neg c1, if_pos c2]] at h
      rw [show g_Bk_accent w a0 a1 a2 a3 a4 a5 = w from by unfold g_Bk_accent; rw [if_neg c1, if_pos c2]] at h
      exact h
    ·
      refine ⟨fun c0_3 => ?_, fun c1_3 => ?_, fun c0_3 c1_3 => ?_⟩
      ·
        rw [show f_Bk_accent a0 a1 a2 a3 a4 a5 = (f_Cad_setAccent ((31 + 8 * a0.toNatClampNeg) + 2) a2 a3 a4 a5) from by unfold f_Bk_accent; rw [if_neg c1, if_neg c2, if_pos c0_3]] at h
        rw [show g_Bk_accent w a0 a1 a2 a3 a4 a5 = (g_Cad_setAccent w ((31 + 8 * a0.toNatClampNeg) + 2) a2 a3 a4 a5) from by unfold g_Bk_accent; rw [if_neg c1, if_neg c2, if_pos c0_3]] at h
        exact h
      ·
        rw [show f_Bk_accent a0 a1 a2 a3 a4 a5 = (f_Cad_setAccent ((31 + 8 * a0.toNatClampNeg) + 5) a2 a3 a4 a5) from by unfold f_Bk_accent; rw [if_neg c1, if_neg c2, if_neg (by rw [c1_3]; decide), if_pos c1_3]] at h
        rw [show g_Bk_accent w a0 a1 a2 a3 a4 a5 = (g_Cad_setAccent w ((31 + 8 * a0.toNatClampNeg) + 5) a2 a3 a4 a5) from by unfold g_Bk_accent; rw [if_neg c1, if_neg c2, if_neg (by rw [c1_3]; decide), if_pos c1_3]] at h
        exact h
      ·
        rw [show f_Bk_accent a0 a1 a2 a3 a4 a5 = (-1) from by unfold f_Bk_accent; rw [if_neg c1, if_neg c2, if_neg c0_3, if_neg c1_3]] at h
        rw [show g_Bk_accent w a0 a1 a2 a3 a4 a5 = w from by unfold g_Bk_accent; rw [if_neg c1, if_neg c2, if_neg c0_3, if_neg c1_3]] at h
        exact h
def f_Cad_setMany (b : Nat) (a0 : Int32) : Int32 := if (f_Bk_within a0 1 2) = 0 then (-1) else 0
def g_Cad_setMany (w : Wd) (b : Nat) (a0 : Int32) : Wd := if (f_Bk_within a0 1 2) = 0 then w else wr w b 3 a0
theorem sg_Cad_setMany_0 {zs : List Int32} {b : Nat} (hb : isCad b) {a0 : Int32} {w : Wd} {Q : Option AV → Wd → Prop} (h : (((f_Bk_within a0 1 2) = 0 → Q (some (.inl (-1))) w) ∧ (¬ ((f_Bk_within a0 1 2) = 0) → Q (some (.inl 0)) (wr w b 3 a0)))) : Gw zs 1 m_Cad_setMany 0 [some (.inr (.inl (some b))), some (.inl a0)] [] w Q := by
  refine gw_iload_n k_Cad_setMany f_Cad_setMany_0 rfl ?_
  refine gw_iconst k_Cad_setMany f_Cad_setMany_1 qc_1 ?_
  refine gw_iconst k_Cad_setMany f_Cad_setMany_2 qc_2 ?_
  refine gw_static [.inl a0, .inl 1, .inl 2] k_Cad_setMany f_Cad_setMany_3 l_invT_1_29 (by decide) k_Bk_within rfl (by exact Nat.le_of_ble_eq_true rfl) (dc := 0) (by decide) ?_ rfl
  refine ev_Bk_within ?_
  show Gw zs 1 m_Cad_setMany 6 [some (.inr (.inl (some b))), some (.inl a0)] [.inl (f_Bk_within a0 1 2)] w _
  refine gw_if_ne (t := 11) k_Cad_setMany f_Cad_setMany_6 rfl (fun c1 => ?_) (fun c1 => ?_)
  · have h := h.2 c1
    refine gw_aload_n k_Cad_setMany f_Cad_setMany_11 rfl ?_
    refine gw_iload_n k_Cad_setMany f_Cad_setMany_12 rfl ?_
    refine gw_put k_Cad_setMany f_Cad_setMany_13 l_fldT_1_18 hb.1 rfl rfl rfl rfl rfl ?_
    refine gw_iconst k_Cad_setMany f_Cad_setMany_16 qc_0 ?_
    exact gw_iret k_Cad_setMany f_Cad_setMany_17 rfl h
  · have c1 := Decidable.not_not.mp c1
    have h := h.1 c1
    refine gw_iconst k_Cad_setMany f_Cad_setMany_9 qc_m1 ?_
    exact gw_iret k_Cad_setMany f_Cad_setMany_10 rfl h
theorem ev_Cad_setMany {zs : List Int32} {b : Nat} (hb : isCad b) {a0 : Int32} {w : Wd} {Q : Option AV → Wd → Prop} (h : Q (some (.inl (f_Cad_setMany b a0))) (g_Cad_setMany w b a0)) : Ew zs 1 m_Cad_setMany [.inr (.inl (some b)), .inl a0] w Q := by
  refine ew_of k_Cad_setMany rfl (sg_Cad_setMany_0 hb ?_)
  refine ⟨fun c1 => ?_, fun c1 => ?_⟩
  ·
    rw [show f_Cad_setMany b a0 = (-1) from by unfold f_Cad_setMany; rw [if_pos c1]] at h
    rw [show g_Cad_setMany w b a0 = w from by unfold g_Cad_setMany; rw [if_pos c1]] at h
    exact h
  ·
    rw [show f_Cad_setMany b a0 = 0 from by unfold f_Cad_setMany; rw [if_neg c1]] at h
    rw [show g_Cad_setMany w b a0 = (wr w b 3 a0) from by unfold g_Cad_setMany; rw [if_neg c1]] at h
    exact h
def f_Bk_accents (a0 : Int32) (a1 : Int32) (a2 : Int32) : Int32 := if a0 < 0 then (-1) else if 9 ≤ a0 then (-1) else if a1 = 0 then (f_Cad_setMany ((31 + 8 * a0.toNatClampNeg) + 2) a2) else if a1 = 1 then (f_Cad_setMany ((31 + 8 * a0.toNatClampNeg) + 5) a2) else (-1)
def g_Bk_accents (w : Wd) (a0 : Int32) (a1 : Int32) (a2 : Int32) : Wd := if a0 < 0 then w else if 9 ≤ a0 then w else if a1 = 0 then g_Cad_setMany w ((31 + 8 * a0.toNatClampNeg) + 2) a2 else if a1 = 1 then g_Cad_setMany w ((31 + 8 * a0.toNatClampNeg) + 5) a2 else w
theorem sg_Bk_accents_0 {zs : List Int32} {a0 a1 a2 : Int32} {w : Wd} {Q : Option AV → Wd → Prop} (h : ((a0 < 0 → Q (some (.inl (-1))) w) ∧ (¬ (a0 < 0) → ((9 ≤ a0 → Q (some (.inl (-1))) w) ∧ (¬ (9 ≤ a0) → ((a1 = 0 → Q (some (.inl (f_Cad_setMany ((31 + 8 * a0.toNatClampNeg) + 2) a2))) (g_Cad_setMany w ((31 + 8 * a0.toNatClampNeg) + 2) a2)) ∧ (a1 = 1 → Q (some (.inl (f_Cad_setMany ((31 + 8 * a0.toNatClampNeg) + 5) a2))) (g_Cad_setMany w ((31 + 8 * a0.toNatClampNeg) + 5) a2)) ∧ (¬ a1 = 0 → ¬ a1 = 1 → Q (some (.inl (-1))) w))))))) : Gw zs 2 m_Bk_accents 0 [some (.inr (.inl (some 0))), some (.inl a0), some (.inl a1), some (.inl a2), none] [] w Q := by
  refine gw_aload_n k_Bk_accents f_Bk_accents_0 rfl ?_
  refine gw_iload_n k_Bk_accents f_Bk_accents_1 rfl ?_
  refine gw_iload_n k_Bk_accents f_Bk_accents_2 rfl ?_
  refine gw_virtual [.inl a0, .inl a1] k_Bk_accents f_Bk_accents_3 l_invT_10_197 k_Bk_cadenceOf hc0 rfl rfl rfl (by exact Nat.le_of_ble_eq_true rfl) (dc := 1) (by decide) ?_ rfl
  refine ew_of k_Bk_cadenceOf rfl ?_
  show Gw zs 1 m_Bk_cadenceOf 0 [some (.inr (.inl (some 0))), some (.inl a0), some (.inl a1), none] [] w _
  refine gw_aload_n k_Bk_cadenceOf f_Bk_cadenceOf_0 rfl ?_
  refine gw_iload_n k_Bk_cadenceOf f_Bk_cadenceOf_1 rfl ?_
  refine gw_virtual [.inl a0] k_Bk_cadenceOf f_Bk_cadenceOf_2 l_invT_10_187 k_Bk_toneOf hc0 rfl rfl rfl (by exact Nat.le_of_ble_eq_true rfl) (dc := 0) (by decide) ?_ rfl
  refine ew_of k_Bk_toneOf rfl ?_
  show Gw zs 0 m_Bk_toneOf 0 [some (.inr (.inl (some 0))), some (.inl a0)] [] w _
  refine gw_iload_n k_Bk_toneOf f_Bk_toneOf_0 rfl ?_
  refine gw_if_lt (t := 22) k_Bk_toneOf f_Bk_toneOf_1 rfl (fun c1 => ?_) (fun c1 => ?_)
  · have h := h.1 c1
    refine gw_null k_Bk_toneOf f_Bk_toneOf_22 ?_
    refine gw_aret k_Bk_toneOf f_Bk_toneOf_23 rfl ?_
    show Gw zs 1 m_Bk_cadenceOf 5 [some (.inr (.inl (some 0))), some (.inl a0), some (.inl a1), none] [.inr (.inl none)] w _
    refine gw_astore_n [some (.inr (.inl (some 0))), some (.inl a0), some (.inl a1), some (.inr (.inl none))] k_Bk_cadenceOf f_Bk_cadenceOf_5 (Nat.le_of_ble_eq_true rfl) rfl ?_
    refine gw_aload_n k_Bk_cadenceOf f_Bk_cadenceOf_6 rfl ?_
    refine gw_ifnonnull_n k_Bk_cadenceOf f_Bk_cadenceOf_7 ?_
    refine gw_null k_Bk_cadenceOf f_Bk_cadenceOf_10 ?_
    refine gw_goto (t := 19) k_Bk_cadenceOf f_Bk_cadenceOf_11 rfl ?_
    refine gw_aret k_Bk_cadenceOf f_Bk_cadenceOf_19 rfl ?_
    show Gw zs 2 m_Bk_accents 6 [some (.inr (.inl (some 0))), some (.inl a0), some (.inl a1), some (.inl a2), none] [.inr (.inl none)] w _
    refine gw_astore [some (.inr (.inl (some 0))), some (.inl a0), some (.inl a1), some (.inl a2), some (.inr (.inl none))] k_Bk_accents f_Bk_accents_6 (Nat.le_of_ble_eq_true rfl) rfl ?_
    refine gw_aload k_Bk_accents f_Bk_accents_8 rfl ?_
    refine gw_ifnonnull_n k_Bk_accents f_Bk_accents_10 ?_
    refine gw_iconst k_Bk_accents f_Bk_accents_13 qc_m1 ?_
    refine gw_goto (t := 23) k_Bk_accents f_Bk_accents_14 rfl ?_
    exact gw_iret k_Bk_accents f_Bk_accents_23 rfl h
  · have h := h.2 c1
    refine gw_iload_n k_Bk_toneOf f_Bk_toneOf_4 rfl ?_
    refine gw_aload_n k_Bk_toneOf f_Bk_toneOf_5 rfl ?_
    refine gw_getR k_Bk_toneOf f_Bk_toneOf_6 l_fldT_10_41 hc0 rfl ?_
    refine gw_alenQ k_Bk_toneOf f_Bk_toneOf_9 hc30 qn_9 ?_
    refine gw_icmp_ge (t := 22) k_Bk_toneOf f_Bk_toneOf_10 rfl (fun c2 => ?_) (fun c2 => ?_)
    · have h := h.1 c2
      refine gw_null k_Bk_toneOf f_Bk_toneOf_22 ?_
      refine gw_aret k_Bk_toneOf f_Bk_toneOf_23 rfl ?_
      show Gw zs 1 m_Bk_cadenceOf 5 [some (.inr (.inl (some 0))), some (.inl a0), some (.inl a1), none] [.inr (.inl none)] w _
      refine gw_astore_n [some (.inr (.inl (some 0))), some (.inl a0), some (.inl a1), some (.inr (.inl none))] k_Bk_cadenceOf f_Bk_cadenceOf_5 (Nat.le_of_ble_eq_true rfl) rfl ?_
      refine gw_aload_n k_Bk_cadenceOf f_Bk_cadenceOf_6 rfl ?_
      refine gw_ifnonnull_n k_Bk_cadenceOf f_Bk_cadenceOf_7 ?_
      refine gw_null k_Bk_cadenceOf f_Bk_cadenceOf_10 ?_
      refine gw_goto (t := 19) k_Bk_cadenceOf f_Bk_cadenceOf_11 rfl ?_
      refine gw_aret k_Bk_cadenceOf f_Bk_cadenceOf_19 rfl ?_
      show Gw zs 2 m_Bk_accents 6 [some (.inr (.inl (some 0))), some (.inl a0), some (.inl a1), some (.inl a2), none] [.inr (.inl none)] w _
      refine gw_astore [some (.inr (.inl (some 0))), some (.inl a0), some (.inl a1), some (.inl a2), some (.inr (.inl none))] k_Bk_accents f_Bk_accents_6 (Nat.le_of_ble_eq_true rfl) rfl ?_
      refine gw_aload k_Bk_accents f_Bk_accents_8 rfl ?_
      refine gw_ifnonnull_n k_Bk_accents f_Bk_accents_10 ?_
      refine gw_iconst k_Bk_accents f_Bk_accents_13 qc_m1 ?_
      refine gw_goto (t := 23) k_Bk_accents f_Bk_accents_14 rfl ?_
      exact gw_iret k_Bk_accents f_Bk_accents_23 rfl h
    · have h := h.2 c2
      refine gw_aload_n k_Bk_toneOf f_Bk_toneOf_13 rfl ?_
      refine gw_getR k_Bk_toneOf f_Bk_toneOf_14 l_fldT_10_41 hc0 rfl ?_
      refine gw_iload_n k_Bk_toneOf f_Bk_toneOf_17 rfl ?_
      have hp3 : vp_in a0 9 := (vin qn_9 (by decide) c1 c2)
      refine gw_aald k_Bk_toneOf f_Bk_toneOf_18 hc30 hp3 (ton_el (vp_lt hp3)) ?_
      have hb4 := ton_is (vp_lt hp3)
      refine gw_goto (t := 23) k_Bk_toneOf f_Bk_toneOf_19 rfl ?_
      refine gw_aret k_Bk_toneOf f_Bk_toneOf_23 rfl ?_
      show Gw zs 1 m_Bk_cadenceOf 5 [some (.inr (.inl (some 0))), some (.inl a0), some (.inl a1), none] [.inr (.inl (some (31 + 8 * a0.toNatClampNeg)))] w _
      refine gw_astore_n [some (.inr (.inl (some 0))), some (.inl a0), some (.inl a1), some (.inr (.inl (some (31 + 8 * a0.toNatClampNeg))))] k_Bk_cadenceOf f_Bk_cadenceOf_5 (Nat.le_of_ble_eq_true rfl) rfl ?_
      refine gw_aload_n k_Bk_cadenceOf f_Bk_cadenceOf_6 rfl ?_
      refine gw_ifnonnull_s (t := 14) k_Bk_cadenceOf f_Bk_cadenceOf_7 rfl ?_
      refine gw_aload_n k_Bk_cadenceOf f_Bk_cadenceOf_14 rfl ?_
      refine gw_iload_n k_Bk_cadenceOf f_Bk_cadenceOf_15 rfl ?_
      refine gw_virtual [.inl a1] k_Bk_cadenceOf f_Bk_cadenceOf_16 l_invT_10_249 k_Ton_cadenceAt hb4.1 rfl rfl rfl (by exact Nat.le_of_ble_eq_true rfl) (dc := 0) (by decide) ?_ rfl
      refine ew_of k_Ton_cadenceAt rfl ?_
      show Gw zs 0 m_Ton_cadenceAt 0 [some (.inr (.inl (some (31 + 8 * a0.toNatClampNeg)))), some (.inl a1)] [] w _
      refine gw_iload_n k_Ton_cadenceAt f_Ton_cadenceAt_0 rfl ?_
      refine gw_ls2 (t0 := 28) (t1 := 33) (td := 38) k_Ton_cadenceAt f_Ton_cadenceAt_1 rfl rfl rfl (fun cx => ?_) (fun cx => ?_) (fun cx cy => ?_)
      · have h := h.1 cx
        refine gw_aload_n k_Ton_cadenceAt f_Ton_cadenceAt_28 rfl ?_
        refine gw_getR k_Ton_cadenceAt f_Ton_cadenceAt_29 l_fldT_8_18 hb4.1 rfl ?_
        refine gw_aret k_Ton_cadenceAt f_Ton_cadenceAt_32 rfl ?_
        show Gw zs 1 m_Bk_cadenceOf 19 [some (.inr (.inl (some 0))), some (.inl a0), some (.inl a1), some (.inr (.inl (some (31 + 8 * a0.toNatClampNeg))))] [.inr (.inl (some ((31 + 8 * a0.toNatClampNeg) + 2)))] w _
        refine gw_aret k_Bk_cadenceOf f_Bk_cadenceOf_19 rfl ?_
        show Gw zs 2 m_Bk_accents 6 [some (.inr (.inl (some 0))), some (.inl a0), some (.inl a1), some (.inl a2), none] [.inr (.inl (some ((31 + 8 * a0.toNatClampNeg) + 2)))] w _
        refine gw_astore [some (.inr (.inl (some 0))), some (.inl a0), some (.inl a1), some (.inl a2), some (.inr (.inl (some ((31 + 8 * a0.toNatClampNeg) + 2))))] k_Bk_accents f_Bk_accents_6 (Nat.le_of_ble_eq_true rfl) rfl ?_
        refine gw_aload k_Bk_accents f_Bk_accents_8 rfl ?_
        refine gw_ifnonnull_s (t := 17) k_Bk_accents f_Bk_accents_10 rfl ?_
        refine gw_aload k_Bk_accents f_Bk_accents_17 rfl ?_
        refine gw_iload_n k_Bk_accents f_Bk_accents_19 rfl ?_
        refine gw_virtual [.inl a2] k_Bk_accents f_Bk_accents_20 l_invT_10_206 k_Cad_setMany hb4.2.2.1.1 rfl rfl rfl (by exact Nat.le_of_ble_eq_true rfl) (dc := 1) (by decide) ?_ rfl
        refine ev_Cad_setMany hb4.2.2.1 ?_
        show Gw zs 2 m_Bk_accents 23 [some (.inr (.inl (some 0))), some (.inl a0), some (.inl a1), some (.inl a2), some (.inr (.inl (some ((31 + 8 * a0.toNatClampNeg) + 2))))] [.inl (f_Cad_setMany ((31 + 8 * a0.toNatClampNeg) + 2) a2)] (g_Cad_setMany w ((31 + 8 * a0.toNatClampNeg) + 2) a2) _
        exact gw_iret k_Bk_accents f_Bk_accents_23 rfl h
      · have h := h.2.1 cx
        refine gw_aload_n k_Ton_cadenceAt f_Ton_cadenceAt_33 rfl ?_
        refine gw_getR k_Ton_cadenceAt f_Ton_cadenceAt_34 l_fldT_8_22 hb4.1 rfl ?_
        refine gw_aret k_Ton_cadenceAt f_Ton_cadenceAt_37 rfl ?_
        show Gw zs 1 m_Bk_cadenceOf 19 [some (.inr (.inl (some 0))), some (.inl a0), some (.inl a1), some (.inr (.inl (some (31 + 8 * a0.toNatClampNeg))))] [.inr (.inl (some ((31 + 8 * a0.toNatClampNeg) + 5)))] w _
        refine gw_aret k_Bk_cadenceOf f_Bk_cadenceOf_19 rfl ?_
        show Gw zs 2 m_Bk_accents 6 [some (.inr (.inl (some 0))), some (.inl a0), some (.inl a1), some (.inl a2), none] [.inr (.inl (some ((31 + 8 * a0.toNatClampNeg) + 5)))] w _
        refine gw_astore [some (.inr (.inl (some 0))), some (.inl a0), some (.inl a1), some (.inl a2), some (.inr (.inl (some ((31 + 8 * a0.toNatClampNeg) + 5))))] k_Bk_accents f_Bk_accents_6 (Nat.le_of_ble_eq_true rfl) rfl ?_
        refine gw_aload k_Bk_accents f_Bk_accents_8 rfl ?_
        refine gw_ifnonnull_s (t := 17) k_Bk_accents f_Bk_accents_10 rfl ?_
        refine gw_aload k_Bk_accents f_Bk_accents_17 rfl ?_
        refine gw_iload_n k_Bk_accents f_Bk_accents_19 rfl ?_
        refine gw_virtual [.inl a2] k_Bk_accents f_Bk_accents_20 l_invT_10_206 k_Cad_setMany hb4.2.2.2.1 rfl rfl rfl (by exact Nat.le_of_ble_eq_true rfl) (dc := 1) (by decide) ?_ rfl
        refine ev_Cad_setMany hb4.2.2.2 ?_
        show Gw zs 2 m_Bk_accents 23 [some (.inr (.inl (some 0))), some (.inl a0), some (.inl a1), some (.inl a2), some (.inr (.inl (some ((31 + 8 * a0.toNatClampNeg) + 5))))] [.inl (f_Cad_setMany ((31 + 8 * a0.toNatClampNeg) + 5) a2)] (g_Cad_setMany w ((31 + 8 * a0.toNatClampNeg) + 5) a2) _
        exact gw_iret k_Bk_accents f_Bk_accents_23 rfl h
      · have h := h.2.2 cx cy
        refine gw_null k_Ton_cadenceAt f_Ton_cadenceAt_38 ?_
        refine gw_aret k_Ton_cadenceAt f_Ton_cadenceAt_39 rfl ?_
        show Gw zs 1 m_Bk_cadenceOf 19 [some (.inr (.inl (some 0))), some (.inl a0), some (.inl a1), some (.inr (.inl (some (31 + 8 * a0.toNatClampNeg))))] [.inr (.inl none)] w _
        refine gw_aret k_Bk_cadenceOf f_Bk_cadenceOf_19 rfl ?_
        show Gw zs 2 m_Bk_accents 6 [some (.inr (.inl (some 0))), some (.inl a0), some (.inl a1), some (.inl a2), none] [.inr (.inl none)] w _
        refine gw_astore [some (.inr (.inl (some 0))), some (.inl a0), some (.inl a1), some (.inl a2), some (.inr (.inl none))] k_Bk_accents f_Bk_accents_6 (Nat.le_of_ble_eq_true rfl) rfl ?_
        refine gw_aload k_Bk_accents f_Bk_accents_8 rfl ?_
        refine gw_ifnonnull_n k_Bk_accents f_Bk_accents_10 ?_
        refine gw_iconst k_Bk_accents f_Bk_accents_13 qc_m1 ?_
        refine gw_goto (t := 23) k_Bk_accents f_Bk_accents_14 rfl ?_
        exact gw_iret k_Bk_accents f_Bk_accents_23 rfl h
theorem ev_Bk_accents {zs : List Int32} {a0 a1 a2 : Int32} {w : Wd} {Q : Option AV → Wd → Prop} (h : Q (some (.inl (f_Bk_accents a0 a1 a2))) (g_Bk_accents w a0 a1 a2)) : Ew zs 2 m_Bk_accents [.inr (.inl (some 0)), .inl a0, .inl a1, .inl a2] w Q := by
  refine ew_of k_Bk_accents rfl (sg_Bk_accents_0 ?_)
  refine ⟨fun c1 => ?_, fun c1 => ?_⟩
  ·
    rw [show f_Bk_accents a0 a1 a2 = (-1) from by unfold f_Bk_accents; rw [if_pos c1]] at h
    rw [show g_Bk_accents w a0 a1 a2 = w from by unfold g_Bk_accents; rw [if_pos c1]] at h
    exact h
  ·
    refine ⟨fun c2 => ?_, fun c2 => ?_⟩
    ·
      rw [show f_Bk_accents a0 a1 a2 = (-1) from by unfold f_Bk_accents; rw [if_neg c1, if_pos c2]] at h
      rw [show g_Bk_accents w a0 a1 a2 = w from by unfold g_Bk_accents; rw [if_neg c1, if_pos c2]] at h
      exact h
    ·
      refine ⟨fun c0_3 => ?_, fun c1_3 => ?_, fun c0_3 c1_3 => ?_⟩
      ·
        rw [show f_Bk_accents a0 a1 a2 = (f_Cad_setMany ((31 + 8 * a0.toNatClampNeg) + 2) a2) from by unfold f_Bk_accents; rw [if_neg c1, if_neg c2, if_pos c0_3]] at h
        rw [show g_Bk_accents w a0 a1 a2 = (g_Cad_setMany w ((31 + 8 * a0.toNatClampNeg) + 2) a2) from by unfold g_Bk_accents; rw [if_neg c1, if_neg c2, if_pos c0_3]] at h
        exact h
      ·
        rw [show f_Bk_accents a0 a1 a2 = (f_Cad_setMany ((31 + 8 * a0.toNatClampNeg) + 5) a2) from by unfold f_Bk_accents; rw [if_neg c1, if_neg c2, if_neg (by rw [c1_3]; decide), if_pos c1_3]] at h
        rw [show g_Bk_accents w a0 a1 a2 = (g_Cad_setMany w ((31 + 8 * a0.toNatClampNeg) + 5) a2) from by unfold g_Bk_accents; rw [if_neg c1, if_neg c2, if_neg (by rw [c1_3]; decide), if_pos c1_3]] at h
        exact h
      ·
        rw [show f_Bk_accents a0 a1 a2 = (-1) from by unfold f_Bk_accents; rw [if_neg c1, if_neg c2, if_neg c0_3, if_neg c1_3]] at h
        rw [show g_Bk_accents w a0 a1 a2 = w from by unfold g_Bk_accents; rw [if_neg c1, if_neg c2, if_neg c0_3, if_neg c1_3]] at h
        exact h
def f_Ver_cutHere (w : Wd) (b : Nat) : Int32 := if (w b 1) = 0 then (-1) else if (w b 2) ≤ 0 then (w b 1) else (-1)
def g_Ver_cutHere (w : Wd) (b : Nat) : Wd := if (w b 1) = 0 then w else if (w b 2) ≤ 0 then wr w b 2 (w b 1) else w
theorem sg_Ver_cutHere_0 {zs : List Int32} {b : Nat} (hb : isVer b) {w : Wd} {Q : Option AV → Wd → Prop} (h : (((w b 1) = 0 → Q (some (.inl (-1))) w) ∧ (¬ ((w b 1) = 0) → (((w b 2) ≤ 0 → Q (some (.inl (w b 1))) (wr w b 2 (w b 1))) ∧ (¬ ((w b 2) ≤ 0) → Q (some (.inl (-1))) w))))) : Gw zs 0 m_Ver_cutHere 0 [some (.inr (.inl (some b)))] [] w Q := by
  refine gw_aload_n k_Ver_cutHere f_Ver_cutHere_0 rfl ?_
  refine gw_getI k_Ver_cutHere f_Ver_cutHere_1 l_fldT_9_15 hb.1 rfl ?_
  refine gw_if_eq (t := 14) k_Ver_cutHere f_Ver_cutHere_4 rfl (fun c1 => ?_) (fun c1 => ?_)
  · have h := h.1 c1
    refine gw_iconst k_Ver_cutHere f_Ver_cutHere_14 qc_m1 ?_
    exact gw_iret k_Ver_cutHere f_Ver_cutHere_15 rfl h
  · have h := h.2 c1
    refine gw_aload_n k_Ver_cutHere f_Ver_cutHere_7 rfl ?_
    refine gw_getI k_Ver_cutHere f_Ver_cutHere_8 l_fldT_9_19 hb.1 rfl ?_
    refine gw_if_le (t := 16) k_Ver_cutHere f_Ver_cutHere_11 rfl (fun c2 => ?_) (fun c2 => ?_)
    · have h := h.1 c2
      refine gw_aload_n k_Ver_cutHere f_Ver_cutHere_16 rfl ?_
      refine gw_aload_n k_Ver_cutHere f_Ver_cutHere_17 rfl ?_
      refine gw_getI k_Ver_cutHere f_Ver_cutHere_18 l_fldT_9_15 hb.1 rfl ?_
      refine gw_put k_Ver_cutHere f_Ver_cutHere_21 l_fldT_9_19 hb.1 rfl rfl rfl rfl rfl ?_
      refine gw_aload_n k_Ver_cutHere f_Ver_cutHere_24 rfl ?_
      refine gw_getI k_Ver_cutHere f_Ver_cutHere_25 l_fldT_9_19 hb.1 rfl ?_
      rw [show (wr w b 2 (w b 1)) b 2 = w b 1 from wr_eq]
      exact gw_iret k_Ver_cutHere f_Ver_cutHere_28 rfl h
    · have h := h.2 c2
      refine gw_iconst k_Ver_cutHere f_Ver_cutHere_14 qc_m1 ?_
      exact gw_iret k_Ver_cutHere f_Ver_cutHere_15 rfl h
theorem ev_Ver_cutHere {zs : List Int32} {b : Nat} (hb : isVer b) {w : Wd} {Q : Option AV → Wd → Prop} (h : Q (some (.inl (f_Ver_cutHere w b))) (g_Ver_cutHere w b)) : Ew zs 0 m_Ver_cutHere [.inr (.inl (some b))] w Q := by
  refine ew_of k_Ver_cutHere rfl (sg_Ver_cutHere_0 hb ?_)
  refine ⟨fun c1 => ?_, fun c1 => ?_⟩
  ·
    rw [show f_Ver_cutHere w b = (-1) from by unfold f_Ver_cutHere; rw [if_pos c1]] at h
    rw [show g_Ver_cutHere w b = w from by unfold g_Ver_cutHere; rw [if_pos c1]] at h
    exact h
  ·
    refine ⟨fun c2 => ?_, fun c2 => ?_⟩
    ·
      rw [show f_Ver_cutHere w b = (w b 1) from by unfold f_Ver_cutHere; rw [if_neg c1, if_pos c2]] at h
      rw [show g_Ver_cutHere w b = (wr w b 2 (w b 1)) from by unfold g_Ver_cutHere; rw [if_neg c1, if_pos c2]] at h
      exact h
    ·
      rw [show f_Ver_cutHere w b = (-1) from by unfold f_Ver_cutHere; rw [if_neg c1, if_neg c2]] at h
      rw [show g_Ver_cutHere w b = w from by unfold g_Ver_cutHere; rw [if_neg c1, if_neg c2]] at h
      exact h
def f_Bk_part (w : Wd) (a0 : Int32) : Int32 := if a0 < 0 then (-1) else if 20 ≤ a0 then (-1) else (f_Ver_cutHere w (104 + 2 * a0.toNatClampNeg))
def g_Bk_part (w : Wd) (a0 : Int32) : Wd := if a0 < 0 then w else if 20 ≤ a0 then w else g_Ver_cutHere w (104 + 2 * a0.toNatClampNeg)
theorem sg_Bk_part_0 {zs : List Int32} {a0 : Int32} {w : Wd} {Q : Option AV → Wd → Prop} (h : ((a0 < 0 → Q (some (.inl (-1))) w) ∧ (¬ (a0 < 0) → ((20 ≤ a0 → Q (some (.inl (-1))) w) ∧ (¬ (20 ≤ a0) → Q (some (.inl (f_Ver_cutHere w (104 + 2 * a0.toNatClampNeg)))) (g_Ver_cutHere w (104 + 2 * a0.toNatClampNeg))))))) : Gw zs 1 m_Bk_part 0 [some (.inr (.inl (some 0))), some (.inl a0), none] [] w Q := by
  refine gw_aload_n k_Bk_part f_Bk_part_0 rfl ?_
  refine gw_iload_n k_Bk_part f_Bk_part_1 rfl ?_
  refine gw_virtual [.inl a0] k_Bk_part f_Bk_part_2 l_invT_10_209 k_Bk_verseOf hc0 rfl rfl rfl (by exact Nat.le_of_ble_eq_true rfl) (dc := 0) (by decide) ?_ rfl
  refine ew_of k_Bk_verseOf rfl ?_
  show Gw zs 0 m_Bk_verseOf 0 [some (.inr (.inl (some 0))), some (.inl a0)] [] w _
  refine gw_iload_n k_Bk_verseOf f_Bk_verseOf_0 rfl ?_
  refine gw_if_lt (t := 22) k_Bk_verseOf f_Bk_verseOf_1 rfl (fun c1 => ?_) (fun c1 => ?_)
  · have h := h.1 c1
    refine gw_null k_Bk_verseOf f_Bk_verseOf_22 ?_
    refine gw_aret k_Bk_verseOf f_Bk_verseOf_23 rfl ?_
    show Gw zs 1 m_Bk_part 5 [some (.inr (.inl (some 0))), some (.inl a0), none] [.inr (.inl none)] w _
    refine gw_astore_n [some (.inr (.inl (some 0))), some (.inl a0), some (.inr (.inl none))] k_Bk_part f_Bk_part_5 (Nat.le_of_ble_eq_true rfl) rfl ?_
    refine gw_aload_n k_Bk_part f_Bk_part_6 rfl ?_
    refine gw_ifnonnull_n k_Bk_part f_Bk_part_7 ?_
    refine gw_iconst k_Bk_part f_Bk_part_10 qc_m1 ?_
    refine gw_goto (t := 18) k_Bk_part f_Bk_part_11 rfl ?_
    exact gw_iret k_Bk_part f_Bk_part_18 rfl h
  · have h := h.2 c1
    refine gw_iload_n k_Bk_verseOf f_Bk_verseOf_4 rfl ?_
    refine gw_aload_n k_Bk_verseOf f_Bk_verseOf_5 rfl ?_
    refine gw_getR k_Bk_verseOf f_Bk_verseOf_6 l_fldT_10_48 hc0 rfl ?_
    refine gw_alenQ k_Bk_verseOf f_Bk_verseOf_9 hc103 qn_20 ?_
    refine gw_icmp_ge (t := 22) k_Bk_verseOf f_Bk_verseOf_10 rfl (fun c2 => ?_) (fun c2 => ?_)
    · have h := h.1 c2
      refine gw_null k_Bk_verseOf f_Bk_verseOf_22 ?_
      refine gw_aret k_Bk_verseOf f_Bk_verseOf_23 rfl ?_
      show Gw zs 1 m_Bk_part 5 [some (.inr (.inl (some 0))), some (.inl a0), none] [.inr (.inl none)] w _
      refine gw_astore_n [some (.inr (.inl (some 0))), some (.inl a0), some (.inr (.inl none))] k_Bk_part f_Bk_part_5 (Nat.le_of_ble_eq_true rfl) rfl ?_
      refine gw_aload_n k_Bk_part f_Bk_part_6 rfl ?_
      refine gw_ifnonnull_n k_Bk_part f_Bk_part_7 ?_
      refine gw_iconst k_Bk_part f_Bk_part_10 qc_m1 ?_
      refine gw_goto (t := 18) k_Bk_part f_Bk_part_11 rfl ?_
      exact gw_iret k_Bk_part f_Bk_part_18 rfl h
    · have h := h.2 c2
      refine gw_aload_n k_Bk_verseOf f_Bk_verseOf_13 rfl ?_
      refine gw_getR k_Bk_verseOf f_Bk_verseOf_14 l_fldT_10_48 hc0 rfl ?_
      refine gw_iload_n k_Bk_verseOf f_Bk_verseOf_17 rfl ?_
      have hp3 : vp_in a0 20 := (vin qn_20 (by decide) c1 c2)
      refine gw_aald k_Bk_verseOf f_Bk_verseOf_18 hc103 hp3 (ver_el (vp_lt hp3)) ?_
      have hb4 := ver_is (vp_lt hp3)
      refine gw_goto (t := 23) k_Bk_verseOf f_Bk_verseOf_19 rfl ?_
      refine gw_aret k_Bk_verseOf f_Bk_verseOf_23 rfl ?_
      show Gw zs 1 m_Bk_part 5 [some (.inr (.inl (some 0))), some (.inl a0), none] [.inr (.inl (some (104 + 2 * a0.toNatClampNeg)))] w _
      refine gw_astore_n [some (.inr (.inl (some 0))), some (.inl a0), some (.inr (.inl (some (104 + 2 * a0.toNatClampNeg))))] k_Bk_part f_Bk_part_5 (Nat.le_of_ble_eq_true rfl) rfl ?_
      refine gw_aload_n k_Bk_part f_Bk_part_6 rfl ?_
      refine gw_ifnonnull_s (t := 14) k_Bk_part f_Bk_part_7 rfl ?_
      refine gw_aload_n k_Bk_part f_Bk_part_14 rfl ?_
      refine gw_virtual [] k_Bk_part f_Bk_part_15 l_invT_10_217 k_Ver_cutHere hb4.1 rfl rfl rfl (by exact Nat.le_of_ble_eq_true rfl) (dc := 0) (by decide) ?_ rfl
      refine ev_Ver_cutHere hb4 ?_
      show Gw zs 1 m_Bk_part 18 [some (.inr (.inl (some 0))), some (.inl a0), some (.inr (.inl (some (104 + 2 * a0.toNatClampNeg))))] [.inl (f_Ver_cutHere w (104 + 2 * a0.toNatClampNeg))] (g_Ver_cutHere w (104 + 2 * a0.toNatClampNeg)) _
      exact gw_iret k_Bk_part f_Bk_part_18 rfl h
theorem ev_Bk_part {zs : List Int32} {a0 : Int32} {w : Wd} {Q : Option AV → Wd → Prop} (h : Q (some (.inl (f_Bk_part w a0))) (g_Bk_part w a0)) : Ew zs 1 m_Bk_part [.inr (.inl (some 0)), .inl a0] w Q := by
  refine ew_of k_Bk_part rfl (sg_Bk_part_0 ?_)
  refine ⟨fun c1 => ?_, fun c1 => ?_⟩
  ·
    rw [show f_Bk_part w a0 = (-1) from by unfold f_Bk_part; rw [if_pos c1]] at h
    rw [show g_Bk_part w a0 = w from by unfold g_Bk_part; rw [if_pos c1]] at h
    exact h
  ·
    refine ⟨fun c2 => ?_, fun c2 => ?_⟩
    ·
      rw [show f_Bk_part w a0 = (-1) from by unfold f_Bk_part; rw [if_neg c1, if_pos c2]] at h
      rw [show g_Bk_part w a0 = w from by unfold g_Bk_part; rw [if_neg c1, if_pos c2]] at h
      exact h
    ·
      rw [show f_Bk_part w a0 = (f_Ver_cutHere w (104 + 2 * a0.toNatClampNeg)) from by unfold f_Bk_part; rw [if_neg c1, if_neg c2]] at h
      rw [show g_Bk_part w a0 = (g_Ver_cutHere w (104 + 2 * a0.toNatClampNeg)) from by unfold g_Bk_part; rw [if_neg c1, if_neg c2]] at h
      exact h
def f_Ver_isSungAt (w : Wd) (b : Nat) (a0 : Int32) : Int32 := if a0 < 0 then 0 else if (w b 1) ≤ a0 then 0 else if (w b 1) ≤ (w b 2) then 0 else 1
theorem sg_Ver_isSungAt_0 {zs : List Int32} {b : Nat} (hb : isVer b) {a0 : Int32} {w : Wd} {Q : Option AV → Wd → Prop} (h : ((a0 < 0 → Q (some (.inl 0)) w) ∧ (¬ (a0 < 0) → (((w b 1) ≤ a0 → Q (some (.inl 0)) w) ∧ (¬ ((w b 1) ≤ a0) → (((w b 1) ≤ (w b 2) → Q (some (.inl 0)) w) ∧ (¬ ((w b 1) ≤ (w b 2)) → Q (some (.inl 1)) w))))))) : Gw zs 0 m_Ver_isSungAt 0 [some (.inr (.inl (some b))), some (.inl a0)] [] w Q := by
  refine gw_iload_n k_Ver_isSungAt f_Ver_isSungAt_0 rfl ?_
  refine gw_if_lt (t := 27) k_Ver_isSungAt f_Ver_isSungAt_1 rfl (fun c1 => ?_) (fun c1 => ?_)
  · have h := h.1 c1
    refine gw_iconst k_Ver_isSungAt f_Ver_isSungAt_27 qc_0 ?_
    exact gw_zret k_Ver_isSungAt f_Ver_isSungAt_28 rfl (Or.inl rfl) h
  · have h := h.2 c1
    refine gw_iload_n k_Ver_isSungAt f_Ver_isSungAt_4 rfl ?_
    refine gw_aload_n k_Ver_isSungAt f_Ver_isSungAt_5 rfl ?_
    refine gw_getI k_Ver_isSungAt f_Ver_isSungAt_6 l_fldT_9_15 hb.1 rfl ?_
    refine gw_icmp_ge (t := 27) k_Ver_isSungAt f_Ver_isSungAt_9 rfl (fun c2 => ?_) (fun c2 => ?_)
    · have h := h.1 c2
      refine gw_iconst k_Ver_isSungAt f_Ver_isSungAt_27 qc_0 ?_
      exact gw_zret k_Ver_isSungAt f_Ver_isSungAt_28 rfl (Or.inl rfl) h
    · have h := h.2 c2
      refine gw_aload_n k_Ver_isSungAt f_Ver_isSungAt_12 rfl ?_
      refine gw_getI k_Ver_isSungAt f_Ver_isSungAt_13 l_fldT_9_19 hb.1 rfl ?_
      refine gw_aload_n k_Ver_isSungAt f_Ver_isSungAt_16 rfl ?_
      refine gw_getI k_Ver_isSungAt f_Ver_isSungAt_17 l_fldT_9_15 hb.1 rfl ?_
      refine gw_icmp_ge (t := 27) k_Ver_isSungAt f_Ver_isSungAt_20 rfl (fun c3 => ?_) (fun c3 => ?_)
      · have h := h.1 c3
        refine gw_iconst k_Ver_isSungAt f_Ver_isSungAt_27 qc_0 ?_
        exact gw_zret k_Ver_isSungAt f_Ver_isSungAt_28 rfl (Or.inl rfl) h
      · have h := h.2 c3
        refine gw_iconst k_Ver_isSungAt f_Ver_isSungAt_23 qc_1 ?_
        refine gw_goto (t := 28) k_Ver_isSungAt f_Ver_isSungAt_24 rfl ?_
        exact gw_zret k_Ver_isSungAt f_Ver_isSungAt_28 rfl (Or.inr rfl) h
theorem ev_Ver_isSungAt {zs : List Int32} {b : Nat} (hb : isVer b) {a0 : Int32} {w : Wd} {Q : Option AV → Wd → Prop} (h : Q (some (.inl (f_Ver_isSungAt w b a0))) w) : Ew zs 0 m_Ver_isSungAt [.inr (.inl (some b)), .inl a0] w Q := by
  refine ew_of k_Ver_isSungAt rfl (sg_Ver_isSungAt_0 hb ?_)
  refine ⟨fun c1 => ?_, fun c1 => ?_⟩
  ·
    rw [show f_Ver_isSungAt w b a0 = 0 from by unfold f_Ver_isSungAt; rw [if_pos c1]] at h
    exact h
  ·
    refine ⟨fun c2 => ?_, fun c2 => ?_⟩
    ·
      rw [show f_Ver_isSungAt w b a0 = 0 from by unfold f_Ver_isSungAt; rw [if_neg c1, if_pos c2]] at h
      exact h
    ·
      refine ⟨fun c3 => ?_, fun c3 => ?_⟩
      ·
        rw [show f_Ver_isSungAt w b a0 = 0 from by unfold f_Ver_isSungAt; rw [if_neg c1, if_neg c2, if_pos c3]] at h
        exact h
      ·
        rw [show f_Ver_isSungAt w b a0 = 1 from by unfold f_Ver_isSungAt; rw [if_neg c1, if_neg c2, if_neg c3]] at h
        exact h
theorem fb_Ver_isSungAt {w : Wd} {b : Nat} {a0 : Int32} : f_Ver_isSungAt w b a0 = 0 ∨ f_Ver_isSungAt w b a0 = 1 := by
  unfold f_Ver_isSungAt
  exact (if01 (Or.inl rfl) (if01 (Or.inl rfl) (if01 (Or.inl rfl) (Or.inr rfl))))
def f_Ver_isFirstHalf (w : Wd) (b : Nat) (a0 : Int32) : Int32 := if (w b 2) ≤ a0 then 0 else 1
theorem sg_Ver_isFirstHalf_0 {zs : List Int32} {b : Nat} (hb : isVer b) {a0 : Int32} {w : Wd} {Q : Option AV → Wd → Prop} (h : (((w b 2) ≤ a0 → Q (some (.inl 0)) w) ∧ (¬ ((w b 2) ≤ a0) → Q (some (.inl 1)) w))) : Gw zs 0 m_Ver_isFirstHalf 0 [some (.inr (.inl (some b))), some (.inl a0)] [] w Q := by
  refine gw_iload_n k_Ver_isFirstHalf f_Ver_isFirstHalf_0 rfl ?_
  refine gw_aload_n k_Ver_isFirstHalf f_Ver_isFirstHalf_1 rfl ?_
  refine gw_getI k_Ver_isFirstHalf f_Ver_isFirstHalf_2 l_fldT_9_19 hb.1 rfl ?_
  refine gw_icmp_ge (t := 12) k_Ver_isFirstHalf f_Ver_isFirstHalf_5 rfl (fun c1 => ?_) (fun c1 => ?_)
  · have h := h.1 c1
    refine gw_iconst k_Ver_isFirstHalf f_Ver_isFirstHalf_12 qc_0 ?_
    exact gw_zret k_Ver_isFirstHalf f_Ver_isFirstHalf_13 rfl (Or.inl rfl) h
  · have h := h.2 c1
    refine gw_iconst k_Ver_isFirstHalf f_Ver_isFirstHalf_8 qc_1 ?_
    refine gw_goto (t := 13) k_Ver_isFirstHalf f_Ver_isFirstHalf_9 rfl ?_
    exact gw_zret k_Ver_isFirstHalf f_Ver_isFirstHalf_13 rfl (Or.inr rfl) h
theorem ev_Ver_isFirstHalf {zs : List Int32} {b : Nat} (hb : isVer b) {a0 : Int32} {w : Wd} {Q : Option AV → Wd → Prop} (h : Q (some (.inl (f_Ver_isFirstHalf w b a0))) w) : Ew zs 0 m_Ver_isFirstHalf [.inr (.inl (some b)), .inl a0] w Q := by
  refine ew_of k_Ver_isFirstHalf rfl (sg_Ver_isFirstHalf_0 hb ?_)
  refine ⟨fun c1 => ?_, fun c1 => ?_⟩
  ·
    rw [show f_Ver_isFirstHalf w b a0 = 0 from by unfold f_Ver_isFirstHalf; rw [if_pos c1]] at h
    exact h
  ·
    rw [show f_Ver_isFirstHalf w b a0 = 1 from by unfold f_Ver_isFirstHalf; rw [if_neg c1]] at h
    exact h
theorem fb_Ver_isFirstHalf {w : Wd} {b : Nat} {a0 : Int32} : f_Ver_isFirstHalf w b a0 = 0 ∨ f_Ver_isFirstHalf w b a0 = 1 := by
  unfold f_Ver_isFirstHalf
  exact (if01 (Or.inl rfl) (Or.inr rfl))
def f_Ver_startOfHalf (w : Wd) (b : Nat) (a0 : Int32) : Int32 := if (f_Ver_isFirstHalf w b a0) = 0 then (w b 2) else 0
theorem sg_Ver_startOfHalf_0 {zs : List Int32} {b : Nat} (hb : isVer b) {a0 : Int32} {w : Wd} {Q : Option AV → Wd → Prop} (h : (((f_Ver_isFirstHalf w b a0) = 0 → Q (some (.inl (w b 2))) w) ∧ (¬ ((f_Ver_isFirstHalf w b a0) = 0) → Q (some (.inl 0)) w))) : Gw zs 1 m_Ver_startOfHalf 0 [some (.inr (.inl (some b))), some (.inl a0)] [] w Q := by
  refine gw_aload_n k_Ver_startOfHalf f_Ver_startOfHalf_0 rfl ?_
  refine gw_iload_n k_Ver_startOfHalf f_Ver_startOfHalf_1 rfl ?_
  refine gw_virtual [.inl a0] k_Ver_startOfHalf f_Ver_startOfHalf_2 l_invT_9_22 k_Ver_isFirstHalf hb.1 rfl rfl rfl (by exact Nat.le_of_ble_eq_true rfl) (dc := 0) (by decide) ?_ rfl
  refine ev_Ver_isFirstHalf hb ?_
  show Gw zs 1 m_Ver_startOfHalf 5 [some (.inr (.inl (some b))), some (.inl a0)] [.inl (f_Ver_isFirstHalf w b a0)] w _
  refine gw_if_eq (t := 12) k_Ver_startOfHalf f_Ver_startOfHalf_5 rfl (fun c1 => ?_) (fun c1 => ?_)
  · have h := h.1 c1
    refine gw_aload_n k_Ver_startOfHalf f_Ver_startOfHalf_12 rfl ?_
    refine gw_getI k_Ver_startOfHalf f_Ver_startOfHalf_13 l_fldT_9_19 hb.1 rfl ?_
    exact gw_iret k_Ver_startOfHalf f_Ver_startOfHalf_16 rfl h
  · have h := h.2 c1
    refine gw_iconst k_Ver_startOfHalf f_Ver_startOfHalf_8 qc_0 ?_
    refine gw_goto (t := 16) k_Ver_startOfHalf f_Ver_startOfHalf_9 rfl ?_
    exact gw_iret k_Ver_startOfHalf f_Ver_startOfHalf_16 rfl h
theorem ev_Ver_startOfHalf {zs : List Int32} {b : Nat} (hb : isVer b) {a0 : Int32} {w : Wd} {Q : Option AV → Wd → Prop} (h : Q (some (.inl (f_Ver_startOfHalf w b a0))) w) : Ew zs 1 m_Ver_startOfHalf [.inr (.inl (some b)), .inl a0] w Q := by
  refine ew_of k_Ver_startOfHalf rfl (sg_Ver_startOfHalf_0 hb ?_)
  refine ⟨fun c1 => ?_, fun c1 => ?_⟩
  ·
    rw [show f_Ver_startOfHalf w b a0 = (w b 2) from by unfold f_Ver_startOfHalf; rw [if_pos c1]] at h
    exact h
  ·
    rw [show f_Ver_startOfHalf w b a0 = 0 from by unfold f_Ver_startOfHalf; rw [if_neg c1]] at h
    exact h
def f_Ver_endOfHalf (w : Wd) (b : Nat) (a0 : Int32) : Int32 := if (f_Ver_isFirstHalf w b a0) = 0 then (w b 1) else (w b 2)
theorem sg_Ver_endOfHalf_0 {zs : List Int32} {b : Nat} (hb : isVer b) {a0 : Int32} {w : Wd} {Q : Option AV → Wd → Prop} (h : (((f_Ver_isFirstHalf w b a0) = 0 → Q (some (.inl (w b 1))) w) ∧ (¬ ((f_Ver_isFirstHalf w b a0) = 0) → Q (some (.inl (w b 2))) w))) : Gw zs 1 m_Ver_endOfHalf 0 [some (.inr (.inl (some b))), some (.inl a0)] [] w Q := by
  refine gw_aload_n k_Ver_endOfHalf f_Ver_endOfHalf_0 rfl ?_
  refine gw_iload_n k_Ver_endOfHalf f_Ver_endOfHalf_1 rfl ?_
  refine gw_virtual [.inl a0] k_Ver_endOfHalf f_Ver_endOfHalf_2 l_invT_9_22 k_Ver_isFirstHalf hb.1 rfl rfl rfl (by exact Nat.le_of_ble_eq_true rfl) (dc := 0) (by decide) ?_ rfl
  refine ev_Ver_isFirstHalf hb ?_
  show Gw zs 1 m_Ver_endOfHalf 5 [some (.inr (.inl (some b))), some (.inl a0)] [.inl (f_Ver_isFirstHalf w b a0)] w _
  refine gw_if_eq (t := 15) k_Ver_endOfHalf f_Ver_endOfHalf_5 rfl (fun c1 => ?_) (fun c1 => ?_)
  · have h := h.1 c1
    refine gw_aload_n k_Ver_endOfHalf f_Ver_endOfHalf_15 rfl ?_
    refine gw_getI k_Ver_endOfHalf f_Ver_endOfHalf_16 l_fldT_9_15 hb.1 rfl ?_
    exact gw_iret k_Ver_endOfHalf f_Ver_endOfHalf_19 rfl h
  · have h := h.2 c1
    refine gw_aload_n k_Ver_endOfHalf f_Ver_endOfHalf_8 rfl ?_
    refine gw_getI k_Ver_endOfHalf f_Ver_endOfHalf_9 l_fldT_9_19 hb.1 rfl ?_
    refine gw_goto (t := 19) k_Ver_endOfHalf f_Ver_endOfHalf_12 rfl ?_
    exact gw_iret k_Ver_endOfHalf f_Ver_endOfHalf_19 rfl h
theorem ev_Ver_endOfHalf {zs : List Int32} {b : Nat} (hb : isVer b) {a0 : Int32} {w : Wd} {Q : Option AV → Wd → Prop} (h : Q (some (.inl (f_Ver_endOfHalf w b a0))) w) : Ew zs 1 m_Ver_endOfHalf [.inr (.inl (some b)), .inl a0] w Q := by
  refine ew_of k_Ver_endOfHalf rfl (sg_Ver_endOfHalf_0 hb ?_)
  refine ⟨fun c1 => ?_, fun c1 => ?_⟩
  ·
    rw [show f_Ver_endOfHalf w b a0 = (w b 1) from by unfold f_Ver_endOfHalf; rw [if_pos c1]] at h
    exact h
  ·
    rw [show f_Ver_endOfHalf w b a0 = (w b 2) from by unfold f_Ver_endOfHalf; rw [if_neg c1]] at h
    exact h
def f_Ver_isStressedFrom (w : Wd) (b : Nat) (a0 : Int32) (a1 : Int32) : Int32 := if a1 < a0 then 0 else if a1 < 0 then 0 else if 60 ≤ a1 then 0 else if (w (b + 1) a1.toNatClampNeg) = 0 then 0 else 1
theorem sg_Ver_isStressedFrom_0 {zs : List Int32} {b : Nat} (hb : isVer b) {a0 a1 : Int32} {w : Wd} {Q : Option AV → Wd → Prop} (h : ((a1 < a0 → Q (some (.inl 0)) w) ∧ (¬ (a1 < a0) → ((a1 < 0 → Q (some (.inl 0)) w) ∧ (¬ (a1 < 0) → ((60 ≤ a1 → Q (some (.inl 0)) w) ∧ (¬ (60 ≤ a1) → (((w (b + 1) a1.toNatClampNeg) = 0 → Q (some (.inl 0)) w) ∧ (¬ ((w (b + 1) a1.toNatClampNeg) = 0) → Q (some (.inl 1)) w))))))))) : Gw zs 0 m_Ver_isStressedFrom 0 [some (.inr (.inl (some b))), some (.inl a0), some (.inl a1)] [] w Q := by
  refine gw_iload_n k_Ver_isStressedFrom f_Ver_isStressedFrom_0 rfl ?_
  refine gw_iload_n k_Ver_isStressedFrom f_Ver_isStressedFrom_1 rfl ?_
  refine gw_icmp_lt (t := 31) k_Ver_isStressedFrom f_Ver_isStressedFrom_2 rfl (fun c1 => ?_) (fun c1 => ?_)
  · have h := h.1 c1
    refine gw_iconst k_Ver_isStressedFrom f_Ver_isStressedFrom_31 qc_0 ?_
    exact gw_zret k_Ver_isStressedFrom f_Ver_isStressedFrom_32 rfl (Or.inl rfl) h
  · have h := h.2 c1
    refine gw_iload_n k_Ver_isStressedFrom f_Ver_isStressedFrom_5 rfl ?_
    refine gw_if_lt (t := 31) k_Ver_isStressedFrom f_Ver_isStressedFrom_6 rfl (fun c2 => ?_) (fun c2 => ?_)
    · have h := h.1 c2
      refine gw_iconst k_Ver_isStressedFrom f_Ver_isStressedFrom_31 qc_0 ?_
      exact gw_zret k_Ver_isStressedFrom f_Ver_isStressedFrom_32 rfl (Or.inl rfl) h
    · have h := h.2 c2
      refine gw_iload_n k_Ver_isStressedFrom f_Ver_isStressedFrom_9 rfl ?_
      refine gw_aload_n k_Ver_isStressedFrom f_Ver_isStressedFrom_10 rfl ?_
      refine gw_getR k_Ver_isStressedFrom f_Ver_isStressedFrom_11 l_fldT_9_11 hb.1 rfl ?_
      refine gw_alenZ k_Ver_isStressedFrom f_Ver_isStressedFrom_14 hb.2 qn_60 ?_
      refine gw_icmp_ge (t := 31) k_Ver_isStressedFrom f_Ver_isStressedFrom_15 rfl (fun c3 => ?_) (fun c3 => ?_)
      · have h := h.1 c3
        refine gw_iconst k_Ver_isStressedFrom f_Ver_isStressedFrom_31 qc_0 ?_
        exact gw_zret k_Ver_isStressedFrom f_Ver_isStressedFrom_32 rfl (Or.inl rfl) h
      · have h := h.2 c3
        refine gw_aload_n k_Ver_isStressedFrom f_Ver_isStressedFrom_18 rfl ?_
        refine gw_getR k_Ver_isStressedFrom f_Ver_isStressedFrom_19 l_fldT_9_11 hb.1 rfl ?_
        refine gw_iload_n k_Ver_isStressedFrom f_Ver_isStressedFrom_22 rfl ?_
        refine gw_zald k_Ver_isStressedFrom f_Ver_isStressedFrom_23 hb.2 (vin qn_60 (by decide) c2 c3) ?_
        refine gw_if_eq (t := 31) k_Ver_isStressedFrom f_Ver_isStressedFrom_24 rfl (fun c4 => ?_) (fun c4 => ?_)
        · have h := h.1 c4
          refine gw_iconst k_Ver_isStressedFrom f_Ver_isStressedFrom_31 qc_0 ?_
          exact gw_zret k_Ver_isStressedFrom f_Ver_isStressedFrom_32 rfl (Or.inl rfl) h
        · have h := h.2 c4
          refine gw_iconst k_Ver_isStressedFrom f_Ver_isStressedFrom_27 qc_1 ?_
          refine gw_goto (t := 32) k_Ver_isStressedFrom f_Ver_isStressedFrom_28 rfl ?_
          exact gw_zret k_Ver_isStressedFrom f_Ver_isStressedFrom_32 rfl (Or.inr rfl) h
theorem ev_Ver_isStressedFrom {zs : List Int32} {b : Nat} (hb : isVer b) {a0 a1 : Int32} {w : Wd} {Q : Option AV → Wd → Prop} (h : Q (some (.inl (f_Ver_isStressedFrom w b a0 a1))) w) : Ew zs 0 m_Ver_isStressedFrom [.inr (.inl (some b)), .inl a0, .inl a1] w Q := by
  refine ew_of k_Ver_isStressedFrom rfl (sg_Ver_isStressedFrom_0 hb ?_)
  refine ⟨fun c1 => ?_, fun c1 => ?_⟩
  ·
    rw [show f_Ver_isStressedFrom w b a0 a1 = 0 from by unfold f_Ver_isStressedFrom; rw [if_pos c1]] at h
    exact h
  ·
    refine ⟨fun c2 => ?_, fun c2 => ?_⟩
    ·
      rw [show f_Ver_isStressedFrom w b a0 a1 = 0 from by unfold f_Ver_isStressedFrom; rw [if_neg c1, if_pos c2]] at h
      exact h
    ·
      refine ⟨fun c3 => ?_, fun c3 => ?_⟩
      ·
        rw [show f_Ver_isStressedFrom w b a0 a1 = 0 from by unfold f_Ver_isStressedFrom; rw [if_neg c1, if_neg c2, if_pos c3]] at h
        exact h
      ·
        refine ⟨fun c4 => ?_, fun c4 => ?_⟩
        ·
          rw [show f_Ver_isStressedFrom w b a0 a1 = 0 from by unfold f_Ver_isStressedFrom; rw [if_neg c1, if_neg c2, if_neg c3, if_pos c4]] at h
          exact h
        ·
          rw [show f_Ver_isStressedFrom w b a0 a1 = 1 from by unfold f_Ver_isStressedFrom; rw [if_neg c1, if_neg c2, if_neg c3, if_neg c4]] at h
          exact h
theorem fb_Ver_isStressedFrom {w : Wd} {b : Nat} {a0 : Int32} {a1 : Int32} : f_Ver_isStressedFrom w b a0 a1 = 0 ∨ f_Ver_isStressedFrom w b a0 a1 = 1 := by
  unfold f_Ver_isStressedFrom
  exact (if01 (Or.inl rfl) (if01 (Or.inl rfl) (if01 (Or.inl rfl) (if01 (Or.inl rfl) (Or.inr rfl)))))
def f_Ver_lastAccent (w : Wd) (b : Nat) (a0 : Int32) (a1 : Int32) : Int32 := if (f_Ver_isStressedFrom w b a0 (a1 - 2)) = 0 then (if a0 < (a1 - 3) then (a1 - 3) else a0) else (a1 - 2)
theorem sg_Ver_lastAccent_0 {zs : List Int32} {b : Nat} (hb : isVer b) {a0 a1 : Int32} {w : Wd} {Q : Option AV → Wd → Prop} (h : (((f_Ver_isStressedFrom w b a0 (a1 - 2)) = 0 → Q (some (.inl (if a0 < (a1 - 3) then (a1 - 3) else a0))) w) ∧ (¬ ((f_Ver_isStressedFrom w b a0 (a1 - 2)) = 0) → Q (some (.inl (a1 - 2))) w))) : Gw zs 1 m_Ver_lastAccent 0 [some (.inr (.inl (some b))), some (.inl a0), some (.inl a1)] [] w Q := by
  refine gw_aload_n k_Ver_lastAccent f_Ver_lastAccent_0 rfl ?_
  refine gw_iload_n k_Ver_lastAccent f_Ver_lastAccent_1 rfl ?_
  refine gw_iload_n k_Ver_lastAccent f_Ver_lastAccent_2 rfl ?_
  refine gw_iconst k_Ver_lastAccent f_Ver_lastAccent_3 qc_2 ?_
  refine gw_isub k_Ver_lastAccent f_Ver_lastAccent_4 ?_
  refine gw_virtual [.inl a0, .inl (a1 - 2)] k_Ver_lastAccent f_Ver_lastAccent_5 l_invT_9_26 k_Ver_isStressedFrom hb.1 rfl rfl rfl (by exact Nat.le_of_ble_eq_true rfl) (dc := 0) (by decide) ?_ rfl
  refine ev_Ver_isStressedFrom hb ?_
  show Gw zs 1 m_Ver_lastAccent 8 [some (.inr (.inl (some b))), some (.inl a0), some (.inl a1)] [.inl (f_Ver_isStressedFrom w b a0 (a1 - 2))] w _
  refine gw_if_eq (t := 17) k_Ver_lastAccent f_Ver_lastAccent_8 rfl (fun c1 => ?_) (fun c1 => ?_)
  · have h := h.1 c1
    refine gw_iload_n k_Ver_lastAccent f_Ver_lastAccent_17 rfl ?_
    refine gw_iload_n k_Ver_lastAccent f_Ver_lastAccent_18 rfl ?_
    refine gw_iconst k_Ver_lastAccent f_Ver_lastAccent_19 qc_3 ?_
    refine gw_isub k_Ver_lastAccent f_Ver_lastAccent_20 ?_
    refine gw_max k_Ver_lastAccent f_Ver_lastAccent_21 l_invT_9_30 (by decide) (Nat.le_of_ble_eq_true rfl) ?_
    exact gw_iret k_Ver_lastAccent f_Ver_lastAccent_24 rfl h
  · have h := h.2 c1
    refine gw_iload_n k_Ver_lastAccent f_Ver_lastAccent_11 rfl ?_
    refine gw_iconst k_Ver_lastAccent f_Ver_lastAccent_12 qc_2 ?_
    refine gw_isub k_Ver_lastAccent f_Ver_lastAccent_13 ?_
    refine gw_goto (t := 24) k_Ver_lastAccent f_Ver_lastAccent_14 rfl ?_
    exact gw_iret k_Ver_lastAccent f_Ver_lastAccent_24 rfl h
theorem ev_Ver_lastAccent {zs : List Int32} {b : Nat} (hb : isVer b) {a0 a1 : Int32} {w : Wd} {Q : Option AV → Wd → Prop} (h : Q (some (.inl (f_Ver_lastAccent w b a0 a1))) w) : Ew zs 1 m_Ver_lastAccent [.inr (.inl (some b)), .inl a0, .inl a1] w Q := by
  refine ew_of k_Ver_lastAccent rfl (sg_Ver_lastAccent_0 hb ?_)
  refine ⟨fun c1 => ?_, fun c1 => ?_⟩
  ·
    rw [show f_Ver_lastAccent w b a0 a1 = (if a0 < (a1 - 3) then (a1 - 3) else a0) from by unfold f_Ver_lastAccent; rw [if_pos c1]] at h
    exact h
  ·
    rw [show f_Ver_lastAccent w b a0 a1 = (a1 - 2) from by unfold f_Ver_lastAccent; rw [if_neg c1]] at h
    exact h
def f_Cad_hasTwoAccents (w : Wd) (b : Nat) : Int32 := if (w b 3) = 2 then 1 else 0
theorem sg_Cad_hasTwoAccents_0 {zs : List Int32} {b : Nat} (hb : isCad b) {w : Wd} {Q : Option AV → Wd → Prop} (h : (((w b 3) = 2 → Q (some (.inl 1)) w) ∧ (¬ ((w b 3) = 2) → Q (some (.inl 0)) w))) : Gw zs 0 m_Cad_hasTwoAccents 0 [some (.inr (.inl (some b)))] [] w Q := by
  refine gw_aload_n k_Cad_hasTwoAccents f_Cad_hasTwoAccents_0 rfl ?_
  refine gw_getI k_Cad_hasTwoAccents f_Cad_hasTwoAccents_1 l_fldT_1_18 hb.1 rfl ?_
  refine gw_iconst k_Cad_hasTwoAccents f_Cad_hasTwoAccents_4 qc_2 ?_
  refine gw_icmp_ne (t := 12) k_Cad_hasTwoAccents f_Cad_hasTwoAccents_5 rfl (fun c1 => ?_) (fun c1 => ?_)
  · have h := h.2 c1
    refine gw_iconst k_Cad_hasTwoAccents f_Cad_hasTwoAccents_12 qc_0 ?_
    exact gw_zret k_Cad_hasTwoAccents f_Cad_hasTwoAccents_13 rfl (Or.inl rfl) h
  · have c1 := Decidable.not_not.mp c1
    have h := h.1 c1
    refine gw_iconst k_Cad_hasTwoAccents f_Cad_hasTwoAccents_8 qc_1 ?_
    refine gw_goto (t := 13) k_Cad_hasTwoAccents f_Cad_hasTwoAccents_9 rfl ?_
    exact gw_zret k_Cad_hasTwoAccents f_Cad_hasTwoAccents_13 rfl (Or.inr rfl) h
theorem ev_Cad_hasTwoAccents {zs : List Int32} {b : Nat} (hb : isCad b) {w : Wd} {Q : Option AV → Wd → Prop} (h : Q (some (.inl (f_Cad_hasTwoAccents w b))) w) : Ew zs 0 m_Cad_hasTwoAccents [.inr (.inl (some b))] w Q := by
  refine ew_of k_Cad_hasTwoAccents rfl (sg_Cad_hasTwoAccents_0 hb ?_)
  refine ⟨fun c1 => ?_, fun c1 => ?_⟩
  ·
    rw [show f_Cad_hasTwoAccents w b = 1 from by unfold f_Cad_hasTwoAccents; rw [if_pos c1]] at h
    exact h
  ·
    rw [show f_Cad_hasTwoAccents w b = 0 from by unfold f_Cad_hasTwoAccents; rw [if_neg c1]] at h
    exact h
theorem fb_Cad_hasTwoAccents {w : Wd} {b : Nat} : f_Cad_hasTwoAccents w b = 0 ∨ f_Cad_hasTwoAccents w b = 1 := by
  unfold f_Cad_hasTwoAccents
  exact (if01 (Or.inr rfl) (Or.inl rfl))
def f_Ver_firstAccent (w : Wd) (b : Nat) (a0 : Int32) (a1 : Int32) : Int32 := if (f_Ver_isStressedFrom w b a0 (a1 - 2)) = 0 then if (f_Ver_isStressedFrom w b a0 (a1 - 3)) = 0 then if (a1 - 2) < a0 then (-1) else (a1 - 2) else (a1 - 3) else (a1 - 2)
theorem sg_Ver_firstAccent_0 {zs : List Int32} {b : Nat} (hb : isVer b) {a0 a1 : Int32} {w : Wd} {Q : Option AV → Wd → Prop} (h : (((f_Ver_isStressedFrom w b a0 (a1 - 2)) = 0 → (((f_Ver_isStressedFrom w b a0 (a1 - 3)) = 0 → (((a1 - 2) < a0 → Q (some (.inl (-1))) w) ∧ (¬ ((a1 - 2) < a0) → Q (some (.inl (a1 - 2))) w))) ∧ (¬ ((f_Ver_isStressedFrom w b a0 (a1 - 3)) = 0) → Q (some (.inl (a1 - 3))) w))) ∧ (¬ ((f_Ver_isStressedFrom w b a0 (a1 - 2)) = 0) → Q (some (.inl (a1 - 2))) w))) : Gw zs 1 m_Ver_firstAccent 0 [some (.inr (.inl (some b))), some (.inl a0), some (.inl a1)] [] w Q := by
  refine gw_aload_n k_Ver_firstAccent f_Ver_firstAccent_0 rfl ?_
  refine gw_iload_n k_Ver_firstAccent f_Ver_firstAccent_1 rfl ?_
  refine gw_iload_n k_Ver_firstAccent f_Ver_firstAccent_2 rfl ?_
  refine gw_iconst k_Ver_firstAccent f_Ver_firstAccent_3 qc_2 ?_
  refine gw_isub k_Ver_firstAccent f_Ver_firstAccent_4 ?_
  refine gw_virtual [.inl a0, .inl (a1 - 2)] k_Ver_firstAccent f_Ver_firstAccent_5 l_invT_9_26 k_Ver_isStressedFrom hb.1 rfl rfl rfl (by exact Nat.le_of_ble_eq_true rfl) (dc := 0) (by decide) ?_ rfl
  refine ev_Ver_isStressedFrom hb ?_
  show Gw zs 1 m_Ver_firstAccent 8 [some (.inr (.inl (some b))), some (.inl a0), some (.inl a1)] [.inl (f_Ver_isStressedFrom w b a0 (a1 - 2))] w _
  refine gw_if_eq (t := 15) k_Ver_firstAccent f_Ver_firstAccent_8 rfl (fun c1 => ?_) (fun c1 => ?_)
  · have h := h.1 c1
    refine gw_aload_n k_Ver_firstAccent f_Ver_firstAccent_15 rfl ?_
    refine gw_iload_n k_Ver_firstAccent f_Ver_firstAccent_16 rfl ?_
    refine gw_iload_n k_Ver_firstAccent f_Ver_firstAccent_17 rfl ?_
    refine gw_iconst k_Ver_firstAccent f_Ver_firstAccent_18 qc_3 ?_
    refine gw_isub k_Ver_firstAccent f_Ver_firstAccent_19 ?_
    refine gw_virtual [.inl a0, .inl (a1 - 3)] k_Ver_firstAccent f_Ver_firstAccent_20 l_invT_9_26 k_Ver_isStressedFrom hb.1 rfl rfl rfl (by exact Nat.le_of_ble_eq_true rfl) (dc := 0) (by decide) ?_ rfl
    refine ev_Ver_isStressedFrom hb ?_
    show Gw zs 1 m_Ver_firstAccent 23 [some (.inr (.inl (some b))), some (.inl a0), some (.inl a1)] [.inl (f_Ver_isStressedFrom w b a0 (a1 - 3))] w _
    refine gw_if_eq (t := 30) k_Ver_firstAccent f_Ver_firstAccent_23 rfl (fun c2 => ?_) (fun c2 => ?_)
    · have h := h.1 c2
      refine gw_iload_n k_Ver_firstAccent f_Ver_firstAccent_30 rfl ?_
      refine gw_iconst k_Ver_firstAccent f_Ver_firstAccent_31 qc_2 ?_
      refine gw_isub k_Ver_firstAccent f_Ver_firstAccent_32 ?_
      refine gw_iload_n k_Ver_firstAccent f_Ver_firstAccent_33 rfl ?_
      refine gw_icmp_lt (t := 43) k_Ver_firstAccent f_Ver_firstAccent_34 rfl (fun c3 => ?_) (fun c3 => ?_)
      · have h := h.1 c3
        refine gw_iconst k_Ver_firstAccent f_Ver_firstAccent_43 qc_m1 ?_
        exact gw_iret k_Ver_firstAccent f_Ver_firstAccent_44 rfl h
      · have h := h.2 c3
        refine gw_iload_n k_Ver_firstAccent f_Ver_firstAccent_37 rfl ?_
        refine gw_iconst k_Ver_firstAccent f_Ver_firstAccent_38 qc_2 ?_
        refine gw_isub k_Ver_firstAccent f_Ver_firstAccent_39 ?_
        refine gw_goto (t := 44) k_Ver_firstAccent f_Ver_firstAccent_40 rfl ?_
        exact gw_iret k_Ver_firstAccent f_Ver_firstAccent_44 rfl h
    · have h := h.2 c2
      refine gw_iload_n k_Ver_firstAccent f_Ver_firstAccent_26 rfl ?_
      refine gw_iconst k_Ver_firstAccent f_Ver_firstAccent_27 qc_3 ?_
      refine gw_isub k_Ver_firstAccent f_Ver_firstAccent_28 ?_
      exact gw_iret k_Ver_firstAccent f_Ver_firstAccent_29 rfl h
  · have h := h.2 c1
    refine gw_iload_n k_Ver_firstAccent f_Ver_firstAccent_11 rfl ?_
    refine gw_iconst k_Ver_firstAccent f_Ver_firstAccent_12 qc_2 ?_
    refine gw_isub k_Ver_firstAccent f_Ver_firstAccent_13 ?_
    exact gw_iret k_Ver_firstAccent f_Ver_firstAccent_14 rfl h
theorem ev_Ver_firstAccent {zs : List Int32} {b : Nat} (hb : isVer b) {a0 a1 : Int32} {w : Wd} {Q : Option AV → Wd → Prop} (h : Q (some (.inl (f_Ver_firstAccent w b a0 a1))) w) : Ew zs 1 m_Ver_firstAccent [.inr (.inl (some b)), .inl a0, .inl a1] w Q := by
  refine ew_of k_Ver_firstAccent rfl (sg_Ver_firstAccent_0 hb ?_)
  refine ⟨fun c1 => ?_, fun c1 => ?_⟩
  ·
    refine ⟨fun c2 => ?_, fun c2 => ?_⟩
    ·
      refine ⟨fun c3 => ?_, fun c3 => ?_⟩
      ·
        rw [show f_Ver_firstAccent w b a0 a1 = (-1) from by unfold f_Ver_firstAccent; rw [if_pos c1, if_pos c2, if_pos c3]] at h
        exact h
      ·
        rw [show f_Ver_firstAccent w b a0 a1 = (a1 - 2) from by unfold f_Ver_firstAccent; rw [if_pos c1, if_pos c2, if_neg c3]] at h
        exact h
    ·
      rw [show f_Ver_firstAccent w b a0 a1 = (a1 - 3) from by unfold f_Ver_firstAccent; rw [if_pos c1, if_neg c2]] at h
      exact h
  ·
    rw [show f_Ver_firstAccent w b a0 a1 = (a1 - 2) from by unfold f_Ver_firstAccent; rw [if_neg c1]] at h
    exact h
def f_Cad_noteFrom (w : Wd) (b : Nat) (a0 : Int32) (a1 : Int32) (a2 : Int32) : Int32 := if a1 = 0 then (f_at w (b + 2) 6 (a0 * 3)) else if a1 = 1 then if a2 = 2 then (f_at w (b + 2) 6 ((a0 * 3) + 1)) else (f_at w (b + 2) 6 ((a0 * 3) + 2)) else (f_at w (b + 2) 6 ((a0 * 3) + 2))
theorem sg_Cad_noteFrom_0 {zs : List Int32} {b : Nat} (hb : isCad b) {a0 a1 a2 : Int32} {w : Wd} {Q : Option AV → Wd → Prop} (h : ((a1 = 0 → Q (some (.inl (f_at w (b + 2) 6 (a0 * 3)))) w) ∧ (¬ (a1 = 0) → ((a1 = 1 → ((a2 = 2 → Q (some (.inl (f_at w (b + 2) 6 ((a0 * 3) + 1)))) w) ∧ (¬ (a2 = 2) → Q (some (.inl (f_at w (b + 2) 6 ((a0 * 3) + 2)))) w))) ∧ (¬ (a1 = 1) → Q (some (.inl (f_at w (b + 2) 6 ((a0 * 3) + 2)))) w))))) : Gw zs 1 m_Cad_noteFrom 0 [some (.inr (.inl (some b))), some (.inl a0), some (.inl a1), some (.inl a2), none] [] w Q := by
  refine gw_iload_n k_Cad_noteFrom f_Cad_noteFrom_0 rfl ?_
  refine gw_if_ne (t := 15) k_Cad_noteFrom f_Cad_noteFrom_1 rfl (fun c1 => ?_) (fun c1 => ?_)
  · have h := h.2 c1
    refine gw_iload_n k_Cad_noteFrom f_Cad_noteFrom_15 rfl ?_
    refine gw_iconst k_Cad_noteFrom f_Cad_noteFrom_16 qc_1 ?_
    refine gw_icmp_ne (t := 29) k_Cad_noteFrom f_Cad_noteFrom_17 rfl (fun c2 => ?_) (fun c2 => ?_)
    · have h := h.2 c2
      refine gw_iconst k_Cad_noteFrom f_Cad_noteFrom_29 qc_0 ?_
      refine gw_istore [some (.inr (.inl (some b))), some (.inl a0), some (.inl a1), some (.inl a2), some (.inl 0)] k_Cad_noteFrom f_Cad_noteFrom_30 (Nat.le_of_ble_eq_true rfl) rfl ?_
      refine gw_aload_n k_Cad_noteFrom f_Cad_noteFrom_32 rfl ?_
      refine gw_getR k_Cad_noteFrom f_Cad_noteFrom_33 l_fldT_1_15 hb.1 rfl ?_
      refine gw_iload_n k_Cad_noteFrom f_Cad_noteFrom_36 rfl ?_
      refine gw_iconst k_Cad_noteFrom f_Cad_noteFrom_37 qc_3 ?_
      refine gw_imul k_Cad_noteFrom f_Cad_noteFrom_38 ?_
      refine gw_iload k_Cad_noteFrom f_Cad_noteFrom_39 rfl ?_
      refine gw_if_eq (t := 48) k_Cad_noteFrom f_Cad_noteFrom_41 rfl (fun _ => ?_) (fun c => absurd (by decide) c)
      refine gw_iconst k_Cad_noteFrom f_Cad_noteFrom_48 qc_2 ?_
      refine gw_iadd k_Cad_noteFrom f_Cad_noteFrom_49 ?_
      refine gw_static [.inr (.inl (some (b + 2))), .inl ((a0 * 3) + 2)] k_Cad_noteFrom f_Cad_noteFrom_50 l_invT_1_39 (by decide) k_Bk_at rfl (by exact Nat.le_of_ble_eq_true rfl) (dc := 0) (by decide) ?_ rfl
      refine ev_at hb.2.2 (by decide) ?_
      show Gw zs 1 m_Cad_noteFrom 53 [some (.inr (.inl (some b))), some (.inl a0), some (.inl a1), some (.inl a2), some (.inl 0)] [.inl (f_at w (b + 2) 6 ((a0 * 3) + 2))] w _
      exact gw_iret k_Cad_noteFrom f_Cad_noteFrom_53 rfl h
    · have c2 := Decidable.not_not.mp c2
      have h := h.1 c2
      refine gw_iload_n k_Cad_noteFrom f_Cad_noteFrom_20 rfl ?_
      refine gw_iconst k_Cad_noteFrom f_Cad_noteFrom_21 qc_2 ?_
      refine gw_icmp_ne (t := 29) k_Cad_noteFrom f_Cad_noteFrom_22 rfl (fun c3 => ?_) (fun c3 => ?_)
      · have h := h.2 c3
        refine gw_iconst k_Cad_noteFrom f_Cad_noteFrom_29 qc_0 ?_
        refine gw_istore [some (.inr (.inl (some b))), some (.inl a0), some (.inl a1), some (.inl a2), some (.inl 0)] k_Cad_noteFrom f_Cad_noteFrom_30 (Nat.le_of_ble_eq_true rfl) rfl ?_
        refine gw_aload_n k_Cad_noteFrom f_Cad_noteFrom_32 rfl ?_
        refine gw_getR k_Cad_noteFrom f_Cad_noteFrom_33 l_fldT_1_15 hb.1 rfl ?_
        refine gw_iload_n k_Cad_noteFrom f_Cad_noteFrom_36 rfl ?_
        refine gw_iconst k_Cad_noteFrom f_Cad_noteFrom_37 qc_3 ?_
        refine gw_imul k_Cad_noteFrom f_Cad_noteFrom_38 ?_
        refine gw_iload k_Cad_noteFrom f_Cad_noteFrom_39 rfl ?_
        refine gw_if_eq (t := 48) k_Cad_noteFrom f_Cad_noteFrom_41 rfl (fun _ => ?_) (fun c => absurd (by decide) c)
        refine gw_iconst k_Cad_noteFrom f_Cad_noteFrom_48 qc_2 ?_
        refine gw_iadd k_Cad_noteFrom f_Cad_noteFrom_49 ?_
        refine gw_static [.inr (.inl (some (b + 2))), .inl ((a0 * 3) + 2)] k_Cad_noteFrom f_Cad_noteFrom_50 l_invT_1_39 (by decide) k_Bk_at rfl (by exact Nat.le_of_ble_eq_true rfl) (dc := 0) (by decide) ?_ rfl
        refine ev_at hb.2.2 (by decide) ?_
        show Gw zs 1 m_Cad_noteFrom 53 [some (.inr (.inl (some b))), some (.inl a0), some (.inl a1), some (.inl a2), some (.inl 0)] [.inl (f_at w (b + 2) 6 ((a0 * 3) + 2))] w _
        exact gw_iret k_Cad_noteFrom f_Cad_noteFrom_53 rfl h
      · have c3 := Decidable.not_not.mp c3
        have h := h.1 c3
        refine gw_iconst k_Cad_noteFrom f_Cad_noteFrom_25 qc_1 ?_
        refine gw_goto (t := 30) k_Cad_noteFrom f_Cad_noteFrom_26 rfl ?_
        refine gw_istore [some (.inr (.inl (some b))), some (.inl a0), some (.inl a1), some (.inl a2), some (.inl 1)] k_Cad_noteFrom f_Cad_noteFrom_30 (Nat.le_of_ble_eq_true rfl) rfl ?_
        refine gw_aload_n k_Cad_noteFrom f_Cad_noteFrom_32 rfl ?_
        refine gw_getR k_Cad_noteFrom f_Cad_noteFrom_33 l_fldT_1_15 hb.1 rfl ?_
        refine gw_iload_n k_Cad_noteFrom f_Cad_noteFrom_36 rfl ?_
        refine gw_iconst k_Cad_noteFrom f_Cad_noteFrom_37 qc_3 ?_
        refine gw_imul k_Cad_noteFrom f_Cad_noteFrom_38 ?_
        refine gw_iload k_Cad_noteFrom f_Cad_noteFrom_39 rfl ?_
        refine gw_if_eq (t := 48) k_Cad_noteFrom f_Cad_noteFrom_41 rfl (fun c => absurd c (by decide)) (fun _ => ?_)
        refine gw_iconst k_Cad_noteFrom f_Cad_noteFrom_44 qc_1 ?_
        refine gw_goto (t := 49) k_Cad_noteFrom f_Cad_noteFrom_45 rfl ?_
        refine gw_iadd k_Cad_noteFrom f_Cad_noteFrom_49 ?_
        refine gw_static [.inr (.inl (some (b + 2))), .inl ((a0 * 3) + 1)] k_Cad_noteFrom f_Cad_noteFrom_50 l_invT_1_39 (by decide) k_Bk_at rfl (by exact Nat.le_of_ble_eq_true rfl) (dc := 0) (by decide) ?_ rfl
        refine ev_at hb.2.2 (by decide) ?_
        show Gw zs 1 m_Cad_noteFrom 53 [some (.inr (.inl (some b))), some (.inl a0), some (.inl a1), some (.inl a2), some (.inl 1)] [.inl (f_at w (b + 2) 6 ((a0 * 3) + 1))] w _
        exact gw_iret k_Cad_noteFrom f_Cad_noteFrom_53 rfl h
  · have c1 := Decidable.not_not.mp c1
    have h := h.1 c1
    refine gw_aload_n k_Cad_noteFrom f_Cad_noteFrom_4 rfl ?_
    refine gw_getR k_Cad_noteFrom f_Cad_noteFrom_5 l_fldT_1_15 hb.1 rfl ?_
    refine gw_iload_n k_Cad_noteFrom f_Cad_noteFrom_8 rfl ?_
    refine gw_iconst k_Cad_noteFrom f_Cad_noteFrom_9 qc_3 ?_
    refine gw_imul k_Cad_noteFrom f_Cad_noteFrom_10 ?_
    refine gw_static [.inr (.inl (some (b + 2))), .inl (a0 * 3)] k_Cad_noteFrom f_Cad_noteFrom_11 l_invT_1_39 (by decide) k_Bk_at rfl (by exact Nat.le_of_ble_eq_true rfl) (dc := 0) (by decide) ?_ rfl
    refine ev_at hb.2.2 (by decide) ?_
    show Gw zs 1 m_Cad_noteFrom 14 [some (.inr (.inl (some b))), some (.inl a0), some (.inl a1), some (.inl a2), none] [.inl (f_at w (b + 2) 6 (a0 * 3))] w _
    exact gw_iret k_Cad_noteFrom f_Cad_noteFrom_14 rfl h
theorem ev_Cad_noteFrom {zs : List Int32} {b : Nat} (hb : isCad b) {a0 a1 a2 : Int32} {w : Wd} {Q : Option AV → Wd → Prop} (h : Q (some (.inl (f_Cad_noteFrom w b a0 a1 a2))) w) : Ew zs 1 m_Cad_noteFrom [.inr (.inl (some b)), .inl a0, .inl a1, .inl a2] w Q := by
  refine ew_of k_Cad_noteFrom rfl (sg_Cad_noteFrom_0 hb ?_)
  refine ⟨fun c1 => ?_, fun c1 => ?_⟩
  ·
    rw [show f_Cad_noteFrom w b a0 a1 a2 = (f_at w (b + 2) 6 (a0 * 3)) from by unfold f_Cad_noteFrom; rw [if_pos c1]] at h
    exact h
  ·
    refine ⟨fun c2 => ?_, fun c2 => ?_⟩
    ·
      refine ⟨fun c3 => ?_, fun c3 => ?_⟩
      ·
        rw [show f_Cad_noteFrom w b a0 a1 a2 = (f_at w (b + 2) 6 ((a0 * 3) + 1)) from by unfold f_Cad_noteFrom; rw [if_neg c1, if_pos c2, if_pos c3]] at h
        exact h
      ·
        rw [show f_Cad_noteFrom w b a0 a1 a2 = (f_at w (b + 2) 6 ((a0 * 3) + 2)) from by unfold f_Cad_noteFrom; rw [if_neg c1, if_pos c2, if_neg c3]] at h
        exact h
    ·
      rw [show f_Cad_noteFrom w b a0 a1 a2 = (f_at w (b + 2) 6 ((a0 * 3) + 2)) from by unfold f_Cad_noteFrom; rw [if_neg c1, if_neg c2]] at h
      exact h
def f_Cad_noteAhead (w : Wd) (b : Nat) (a0 : Int32) : Int32 := if (f_Bk_within a0 1 (w b 2)) = 0 then (-1) else (f_at w (b + 1) 3 ((w b 2) - a0))
theorem sg_Cad_noteAhead_0 {zs : List Int32} {b : Nat} (hb : isCad b) {a0 : Int32} {w : Wd} {Q : Option AV → Wd → Prop} (h : (((f_Bk_within a0 1 (w b 2)) = 0 → Q (some (.inl (-1))) w) ∧ (¬ ((f_Bk_within a0 1 (w b 2)) = 0) → Q (some (.inl (f_at w (b + 1) 3 ((w b 2) - a0)))) w))) : Gw zs 1 m_Cad_noteAhead 0 [some (.inr (.inl (some b))), some (.inl a0)] [] w Q := by
  refine gw_iload_n k_Cad_noteAhead f_Cad_noteAhead_0 rfl ?_
  refine gw_iconst k_Cad_noteAhead f_Cad_noteAhead_1 qc_1 ?_
  refine gw_aload_n k_Cad_noteAhead f_Cad_noteAhead_2 rfl ?_
  refine gw_getI k_Cad_noteAhead f_Cad_noteAhead_3 l_fldT_1_22 hb.1 rfl ?_
  refine gw_static [.inl a0, .inl 1, .inl (w b 2)] k_Cad_noteAhead f_Cad_noteAhead_6 l_invT_1_29 (by decide) k_Bk_within rfl (by exact Nat.le_of_ble_eq_true rfl) (dc := 0) (by decide) ?_ rfl
  refine ev_Bk_within ?_
  show Gw zs 1 m_Cad_noteAhead 9 [some (.inr (.inl (some b))), some (.inl a0)] [.inl (f_Bk_within a0 1 (w b 2))] w _
  refine gw_if_eq (t := 28) k_Cad_noteAhead f_Cad_noteAhead_9 rfl (fun c1 => ?_) (fun c1 => ?_)
  · have h := h.1 c1
    refine gw_iconst k_Cad_noteAhead f_Cad_noteAhead_28 qc_m1 ?_
    exact gw_iret k_Cad_noteAhead f_Cad_noteAhead_29 rfl h
  · have h := h.2 c1
    refine gw_aload_n k_Cad_noteAhead f_Cad_noteAhead_12 rfl ?_
    refine gw_getR k_Cad_noteAhead f_Cad_noteAhead_13 l_fldT_1_11 hb.1 rfl ?_
    refine gw_aload_n k_Cad_noteAhead f_Cad_noteAhead_16 rfl ?_
    refine gw_getI k_Cad_noteAhead f_Cad_noteAhead_17 l_fldT_1_22 hb.1 rfl ?_
    refine gw_iload_n k_Cad_noteAhead f_Cad_noteAhead_20 rfl ?_
    refine gw_isub k_Cad_noteAhead f_Cad_noteAhead_21 ?_
    refine gw_static [.inr (.inl (some (b + 1))), .inl ((w b 2) - a0)] k_Cad_noteAhead f_Cad_noteAhead_22 l_invT_1_39 (by decide) k_Bk_at rfl (by exact Nat.le_of_ble_eq_true rfl) (dc := 0) (by decide) ?_ rfl
    refine ev_at hb.2.1 (by decide) ?_
    show Gw zs 1 m_Cad_noteAhead 25 [some (.inr (.inl (some b))), some (.inl a0)] [.inl (f_at w (b + 1) 3 ((w b 2) - a0))] w _
    refine gw_goto (t := 29) k_Cad_noteAhead f_Cad_noteAhead_25 rfl ?_
    exact gw_iret k_Cad_noteAhead f_Cad_noteAhead_29 rfl h
theorem ev_Cad_noteAhead {zs : List Int32} {b : Nat} (hb : isCad b) {a0 : Int32} {w : Wd} {Q : Option AV → Wd → Prop} (h : Q (some (.inl (f_Cad_noteAhead w b a0))) w) : Ew zs 1 m_Cad_noteAhead [.inr (.inl (some b)), .inl a0] w Q := by
  refine ew_of k_Cad_noteAhead rfl (sg_Cad_noteAhead_0 hb ?_)
  refine ⟨fun c1 => ?_, fun c1 => ?_⟩
  ·
    rw [show f_Cad_noteAhead w b a0 = (-1) from by unfold f_Cad_noteAhead; rw [if_pos c1]] at h
    exact h
  ·
    rw [show f_Cad_noteAhead w b a0 = (f_at w (b + 1) 3 ((w b 2) - a0)) from by unfold f_Cad_noteAhead; rw [if_neg c1]] at h
    exact h
