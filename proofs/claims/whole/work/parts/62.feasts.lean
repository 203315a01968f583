/-! The rubrics as they are told: feasts -/
theorem mlen_eq (y : Int32) {m : Nat} (h1 : 1 ≤ m) (h2 : m ≤ 12) : f_Day_lengthOfMonth y (nI m) = f_Md_daysIn y (nI m) := by
  rcases (show m = 1 ∨ m = 2 ∨ m = 3 ∨ m = 4 ∨ m = 5 ∨ m = 6 ∨ m = 7 ∨ m = 8 ∨ m = 9 ∨ m = 10 ∨ m = 11 ∨ m = 12 by omega) with rfl | rfl | rfl | rfl | rfl | rfl | rfl | rfl | rfl | rfl | rfl | rfl <;> rfl
theorem mfirst (y : Int32) {m : Nat} (h1 : 1 ≤ m) (h2 : m ≤ 12) : ∃ F, F ≤ 335 ∧ f_Day_firstOfMonth y (nI m) = nI F := by
  unfold f_Day_firstOfMonth
  by_cases hl : f_Day_isLeap y = 0
  · simp only [if_pos hl, ite_self]
    rcases (show m = 1 ∨ m = 2 ∨ m = 3 ∨ m = 4 ∨ m = 5 ∨ m = 6 ∨ m = 7 ∨ m = 8 ∨ m = 9 ∨ m = 10 ∨ m = 11 ∨ m = 12 by omega) with rfl | rfl | rfl | rfl | rfl | rfl | rfl | rfl | rfl | rfl | rfl | rfl
    · exact ⟨0, by omega, by decide⟩
    · exact ⟨31, by omega, by decide⟩
    · exact ⟨59, by omega, by decide⟩
    · exact ⟨90, by omega, by decide⟩
    · exact ⟨120, by omega, by decide⟩
    · exact ⟨151, by omega, by decide⟩
    · exact ⟨181, by omega, by decide⟩
    · exact ⟨212, by omega, by decide⟩
    · exact ⟨243, by omega, by decide⟩
    · exact ⟨273, by omega, by decide⟩
    · exact ⟨304, by omega, by decide⟩
    · exact ⟨334, by omega, by decide⟩
  · simp only [if_neg hl]
    rcases (show m = 1 ∨ m = 2 ∨ m = 3 ∨ m = 4 ∨ m = 5 ∨ m = 6 ∨ m = 7 ∨ m = 8 ∨ m = 9 ∨ m = 10 ∨ m = 11 ∨ m = 12 by omega) with rfl | rfl | rfl | rfl | rfl | rfl | rfl | rfl | rfl | rfl | rfl | rfl
    · exact ⟨0, by omega, by decide⟩
    · exact ⟨31, by omega, by decide⟩
    · exact ⟨60, by omega, by decide⟩
    · exact ⟨91, by omega, by decide⟩
    · exact ⟨121, by omega, by decide⟩
    · exact ⟨152, by omega, by decide⟩
    · exact ⟨182, by omega, by decide⟩
    · exact ⟨213, by omega, by decide⟩
    · exact ⟨244, by omega, by decide⟩
    · exact ⟨274, by omega, by decide⟩
    · exact ⟨305, by omega, by decide⟩
    · exact ⟨335, by omega, by decide⟩
theorem mlen_31 (y : Int32) {m : Nat} (h1 : 1 ≤ m) (h2 : m ≤ 12) : ∃ l, 28 ≤ l ∧ l ≤ 31 ∧ f_Md_daysIn y (nI m) = nI l := by
  unfold f_Md_daysIn
  by_cases hl : f_Md_isLeap y = 0
  · simp only [if_pos hl]
    rcases (show m = 1 ∨ m = 2 ∨ m = 3 ∨ m = 4 ∨ m = 5 ∨ m = 6 ∨ m = 7 ∨ m = 8 ∨ m = 9 ∨ m = 10 ∨ m = 11 ∨ m = 12 by omega) with rfl | rfl | rfl | rfl | rfl | rfl | rfl | rfl | rfl | rfl | rfl | rfl <;> first | exact ⟨28, by omega, by omega, by decide⟩ | exact ⟨30, by omega, by omega, by decide⟩ | exact ⟨31, by omega, by omega, by decide⟩
  · simp only [if_neg hl]
    rcases (show m = 1 ∨ m = 2 ∨ m = 3 ∨ m = 4 ∨ m = 5 ∨ m = 6 ∨ m = 7 ∨ m = 8 ∨ m = 9 ∨ m = 10 ∨ m = 11 ∨ m = 12 by omega) with rfl | rfl | rfl | rfl | rfl | rfl | rfl | rfl | rfl | rfl | rfl | rfl <;> first | exact ⟨29, by omega, by omega, by decide⟩ | exact ⟨30, by omega, by omega, by decide⟩ | exact ⟨31, by omega, by omega, by decide⟩
theorem dayOf_m1 (y m d : Int32) : f_Day_dayOf y m d = -1 ↔ (f_Md_in m 1 12 = 0 ∨ f_Md_in d 1 (f_Md_daysIn y m) = 0) := by
  unfold f_Day_dayOf
  rw [show f_Bk_within = f_Md_in from rfl]
  rcases in_c (v := m) (lo := 1) (hi := 12) 1 12 rfl rfl (by omega) (by omega) with ⟨e0, _⟩ | ⟨m', m1, m2, rfl, e0⟩
  · rw [if_pos e0]
    exact ⟨fun _ => Or.inl e0, fun _ => rfl⟩
  rw [if_neg (in_n0 e0), mlen_eq y m1 m2]
  obtain ⟨l, l1, l2, el⟩ := mlen_31 y m1 m2
  rw [el]
  rcases in_c (v := d) (lo := 1) (hi := nI l) 1 l rfl rfl (by omega) (by omega) with ⟨e1, _⟩ | ⟨d', d1, d2, rfl, e1⟩
  · rw [if_pos e1]
    exact ⟨fun _ => Or.inr e1, fun _ => rfl⟩
  rw [if_neg (in_n0 e1)]
  obtain ⟨F, hF, eF⟩ := mfirst y m1 m2
  rw [eF, nI_add, show (nI (F + d') - 1 : Int32) = nI (F + d' - 1) from pk_sub (b := 1) (by omega)]
  exact ⟨fun q => absurd q (m1_nI (by omega)), fun q => by
    rcases q with q | q
    · exact absurd q (in_n0 e0)
    · exact absurd q (in_n0 e1)⟩
theorem when_eq (s a : Int32) : f_Fea_isWhen s a = f_Md_isTold s a := by
  unfold f_Fea_isWhen f_Md_isTold f_Day_isEverDate
  rw [show f_Bk_within = f_Md_in from rfl]
  by_cases h : a ≤ 0
  · have z : f_Md_in (a / 100) 1 12 = 0 := in_low (div_low (k := 100) h (by omega) (by omega))
    have z2 := (dayOf_m1 2000 (a / 100) (a - a / 100 * 100)).mpr (Or.inl z)
    simp only [if_pos h, if_pos z, if_pos z2]
  · simp only [if_neg h]
    by_cases s0 : s = 0
    · rw [if_pos s0, if_pos s0]
      by_cases z2 : f_Day_dayOf 2000 (a / 100) (a - a / 100 * 100) = -1
      · rw [if_pos z2]
        rcases (dayOf_m1 2000 (a / 100) (a - a / 100 * 100)).mp z2 with q | q
        · rw [if_pos q]
        · rw [if_pos q, ite_self]
      · rw [if_neg z2]
        have q := fun x => z2 ((dayOf_m1 2000 (a / 100) (a - a / 100 * 100)).mpr x)
        rw [if_neg (fun x => q (Or.inl x)), if_neg (fun x => q (Or.inr x))]
    · rw [if_neg s0, if_neg s0]
theorem told_01 (s a : Int32) : f_Md_isTold s a = 0 ∨ f_Md_isTold s a = 1 := by
  unfold f_Md_isTold
  repeat' split
  all_goals first | exact Or.inl rfl | exact Or.inr rfl | exact in_01 _ _ _
theorem rw_eq (r y : Int32) : (f_Fea_isRankAndWay r y = 0 ∧ (f_Md_in r 1 9 = 0 ∨ f_Md_in y 0 2 = 0)) ∨ (¬ f_Fea_isRankAndWay r y = 0 ∧ f_Md_in r 1 9 = 1 ∧ f_Md_in y 0 2 = 1) := by
  unfold f_Fea_isRankAndWay
  rw [show f_Bk_within = f_Md_in from rfl]
  by_cases h : f_Md_in r 1 9 = 0
  · rw [if_pos h]; exact Or.inl ⟨rfl, Or.inl h⟩
  rw [if_neg h]
  by_cases h2 : f_Md_in y 0 2 = 0
  · rw [if_pos h2]; exact Or.inl ⟨rfl, Or.inr h2⟩
  rw [if_neg h2]
  exact Or.inr ⟨one_ne, in_1 h, in_1 h2⟩
def wF (w : Wd) (n : Nat) (a0 a1 a2 a3 a4 : Int32) : Wd := wr (wr (wr (wr (wr (wr (wr w 9 n a0) 10 n a1) 11 n a2) 12 n a3) 13 n a4) 8 7 (nI (n + 1))) 16 7 (-1)
def wF2 (w : Wd) (n : Nat) (a0 a1 a2 a3 a4 : Int32) : Wd := wr (wr (wr (wr (wr (wr (wr (wr (wr w 162 n a0) 163 n a1) 164 n a2) 165 n a3) 166 n a4) 167 n 0) 168 n 0) 155 1 (nI (n + 1))) 155 15 0
theorem wF_off (w : Wd) (n : Nat) (a0 a1 a2 a3 a4 : Int32) {c k : Nat} (h : ¬ (c = 8 ∧ k = 7)) (h2 : ¬ (c = 16 ∧ k = 7)) (h3 : ¬ (c = 155 ∧ k = 1)) (h4 : ¬ (c = 155 ∧ k = 15)) (h5 : k ≠ n ∨ ¬ ((9 ≤ c ∧ c ≤ 13) ∨ (162 ≤ c ∧ c ≤ 168))) : wF2 (wF w n a0 a1 a2 a3 a4) n a0 a1 a2 a3 a4 c k = w c k := by
  unfold wF wF2 wr
  rw [if_neg h4, if_neg h3, if_neg (by omega), if_neg (by omega), if_neg (by omega), if_neg (by omega), if_neg (by omega), if_neg (by omega), if_neg (by omega), if_neg h2, if_neg h, if_neg (by omega), if_neg (by omega), if_neg (by omega), if_neg (by omega), if_neg (by omega)]
theorem fea_told {w : Wd} {A : Wd → Prop} {n : Nat} {a0 a1 a2 a3 a4 : Int32} (hA : AOK A) (hR : RS w) (hn : n < 60) (h1 : w 8 7 = nI n) (ok : Fok a0 a1 a2 a3 a4 0 0) : (RS (wF2 (wF w n a0 a1 a2 a3 a4) n a0 a1 a2 a3 a4) ∧ A (wF2 (wF w n a0 a1 a2 a3 a4) n a0 a1 a2 a3 a4)) ∧ ∀ c k, ¬ PU c k → wF2 (wF w n a0 a1 a2 a3 a4) n a0 a1 a2 a3 a4 c k = w c k := by
  obtain ⟨hS, n', hn', g1, g2, g3, g4⟩ := hR
  have : n' = n := (nI_eq (by omega) (by omega)).mp (g1.symm.trans h1)
  subst this
  refine ⟨⟨⟨RSs_cg (fun c k hp => ?_) hS, n' + 1, by omega, ?_, ?_, fun j hj => ?_, fun j b1 b2 => ?_⟩, hA _ ?_ ?_⟩, fun c k hp => ?_⟩
  · unfold PSs at hp
    exact wF_off _ _ _ _ _ _ _ (by omega) (by omega) (by omega) (by omega) (by omega)
  · simp [wF, wF2, wr]
  · simp [wF2, wr]
  · by_cases hjn : j = n'
    · subst hjn
      obtain ⟨z1, z2⟩ := g4 j (Nat.le_refl _) hn
      have e : (wF2 (wF w j a0 a1 a2 a3 a4) j a0 a1 a2 a3 a4 14 j = 0 ∧ wF2 (wF w j a0 a1 a2 a3 a4) j a0 a1 a2 a3 a4 15 j = 0) := by
        rw [wF_off _ _ _ _ _ _ _ (by omega) (by omega) (by omega) (by omega) (by omega), wF_off _ _ _ _ _ _ _ (by omega) (by omega) (by omega) (by omega) (by omega)]
        exact ⟨z1, z2⟩
      rw [e.1, e.2]
      simp only [wF2, wF, wr]
      simp
      exact ok
    · have e : ∀ c, c ≠ 8 → c ≠ 16 → c ≠ 155 → wF2 (wF w n' a0 a1 a2 a3 a4) n' a0 a1 a2 a3 a4 c j = w c j := fun c q1 q2 q3 => wF_off _ _ _ _ _ _ _ (by omega) (by omega) (by omega) (by omega) (by omega)
      rw [e 9 (by omega) (by omega) (by omega), e 10 (by omega) (by omega) (by omega), e 11 (by omega) (by omega) (by omega), e 12 (by omega) (by omega) (by omega), e 13 (by omega) (by omega) (by omega), e 14 (by omega) (by omega) (by omega), e 15 (by omega) (by omega) (by omega), e 162 (by omega) (by omega) (by omega), e 163 (by omega) (by omega) (by omega), e 164 (by omega) (by omega) (by omega), e 165 (by omega) (by omega) (by omega), e 166 (by omega) (by omega) (by omega), e 167 (by omega) (by omega) (by omega), e 168 (by omega) (by omega) (by omega)]
      exact g3 j (by omega)
  · rw [wF_off _ _ _ _ _ _ _ (by omega) (by omega) (by omega) (by omega) (by omega), wF_off _ _ _ _ _ _ _ (by omega) (by omega) (by omega) (by omega) (by omega)]
    exact g4 j (by omega) b2
  · simp [wF, wF2, wr]
  · simp [wF2, wr]
  · unfold PU at hp
    exact wF_off _ _ _ _ _ _ _ (by omega) (by omega) (by omega) (by omega) (by omega)
theorem par_feast {zs : List Int32} {A : Wd → Prop} (hA : AOK A) (a0 a1 a2 a3 a4 : Int32) : Par zs 6 m_Bk_feast 3 m_Md_feast [.inl a0, .inl a1, .inl a2, .inl a3, .inl a4] (fun w => RS w ∧ A w) PU := by
  intro w ⟨hR, hd⟩
  refine ev_Bk_feast ⟨_, rfl, ew_of k_Md_feast rfl (sg_Md_feast_0 ?_)⟩
  have hR0 := hR
  obtain ⟨hS, n, hn, g1, g2, g3, g4⟩ := hR
  unfold f_Bk_feast g_Bk_feast g_Bk_forgetIfTold f_Fea_tell g_Fea_tell
  rw [show f_Bk_within = f_Md_in from rfl, forget_f, when_eq, g1]
  by_cases h60 : n = 60
  · subst h60
    have z : (60 : Int32) ≤ nI 60 := by decide
    rw [if_pos z, if_pos z, if_pos rfl, g2]
    exact ⟨fun _ => ⟨rfl, ⟨hR0, hd⟩, off_rf⟩, fun c => absurd rfl c⟩
  have z : ¬ (60 : Int32) ≤ nI n := nI_gle (a := 60) (b := n) (by omega) (by omega)
  have z2 : ¬ nI n = (60 : Int32) := nI_ne (b := 60) (by omega) (by omega) h60
  rw [if_neg z, if_neg z]
  by_cases c1 : f_Md_isTold a0 a1 = 0
  · rw [if_pos c1, if_pos c1, if_pos rfl, g2]
    exact ⟨fun c => absurd c z2, fun _ => ⟨fun _ => ⟨rfl, ⟨hR0, hd⟩, off_rf⟩, fun c => absurd c1 c⟩⟩
  rw [if_neg c1, if_neg c1]
  rcases rw_eq a2 a4 with ⟨e, q⟩ | ⟨e, q1, q2⟩
  · rw [if_pos e, if_pos e, if_pos rfl, g2]
    refine ⟨fun c => absurd c z2, fun _ => ⟨fun c => absurd c c1, fun _ => ⟨fun _ => ⟨rfl, ⟨hR0, hd⟩, off_rf⟩, fun c2 => ⟨fun _ => ⟨rfl, ⟨hR0, hd⟩, off_rf⟩, fun c3 => ⟨fun _ => ⟨rfl, ⟨hR0, hd⟩, off_rf⟩, fun c4 => ?_⟩⟩⟩⟩⟩
    rcases q with q | q
    · exact absurd q c2
    · exact absurd q c4
  rw [if_neg e, if_neg e]
  by_cases c3 : f_Md_in a3 0 7 = 0
  · rw [if_pos c3, if_pos c3, if_pos rfl, g2]
    exact ⟨fun c => absurd c z2, fun _ => ⟨fun c => absurd c c1, fun _ => ⟨fun c => absurd c (in_n0 q1), fun _ => ⟨fun _ => ⟨rfl, ⟨hR0, hd⟩, off_rf⟩, fun c => absurd c3 c⟩⟩⟩⟩
  have e1 : (nI n + 1 - 1 : Int32) = nI n := by rw [nI_1]; exact pk_sub (a := n + 1) (b := 1) (by omega)
  rw [if_neg c3, if_neg c3, e1, if_neg (m1_nI (by omega)), g_put_in (by omega) (by omega), g_put_in (by omega) (by omega), g_put_in (by omega) (by omega), g_put_in (by omega) (by omega), g_put_in (by omega) (by omega), nI_1]
  show (wF w n a0 a1 a2 a3 a4 155 1 = 60 → _) ∧ _
  have r1 : wF w n a0 a1 a2 a3 a4 155 1 = nI n := by
    unfold wF
    rw [wr_nc (by omega), wr_nc (by omega), wr_nc (by omega), wr_nc (by omega), wr_nc (by omega), wr_nc (by omega), wr_nc (by omega)]; exact g2
  change (wF w n a0 a1 a2 a3 a4 155 1 = 60 → _) ∧ (¬ wF w n a0 a1 a2 a3 a4 155 1 = 60 → (_ → _) ∧ (_ → (_ → _) ∧ (_ → (_ → _) ∧ (_ → (_ → _) ∧ (_ → vp_in (wF w n a0 a1 a2 a3 a4 155 1) 60 ∧ vp_in (wF w n a0 a1 a2 a3 a4 155 1) 60 ∧ vp_in (wF w n a0 a1 a2 a3 a4 155 1) 60 ∧ vp_in (wF w n a0 a1 a2 a3 a4 155 1) 60 ∧ vp_in (wF w n a0 a1 a2 a3 a4 155 1) 60 ∧ vp_in (wF w n a0 a1 a2 a3 a4 155 1) 60 ∧ vp_in (wF w n a0 a1 a2 a3 a4 155 1) 60 ∧ _)))))
  have v := vinN (i := n) (n := 60) (by omega) (by omega)
  refine ⟨fun c => absurd (r1.symm.trans c) z2, fun _ => ⟨fun c => absurd c c1, fun _ => ⟨fun c => absurd c (in_n0 q1), fun _ => ⟨fun c => absurd c c3, fun _ => ⟨fun c => absurd c (in_n0 q2), fun _ => ?_⟩⟩⟩⟩⟩
  rw [r1]
  refine ⟨v, v, v, v, v, v, v, ?_⟩
  have g := fea_told (w := w) (n := n) (a0 := a0) (a1 := a1) (a2 := a2) (a3 := a3) (a4 := a4) hA hR0 (by omega) g1 ⟨(told_01 a0 a1).resolve_left c1, q1, in_1 c3, q2, by decide, Or.inl rfl⟩
  have r2 : wr (wr (wr (wr (wr (wr w 9 n a0) 10 n a1) 11 n a2) 12 n a3) 13 n a4) 8 7 (nI (n + 1)) 155 1 = nI n := by
    rw [wr_nc (by omega), wr_nc (by omega), wr_nc (by omega), wr_nc (by omega), wr_nc (by omega), wr_nc (by omega)]; exact g2
  rw [show ((0 : Int32) &&& 1) = 0 by decide]
  have r3 : wr (wr (wr (wr (wr (wr (wr w 9 n a0) 10 n a1) 11 n a2) 12 n a3) 13 n a4) 8 7 (nI (n + 1))) 16 7 (-1) 155 1 = nI n := r1
  unfold g_Alm_forget
  rw [r3, nI_clampN (by omega), e1, nI_1]
  exact ⟨rfl, g⟩
theorem in_cnt (v : Int32) {n : Nat} (hn : n < 100000) : (f_Md_in v 0 (nI n - 1) = 0 ∧ (v < 0 ∨ nI n ≤ v)) ∨ ∃ t, t < n ∧ v = nI t ∧ f_Md_in v 0 (nI n - 1) = 1 := by
  rcases ix_c v (n := n) (m := nI n) rfl (by omega) with h | ⟨t, ht, rfl⟩
  · refine Or.inl ⟨?_, h⟩
    rcases Nat.eq_zero_or_pos n with q | q
    · subst q
      unfold f_Md_in
      rcases h with h | h
      · rw [if_pos h]
      · split
        · rfl
        · have z9 : (nI 0 - 1 : Int32) < v := by
            have : (nI 0 - 1 : Int32).toInt = -1 := by decide
            have : (nI 0 : Int32).toInt = 0 := by decide
            rw [Int32.le_iff_toInt_le] at h
            rw [Int32.lt_iff_toInt_lt]
            omega
          rw [if_pos z9]
    · rw [show (nI n - 1 : Int32) = nI (n - 1) from pk_sub (b := 1) q]
      exact in_out (h := n - 1) rfl (by omega) (by rw [show n - 1 + 1 = n by omega]; exact h)
  · refine Or.inr ⟨t, ht, rfl, ?_⟩
    rw [show (nI n - 1 : Int32) = nI (n - 1) from pk_sub (b := 1) (by omega)]
    exact in_in (l := 0) (h := n - 1) rfl rfl (by omega) (by omega) (by omega)
theorem ftold_in {w : Wd} {n t : Nat} (h : w 8 7 = nI n) (ht : t < n) (hn : n < 1000) : f_Fea_isTold w (nI t) = 1 := by
  unfold f_Fea_isTold
  rw [h, if_inn (m := nI n) (n := n) rfl ht (by omega)]
theorem ftold_out {w : Wd} {n : Nat} {v : Int32} (h : w 8 7 = nI n) (hv : v < 0 ∨ nI n ≤ v) : f_Fea_isTold w v = 0 := by
  unfold f_Fea_isTold
  rw [h, if_out hv]
/-- two feasts' cells and their likes rewritten at one place -/
def wG (w : Wd) (t c1 c2 c3 c4 : Nat) (x y : Int32) : Wd := wr (wr (wr (wr (wr (wr w c1 t x) c2 t y) 16 7 (-1)) c3 t x) c4 t y) 155 15 0
theorem wG_off (w : Wd) (t c1 c2 c3 c4 : Nat) (x y : Int32) {c k : Nat} (h2 : ¬ (c = 16 ∧ k = 7)) (h4 : ¬ (c = 155 ∧ k = 15)) (h5 : k ≠ t ∨ (c ≠ c1 ∧ c ≠ c2 ∧ c ≠ c3 ∧ c ≠ c4)) : wG w t c1 c2 c3 c4 x y c k = w c k := by
  unfold wG wr
  rw [if_neg h4, if_neg (by omega), if_neg (by omega), if_neg h2, if_neg (by omega), if_neg (by omega)]
theorem par_raise {zs : List Int32} {A : Wd → Prop} (hA : AOK A) (a0 a1 a2 : Int32) : Par zs 3 m_Bk_raise 1 m_Md_raise [.inl a0, .inl a1, .inl a2] (fun w => RS w ∧ A w) PU := by
  intro w ⟨hR, hd⟩
  refine ev_Bk_raise ⟨_, rfl, ew_of k_Md_raise rfl (sg_Md_raise_0 ?_)⟩
  have hR0 := hR
  obtain ⟨hS, n, hn, g1, g2, g3, g4⟩ := hR
  unfold f_Bk_raise g_Bk_raise g_Bk_forgetIfTold f_Fea_change g_Fea_change
  rw [forget_f]
  rcases in_cnt a0 (n := n) (by omega) with ⟨e0, h⟩ | ⟨t, ht, rfl, e0⟩
  · have f0 := ftold_out g1 h
    rw [if_pos f0, if_pos f0, if_pos rfl, g2]
    exact ⟨fun _ => ⟨rfl, ⟨hR0, hd⟩, off_rf⟩, fun c => absurd e0 c⟩
  have f0 := ftold_in g1 ht (by omega)
  have f0n : ¬ f_Fea_isTold w (nI t) = 0 := fun c => one_ne (f0.symm.trans c)
  rw [if_neg f0n, if_neg f0n]
  rcases rw_eq a1 a2 with ⟨e, q⟩ | ⟨e, q1, q2⟩
  · rw [if_pos e, if_pos e, if_pos rfl, g2]
    refine ⟨fun c => absurd c (in_n0 e0), fun _ => ⟨fun _ => ⟨rfl, ⟨hR0, hd⟩, off_rf⟩, fun c2 => ⟨fun _ => ⟨rfl, ⟨hR0, hd⟩, off_rf⟩, fun c3 => ?_⟩⟩⟩
    rcases q with q | q
    · exact absurd q c2
    · exact absurd q c3
  rw [if_neg e, if_neg e, if_neg (show ¬ (0 : Int32) = -1 by decide), g_put_in (by omega) (by omega), g_put_in (by omega) (by omega)]
  unfold g_Alm_forget
  have r1 : wr (wr (wr w 11 t a1) 13 t a2) 16 7 (-1) 155 1 = nI n := by rw [wr_nc (by omega), wr_nc (by omega), wr_nc (by omega)]; exact g2
  rw [r1, nI_clampN (by omega)]
  have v := vinN (i := t) (n := 60) (by omega) (by omega)
  refine ⟨fun c => absurd c (in_n0 e0), fun _ => ⟨fun c => absurd c (in_n0 q1), fun _ => ⟨fun c => absurd c (in_n0 q2), fun _ => ⟨v, v, rfl, ?_⟩⟩⟩⟩
  show (RS (wG w t 11 13 164 166 a1 a2) ∧ A (wG w t 11 13 164 166 a1 a2)) ∧ ∀ c k, ¬ PU c k → wG w t 11 13 164 166 a1 a2 c k = w c k
  refine ⟨⟨⟨RSs_cg (fun c k hp => ?_) hS, n, hn, ?_, ?_, fun j hj => ?_, fun j b1 b2 => ?_⟩, hA _ ?_ ?_⟩, fun c k hp => ?_⟩
  · unfold PSs at hp
    exact wG_off _ _ _ _ _ _ _ _ (by omega) (by omega) (by omega)
  · rw [wG_off _ _ _ _ _ _ _ _ (by omega) (by omega) (by omega)]; exact g1
  · rw [wG_off _ _ _ _ _ _ _ _ (by omega) (by omega) (by omega)]; exact g2
  · have E : ∀ c, c ≠ 11 → c ≠ 13 → c ≠ 164 → c ≠ 166 → c ≠ 16 → c ≠ 155 → wG w t 11 13 164 166 a1 a2 c j = w c j := fun c k1 k2 k3 k4 k5 k6 => wG_off _ _ _ _ _ _ _ _ (by omega) (by omega) (by omega)
    rw [E 9 (by omega) (by omega) (by omega) (by omega) (by omega) (by omega), E 10 (by omega) (by omega) (by omega) (by omega) (by omega) (by omega), E 12 (by omega) (by omega) (by omega) (by omega) (by omega) (by omega), E 14 (by omega) (by omega) (by omega) (by omega) (by omega) (by omega), E 15 (by omega) (by omega) (by omega) (by omega) (by omega) (by omega), E 162 (by omega) (by omega) (by omega) (by omega) (by omega) (by omega), E 163 (by omega) (by omega) (by omega) (by omega) (by omega) (by omega), E 165 (by omega) (by omega) (by omega) (by omega) (by omega) (by omega), E 167 (by omega) (by omega) (by omega) (by omega) (by omega) (by omega), E 168 (by omega) (by omega) (by omega) (by omega) (by omega) (by omega)]
    obtain ⟨y1, y2, y3, y4, y5, y6, y7, y8, y9, y10, y11, y12, y13⟩ := g3 j hj
    by_cases hjt : j = t
    · subst hjt
      have w1 : wG w j 11 13 164 166 a1 a2 11 j = a1 := by simp [wG, wr]
      have w2 : wG w j 11 13 164 166 a1 a2 13 j = a2 := by simp [wG, wr]
      have w3 : wG w j 11 13 164 166 a1 a2 164 j = a1 := by simp [wG, wr]
      have w4 : wG w j 11 13 164 166 a1 a2 166 j = a2 := by simp [wG, wr]
      rw [w1, w2, w3, w4]
      exact ⟨y1, y2, rfl, y4, rfl, y6, y7, y8, q1, y10, q2, y12, y13⟩
    · rw [wG_off w t _ _ _ _ _ _ (c := 11) (by omega) (by omega) (by omega), wG_off w t _ _ _ _ _ _ (c := 13) (by omega) (by omega) (by omega), wG_off w t _ _ _ _ _ _ (c := 164) (by omega) (by omega) (by omega), wG_off w t _ _ _ _ _ _ (c := 166) (by omega) (by omega) (by omega)]
      exact ⟨y1, y2, y3, y4, y5, y6, y7, y8, y9, y10, y11, y12, y13⟩
  · rw [wG_off _ _ _ _ _ _ _ _ (by omega) (by omega) (by omega), wG_off _ _ _ _ _ _ _ _ (by omega) (by omega) (by omega)]
    exact g4 j b1 b2
  · simp [wG, wr]
  · simp [wG, wr]
  · unfold PU at hp
    exact wG_off _ _ _ _ _ _ _ _ (by omega) (by omega) (by omega)
theorem par_around {zs : List Int32} {A : Wd → Prop} (hA : AOK A) (a0 a1 a2 : Int32) (ha : a2 = 0 ∨ a2 = 1) : Par zs 2 m_Bk_around 1 m_Md_around [.inl a0, .inl a1, .inl a2] (fun w => RS w ∧ A w) PU := by
  intro w ⟨hR, hd⟩
  refine ew_of k_Bk_around rfl (sg_Bk_around_0 (ew_of k_Fea_surround rfl (sg_Fea_surround_0 ?_)))
  have hR0 := hR
  obtain ⟨hS, n, hn, g1, g2, g3, g4⟩ := hR
  rw [show f_Bk_within = f_Md_in from rfl]
  unfold g_Bk_forgetIfTold
  have bad : f_Md_in a0 0 (nI n - 1) = 0 ∨ f_Md_in a1 0 8 = 0 → ∃ r1 : Int32, (some (.inl (-1)) : Option AV) = some (.inl r1) ∧ ∃ r : Int32, (some (.inl (f_Bk_forgetIfTold r1)) : Option AV) = some (.inl r) ∧ Ew zs 1 m_Md_around [.inr (.inl (some 155)), .inl a0, .inl a1, .inl a2] (if r1 = -1 then w else g_Alm_forget w) (fun v2 w2 => v2 = some (.inl r) ∧ (RS w2 ∧ A w2) ∧ ∀ c k, ¬ PU c k → w2 c k = w c k) := by
    intro q
    refine ⟨_, rfl, _, rfl, ?_⟩
    rw [forget_f, if_pos rfl]
    refine ew_of k_Md_around rfl (sg_Md_around_0 ?_)
    rw [g2]
    refine ⟨fun _ => ⟨rfl, ⟨hR0, hd⟩, off_rf⟩, fun c1 => ⟨fun _ => ⟨rfl, ⟨hR0, hd⟩, off_rf⟩, fun c2 => ?_⟩⟩
    rcases q with q | q
    · exact absurd q c1
    · exact absurd q c2
  rcases in_cnt a0 (n := n) (by omega) with ⟨e0, h⟩ | ⟨t, ht, rfl, e0⟩
  · have f0 := ftold_out g1 h
    exact ⟨fun _ => bad (Or.inl e0), fun c => absurd f0 c⟩
  have f0 := ftold_in g1 ht (by omega)
  have f0n : ¬ f_Fea_isTold w (nI t) = 0 := fun c => one_ne (f0.symm.trans c)
  refine ⟨fun c => absurd c f0n, fun _ => ⟨fun c => absurd c (nI_gle (a := 60) (b := t) (by omega) (by omega)), fun _ => ⟨fun c => bad (Or.inr c), fun c1 => ⟨vinN (by omega) (by omega), ?_⟩⟩⟩⟩
  rw [nI_clampN (by omega), g_put_in (by omega) (by omega), and1 ha]
  refine ⟨_, rfl, _, rfl, ?_⟩
  rw [forget_f, if_neg (show ¬ (0 : Int32) = -1 by decide)]
  unfold g_Alm_forget
  refine ew_of k_Md_around rfl (sg_Md_around_0 ?_)
  have r1 : wr (wr (wr w 14 t a1) 15 t a2) 16 7 (-1) 155 1 = nI n := by rw [wr_nc (by omega), wr_nc (by omega), wr_nc (by omega)]; exact g2
  rw [r1, nI_clampN (by omega), and1 ha]
  have v := vinN (i := t) (n := 60) (by omega) (by omega)
  refine ⟨fun c => absurd c (in_n0 e0), fun _ => ⟨fun c => absurd c c1, fun _ => ⟨v, v, rfl, ?_⟩⟩⟩
  show (RS (wG w t 14 15 167 168 a1 a2) ∧ A (wG w t 14 15 167 168 a1 a2)) ∧ ∀ c k, ¬ PU c k → wG w t 14 15 167 168 a1 a2 c k = w c k
  refine ⟨⟨⟨RSs_cg (fun c k hp => ?_) hS, n, hn, ?_, ?_, fun j hj => ?_, fun j b1 b2 => ?_⟩, hA _ ?_ ?_⟩, fun c k hp => ?_⟩
  · unfold PSs at hp
    exact wG_off _ _ _ _ _ _ _ _ (by omega) (by omega) (by omega)
  · rw [wG_off _ _ _ _ _ _ _ _ (by omega) (by omega) (by omega)]; exact g1
  · rw [wG_off _ _ _ _ _ _ _ _ (by omega) (by omega) (by omega)]; exact g2
  · have E : ∀ c, c ≠ 14 → c ≠ 15 → c ≠ 167 → c ≠ 168 → c ≠ 16 → c ≠ 155 → wG w t 14 15 167 168 a1 a2 c j = w c j := fun c k1 k2 k3 k4 k5 k6 => wG_off _ _ _ _ _ _ _ _ (by omega) (by omega) (by omega)
    rw [E 9 (by omega) (by omega) (by omega) (by omega) (by omega) (by omega), E 10 (by omega) (by omega) (by omega) (by omega) (by omega) (by omega), E 11 (by omega) (by omega) (by omega) (by omega) (by omega) (by omega), E 12 (by omega) (by omega) (by omega) (by omega) (by omega) (by omega), E 13 (by omega) (by omega) (by omega) (by omega) (by omega) (by omega), E 162 (by omega) (by omega) (by omega) (by omega) (by omega) (by omega), E 163 (by omega) (by omega) (by omega) (by omega) (by omega) (by omega), E 164 (by omega) (by omega) (by omega) (by omega) (by omega) (by omega), E 165 (by omega) (by omega) (by omega) (by omega) (by omega) (by omega), E 166 (by omega) (by omega) (by omega) (by omega) (by omega) (by omega)]
    obtain ⟨y1, y2, y3, y4, y5, y6, y7, y8, y9, y10, y11, y12, y13⟩ := g3 j hj
    by_cases hjt : j = t
    · subst hjt
      have w1 : wG w j 14 15 167 168 a1 a2 14 j = a1 := by simp [wG, wr]
      have w2 : wG w j 14 15 167 168 a1 a2 15 j = a2 := by simp [wG, wr]
      have w3 : wG w j 14 15 167 168 a1 a2 167 j = a1 := by simp [wG, wr]
      have w4 : wG w j 14 15 167 168 a1 a2 168 j = a2 := by simp [wG, wr]
      rw [w1, w2, w3, w4]
      exact ⟨y1, y2, y3, y4, y5, rfl, rfl, y8, y9, y10, y11, in_1 c1, ha⟩
    · rw [wG_off w t _ _ _ _ _ _ (c := 14) (by omega) (by omega) (by omega), wG_off w t _ _ _ _ _ _ (c := 15) (by omega) (by omega) (by omega), wG_off w t _ _ _ _ _ _ (c := 167) (by omega) (by omega) (by omega), wG_off w t _ _ _ _ _ _ (c := 168) (by omega) (by omega) (by omega)]
      exact ⟨y1, y2, y3, y4, y5, y6, y7, y8, y9, y10, y11, y12, y13⟩
  · rw [wG_off w t 14 15 167 168 a1 a2 (c := 14) (by omega) (by omega) (by omega), wG_off w t 14 15 167 168 a1 a2 (c := 15) (by omega) (by omega) (by omega)]
    exact g4 j b1 b2
  · simp [wG, wr]
  · simp [wG, wr]
  · unfold PU at hp
    exact wG_off _ _ _ _ _ _ _ _ (by omega) (by omega) (by omega)
