/-! The year: the days of a season, the day of a feast -/
theorem in_toInt (v a b : Int32) : f_Md_in v a b = if a.toInt ≤ v.toInt ∧ v.toInt ≤ b.toInt then 1 else 0 := by
  unfold f_Md_in
  by_cases c1 : v < a
  · rw [if_pos c1, if_neg (fun z => by rw [Int32.lt_iff_toInt_lt] at c1; omega)]
  · by_cases c2 : b < v
    · rw [if_neg c1, if_pos c2, if_neg (fun z => by rw [Int32.lt_iff_toInt_lt] at c2; omega)]
    · rw [if_neg c1, if_neg c2, if_pos (by rw [Int32.lt_iff_toInt_lt] at c1 c2; omega)]
theorem in_range {v a b : Int32} (h : f_Md_in v a b = 1) : a.toInt ≤ v.toInt ∧ v.toInt ≤ b.toInt := by
  rw [in_toInt] at h
  by_cases c : a.toInt ≤ v.toInt ∧ v.toInt ≤ b.toInt
  · exact c
  · rw [if_neg c] at h; exact absurd h.symm one_ne
theorem toInt_add_small {a b : Int32} (h1 : -1000000 ≤ a.toInt) (h2 : a.toInt ≤ 1000000) (h3 : -1000000 ≤ b.toInt) (h4 : b.toInt ≤ 1000000) : (a + b).toInt = a.toInt + b.toInt := by
  rw [Int32.toInt_add, Int.bmod_eq_of_le] <;> omega
theorem toInt_sub_small {a b : Int32} (h1 : -1000000 ≤ a.toInt) (h2 : a.toInt ≤ 1000000) (h3 : -1000000 ≤ b.toInt) (h4 : b.toInt ≤ 1000000) : (a - b).toInt = a.toInt - b.toInt := by
  rw [Int32.toInt_sub, Int.bmod_eq_of_le] <;> omega
theorem in_shift {d e a b : Int32} (hd : 0 ≤ d.toInt ∧ d.toInt ≤ 1000) (he : 0 ≤ e.toInt ∧ e.toInt ≤ 1000) (ha : f_Md_in a (-120) 250 = 1) (hb : f_Md_in b (-120) 250 = 1) : f_Md_in (d - e) a b = f_Md_in d (e + a) (e + b) := by
  have k1 : (-120 : Int32).toInt = -120 := by decide
  have k2 : (250 : Int32).toInt = 250 := by decide
  have ra := in_range ha
  have rb := in_range hb
  rw [k1, k2] at ra rb
  rw [in_toInt, in_toInt, toInt_sub_small (by omega) (by omega) (by omega) (by omega), toInt_add_small (by omega) (by omega) (by omega) (by omega), toInt_add_small (by omega) (by omega) (by omega) (by omega)]
  by_cases c : a.toInt ≤ d.toInt - e.toInt ∧ d.toInt - e.toInt ≤ b.toInt
  · rw [if_pos c, if_pos (by omega)]
  · rw [if_neg c, if_neg (by omega)]
/-- a date of the rubrics: its month and its day -/
theorem date_c {a : Int32} (h : f_Md_isDate a = 1) : ∃ m d, 1 ≤ m ∧ m ≤ 12 ∧ 1 ≤ d ∧ d ≤ 31 ∧ a / 100 = nI m ∧ a - a / 100 * 100 = nI d := by
  unfold f_Md_isDate at h
  by_cases h0 : a ≤ 0
  · rw [if_pos h0] at h; exact absurd h.symm one_ne
  rw [if_neg h0] at h
  rcases in_c (v := a / 100) (lo := 1) (hi := 12) 1 12 rfl rfl (by omega) (by omega) with ⟨e, _⟩ | ⟨m, m1, m2, em, e⟩
  · rw [if_pos e] at h; exact absurd h.symm one_ne
  rw [if_neg (in_n0 e)] at h
  rcases in_c (v := a - a / 100 * 100) (lo := 1) (hi := 31) 1 31 rfl rfl (by omega) (by omega) with ⟨e2, _⟩ | ⟨d, d1, d2, ed, e2⟩
  · rw [if_pos e2] at h; exact absurd h.symm one_ne
  exact ⟨m, d, m1, m2, d1, d2, em, ed⟩
/-- the plain program's day of a date that may lie past its month, and the class' -/
theorem rough_val (y : Int32) {a : Int32} (h : f_Md_isDate a = 1) : f_Day_roughDay y a = f_Day_firstOfMonth y (a / 100) + (if f_Md_daysIn y (a / 100) ≤ a - a / 100 * 100 then f_Md_daysIn y (a / 100) else a - a / 100 * 100) - 1 := by
  obtain ⟨m, d, m1, m2, d1, d2, em, ed⟩ := date_c h
  unfold f_Day_roughDay
  rw [ed, em, mlen_eq y m1 m2]
  obtain ⟨l, l1, l2, el⟩ := mlen_31 y m1 m2
  rw [el]
  congr 2
  rcases Nat.lt_trichotomy l d with q | q | q
  · rw [if_pos (nI_lt q (by omega)), if_pos (nI_le (by omega) (by omega))]
  · subst q
    rw [if_neg (nI_nlt (Nat.le_refl _) (by omega)), if_pos (nI_le (Nat.le_refl _) (by omega))]
  · rw [if_neg (nI_nlt (by omega) (by omega)), if_neg (nI_gle q (by omega))]
theorem dayOf_min {zs : List Int32} {y a : Int32} {w : Wd} {Q : Option AV → Wd → Prop} (h : f_Md_isDate a = 1) (hq : Q (some (.inl (f_Day_roughDay y a))) w) :
    (f_Md_daysIn y (a / 100) ≤ a - a / 100 * 100 → Ew zs 2 m_Md_dayOf [.inl y, .inl (a / 100), .inl (f_Md_daysIn y (a / 100))] w Q) ∧ (¬ f_Md_daysIn y (a / 100) ≤ a - a / 100 * 100 → Ew zs 2 m_Md_dayOf [.inl y, .inl (a / 100), .inl (a - a / 100 * 100)] w Q) := by
  rw [rough_val y h] at hq
  obtain ⟨m, d, m1, m2, d1, d2, em, ed⟩ := date_c h
  refine ⟨fun c => ?_, fun c => ?_⟩
  · rw [if_pos c] at hq
    rw [em] at hq ⊢
    exact ew_mdayOf m1 m2 hq
  · rw [if_neg c] at hq
    rw [em] at hq ⊢
    rw [em] at ed
    rw [ed] at hq ⊢
    exact ew_mdayOf m1 m2 hq
theorem byDates_nI {w : Wd} {k : Nat} (hk : k < 10) : f_Sea_isByDates w (nI k) = if w 2 k = 0 then 0 else 1 := by
  unfold f_Sea_isByDates
  rw [if_inn (m := 10) (n := 10) rfl hk (by omega), nI_clampN (by omega)]
theorem ew_isIn {zs : List Int32} {w : Wd} {k i d n : Nat} {Q : Option AV → Wd → Prop} (hn : n ≤ 10) (hk : k < n) (hi : i < 300) (hd : d < 366)
    (hs : w 2 k = w 156 k ∧ w 3 k = w 157 k ∧ w 4 k = w 158 k ∧ w 5 k = w 159 k ∧ w 6 k = w 160 k ∧ w 7 k = w 161 k ∧ Sok (w 156 k) (w 157 k) (w 158 k) (w 159 k) (w 160 k) (w 161 k))
    (h : Q (some (.inl (f_Md_in (nI d) (f_Sea_firstDay w (nI k) (nI (1900 + i))) (f_Sea_lastDay w (nI k) (nI (1900 + i)))))) w) : Ew zs 3 m_Md_isIn [.inr (.inl (some 155)), .inl (nI k), .inl (nI (1900 + i)), .inl (nI d), .inl (f_Day_easter (nI (1900 + i)))] w Q := by
  obtain ⟨s2, s3, s4, -, -, -, ok⟩ := hs
  obtain ⟨kind, -⟩ := ok
  obtain ⟨-, -, E, E1, E2, eE⟩ := y_facts hi
  have v := vinN (i := k) (n := 10) (by omega) (by omega)
  unfold f_Sea_firstDay f_Sea_lastDay at h
  rw [byDates_nI (by omega), s2, f_at_in (by omega) (by omega), f_at_in (by omega) (by omega), s3, s4] at h
  refine ew_of k_Md_isIn rfl (sg_Md_isIn_0 ?_)
  rw [nI_clampN (by omega)]
  refine ⟨v, fun c0 => ⟨v, v, ?_⟩, fun c0 => ⟨v, v, ?_⟩⟩
  · rcases kind with ⟨_, r1, r2⟩ | ⟨z, _⟩
    · rw [if_pos c0, if_pos rfl, if_pos rfl, eE] at h
      rw [eE, in_shift (by rw [nI_toInt (by omega)]; omega) (by rw [nI_toInt (by omega)]; omega) r1 r2]
      exact h
    · exact absurd (z.symm.trans c0) one_ne
  · rcases kind with ⟨z, _⟩ | ⟨_, r1, r2⟩
    · exact absurd z c0
    · rw [if_neg c0, if_neg one_ne, if_neg one_ne] at h
      have k2 : ∀ w', ∀ A : Int32, Q (some (.inl (f_Md_in (nI d) A (f_Day_roughDay (nI (1900 + i)) (w 158 k))))) w' → (f_Md_daysIn (nI (1900 + i)) (w 158 k / 100) ≤ w 158 k - w 158 k / 100 * 100 → Ew zs 2 m_Md_dayOf [.inl (nI (1900 + i)), .inl (w 158 k / 100), .inl (f_Md_daysIn (nI (1900 + i)) (w 158 k / 100))] w' (fun v w7 => ∃ r6 : Int32, v = some (.inl r6) ∧ Q (some (.inl (f_Md_in (nI d) A r6))) w7)) ∧ (¬ f_Md_daysIn (nI (1900 + i)) (w 158 k / 100) ≤ w 158 k - w 158 k / 100 * 100 → Ew zs 2 m_Md_dayOf [.inl (nI (1900 + i)), .inl (w 158 k / 100), .inl (w 158 k - w 158 k / 100 * 100)] w' (fun v w7 => ∃ r6 : Int32, v = some (.inl r6) ∧ Q (some (.inl (f_Md_in (nI d) A r6))) w7)) := fun w' A hq => dayOf_min (w := w') (Q := fun v w7 => ∃ r6 : Int32, v = some (.inl r6) ∧ Q (some (.inl (f_Md_in (nI d) A r6))) w7) r2 ⟨_, rfl, hq⟩
      exact dayOf_min (w := w) r1 ⟨_, rfl, k2 w _ h⟩
