/-! The choir: monks and absences -/
def RC (w : Wd) : Prop := ∃ n m, n ≤ 24 ∧ m ≤ 60 ∧ w 144 5 = nI n ∧ w 155 52 = nI n ∧ w 144 6 = nI m ∧ w 155 53 = nI m ∧ (∀ j, j < n → w 145 j = w 197 j ∧ ∃ a, a ≤ 7 ∧ w 197 j = nI a) ∧ (∀ j, j < m → w 146 j = w 198 j ∧ (∃ t, t < n ∧ w 198 j = nI t) ∧ w 147 j = w 199 j ∧ w 148 j = w 200 j ∧ w 149 j = w 201 j) ∧ ∀ k, 3 * n ≤ k → k < 72 → w 204 k = 0
def PC (c k : Nat) : Prop := (144 ≤ c ∧ c ≤ 149) ∨ (197 ≤ c ∧ c ≤ 201) ∨ (c = 155 ∧ (k = 52 ∨ k = 53))
theorem RC_cg {w w' : Wd} (e : ∀ c k, PC c k → w' c k = w c k) (e2 : ∀ k, w' 204 k = w 204 k) (h : RC w) : RC w' := by
  obtain ⟨n, m, a1, a2, a3, a4, a5, a6, a7, a8, a9⟩ := h
  refine ⟨n, m, a1, a2, ?_, ?_, ?_, ?_, fun j hj => ?_, fun j hj => ?_, fun k h1 h2 => ?_⟩
  · rw [e _ _ (by unfold PC; omega)]; exact a3
  · rw [e _ _ (by unfold PC; omega)]; exact a4
  · rw [e _ _ (by unfold PC; omega)]; exact a5
  · rw [e _ _ (by unfold PC; omega)]; exact a6
  · rw [e _ _ (by unfold PC; omega), e _ _ (by unfold PC; omega)]; exact a7 j hj
  · rw [e _ _ (by unfold PC; omega), e 198 _ (by unfold PC; omega), e 147 _ (by unfold PC; omega), e 199 _ (by unfold PC; omega), e 148 _ (by unfold PC; omega), e 200 _ (by unfold PC; omega), e 149 _ (by unfold PC; omega), e 201 _ (by unfold PC; omega)]; exact a8 j hj
  · rw [e2]; exact a9 k h1 h2
theorem wr_same {w : Wd} {c k : Nat} {x : Int32} (h : w c k = x) : wr w c k x = w := by
  funext c' k'
  by_cases h1 : c' = c
  · subst h1
    by_cases h2 : k' = k
    · subst h2; rw [wr_eq, h]
    · rw [wr_nk h2]
  · rw [wr_nc h1]
theorem mk_same (w w' : Wd) (h : w = w') {zs : List Int32} {d j pc : Nat} {L : AL} {S : List AV} {Q : Option AV → Wd → Prop} (g : Gw zs d j pc L S w Q) : Gw zs d j pc L S w' Q := h ▸ g
theorem par_monk {zs : List Int32} (a0 : Int32) : Par zs 2 m_Bk_monk 1 m_Md_monk [.inl a0] RC PC := by
  intro w hR
  refine ev_Bk_monk ⟨_, rfl, ew_of k_Md_monk rfl (sg_Md_monk_0 ?_)⟩
  have hR0 := hR
  obtain ⟨n, m, a1, a2, a3, a4, a5, a6, a7, a8, a9⟩ := hR
  unfold f_Bk_monk g_Bk_monk f_Cho_join g_Cho_join
  rw [show f_Bk_within = f_Md_in from rfl, a3]
  by_cases hn : n = 24
  · subst hn
    have z : (24 : Int32) ≤ nI 24 := by decide
    rw [if_pos z, if_pos z, a4]
    exact ⟨fun _ => ⟨rfl, hR0, off_rf⟩, fun c => absurd rfl c⟩
  have z : ¬ (24 : Int32) ≤ nI n := nI_gle (a := 24) (b := n) (by omega) (by omega)
  have z2 : ¬ nI n = (24 : Int32) := nI_ne (b := 24) (by omega) (by omega) hn
  rw [if_neg z, if_neg z]
  rcases in_c (v := a0) (lo := 0) (hi := 7) 0 7 rfl rfl (by omega) (by omega) with ⟨e0, _⟩ | ⟨x, x1, x2, rfl, e0⟩
  · rw [if_pos e0, if_pos e0, a4]
    exact ⟨fun c => absurd c z2, fun _ => ⟨fun _ => ⟨rfl, hR0, off_rf⟩, fun c => absurd e0 c⟩⟩
  have e0n : ¬ f_Md_in (nI x) 0 7 = 0 := fun c => one_ne (e0.symm.trans c)
  rw [if_neg e0n, if_neg e0n, nI_1, g_put_in (by omega) (by omega)]
  have r0 : wr (wr w 145 n (nI x)) 144 5 (nI (n + 1)) 155 52 = nI n := by rw [wr_nc (by omega), wr_nc (by omega)]; exact a4
  rw [r0, nI_clampN (by omega)]
  refine ⟨fun c => absurd c z2, fun _ => ⟨fun c => absurd c e0n, fun _ => ⟨vinN (by omega) (by omega), ?_⟩⟩⟩
  have g := up_loop (fun i => Gw zs 1 m_Md_monk 33 [some (.inr (.inl (some 155))), some (.inl (nI x)), some (.inl (nI i))] [] (wr (wr (wr w 145 n (nI x)) 144 5 (nI (n + 1))) 197 n (nI x)) (fun v2 w2 => v2 = some (.inl (nI (n + 1) - 1)) ∧ RC w2 ∧ ∀ c k, ¬ PC c k → w2 c k = w c k)) 0 3 (by omega) ?_ ?_
  · exact g
  · refine sg_Md_monk_33 ⟨fun _ => ?_, fun c => absurd (nI_le (a := 3) (b := 3) (by omega) (by omega)) c⟩
    rw [wr_nc (by omega), r0, nI_1]
    refine ⟨rfl, ⟨n + 1, m, by omega, a2, ?_, ?_, ?_, ?_, fun j hj => ?_, fun j hj => ?_, fun k h1 h2 => ?_⟩, off_wr (off_wr (off_wr (off_wr off_rf (by unfold PC; omega)) (by unfold PC; omega)) (by unfold PC; omega)) (by unfold PC; omega)⟩
    · rw [wr_nc (by omega), wr_nc (by omega), wr_eq]
    · rw [wr_eq]
    · rw [wr_nc (by omega), wr_nc (by omega), wr_nk (by omega), wr_nc (by omega)]; exact a5
    · rw [wr_nk (by omega), wr_nc (by omega), wr_nc (by omega), wr_nc (by omega)]; exact a6
    · by_cases hjn : j = n
      · subst hjn
        rw [wr_nc (by omega), wr_nc (by omega), wr_nc (by omega), wr_eq, wr_nc (by omega), wr_eq]
        exact ⟨rfl, x, x2, rfl⟩
      · rw [wr_nc (by omega), wr_nc (by omega), wr_nc (by omega), wr_nk hjn, wr_nc (by omega), wr_nk hjn, wr_nc (by omega), wr_nc (by omega)]
        exact a7 j (by omega)
    · obtain ⟨y1, ⟨t, ht, y2⟩, y3, y4, y5⟩ := a8 j hj
      have nc : ∀ c, c ≠ 155 → c ≠ 197 → c ≠ 144 → c ≠ 145 → wr (wr (wr (wr w 145 n (nI x)) 144 5 (nI (n + 1))) 197 n (nI x)) 155 52 (nI (n + 1)) c j = w c j := by
        intro c q1 q2 q3 q4
        rw [wr_nc q1, wr_nc q2, wr_nc q3, wr_nc q4]
      rw [nc _ (by omega) (by omega) (by omega) (by omega), nc 198 (by omega) (by omega) (by omega) (by omega), nc 147 (by omega) (by omega) (by omega) (by omega), nc 199 (by omega) (by omega) (by omega) (by omega), nc 148 (by omega) (by omega) (by omega) (by omega), nc 200 (by omega) (by omega) (by omega) (by omega), nc 149 (by omega) (by omega) (by omega) (by omega), nc 201 (by omega) (by omega) (by omega) (by omega)]
      exact ⟨y1, ⟨t, by omega, y2⟩, y3, y4, y5⟩
    · rw [wr_nc (by omega), wr_nc (by omega), wr_nc (by omega), wr_nc (by omega)]
      exact a9 k (by omega) h2
  · intro i _ hi ih
    refine sg_Md_monk_33 ⟨fun c => absurd c (nI_gle (a := 3) (b := i) (by omega) (by omega)), fun _ => ?_⟩
    have r1 : wr (wr (wr w 145 n (nI x)) 144 5 (nI (n + 1))) 197 n (nI x) 155 52 = nI n := by rw [wr_nc (by omega)]; exact r0
    have e3 : (3 * nI n + nI i : Int32) = nI (3 * n + i) := by rw [show (3 : Int32) = nI 3 from rfl, pk_mul, nI_add]
    rw [r1, e3, nI_clampN (by omega), nI_1]
    have rs : wr (wr (wr (wr w 145 n (nI x)) 144 5 (nI (n + 1))) 197 n (nI x)) 204 (3 * n + i) 0 = wr (wr (wr w 145 n (nI x)) 144 5 (nI (n + 1))) 197 n (nI x) := wr_same (by rw [wr_nc (by omega), wr_nc (by omega), wr_nc (by omega)]; exact a9 _ (by omega) (by omega))
    rw [rs]
    exact ⟨vinN (by omega) (by omega), ih⟩
theorem len_eq : f_Day_lengthOf = f_Md_daysOf := rfl
theorem year_eq : f_Day_isYear = f_Md_isYear := rfl
theorem len_nI (y : Int32) : f_Md_daysOf y = nI 365 ∨ f_Md_daysOf y = nI 366 := by
  unfold f_Md_daysOf
  split
  · exact Or.inl rfl
  · exact Or.inr rfl
theorem isDay_c (y d : Int32) : (f_Md_isDay y d = 0 ∧ (f_Md_isYear y = 0 ∨ d < 0 ∨ f_Md_daysOf y ≤ d)) ∨ (f_Md_isDay y d = 1 ∧ ¬ f_Md_isYear y = 0 ∧ ∃ t n, t < n ∧ n ≤ 366 ∧ d = nI t ∧ f_Md_daysOf y = nI n) := by
  unfold f_Md_isDay
  by_cases hy : f_Md_isYear y = 0
  · exact Or.inl ⟨if_pos hy, Or.inl hy⟩
  rw [if_neg hy]
  obtain ⟨n, hn0, hn, e⟩ : ∃ n, 1 ≤ n ∧ n ≤ 366 ∧ f_Md_daysOf y = nI n := by
    rcases len_nI y with e | e
    · exact ⟨365, by omega, by omega, e⟩
    · exact ⟨366, by omega, by omega, e⟩
  rw [e, show (nI n - 1 : Int32) = nI (n - 1) from pk_sub (b := 1) hn0]
  rcases ix_c d (n := n) (m := nI n) rfl (by omega) with h | ⟨t, ht, rfl⟩
  · have e0 : f_Md_in d 0 (nI (n - 1)) = 0 := in_out (h := n - 1) rfl (by omega) (by rw [show n - 1 + 1 = n by omega]; exact h)
    rw [if_pos e0]
    exact Or.inl ⟨rfl, Or.inr h⟩
  · have e0 : f_Md_in (nI t) 0 (nI (n - 1)) = 1 := in_in (l := 0) (h := n - 1) rfl rfl (by omega) (by omega) (by omega)
    rw [if_neg (by rw [e0]; exact one_ne)]
    exact Or.inr ⟨rfl, hy, t, n, ht, hn, rfl, rfl⟩
theorem par_absence {zs : List Int32} (a0 a1 a2 a3 : Int32) : Par zs 3 m_Bk_absence 3 m_Md_absence [.inl a0, .inl a1, .inl a2, .inl a3] RC PC := by
  intro w hR
  refine ev_Bk_absence ⟨_, rfl, ew_of k_Md_absence rfl (sg_Md_absence_0 ?_)⟩
  have hR0 := hR
  obtain ⟨n, m, b1, b2, b3, b4, b5, b6, b7, b8, b9⟩ := hR
  unfold f_Bk_absence g_Bk_absence f_Cho_sendAway g_Cho_sendAway
  rw [show f_Bk_within = f_Md_in from rfl, len_eq, year_eq, b5]
  by_cases hm : m = 60
  · subst hm
    have z : (60 : Int32) ≤ nI 60 := by decide
    rw [if_pos z, if_pos z, b6]
    exact ⟨fun _ => ⟨rfl, hR0, off_rf⟩, fun c => absurd rfl c⟩
  have z : ¬ (60 : Int32) ≤ nI m := nI_gle (a := 60) (b := m) (by omega) (by omega)
  have z2 : ¬ nI m = (60 : Int32) := nI_ne (b := 60) (by omega) (by omega) hm
  rw [if_neg z, if_neg z]
  rcases ix_c a0 (n := n) (m := nI n) rfl (by omega) with h | ⟨t, ht, rfl⟩
  · have hh : f_Cho_hasMonk w a0 = 0 := by unfold f_Cho_hasMonk; rw [b3, if_out h]
    rw [if_pos hh, if_pos hh, b6, b4]
    have e0 : f_Md_in a0 0 (nI n - 1) = 0 := by
      rcases Nat.eq_zero_or_pos n with q | q
      · subst q
        unfold f_Md_in
        rcases h with h | h
        · rw [if_pos h]
        · split
          · rfl
          · have z9 : (nI 0 - 1 : Int32) < a0 := by
              have : (nI 0 - 1 : Int32).toInt = -1 := by decide
              have : (nI 0 : Int32).toInt = 0 := by decide
              rw [Int32.le_iff_toInt_le] at h
              rw [Int32.lt_iff_toInt_lt]
              omega
            rw [if_pos z9]
      · rw [show (nI n - 1 : Int32) = nI (n - 1) from pk_sub (b := 1) q]
        exact in_out (h := n - 1) rfl (by omega) (by rw [show n - 1 + 1 = n by omega]; exact h)
    exact ⟨fun c => absurd c z2, fun _ => ⟨fun _ => ⟨rfl, hR0, off_rf⟩, fun c => absurd e0 c⟩⟩
  have hh : f_Cho_hasMonk w (nI t) = 1 := by unfold f_Cho_hasMonk; rw [b3, if_inn (m := nI n) (n := n) rfl ht (by omega)]
  have hhn : ¬ f_Cho_hasMonk w (nI t) = 0 := fun c => one_ne (hh.symm.trans c)
  have e0 : f_Md_in (nI t) 0 (nI n - 1) = 1 := by
    rw [show (nI n - 1 : Int32) = nI (n - 1) from pk_sub (b := 1) (by omega)]
    exact in_in (l := 0) (h := n - 1) rfl rfl (by omega) (by omega) (by omega)
  rw [if_neg hhn, if_neg hhn]
  have head : ∀ {A B : Prop}, B → (f_Md_in (nI t) 0 (nI n - 1) = 0 → A) ∧ (¬ f_Md_in (nI t) 0 (nI n - 1) = 0 → B) := fun hb => ⟨fun c => absurd (e0.symm.trans c) one_ne, fun _ => hb⟩
  rcases isDay_c a1 a2 with ⟨d2, hd⟩ | ⟨d2, hy, i, L, hi, hL, rfl, eL⟩
  · -- the first day is none: the class says so too
    have cls : (if f_Md_isYear a1 = 0 then (-1 : Int32) else if a2 < 0 then -1 else if f_Md_in a3 a2 (f_Md_daysOf a1 - 1) = 0 then -1 else nI m + 1) = -1 ∧ (if f_Md_isYear a1 = 0 then w else if a2 < 0 then w else if f_Md_in a3 a2 (f_Md_daysOf a1 - 1) = 0 then w else wr (g_put (g_put (g_put (g_put w 146 60 (nI m) (nI t)) 147 60 (nI m) a1) 148 60 (nI m) a2) 149 60 (nI m) a3) 144 6 (nI m + 1)) = w := by
      by_cases hy : f_Md_isYear a1 = 0
      · rw [if_pos hy, if_pos hy]; exact ⟨rfl, rfl⟩
      · rw [if_neg hy, if_neg hy]
        by_cases h2 : a2 < 0
        · rw [if_pos h2, if_pos h2]; exact ⟨rfl, rfl⟩
        · rw [if_neg h2, if_neg h2]
          have h3 : f_Md_daysOf a1 ≤ a2 := (hd.resolve_left hy).resolve_left h2
          have h4 : f_Md_in a3 a2 (f_Md_daysOf a1 - 1) = 0 := by
            unfold f_Md_in
            split
            · rfl
            · rename_i h5
              have h6 : f_Md_daysOf a1 - 1 < a3 := by
                rw [Int32.lt_iff_toInt_lt] at h5 ⊢
                rw [Int32.le_iff_toInt_le] at h3
                rcases len_nI a1 with e | e
                · rw [e] at h3 ⊢
                  have : (nI 365 - 1 : Int32).toInt = 364 := by decide
                  have : (nI 365 : Int32).toInt = 365 := by decide
                  omega
                · rw [e] at h3 ⊢
                  have : (nI 366 - 1 : Int32).toInt = 365 := by decide
                  have : (nI 366 : Int32).toInt = 366 := by decide
                  omega
              rw [if_pos h6]
          rw [if_pos h4, if_pos h4]; exact ⟨rfl, rfl⟩
    obtain ⟨k1, k2⟩ := cls
    rw [k1, k2, b6, b4]
    exact ⟨fun c => absurd c z2, fun _ => head ⟨fun _ => ⟨rfl, hR0, off_rf⟩, fun c => absurd d2 c⟩⟩
  rw [if_neg hy, if_neg hy, if_neg (nI_pos (by omega)), if_neg (nI_pos (by omega)), eL]
  have d2n : ¬ f_Md_isDay a1 (nI i) = 0 := fun c => one_ne (d2.symm.trans c)
  have eL1 : (nI L - 1 : Int32) = nI (L - 1) := pk_sub (b := 1) (by omega)
  rcases in_c (v := a3) (lo := nI i) (hi := nI L - 1) i (L - 1) rfl eL1 (by omega) (by omega) with ⟨e3, hc3⟩ | ⟨u, u1, u2, rfl, e3⟩
  · rw [if_pos e3, if_pos e3, b6, b4]
    refine ⟨fun c => absurd c z2, fun _ => head ⟨fun c => absurd c d2n, fun _ => ⟨fun _ => ⟨rfl, hR0, off_rf⟩, fun d3n => ⟨fun c => ?_, fun _ => ⟨rfl, hR0, off_rf⟩⟩⟩⟩⟩
    exfalso
    rcases isDay_c a1 a3 with ⟨d3, -⟩ | ⟨d3, -, u, L', hu, hL', rfl, eL'⟩
    · exact d3n d3
    · rw [eL] at eL'
      rw [eL1] at hc3
      have hLL : L = L' := (nI_eq (by omega) (by omega)).mp eL'
      subst hLL
      rcases hc3 with h | h
      · rw [Int32.lt_iff_toInt_lt] at h
        rw [Int32.le_iff_toInt_le] at c
        omega
      · have := (nI_ltI (by omega) (by omega)).mp h
        omega
  have e3n : ¬ f_Md_in (nI u) (nI i) (nI L - 1) = 0 := fun c => one_ne (e3.symm.trans c)
  rw [if_neg e3n, if_neg e3n, g_put_in (by omega) (by omega), g_put_in (by omega) (by omega), g_put_in (by omega) (by omega), g_put_in (by omega) (by omega)]
  rw [nI_1]
  have r1 : wr (wr (wr (wr (wr w 146 m (nI t)) 147 m a1) 148 m (nI i)) 149 m (nI u)) 144 6 (nI (m + 1)) 155 53 = nI m := by rw [wr_nc (by omega), wr_nc (by omega), wr_nc (by omega), wr_nc (by omega), wr_nc (by omega)]; exact b6
  have r2 : wr (wr (wr (wr (wr w 146 m (nI t)) 147 m a1) 148 m (nI i)) 149 m (nI u)) 144 6 (nI (m + 1)) 155 52 = nI n := by rw [wr_nc (by omega), wr_nc (by omega), wr_nc (by omega), wr_nc (by omega), wr_nc (by omega)]; exact b4
  rw [r1, r2, nI_1, nI_clampN (by omega)]
  have d3 : f_Md_isDay a1 (nI u) = 1 := by
    rcases isDay_c a1 (nI u) with ⟨d3, hz⟩ | ⟨d3, -⟩
    · exfalso
      rcases hz with q | q | q
      · exact hy q
      · exact nI_pos (by omega) q
      · rw [eL] at q
        exact nI_gle (a := L) (b := u) (by omega) (by omega) q
    · exact d3
  have nc : ∀ c j, c ≠ 155 → c ≠ 144 → c ≠ 146 → c ≠ 147 → c ≠ 148 → c ≠ 149 → c ≠ 198 → c ≠ 199 → c ≠ 200 → c ≠ 201 → wr (wr (wr (wr (wr (wr (wr (wr (wr (wr w 146 m (nI t)) 147 m a1) 148 m (nI i)) 149 m (nI u)) 144 6 (nI (m + 1))) 198 m (nI t)) 199 m a1) 200 m (nI i)) 201 m (nI u)) 155 53 (nI (m + 1)) c j = w c j := by
    intro c j q1 q2 q3 q4 q5 q6 q7 q8 q9 q10
    rw [wr_nc q1, wr_nc q10, wr_nc q9, wr_nc q8, wr_nc q7, wr_nc q2, wr_nc q6, wr_nc q5, wr_nc q4, wr_nc q3]
  refine ⟨fun c => absurd c z2, fun _ => head ⟨fun c => absurd c d2n, fun _ => ⟨fun c => absurd (d3.symm.trans c) one_ne, fun _ => ⟨fun _ => ⟨vinN (by omega) (by omega), vinN (by omega) (by omega), vinN (by omega) (by omega), vinN (by omega) (by omega), rfl, ⟨n, m + 1, b1, by omega, ?_, ?_, ?_, ?_, fun j hj => ?_, fun j hj => ?_, fun k h1 h2 => ?_⟩, off_wr (off_wr (off_wr (off_wr (off_wr (off_wr (off_wr (off_wr (off_wr (off_wr off_rf (by unfold PC; omega)) (by unfold PC; omega)) (by unfold PC; omega)) (by unfold PC; omega)) (by unfold PC; omega)) (by unfold PC; omega)) (by unfold PC; omega)) (by unfold PC; omega)) (by unfold PC; omega)) (by unfold PC; omega)⟩, fun c => absurd (nI_le u1 (by omega)) c⟩⟩⟩⟩
  · rw [wr_nc (by omega), wr_nc (by omega), wr_nc (by omega), wr_nc (by omega), wr_nc (by omega), wr_nk (by omega), wr_nc (by omega), wr_nc (by omega), wr_nc (by omega), wr_nc (by omega)]; exact b3
  · rw [wr_nk (by omega), wr_nc (by omega), wr_nc (by omega), wr_nc (by omega), wr_nc (by omega), wr_nc (by omega), wr_nc (by omega), wr_nc (by omega), wr_nc (by omega), wr_nc (by omega)]; exact b4
  · rw [wr_nc (by omega), wr_nc (by omega), wr_nc (by omega), wr_nc (by omega), wr_nc (by omega), wr_eq]
  · rw [wr_eq]
  · rw [nc 145 j (by omega) (by omega) (by omega) (by omega) (by omega) (by omega) (by omega) (by omega) (by omega) (by omega), nc 197 j (by omega) (by omega) (by omega) (by omega) (by omega) (by omega) (by omega) (by omega) (by omega) (by omega)]; exact b7 j hj
  · by_cases hjm : j = m
    · subst hjm
      refine ⟨?_, ⟨t, ht, ?_⟩, ?_, ?_, ?_⟩
      · rw [wr_nc (by omega), wr_nc (by omega), wr_nc (by omega), wr_nc (by omega), wr_nc (by omega), wr_nc (by omega), wr_nc (by omega), wr_nc (by omega), wr_nc (by omega), wr_eq, wr_nc (by omega), wr_nc (by omega), wr_nc (by omega), wr_nc (by omega), wr_eq]
      · rw [wr_nc (by omega), wr_nc (by omega), wr_nc (by omega), wr_nc (by omega), wr_eq]
      · rw [wr_nc (by omega), wr_nc (by omega), wr_nc (by omega), wr_nc (by omega), wr_nc (by omega), wr_nc (by omega), wr_nc (by omega), wr_nc (by omega), wr_eq, wr_nc (by omega), wr_nc (by omega), wr_nc (by omega), wr_eq]
      · rw [wr_nc (by omega), wr_nc (by omega), wr_nc (by omega), wr_nc (by omega), wr_nc (by omega), wr_nc (by omega), wr_nc (by omega), wr_eq, wr_nc (by omega), wr_nc (by omega), wr_eq]
      · rw [wr_nc (by omega), wr_nc (by omega), wr_nc (by omega), wr_nc (by omega), wr_nc (by omega), wr_nc (by omega), wr_eq, wr_nc (by omega), wr_eq]
    · obtain ⟨y1, y2, y3, y4, y5⟩ := b8 j (by omega)
      have nk : ∀ c, c ≠ 155 → c ≠ 144 → wr (wr (wr (wr (wr (wr (wr (wr (wr (wr w 146 m (nI t)) 147 m a1) 148 m (nI i)) 149 m (nI u)) 144 6 (nI (m + 1))) 198 m (nI t)) 199 m a1) 200 m (nI i)) 201 m (nI u)) 155 53 (nI (m + 1)) c j = w c j := by
        intro c q1 q2
        rw [wr_nc q1, wr_nk hjm, wr_nk hjm, wr_nk hjm, wr_nk hjm, wr_nc q2, wr_nk hjm, wr_nk hjm, wr_nk hjm, wr_nk hjm]
      rw [nk 146 (by omega) (by omega), nk 198 (by omega) (by omega), nk 147 (by omega) (by omega), nk 199 (by omega) (by omega), nk 148 (by omega) (by omega), nk 200 (by omega) (by omega), nk 149 (by omega) (by omega), nk 201 (by omega) (by omega)]
      exact ⟨y1, y2, y3, y4, y5⟩
  · rw [nc 204 k (by omega) (by omega) (by omega) (by omega) (by omega) (by omega) (by omega) (by omega) (by omega) (by omega)]; exact b9 k h1 h2
