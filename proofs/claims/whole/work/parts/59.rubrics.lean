/-! The rubrics as they are told: seasons -/
def Sok (k f t s d c : Int32) : Prop := ((k = 0 ∧ f_Md_in f (-120) 250 = 1 ∧ f_Md_in t (-120) 250 = 1) ∨ (k = 1 ∧ f_Md_isDate f = 1 ∧ f_Md_isDate t = 1)) ∧ ¬ t < f ∧ f_Md_in s 1 9 = 1 ∧ f_Md_in d 0 8 = 1 ∧ f_Md_in c 0 7 = 1
def RSs (w : Wd) : Prop := ∃ n, n ≤ 10 ∧ w 1 6 = nI n ∧ w 155 0 = nI n ∧ ∀ j, j < n → w 2 j = w 156 j ∧ w 3 j = w 157 j ∧ w 4 j = w 158 j ∧ w 5 j = w 159 j ∧ w 6 j = w 160 j ∧ w 7 j = w 161 j ∧ Sok (w 156 j) (w 157 j) (w 158 j) (w 159 j) (w 160 j) (w 161 j)
def Fok (s a r c y o v : Int32) : Prop := f_Md_isTold s a = 1 ∧ f_Md_in r 1 9 = 1 ∧ f_Md_in c 0 7 = 1 ∧ f_Md_in y 0 2 = 1 ∧ f_Md_in o 0 8 = 1 ∧ (v = 0 ∨ v = 1)
def RSf (w : Wd) : Prop := ∃ n, n ≤ 60 ∧ w 8 7 = nI n ∧ w 155 1 = nI n ∧ (∀ j, j < n → w 9 j = w 162 j ∧ w 10 j = w 163 j ∧ w 11 j = w 164 j ∧ w 12 j = w 165 j ∧ w 13 j = w 166 j ∧ w 14 j = w 167 j ∧ w 15 j = w 168 j ∧ Fok (w 162 j) (w 163 j) (w 164 j) (w 165 j) (w 166 j) (w 167 j) (w 168 j)) ∧ ∀ j, n ≤ j → j < 60 → w 14 j = 0 ∧ w 15 j = 0
def RS (w : Wd) : Prop := RSs w ∧ RSf w
def PU (c k : Nat) : Prop := (1 ≤ c ∧ c ≤ 21) ∨ (156 ≤ c ∧ c ≤ 180) ∨ (c = 155 ∧ k ≤ 35)
def AOK (A : Wd → Prop) : Prop := ∀ w : Wd, w 16 7 = -1 → w 155 15 = 0 → A w
def PSs (c k : Nat) : Prop := (1 ≤ c ∧ c ≤ 7) ∨ (156 ≤ c ∧ c ≤ 161) ∨ (c = 155 ∧ k = 0)
def PSf (c k : Nat) : Prop := (8 ≤ c ∧ c ≤ 15) ∨ (162 ≤ c ∧ c ≤ 168) ∨ (c = 155 ∧ k = 1)
theorem RSs_cg {w w' : Wd} (e : ∀ c k, PSs c k → w' c k = w c k) (h : RSs w) : RSs w' := by
  obtain ⟨n, hn, h1, h2, h3⟩ := h
  refine ⟨n, hn, ?_, ?_, fun j hj => ?_⟩
  · rw [e _ _ (by unfold PSs; omega)]; exact h1
  · rw [e _ _ (by unfold PSs; omega)]; exact h2
  · rw [e 2 j (by unfold PSs; omega), e 3 j (by unfold PSs; omega), e 4 j (by unfold PSs; omega), e 5 j (by unfold PSs; omega), e 6 j (by unfold PSs; omega), e 7 j (by unfold PSs; omega), e 156 j (by unfold PSs; omega), e 157 j (by unfold PSs; omega), e 158 j (by unfold PSs; omega), e 159 j (by unfold PSs; omega), e 160 j (by unfold PSs; omega), e 161 j (by unfold PSs; omega)]
    exact h3 j hj
theorem RSf_cg {w w' : Wd} (e : ∀ c k, PSf c k → w' c k = w c k) (h : RSf w) : RSf w' := by
  obtain ⟨n, hn, h1, h2, h3, h4⟩ := h
  refine ⟨n, hn, ?_, ?_, fun j hj => ?_, fun j a b => ?_⟩
  · rw [e _ _ (by unfold PSf; omega)]; exact h1
  · rw [e _ _ (by unfold PSf; omega)]; exact h2
  · rw [e 9 j (by unfold PSf; omega), e 10 j (by unfold PSf; omega), e 11 j (by unfold PSf; omega), e 12 j (by unfold PSf; omega), e 13 j (by unfold PSf; omega), e 14 j (by unfold PSf; omega), e 15 j (by unfold PSf; omega), e 162 j (by unfold PSf; omega), e 163 j (by unfold PSf; omega), e 164 j (by unfold PSf; omega), e 165 j (by unfold PSf; omega), e 166 j (by unfold PSf; omega), e 167 j (by unfold PSf; omega), e 168 j (by unfold PSf; omega)]
    exact h3 j hj
  · rw [e 14 j (by unfold PSf; omega), e 15 j (by unfold PSf; omega)]
    exact h4 j a b
theorem in_01 (v lo hi : Int32) : f_Md_in v lo hi = 0 ∨ f_Md_in v lo hi = 1 := by
  unfold f_Md_in
  split
  · exact Or.inl rfl
  · split
    · exact Or.inl rfl
    · exact Or.inr rfl
theorem in_n0 {v lo hi : Int32} (h : f_Md_in v lo hi = 1) : ¬ f_Md_in v lo hi = 0 := fun c => one_ne (h.symm.trans c)
theorem in_1 {v lo hi : Int32} (h : ¬ f_Md_in v lo hi = 0) : f_Md_in v lo hi = 1 := (in_01 v lo hi).resolve_left h
/-- the class' world behind a told season -/
def wS (w : Wd) (n : Nat) (b a0 a1 a2 a3 a4 : Int32) : Wd := wr (wr (wr (wr (wr (wr (wr w 2 n b) 3 n a0) 4 n a1) 5 n a2) 6 n a3) 7 n a4) 1 6 (nI (n + 1))
def wS2 (w : Wd) (n : Nat) (b a0 a1 a2 a3 a4 : Int32) : Wd := wr (wr (wr (wr (wr (wr (wr (wr w 156 n b) 157 n a0) 158 n a1) 159 n a2) 160 n a3) 161 n a4) 155 0 (nI (n + 1))) 155 15 0
theorem sea_add {w : Wd} {n : Nat} {b a0 a1 a2 a3 a4 : Int32} (hb : b = 0 ∨ b = 1) (hn : n ≤ 10) (h6 : w 1 6 = nI n) : (f_Sea_add w a0 a1 a2 a3 a4 b = -1 ∧ g_Sea_add w a0 a1 a2 a3 a4 b = w ∧ (n = 10 ∨ f_Md_in a2 1 9 = 0 ∨ f_Md_in a3 0 8 = 0 ∨ f_Md_in a4 0 7 = 0)) ∨ (f_Sea_add w a0 a1 a2 a3 a4 b = nI (n + 1) ∧ g_Sea_add w a0 a1 a2 a3 a4 b = wS w n b a0 a1 a2 a3 a4 ∧ n < 10 ∧ f_Md_in a2 1 9 = 1 ∧ f_Md_in a3 0 8 = 1 ∧ f_Md_in a4 0 7 = 1) := by
  unfold f_Sea_add g_Sea_add
  rw [show f_Bk_within = f_Md_in from rfl, h6, if_neg (nI_pos (by omega)), if_neg (nI_pos (by omega))]
  by_cases h10 : n = 10
  · subst h10
    rw [if_pos (show (10 : Int32) ≤ nI 10 by decide), if_pos (show (10 : Int32) ≤ nI 10 by decide)]
    exact Or.inl ⟨rfl, rfl, Or.inl rfl⟩
  have z : ¬ (10 : Int32) ≤ nI n := nI_gle (a := 10) (b := n) (by omega) (by omega)
  rw [if_neg z, if_neg z]
  by_cases c2 : f_Md_in a2 1 9 = 0
  · rw [if_pos c2, if_pos c2]; exact Or.inl ⟨rfl, rfl, Or.inr (Or.inl c2)⟩
  rw [if_neg c2, if_neg c2]
  by_cases c3 : f_Md_in a3 0 8 = 0
  · rw [if_pos c3, if_pos c3]; exact Or.inl ⟨rfl, rfl, Or.inr (Or.inr (Or.inl c3))⟩
  rw [if_neg c3, if_neg c3]
  by_cases c4 : f_Md_in a4 0 7 = 0
  · rw [if_pos c4, if_pos c4]; exact Or.inl ⟨rfl, rfl, Or.inr (Or.inr (Or.inr c4))⟩
  rw [if_neg c4, if_neg c4, nI_clampN (by omega), g_put_in (by omega) (by omega), g_put_in (by omega) (by omega), g_put_in (by omega) (by omega), g_put_in (by omega) (by omega), g_put_in (by omega) (by omega), nI_1, and1 hb]
  exact Or.inr ⟨rfl, rfl, by omega, in_1 c2, in_1 c3, in_1 c4⟩
theorem ew_adds {zs : List Int32} {w : Wd} {n : Nat} {b a0 a1 a2 a3 a4 : Int32} {Q : Option AV → Wd → Prop} (hb : b = 0 ∨ b = 1) (hn : n ≤ 10) (h6 : w 155 0 = nI n)
    (h0 : (n = 10 ∨ a1 < a0 ∨ f_Md_in a2 1 9 = 0 ∨ f_Md_in a3 0 8 = 0 ∨ f_Md_in a4 0 7 = 0) → Q (some (.inl (-1))) w)
    (h1 : n < 10 → ¬ a1 < a0 → f_Md_in a2 1 9 = 1 → f_Md_in a3 0 8 = 1 → f_Md_in a4 0 7 = 1 → Q (some (.inl (nI (n + 1)))) (wS2 w n b a0 a1 a2 a3 a4)) : Ew zs 1 m_Md_adds0 [.inr (.inl (some 155)), .inl b, .inl a0, .inl a1, .inl a2, .inl a3, .inl a4] w Q := by
  refine ew_of k_Md_adds0 rfl (sg_Md_adds0_0 ?_)
  rw [h6]
  refine ⟨fun c => h0 (Or.inl ((nI_eq (b := 10) (by omega) (by omega)).mp c)), fun c0 => ⟨fun c => h0 (Or.inr (Or.inl c)), fun c1 => ⟨fun c => h0 (Or.inr (Or.inr (Or.inl c))), fun c2 => ⟨fun c => h0 (Or.inr (Or.inr (Or.inr (Or.inl c)))), fun c3 => ⟨fun c => h0 (Or.inr (Or.inr (Or.inr (Or.inr c)))), fun c4 => ?_⟩⟩⟩⟩⟩
  have hlt : n < 10 := by
    rcases Nat.lt_or_ge n 10 with q | q
    · exact q
    · exact absurd (congrArg nI (show n = 10 by omega)) c0
  have v := vinN (i := n) (n := 10) hlt (by omega)
  rw [nI_clampN (by omega), and1 hb, nI_1]
  exact ⟨v, v, v, v, v, v, h1 hlt c1 (in_1 c2) (in_1 c3) (in_1 c4)⟩
theorem forget_f (r : Int32) : f_Bk_forgetIfTold r = r := by unfold f_Bk_forgetIfTold; split <;> rfl
theorem sea_told {w : Wd} {A : Wd → Prop} {n : Nat} {b a0 a1 a2 a3 a4 : Int32} (hA : AOK A) (hR : RS w) (hn : n < 10) (h1 : w 1 6 = nI n) (h2 : w 155 0 = nI n) (ok : Sok b a0 a1 a2 a3 a4) : (RS (wS2 (wr (wS w n b a0 a1 a2 a3 a4) 16 7 (-1)) n b a0 a1 a2 a3 a4) ∧ A (wS2 (wr (wS w n b a0 a1 a2 a3 a4) 16 7 (-1)) n b a0 a1 a2 a3 a4)) ∧ ∀ c k, ¬ PU c k → wS2 (wr (wS w n b a0 a1 a2 a3 a4) 16 7 (-1)) n b a0 a1 a2 a3 a4 c k = w c k := by
  obtain ⟨⟨n', hn', g1, g2, g3⟩, hF⟩ := hR
  have : n' = n := (nI_eq (by omega) (by omega)).mp (g1.symm.trans h1)
  subst this
  unfold wS wS2
  refine ⟨⟨⟨⟨n' + 1, by omega, ?_, ?_, fun j hj => ?_⟩, RSf_cg (fun c k hp => ?_) hF⟩, hA _ ?_ ?_⟩, off_wr (off_wr (off_wr (off_wr (off_wr (off_wr (off_wr (off_wr (off_wr (off_wr (off_wr (off_wr (off_wr (off_wr (off_wr (off_wr off_rf (by unfold PU; omega)) (by unfold PU; omega)) (by unfold PU; omega)) (by unfold PU; omega)) (by unfold PU; omega)) (by unfold PU; omega)) (by unfold PU; omega)) (by unfold PU; omega)) (by unfold PU; omega)) (by unfold PU; omega)) (by unfold PU; omega)) (by unfold PU; omega)) (by unfold PU; omega)) (by unfold PU; omega)) (by unfold PU; omega)) (by unfold PU; omega)⟩
  · simp only [wr_nc (show (1 : Nat) ≠ 155 by omega), wr_nc (show (1 : Nat) ≠ 161 by omega), wr_nc (show (1 : Nat) ≠ 160 by omega), wr_nc (show (1 : Nat) ≠ 159 by omega), wr_nc (show (1 : Nat) ≠ 158 by omega), wr_nc (show (1 : Nat) ≠ 157 by omega), wr_nc (show (1 : Nat) ≠ 156 by omega), wr_nc (show (1 : Nat) ≠ 16 by omega)]
    rw [wr_eq]
  · rw [wr_nk (by omega), wr_eq]
  · by_cases hjn : j = n'
    · subst hjn
      have e : ∀ c, wr (wr (wr (wr (wr (wr (wr (wr (wr (wr (wr (wr (wr (wr (wr (wr w 2 j b) 3 j a0) 4 j a1) 5 j a2) 6 j a3) 7 j a4) 1 6 (nI (j + 1))) 16 7 (-1)) 156 j b) 157 j a0) 158 j a1) 159 j a2) 160 j a3) 161 j a4) 155 0 (nI (j + 1))) 155 15 0 c j = if c = 155 then wr (wr (wr (wr (wr (wr (wr (wr (wr (wr (wr (wr (wr (wr (wr (wr w 2 j b) 3 j a0) 4 j a1) 5 j a2) 6 j a3) 7 j a4) 1 6 (nI (j + 1))) 16 7 (-1)) 156 j b) 157 j a0) 158 j a1) 159 j a2) 160 j a3) 161 j a4) 155 0 (nI (j + 1))) 155 15 0 155 j else if c = 161 then a4 else if c = 160 then a3 else if c = 159 then a2 else if c = 158 then a1 else if c = 157 then a0 else if c = 156 then b else if c = 16 then wr (wr (wr (wr (wr (wr (wr (wr w 2 j b) 3 j a0) 4 j a1) 5 j a2) 6 j a3) 7 j a4) 1 6 (nI (j + 1))) 16 7 (-1) 16 j else if c = 1 then wr (wr (wr (wr (wr (wr (wr w 2 j b) 3 j a0) 4 j a1) 5 j a2) 6 j a3) 7 j a4) 1 6 (nI (j + 1)) 1 j else if c = 7 then a4 else if c = 6 then a3 else if c = 5 then a2 else if c = 4 then a1 else if c = 3 then a0 else if c = 2 then b else w c j := by
        intro c
        by_cases q1 : c = 155
        · rw [if_pos q1, q1]
        rw [if_neg q1, wr_nc q1, wr_nc q1]
        by_cases q2 : c = 161
        · rw [if_pos q2, q2, wr_eq]
        rw [if_neg q2, wr_nc q2]
        by_cases q3 : c = 160
        · rw [if_pos q3, q3, wr_eq]
        rw [if_neg q3, wr_nc q3]
        by_cases q4 : c = 159
        · rw [if_pos q4, q4, wr_eq]
        rw [if_neg q4, wr_nc q4]
        by_cases q5 : c = 158
        · rw [if_pos q5, q5, wr_eq]
        rw [if_neg q5, wr_nc q5]
        by_cases q6 : c = 157
        · rw [if_pos q6, q6, wr_eq]
        rw [if_neg q6, wr_nc q6]
        by_cases q7 : c = 156
        · rw [if_pos q7, q7, wr_eq]
        rw [if_neg q7, wr_nc q7]
        by_cases q8 : c = 16
        · rw [if_pos q8, q8]
        rw [if_neg q8, wr_nc q8]
        by_cases q9 : c = 1
        · rw [if_pos q9, q9]
        rw [if_neg q9, wr_nc q9]
        by_cases r7 : c = 7
        · rw [if_pos r7, r7, wr_eq]
        rw [if_neg r7, wr_nc r7]
        by_cases r6 : c = 6
        · rw [if_pos r6, r6, wr_eq]
        rw [if_neg r6, wr_nc r6]
        by_cases r5 : c = 5
        · rw [if_pos r5, r5, wr_eq]
        rw [if_neg r5, wr_nc r5]
        by_cases r4 : c = 4
        · rw [if_pos r4, r4, wr_eq]
        rw [if_neg r4, wr_nc r4]
        by_cases r3 : c = 3
        · rw [if_pos r3, r3, wr_eq]
        rw [if_neg r3, wr_nc r3]
        by_cases r2 : c = 2
        · rw [if_pos r2, r2, wr_eq]
        rw [if_neg r2, wr_nc r2]
      rw [e 2, e 3, e 4, e 5, e 6, e 7, e 156, e 157, e 158, e 159, e 160, e 161]
      exact ⟨rfl, rfl, rfl, rfl, rfl, rfl, ok⟩
    · have e : ∀ c, c ≠ 155 → c ≠ 16 → c ≠ 1 → wr (wr (wr (wr (wr (wr (wr (wr (wr (wr (wr (wr (wr (wr (wr (wr w 2 n' b) 3 n' a0) 4 n' a1) 5 n' a2) 6 n' a3) 7 n' a4) 1 6 (nI (n' + 1))) 16 7 (-1)) 156 n' b) 157 n' a0) 158 n' a1) 159 n' a2) 160 n' a3) 161 n' a4) 155 0 (nI (n' + 1))) 155 15 0 c j = w c j := by
        intro c q1 q2 q3
        rw [wr_nc q1, wr_nc q1, wr_nk hjn, wr_nk hjn, wr_nk hjn, wr_nk hjn, wr_nk hjn, wr_nk hjn, wr_nc q2, wr_nc q3, wr_nk hjn, wr_nk hjn, wr_nk hjn, wr_nk hjn, wr_nk hjn, wr_nk hjn]
      rw [e 2 (by omega) (by omega) (by omega), e 3 (by omega) (by omega) (by omega), e 4 (by omega) (by omega) (by omega), e 5 (by omega) (by omega) (by omega), e 6 (by omega) (by omega) (by omega), e 7 (by omega) (by omega) (by omega), e 156 (by omega) (by omega) (by omega), e 157 (by omega) (by omega) (by omega), e 158 (by omega) (by omega) (by omega), e 159 (by omega) (by omega) (by omega), e 160 (by omega) (by omega) (by omega), e 161 (by omega) (by omega) (by omega)]
      exact g3 j (by omega)
  · unfold PSf at hp
    have x15 : wr (wr (wr (wr (wr (wr (wr (wr (wr (wr (wr (wr (wr (wr (wr (wr w 2 n' b) 3 n' a0) 4 n' a1) 5 n' a2) 6 n' a3) 7 n' a4) 1 6 (nI (n' + 1))) 16 7 (-1)) 156 n' b) 157 n' a0) 158 n' a1) 159 n' a2) 160 n' a3) 161 n' a4) 155 0 (nI (n' + 1))) 155 15 0 c k = wr (wr (wr (wr (wr (wr (wr (wr (wr (wr (wr (wr (wr (wr w 2 n' b) 3 n' a0) 4 n' a1) 5 n' a2) 6 n' a3) 7 n' a4) 1 6 (nI (n' + 1))) 16 7 (-1)) 156 n' b) 157 n' a0) 158 n' a1) 159 n' a2) 160 n' a3) 161 n' a4 c k := by
      by_cases q : c = 155
      · rw [q, wr_nk (by omega), wr_nk (by omega)]
      · rw [wr_nc q, wr_nc q]
    rw [x15, wr_nc (by omega), wr_nc (by omega), wr_nc (by omega), wr_nc (by omega), wr_nc (by omega), wr_nc (by omega), wr_nc (by omega), wr_nc (by omega), wr_nc (by omega), wr_nc (by omega), wr_nc (by omega), wr_nc (by omega), wr_nc (by omega), wr_nc (by omega)]
  · rw [wr_nc (by omega), wr_nc (by omega), wr_nc (by omega), wr_nc (by omega), wr_nc (by omega), wr_nc (by omega), wr_nc (by omega), wr_nc (by omega), wr_eq]
  · rw [wr_eq]
theorem par_season {zs : List Int32} {A : Wd → Prop} (hA : AOK A) (a0 a1 a2 a3 a4 : Int32) : Par zs 3 m_Bk_season 2 m_Md_season [.inl a0, .inl a1, .inl a2, .inl a3, .inl a4] (fun w => RS w ∧ A w) PU := by
  intro w ⟨hR, hd⟩
  refine ev_Bk_season ⟨_, rfl, ew_of k_Md_season rfl (sg_Md_season_0 ?_)⟩
  have hR0 := hR
  obtain ⟨⟨n, hn, g1, g2, g3⟩, hF⟩ := hR
  unfold f_Bk_season g_Bk_season g_Bk_forgetIfTold f_Sea_tellFromEaster g_Sea_tellFromEaster
  rw [show f_Bk_within = f_Md_in from rfl, forget_f]
  by_cases c0 : f_Md_in a0 (-120) 250 = 0
  · rw [if_pos c0, if_pos c0, if_pos rfl]
    exact ⟨fun _ => ⟨rfl, ⟨hR0, hd⟩, off_rf⟩, fun c => absurd c0 c⟩
  rw [if_neg c0, if_neg c0]
  by_cases c1 : f_Md_in a1 a0 250 = 0
  · rw [if_pos c1, if_pos c1, if_pos rfl]
    refine ⟨fun c => absurd c c0, fun _ => ⟨fun _ => ⟨rfl, ⟨hR0, hd⟩, off_rf⟩, fun c2 => ew_adds (Or.inl rfl) hn g2 (fun _ => ⟨_, rfl, rfl, ⟨hR0, hd⟩, off_rf⟩) (fun _ q => ?_)⟩⟩
    exfalso
    unfold f_Md_in at c1 c2
    rw [if_neg q] at c1
    split at c1
    · rename_i c3
      split at c2
      · exact c2 rfl
      · exact c2 rfl
    · exact one_ne c1
  rw [if_neg c1, if_neg c1]
  have c10 : ¬ a1 < a0 := by
    intro q
    unfold f_Md_in at c1
    rw [if_pos q] at c1
    exact c1 rfl
  have c12 : f_Md_in a1 (-120) 250 = 1 := by
    have x0 := in_1 c0
    have x1 := in_1 c1
    unfold f_Md_in at x0 x1 ⊢
    rw [if_neg c10] at x1
    have y1 : ¬ (250 : Int32) < a1 := fun q => by rw [if_pos q] at x1; exact one_ne x1.symm
    have y0 : ¬ a0 < -120 := fun q => by rw [if_pos q] at x0; exact one_ne x0.symm
    have y2 : ¬ a1 < -120 := fun q => by
      rw [Int32.lt_iff_toInt_lt] at q y0 c10
      omega
    rw [if_neg y2, if_neg y1]
  rcases sea_add (a0 := a0) (a1 := a1) (a2 := a2) (a3 := a3) (a4 := a4) (b := 0) (Or.inl rfl) hn g1 with ⟨x1, x2, x3⟩ | ⟨x1, x2, x3, x4, x5, x6⟩
  · rw [x1, x2, if_pos rfl]
    refine ⟨fun c => absurd c c0, fun _ => ⟨fun c => absurd (c12.symm.trans c) one_ne, fun _ => ew_adds (Or.inl rfl) hn g2 (fun _ => ⟨_, rfl, rfl, ⟨hR0, hd⟩, off_rf⟩) (fun q1 q2 q3 q4 q5 => ?_)⟩⟩
    exfalso
    rcases x3 with h | h | h | h
    · omega
    · exact one_ne (q3.symm.trans h)
    · exact one_ne (q4.symm.trans h)
    · exact one_ne (q5.symm.trans h)
  · rw [x1, x2, if_neg (m1_nI (by omega))]
    have g2' : wr (wS w n 0 a0 a1 a2 a3 a4) 16 7 (-1) 155 0 = nI n := by
      unfold wS
      rw [wr_nc (by omega), wr_nc (by omega), wr_nc (by omega), wr_nc (by omega), wr_nc (by omega), wr_nc (by omega), wr_nc (by omega), wr_nc (by omega)]; exact g2
    refine ⟨fun c => absurd c c0, fun _ => ⟨fun c => absurd (c12.symm.trans c) one_ne, fun _ => ew_adds (Or.inl rfl) hn g2' (fun q => ?_) (fun q1 q2 q3 q4 q5 => ⟨_, rfl, rfl, sea_told hA hR0 x3 g1 g2 ⟨Or.inl ⟨rfl, in_1 c0, c12⟩, q2, q3, q4, q5⟩⟩)⟩⟩
    exfalso
    rcases q with h | h | h | h | h
    · omega
    · exact c10 h
    · exact one_ne (x4.symm.trans h)
    · exact one_ne (x5.symm.trans h)
    · exact one_ne (x6.symm.trans h)
theorem div_low {a : Int32} {k : Nat} (h : a ≤ 0) (hk : 0 < k) (hk2 : k < 1000) : ¬ (nI 1 ≤ a / nI k) := by
  intro q
  rw [Int32.le_iff_toInt_le] at q h
  have e1 : (nI 1).toInt = ((1 : Nat) : Int) := nI_toInt (by omega)
  have ek : (nI k).toInt = ((k : Nat) : Int) := nI_toInt (by omega)
  have e0 : (0 : Int32).toInt = 0 := by decide
  have hz : nI k ≠ -1 := fun z => m1_nI (by omega) z
  rw [Int32.toInt_div_of_ne_right _ _ hz, e1, ek] at q
  rw [e0] at h
  have t : a.toInt.tdiv (k : Int) ≤ 0 := by
    have t0 := Int.tdiv_nonneg (a := -a.toInt) (b := (k : Int)) (by omega) (by omega)
    rw [Int.neg_tdiv] at t0
    omega
  omega
theorem in_low {v lo hi : Int32} (h : ¬ lo ≤ v) : f_Md_in v lo hi = 0 := by
  unfold f_Md_in
  have : v < lo := by
    rw [Int32.lt_iff_toInt_lt]; rw [Int32.le_iff_toInt_le] at h; omega
  rw [if_pos this]
theorem rough_eq (a : Int32) : f_Day_isRoughDate a = f_Md_isDate a := by
  unfold f_Day_isRoughDate f_Md_isDate
  rw [show f_Bk_within = f_Md_in from rfl]
  by_cases h : a ≤ 0
  · have z : f_Md_in (a / 100) 1 12 = 0 := in_low (div_low (k := 100) h (by omega) (by omega))
    rw [if_pos h, if_pos z]
  · rw [if_neg h]
theorem rough_01 (a : Int32) : f_Md_isDate a = 0 ∨ f_Md_isDate a = 1 := by
  unfold f_Md_isDate
  repeat' split
  all_goals first | exact Or.inl rfl | exact Or.inr rfl
theorem par_dated {zs : List Int32} {A : Wd → Prop} (hA : AOK A) (a0 a1 a2 a3 a4 : Int32) : Par zs 3 m_Bk_dated 2 m_Md_dated [.inl a0, .inl a1, .inl a2, .inl a3, .inl a4] (fun w => RS w ∧ A w) PU := by
  intro w ⟨hR, hd⟩
  refine ev_Bk_dated ⟨_, rfl, ew_of k_Md_dated rfl (sg_Md_dated_0 ?_)⟩
  have hR0 := hR
  obtain ⟨⟨n, hn, g1, g2, g3⟩, hF⟩ := hR
  unfold f_Bk_dated g_Bk_dated g_Bk_forgetIfTold f_Sea_tellByDates g_Sea_tellByDates
  rw [rough_eq, rough_eq, forget_f]
  by_cases c0 : f_Md_isDate a0 = 0
  · rw [if_pos c0, if_pos c0, if_pos rfl]
    exact ⟨fun _ => ⟨rfl, ⟨hR0, hd⟩, off_rf⟩, fun c => absurd c0 c⟩
  rw [if_neg c0, if_neg c0]
  by_cases c1 : f_Md_isDate a1 = 0
  · rw [if_pos c1, if_pos c1, if_pos rfl]
    exact ⟨fun c => absurd c c0, fun _ => ⟨fun _ => ⟨rfl, ⟨hR0, hd⟩, off_rf⟩, fun c => absurd c1 c⟩⟩
  rw [if_neg c1, if_neg c1]
  refine ⟨fun c => absurd c c0, fun _ => ⟨fun c => absurd c c1, fun _ => ?_⟩⟩
  by_cases c2 : a0 ≤ a1
  · rw [if_pos c2, if_pos c2]
    have c10 : ¬ a1 < a0 := fun q => by
      rw [Int32.lt_iff_toInt_lt] at q
      rw [Int32.le_iff_toInt_le] at c2
      omega
    rcases sea_add (a0 := a0) (a1 := a1) (a2 := a2) (a3 := a3) (a4 := a4) (b := 1) (Or.inr rfl) hn g1 with ⟨x1, x2, x3⟩ | ⟨x1, x2, x3, x4, x5, x6⟩
    · rw [x1, x2, if_pos rfl]
      refine ew_adds (Or.inr rfl) hn g2 (fun _ => ⟨_, rfl, rfl, ⟨hR0, hd⟩, off_rf⟩) (fun q1 q2 q3 q4 q5 => ?_)
      exfalso
      rcases x3 with h | h | h | h
      · omega
      · exact one_ne (q3.symm.trans h)
      · exact one_ne (q4.symm.trans h)
      · exact one_ne (q5.symm.trans h)
    · rw [x1, x2, if_neg (m1_nI (by omega))]
      have g2' : wr (wS w n 1 a0 a1 a2 a3 a4) 16 7 (-1) 155 0 = nI n := by
        unfold wS
        rw [wr_nc (by omega), wr_nc (by omega), wr_nc (by omega), wr_nc (by omega), wr_nc (by omega), wr_nc (by omega), wr_nc (by omega), wr_nc (by omega)]; exact g2
      refine ew_adds (Or.inr rfl) hn g2' (fun q => ?_) (fun q1 q2 q3 q4 q5 => ⟨_, rfl, rfl, sea_told hA hR0 x3 g1 g2 ⟨Or.inr ⟨rfl, (rough_01 a0).resolve_left c0, (rough_01 a1).resolve_left c1⟩, q2, q3, q4, q5⟩⟩)
      exfalso
      rcases q with h | h | h | h | h
      · omega
      · exact c10 h
      · exact one_ne (x4.symm.trans h)
      · exact one_ne (x5.symm.trans h)
      · exact one_ne (x6.symm.trans h)
  · rw [if_neg c2, if_neg c2, if_pos rfl]
    refine ew_adds (Or.inr rfl) hn g2 (fun _ => ⟨_, rfl, rfl, ⟨hR0, hd⟩, off_rf⟩) (fun _ q => ?_)
    exfalso
    rw [Int32.lt_iff_toInt_lt] at q
    rw [Int32.le_iff_toInt_le] at c2
    omega
