/-! Rosters: the choir's own, all of it -/
theorem awM_cg {w w' : Wd} {y d : Int32} {m : Nat} (e1 : ∀ k, w' 198 k = w 198 k) (e2 : ∀ k, w' 199 k = w 199 k) (e3 : ∀ k, w' 200 k = w 200 k) (e4 : ∀ k, w' 201 k = w 201 k) : ∀ j, awM w' y d m j = awM w y d m j := by
  intro j
  induction j with
  | zero => rfl
  | succ j ih => simp only [awM]; rw [ih, e1, e2, e3, e4]
/-- the absences of both -/
def AC5 (w : Wd) (nM nA : Nat) : Prop := w 144 6 = nI nA ∧ nA ≤ 60 ∧ ∀ j, j < nA → w 146 j = w 198 j ∧ (∃ t, t < nM ∧ w 198 j = nI t) ∧ w 147 j = w 199 j ∧ w 148 j = w 200 j ∧ w 149 j = w 201 j
theorem ew_make {zs : List Int32} {w : Wd} {i A n nA : Nat} {y : YT} {p : PT5} {Q : Option AV → Wd → Prop} (hC : CYr w i y) (h7 : w 16 7 = nI (1900 + i)) (hp : MC5 w p) (hA : AC5 w p.nM nA) (hn1 : 1 ≤ n) (hn2 : n ≤ 60) (hAn : A + n ≤ y.N) (hg : ∀ k m, p.gone k m = awM w (nI (1900 + i)) (nI (A + k)) m nA) (hs : ∀ k r, p.nS k r = nSt (drC (offF y (A + k))) r)
    (h : ∀ w', (∀ c k, ¬ (c = 150 ∧ k = 4) → ¬ (151 ≤ c ∧ c ≤ 154) → w' c k = w c k) → w' 150 4 = nI n → (∀ k, k < n → w' 152 k = nI (drC (offF y (A + k)))) → (∀ j, j < 72 → w' 153 j = (sK5 p n).of j) → (∀ j, j < 72 → w' 154 j = (sK5 p n).la j) → (∀ x, x < 660 → ∀ v, (sK5 p n).se x = some v → w' 151 x = v) → Q (some (.inl (nI (sK5 p n).op))) w') : Ew zs 4 m_Ros_make [.inr (.inl (some 150)), .inr (.inl (some 144)), .inr (.inl (some 16)), .inl (nI A), .inl (nI n)] w Q := by
  have hy := AB_ok hC.1
  have hN := hy.2.2.1
  refine ew_of k_Ros_make rfl (sg_Ros_make_0 ?_)
  have e60 : (if (60 : Int32) < nI n then (60 : Int32) else nI n) = nI n := if_neg (nI_nlt (a := 60) (b := n) hn2 (by omega))
  rw [e60]
  have days := up_loop (fun k => ∀ W, (∀ c k', ¬ (c = 150 ∧ k' = 4) → ¬ (151 ≤ c ∧ c ≤ 154) → W c k' = w c k') → W 150 4 = nI n → (∀ k', k' < k → W 152 k' = nI (drC (offF y (A + k')))) → (∀ j, j < 72 → W 153 j = (sK5 p k).of j) → (∀ j, j < 72 → W 154 j = (sK5 p k).la j) → (∀ x, x < 660 → ∀ v, (sK5 p k).se x = some v → W 151 x = v) → Gw zs 4 m_Ros_make 71 [some (.inr (.inl (some 150))), some (.inr (.inl (some 144))), some (.inr (.inl (some 16))), some (.inl (nI A)), some (.inl (nI n)), some (.inl (nI (sK5 p k).op)), some (.inl (nI k))] [] W Q) 0 n (by omega) ?_ ?_
  · have la := up_loop (fun t => ∀ W, (∀ c k', ¬ (c = 150 ∧ k' = 4) → ¬ (151 ≤ c ∧ c ≤ 154) → W c k' = w c k') → W 150 4 = nI n → (∀ j, j < 72 → W 153 j = 0) → (∀ j, j < t → W 154 j = -1) → Gw zs 4 m_Ros_make 41 [some (.inr (.inl (some 150))), some (.inr (.inl (some 144))), some (.inr (.inl (some 16))), some (.inl (nI A)), some (.inl (nI n)), some (.inl (nI t)), none] [] W Q) 0 72 (by omega) ?_ ?_
    · have of := up_loop (fun t => ∀ W, (∀ c k', ¬ (c = 150 ∧ k' = 4) → ¬ (151 ≤ c ∧ c ≤ 154) → W c k' = w c k') → W 150 4 = nI n → (∀ j, j < t → W 153 j = 0) → Gw zs 4 m_Ros_make 14 [some (.inr (.inl (some 150))), some (.inr (.inl (some 144))), some (.inr (.inl (some 16))), some (.inl (nI A)), some (.inl (nI n)), some (.inl (nI t)), none] [] W Q) 0 72 (by omega) ?_ ?_
      · exact of (wr w 150 4 (nI n)) (fun c k' q1 _ => if_neg q1) wr_eq (fun j hj => by omega)
      · intro W a1 a2 a3
        exact sg_Ros_make_14 ⟨fun _ => la W a1 a2 a3 (fun j hj => by omega), fun c => absurd (nI_le (a := 72) (b := 72) (by omega) (by omega)) c⟩
      · intro t _ ht ih W a1 a2 a3
        refine sg_Ros_make_14 ⟨fun c => absurd c (nI_gle (a := 72) (b := t) (by omega) (by omega)), fun _ => ⟨vinN ht (by omega), ?_⟩⟩
        rw [nI_clampN (by omega), nI_1]
        refine ih _ (fun c k' q1 q2 => by rw [wr_nc (by omega)]; exact a1 c k' q1 q2) (by rw [wr_nc (by omega)]; exact a2) (fun j hj => ?_)
        by_cases q : j = t
        · subst q; rw [wr_eq]
        · rw [wr_nk q]; exact a3 j (by omega)
    · intro W a1 a2 a3 a4
      exact sg_Ros_make_41 ⟨fun _ => days W a1 a2 (fun k' hk' => by omega) a3 a4 (fun x hx v hv => by cases hv), fun c => absurd (nI_le (a := 72) (b := 72) (by omega) (by omega)) c⟩
    · intro t _ ht ih W a1 a2 a3 a4
      refine sg_Ros_make_41 ⟨fun c => absurd c (nI_gle (a := 72) (b := t) (by omega) (by omega)), fun _ => ⟨vinN ht (by omega), ?_⟩⟩
      rw [nI_clampN (by omega), nI_1]
      refine ih _ (fun c k' q1 q2 => by rw [wr_nc (by omega)]; exact a1 c k' q1 q2) (by rw [wr_nc (by omega)]; exact a2) (fun j hj => by rw [wr_nc (by omega)]; exact a3 j hj) (fun j hj => ?_)
      by_cases q : j = t
      · subst q; rw [wr_eq]
      · rw [wr_nk q]; exact a4 j (by omega)
  · intro W a1 a2 a3 a4 a5 a6
    refine sg_Ros_make_71 ?_
    rw [a2]
    exact ⟨fun _ => h W a1 a2 a3 a4 a5 a6, fun c => absurd (nI_le (Nat.le_refl _) (by omega)) c⟩
  · intro k _ hk ih W a1 a2 a3 a4 a5 a6
    have hdN : A + k < y.N := by omega
    have eR : f_Alm_rankOn W (nI A + nI k) = nI (drC (offF y (A + k))) := by
      have z : f_Alm_rankOn W (nI (A + k)) = f_Alm_rankOn w (nI (A + k)) := by
        unfold f_Alm_rankOn
        rw [f_at_in (by omega) (by omega), f_at_in (by omega) (by omega), a1 18 _ (by omega) (by omega)]
      rw [nI_add, z]
      exact (C_day hC hdN).2
    have r9 := (cOK_dk (okF hy hdN)).2.1
    refine sg_Ros_make_71 ?_
    rw [a2, eR, g_put_in (by omega) (by omega), nI_add]
    refine ⟨fun c => absurd c (nI_gle hk (by omega)), fun _ => ?_⟩
    have e7 : f_Alm_yearMadeFor (wr W 152 k (nI (drC (offF y (A + k))))) = nI (1900 + i) := by
      show wr W 152 k _ 16 7 = _
      rw [wr_nc (by omega), a1 _ _ (by omega) (by omega)]
      exact h7
    rw [e7]
    have b1 : ∀ c k', ¬ (c = 150 ∧ k' = 4) → ¬ (151 ≤ c ∧ c ≤ 154) → wr W 152 k (nI (drC (offF y (A + k)))) c k' = w c k' := fun c k' q1 q2 => by rw [wr_nc (by omega)]; exact a1 c k' q1 q2
    have b2 : wr W 152 k (nI (drC (offF y (A + k)))) 150 4 = nI n := by rw [wr_nc (by omega)]; exact a2
    have b3 : ∀ k', k' < k + 1 → wr W 152 k (nI (drC (offF y (A + k)))) 152 k' = nI (drC (offF y (A + k'))) := fun k' hk' => by
      by_cases q : k' = k
      · subst q; rw [wr_eq]
      · rw [wr_nk q]; exact a3 k' (by omega)
    have b4 : XC (wr W 152 k (nI (drC (offF y (A + k))))) (wr W 152 k (nI (drC (offF y (A + k))))) (cl5 (sK5 p k)) := ⟨fun _ _ _ _ _ => rfl, fun j hj => by rw [wr_nc (by omega)]; exact a4 j hj, fun j hj => by rw [wr_nc (by omega)]; exact a5 j hj, fun x hx v hv => by rw [wr_nc (by omega)]; exact a6 x hx v hv⟩
    generalize wr W 152 k (nI (drC (offF y (A + k)))) = W1 at b1 b2 b3 b4 ⊢
    have hp1 : MC5 W1 p := by
      obtain ⟨q1, q2, q3⟩ := hp
      exact ⟨(b1 _ _ (by omega) (by omega)).trans q1, q2, fun m hm r hr => by rw [b1 _ _ (by omega) (by omega)]; exact q3 m hm r hr⟩
    refine ew_awayBits (nM := p.nM) (nA := nA) ((b1 _ _ (by omega) (by omega)).trans hA.1) hA.2.1 hp.2.1 (fun j hj => ?_) (fun x hx => ⟨_, rfl, ?_⟩)
    · rw [b1 146 j (by omega) (by omega), b1 198 j (by omega) (by omega), b1 147 j (by omega) (by omega), b1 199 j (by omega) (by omega), b1 148 j (by omega) (by omega), b1 200 j (by omega) (by omega), b1 149 j (by omega) (by omega), b1 201 j (by omega) (by omega)]
      exact hA.2.2 j hj
    refine ew_fillDay hp1 (by omega) (fun r hr => ?_) b4 (fun m hm => ?_) (fun w' o c1 c2 => ⟨_, rfl, ?_⟩)
    · rw [b3 k (by omega), hs]
      obtain ⟨z1, z2, z3⟩ := nSt_is _ (show drC (offF y (A + k)) < 10 by omega) r hr
      exact ⟨z1, z3⟩
    · rw [hx m hm, hg, awM_cg (fun k => b1 _ _ (by omega) (by omega)) (fun k => b1 _ _ (by omega) (by omega)) (fun k => b1 _ _ (by omega) (by omega)) (fun k => b1 _ _ (by omega) (by omega))]
      exact ⟨Or.inl, fun z => z.elim id (fun z => by cases z)⟩
    · have es : sK5 p (k + 1) = sR5 p k (cl5 (sK5 p k)) 3 := rfl
      rw [← es] at c1 c2
      have eo : (nI (sK5 p k).op + nI o : Int32) = nI (sK5 p (k + 1)).op := by rw [nI_add, c2]; rfl
      rw [eo, nI_1]
      obtain ⟨x1, x2, x3, x4⟩ := c1
      exact ih w' (fun c k' q1 q2 => (x1 c k' (by omega) (by omega) (by omega)).trans (b1 c k' q1 q2)) ((x1 _ _ (by omega) (by omega) (by omega)).trans b2) (fun k' hk' => (x1 _ _ (by omega) (by omega) (by omega)).trans (b3 k' hk')) x2 x3 x4
/-! Rosters: the plain program's -/
def MR5 (w : Wd) (p : PT5) : Prop := w 155 52 = nI p.nM ∧ p.nM ≤ 24 ∧ ∀ m, m < p.nM → ∀ r, r < 3 → tbI (w 197 m) r = p.can m r
theorem ew_chosen {zs : List Int32} {w : Wd} {p : PT5} {s : ST5} {k r nA : Nat} {y d x : Int32} {Q : Option AV → Wd → Prop} (hp : MR5 w p) (hA : w 155 53 = nI nA) (hA2 : nA ≤ 60) (hg : ∀ m, p.gone k m = awM w y d m nA) (h1 : ∀ j, j < 72 → w 204 j = s.of j) (h2 : ∀ j, j < 72 → w 205 j = s.la j) (hr : r < 3) (hx : ∀ m, m < 24 → (tbI x m = true ↔ s.tk m = true)) (h : Q (some (.inl (oO (ch5 p s k r p.nM)))) w) : Ew zs 2 m_Md_chosen [.inr (.inl (some 155)), .inl y, .inl d, .inl (nI r), .inl x] w Q := by
  obtain ⟨hM, hM2, hcan⟩ := hp
  refine ew_of k_Md_chosen rfl (sg_Md_chosen_0 ?_)
  have g := up_loop (fun m => ∀ o7 o8, Gw zs 2 m_Md_chosen 6 [some (.inr (.inl (some 155))), some (.inl y), some (.inl d), some (.inl (nI r)), some (.inl x), some (.inl (oO (ch5 p s k r m))), some (.inl (nI m)), o7, o8] [] w Q) 0 p.nM (by omega) ?_ ?_
  · exact g none none
  · intro o7 o8
    refine sg_Md_chosen_6 ?_
    rw [hM]
    exact ⟨fun _ => h, fun c => absurd (nI_le (Nat.le_refl _) (by omega)) c⟩
  · intro m _ hm ih o7 o8
    have skip : ¬ el5 p s k r m = true → ∀ o7 o8, Gw zs 2 m_Md_chosen 6 [some (.inr (.inl (some 155))), some (.inl y), some (.inl d), some (.inl (nI r)), some (.inl x), some (.inl (oO (ch5 p s k r m))), some (.inl (nI (m + 1))), o7, o8] [] w Q := by
      intro q o7 o8
      have g := ih o7 o8
      simp only [ch5] at g
      rw [if_neg q] at g
      exact g
    have hel : el5 p s k r m = true ↔ (p.can m r = true ∧ ¬ s.tk m = true ∧ ¬ p.gone k m = true) := by
      unfold el5
      rw [Bool.and_eq_true, Bool.and_eq_true, Bool.not_eq_true', Bool.not_eq_true', Bool.not_eq_true, Bool.not_eq_true]
    have v24 := vinN (i := m) (n := 24) (by omega) (by omega)
    have e3 : ∀ z, (3 * nI z + nI r : Int32) = nI (3 * z + r) := fun z => by
      rw [show (3 : Int32) = nI 3 from rfl, pk_mul, nI_add]
    refine sg_Md_chosen_6 ?_
    rw [hM, nI_clampN (n := m) (by omega), tb_shr _ (m := r) (by omega), tb_shr _ (m := m) (by omega), hcan m hm r hr, nI_1]
    refine ⟨fun c => absurd c (nI_gle hm (by omega)), fun _ => ⟨v24, fun c => skip (fun q => ?_) _ _, fun c => ⟨fun c2 => skip (fun q => ?_) _ _, fun c2 => ?_⟩⟩⟩
    · rw [if_pos (hel.mp q).1] at c
      exact one_ne c
    · by_cases z : tbI x m = true
      · exact (hel.mp q).2.1 ((hx m (by omega)).mp z)
      · rw [if_neg z] at c2
        exact absurd c2 (by decide)
    · have hc : p.can m r = true := by
        by_cases q : p.can m r = true
        · exact q
        · rw [if_neg q] at c; exact absurd rfl c
      have nt : ¬ s.tk m = true := fun z => by
        rw [if_pos ((hx m (by omega)).mpr z)] at c2
        exact c2 rfl
      refine ew_isThere hA hA2 ⟨_, rfl, fun c3 => skip (fun q => ?_) _ _, fun c3 => ?_⟩
      · have ng := (hel.mp q).2.2
        rw [hg] at ng
        rw [if_neg ng] at c3
        exact one_ne c3
      · have ng : ¬ p.gone k m = true := fun z => by
          rw [hg] at z
          rw [if_pos z] at c3
          exact c3 rfl
        have he : el5 p s k r m = true := hel.mpr ⟨hc, nt, ng⟩
        have g := ih
        simp only [ch5] at g
        simp only [if_pos he] at g
        have v1 := vinN (i := 3 * m + r) (n := 72) (by omega) (by omega)
        cases hn : ch5 p s k r m with
        | none =>
          rw [hn] at g
          exact ⟨fun _ => g _ _, fun z => absurd rfl z⟩
        | some b =>
          rw [hn] at g
          have hb := ch5_lt hn
          have v2 := vinN (i := 3 * b + r) (n := 72) (by omega) (by omega)
          refine ⟨fun z => absurd z (m1_nI (n := b) (by omega)), fun _ => ?_⟩
          rw [show oO (some b) = nI b from rfl, e3, e3, nI_clampN (by omega), nI_clampN (by omega), h1 _ (by omega), h1 _ (by omega), h2 _ (by omega), h2 _ (by omega)]
          have yes : ah5 s r m b = true → ∀ o7 o8, Gw zs 2 m_Md_chosen 6 [some (.inr (.inl (some 155))), some (.inl y), some (.inl d), some (.inl (nI r)), some (.inl x), some (.inl (nI m)), some (.inl (nI (m + 1))), o7, o8] [] w Q := by
            intro q o7 o8
            have g2 := g o7 o8
            simp only [if_pos q] at g2
            exact g2
          have no : ¬ ah5 s r m b = true → ∀ o7 o8, Gw zs 2 m_Md_chosen 6 [some (.inr (.inl (some 155))), some (.inl y), some (.inl d), some (.inl (nI r)), some (.inl x), some (.inl (nI b)), some (.inl (nI (m + 1))), o7, o8] [] w Q := by
            intro q o7 o8
            have g2 := g o7 o8
            simp only [if_neg q] at g2
            exact g2
          refine ⟨v1, v2, fun z => yes (decide_eq_true (Or.inl z)) _ _, fun z => ⟨v1, v2, fun z2 => ⟨v1, v2, fun z3 => no (fun q => ?_) _ _, fun z3 => yes (decide_eq_true (Or.inr ⟨z2, ?_⟩)) _ _⟩, fun z2 => no (fun q => ?_) _ _⟩⟩
          · rcases of_decide_eq_true q with q2 | q2
            · exact z q2
            · exact i32_le.mpr z3 q2.2
          · by_cases z4 : s.la (3 * m + r) < s.la (3 * b + r)
            · exact z4
            · exact absurd (i32_le.mp z4) z3
          · rcases of_decide_eq_true q with q2 | q2
            · exact z q2
            · exact z2 q2.1
