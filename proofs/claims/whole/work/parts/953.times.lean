/-! Pairs: times -/
theorem deal_done {zs : List Int32} {w : Wd} {Q : Option AV → Wd → Prop} (h1 : w 22 11 = 1) (h : Q none w) : Ew zs 4 m_Psa_deal [.inr (.inl (some 22))] w Q := by
  refine ew_of k_Psa_deal rfl (sg_Psa_deal_0 ?_)
  rw [h1]
  exact ⟨fun c => absurd c one_ne, fun _ => h⟩
theorem dayT_cg {w w' : Wd} {u : Nat → Bool} {V : Nat → Nat} {H lim x p : Nat} {R : Int32} (e1 : w' 155 37 = w 155 37) (e2 : ∀ k, w' 182 k = w 182 k) (e3 : ∀ k, w' 183 k = w 183 k) (e4 : ∀ k, w' 184 k = w 184 k) : dayT w' u V H lim x p R = dayT w u V H lim x p R := by
  have f2 : w' 182 = w 182 := funext e2
  have f3 : w' 183 = w 183 := funext e3
  have f4 : w' 184 = w 184 := funext e4
  unfold dayT tD tF
  rw [e1, f2, f3, f4]
theorem stC_tr {w w1 w2 : Wd} {i : Nat} (h1 : stC w w1 i) (h2 : stC w1 w2 i) : stC w w2 i := ⟨fun c k q => (h2.1 c k q).trans (h1.1 c k q), h2.2.1, by rw [← yv_cg (stC_yr h1) i]; exact h2.2.2⟩
theorem par_times {zs : List Int32} (a0 a1 a2 a3 : Int32) : Par zs 7 m_Bk_times 6 m_Md_times [.inl a0, .inl a1, .inl a2, .inl a3] GS PY := by
  intro w hGS
  obtain ⟨hG, hP⟩ := hGS
  have hGS : GS w := ⟨hG, hP⟩
  have offY : ∀ {w1 : Wd} {i : Nat}, stC w w1 i → GS w1 ∧ ∀ c k, ¬ PY c k → w1 c k = w c k := by
    intro w1 i hC
    rcases Nat.lt_or_ge i 300 with hi | hi
    · exact ⟨⟨GU_C hi hG hC, GP_pu (off_C hC) hP⟩, fun c k q => off_C hC c k (fun z => q (Or.inl z))⟩
    · exact absurd hC.2.2.1.2.1 (by omega)
  refine ew_of k_Bk_times rfl (sg_Bk_times_0 ?_)
  have eP : f_Psa_hasPsalm a3 = f_Md_in a3 1 150 := rfl
  rw [eP]
  -- a refusal, from any world that the almanac has left
  have bad : ∀ w1, (GS w1 ∧ ∀ c k, ¬ PY c k → w1 c k = w c k) → (f_Md_isDay a0 a1 = 0 ∨ f_Md_isDay a0 a2 = 0 ∨ a2 < a1 ∨ f_Md_in a3 1 150 = 0) → ∃ r : Int32, (some (.inl (-1)) : Option AV) = some (.inl r) ∧ Ew zs 6 m_Md_times [.inr (.inl (some 155)), .inl a0, .inl a1, .inl a2, .inl a3] w1 (fun v2 w2 => v2 = some (.inl r) ∧ GS w2 ∧ ∀ c k, ¬ PY c k → w2 c k = w c k) := by
    intro w1 h1 q
    refine ⟨_, rfl, ew_of k_Md_times rfl (sg_Md_times_0 ⟨fun _ => ⟨rfl, h1⟩, fun q0 => ⟨fun _ => ⟨rfl, h1⟩, fun q1 => ⟨fun _ => ⟨rfl, h1⟩, fun q2 => ⟨fun _ => ⟨rfl, h1⟩, fun q3 => ?_⟩⟩⟩⟩)⟩
    exfalso
    rcases q with q | q | q | q
    · exact q0 q
    · exact q1 q
    · exact q2 q
    · exact q3 q
  rcases in_c (v := a3) (lo := 1) (hi := 150) 1 150 rfl rfl (by omega) (by omega) with ⟨e3, _⟩ | ⟨p, p1, p2, rfl, e3⟩
  · exact ⟨fun _ => bad w ⟨hGS, off_rf⟩ (Or.inr (Or.inr (Or.inr e3))), fun c => absurd e3 c⟩
  refine ⟨fun c => absurd c (in_n0 e3), fun _ => ?_⟩
  refine ew_openAt hG (fun e => ⟨_, rfl, fun _ => bad w ⟨hGS, off_rf⟩ (Or.inl e), fun c => absurd rfl c⟩) (fun i A hi ea hA eA e w0 hC0 => ⟨_, rfl, fun c => absurd c one_ne, fun _ => ?_⟩)
  have hG0 := GU_C hi hG hC0
  refine ew_openAt hG0 (fun e' => ⟨_, rfl, fun _ => bad w0 (offY hC0) (Or.inr (Or.inl e')), fun c => absurd rfl c⟩) (fun i' B hi' ea' hB eB e' w1 hC1 => ⟨_, rfl, fun c => absurd c one_ne, fun _ => ?_⟩)
  have ii : i' = i := by
    have := (nI_eq (by omega) (by omega)).mp (ea'.symm.trans ea)
    omega
  subst ii
  have hC := stC_tr hC0 hC1
  refine ⟨fun hle => ?_, fun hle => bad w1 (offY hC) (Or.inr (Or.inr (Or.inl (by rw [Int32.lt_iff_toInt_lt]; rw [Int32.le_iff_toInt_le] at hle; omega))))⟩
  subst ea; subst eA; subst eB
  have hG1 := GU_C hi hG hC
  have hP1 : GP w1 := GP_pu (off_C hC) hP
  have hy := yv_ok hG.1 hi
  have hN := hy.2.2.1
  have hf0 := hy.1
  have hAN : A < (yv w i').N := hA
  have hBN : B < (yv w i').N := hB
  have hAB : A ≤ B := by
    rcases Nat.lt_or_ge B A with q | q
    · exact absurd hle (nI_gle q (by omega))
    · exact q
  have hx : ∀ d, (yv w i').wd d < 7 := fun d => Nat.mod_lt _ (by omega)
  -- the first day's dealing
  obtain ⟨c1, c2⟩ := C_day hC.2.2 hAN
  refine sg_Bk_times_49 ⟨fun c => absurd c (nI_nlt hAB (by omega)), fun _ => ?_⟩
  rw [c1, c2]
  refine ew_of k_Psa_timesSung rfl (sg_Psa_timesSung_0 (both_deal hP1.1 hP1.2.1 hP1.2.2 (fun w2 a hR2 hZ2 hC2 => ⟨rfl, ?_⟩)))
  have hCC := hC2
  obtain ⟨u, V, H, lim, d1, d2, d3, d4, d5, d6, d7, d8, d9⟩ := hC2
  have w2w : ∀ c k, ¬ PU c k → ¬ PDl c k → w2 c k = w c k := fun c k q1 q2 => (a c k q2).trans (off_C hC c k q1)
  have hG2 : GU w2 := GU_pp (fun c k q => a c k (by unfold PU at q; unfold PDl; omega)) hG1
  have o2 : OYr w2 w1 := fun c k q => a c k (by unfold PDl; omega)
  have ey : yv w2 i' = yv w i' := (yv_cg o2 i').trans (yv_cg (stC_yr hC) i')
  have hCw2 : CYr w2 i' (yv w i') := CYr_cg o2 (fun c k q1 q2 => a c k (by unfold PDl; omega)) hC.2.2
  -- how often, up to a day
  have T : ∃ T : Nat → Nat, ∀ n, T n = sumH (fun j => dayT w2 u V H lim ((yv w i').wd (A + j)) p (nI (drC (offF (yv w i') (A + j))))) n := ⟨_, fun _ => rfl⟩
  obtain ⟨T, hT⟩ := T
  have T0 : T 0 = 0 := by rw [hT]; rfl
  have Ts : ∀ n, T (n + 1) = T n + dayT w2 u V H lim ((yv w i').wd (A + n)) p (nI (drC (offF (yv w i') (A + n)))) := fun n => by rw [hT, hT]; rfl
  -- the plain program
  have ref : Ew zs 6 m_Md_times [.inr (.inl (some 155)), .inl (nI (1900 + i')), .inl (nI A), .inl (nI B), .inl (nI p)] w2 (fun v2 w5 => v2 = some (.inl (nI (T (B + 1 - A)))) ∧ GS w5 ∧ ∀ c k, ¬ PY c k → w5 c k = w c k) := by
    refine ew_of k_Md_times rfl (sg_Md_times_0 ⟨fun c => absurd c (fun z => one_ne (e.symm.trans z)), fun _ => ⟨fun c => absurd c (fun z => one_ne (e'.symm.trans z)), fun _ => ⟨fun c => absurd c (nI_nlt hAB (by omega)), fun _ => ⟨fun c => absurd c (in_n0 e3), fun _ => ?_⟩⟩⟩⟩)
    refine ew_reck hG2 hi (fun w3 hM => ⟨rfl, ?_⟩)
    have hM3 := hM.2.2
    rw [ey] at hM3
    have m3 : ∀ c k, ¬ PRk c k → ¬ PCo c k → w3 c k = w2 c k := hM.1
    have hI3 : InM w3 u V H := InM_cg (m3 _ _ (by unfold PRk; omega) (by unfold PCo; omega)) (fun k => m3 _ _ (by unfold PRk; omega) (by unfold PCo; omega)) (fun k => m3 _ _ (by unfold PRk; omega) (by unfold PCo; omega)) (inm_of hR2 d1)
    refine ew_mdeal hI3 (fun w4 lim' m4 _ l1 l2 l3 => ⟨rfl, ?_⟩)
    have el := least_eq l1 d5
    subst el
    have w4w : ∀ c k, ¬ PRk c k → ¬ PCo c k → ¬ PDm c k → w4 c k = w2 c k := fun c k q1 q2 q3 => (m4 c k q3).trans (m3 c k q1 q2)
    have hI4 : InM w4 u V H := InM_cg (m4 _ _ (by unfold PDm; omega)) (fun k => m4 _ _ (by unfold PDm; omega)) (fun k => m4 _ _ (by unfold PDm; omega)) hI3
    have e29 : w4 155 29 = nI (yv w i').f0 := (m4 _ _ (by unfold PDm; omega)).trans hM3.1.2.2.2.2.1
    have hR4 : RP w4 := RP_cg2 (fun c k hp => w4w c k (by unfold PR2 at hp; unfold PRk; omega) (by unfold PR2 at hp; unfold PCo; omega) (by unfold PR2 at hp; unfold PDm; omega)) hR2
    have fin : ∀ w5, OS w5 w4 → GS w5 ∧ ∀ c k, ¬ PY c k → w5 c k = w c k := by
      intro w5 s1
      have w5w : ∀ c k, ¬ PRk c k → ¬ PCo c k → ¬ PDm c k → c ≠ 188 → ¬ (c = 155 ∧ k = 42) → w5 c k = w2 c k := fun c k q1 q2 q3 q4 q5 => (s1 c k q4 q5).trans (w4w c k q1 q2 q3)
      refine ⟨⟨GU_pp (fun c k q => (s1 c k (by unfold PU at q; omega) (by unfold PU at q; omega)).trans (m4 c k (by unfold PU at q; unfold PDm; omega))) (GU_R hi hG2 hM), RP_cg2 (fun c k hp => w5w c k (by unfold PR2 at hp; unfold PRk; omega) (by unfold PR2 at hp; unfold PCo; omega) (by unfold PR2 at hp; unfold PDm; omega) (by unfold PR2 at hp; omega) (by unfold PR2 at hp; omega)) hR2, Or.inr (DC_cg (fun c k hp => w5w c k (by unfold PD at hp; unfold PRk; omega) (by unfold PD at hp; unfold PCo; omega) (by unfold PD at hp; unfold PDm; omega) (by unfold PD at hp; omega) (by unfold PD at hp; omega)) hCC), ?_⟩, fun c k hp => ?_⟩
      · rw [w5w _ _ (by unfold PRk; omega) (by unfold PCo; omega) (by unfold PDm; omega) (by omega) (by omega)]; exact hZ2
      · unfold PY PU PP at hp
        rw [w5w c k (by unfold PRk; omega) (by unfold PCo; omega) (by unfold PDm; omega) (by omega) (by omega)]
        exact w2w c k (by unfold PU; omega) (by unfold PDl; omega)
    have g := up_loop (fun n => ∀ w5 o7 o8, OS w5 w4 → Gw zs 6 m_Md_times 50 [some (.inr (.inl (some 155))), some (.inl (nI (1900 + i'))), some (.inl (nI A)), some (.inl (nI B)), some (.inl (nI p)), some (.inl (nI (T n))), some (.inl (nI (A + n))), o7, o8] [] w5 (fun v2 w5 => v2 = some (.inl (nI (T (B + 1 - A)))) ∧ GS w5 ∧ ∀ c k, ¬ PY c k → w5 c k = w c k)) 0 (B + 1 - A) (by omega) ?_ ?_
    · have g0 := g w4 none none (fun _ _ _ _ => rfl)
      rw [T0] at g0
      exact g0
    · intro w5 o7 o8 hO
      refine sg_Md_times_50 ⟨fun _ => ⟨rfl, fin w5 hO⟩, fun c => absurd (nI_lt (by omega) (by omega)) c⟩
    · intro n _ hn ih w5 o7 o8 hO
      have hdN : A + n < (yv w i').N := by omega
      refine sg_Md_times_50 ⟨fun c => absurd c (nI_nlt (by omega) (by omega)), fun _ => ?_⟩
      have e173 : w4 173 (A + n) = nI (drC (offF (yv w i') (A + n))) := (m4 _ _ (by unfold PDm; omega)).trans (hM3.2.1 _ hdN).2.2.1
      refine rtimes_day (w := w4) (x := (yv w i').wd (A + n)) (T0 := T n) hR4 hI4 l3 (by omega) (hx _) p1 p2 (by rw [e29, nI_add, nI_mod7 (by omega)]; rfl) (fun w6 o7 o8 hO6 => ?_) w5 o8 hO
      have ed : dayT w4 u V H lim' ((yv w i').wd (A + n)) p (w4 173 (A + n)) = dayT w2 u V H lim' ((yv w i').wd (A + n)) p (nI (drC (offF (yv w i') (A + n)))) := by
        rw [e173]
        exact dayT_cg (w4w _ _ (by unfold PRk; omega) (by unfold PCo; omega) (by unfold PDm; omega)) (fun k => w4w _ _ (by unfold PRk; omega) (by unfold PCo; omega) (by unfold PDm; omega)) (fun k => w4w _ _ (by unfold PRk; omega) (by unfold PCo; omega) (by unfold PDm; omega)) (fun k => w4w _ _ (by unfold PRk; omega) (by unfold PCo; omega) (by unfold PDm; omega))
      rw [ed, ← Ts]
      exact ih w6 o7 o8 hO6
  -- the almanac's days behind the first one
  have more := up_loop (fun n => Gw zs 7 m_Bk_times 49 [some (.inr (.inl (some 0))), some (.inl (nI (1900 + i'))), some (.inl (nI A)), some (.inl (nI B)), some (.inl (nI p)), some (.inl (nI (T n))), some (.inl (nI (A + n)))] [] w2 (fun v w1 => ∃ r : Int32, v = some (.inl r) ∧ Ew zs 6 m_Md_times (.inr (.inl (some 155)) :: [.inl (nI (1900 + i')), .inl (nI A), .inl (nI B), .inl (nI p)]) w1 (fun v2 w2 => v2 = some (.inl r) ∧ GS w2 ∧ ∀ c k, ¬ PY c k → w2 c k = w c k))) 1 (B + 1 - A) (by omega) ?_ ?_
  · refine ctimes_at hR2 d1 d5.1 (hx A) p1 p2 d8 d9 ⟨_, rfl, ?_⟩
    have t1 := Ts 0
    rw [T0] at t1
    simp only [Nat.add_zero, Nat.zero_add] at t1
    rw [← t1]
    have z : (0 + nI (T 1) : Int32) = nI (T 1) := by rw [Int32.zero_add]
    rw [z, nI_1]
    exact more
  · exact sg_Bk_times_49 ⟨fun _ => ⟨_, rfl, ref⟩, fun c => absurd (nI_lt (by omega) (by omega)) c⟩
  · intro n _ hn ih
    have hdN : A + n < (yv w i').N := by omega
    obtain ⟨c1, c2⟩ := C_day hCw2 hdN
    refine sg_Bk_times_49 ⟨fun c => absurd c (nI_nlt (by omega) (by omega)), fun _ => ?_⟩
    rw [c1, c2]
    refine ew_of k_Psa_timesSung rfl (sg_Psa_timesSung_0 (deal_done d2 ⟨rfl, ?_⟩))
    refine ctimes_at hR2 d1 d5.1 (hx (A + n)) p1 p2 d8 d9 ⟨_, rfl, ?_⟩
    rw [nI_add, ← Ts, nI_1]
    exact ih
