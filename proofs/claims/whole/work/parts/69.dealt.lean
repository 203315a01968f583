/-! Dealing: the pair -/
theorem InM_cg {w w' : Wd} {u : Nat → Bool} {V : Nat → Nat} {H : Nat} (e1 : w' 155 36 = w 155 36) (e2 : ∀ k, w' 181 k = w 181 k) (e3 : ∀ k, w' 182 k = w 182 k) (h : InM w u V H) : InM w' u V H := by
  obtain ⟨a, b, c, d⟩ := h
  refine ⟨a, b, by rw [e1]; exact c, fun q hq => ?_⟩
  rw [e2, e3]; exact d q hq
def PDm (c k : Nat) : Prop := (c = 155 ∧ k = 38) ∨ c = 185 ∨ c = 186 ∨ c = 187
theorem ew_mdeal {zs : List Int32} {w0 : Wd} {u : Nat → Bool} {V : Nat → Nat} {H : Nat} {Q : Option AV → Wd → Prop} (hI : InM w0 u V H)
    (h : ∀ w' lim, (∀ c k, ¬ PDm c k → w' c k = w0 c k) → lim ≤ 30000 → isLeast (fun i => V (rf u 150 i)) (cnt u 150) (7 * H) lim → w' 155 38 = nI lim → FB w' (fun i => V (rf u 150 i)) (rf u 150) (st (fun i => V (rf u 150 i)) (cnt u 150) lim) (7 * H) → Q none w') : Ew zs 1 m_Md_deal [.inr (.inl (some 155))] w0 Q := by
  refine ew_of k_Md_deal rfl (sg_Md_deal_0 ?_)
  have hI0 := hI
  obtain ⟨hH1, hH, h36, hq⟩ := hI
  have hm := cnt_le u 150
  have v200 : ∀ i, i < cnt u 150 → V (rf u 150 i) ≤ 200 := fun i hi => (hq _ (rf_of hi).2.1).2.2.2
  have s3 := Sm_30000 (v := fun i => V (rf u 150 i)) hm v200 (Nat.le_refl _)
  have key : ∀ n lo hi w' o3, lo ≤ hi → hi ≤ lo + n → hi ≤ 30000 → enough (fun i => V (rf u 150 i)) (cnt u 150) (7 * H) hi → (∀ l, l < lo → ¬ enough (fun i => V (rf u 150 i)) (cnt u 150) (7 * H) l) → (∀ c k, c ≠ 185 → c ≠ 186 → c ≠ 187 → w' c k = w0 c k) → Gw zs 1 m_Md_deal 6 [some (.inr (.inl (some 155))), some (.inl (nI lo)), some (.inl (nI hi)), o3] [] w' Q := by
    intro n
    induction n with
    | zero =>
      intro lo hi w' o3 h1 h2 h3 h4 h5 h6
      have e : hi = lo := by omega
      subst e
      refine sg_Md_deal_6 ⟨fun _ => ?_, fun c => absurd (nI_le (Nat.le_refl _) (by omega)) c⟩
      have hI' : InM (wr w' 155 38 (nI hi)) u V H := InM_cg (w := w0) (by rw [wr_nk (by omega)]; exact h6 _ _ (by omega) (by omega) (by omega)) (fun k => by rw [wr_nc (by omega)]; exact h6 _ _ (by omega) (by omega) (by omega)) (fun k => by rw [wr_nc (by omega)]; exact h6 _ _ (by omega) (by omega) (by omega)) hI0
      refine ew_deals hI' h3 (fun _ w2 a b => ⟨_, rfl, h w2 hi (fun c k hp => ?_) h3 ⟨h4, h5⟩ ?_ b⟩) (fun z => absurd h4 z)
      · unfold PDm at hp
        rw [a _ _ (by omega) (by omega) (by omega)]
        have z : wr w' 155 38 (nI hi) c k = w' c k := by unfold wr; rw [if_neg (by omega)]
        rw [z]
        exact h6 _ _ (by omega) (by omega) (by omega)
      · rw [a _ _ (by omega) (by omega) (by omega), wr_eq]
    | succ n ih =>
      intro lo hi w' o3 h1 h2 h3 h4 h5 h6
      rcases Nat.lt_or_ge lo hi with hlt | hge
      · refine sg_Md_deal_6 ⟨fun c => absurd c (nI_gle hlt (by omega)), fun _ => ?_⟩
        have em : ((nI lo + nI hi) / 2 : Int32) = nI ((lo + hi) / 2) := by
          rw [nI_add, show (2 : Int32) = nI 2 from rfl, nI_div (by omega) (by omega) (by omega)]
        rw [em, nI_1]
        have hI' : InM w' u V H := InM_cg (w := w0) (h6 _ _ (by omega) (by omega) (by omega)) (fun k => h6 _ _ (by omega) (by omega) (by omega)) (fun k => h6 _ _ (by omega) (by omega) (by omega)) hI0
        refine ew_deals hI' (by omega) (fun he w2 a b => ⟨_, rfl, fun z => absurd z one_ne, fun _ => ?_⟩) (fun he w2 a => ⟨_, rfl, fun _ => ?_, fun z => absurd rfl z⟩)
        · exact ih lo ((lo + hi) / 2) w2 _ (by omega) (by omega) (by omega) he h5 (fun c k p1 p2 p3 => (a c k p1 p2 p3).trans (h6 c k p1 p2 p3))
        · exact ih ((lo + hi) / 2 + 1) hi w2 _ (by omega) (by omega) h3 h4 (fun l hl z => he (enough_up (by omega) z)) (fun c k p1 p2 p3 => (a c k p1 p2 p3).trans (h6 c k p1 p2 p3))
      · exact ih lo hi w' o3 h1 (by omega) h3 h4 h5 h6
  exact key 30000 0 30000 w0 none (by omega) (by omega) (by omega) (enough_all (by omega) s3) (fun l hl => by omega) (fun _ _ _ _ _ => rfl)
def PR2 (c k : Nat) : Prop := (c = 22 ∧ (k = 8 ∨ k = 9)) ∨ (23 ≤ c ∧ c ≤ 26) ∨ (181 ≤ c ∧ c ≤ 184) ∨ (c = 155 ∧ (k = 36 ∨ k = 37))
theorem RP_cg2 {w w' : Wd} (e : ∀ c k, PR2 c k → w' c k = w c k) (h : RP w) : RP w' := by
  obtain ⟨hv, H, r, a1, a2, a3, a4, a5, a6, a7, a8, hf, hfe⟩ := h
  refine ⟨Vs_cg (fun k => e _ _ (by unfold PR2; omega)) (fun k => e _ _ (by unfold PR2; omega)) hv, H, r, a1, a2, a3, a4, ?_, ?_, ?_, ?_, Fx_cg (fun k => e _ _ (by unfold PR2; omega)) (fun k => e _ _ (by unfold PR2; omega)) hf, Fe_cg (fun k => e _ _ (by unfold PR2; omega)) (fun k => e _ _ (by unfold PR2; omega)) (fun k => e _ _ (by unfold PR2; omega)) (fun k => e _ _ (by unfold PR2; omega)) hfe⟩
  · rw [e _ _ (by unfold PR2; omega)]; exact a5
  · rw [e _ _ (by unfold PR2; omega)]; exact a6
  · rw [e _ _ (by unfold PR2; omega)]; exact a7
  · rw [e _ _ (by unfold PR2; omega)]; exact a8
theorem inp_of {w : Wd} (hR : RP w) : ∃ u V H, Inp w u V H := by
  obtain ⟨hv, H, r, a1, a2, a3, a4, a5, a6, a7, a8, hf, hfe⟩ := hR
  refine ⟨fun q => decide (w 24 (q + 1) = -1), fun q => (w 23 (q + 1)).toNatClampNeg, H, a1, a2, a5, fun q hq => ⟨by simp, ?_⟩⟩
  obtain ⟨n, n1, n2, n3, n4⟩ := hv q hq
  simp only [n3]
  rw [nI_clampN (by omega)]
  exact ⟨rfl, n1, n2⟩
theorem inm_of {w : Wd} {u : Nat → Bool} {V : Nat → Nat} {H : Nat} (hR : RP w) (hI : Inp w u V H) : InM w u V H := by
  obtain ⟨hv, H', r, a1, a2, a3, a4, a5, a6, a7, a8, hf, hfe⟩ := hR
  obtain ⟨b1, b2, b3, b4⟩ := hI
  refine ⟨b1, b2, by rw [a6, ← a5, b3], fun q hq => ?_⟩
  obtain ⟨c1, c2, c3, c4⟩ := b4 q hq
  obtain ⟨n, n1, n2, n3, n4⟩ := hv q hq
  rw [← (hf q hq).1]
  exact ⟨c1, by rw [n4, ← n3, c2], c3, c4⟩
/-- both deal: the class first -/
theorem both_deal {zs : List Int32} {w0 : Wd} {Q : Option AV → Wd → Prop} (hR : RP w0) (hD : DD w0) (hZ : w0 28 0 = 0) (h : ∀ w', (∀ c k, ¬ PDl c k → w' c k = w0 c k) → RP w' → w' 28 0 = 0 → DC w' → Q none w') : Ew zs 4 m_Psa_deal [.inr (.inl (some 22))] w0 Q := by
  obtain ⟨u, V, H, hI⟩ := inp_of hR
  refine ew_deal hD hZ hI (fun w' a b => h w' a (RP_cg2 (fun c k hp => a c k (by unfold PR2 at hp; unfold PDl; omega)) hR) ?_ b)
  rw [a _ _ (by unfold PDl; omega)]; exact hZ
theorem slot_nI {a b H : Nat} : (nI a * nI H + nI b : Int32) = nI (a * H + b) := by
  have e : (nI a * nI H : Int32) = nI (a * H) := by rw [Int32.mul_comm, pk_mul, Nat.mul_comm]
  rw [e, nI_add]
theorem countD {w : Wd} {v : Nat → Nat} {m lim H a b : Nat} (h8 : w 22 8 = nI H) (hH : H ≤ 8) (ha : a < 7) (hb : b < H) (h28 : ∀ k, k ≤ 7 * H → w 28 k = nI (st v m lim k)) : f_Psa_countDealt w (nI a) (nI b) = nI (st v m lim (a * H + b + 1) - st v m lim (a * H + b)) ∧ a * H + b < 7 * H := by
  have hs : a * H + b < 7 * H := by
    have : a * H ≤ 6 * H := Nat.mul_le_mul_right H (by omega)
    omega
  refine ⟨?_, hs⟩
  unfold f_Psa_countDealt
  rw [h8, slot_nI, nI_1, f_at_in (by omega) (by omega), f_at_in (by omega) (by omega), h28 _ (by omega), h28 _ (by omega), pk_sub (st_up _)]
theorem psalmD {w : Wd} {v r : Nat → Nat} {m lim H a b i : Nat} (h8 : w 22 8 = nI H) (hH : H ≤ 8) (ha : a < 7) (hb : b < H) (h28 : ∀ k, k ≤ 7 * H → w 28 k = nI (st v m lim k)) (hrow : ROW w m r v) (hi : i < 1000) : f_Psa_dealtPsalm w (nI a) (nI b) (nI i) = if i < st v m lim (a * H + b + 1) - st v m lim (a * H + b) then nI (r (st v m lim (a * H + b) + i) + 1) else -1 := by
  obtain ⟨e, hs⟩ := countD h8 hH ha hb h28
  have sl := st_le (v := v) (m := m) (lim := lim) (a * H + b + 1)
  obtain ⟨hm, -, hrow⟩ := hrow
  unfold f_Psa_dealtPsalm
  rw [e, h8, slot_nI, f_at_in (c := 28) (by omega) (by omega), h28 _ (by omega), nI_add]
  by_cases c : i < st v m lim (a * H + b + 1) - st v m lim (a * H + b)
  · rw [if_pos c, if_neg (nI_gle c (by omega)), f_at_in (by omega) (by omega)]
    exact (hrow _ (by omega)).2.1
  · rw [if_neg c, if_pos (nI_le (by omega) (by omega))]
theorem ew_versesD {zs : List Int32} {w : Wd} {v r : Nat → Nat} {m lim H a b : Nat} {Q : Option AV → Wd → Prop} (h8 : w 22 8 = nI H) (hH : H ≤ 8) (ha : a < 7) (hb : b < H) (h28 : ∀ k, k ≤ 7 * H → w 28 k = nI (st v m lim k)) (hrow : ROW w m r v) (h : Q (some (.inl (nI (Sm v (st v m lim (a * H + b + 1)) - Sm v (st v m lim (a * H + b)))))) w) : Gw zs 5 m_Psa_versesDealt 17 [some (.inr (.inl (some 22))), some (.inl (nI a)), some (.inl (nI b)), some (.inl 0), some (.inl (f_Psa_countDealt w (nI a) (nI b))), some (.inl 0)] [] w Q := by
  obtain ⟨e, hs⟩ := countD h8 hH ha hb h28
  have su := st_up (v := v) (m := m) (lim := lim) (a * H + b)
  have sl := st_le (v := v) (m := m) (lim := lim) (a * H + b + 1)
  have hm := hrow.1
  rw [e]
  have g := up_loop (fun i => Gw zs 5 m_Psa_versesDealt 17 [some (.inr (.inl (some 22))), some (.inl (nI a)), some (.inl (nI b)), some (.inl (nI (Sm v (st v m lim (a * H + b) + i) - Sm v (st v m lim (a * H + b))))), some (.inl (nI (st v m lim (a * H + b + 1) - st v m lim (a * H + b)))), some (.inl (nI i))] [] w Q) 0 (st v m lim (a * H + b + 1) - st v m lim (a * H + b)) (by omega) ?_ ?_
  · rw [Nat.add_zero, Nat.sub_self] at g
    exact g
  · refine sg_Psa_versesDealt_17 ⟨fun _ => ?_, fun c => absurd (nI_le (Nat.le_refl _) (by omega)) c⟩
    rw [show st v m lim (a * H + b) + (st v m lim (a * H + b + 1) - st v m lim (a * H + b)) = st v m lim (a * H + b + 1) by omega]
    exact h
  · intro i _ hi ih
    refine sg_Psa_versesDealt_17 ⟨fun c => absurd c (nI_gle hi (by omega)), fun _ => ?_⟩
    obtain ⟨r1, r2, r3, r4, r5⟩ := hrow.2.2 (st v m lim (a * H + b) + i) (by omega)
    have mono := Sm_mono (v := v) (show st v m lim (a * H + b) ≤ st v m lim (a * H + b) + i by omega)
    have eS : Sm v (st v m lim (a * H + b) + (i + 1)) = Sm v (st v m lim (a * H + b) + i) + v (st v m lim (a * H + b) + i) := rfl
    rw [psalmD h8 hH ha hb h28 hrow (by omega), if_pos hi, f_at_in (by omega) (by omega), r3, nI_add, nI_1, show Sm v (st v m lim (a * H + b) + i) - Sm v (st v m lim (a * H + b)) + v (st v m lim (a * H + b) + i) = Sm v (st v m lim (a * H + b) + (i + 1)) - Sm v (st v m lim (a * H + b)) by omega]
    exact ih
def GP (w : Wd) : Prop := RP w ∧ DD w ∧ w 28 0 = 0
theorem GP_after {w w1 w2 : Wd} (hR : RP w1) (hZ : w1 28 0 = 0) (hC : DC w1) (a : ∀ c k, ¬ PDl c k → w1 c k = w c k) (b : ∀ c k, ¬ PDm c k → w2 c k = w1 c k) : GP w2 ∧ ∀ c k, ¬ PP c k → w2 c k = w c k := by
  refine ⟨⟨RP_cg2 (fun c k hp => b c k (by unfold PR2 at hp; unfold PDm; omega)) hR, Or.inr (DC_cg (fun c k hp => b c k (by unfold PD at hp; unfold PDm; omega)) hC), ?_⟩, fun c k hp => ?_⟩
  · rw [b _ _ (by unfold PDm; omega)]; exact hZ
  · unfold PP at hp
    rw [b _ _ (by unfold PDm; omega), a _ _ (by unfold PDl; omega)]
theorem weekday_c (v : Int32) : f_Md_in v 0 6 = 0 ∨ ∃ a, a < 7 ∧ v = nI a ∧ f_Md_in v 0 6 = 1 := by
  rcases in_c (v := v) (lo := 0) (hi := 6) 0 6 rfl rfl (by omega) (by omega) with ⟨e, _⟩ | ⟨a, _, a2, rfl, e⟩
  · exact Or.inl e
  · exact Or.inr ⟨a, by omega, rfl, e⟩
/-- the plain program's dealing behind the class': what it leaves -/
theorem mdeal_at {zs : List Int32} {w w1 : Wd} {u : Nat → Bool} {V : Nat → Nat} {H lim : Nat} {Q : Option AV → Wd → Prop} (hR : RP w1) (hZ : w1 28 0 = 0) (hC : DC w1) (a : ∀ c k, ¬ PDl c k → w1 c k = w c k) (hI : Inp w1 u V H) (hL : isLeast (fun i => V (rf u 150 i)) (cnt u 150) (7 * H) lim)
    (h : ∀ w2, GP w2 → (∀ c k, ¬ PP c k → w2 c k = w c k) → (∀ c k, ¬ PDm c k → w2 c k = w1 c k) → w2 155 36 = nI H → w2 155 38 = nI lim → FB w2 (fun i => V (rf u 150 i)) (rf u 150) (st (fun i => V (rf u 150 i)) (cnt u 150) lim) (7 * H) → Q none w2) : Ew zs 1 m_Md_deal [.inr (.inl (some 155))] w1 Q := by
  have hM := inm_of hR hI
  refine ew_mdeal hM (fun w2 lim' b c d e f => ?_)
  have := least_eq d hL
  subst this
  obtain ⟨g1, g2⟩ := GP_after hR hZ hC a b
  exact h w2 g1 g2 b ((b _ _ (by unfold PDm; omega)).trans hM.2.2.1) e f
theorem par_dealt {zs : List Int32} (a0 a1 a2 : Int32) : Par zs 6 m_Bk_dealt 2 m_Md_dealt [.inl a0, .inl a1, .inl a2] GP PP := by
  intro w hG
  have hG0 := hG
  obtain ⟨hR, hD, hZ⟩ := hG
  refine ew_of k_Bk_dealt rfl (sg_Bk_dealt_0 ?_)
  rw [show f_Bk_within = f_Md_in from rfl]
  obtain ⟨hv, H0, r0, b1, b2, b3, b4, b5, b6, b7, b8, hf, hfe⟩ := hR
  have hR : RP w := hG0.1
  refine ⟨fun c3 => ?_, fun c3 => ?_⟩
  · refine ew_of k_Psa_leastLimit rfl (sg_Psa_leastLimit_0 (both_deal hR hD hZ (fun w1 a hR1 hZ1 hC => ⟨rfl, _, rfl, _, rfl, ?_⟩)))
    have hC0 := hC
    obtain ⟨u, V, H, lim, d1, d2, d3, d4, d5, d6, d7, d8, d9⟩ := hC
    refine ew_of k_Md_dealt rfl (sg_Md_dealt_0 ⟨fun _ => ?_, fun z => absurd c3 z⟩)
    refine mdeal_at hR1 hZ1 hC0 a d1 d5 (fun w2 g1 g2 g3 g4 g5 g6 => ⟨rfl, ?_, g1, g2⟩)
    rw [g5, d6]
  -- the plain program's refusals
  have bad : (f_Md_in a0 0 6 = 0 ∨ f_Md_in a1 0 (w 155 36 - 1) = 0 ∨ f_Md_in a2 0 2 = 0) → ∃ r : Int32, (some (.inl (-1)) : Option AV) = some (.inl r) ∧ Ew zs 2 m_Md_dealt [.inr (.inl (some 155)), .inl a0, .inl a1, .inl a2] w (fun v2 w2 => v2 = some (.inl r) ∧ GP w2 ∧ ∀ c k, ¬ PP c k → w2 c k = w c k) := by
    intro q
    refine ⟨_, rfl, ew_of k_Md_dealt rfl (sg_Md_dealt_0 ⟨fun z => absurd z c3, fun _ => ⟨fun _ => ⟨rfl, hG0, off_rf⟩, fun q0 => ⟨fun _ => ⟨rfl, hG0, off_rf⟩, fun q1 => ⟨fun _ => ⟨rfl, hG0, off_rf⟩, fun q2 => ?_⟩⟩⟩⟩)⟩
    rcases q with q | q | q
    · exact absurd q q0
    · exact absurd q q1
    · exact absurd q q2
  rcases weekday_c a0 with e0 | ⟨x, hx, rfl, e0⟩
  · exact ⟨fun _ => bad (Or.inl e0), fun z => absurd e0 z⟩
  refine ⟨fun z => absurd z (in_n0 e0), fun _ => ?_⟩
  rcases in_cnt a1 (n := H0) (by omega) with ⟨e1, h⟩ | ⟨y, hy, rfl, e1⟩
  · have hh := hasHour_out (w := w) b5 h
    rw [b6] at bad
    exact ⟨fun _ => bad (Or.inr (Or.inl e1)), fun z => absurd hh z⟩
  have hh := hasHour_in (w := w) b5 hy (by omega)
  have e1' : ∀ {w2 : Wd}, w2 155 36 = nI H0 → ¬ f_Md_in (nI y) 0 (w2 155 36 - 1) = 0 := fun q => by rw [q]; exact in_n0 e1
  refine ⟨fun z => absurd (hh.symm.trans z) one_ne, fun _ => ?_⟩
  -- what the plain program answers, when all is well
  have good : ∀ {w1 : Wd} {u : Nat → Bool} {V : Nat → Nat} {H lim : Nat} (res : Int32), RP w1 → w1 28 0 = 0 → DC w1 → (∀ c k, ¬ PDl c k → w1 c k = w c k) → Inp w1 u V H → isLeast (fun i => V (rf u 150 i)) (cnt u 150) (7 * H) lim → f_Md_in a2 0 2 = 1 →
      (H = H0 → (a2 = 0 → res = if st (fun i => V (rf u 150 i)) (cnt u 150) lim (x * H + y) < st (fun i => V (rf u 150 i)) (cnt u 150) lim (x * H + y + 1) then nI (rf u 150 (st (fun i => V (rf u 150 i)) (cnt u 150) lim (x * H + y)) + 1) else -1) ∧ (a2 = 1 → res = nI (st (fun i => V (rf u 150 i)) (cnt u 150) lim (x * H + y + 1) - st (fun i => V (rf u 150 i)) (cnt u 150) lim (x * H + y))) ∧ (a2 = 2 → res = nI (Sm (fun i => V (rf u 150 i)) (st (fun i => V (rf u 150 i)) (cnt u 150) lim (x * H + y + 1)) - Sm (fun i => V (rf u 150 i)) (st (fun i => V (rf u 150 i)) (cnt u 150) lim (x * H + y))))) →
      Ew zs 2 m_Md_dealt [.inr (.inl (some 155)), .inl (nI x), .inl (nI y), .inl a2] w1 (fun v2 w2 => v2 = some (.inl res) ∧ GP w2 ∧ ∀ c k, ¬ PP c k → w2 c k = w c k) := by
    intro w1 u V H lim res hR1 hZ1 hC a hI hL e2 hres
    have h36 : w1 155 36 = nI H0 := (a _ _ (by unfold PDl; omega)).trans b6
    have hHH : H = H0 := by
      have z := hI.2.2.1
      rw [a _ _ (by unfold PDl; omega), b5] at z
      exact ((nI_eq (by omega) (by have := hI.2.1; omega)).mp z).symm
    subst hHH
    obtain ⟨k1, k2, k3⟩ := hres rfl
    refine ew_of k_Md_dealt rfl (sg_Md_dealt_0 ⟨fun z => absurd z c3, fun _ => ⟨fun z => absurd z (in_n0 e0), fun _ => ⟨fun z => absurd z (e1' h36), fun _ => ⟨fun z => absurd z (in_n0 e2), fun _ => ?_⟩⟩⟩⟩)
    refine mdeal_at hR1 hZ1 hC a hI hL (fun w2 g1 g2 g3 g4 g5 g6 => ⟨rfl, ?_⟩)
    have hs : x * H + y < 7 * H := by
      have : x * H ≤ 6 * H := Nat.mul_le_mul_right H (by omega)
      omega
    have es : (nI H * nI x + nI y : Int32) = nI (x * H + y) := by rw [pk_mul, nI_add, Nat.mul_comm]
    obtain ⟨f1, f2, f3, f4⟩ := g6 (x * H + y) hs
    have vs := vinN (i := x * H + y) (n := 56) (by omega) (by omega)
    rw [g4, es, nI_clampN (by omega), f2, f3, f4]
    refine ⟨fun z => ⟨vs, ?_, g1, g2⟩, fun z0 => ⟨fun z => ⟨vs, ?_, g1, g2⟩, fun z1 => ⟨vs, ?_, g1, g2⟩⟩⟩
    · rw [k1 z]
    · rw [k2 z]
    · have z2 : a2 = 2 := by
        rcases in_c (v := a2) (lo := 0) (hi := 2) 0 2 rfl rfl (by omega) (by omega) with ⟨e, _⟩ | ⟨t, _, t2, rfl, _⟩
        · exact absurd e (in_n0 e2)
        · rcases (show t = 0 ∨ t = 1 ∨ t = 2 by omega) with q | q | q
          · subst q; exact absurd rfl z0
          · subst q; exact absurd rfl z1
          · subst q; rfl
      rw [k3 z2]
  refine ⟨fun c => ?_, fun c => ?_, fun c => ?_, fun c0 c1 c2 => ?_⟩
  · refine ew_of k_Psa_firstDealt rfl (sg_Psa_firstDealt_0 (both_deal hR hD hZ (fun w1 a hR1 hZ1 hC => ⟨rfl, _, rfl, _, rfl, ?_⟩)))
    have hC0 := hC
    obtain ⟨u, V, H, lim, d1, d2, d3, d4, d5, d6, d7, d8, d9⟩ := hC
    refine good _ hR1 hZ1 hC0 a d1 d5 (by rw [c]; decide) (fun hH => ⟨fun _ => ?_, fun z => ?_, fun z => ?_⟩)
    · have z := psalmD (b := y) (i := 0) d1.2.2.1 d1.2.1 hx (by omega) d7 d3 (by omega)
      rw [show (0 : Int32) = nI 0 from rfl, z]
      by_cases q : st (fun i => V (rf u 150 i)) (cnt u 150) lim (x * H + y) < st (fun i => V (rf u 150 i)) (cnt u 150) lim (x * H + y + 1)
      · have q2 : 0 < st (fun i => V (rf u 150 i)) (cnt u 150) lim (x * H + y + 1) - st (fun i => V (rf u 150 i)) (cnt u 150) lim (x * H + y) := by omega
        rw [if_pos q, if_pos q2]
        rfl
      · have q2 : ¬ 0 < st (fun i => V (rf u 150 i)) (cnt u 150) lim (x * H + y + 1) - st (fun i => V (rf u 150 i)) (cnt u 150) lim (x * H + y) := by omega
        rw [if_neg q, if_neg q2]
    · rw [c] at z; exact absurd z (by decide)
    · rw [c] at z; exact absurd z (by decide)
  · refine ew_of k_Psa_manyDealt rfl (sg_Psa_manyDealt_0 (both_deal hR hD hZ (fun w1 a hR1 hZ1 hC => ⟨rfl, _, rfl, _, rfl, ?_⟩)))
    have hC0 := hC
    obtain ⟨u, V, H, lim, d1, d2, d3, d4, d5, d6, d7, d8, d9⟩ := hC
    refine good _ hR1 hZ1 hC0 a d1 d5 (by rw [c]; decide) (fun hH => ⟨fun z => ?_, fun _ => ?_, fun z => ?_⟩)
    · rw [c] at z; exact absurd z (by decide)
    · exact (countD d1.2.2.1 d1.2.1 hx (by omega) d7).1
    · rw [c] at z; exact absurd z (by decide)
  · refine ew_of k_Psa_versesDealt rfl (sg_Psa_versesDealt_0 (both_deal hR hD hZ (fun w1 a hR1 hZ1 hC => ⟨rfl, ?_⟩)))
    have hC0 := hC
    obtain ⟨u, V, H, lim, d1, d2, d3, d4, d5, d6, d7, d8, d9⟩ := hC
    have hHH : H = H0 := by
      have z := d1.2.2.1
      rw [a _ _ (by unfold PDl; omega), b5] at z
      exact ((nI_eq (by omega) (by have := d1.2.1; omega)).mp z).symm
    subst hHH
    refine ew_versesD d1.2.2.1 d1.2.1 hx hy d7 d3 ⟨_, rfl, _, rfl, ?_⟩
    refine good _ hR1 hZ1 hC0 a d1 d5 (by rw [c]; decide) (fun hH => ⟨fun z => ?_, fun z => ?_, fun _ => rfl⟩)
    · rw [c] at z; exact absurd z (by decide)
    · rw [c] at z; exact absurd z (by decide)
  · refine bad (Or.inr (Or.inr ?_))
    rcases in_c (v := a2) (lo := 0) (hi := 2) 0 2 rfl rfl (by omega) (by omega) with ⟨e, _⟩ | ⟨t, _, t2, rfl, _⟩
    · exact e
    · exfalso
      rcases (show t = 0 ∨ t = 1 ∨ t = 2 by omega) with q | q | q
      · subst q; exact c0 rfl
      · subst q; exact c1 rfl
      · subst q; exact c2 rfl
