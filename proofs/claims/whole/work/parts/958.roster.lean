/-! Pairs: roster -/
def GR (w : Wd) : Prop := GU w ∧ RC w ∧ RR w
def PG (c k : Nat) : Prop := PU c k ∨ PRo c k
theorem par_roster {zs : List Int32} (a0 a1 a2 : Int32) : Par zs 7 m_Bk_roster 6 m_Md_roster [.inl a0, .inl a1, .inl a2] GR PG := by
  intro w hGR
  obtain ⟨hG, hRC, hRR⟩ := hGR
  have hGR : GR w := ⟨hG, hRC, hRR⟩
  -- a refusal from any world that the almanac has left
  have offG : ∀ {w1 : Wd} {i : Nat}, stC w w1 i → GR w1 ∧ ∀ c k, ¬ PG c k → w1 c k = w c k := by
    intro w1 i hC
    refine ⟨⟨GU_C hC.2.2.1.2.1 hG hC, RC_cg (fun c k q => hC.1 c k (by unfold PC at q; omega)) (fun k => hC.1 _ _ (by omega)) hRC, RR_cg (fun c k q => hC.1 c k (by unfold PRo at q; omega)) hRR⟩, fun c k q => off_C hC c k (fun z => q (Or.inl z))⟩
  refine ew_of k_Bk_roster rfl (sg_Bk_roster_0 ?_)
  rw [show f_Bk_within = f_Md_in from rfl]
  rcases in_c (v := a2) (lo := 1) (hi := 60) 1 60 rfl rfl (by omega) (by omega) with ⟨e2, _⟩ | ⟨n, n1, n2, rfl, e2⟩
  · refine ⟨fun _ => ⟨_, rfl, ew_of k_Md_roster rfl (sg_Md_roster_0 ⟨fun _ => ⟨rfl, hGR, off_rf⟩, fun _ => ⟨fun _ => ⟨rfl, hGR, off_rf⟩, fun c => absurd e2 c⟩⟩)⟩, fun c => absurd e2 c⟩
  refine ⟨fun c => absurd c (in_n0 e2), fun _ => ?_⟩
  refine ew_openAt hG (fun e => ⟨_, rfl, fun _ => ⟨_, rfl, ew_of k_Md_roster rfl (sg_Md_roster_0 ⟨fun _ => ⟨rfl, hGR, off_rf⟩, fun c => absurd e c⟩)⟩, fun c => absurd rfl c⟩) (fun i A hi ea hA eA e w0 hC0 => ⟨_, rfl, fun c => absurd c one_ne, fun _ => ?_⟩)
  subst ea; subst eA
  have hG0 := GU_C hi hG hC0
  have hy := yv_ok hG.1 hi
  have hN := hy.2.2.1
  have eN : f_Md_daysOf (nI (1900 + i)) = nI (yrN i) := (yrN_is i).1
  have hN2 := (yrN_is i).2.2
  have en : ¬ f_Md_isDay (nI (1900 + i)) (nI A) = 0 := fun z => one_ne (e.symm.trans z)
  have ex : (nI A + nI n - 1 : Int32) = nI (A + n - 1) := by rw [nI_add]; exact pk_sub (b := 1) (by omega)
  rw [ex]
  refine ew_openAt hG0 (fun e' => ⟨_, rfl, fun _ => ⟨_, rfl, ew_of k_Md_roster rfl (sg_Md_roster_0 ⟨fun c => absurd c en, fun _ => ⟨fun c => absurd c (in_n0 e2), fun _ => ?_⟩⟩)⟩, fun c => absurd rfl c⟩) (fun i' B hi' ea' hB eB e' w1 hC1 => ⟨_, rfl, fun c => absurd c one_ne, fun _ => ?_⟩)
  · rw [eN, nI_add]
    refine ⟨fun c => ?_, fun _ => ⟨rfl, offG hC0⟩⟩
    exfalso
    have le : A + n ≤ yrN i := by
      rcases Nat.lt_or_ge (yrN i) (A + n) with q | q
      · exact absurd c (nI_gle q (by omega))
      · exact q
    have ed : f_Md_isDay (nI (1900 + i)) (nI (A + n - 1)) = if f_Md_isYear (nI (1900 + i)) = 0 then 0 else if f_Md_in (nI (A + n - 1)) 0 (f_Md_daysOf (nI (1900 + i)) - 1) = 0 then 0 else 1 := rfl
    have ed0 : f_Md_isDay (nI (1900 + i)) (nI A) = if f_Md_isYear (nI (1900 + i)) = 0 then 0 else if f_Md_in (nI A) 0 (f_Md_daysOf (nI (1900 + i)) - 1) = 0 then 0 else 1 := rfl
    have iy : ¬ f_Md_isYear (nI (1900 + i)) = 0 := fun z => by
      rw [if_pos z, e] at ed0
      exact one_ne ed0
    have zz : f_Md_in (nI (A + n - 1)) 0 (nI (yrN i - 1)) = 1 := in_in (l := 0) (h := yrN i - 1) rfl rfl (by omega) (by omega) (by omega)
    rw [if_neg iy, eN, show (nI (yrN i) - 1 : Int32) = nI (yrN i - 1) from pk_sub (b := 1) (by omega), if_neg (in_n0 zz), e'] at ed
    exact one_ne ed.symm
  have ii : i' = i := by
    have := (nI_eq (by omega) (by omega)).mp ea'
    omega
  subst ii
  have hC := stC_tr hC0 hC1
  have bB : A + n - 1 = B := (nI_eq (by omega) (by omega)).mp eB
  have hAn : A + n ≤ (yv w i').N := by
    show A + n ≤ yrN i'
    omega
  have hG1 := GU_C hi hG hC
  obtain ⟨nM, nA, a1, a2, a3, a4, a5, a6, a7, a8, a9⟩ := hRC
  have c1 : ∀ c k, ¬ (16 ≤ c ∧ c ≤ 21) → w1 c k = w c k := hC.1
  obtain ⟨p, hpc, hpg, hpn, hps⟩ : ∃ p : PT5, p.can = (fun m r => tbI (w 197 m) r) ∧ p.gone = (fun k m => awM w (nI (1900 + i')) (nI (A + k)) m nA) ∧ p.nM = nM ∧ p.nS = (fun k r => nSt (drC (offF (yv w i') (A + k))) r) := ⟨((fun m r => tbI (w 197 m) r), (fun k m => awM w (nI (1900 + i')) (nI (A + k)) m nA), nM, (fun k r => nSt (drC (offF (yv w i') (A + k))) r)), rfl, rfl, rfl, rfl⟩
  have pcan : ∀ m r, p.can m r = tbI (w 197 m) r := fun m r => by rw [hpc]
  have pgone : ∀ k m, p.gone k m = awM w (nI (1900 + i')) (nI (A + k)) m nA := fun k m => by rw [hpg]
  have pS : ∀ k r, p.nS k r = nSt (drC (offF (yv w i') (A + k))) r := fun k r => by rw [hps]
  have hp1 : MC5 w1 p := ⟨by rw [hpn]; exact (c1 _ _ (by omega)).trans a3, by rw [hpn]; exact a1, fun m hm r hr => by rw [hpn] at hm; rw [c1 _ _ (by omega), pcan, (a7 m hm).1]⟩
  have hA1 : AC5 w1 p.nM nA := by
    refine ⟨(c1 _ _ (by omega)).trans a5, a2, fun j hj => ?_⟩
    rw [hpn, c1 146 j (by omega), c1 198 j (by omega), c1 147 j (by omega), c1 199 j (by omega), c1 148 j (by omega), c1 200 j (by omega), c1 149 j (by omega), c1 201 j (by omega)]
    exact a8 j hj
  refine ew_make hC.2.2 hC.2.1 hp1 hA1 n1 n2 hAn (fun k m => ?_) pS (fun w2 b1 b2 b3 b4 b5 b6 => ⟨_, rfl, _, rfl, ?_⟩)
  · rw [pgone, awM_cg (fun k => c1 _ _ (by omega)) (fun k => c1 _ _ (by omega)) (fun k => c1 _ _ (by omega)) (fun k => c1 _ _ (by omega))]
  have hG2 : GU w2 := GU_pp (fun c k q => b1 c k (by unfold PU at q; omega) (by unfold PU at q; omega)) hG1
  have o2 : OYr w2 w1 := fun c k q => b1 c k (by omega) (by omega)
  have ey : yv w2 i' = yv w i' := (yv_cg o2 i').trans (yv_cg (stC_yr hC) i')
  have w2w : ∀ c k, ¬ (16 ≤ c ∧ c ≤ 21) → ¬ (c = 150 ∧ k = 4) → ¬ (151 ≤ c ∧ c ≤ 154) → w2 c k = w c k := fun c k q1 q2 q3 => (b1 c k q2 q3).trans (c1 c k q1)
  refine ew_of k_Md_roster rfl (sg_Md_roster_0 ?_)
  rw [eN, nI_add]
  refine ⟨fun c => absurd c en, fun _ => ⟨fun c => absurd c (in_n0 e2), fun _ => ⟨fun _ => ?_, fun c => absurd (nI_le (show A + n ≤ yrN i' from hAn) (by omega)) c⟩⟩⟩
  refine ew_reck hG2 hi (fun w3 hM => ⟨rfl, ?_⟩)
  have hM3 := hM.2.2
  rw [ey] at hM3
  have m3 : ∀ c k, ¬ PRk c k → ¬ PCo c k → w3 c k = w2 c k := hM.1
  have d1 : ∀ c k, ¬ (c = 155 ∧ k = 59) → wr w3 155 59 (nI n) c k = w3 c k := fun c k q => by unfold wr; rw [if_neg q]
  have d2 : wr w3 155 59 (nI n) 155 59 = nI n := wr_eq
  generalize wr w3 155 59 (nI n) = w4 at d1 d2 ⊢
  have w4w : ∀ c k, ¬ PU c k → ¬ PRo c k → ¬ PCo c k → w4 c k = w c k := fun c k q1 q2 q3 => by
    unfold PU at q1
    unfold PRo at q2
    rw [d1 c k (by omega), m3 c k (by unfold PRk; omega) q3]
    exact w2w c k (by omega) (by omega) (by omega)
  have hp4 : MR5 w4 p := ⟨by rw [hpn]; exact (w4w _ _ (by unfold PU; omega) (by unfold PRo; omega) (by unfold PCo; omega)).trans a4, by rw [hpn]; exact a1, fun m hm r hr => by rw [w4w _ _ (by unfold PU; omega) (by unfold PRo; omega) (by unfold PCo; omega), pcan]⟩
  have hA4 : w4 155 53 = nI nA := (w4w _ _ (by unfold PU; omega) (by unfold PRo; omega) (by unfold PCo; omega)).trans a6
  refine ew_mros hy (fun d hd => RO_cg (fun c q1 q2 => d1 _ _ (by omega)) (hM3.2.1 d hd)) hp4 hA4 a2 n2 hAn (fun k m => ?_) pS (fun w5 e1 e2' e3 e4 e5 => ?_)
  · rw [pgone, awM_cg (fun k => w4w _ _ (by unfold PU; omega) (by unfold PRo; omega) (by unfold PCo; omega)) (fun k => w4w _ _ (by unfold PU; omega) (by unfold PRo; omega) (by unfold PCo; omega)) (fun k => w4w _ _ (by unfold PU; omega) (by unfold PRo; omega) (by unfold PCo; omega)) (fun k => w4w _ _ (by unfold PU; omega) (by unfold PRo; omega) (by unfold PCo; omega))]
  have w5w : ∀ c k, ¬ PU c k → ¬ PRo c k → ¬ PCo c k → w5 c k = w c k := fun c k q1 q2 q3 => (e1 c k (by unfold PRo at q2; omega)).trans (w4w c k q1 q2 q3)
  have w52 : ∀ c k, 150 ≤ c → c ≤ 154 → w5 c k = w2 c k := fun c k q1 q2 => (e1 c k (by omega)).trans ((d1 c k (by omega)).trans (m3 c k (by unfold PRk; omega) (by unfold PCo; omega)))
  refine ⟨rfl, ⟨GU_pp (fun c k q => (e1 c k (by unfold PU at q; omega)).trans (d1 c k (by unfold PU at q; omega))) (GU_R hi hG2 hM), ⟨nM, nA, a1, a2, ?_, ?_, ?_, ?_, fun j hj => ?_, fun j hj => ?_, fun k hk1 hk2 => ?_⟩, ⟨⟨n, n2, ?_, ?_, fun k hk r hr => ?_⟩, fun k hk => ⟨?_, ?_⟩⟩⟩, fun c k hp => ?_⟩
  · rw [w5w _ _ (by unfold PU; omega) (by unfold PRo; omega) (by unfold PCo; omega)]; exact a3
  · rw [w5w _ _ (by unfold PU; omega) (by unfold PRo; omega) (by unfold PCo; omega)]; exact a4
  · rw [w5w _ _ (by unfold PU; omega) (by unfold PRo; omega) (by unfold PCo; omega)]; exact a5
  · rw [w5w _ _ (by unfold PU; omega) (by unfold PRo; omega) (by unfold PCo; omega)]; exact a6
  · rw [w5w 145 j (by unfold PU; omega) (by unfold PRo; omega) (by unfold PCo; omega), w5w 197 j (by unfold PU; omega) (by unfold PRo; omega) (by unfold PCo; omega)]; exact a7 j hj
  · rw [w5w 146 j (by unfold PU; omega) (by unfold PRo; omega) (by unfold PCo; omega), w5w 198 j (by unfold PU; omega) (by unfold PRo; omega) (by unfold PCo; omega), w5w 147 j (by unfold PU; omega) (by unfold PRo; omega) (by unfold PCo; omega), w5w 199 j (by unfold PU; omega) (by unfold PRo; omega) (by unfold PCo; omega), w5w 148 j (by unfold PU; omega) (by unfold PRo; omega) (by unfold PCo; omega), w5w 200 j (by unfold PU; omega) (by unfold PRo; omega) (by unfold PCo; omega), w5w 149 j (by unfold PU; omega) (by unfold PRo; omega) (by unfold PCo; omega), w5w 201 j (by unfold PU; omega) (by unfold PRo; omega) (by unfold PCo; omega)]
    exact a8 j hj
  · rw [e3 k hk2]
    exact of05_k p n k (by rw [hpn]; exact hk1)
  · rw [w52 _ _ (by omega) (by omega)]; exact b2
  · rw [e1 _ _ (by omega)]; exact d2
  · have hdN : A + k < (yv w i').N := by omega
    have r9 := (cOK_dk (okF hy hdN)).2.1
    obtain ⟨z1, z2, z3⟩ := nSt_is _ (show drC (offF (yv w i') (A + k)) < 10 by omega) r hr
    refine ⟨p.nS k r, by rw [pS]; exact z2, by rw [pS]; exact z3, ?_, e2' k hk r hr, fun x hx => ?_⟩
    · rw [w52 _ _ (by omega) (by omega), b3 k hk, pS]
      exact z1
    · obtain ⟨v, hv⟩ := gv5_k (p := p) (x := 11 * k + plc r + x) n ⟨k, r, x, hk, hr, hx, rfl⟩
      have l660 : 11 * k + plc r + x < 660 := by rw [pS] at hx; omega
      rw [w52 _ _ (by omega) (by omega), b6 _ l660 v hv, e5 _ l660 v hv]
  · rw [w52 _ _ (by omega) (by omega), b4 k hk, e3 k hk]
  · rw [w52 _ _ (by omega) (by omega), b5 k hk, e4 k hk]
  · have q1 : ¬ PU c k := fun z => hp (Or.inl z)
    have q2 : ¬ PRo c k := fun z => hp (Or.inr z)
    exact w5w c k q1 q2 (by unfold PU at q1; unfold PCo; omega)
