/-! Pairs: what is sung, and how often -/
theorem GU_pp {w w' : Wd} (e : ∀ c k, PU c k → w' c k = w c k) (h : GU w) : GU w' := by
  have o : OYr w' w := fun c k q => e c k (by unfold PU; omega)
  obtain ⟨g1, g2, g3⟩ := h
  refine ⟨RS_yr o g1, ?_, ?_⟩
  · rcases g2 with q | ⟨j, j1, j2, j3⟩
    · left; rw [e _ _ (by unfold PU; omega)]; exact q
    · right
      exact ⟨j, j1, (e _ _ (by unfold PU; omega)).trans j2, by rw [yv_cg o]; exact CYr_cg o (fun c k q1 q2 => e _ _ (by unfold PU; omega)) j3⟩
  · rcases g3 with q | ⟨j, j1, j2, j3⟩
    · left; rw [e _ _ (by unfold PU; omega)]; exact q
    · right
      exact ⟨j, j1, (e _ _ (by unfold PU; omega)).trans j2, by rw [yv_cg o]; exact MYr_cg o (e _ _ (by unfold PU; omega)) (e _ _ (by unfold PU; omega)) (fun c k q1 q2 => e _ _ (by unfold PU; omega)) j3⟩
theorem GP_pu {w w' : Wd} (e : ∀ c k, ¬ PU c k → w' c k = w c k) (h : GP w) : GP w' :=
  ⟨RP_cg2 (fun c k hp => e c k (by unfold PR2 at hp; unfold PU; omega)) h.1, DD_ok.2 w w' (fun c k hp => e c k (by unfold PD at hp; unfold PU; omega)) h.2.1, by rw [e _ _ (by unfold PU; omega)]; exact h.2.2⟩
def GS (w : Wd) : Prop := GU w ∧ GP w
def PY (c k : Nat) : Prop := PU c k ∨ PP c k
theorem Sp_cg {w w' : Wd} {u : Nat → Bool} {V : Nat → Nat} {H lim x y k : Nat} {R : Int32} {L : Nat → Nat} (e1 : w' 155 37 = w 155 37) (e2 : ∀ k, w' 182 k = w 182 k) (e3 : ∀ k, w' 183 k = w 183 k) (e4 : ∀ k, w' 184 k = w 184 k) (h : Sp w u V H lim x y R k L) : Sp w' u V H lim x y R k L := by
  have f2 : w' 182 = w 182 := funext e2
  have f3 : w' 183 = w 183 := funext e3
  have f4 : w' 184 = w 184 := funext e4
  unfold Sp gF at h ⊢
  rw [e1, f2, f3, f4]
  exact h
theorem C_day {w : Wd} {i d : Nat} {y : YT} (hC : CYr w i y) (hd : d < y.N) : f_Alm_weekdayOf w (nI d) = nI (y.wd d) ∧ f_Alm_rankOn w (nI d) = nI (drC (offF y d)) := by
  have hy := AB_ok hC.1
  have hN := hy.2.2.1
  have hf := hy.1
  refine ⟨?_, ?_⟩
  · unfold f_Alm_weekdayOf
    rw [hC.1.2.2.2.2.1, nI_add, nI_mod7 (by omega)]
    rfl
  · unfold f_Alm_rankOn
    rw [f_at_in (by omega) (by omega), hC.2.1 d hd]
    exact (cOK_dk (okF hy hd)).2.2.2.2.2.1
theorem par_sung {zs : List Int32} (a0 a1 a2 a3 : Int32) : Par zs 7 m_Bk_sung 6 m_Md_sung [.inl a0, .inl a1, .inl a2, .inl a3] GS PY := by
  intro w hGS
  obtain ⟨hG, hP⟩ := hGS
  have hGS : GS w := ⟨hG, hP⟩
  obtain ⟨hR, hD, hZ⟩ := hP
  obtain ⟨hv, H0, r0, b1, b2, b3, b4, b5, b6, b7, b8, hf, hfe⟩ := hR
  have hR : RP w := ⟨hv, H0, r0, b1, b2, b3, b4, b5, b6, b7, b8, hf, hfe⟩
  refine ew_of k_Bk_sung rfl (sg_Bk_sung_0 ?_)
  rcases in_cnt a2 (n := H0) (by omega) with ⟨e2, h⟩ | ⟨t, ht, rfl, e2⟩
  · refine ⟨fun _ => ⟨_, rfl, ew_of k_Md_sung rfl (sg_Md_sung_0 ?_)⟩, fun c => absurd (hasHour_out b5 h) c⟩
    rw [b6]
    exact ⟨fun _ => ⟨rfl, hGS, off_rf⟩, fun _ => ⟨fun _ => ⟨rfl, hGS, off_rf⟩, fun c => absurd e2 c⟩⟩
  refine ⟨fun c => absurd ((hasHour_in b5 ht (by omega)).symm.trans c) one_ne, fun _ => ?_⟩
  refine ew_openAt hG (fun e => ⟨_, rfl, fun _ => ⟨_, rfl, ew_of k_Md_sung rfl (sg_Md_sung_0 ⟨fun _ => ⟨rfl, hGS, off_rf⟩, fun c => absurd e c⟩)⟩, fun c => absurd rfl c⟩) (fun i d hi ea hd eb e w1 hC => ⟨_, rfl, fun c => absurd c one_ne, fun _ => ?_⟩)
  subst ea; subst eb
  have hG1 := GU_C hi hG hC
  have hP1 : GP w1 := GP_pu (off_C hC) ⟨hR, hD, hZ⟩
  have hy := yv_ok hG.1 hi
  have hN := hy.2.2.1
  have hf0 := hy.1
  have hdN : d < (yv w i).N := hd
  obtain ⟨c1, c2⟩ := C_day hC.2.2 hdN
  have hx : (yv w i).wd d < 7 := Nat.mod_lt _ (by omega)
  rw [c1, c2]
  refine ew_of k_Psa_psalmSung rfl (sg_Psa_psalmSung_0 (both_deal hP1.1 hP1.2.1 hP1.2.2 (fun w2 a hR2 hZ2 hC2 => ⟨rfl, ?_⟩)))
  have hC0 := hC2
  obtain ⟨u, V, H, lim, d1, d2, d3, d4, d5, d6, d7, d8, d9⟩ := hC2
  have w2w : ∀ c k, ¬ PU c k → ¬ PDl c k → w2 c k = w c k := fun c k q1 q2 => (a c k q2).trans (off_C hC c k q1)
  have hHH : H = H0 := by
    have z := d1.2.2.1
    rw [w2w _ _ (by unfold PU; omega) (by unfold PDl; omega), b5] at z
    exact ((nI_eq (by omega) (by have := d1.2.1; omega)).mp z).symm
  subst hHH
  have hG2 : GU w2 := GU_pp (fun c k q => a c k (by unfold PU at q; unfold PDl; omega)) hG1
  have ey : yv w2 i = yv w i := (yv_cg (fun c k q => a c k (by unfold PDl; omega)) i).trans (yv_cg (stC_yr hC) i)
  obtain ⟨k, L, hk, hS⟩ := Sp_ex (w := w2) (u := u) (V := V) (H := H) (lim := lim) (x := (yv w i).wd d) (y := t) (R := nI (drC (offF (yv w i) d))) hR2 (by omega)
  have hb := Sp_bound hS
  have hcn := cnt_le (gF w2 t) 150
  -- the plain program's answer
  have ref : ∀ r : Int32, (f_Md_in a3 0 (nI (k + cnt (gF w2 t) 150) - 1) = 0 → r = -1) → (∀ j, j < k + cnt (gF w2 t) 150 → a3 = nI j → r = nI (L j)) → Ew zs 6 m_Md_sung [.inr (.inl (some 155)), .inl (nI (1900 + i)), .inl (nI d), .inl (nI t), .inl a3] w2 (fun v2 w5 => v2 = some (.inl r) ∧ GS w5 ∧ ∀ c k, ¬ PY c k → w5 c k = w c k) := by
    intro r k1 k2
    refine ew_of k_Md_sung rfl (sg_Md_sung_0 ?_)
    rw [w2w 155 36 (by unfold PU; omega) (by unfold PDl; omega), b6]
    refine ⟨fun c => absurd c (fun z => one_ne (e.symm.trans z)), fun _ => ⟨fun c => absurd c (in_n0 e2), fun _ => ?_⟩⟩
    refine ew_reck hG2 hi (fun w3 hM => ⟨rfl, ?_⟩)
    have hM3 := hM.2.2
    rw [ey] at hM3
    have m3 : ∀ c k, ¬ PRk c k → ¬ PCo c k → w3 c k = w2 c k := hM.1
    have hI3 : InM w3 u V H := InM_cg (m3 _ _ (by unfold PRk; omega) (by unfold PCo; omega)) (fun k => m3 _ _ (by unfold PRk; omega) (by unfold PCo; omega)) (fun k => m3 _ _ (by unfold PRk; omega) (by unfold PCo; omega)) (inm_of hR2 d1)
    refine ew_mdeal hI3 (fun w4 lim' m4 _ l1 l2 l3 => ⟨rfl, ?_⟩)
    have el := least_eq l1 d5
    subst el
    have w4w : ∀ c k, ¬ PRk c k → ¬ PCo c k → ¬ PDm c k → w4 c k = w2 c k := fun c k q1 q2 q3 => (m4 c k q3).trans (m3 c k q1 q2)
    have hI4 : InM w4 u V H := InM_cg (m4 _ _ (by unfold PDm; omega)) (fun k => m4 _ _ (by unfold PDm; omega)) (fun k => m4 _ _ (by unfold PDm; omega)) hI3
    have e29 : w4 155 29 = nI (yv w i).f0 := (m4 _ _ (by unfold PDm; omega)).trans hM3.1.2.2.2.2.1
    have e173 : w4 173 d = nI (drC (offF (yv w i) d)) := (m4 _ _ (by unfold PDm; omega)).trans (hM3.2.1 d hdN).2.2.1
    have hS4 : Sp w4 u V H lim' ((yv w i).wd d) t (w4 173 d) k L := by
      rw [e173]
      exact Sp_cg (w4w _ _ (by unfold PRk; omega) (by unfold PCo; omega) (by unfold PDm; omega)) (fun k => w4w _ _ (by unfold PRk; omega) (by unfold PCo; omega) (by unfold PDm; omega)) (fun k => w4w _ _ (by unfold PRk; omega) (by unfold PCo; omega) (by unfold PDm; omega)) (fun k => w4w _ _ (by unfold PRk; omega) (by unfold PCo; omega) (by unfold PDm; omega)) hS
    have egF : gF w4 t = gF w2 t := by
      have f2 : w4 182 = w2 182 := funext fun k => w4w _ _ (by unfold PRk; omega) (by unfold PCo; omega) (by unfold PDm; omega)
      unfold gF
      rw [f2]
    refine ew_sings hI4 l3 (by omega) hx ht (by rw [e29, nI_add, nI_mod7 (by omega)]; rfl) hS4 (fun w5 hSG => ⟨rfl, ?_⟩)
    rw [egF] at hSG
    obtain ⟨s1, s2, s3⟩ := hSG
    have fin : GS w5 ∧ ∀ c k, ¬ PY c k → w5 c k = w c k := by
      have w5w : ∀ c k, ¬ PRk c k → ¬ PCo c k → ¬ PDm c k → c ≠ 188 → ¬ (c = 155 ∧ k = 42) → w5 c k = w2 c k := fun c k q1 q2 q3 q4 q5 => (s1 c k q4 q5).trans (w4w c k q1 q2 q3)
      refine ⟨⟨GU_pp (fun c k q => (s1 c k (by unfold PU at q; omega) (by unfold PU at q; omega)).trans (m4 c k (by unfold PU at q; unfold PDm; omega))) (GU_R hi hG2 hM), RP_cg2 (fun c k hp => w5w c k (by unfold PR2 at hp; unfold PRk; omega) (by unfold PR2 at hp; unfold PCo; omega) (by unfold PR2 at hp; unfold PDm; omega) (by unfold PR2 at hp; omega) (by unfold PR2 at hp; omega)) hR2, Or.inr (DC_cg (fun c k hp => w5w c k (by unfold PD at hp; unfold PRk; omega) (by unfold PD at hp; unfold PCo; omega) (by unfold PD at hp; unfold PDm; omega) (by unfold PD at hp; omega) (by unfold PD at hp; omega)) hC0), ?_⟩, fun c k hp => ?_⟩
      · rw [w5w _ _ (by unfold PRk; omega) (by unfold PCo; omega) (by unfold PDm; omega) (by omega) (by omega)]; exact hZ2
      · unfold PY PU PP at hp
        rw [w5w c k (by unfold PRk; omega) (by unfold PCo; omega) (by unfold PDm; omega) (by omega) (by omega)]
        exact w2w c k (by unfold PU; omega) (by unfold PDl; omega)
    rw [s2]
    rcases in_cnt a3 (n := k + cnt (gF w2 t) 150) (by omega) with ⟨e3, _⟩ | ⟨j, hj, rfl, e3⟩
    · refine ⟨fun _ => ⟨?_, fin⟩, fun c => absurd e3 c⟩
      rw [k1 e3]
    · refine ⟨fun c => absurd c (in_n0 e3), fun _ => ⟨vinN (by omega) (by omega), ?_, fin⟩⟩
      rw [nI_clampN (by omega), s3 j hj, k2 j hj rfl]
  refine psung_at (Q := fun v w6 => ∃ r5 : Int32, v = some (.inl r5) ∧ ∃ r : Int32, (some (.inl r5) : Option AV) = some (.inl r) ∧ Ew zs 6 m_Md_sung [.inr (.inl (some 155)), .inl (nI (1900 + i)), .inl (nI d), .inl (nI t), .inl a3] w6 (fun v2 w2 => v2 = some (.inl r) ∧ GS w2 ∧ ∀ c k, ¬ PY c k → w2 c k = w c k)) (a3 := a3) hR2 d1.2.2.1 d1.2.1 d7 d3 hx ht hS hk (fun hneg => ⟨_, rfl, _, rfl, ref _ (fun _ => rfl) (fun j hj ej => ?_)⟩) (fun j hj ej => ⟨_, rfl, _, rfl, ref _ (fun z => ?_) (fun j' hj' ej' => ?_)⟩)
  · rw [ej] at hneg
    exact absurd hneg (nI_pos (by omega))
  · rw [if_neg (fun q => ?_)]
    rw [ej, show (nI (k + cnt (gF w2 t) 150) - 1 : Int32) = nI (k + cnt (gF w2 t) 150 - 1) from pk_sub (b := 1) (by omega)] at z
    exact in_n0 (in_in (l := 0) (h := k + cnt (gF w2 t) 150 - 1) rfl rfl (by omega) (by omega) (by omega)) z
  · have : j = j' := (nI_eq (by omega) (by omega)).mp (ej.symm.trans ej')
    subst this
    rw [if_pos hj']
