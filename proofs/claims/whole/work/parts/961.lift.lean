/-! The whole relation, and each pair over it -/
theorem par_turn2 {zs : List Int32} (a0 a1 a2 : Int32) : Par zs 2 m_Bk_turn 1 m_Md_turn [.inl a0, .inl a1, .inl a2] RR (fun _ _ => False) := by
  intro w hR
  refine ev_Bk_turn ⟨_, rfl, ew_of k_Md_turn rfl (sg_Md_turn_0 ?_)⟩
  have hR0 := hR
  obtain ⟨⟨d, hd, h1, h2, h3⟩, h4⟩ := hR
  unfold f_Bk_turn f_Ros_monkAt
  rw [h1, h2]
  rcases in_cnt a0 (n := d) (by omega) with ⟨e0, h⟩ | ⟨k, hk, rfl, e0⟩
  · rw [if_out h]
    exact ⟨fun _ => ⟨rfl, hR0, off_rf⟩, fun c => absurd e0 c⟩
  rw [if_inn (m := nI d) (n := d) rfl hk (by omega), f_at_in (by omega) (by omega)]
  refine ⟨fun c => absurd c (in_n0 e0), fun _ => ?_⟩
  rcases role_c a1 with ⟨e1, hs⟩ | ⟨r, hr, rfl, e1⟩
  · rw [hs]
    refine ⟨fun _ => ⟨?_, hR0, off_rf⟩, fun c => absurd e1 c⟩
    by_cases c : a2 < 0
    · rw [if_pos c]
    · rw [if_neg c, if_neg c]
  obtain ⟨n, n1, n2, n3, n4, n5⟩ := h3 k hk r hr
  have e3 : (3 * nI k + nI r : Int32) = nI (3 * k + r) := by rw [show (3 : Int32) = nI 3 from rfl, pk_mul, nI_add]
  rw [n3, e3, nI_clampN (by omega), n4]
  refine ⟨fun c => absurd c (in_n0 e1), fun _ => ⟨vinN (by omega) (by omega), ?_⟩⟩
  have hp : plc r ≤ 5 := by
    rcases (show r = 0 ∨ r = 1 ∨ r = 2 by omega) with q | q | q <;> subst q <;> decide
  rcases in_cnt a2 (n := n) (by omega) with ⟨e2, h⟩ | ⟨i, hi, rfl, e2⟩
  · refine ⟨fun _ => ⟨?_, hR0, off_rf⟩, fun c => absurd e2 c⟩
    rcases h with h | h
    · rw [if_pos h]
    · by_cases c : a2 < 0
      · rw [if_pos c]
      · have c2 : ¬ a2 < nI n := fun q => by
          rw [Int32.lt_iff_toInt_lt] at q
          rw [Int32.le_iff_toInt_le] at h
          omega
        rw [if_neg c, if_neg c2]
  rw [if_neg (nI_pos (by omega)), if_pos (nI_lt hi (by omega)), seat_nI hr, f_at_in (by omega) (by omega), plc_nI hr]
  have e4 : (11 * nI k + nI (plc r) + nI i : Int32) = nI (11 * k + plc r + i) := by rw [show (11 : Int32) = nI 11 from rfl, pk_mul, nI_add, nI_add]
  rw [e4, nI_clampN (by omega), n5 i hi]
  exact ⟨fun c => absurd c (in_n0 e2), fun _ => ⟨vinN (by omega) (by omega), rfl, hR0, off_rf⟩⟩
theorem GP_pp {w w' : Wd} (e : ∀ c k, PP c k ∨ (c = 28 ∧ k = 0) → w' c k = w c k) (h : GP w) : GP w' :=
  ⟨RP_cg2 (fun c k hp => e c k (by unfold PR2 at hp; unfold PP; omega)) h.1, DD_ok.2 w w' (fun c k hp => e c k (by unfold PD at hp; unfold PP; omega)) h.2.1, by rw [e _ _ (by omega)]; exact h.2.2⟩
def RU (w : Wd) : Prop := RT w ∧ RV w ∧ GU w ∧ GP w ∧ RC w ∧ RR w
theorem lift {zs : List Int32} {hB mB hM mM : Nat} {as : List AV} {G : Wd → Prop} {P : Nat → Nat → Prop} (hp : Par zs hB mB hM mM as G P) (hG : ∀ w, RU w → G w) (hb : ∀ w w', RU w → G w' → (∀ c k, ¬ P c k → w' c k = w c k) → RU w') : Pair zs RU hB mB hM mM as := by
  intro w hR
  refine (hp w (hG w hR)).mono (fun v w1 hv => ?_)
  obtain ⟨r, h1, h2⟩ := hv
  refine ⟨r, h1, h2.mono (fun v2 w2 hv2 => ?_)⟩
  obtain ⟨q1, q2, q3⟩ := hv2
  exact ⟨q1, hb w w2 hR q2 q3⟩
theorem bk_T (w w' : Wd) (h : RU w) (g : RT w') (e : ∀ c k, ¬ PT c k → w' c k = w c k) : RU w' := ⟨g, RV_cg (fun c k q => e c k (by unfold PV at q; unfold PT; omega)) h.2.1, GU_pp (fun c k q => e c k (by unfold PU at q; unfold PT; omega)) h.2.2.1, GP_pp (fun c k q => e c k (by unfold PP at q; unfold PT; omega)) h.2.2.2.1, RC_cg (fun c k q => e c k (by unfold PC at q; unfold PT; omega)) (fun k => e _ _ (by unfold PT; omega)) h.2.2.2.2.1, RR_cg (fun c k q => e c k (by unfold PRo at q; unfold PT; omega)) h.2.2.2.2.2⟩
theorem bk_V (w w' : Wd) (h : RU w) (g : RV w') (e : ∀ c k, ¬ PV c k → w' c k = w c k) : RU w' := ⟨RT_cg (fun c k q => e c k (by unfold PT at q; unfold PV; omega)) h.1, g, GU_pp (fun c k q => e c k (by unfold PU at q; unfold PV; omega)) h.2.2.1, GP_pp (fun c k q => e c k (by unfold PP at q; unfold PV; omega)) h.2.2.2.1, RC_cg (fun c k q => e c k (by unfold PC at q; unfold PV; omega)) (fun k => e _ _ (by unfold PV; omega)) h.2.2.2.2.1, RR_cg (fun c k q => e c k (by unfold PRo at q; unfold PV; omega)) h.2.2.2.2.2⟩
theorem bk_TV (w w' : Wd) (h : RU w) (g : RT w' ∧ RV w') (e : ∀ c k, ¬ PV c k → w' c k = w c k) : RU w' := ⟨g.1, g.2, GU_pp (fun c k q => e c k (by unfold PU at q; unfold PV; omega)) h.2.2.1, GP_pp (fun c k q => e c k (by unfold PP at q; unfold PV; omega)) h.2.2.2.1, RC_cg (fun c k q => e c k (by unfold PC at q; unfold PV; omega)) (fun k => e _ _ (by unfold PV; omega)) h.2.2.2.2.1, RR_cg (fun c k q => e c k (by unfold PRo at q; unfold PV; omega)) h.2.2.2.2.2⟩
theorem bk_P (w w' : Wd) (h : RU w) (g : RP w' ∧ DD w') (e : ∀ c k, ¬ PP c k → w' c k = w c k) : RU w' := ⟨RT_cg (fun c k q => e c k (by unfold PT at q; unfold PP; omega)) h.1, RV_cg (fun c k q => e c k (by unfold PV at q; unfold PP; omega)) h.2.1, GU_pp (fun c k q => e c k (by unfold PU at q; unfold PP; omega)) h.2.2.1, ⟨g.1, g.2, (e 28 0 (by unfold PP; omega)).trans h.2.2.2.1.2.2⟩, RC_cg (fun c k q => e c k (by unfold PC at q; unfold PP; omega)) (fun k => e _ _ (by unfold PP; omega)) h.2.2.2.2.1, RR_cg (fun c k q => e c k (by unfold PRo at q; unfold PP; omega)) h.2.2.2.2.2⟩
theorem bk_GP (w w' : Wd) (h : RU w) (g : GP w') (e : ∀ c k, ¬ PP c k → w' c k = w c k) : RU w' := ⟨RT_cg (fun c k q => e c k (by unfold PT at q; unfold PP; omega)) h.1, RV_cg (fun c k q => e c k (by unfold PV at q; unfold PP; omega)) h.2.1, GU_pp (fun c k q => e c k (by unfold PU at q; unfold PP; omega)) h.2.2.1, g, RC_cg (fun c k q => e c k (by unfold PC at q; unfold PP; omega)) (fun k => e _ _ (by unfold PP; omega)) h.2.2.2.2.1, RR_cg (fun c k q => e c k (by unfold PRo at q; unfold PP; omega)) h.2.2.2.2.2⟩
theorem bk_C (w w' : Wd) (h : RU w) (g : RC w') (e : ∀ c k, ¬ PC c k → w' c k = w c k) : RU w' := ⟨RT_cg (fun c k q => e c k (by unfold PT at q; unfold PC; omega)) h.1, RV_cg (fun c k q => e c k (by unfold PV at q; unfold PC; omega)) h.2.1, GU_pp (fun c k q => e c k (by unfold PU at q; unfold PC; omega)) h.2.2.1, GP_pp (fun c k q => e c k (by unfold PP at q; unfold PC; omega)) h.2.2.2.1, g, RR_cg (fun c k q => e c k (by unfold PRo at q; unfold PC; omega)) h.2.2.2.2.2⟩
theorem bk_S (w w' : Wd) (h : RU w) (g : GU w') (e : ∀ c k, ¬ PU c k → w' c k = w c k) : RU w' := ⟨RT_cg (fun c k q => e c k (by unfold PT at q; unfold PU; omega)) h.1, RV_cg (fun c k q => e c k (by unfold PV at q; unfold PU; omega)) h.2.1, g, GP_pp (fun c k q => e c k (by unfold PP at q; unfold PU; omega)) h.2.2.2.1, RC_cg (fun c k q => e c k (by unfold PC at q; unfold PU; omega)) (fun k => e _ _ (by unfold PU; omega)) h.2.2.2.2.1, RR_cg (fun c k q => e c k (by unfold PRo at q; unfold PU; omega)) h.2.2.2.2.2⟩
theorem bk_Y (w w' : Wd) (h : RU w) (g : GS w') (e : ∀ c k, ¬ PY c k → w' c k = w c k) : RU w' := ⟨RT_cg (fun c k q => e c k (by unfold PT at q; unfold PY PU PP; omega)) h.1, RV_cg (fun c k q => e c k (by unfold PV at q; unfold PY PU PP; omega)) h.2.1, g.1, g.2, RC_cg (fun c k q => e c k (by unfold PC at q; unfold PY PU PP; omega)) (fun k => e _ _ (by unfold PY PU PP; omega)) h.2.2.2.2.1, RR_cg (fun c k q => e c k (by unfold PRo at q; unfold PY PU PP; omega)) h.2.2.2.2.2⟩
theorem bk_H (w w' : Wd) (h : RU w) (g : RC w' ∧ RR w') (e : ∀ c k, ¬ PRo c k → w' c k = w c k) : RU w' := ⟨RT_cg (fun c k q => e c k (by unfold PT at q; unfold PRo; omega)) h.1, RV_cg (fun c k q => e c k (by unfold PV at q; unfold PRo; omega)) h.2.1, GU_pp (fun c k q => e c k (by unfold PU at q; unfold PRo; omega)) h.2.2.1, GP_pp (fun c k q => e c k (by unfold PP at q; unfold PRo; omega)) h.2.2.2.1, g.1, g.2⟩
theorem bk_G (w w' : Wd) (h : RU w) (g : GR w') (e : ∀ c k, ¬ PG c k → w' c k = w c k) : RU w' := ⟨RT_cg (fun c k q => e c k (by unfold PT at q; unfold PG PU PRo; omega)) h.1, RV_cg (fun c k q => e c k (by unfold PV at q; unfold PG PU PRo; omega)) h.2.1, g.1, GP_pp (fun c k q => e c k (by unfold PP at q; unfold PG PU PRo; omega)) h.2.2.2.1, g.2.1, g.2.2⟩
theorem bk_N (w w' : Wd) (h : RU w) (g : True) (e : ∀ c k, ¬ ((fun (_ _ : Nat) => False) c k) → w' c k = w c k) : RU w' := ⟨RT_cg (fun c k _ => e c k (fun z => z)) h.1, RV_cg (fun c k _ => e c k (fun z => z)) h.2.1, GU_pp (fun c k _ => e c k (fun z => z)) h.2.2.1, GP_pp (fun c k _ => e c k (fun z => z)) h.2.2.2.1, RC_cg (fun c k _ => e c k (fun z => z)) (fun k => e _ _ (fun z => z)) h.2.2.2.2.1, RR_cg (fun c k _ => e c k (fun z => z)) h.2.2.2.2.2⟩
theorem bk_R (w w' : Wd) (h : RU w) (g : RR w') (e : ∀ c k, ¬ ((fun (_ _ : Nat) => False) c k) → w' c k = w c k) : RU w' := ⟨RT_cg (fun c k _ => e c k (fun z => z)) h.1, RV_cg (fun c k _ => e c k (fun z => z)) h.2.1, GU_pp (fun c k _ => e c k (fun z => z)) h.2.2.1, GP_pp (fun c k _ => e c k (fun z => z)) h.2.2.2.1, RC_cg (fun c k _ => e c k (fun z => z)) (fun k => e _ _ (fun z => z)) h.2.2.2.2.1, g⟩
theorem all_calls {zs : List Int32} (hL : zs.length ≤ 3584) : ∀ (n k : Nat) (w : Wd), zs.length + 7 ≤ k + n → k ≤ zs.length + 7 → RU w → Gw zs 8 m_Law_law 18 [some (.inr (.inr 0)), some (.inr (.inl (some 0))), some (.inr (.inl (some 155))), some (.inl (nI k))] [] w (fun v _ => v = some (.inl 1)) :=
  law_loop hL
    (fun a0 a1 => lift (par_year a0 a1) (fun w h => trivial) bk_N)
    (fun a0 a1 a2 => lift (par_day a0 a1 a2) (fun w h => trivial) bk_N)
    (fun a0 a1 a2 a3 a4 => lift (par_season AY_ok a0 a1 a2 a3 a4) (fun w h => h.2.2.1) bk_S)
    (fun a0 a1 a2 a3 a4 => lift (par_dated AY_ok a0 a1 a2 a3 a4) (fun w h => h.2.2.1) bk_S)
    (fun a0 a1 a2 a3 a4 => lift (par_feast AY_ok a0 a1 a2 a3 a4) (fun w h => h.2.2.1) bk_S)
    (fun a0 a1 a2 h => lift (par_around AY_ok a0 a1 a2 h) (fun w h => h.2.2.1) bk_S)
    (fun a0 a1 a2 => lift (par_raise AY_ok a0 a1 a2) (fun w h => h.2.2.1) bk_S)
    (fun a0 a1 a2 => lift (par_office a0 a1 a2) (fun w h => h.2.2.1) bk_S)
    (fun a0 a1 a2 a3 => lift (par_also a0 a1 a2 a3) (fun w h => h.2.2.1) bk_S)
    (fun a0 a1 => lift (par_kept a0 a1) (fun w h => h.2.2.1) bk_S)
    (fun a0 a1 a2 => lift (par_tally a0 a1 a2) (fun w h => h.2.2.1) bk_S)
    (fun a0 a1 => lift (par_verses DD_ok a0 a1) (fun w h => ⟨h.2.2.2.1.1, h.2.2.2.1.2.1⟩) bk_P)
    (fun a0 => lift (par_hours DD_ok a0) (fun w h => ⟨h.2.2.2.1.1, h.2.2.2.1.2.1⟩) bk_P)
    (fun a0 a1 => lift (par_fix DD_ok a0 a1) (fun w h => ⟨h.2.2.2.1.1, h.2.2.2.1.2.1⟩) bk_P)
    (fun a0 a1 => lift (par_festal DD_ok a0 a1) (fun w h => ⟨h.2.2.2.1.1, h.2.2.2.1.2.1⟩) bk_P)
    (fun a0 => lift (par_limit DD_ok a0) (fun w h => ⟨h.2.2.2.1.1, h.2.2.2.1.2.1⟩) bk_P)
    (fun a0 a1 a2 => lift (par_dealt a0 a1 a2) (fun w h => h.2.2.2.1) bk_GP)
    (fun a0 a1 a2 a3 => lift (par_sung a0 a1 a2 a3) (fun w h => ⟨h.2.2.1, h.2.2.2.1⟩) bk_Y)
    (fun a0 a1 a2 a3 => lift (par_times a0 a1 a2 a3) (fun w h => ⟨h.2.2.1, h.2.2.2.1⟩) bk_Y)
    (fun a0 a1 => lift (par_tenor a0 a1) (fun w h => h.1) bk_T)
    (fun a0 a1 a2 => lift (par_note a0 a1 a2) (fun w h => h.1) bk_T)
    (fun a0 a1 a2 a3 a4 a5 => lift (par_accent a0 a1 a2 a3 a4 a5) (fun w h => h.1) bk_T)
    (fun a0 a1 a2 => lift (par_accents a0 a1 a2) (fun w h => h.1) bk_T)
    (fun a0 a1 h => lift (par_syllable a0 a1 h) (fun w h => h.2.1) bk_V)
    (fun a0 => lift (par_part a0) (fun w h => h.2.1) bk_V)
    (fun a0 a1 a2 => lift (par_sing a0 a1 a2) (fun w h => ⟨h.1, h.2.1⟩) bk_TV)
    (fun a0 => lift (par_monk a0) (fun w h => h.2.2.2.2.1) bk_C)
    (fun a0 a1 a2 a3 => lift (par_absence a0 a1 a2 a3) (fun w h => h.2.2.2.2.1) bk_C)
    (fun a0 a1 a2 => lift (par_roster a0 a1 a2) (fun w h => ⟨h.2.2.1, h.2.2.2.2.1, h.2.2.2.2.2⟩) bk_G)
    (fun a0 a1 a2 => lift (par_turn2 a0 a1 a2) (fun w h => h.2.2.2.2.2) bk_R)
    (fun a0 a1 => lift (par_had a0 a1) (fun w h => ⟨h.2.2.2.2.1, h.2.2.2.2.2⟩) bk_H)
