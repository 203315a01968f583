/-! Pairs of the year's calls: tally -/
theorem cnt_s (u : Nat → Bool) (n : Nat) : cnt u (n + 1) = cnt u n + if u n = true then 1 else 0 := rfl
theorem ew_daysWith {zs : List Int32} {w : Wd} {i : Nat} {y : YT} {x v : Int32} {Q : Option AV → Wd → Prop} (hC : CYr w i y) (h : Q (some (.inl (nI (cnt (fun d => decide (ofV y d x = v)) y.N)))) w) : Ew zs 4 m_Alm_daysWith [.inr (.inl (some 16)), .inl x, .inl v] w Q := by
  have hb := hC.1
  have hN := (AB_ok hb).2.2.1
  refine ew_of k_Alm_daysWith rfl (sg_Alm_daysWith_0 ?_)
  have g := up_loop (fun d => Gw zs 4 m_Alm_daysWith 5 [some (.inr (.inl (some 16))), some (.inl x), some (.inl v), some (.inl (nI (cnt (fun d => decide (ofV y d x = v)) d))), some (.inl (nI d))] [] w Q) 0 y.N (by omega) ?_ ?_
  · exact g
  · refine sg_Alm_daysWith_5 ?_
    rw [hb.2.2.2.1]
    exact ⟨fun _ => h, fun c => absurd (nI_le (Nat.le_refl _) (by omega)) c⟩
  · intro d _ hd ih
    refine sg_Alm_daysWith_5 ?_
    rw [hb.2.2.2.1]
    refine ⟨fun c => absurd c (nI_gle hd (by omega)), fun _ => ew_officeOn hC hd ⟨_, rfl, fun c => ?_, fun c => ?_⟩⟩
    · rw [cnt_s, if_pos (decide_eq_true c)] at ih
      rw [nI_1, nI_1]
      exact ih
    · rw [cnt_s, if_neg (fun q => c (of_decide_eq_true q)), Nat.add_zero] at ih
      rw [nI_1]
      exact ih
def isMv (y : YT) (f : Nat) : Bool := decide (¬ fateF y f < 0 ∧ ¬ fateF y f = oO (y.own f))
theorem ew_movedF {zs : List Int32} {w : Wd} {i : Nat} {y : YT} {Q : Option AV → Wd → Prop} (hC : CYr w i y) (h : Q (some (.inl (nI (cnt (isMv y) y.nF)))) w) : Ew zs 1 m_Alm_movedFeasts [.inr (.inl (some 16))] w Q := by
  have hb := hC.1
  have h60 := (AB_ok hb).2.2.2.1
  refine ew_of k_Alm_movedFeasts rfl (sg_Alm_movedFeasts_0 ?_)
  have g := up_loop (fun f => ∀ o3, Gw zs 1 m_Alm_movedFeasts 4 [some (.inr (.inl (some 16))), some (.inl (nI (cnt (isMv y) f))), some (.inl (nI f)), o3] [] w Q) 0 y.nF (by omega) ?_ ?_
  · exact g none
  · intro o3
    refine sg_Alm_movedFeasts_4 ?_
    rw [AB_n hb]
    exact ⟨fun _ => h, fun c => absurd (nI_le (Nat.le_refl _) (by omega)) c⟩
  · intro f _ hf ih o3
    refine sg_Alm_movedFeasts_4 ?_
    rw [AB_n hb, f_at_in (c := 21) (by omega) (by omega), hC.2.2.2 f hf, (AB_f hb hf).2.2.1, nI_1, nI_1]
    have no : ¬ isMv y f = true → ∀ o3, Gw zs 1 m_Alm_movedFeasts 4 [some (.inr (.inl (some 16))), some (.inl (nI (cnt (isMv y) f))), some (.inl (nI (f + 1))), o3] [] w Q := by
      intro q o3
      have g := ih o3
      rw [cnt_s, if_neg q, Nat.add_zero] at g
      exact g
    refine ⟨fun c => absurd c (nI_gle hf (by omega)), fun _ => ⟨fun c => no (fun q => (of_decide_eq_true q).1 c) _, fun c => ⟨fun c2 => no (fun q => (of_decide_eq_true q).2 c2) _, fun c2 => ?_⟩⟩⟩
    have g := ih (some (.inl (fateF y f)))
    rw [cnt_s, if_pos (show isMv y f = true from decide_eq_true ⟨c, c2⟩)] at g
    exact g
theorem ew_ofFate {zs : List Int32} {w : Wd} {i : Nat} {y : YT} {v : Int32} {Q : Option AV → Wd → Prop} (hC : CYr w i y) (h : Q (some (.inl (nI (cnt (fun f => decide (fateF y f = v)) y.nF)))) w) : Ew zs 1 m_Alm_feastsOfFate [.inr (.inl (some 16)), .inl v] w Q := by
  have hb := hC.1
  have h60 := (AB_ok hb).2.2.2.1
  refine ew_of k_Alm_feastsOfFate rfl (sg_Alm_feastsOfFate_0 ?_)
  have g := up_loop (fun f => Gw zs 1 m_Alm_feastsOfFate 4 [some (.inr (.inl (some 16))), some (.inl v), some (.inl (nI (cnt (fun f => decide (fateF y f = v)) f))), some (.inl (nI f))] [] w Q) 0 y.nF (by omega) ?_ ?_
  · exact g
  · refine sg_Alm_feastsOfFate_4 ?_
    rw [AB_n hb]
    exact ⟨fun _ => h, fun c => absurd (nI_le (Nat.le_refl _) (by omega)) c⟩
  · intro f _ hf ih
    refine sg_Alm_feastsOfFate_4 ?_
    rw [AB_n hb, f_at_in (c := 21) (by omega) (by omega), hC.2.2.2 f hf, nI_1, nI_1]
    refine ⟨fun c => absurd c (nI_gle hf (by omega)), fun _ => ⟨fun c => ?_, fun c => ?_⟩⟩
    · rw [cnt_s, if_pos (decide_eq_true c)] at ih
      exact ih
    · rw [cnt_s, if_neg (fun q => c (of_decide_eq_true q)), Nat.add_zero] at ih
      exact ih
def tlW (q : Nat) : Int32 := if q = 0 then 0 else if q = 1 then 2 else 3
theorem ew_mt39 {zs : List Int32} {w : Wd} {i q : Nat} {y : YT} {v : Int32} {o6 o7 : Option AV} {Q : Option AV → Wd → Prop} (hM : MYr w i y) (hq : q ≤ 2) (h : Q (some (.inl (nI (cnt (fun d => decide (ofV y d (tlW q) = v)) y.N)))) w) : Gw zs 7 m_Md_tally 39 [some (.inr (.inl (some 155))), some (.inl (nI (1900 + i))), some (.inl (nI q)), some (.inl v), some (.inl 0), some (.inl 0), o6, o7] [] w Q := by
  obtain ⟨hb, hO, hV⟩ := hM
  have hy := MY_ok hb
  have hN := hy.2.2.1
  have eN : f_Md_daysOf (nI (1900 + i)) = nI y.N := by rw [(yrN_is i).1, hb.2.2.1]; rfl
  have g := up_loop (fun d => ∀ o6, Gw zs 7 m_Md_tally 39 [some (.inr (.inl (some 155))), some (.inl (nI (1900 + i))), some (.inl (nI q)), some (.inl v), some (.inl (nI (cnt (fun d => decide (ofV y d (tlW q) = v)) d))), some (.inl (nI d)), o6, o7] [] w Q) 0 y.N (by omega) ?_ ?_
  · exact g o6
  · intro o6
    refine sg_Md_tally_39 ?_
    rw [eN]
    refine ⟨fun _ => sg_Md_tally_116 ⟨fun _ => h, fun _ => ⟨fun _ => h, fun c => absurd (nI_le (a := q) (b := 2) hq (by omega)) c⟩⟩, fun c => absurd (nI_le (Nat.le_refl _) (by omega)) c⟩
  · intro d _ hd ih o6
    obtain ⟨r1, r2, r3, r4⟩ := hO d hd
    have vd := vinN (i := d) (n := 366) (by omega) (by omega)
    have yes : ofV y d (tlW q) = v → ∀ o6, Gw zs 7 m_Md_tally 39 [some (.inr (.inl (some 155))), some (.inl (nI (1900 + i))), some (.inl (nI q)), some (.inl v), some (.inl (nI (cnt (fun d => decide (ofV y d (tlW q) = v)) d + 1))), some (.inl (nI (d + 1))), o6, o7] [] w Q := by
      intro c o6
      have g := ih o6
      rw [cnt_s, if_pos (decide_eq_true c)] at g
      exact g
    have no : ¬ ofV y d (tlW q) = v → ∀ o6, Gw zs 7 m_Md_tally 39 [some (.inr (.inl (some 155))), some (.inl (nI (1900 + i))), some (.inl (nI q)), some (.inl v), some (.inl (nI (cnt (fun d => decide (ofV y d (tlW q) = v)) d))), some (.inl (nI (d + 1))), o6, o7] [] w Q := by
      intro c o6
      have g := ih o6
      rw [cnt_s, if_neg (fun z => c (of_decide_eq_true z)), Nat.add_zero] at g
      exact g
    refine sg_Md_tally_39 ?_
    rw [eN, nI_clampN (n := d) (by omega), r1, r3, r4, Int32.add_zero, nI_1, nI_1]
    refine ⟨fun c => absurd c (nI_gle hd (by omega)), fun _ => ⟨fun c => absurd c (nI_gle (a := 3) (b := q) (by omega) (by omega)), fun _ => ⟨fun c => ?_, fun c => ⟨fun c2 => ?_, fun c2 => ?_⟩⟩⟩⟩
    · have q0 : q = 0 := (nI_eq (by omega) (by omega)).mp (show nI q = nI 0 from c)
      have ev : ofV y d (tlW q) = nI (dkC (offF y d)) := by rw [q0]; rfl
      rw [ev] at yes no
      exact ⟨vd, fun z => yes z _, fun z => no z _⟩
    · have q0 : q = 1 := (nI_eq (by omega) (by omega)).mp (show nI q = nI 1 from c2)
      have ev : ofV y d (tlW q) = nI (drC (offF y d)) := by rw [q0]; rfl
      rw [ev] at yes no
      exact ⟨vd, fun z => yes z _, fun z => no z _⟩
    · have q0 : ¬ q = 0 := fun z => c (by rw [z]; rfl)
      have q1 : ¬ q = 1 := fun z => c2 (by rw [z]; rfl)
      have ev : ofV y d (tlW q) = colO y d (offF y d) := by
        unfold tlW
        rw [if_neg q0, if_neg q1]
        rfl
      rw [ev] at yes no
      exact ⟨vd, fun z => yes z _, fun z => no z _⟩
def pTl (y : YT) (q f : Nat) : Bool := if q = 3 then isMv y f else if q = 4 then decide (fateF y f = -4) else if q = 5 then decide (fateF y f = -2) else decide (fateF y f = -3)
theorem ew_mt116 {zs : List Int32} {w : Wd} {i q : Nat} {y : YT} {o3 o6 o7 : Option AV} {Q : Option AV → Wd → Prop} (hM : MYr w i y) (hq : 3 ≤ q) (hq6 : q ≤ 6) (h : ∀ w', (∀ c k, ¬ PCo c k → w' c k = w c k) → Q (some (.inl (nI (cnt (pTl y q) y.nF)))) w') : Gw zs 7 m_Md_tally 116 [some (.inr (.inl (some 155))), some (.inl (nI (1900 + i))), some (.inl (nI q)), o3, some (.inl 0), some (.inl 0), o6, o7] [] w Q := by
  have hM0 := hM
  obtain ⟨hb, hO, hV⟩ := hM
  have hy := MY_ok hb
  have h60 := hy.2.2.2.1
  have g := up_loop (fun f => ∀ w' o6 o7, (∀ c k, ¬ PCo c k → w' c k = w c k) → Gw zs 7 m_Md_tally 116 [some (.inr (.inl (some 155))), some (.inl (nI (1900 + i))), some (.inl (nI q)), o3, some (.inl (nI (cnt (pTl y q) f))), some (.inl (nI f)), o6, o7] [] w' Q) 0 y.nF (by omega) ?_ ?_
  · exact g w o6 o7 (fun _ _ _ => rfl)
  · intro w' o6 o7 a
    refine sg_Md_tally_116 ?_
    rw [a 155 1 (by unfold PCo; omega), MY_n hb]
    exact ⟨fun _ => h w' a, fun c => absurd (nI_le (Nat.le_refl _) (by omega)) c⟩
  · intro f _ hf ih w' o6 o7 a
    have o : OYr w' w := fun c k z => a c k (by unfold PCo; omega)
    have hM' : MYr w' i y := MYr_cg o (a _ _ (by unfold PCo; omega)) (a _ _ (by unfold PCo; omega)) (fun c k q1 q2 => a _ _ (by unfold PCo; omega)) hM0
    refine sg_Md_tally_116 ?_
    rw [a 155 1 (by unfold PCo; omega), MY_n hb]
    refine ⟨fun c => absurd c (nI_gle hf (by omega)), fun _ => ⟨fun c => absurd c (nI_gle (a := q) (b := 2) (by omega) (by omega)), fun _ => ?_⟩⟩
    refine ew_keptDay hM' hf (fun w4 b1 => ⟨_, rfl, ?_⟩)
    have a4 : ∀ c k, ¬ PCo c k → w4 c k = w c k := fun c k hp => (b1 c k hp).trans (a c k hp)
    have e169 : w4 169 f = oO (y.own f) := (a4 _ _ (by unfold PCo; omega)).trans (MY_f hb hf).1
    have v := vinN (i := f) (n := 60) (by omega) (by omega)
    have yes : pTl y q f = true → ∀ o6 o7, Gw zs 7 m_Md_tally 116 [some (.inr (.inl (some 155))), some (.inl (nI (1900 + i))), some (.inl (nI q)), o3, some (.inl (nI (cnt (pTl y q) f + 1))), some (.inl (nI (f + 1))), o6, o7] [] w4 Q := by
      intro c o6 o7
      have g := ih w4 o6 o7 a4
      rw [cnt_s, if_pos c] at g
      exact g
    have no : ¬ pTl y q f = true → ∀ o6 o7, Gw zs 7 m_Md_tally 116 [some (.inr (.inl (some 155))), some (.inl (nI (1900 + i))), some (.inl (nI q)), o3, some (.inl (nI (cnt (pTl y q) f))), some (.inl (nI (f + 1))), o6, o7] [] w4 Q := by
      intro c o6 o7
      have g := ih w4 o6 o7 a4
      rw [cnt_s, if_neg c, Nat.add_zero] at g
      exact g
    rw [nI_clampN (by omega), e169, Int32.add_zero, nI_1, nI_1]
    refine ⟨fun c3 => ?_, fun c3 => ⟨fun c4 => ?_, fun c4 => ⟨fun c5 => ?_, fun c5 => ?_⟩⟩⟩
    · have q3 : q = 3 := (nI_eq (by omega) (by omega)).mp (show nI q = nI 3 from c3)
      have ev : pTl y q f = isMv y f := by unfold pTl; rw [if_pos q3]
      rw [ev] at yes no
      refine ⟨fun z => no (fun z2 => (of_decide_eq_true z2).1 z) _ _, fun z => ⟨v, fun z2 => no (fun z3 => (of_decide_eq_true z3).2 z2) _ _, fun z2 => yes (decide_eq_true ⟨z, z2⟩) _ _⟩⟩
    · have q4 : q = 4 := (nI_eq (by omega) (by omega)).mp (show nI q = nI 4 from c4)
      have ev : pTl y q f = decide (fateF y f = -4) := by unfold pTl; rw [if_neg (by omega), if_pos q4]
      rw [ev] at yes no
      exact ⟨fun z => yes (decide_eq_true z) _ _, fun z => no (fun z2 => z (of_decide_eq_true z2)) _ _⟩
    · have q5 : q = 5 := (nI_eq (by omega) (by omega)).mp (show nI q = nI 5 from c5)
      have ev : pTl y q f = decide (fateF y f = -2) := by unfold pTl; rw [if_neg (by omega), if_neg (by omega), if_pos q5]
      rw [ev] at yes no
      exact ⟨fun z => yes (decide_eq_true z) _ _, fun z => no (fun z2 => z (of_decide_eq_true z2)) _ _⟩
    · have q3 : ¬ q = 3 := fun z => c3 (by rw [z]; rfl)
      have q4 : ¬ q = 4 := fun z => c4 (by rw [z]; rfl)
      have q5 : ¬ q = 5 := fun z => c5 (by rw [z]; rfl)
      have ev : pTl y q f = decide (fateF y f = -3) := by unfold pTl; rw [if_neg q3, if_neg q4, if_neg q5]
      rw [ev] at yes no
      exact ⟨fun z => yes (decide_eq_true z) _ _, fun z => no (fun z2 => z (of_decide_eq_true z2)) _ _⟩
theorem par_tally {zs : List Int32} (a0 a1 a2 : Int32) : Par zs 7 m_Bk_tally 7 m_Md_tally [.inl a0, .inl a1, .inl a2] GU PU := by
  intro w hG
  refine ew_of k_Bk_tally rfl (sg_Bk_tally_0 ?_)
  refine ew_open hG (fun e => ⟨_, rfl, fun _ => ⟨_, rfl, ew_of k_Md_tally rfl (sg_Md_tally_0 ⟨fun _ => ⟨rfl, hG, off_rf⟩, fun c => absurd e c⟩)⟩, fun c => absurd rfl c⟩) (fun i hi ea e w1 hC => ⟨_, rfl, fun c => absurd c one_ne, fun _ => ?_⟩)
  subst ea
  have hG1 := GU_C hi hG hC
  have hy := yv_ok hG.1 hi
  have hN := hy.2.2.1
  have hC2 := hC.2.2
  have en : ¬ f_Md_isYear (nI (1900 + i)) = 0 := fun z => one_ne (e.symm.trans z)
  -- the plain program, when it counts days
  have days : ∀ q, q ≤ 2 → a1 = nI q → ∀ n, n = cnt (fun d => decide (ofV (yv w i) d (tlW q) = a2)) (yv w i).N → Ew zs 7 m_Md_tally [.inr (.inl (some 155)), .inl (nI (1900 + i)), .inl a1, .inl a2] w1 (fun v2 w2 => v2 = some (.inl (nI n)) ∧ GU w2 ∧ ∀ c k, ¬ PU c k → w2 c k = w c k) := by
    intro q hq ea n hn
    subst ea; subst hn
    have i6 : f_Md_in (nI q) 0 6 = 1 := in_in (l := 0) (h := 6) rfl rfl (by omega) (by omega) (by omega)
    refine ew_of k_Md_tally rfl (sg_Md_tally_0 ⟨fun c => absurd c en, fun _ => ⟨fun c => absurd c (in_n0 i6), fun _ => ⟨fun _ => ?_, fun c => absurd (nI_le (a := q) (b := 2) hq (by omega)) c⟩⟩⟩)
    refine ew_reck hG1 hi (fun w2 hM => ⟨rfl, ?_⟩)
    have hM2 := hM.2.2
    rw [yv_cg (stC_yr hC) i] at hM2
    exact ew_mt39 hM2 hq ⟨rfl, GU_R hi hG1 hM, off_CR hC hM⟩
  -- when it counts feasts
  have fsts : ∀ q, 3 ≤ q → q ≤ 6 → a1 = nI q → a2 = 0 → ∀ n, n = cnt (pTl (yv w i) q) (yv w i).nF → Ew zs 7 m_Md_tally [.inr (.inl (some 155)), .inl (nI (1900 + i)), .inl a1, .inl a2] w1 (fun v2 w2 => v2 = some (.inl (nI n)) ∧ GU w2 ∧ ∀ c k, ¬ PU c k → w2 c k = w c k) := by
    intro q hq3 hq6 ea e2 n hn
    subst ea; subst hn
    have i6 : f_Md_in (nI q) 0 6 = 1 := in_in (l := 0) (h := 6) rfl rfl (by omega) (by omega) (by omega)
    refine ew_of k_Md_tally rfl (sg_Md_tally_0 ⟨fun c => absurd c en, fun _ => ⟨fun c => absurd c (in_n0 i6), fun _ => ⟨fun c => absurd c (nI_gle (a := q) (b := 2) (by omega) (by omega)), fun _ => ⟨fun _ => ?_, fun c => absurd e2 c⟩⟩⟩⟩)
    refine ew_reck hG1 hi (fun w2 hM => ⟨rfl, ?_⟩)
    have hM2 := hM.2.2
    rw [yv_cg (stC_yr hC) i] at hM2
    have eN : f_Md_daysOf (nI (1900 + i)) = nI (yv w i).N := (yrN_is i).1
    have hN1 := hy.2.1
    refine sg_Md_tally_39 ?_
    rw [eN]
    refine ⟨fun c => absurd c (nI_nle (by omega) (by omega)), fun _ => ⟨fun _ => ?_, fun c => absurd (nI_le (a := 3) (b := q) hq3 (by omega)) c⟩⟩
    refine ew_mt116 hM2 hq3 hq6 (fun w3 b1 => ?_)
    have hM3 := stR_co hM b1
    exact ⟨rfl, GU_R hi hG1 hM3, off_CR hC hM3⟩
  have none2 : ∀ q, 3 ≤ q → q ≤ 6 → a1 = nI q → ¬ a2 = 0 → Ew zs 7 m_Md_tally [.inr (.inl (some 155)), .inl (nI (1900 + i)), .inl a1, .inl a2] w1 (fun v2 w2 => v2 = some (.inl (-1)) ∧ GU w2 ∧ ∀ c k, ¬ PU c k → w2 c k = w c k) := by
    intro q hq3 hq6 ea e2
    subst ea
    have i6 : f_Md_in (nI q) 0 6 = 1 := in_in (l := 0) (h := 6) rfl rfl (by omega) (by omega) (by omega)
    exact ew_of k_Md_tally rfl (sg_Md_tally_0 ⟨fun c => absurd c en, fun _ => ⟨fun c => absurd c (in_n0 i6), fun _ => ⟨fun c => absurd c (nI_gle (a := q) (b := 2) (by omega) (by omega)), fun _ => ⟨fun c => absurd c e2, fun _ => ⟨rfl, hG1, off_C hC⟩⟩⟩⟩⟩)
  refine ⟨fun c => ?_, fun c => ?_, fun c => ?_, fun c => ⟨fun c2 => ?_, fun c2 => ⟨_, rfl, none2 3 (by omega) (by omega) c c2⟩⟩, fun c => ⟨fun c2 => ?_, fun c2 => ⟨_, rfl, none2 4 (by omega) (by omega) c c2⟩⟩, fun c => ⟨fun c2 => ?_, fun c2 => ⟨_, rfl, none2 5 (by omega) (by omega) c c2⟩⟩, fun c => ⟨fun c2 => ?_, fun c2 => ⟨_, rfl, none2 6 (by omega) (by omega) c c2⟩⟩, fun c0 c1 c2 c3 c4 c5 c6 => ⟨_, rfl, ?_⟩⟩
  · exact ew_daysWith hC2 ⟨_, rfl, _, rfl, days 0 (by omega) c _ rfl⟩
  · exact ew_daysWith hC2 ⟨_, rfl, _, rfl, days 1 (by omega) c _ rfl⟩
  · exact ew_daysWith hC2 ⟨_, rfl, _, rfl, days 2 (by omega) c _ rfl⟩
  · exact ew_movedF hC2 ⟨_, rfl, _, rfl, fsts 3 (by omega) (by omega) c c2 _ rfl⟩
  · exact ew_ofFate hC2 ⟨_, rfl, _, rfl, fsts 4 (by omega) (by omega) c c2 _ rfl⟩
  · exact ew_ofFate hC2 ⟨_, rfl, _, rfl, fsts 5 (by omega) (by omega) c c2 _ rfl⟩
  · exact ew_ofFate hC2 ⟨_, rfl, _, rfl, fsts 6 (by omega) (by omega) c c2 _ rfl⟩
  · refine ew_of k_Md_tally rfl (sg_Md_tally_0 ⟨fun c => absurd c en, fun _ => ⟨fun _ => ⟨rfl, hG1, off_C hC⟩, fun c => ?_⟩⟩)
    exfalso
    rcases in_c (v := a1) (lo := 0) (hi := 6) 0 6 rfl rfl (by omega) (by omega) with ⟨z, _⟩ | ⟨q, _, q2, rfl, z⟩
    · exact c z
    · rcases (show q = 0 ∨ q = 1 ∨ q = 2 ∨ q = 3 ∨ q = 4 ∨ q = 5 ∨ q = 6 by omega) with rfl | rfl | rfl | rfl | rfl | rfl | rfl
      · exact c0 rfl
      · exact c1 rfl
      · exact c2 rfl
      · exact c3 rfl
      · exact c4 rfl
      · exact c5 rfl
      · exact c6 rfl
