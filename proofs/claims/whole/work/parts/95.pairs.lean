/-! Pairs of the year's calls: office, also, kept -/
theorem stR_co {w w2 w3 : Wd} {i : Nat} (h : stR w w2 i) (e : ∀ c k, ¬ PCo c k → w3 c k = w2 c k) : stR w w3 i := by
  obtain ⟨h1, h2, h3⟩ := h
  have o : OYr w3 w2 := fun c k q => e c k (by unfold PCo; omega)
  exact ⟨fun c k q1 q2 => (e c k q2).trans (h1 c k q1 q2), (e _ _ (by unfold PCo; omega)).trans h2, MYr_cg o (e _ _ (by unfold PCo; omega)) (e _ _ (by unfold PCo; omega)) (fun c k q1 q2 => e _ _ (by unfold PCo; omega)) h3⟩
theorem off_CR {w w1 w2 : Wd} {i : Nat} (h1 : stC w w1 i) (h2 : stR w1 w2 i) : ∀ c k, ¬ PU c k → w2 c k = w c k := by
  intro c k hp
  unfold PU at hp
  rw [h2.1 c k (by unfold PRk; omega) (by unfold PCo; omega), h1.1 c k (by omega)]
theorem off_C {w w1 : Wd} {i : Nat} (h1 : stC w w1 i) : ∀ c k, ¬ PU c k → w1 c k = w c k := by
  intro c k hp
  unfold PU at hp
  rw [h1.1 c k (by omega)]
theorem yrN_y (w : Wd) (i : Nat) : (yv w i).N = yrN i := rfl
theorem par_office {zs : List Int32} (a0 a1 a2 : Int32) : Par zs 7 m_Bk_office 6 m_Md_office [.inl a0, .inl a1, .inl a2] GU PU := by
  intro w hG
  refine ew_of k_Bk_office rfl (sg_Bk_office_0 ?_)
  refine ew_openAt hG (fun e => ⟨_, rfl, fun _ => ⟨_, rfl, ew_of k_Md_office rfl (sg_Md_office_0 ⟨fun _ => ⟨rfl, hG, off_rf⟩, fun c => absurd e c⟩)⟩, fun c => absurd rfl c⟩) (fun i d hi ea hd eb e w1 hC => ⟨_, rfl, fun c => absurd c one_ne, fun _ => ?_⟩)
  subst ea; subst eb
  have hG1 := GU_C hi hG hC
  have hy := yv_ok hG.1 hi
  have hN := hy.2.2.1
  have hdN : d < (yv w i).N := hd
  refine ew_officeOn hC.2.2 hdN ⟨_, rfl, _, rfl, ?_⟩
  refine ew_of k_Md_office rfl (sg_Md_office_0 ⟨fun c => absurd c (fun z => one_ne (e.symm.trans z)), fun _ => ?_⟩)
  refine ew_reck hG1 hi (fun w2 hM => ⟨rfl, ?_⟩)
  have hM2 := hM.2.2
  rw [yv_cg (stC_yr hC) i] at hM2
  have fin : ∀ {r : Int32} {w3 : Wd}, stR w1 w3 i → r = ofV (yv w i) d a2 → (some (.inl r) : Option AV) = some (.inl (ofV (yv w i) d a2)) ∧ GU w3 ∧ ∀ c k, ¬ PU c k → w3 c k = w c k := fun h3 hr => ⟨by rw [hr], GU_R hi hG1 h3, off_CR hC h3⟩
  have v := vinN (i := d) (n := 366) (by omega) (by omega)
  obtain ⟨r1, r2, r3, r4⟩ := hM2.2.1 d hdN
  have hok := okF hy hdN
  obtain ⟨k1, k2, k3, k4, -⟩ := cOK_dk hok
  rw [nI_clampN (by omega), r1, r2, r3, r4]
  refine ⟨fun c => ⟨v, fin hM ?_⟩, fun c => ⟨v, fin hM ?_⟩, fun c => ⟨v, fin hM ?_⟩, fun c => ⟨v, fin hM ?_⟩, fun c => ?_, fun c => ⟨v, fun c2 => ⟨v, ?_⟩, fun c2 => fin hM ?_⟩, fun c0 c1 c2 c3 c4 c5 => fin hM ?_⟩
  · unfold ofV; rw [if_pos c]; rfl
  · subst c; unfold ofV; rw [if_neg (by decide), if_pos rfl]; rfl
  · subst c; unfold ofV; rw [if_neg (by decide), if_neg (by decide), if_pos rfl]; rfl
  · subst c; unfold ofV; rw [if_neg (by decide), if_neg (by decide), if_neg (by decide), if_pos rfl]; rfl
  · refine ew_comm hM2 hdN (fun w3 p b1 b2 => ⟨rfl, ?_⟩)
    rw [b2.1]
    refine fin (stR_co hM b1) ?_
    subst c
    unfold ofV
    rw [if_neg (by decide), if_neg (by decide), if_neg (by decide), if_neg (by decide), if_pos rfl, nCo_eq b2.2.1 (fun t ht => (b2.2.2.1 t ht).1) b2.2.2.2]
  · have q : dkC (offF (yv w i) d) = 2 := (nI_eq (by omega) (by omega)).mp (show nI _ = nI 2 from c2)
    have g60 := k3 (by omega)
    have h60 := hy.2.2.2.1
    have ef : fI (dkC (offF (yv w i) d)) (dgC (offF (yv w i) d)) = nI (dgC (offF (yv w i) d)) := by unfold fI; rw [if_neg (by omega)]
    show vp_in (fI (dkC (offF (yv w i) d)) (dgC (offF (yv w i) d))) 60 ∧ _
    refine ⟨by rw [ef]; exact vinN (by omega) (by omega), fin hM ?_⟩
    show w2 169 (fI (dkC (offF (yv w i) d)) (dgC (offF (yv w i) d))).toNatClampNeg = _
    rw [ef, nI_clampN (by omega), (MY_f hM2.1 g60).1]
    subst c
    unfold ofV
    rw [if_neg (by decide), if_neg (by decide), if_neg (by decide), if_neg (by decide), if_neg (by decide), if_pos rfl, if_pos q]
  · have q : ¬ dkC (offF (yv w i) d) = 2 := fun z => c2 (show nI (dkC (offF (yv w i) d)) = 2 by rw [z]; rfl)
    subst c
    unfold ofV
    rw [if_neg (by decide), if_neg (by decide), if_neg (by decide), if_neg (by decide), if_neg (by decide), if_pos rfl, if_neg q]
  · unfold ofV
    rw [if_neg c0, if_neg c1, if_neg c2, if_neg c3, if_neg c4, if_neg c5]
theorem tpF_ok {y : YT} (hy : Yok y) {d t : Nat} (hd : d < y.N) (h : tpF y d t ≠ 0) : cOK y (tpF y d t) := by
  rcases tpB_c (yE y (offF y) d) (ySc y d) (y.nF + 1) t with q | ⟨j, j1, j2, j3⟩
  · exact absurd q h
  · have e : tpF y d t = ySc y d j := j3
    rw [e]
    exact ySc_ok hy hd (by omega) (yE_true.mp j2).1
theorem par_also {zs : List Int32} (a0 a1 a2 a3 : Int32) : Par zs 7 m_Bk_also 6 m_Md_also [.inl a0, .inl a1, .inl a2, .inl a3] GU PU := by
  intro w hG
  refine ew_of k_Bk_also rfl (sg_Bk_also_0 ?_)
  refine ew_openAt hG (fun e => ⟨_, rfl, fun _ => ⟨_, rfl, ew_of k_Md_also rfl (sg_Md_also_0 ⟨fun _ => ⟨rfl, hG, off_rf⟩, fun c => absurd e c⟩)⟩, fun c => absurd rfl c⟩) (fun i d hi ea hd eb e w1 hC => ⟨_, rfl, fun c => absurd c one_ne, fun _ => ⟨_, rfl, ?_⟩⟩)
  subst ea; subst eb
  have hG1 := GU_C hi hG hC
  have hy := yv_ok hG.1 hi
  have hN := hy.2.2.1
  have hdN : d < (yv w i).N := hd
  refine ew_of k_Md_also rfl (sg_Md_also_0 ⟨fun c => absurd c (fun z => one_ne (e.symm.trans z)), fun _ => ?_⟩)
  refine ew_reck hG1 hi (fun w2 hM => ⟨rfl, ?_⟩)
  have hM2 := hM.2.2
  rw [yv_cg (stC_yr hC) i] at hM2
  refine ew_comm hM2 hdN (fun w3 p b1 b2 => ⟨rfl, ?_⟩)
  have hM3 := stR_co hM b1
  obtain ⟨p1, p2, p3, p4⟩ := b2
  have fin : ∀ {r : Int32}, r = f_Alm_commemoration w1 (nI d) a2 a3 → (some (.inl r) : Option AV) = some (.inl (f_Alm_commemoration w1 (nI d) a2 a3)) ∧ GU w3 ∧ ∀ c k, ¬ PU c k → w3 c k = w c k := fun hr => ⟨by rw [hr], GU_R hi hG1 hM3, off_CR hC hM3⟩
  have ix : ∀ t, (nI d * 3 + nI t : Int32) = nI (3 * d + t) := fun t => by
    rw [show (3 : Int32) = nI 3 from rfl, pk_mul, nI_add]
    congr 1; omega
  have tl : ∀ t, tpF (yv w i) d t < 100000 := fun t => Nat.lt_trans tpB_lt (by omega)
  have cv : ∀ t, t < 3 → f_Alm_commemoration w1 (nI d) (nI t) a3 = if tpF (yv w i) d t = 0 then -1 else f_Alm_partOf (oI (tpF (yv w i) d t)) a3 := by
    intro t ht
    unfold f_Alm_commemoration
    have z : f_Md_in (nI t) 0 2 = 1 := in_in (l := 0) (h := 2) rfl rfl (by omega) (by omega) (by omega)
    rw [show f_Bk_within = f_Md_in from rfl, if_neg (in_n0 z), ix, f_at_in (by omega) (by omega), hC.2.2.2.2.1 d hdN t ht]
    by_cases q : tpF (yv w i) d t = 0
    · rw [if_pos ((oI_m1 (tl t)).mpr q), if_pos q]
    · rw [if_neg (fun z => q ((oI_m1 (tl t)).mp z)), if_neg q]
  rw [p1]
  rcases in_cnt a2 (n := p) (by omega) with ⟨e2, hout⟩ | ⟨t, ht, rfl, e2⟩
  · refine ⟨fun _ => fin ?_, fun c => absurd e2 c⟩
    rcases in_c (v := a2) (lo := 0) (hi := 2) 0 2 rfl rfl (by omega) (by omega) with ⟨z, _⟩ | ⟨t, _, t2, rfl, z⟩
    · unfold f_Alm_commemoration
      rw [show f_Bk_within = f_Md_in from rfl, if_pos z]
    · have hpt : p ≤ t := by
        rcases hout with q | q
        · exact absurd q (nI_pos (by omega))
        · rcases Nat.lt_or_ge t p with z2 | z2
          · exact absurd q (nI_gle z2 (by omega))
          · exact z2
      rw [cv t (by omega), if_pos (p4 t hpt (by omega))]
  · refine ⟨fun c => absurd c (in_n0 e2), fun _ => ⟨vinN (by omega) (by omega), ?_⟩⟩
    obtain ⟨n0, x, x1, x2, x3, x4, x5⟩ := p3 t ht
    have v := vinN (i := x) (n := 200) x1 (by omega)
    obtain ⟨-, -, -, -, k5, k6, k7⟩ := cOK_dk (tpF_ok hy hdN n0)
    have cv2 := cv t (by omega)
    rw [if_neg n0, oI_pos (by omega)] at cv2
    unfold f_Alm_partOf at cv2
    rw [k5, k6, k7] at cv2
    rw [nI_clampN (n := t) (by omega), x2, nI_clampN (by omega), x3, x4, x5]
    refine ⟨fun c => ⟨v, fin ?_⟩, fun c => ⟨fun c1 => ⟨v, fin ?_⟩, fun c1 => ⟨fun c2 => ⟨v, fin ?_⟩, fun c2 => fin ?_⟩⟩⟩
    · rw [cv2, if_pos c]
    · rw [cv2, if_neg c, if_pos c1]
    · rw [cv2, if_neg c, if_neg c1, if_pos c2]
    · rw [cv2, if_neg c, if_neg c1, if_neg c2]
theorem ew_keptDay {zs : List Int32} {w : Wd} {i f : Nat} {y : YT} {Q : Option AV → Wd → Prop} (hM : MYr w i y) (hf : f < y.nF) (h : ∀ w', (∀ c k, ¬ PCo c k → w' c k = w c k) → Q (some (.inl (fateF y f))) w') : Ew zs 6 m_Md_keptDay [.inr (.inl (some 155)), .inl (nI (1900 + i)), .inl (nI f)] w Q := by
  have hM0 := hM
  obtain ⟨hb, hO, hV⟩ := hM
  have hy := MY_ok hb
  have hN := hy.2.2.1
  have h60 := hy.2.2.2.1
  obtain ⟨e169, e166, y2, e164, r2, e165, f60, fo⟩ := MY_f hb hf
  have v := vinN (i := f) (n := 60) f60 (by omega)
  have ef : fateF y f = match y.own f with
    | none => -5
    | some o => if y.wy f = 2 then mvI (mvF y f) else if offF y o = cod 2 (y.rk f) f then nI o else if tpF y o 0 = cod 2 (y.rk f) f ∨ tpF y o 1 = cod 2 (y.rk f) f ∨ tpF y o 2 = cod 2 (y.rk f) f then -2 else -3 := rfl
  refine ew_of k_Md_keptDay rfl (sg_Md_keptDay_0 ?_)
  rw [nI_clampN (by omega), e169]
  refine ⟨v, ?_⟩
  cases ho : y.own f with
  | none =>
    rw [ho] at ef
    refine ⟨fun _ => ?_, fun c => absurd rfl c⟩
    have g := h w (fun _ _ _ => rfl)
    rw [ef] at g
    exact g
  | some o =>
    rw [ho] at ef
    have ef2 : fateF y f = if y.wy f = 2 then mvI (mvF y f) else if offF y o = cod 2 (y.rk f) f then nI o else if tpF y o 0 = cod 2 (y.rk f) f ∨ tpF y o 1 = cod 2 (y.rk f) f ∨ tpF y o 2 = cod 2 (y.rk f) f then -2 else -3 := ef
    have hoN := fo o ho
    have n1 : ¬ oO (some o) = -1 := m1_nI (n := o) (by omega)
    refine ⟨fun c => absurd c n1, fun _ => ⟨v, ?_⟩⟩
    rw [show oO (some o) = nI o from rfl]
    refine ew_isOffice (by omega) (okF hy hoN) f60 hy (hO o hoN) ⟨_, rfl, ?_⟩
    have e170 : w 170 f = mR (y.own f) (mvF y f) := hV f hf
    have iff2 := (MI_it hy y.nF).2.1 f hf o ho
    have mI2 : mvF y f = (itM y y.nF).mv f := rfl
    rw [e166, e170, e169, ho, show oO (some o) = nI o from rfl]
    refine ⟨fun c => ⟨v, fun c2 => ⟨v, fun c3 => ?_, fun c3 => ⟨v, ?_⟩⟩, fun c2 => ⟨v, ?_⟩⟩, fun c => ⟨v, ?_⟩⟩
    · have cw : y.wy f = 2 := (nI_eq (by omega) (by omega)).mp (show nI (y.wy f) = nI 2 from c2)
      have g := h w (fun _ _ _ => rfl)
      rw [ef2, if_pos cw] at g
      have em : mvF y f = some none := by
        cases hm : mvF y f with
        | none =>
          rw [hm] at c3
          exact absurd c3 (show ¬ (-1 : Int32) = -2 by decide)
        | some m =>
          cases m with
          | none => rfl
          | some x =>
            rw [hm] at c3
            exfalso
            have hx : x < y.N := (MI_it hy y.nF).2.2 f hf x hm
            have c3' : (if (some o : Option Nat) = some x then (-1 : Int32) else nI x) = -2 := c3
            by_cases q : (some o : Option Nat) = some x
            · rw [if_pos q] at c3'; exact absurd c3' (by decide)
            · rw [if_neg q] at c3'
              have := congrArg Int32.toInt c3'
              rw [nI_toInt (by omega)] at this
              have e2 : (-2 : Int32).toInt = -2 := rfl
              omega
      rw [em] at g
      exact g
    · have cw : y.wy f = 2 := (nI_eq (by omega) (by omega)).mp (show nI (y.wy f) = nI 2 from c2)
      have g := h w (fun _ _ _ => rfl)
      rw [ef2, if_pos cw] at g
      have noff : ¬ offF y o = cod 2 (y.rk f) f := fun z => by rw [if_pos z] at c; exact one_ne c
      have em : mR (some o) (mvF y f) = mvI (mvF y f) := by
        cases hm : mvF y f with
        | none => rfl
        | some m =>
          cases m with
          | none => rw [hm] at c3; exact absurd rfl c3
          | some x =>
            show (if (some o : Option Nat) = some x then (-1 : Int32) else nI x) = nI x
            rw [if_neg (fun z => ?_)]
            cases z
            exact noff ((iff2 cw).mpr (mI2.symm.trans hm))
      rw [em]
      exact g
    · have cw : ¬ y.wy f = 2 := fun z => c2 (by rw [z]; rfl)
      have noff : ¬ offF y o = cod 2 (y.rk f) f := fun z => by rw [if_pos z] at c; exact one_ne c
      rw [if_neg cw, if_neg noff] at ef2
      refine ew_comm hM0 hoN (fun w3 p b1 b2 => ⟨rfl, ?_⟩)
      obtain ⟨p1, p2, p3, p4⟩ := b2
      have g := h w3 b1
      rw [ef2] at g
      have c3 := cOK_pos (cOK_feast hy hf)
      have key := up_loop (fun t => (∀ s, s < t → ¬ tpF y o s = cod 2 (y.rk f) f) → Gw zs 6 m_Md_keptDay 80 [some (.inr (.inl (some 155))), some (.inl (nI (1900 + i))), some (.inl (nI f)), some (.inl (nI t))] [] w3 Q) 0 p (by omega) ?_ ?_
      · exact key (fun s hs => by omega)
      · intro hs
        refine sg_Md_keptDay_80 ?_
        rw [p1]
        refine ⟨fun _ => ?_, fun z => absurd (nI_le (Nat.le_refl _) (by omega)) z⟩
        have all : ∀ t, t < 3 → ¬ tpF y o t = cod 2 (y.rk f) f := by
          intro t ht q
          rcases Nat.lt_or_ge t p with z | z
          · exact hs t z q
          · have := p4 t z ht
            omega
        rw [if_neg (by
          rintro (z | z | z)
          · exact all 0 (by omega) z
          · exact all 1 (by omega) z
          · exact all 2 (by omega) z)] at g
        exact g
      · intro t _ ht ih hs
        obtain ⟨n0, x, x1, x2, x3, x4, x5⟩ := p3 t ht
        have vx := vinN (i := x) (n := 200) x1 (by omega)
        have vt := vinN (i := t) (n := 3) (by omega) (by omega)
        have hok := tpF_ok hy hoN n0
        obtain ⟨k1, k2, k3, k4, -⟩ := cOK_dk hok
        refine sg_Md_keptDay_80 ?_
        rw [p1, nI_clampN (n := t) (by omega), x2, nI_clampN (by omega), x3, x4, nI_1]
        have same : (nI (dkC (tpF y o t)) = 2 ∧ fI (dkC (tpF y o t)) (dgC (tpF y o t)) = nI f) ↔ tpF y o t = cod 2 (y.rk f) f := by
          refine ⟨fun ⟨q1, q2⟩ => ?_, fun q => ?_⟩
          · have e : dkC (tpF y o t) = 2 := (nI_eq (by omega) (by omega)).mp (show nI _ = nI 2 from q1)
            have hg := k3 (by omega)
            unfold fI at q2
            rw [if_neg (by omega)] at q2
            have e2 := (nI_eq (by omega) (by omega)).mp q2
            have := k4 e
            rw [e2] at this
            exact this
          · rw [q, dk_cod (by omega), dg_cod (by omega) (by omega)]
            exact ⟨rfl, rfl⟩
        have next : ¬ tpF y o t = cod 2 (y.rk f) f → Gw zs 6 m_Md_keptDay 80 [some (.inr (.inl (some 155))), some (.inl (nI (1900 + i))), some (.inl (nI f)), some (.inl (nI (t + 1)))] [] w3 Q := by
          intro hn
          refine ih (fun s hs2 => ?_)
          by_cases q : s = t
          · subst q; exact hn
          · exact hs s (by omega)
        refine ⟨fun z => absurd z (nI_gle ht (by omega)), fun _ => ⟨vt, vx, fun c5 => ⟨vt, vx, fun c6 => ?_, fun c6 => next (fun z => c6 (same.mpr z).2)⟩, fun c5 => next (fun z => c5 (same.mpr z).1)⟩⟩
        have z2 := same.mp ⟨c5, c6⟩
        rw [if_pos (by
          rcases (show t = 0 ∨ t = 1 ∨ t = 2 by omega) with rfl | rfl | rfl
          · exact Or.inl z2
          · exact Or.inr (Or.inl z2)
          · exact Or.inr (Or.inr z2))] at g
        exact g
    · have off : offF y o = cod 2 (y.rk f) f := by
        by_cases z : offF y o = cod 2 (y.rk f) f
        · exact z
        · rw [if_neg z] at c; exact absurd rfl c
      have g := h w (fun _ _ _ => rfl)
      by_cases cw : y.wy f = 2
      · have := (iff2 cw).mp off
        rw [ef2, if_pos cw, mI2, this] at g
        exact g
      · rw [ef2, if_neg cw, if_pos off] at g
        exact g
theorem par_kept {zs : List Int32} (a0 a1 : Int32) : Par zs 7 m_Bk_kept 7 m_Md_kept [.inl a0, .inl a1] GU PU := by
  intro w hG
  obtain ⟨n, hn3, hn2, hn1, -⟩ := hG.1.2
  refine ew_of k_Bk_kept rfl (sg_Bk_kept_0 ?_)
  rcases in_cnt a1 (n := n) (by omega) with ⟨e1, hout⟩ | ⟨f, hf, rfl, e1⟩
  · refine ⟨fun _ => ⟨_, rfl, ew_of k_Md_kept rfl (sg_Md_kept_0 ?_)⟩, fun c => absurd (ftold_out hn2 hout) c⟩
    rw [hn1]
    exact ⟨fun _ => ⟨rfl, hG, off_rf⟩, fun _ => ⟨fun _ => ⟨rfl, hG, off_rf⟩, fun c => absurd e1 c⟩⟩
  · refine ⟨fun c => absurd c (fun z => one_ne ((ftold_in hn2 hf (by omega)).symm.trans z)), fun _ => ?_⟩
    refine ew_open hG (fun e => ⟨_, rfl, fun _ => ⟨_, rfl, ew_of k_Md_kept rfl (sg_Md_kept_0 ⟨fun _ => ⟨rfl, hG, off_rf⟩, fun c => absurd e c⟩)⟩, fun c => absurd rfl c⟩) (fun i hi ea e w1 hC => ⟨_, rfl, fun c => absurd c one_ne, fun _ => ⟨_, rfl, ?_⟩⟩)
    subst ea
    have hG1 := GU_C hi hG hC
    have f1 : w1 155 1 = nI n := (hC.1 _ _ (by omega)).trans hn1
    have fi := yv_nF hG.1 i
    have en : (yv w i).nF = n := (nI_eq (by omega) (by omega)).mp (fi.1.symm.trans hn1)
    have hfi : f < (yv w i).nF := by rw [en]; exact hf
    have ev : f_Alm_fateOf w1 (nI f) = fateF (yv w i) f := by
      have z : f_Alm_fateOf w1 (nI f) = f_at w1 21 60 (nI f) := rfl
      rw [z, f_at_in (by omega) (by omega)]
      exact hC.2.2.2.2.2 f hfi
    rw [ev]
    refine ew_of k_Md_kept rfl (sg_Md_kept_0 ?_)
    rw [f1]
    refine ⟨fun c => absurd c (fun z => one_ne (e.symm.trans z)), fun _ => ⟨fun c => absurd c (in_n0 e1), fun _ => ?_⟩⟩
    refine ew_reck hG1 hi (fun w2 hM => ⟨rfl, ?_⟩)
    have hM2 := hM.2.2
    rw [yv_cg (stC_yr hC) i] at hM2
    refine ew_keptDay hM2 hfi (fun w3 b1 => ⟨_, rfl, ?_⟩)
    have hM3 := stR_co hM b1
    exact ⟨rfl, GU_R hi hG1 hM3, off_CR hC hM3⟩
