/-! What is commemorated, as the plain program picks it -/
def OK2 (y : YT) (d c : Nat) : Prop := (∃ j, j ≤ y.nF ∧ ySl y d j = true ∧ c = ySc y d j) ∨ ∃ f, f < y.nF ∧ c = cod 2 (y.rk f) f
theorem OK2_it {y : YT} (hy : Yok y) {d : Nat} (hd : d < y.N) : ∀ k, OK2 y d ((itM y k).off d) := by
  intro k
  induction k with
  | zero =>
    left
    have h0 : ySc y d 0 ≤ off0 y d := mxB_ge (Nat.succ_pos _) rfl (ySc_lt hy hd (Nat.zero_le _))
    have h1 := ySc_pos hy (d := d) (Nat.zero_le y.nF)
    rcases mxB_c (ySl y d) (ySc y d) 10000 (y.nF + 1) with h | ⟨j, h2, h3, -, h4⟩
    · exfalso
      have : off0 y d = 0 := h
      omega
    · exact ⟨j, by omega, h3, h4⟩
  | succ k ih =>
    show OK2 y d ((stM y (itM y k)).off d)
    cases hn : nxM y (itM y k).mv y.nF with
    | none => rw [stM_none hn]; exact ih
    | some f =>
      rw [stM_some hn]
      obtain ⟨f1, f2⟩ := nxM_some hn
      cases hp : plM y (itM y k).off f with
      | none => exact ih
      | some x =>
        show OK2 y d (upM (itM y k).off x (cod 2 (y.rk f) f) d)
        by_cases e : d = x
        · subst e; rw [upM_eq]; exact Or.inr ⟨f, f1, rfl⟩
        · rw [upM_ne e]; exact ih
theorem OK2_F {y : YT} (hy : Yok y) {d : Nat} (hd : d < y.N) : OK2 y d (offF y d) := OK2_it hy hd y.nF
theorem okF {y : YT} (hy : Yok y) {d : Nat} (hd : d < y.N) : cOK y (offF y d) := (MI_it hy y.nF).1 d hd
theorem ySc_c2 {y : YT} {d f : Nat} (hl : ySl y d (f + 1) = true) (h : ySk y d (f + 1) = 2) : ySc y d (f + 1) = cod 2 (y.rk f) f := by
  have e : KD y.f0 y.F d f = 2 := h
  show cod (KD y.f0 y.F d f) (RK y.F y.f0 d f) (f + 1 - 1) = _
  have er : RK y.F y.f0 d f = y.rk f := by
    unfold RK
    unfold KD at e
    cases ho : (y.F f).own with
    | none => rw [ho] at e; exact absurd e (show ¬ (0 : Nat) = 2 by decide)
    | some o =>
      show rkO o (y.F f).rk (y.F f).oc d (KD y.f0 y.F d f) = y.rk f
      have e2 : KD y.f0 y.F d f = 2 := h
      rw [e2]
      rfl
  rw [e, er, Nat.add_sub_cancel]
/-- a place's kind and feast are the office's just where its code is -/
theorem off_same {y : YT} (hy : Yok y) {d j c : Nat} (hj : j ≤ y.nF) (hl : ySl y d j = true) (hok : OK2 y d c) : (nI (ySk y d j) = nI (dkC c) ∧ fI (ySk y d j) (j - 1) = fI (dkC c) (dgC c)) ↔ ySc y d j = c := by
  have h60 := hy.2.2.2.1
  refine ⟨fun ⟨q1, q2⟩ => ?_, fun q => ?_⟩
  · rcases hok with ⟨i, hi, hli, rfl⟩ | ⟨f, hf, rfl⟩
    · have e1 : dkC (ySc y d i) = ySk y d i := dk_cod (ySk_4 y d i)
      have b1 := ySk_4 y d i
      have b2 := ySk_4 y d j
      rw [e1] at q1 q2
      have k := (nI_eq (by omega) (by omega)).mp q1
      cases i with
      | zero =>
        have k0 := ySk_0 y d
        cases j with
        | zero => rfl
        | succ g => have := ySk_f hl; omega
      | succ f =>
        have kf := ySk_f hli
        cases j with
        | zero => have k0 := ySk_0 y d; omega
        | succ g =>
          unfold fI at q2
          rw [if_neg (by omega), if_neg (by omega), show dgC (ySc y d (f + 1)) = f + 1 - 1 from dg_cod kf (by omega)] at q2
          have := (nI_eq (by omega) (by omega)).mp q2
          have e : g = f := by omega
          rw [e]
    · rw [dk_cod (by omega)] at q1 q2
      have b2 := ySk_4 y d j
      have k := (nI_eq (by omega) (by omega)).mp q1
      rw [dg_cod (by omega) (by omega)] at q2
      cases j with
      | zero => have k0 := ySk_0 y d; omega
      | succ g =>
        unfold fI at q2
        rw [if_neg (by omega), if_neg (by omega)] at q2
        have e : g = f := by have := (nI_eq (by omega) (by omega)).mp q2; omega
        subst e
        have ok := ySc_c2 hl k
        exact ok
  · subst q
    exact ⟨(slot_RO hy hj hl).1, (slot_RO hy hj hl).2.1⟩
theorem yX_mono {y : YT} {d i j : Nat} (hij : i < j) (hi : ySl y d i = true) : yX y d i < yX y d j := by
  cases j with
  | zero => omega
  | succ g =>
    show yX y d i < 1 + cnt (uF y.f0 y.F d) g
    cases i with
    | zero => show 0 < _; omega
    | succ f =>
      show 1 + cnt (uF y.f0 y.F d) f < _
      have := cnt_lt (u := uF y.f0 y.F d) (show f < g by omega) hi
      omega
theorem yX_step {y : YT} {d j : Nat} : yX y d (j + 1) = if ySl y d j = true then yX y d j + 1 else yX y d j := by
  cases j with
  | zero => rfl
  | succ f =>
    show 1 + (cnt (uF y.f0 y.F d) f + if uF y.f0 y.F d f = true then 1 else 0) = if uF y.f0 y.F d f = true then 1 + cnt (uF y.f0 y.F d) f + 1 else 1 + cnt (uF y.f0 y.F d) f
    by_cases c : uF y.f0 y.F d f = true
    · rw [if_pos c, if_pos c]; omega
    · rw [if_neg c, if_neg c]
      rfl
def EN (w : Wd) (y : YT) (d : Nat) : Prop := ∀ j, j ≤ y.nF → ySl y d j = true → Mtt w (yX y d j) (ySk y d j) (ySr y d j) (j - 1)
def WN (w : Wd) (y : YT) (d b : Nat) : Prop := ∀ j, j ≤ y.nF → ySl y d j = true → w 179 (yX y d j) = if yE y (offF y) d j = true ∧ b ≤ ySc y d j then -1 else nI (ySw y d j)
theorem ySw_2 {y : YT} (hy : Yok y) {d j : Nat} (hj : j ≤ y.nF) : ySw y d j ≤ 2 := by
  cases j with
  | zero =>
    show (if ¬ y.wd d = 0 ∧ y.wr d = 0 then 0 else 1) ≤ 2
    split <;> omega
  | succ f =>
    show (if KD y.f0 y.F d f = 2 then y.wy f else if KD y.f0 y.F d f = 3 then 1 else 0) ≤ 2
    have := (hy.2.2.2.2.1 f hj).2.2.2
    split
    · exact this
    · split <;> omega
/-- the best of those that are left -/
theorem ew_pick {zs : List Int32} {w : Wd} {d b : Nat} {y : YT} {o1 o3 o6 : Option AV} {Q : Option AV → Wd → Prop} (hy : Yok y) (hd : d < y.N) (hb : b ≤ 10000) (h22 : w 155 22 = nI (yX y d (y.nF + 1))) (hE : EN w y d) (hW : WN w y d b) (hRO : RO w y d (offF y d))
    (h : ∀ x4 x5 o6, (mxB (yE y (offF y) d) (ySc y d) b (y.nF + 1) = 0 ∧ x4 = -1) ∨ (∃ j, j ≤ y.nF ∧ yE y (offF y) d j = true ∧ ySc y d j = mxB (yE y (offF y) d) (ySc y d) b (y.nF + 1) ∧ x4 = nI (yX y d j)) →
      ((x4 = (-1) → Gw zs 5 m_Md_commemorates 13 [some (.inr (.inl (some 155))), o1, some (.inl (nI d)), some (.inl 0), some (.inl x4), some (.inl x5), o6] [] w Q) ∧ (¬ (x4 = (-1)) → (vp_in (w 155 30) 3 ∧ (vp_in x4 200 ∧ Gw zs 5 m_Md_commemorates 13 [some (.inr (.inl (some 155))), o1, some (.inl (nI d)), some (.inl 1), some (.inl x4), some (.inl x5), o6] [] (wr (wr (wr w 180 ((w 155 30).toNatClampNeg) x4) 155 30 ((w 155 30) + 1)) 179 x4.toNatClampNeg (-1)) Q))))) :
    Gw zs 5 m_Md_commemorates 31 [some (.inr (.inl (some 155))), o1, some (.inl (nI d)), o3, some (.inl (-1)), some (.inl 0), o6] [] w Q := by
  have hN := hy.2.2.1
  have h60 := hy.2.2.2.1
  have nFx : yX y d (y.nF + 1) < 200 := by
    show 1 + cnt (uF y.f0 y.F d) y.nF < 200
    have := cnt_le (uF y.f0 y.F d) y.nF
    omega
  have g := up_loop (fun j => ∀ x4 o6, ((mxB (yE y (offF y) d) (ySc y d) b j = 0 ∧ x4 = -1) ∨ (∃ j', j' < j ∧ yE y (offF y) d j' = true ∧ ySc y d j' = mxB (yE y (offF y) d) (ySc y d) b j ∧ x4 = nI (yX y d j'))) → Gw zs 5 m_Md_commemorates 31 [some (.inr (.inl (some 155))), o1, some (.inl (nI d)), o3, some (.inl x4), some (.inl (nI (yX y d j))), o6] [] w Q) 0 (y.nF + 1) (by omega) ?_ ?_
  · exact g (-1) o6 (Or.inl ⟨rfl, rfl⟩)
  · intro x4 o6 hx
    refine sg_Md_commemorates_31 ?_
    rw [h22]
    refine ⟨fun _ => h x4 _ o6 ?_, fun c => absurd (nI_le (Nat.le_refl _) (by omega)) c⟩
    rcases hx with q | ⟨j, j1, j2, j3, j4⟩
    · exact Or.inl q
    · exact Or.inr ⟨j, by omega, j2, j3, j4⟩
  · intro j _ hj ih x4 o6 hx
    have ihx := ih
    rw [yX_step] at ih
    by_cases hl : ySl y d j = true
    · rw [if_pos hl] at ih
      have jn : j ≤ y.nF := by omega
      have x200 : yX y d j < 200 := yX_lt hy jn
      have v := vinN (i := yX y d j) (n := 200) x200 (by omega)
      have vd := vinN (i := d) (n := 366) (by omega) (by omega)
      have lt : yX y d j < yX y d (y.nF + 1) := yX_mono (by omega) hl
      obtain ⟨m1, m2, m3⟩ := hE j jn hl
      have m4 := hW j jn hl
      obtain ⟨a1, a2, a3, a4⟩ := hRO
      have os := off_same hy jn hl (OK2_F hy hd)
      have sk4 := ySk_4 y d j
      have sw2 := ySw_2 hy (d := d) jn
      have skip : ¬ (yE y (offF y) d j = true ∧ ySc y d j < b) → mxB (yE y (offF y) d) (ySc y d) b (j + 1) = mxB (yE y (offF y) d) (ySc y d) b j := by
        intro q
        show (if yE y (offF y) d j = true ∧ ySc y d j < b then _ else _) = _
        rw [if_neg q]
      have keep : ¬ (yE y (offF y) d j = true ∧ ySc y d j < b) → ∀ o6, Gw zs 5 m_Md_commemorates 31 [some (.inr (.inl (some 155))), o1, some (.inl (nI d)), o3, some (.inl x4), some (.inl (nI (yX y d j + 1))), o6] [] w Q := by
        intro q o6
        refine ih x4 o6 ?_
        rw [skip q]
        rcases hx with q | ⟨j', j1, j2, j3, j4⟩
        · exact Or.inl q
        · exact Or.inr ⟨j', by omega, j2, j3, j4⟩
      have rest : ¬ ySc y d j = offF y d → (vp_in (nI (yX y d j)) 200 ∧ (((if yE y (offF y) d j = true ∧ b ≤ ySc y d j then -1 else nI (ySw y d j)) = 1 → (vp_in (nI (yX y d j)) 200 ∧ ((0 ≤ nI (ySk y d j) → ((x4 = (-1) → Gw zs 5 m_Md_commemorates 31 [some (.inr (.inl (some 155))), o1, some (.inl (nI d)), o3, some (.inl (nI (yX y d j))), some (.inl (nI (yX y d j + 1))), some (.inl 0)] [] w Q) ∧ (¬ (x4 = (-1)) → Ew zs 1 m_Md_isAhead [.inr (.inl (some 155)), .inl (nI (yX y d j)), .inl x4] w (fun v w15 => ∃ r14 : Int32, v = some (.inl r14) ∧ ((r14 = 0 → Gw zs 5 m_Md_commemorates 31 [some (.inr (.inl (some 155))), o1, some (.inl (nI d)), o3, some (.inl x4), some (.inl (nI (yX y d j + 1))), some (.inl 0)] [] w15 Q) ∧ (¬ (r14 = 0) → Gw zs 5 m_Md_commemorates 31 [some (.inr (.inl (some 155))), o1, some (.inl (nI d)), o3, some (.inl (nI (yX y d j))), some (.inl (nI (yX y d j + 1))), some (.inl 0)] [] w15 Q)))))) ∧ (¬ (0 ≤ nI (ySk y d j)) → Gw zs 5 m_Md_commemorates 31 [some (.inr (.inl (some 155))), o1, some (.inl (nI d)), o3, some (.inl x4), some (.inl (nI (yX y d j + 1))), some (.inl 0)] [] w Q)))) ∧ (¬ ((if yE y (offF y) d j = true ∧ b ≤ ySc y d j then -1 else nI (ySw y d j)) = 1) → Gw zs 5 m_Md_commemorates 31 [some (.inr (.inl (some 155))), o1, some (.inl (nI d)), o3, some (.inl x4), some (.inl (nI (yX y d j + 1))), some (.inl 0)] [] w Q))) := by
        intro hne
        refine ⟨v, fun c => ⟨v, fun _ => ?_, fun c2 => absurd (nI_pos' (by omega)) c2⟩, fun c => keep (fun q => ?_) _⟩
        · by_cases q : yE y (offF y) d j = true ∧ b ≤ ySc y d j
          · rw [if_pos q] at c
            exact absurd c (by decide)
          rw [if_neg q] at c
          have sw1 : ySw y d j = 1 := (nI_eq (by omega) (by omega)).mp (show nI (ySw y d j) = nI 1 from c)
          have he : yE y (offF y) d j = true := yE_true.mpr ⟨hl, sw1, hne⟩
          have hlt : ySc y d j < b := by
            rcases Nat.lt_or_ge (ySc y d j) b with z | z
            · exact z
            · exact absurd ⟨he, z⟩ q
          have up : mxB (yE y (offF y) d) (ySc y d) b (j + 1) = max (mxB (yE y (offF y) d) (ySc y d) b j) (ySc y d j) := by
            show (if yE y (offF y) d j = true ∧ ySc y d j < b then _ else _) = _
            rw [if_pos ⟨he, hlt⟩]
          have take : mxB (yE y (offF y) d) (ySc y d) b j ≤ ySc y d j → Gw zs 5 m_Md_commemorates 31 [some (.inr (.inl (some 155))), o1, some (.inl (nI d)), o3, some (.inl (nI (yX y d j))), some (.inl (nI (yX y d j + 1))), some (.inl 0)] [] w Q := by
            intro hm
            refine ih _ _ (Or.inr ⟨j, Nat.lt_succ_self _, he, ?_, rfl⟩)
            rw [up, Nat.max_eq_right hm]
          refine ⟨fun c3 => ?_, fun c3 => ?_⟩
          · rcases hx with ⟨q1, -⟩ | ⟨j', j1, j2, j3, j4⟩
            · exact take (by omega)
            · rw [j4] at c3
              exact absurd c3 (m1_nI (by have := yX_lt hy (d := d) (show j' ≤ y.nF by omega); omega))
          · rcases hx with ⟨-, q1⟩ | ⟨j', j1, j2, j3, j4⟩
            · exact absurd q1 c3
            · subst j4
              have hl' : ySl y d j' = true := (yE_true.mp j2).1
              have r1 := ySr_9 hy hd jn
              have r2 := ySr_9 hy hd (show j' ≤ y.nF by omega)
              refine ew_isAhead x200 (yX_lt hy (by omega)) sk4 (ySk_4 y d j') (by omega) (by omega) (show j - 1 < 64 by omega) (show j' - 1 < 64 by omega) (hE j jn hl) (hE j' (by omega) hl') ⟨_, rfl, ?_⟩
              show ((if ySc y d j' < ySc y d j then (1 : Int32) else 0) = 0 → _) ∧ (¬ (if ySc y d j' < ySc y d j then (1 : Int32) else 0) = 0 → _)
              by_cases z : ySc y d j' < ySc y d j
              · rw [if_pos z]
                exact ⟨fun c4 => absurd c4 one_ne, fun _ => take (by omega)⟩
              · rw [if_neg z]
                refine ⟨fun _ => ih _ _ (Or.inr ⟨j', by omega, j2, ?_, rfl⟩), fun c4 => absurd rfl c4⟩
                rw [up, Nat.max_eq_left (by omega)]
                exact j3
        · rw [if_neg (by omega), (yE_true.mp q.1).2.1] at c
          exact c rfl
      refine sg_Md_commemorates_31 ?_
      rw [h22, nI_clampN (n := yX y d j) (by omega), nI_clampN (n := d) (by omega), m1, m2, m4, a1, a2, nI_1]
      refine ⟨fun c => absurd c (nI_gle lt (by omega)), fun _ => ⟨v, vd, fun c1 => ⟨v, vd, fun c2 => keep (fun q => (yE_true.mp q.1).2.2 (os.mp ⟨c1, c2⟩)) _, fun c2 => rest (fun z => c2 (os.mpr z).2)⟩, fun c1 => rest (fun z => c1 (os.mpr z).1)⟩⟩
    · rw [if_neg hl] at ih
      refine ih x4 o6 ?_
      rw [mxB_no (fun q => hl (yE_true.mp q).1)]
      rcases hx with q | ⟨j', j1, j2, j3, j4⟩
      · exact Or.inl q
      · exact Or.inr ⟨j', by omega, j2, j3, j4⟩
