/-! What is commemorated: the three, one behind another -/
def bdF (y : YT) (d : Nat) : Nat → Nat
  | 0 => 10000
  | p + 1 => tpF y d p
theorem tpF_bd (y : YT) (d p : Nat) : tpF y d p = mxB (yE y (offF y) d) (ySc y d) (bdF y d p) (y.nF + 1) := by
  cases p with
  | zero => rfl
  | succ p => rfl
theorem bdF_le (y : YT) (d p : Nat) : bdF y d p ≤ 10000 := by
  cases p with
  | zero => exact Nat.le_refl _
  | succ p => exact Nat.le_of_lt tpB_lt
theorem tpF_0 {y : YT} {d p : Nat} (h : tpF y d p = 0) : ∀ n, tpF y d (p + n) = 0 := by
  intro n
  induction n with
  | zero => exact h
  | succ n ih =>
    show mxB (yE y (offF y) d) (ySc y d) (tpF y d (p + n)) (y.nF + 1) = 0
    rw [ih]
    exact mxB_0
def PCo (c k : Nat) : Prop := (175 ≤ c ∧ c ≤ 180) ∨ (c = 155 ∧ (k = 22 ∨ k = 30))
/-- so many have been picked -/
def KP (w : Wd) (y : YT) (d p : Nat) : Prop := w 155 30 = nI p ∧ p ≤ 3 ∧ w 155 22 = nI (yX y d (y.nF + 1)) ∧ EN w y d ∧ WN w y d (bdF y d p) ∧ ∀ t, t < p → tpF y d t ≠ 0 ∧ ∃ j, j ≤ y.nF ∧ ySl y d j = true ∧ ySc y d j = tpF y d t ∧ w 180 t = nI (yX y d j)
theorem ew_picks {zs : List Int32} {b : Wd} {d : Nat} {y : YT} {o1 : Option AV} {Q : Option AV → Wd → Prop} (hy : Yok y) (hd : d < y.N) (hRO : RO b y d (offF y d))
    (h : ∀ w p, (∀ c k, ¬ PCo c k → w c k = b c k) → KP w y d p → (p < 3 → tpF y d p = 0) → Q none w) :
    ∀ p, p ≤ 3 → ∀ w x3 o4 o5 o6, (∀ c k, ¬ PCo c k → w c k = b c k) → KP w y d p → ¬ x3 = 0 → Gw zs 5 m_Md_commemorates 13 [some (.inr (.inl (some 155))), o1, some (.inl (nI d)), some (.inl x3), o4, o5, o6] [] w Q := by
  have hN := hy.2.2.1
  have h60 := hy.2.2.2.1
  intro p hp
  refine up_loop (fun p => ∀ w x3 o4 o5 o6, (∀ c k, ¬ PCo c k → w c k = b c k) → KP w y d p → ¬ x3 = 0 → Gw zs 5 m_Md_commemorates 13 [some (.inr (.inl (some 155))), o1, some (.inl (nI d)), some (.inl x3), o4, o5, o6] [] w Q) p 3 hp ?_ ?_
  · intro w x3 o4 o5 o6 a1 a2 a3
    refine sg_Md_commemorates_13 ?_
    rw [a2.1]
    exact ⟨fun _ => h w 3 a1 a2 (fun q => absurd q (Nat.lt_irrefl _)), fun c => absurd (nI_le (a := 3) (b := 3) (by omega) (by omega)) c⟩
  · intro p _ hp ih w x3 o4 o5 o6 a1 a2 a3
    obtain ⟨k1, k2, k3, k4, k5, k6⟩ := a2
    have a2 : KP w y d p := ⟨k1, k2, k3, k4, k5, k6⟩
    refine sg_Md_commemorates_13 ?_
    rw [k1]
    refine ⟨fun c => absurd c (nI_gle (a := 3) (b := p) (by omega) (by omega)), fun _ => ⟨fun c => absurd c a3, fun _ => ?_⟩⟩
    refine ew_pick hy hd (bdF_le y d p) k3 k4 k5 (RO_cg (fun c h1 h2 => a1 _ _ (by unfold PCo; omega)) hRO) (fun x4 x5 o6 hx => ⟨fun c => ?_, fun c => ?_⟩)
    · rcases hx with ⟨q1, -⟩ | ⟨j, j1, j2, j3, j4⟩
      · refine sg_Md_commemorates_13 ?_
        rw [k1]
        exact ⟨fun c => absurd c (nI_gle (a := 3) (b := p) (by omega) (by omega)), fun _ => ⟨fun _ => h w p a1 a2 (fun _ => by rw [tpF_bd]; exact q1), fun c => absurd rfl c⟩⟩
      · rw [j4] at c
        exact absurd c (m1_nI (by have := yX_lt hy (d := d) j1; omega))
    · rcases hx with ⟨-, q1⟩ | ⟨j, j1, j2, j3, j4⟩
      · exact absurd q1 c
      · subst j4
        have x200 := yX_lt hy (d := d) j1
        have hl : ySl y d j = true := (yE_true.mp j2).1
        rw [← tpF_bd] at j3
        have cpos := ySc_pos hy (d := d) j1
        rw [k1, nI_clampN (by omega), nI_clampN (by omega), nI_1]
        refine ⟨vinN (by omega) (by omega), vinN x200 (by omega), ih _ _ _ _ _ (fun c k hc => ?_) ⟨?_, by omega, ?_, fun i hi hli => ?_, fun i hi hli => ?_, fun t ht => ?_⟩ (by decide)⟩
        · unfold PCo at hc
          have : wr (wr (wr w 180 p (nI (yX y d j))) 155 30 (nI (p + 1))) 179 (yX y d j) (-1) c k = w c k := by
            unfold wr
            rw [if_neg (by omega), if_neg (by omega), if_neg (by omega)]
          rw [this]
          exact a1 c k (by unfold PCo; omega)
        · rw [wr_nc (by omega), wr_eq]
        · rw [wr_nc (by omega), wr_nk (by omega), wr_nc (by omega)]; exact k3
        · obtain ⟨m1, m2, m3⟩ := k4 i hi hli
          exact ⟨by rw [wr_nc (by omega), wr_nc (by omega), wr_nc (by omega)]; exact m1, by rw [wr_nc (by omega), wr_nc (by omega), wr_nc (by omega)]; exact m2, by rw [wr_nc (by omega), wr_nc (by omega), wr_nc (by omega)]; exact m3⟩
        · show _ = if yE y (offF y) d i = true ∧ tpF y d p ≤ ySc y d i then -1 else nI (ySw y d i)
          by_cases q : i = j
          · subst q
            rw [wr_eq, if_pos ⟨j2, by omega⟩]
          · have xne : yX y d i ≠ yX y d j := by
              rcases Nat.lt_or_ge i j with z | z
              · have := yX_mono (y := y) (d := d) z hli; omega
              · have := yX_mono (y := y) (d := d) (show j < i by omega) hl; omega
            have cne : ySc y d i ≠ ySc y d j := by
              rcases Nat.lt_or_ge i j with z | z
              · exact ySc_ne hy hi j1 z hl hli
              · exact fun e => ySc_ne hy j1 hi (show j < i by omega) hli hl e.symm
            rw [wr_nk xne, wr_nc (by omega), wr_nc (by omega), k5 i hi hli]
            by_cases z : yE y (offF y) d i = true ∧ bdF y d p ≤ ySc y d i
            · have : tpF y d p ≤ bdF y d p := by rw [tpF_bd]; exact mxB_le
              rw [if_pos z, if_pos ⟨z.1, by omega⟩]
            · rw [if_neg z, if_neg (fun z2 => ?_)]
              have lt : ySc y d i < bdF y d p := by
                rcases Nat.lt_or_ge (ySc y d i) (bdF y d p) with z3 | z3
                · exact z3
                · exact absurd ⟨z2.1, z3⟩ z
              have := mxB_ge (n := y.nF + 1) (show i < y.nF + 1 by omega) z2.1 lt
              rw [← tpF_bd] at this
              have := z2.2
              omega
        · by_cases q : t = p
          · subst q
            refine ⟨by omega, j, j1, hl, j3, ?_⟩
            rw [wr_nc (by omega), wr_nc (by omega), wr_eq]
          · obtain ⟨n0, i, i1, i2, i3, i4⟩ := k6 t (by omega)
            refine ⟨n0, i, i1, i2, i3, ?_⟩
            rw [wr_nc (by omega), wr_nc (by omega), wr_nk q]
            exact i4
/-- behind it: how many, and of each its kind, feast and rank -/
def CO (w : Wd) (y : YT) (d p : Nat) : Prop := w 155 30 = nI p ∧ p ≤ 3 ∧ (∀ t, t < p → tpF y d t ≠ 0 ∧ ∃ x, x < 200 ∧ w 180 t = nI x ∧ w 175 x = nI (dkC (tpF y d t)) ∧ w 176 x = fI (dkC (tpF y d t)) (dgC (tpF y d t)) ∧ w 177 x = nI (drC (tpF y d t))) ∧ ∀ t, p ≤ t → t < 3 → tpF y d t = 0
theorem ew_comm {zs : List Int32} {w : Wd} {i d : Nat} {y : YT} {Q : Option AV → Wd → Prop} (hM : MYr w i y) (hd : d < y.N) (h : ∀ w' p, (∀ c k, ¬ PCo c k → w' c k = w c k) → CO w' y d p → Q none w') : Ew zs 5 m_Md_commemorates [.inr (.inl (some 155)), .inl (nI (1900 + i)), .inl (nI d)] w Q := by
  obtain ⟨hb, hO, -⟩ := hM
  have hy := MY_ok hb
  have hN := hy.2.2.1
  have h60 := hy.2.2.2.1
  refine ew_of k_Md_commemorates rfl (sg_Md_commemorates_0 ?_)
  refine ew_gath hb hd (fun w2 b1 b2 b3 => ⟨rfl, ?_⟩)
  refine ew_picks (b := w) hy hd (hO d hd) (fun w' p a1 a2 a3 => h w' p a1 ⟨a2.1, a2.2.1, fun t ht => ?_, fun t ht ht3 => ?_⟩) 0 (by omega) _ _ _ _ _ (fun c k hc => ?_) ⟨by rw [wr_eq]; rfl, by omega, ?_, fun j hj hl => ?_, fun j hj hl => ?_, fun t ht => by omega⟩ (by decide)
  · obtain ⟨n0, j, j1, j2, j3, j4⟩ := a2.2.2.2.2.2 t ht
    obtain ⟨m1, m2, m3⟩ := a2.2.2.2.1 j j1 j2
    obtain ⟨s1, s2, s3, -⟩ := slot_RO hy j1 j2
    rw [j3] at s1 s2 s3
    exact ⟨n0, yX y d j, yX_lt hy j1, j4, m1.trans s1, m2.trans s2, m3.trans s3⟩
  · have := tpF_0 (a3 (by omega)) (t - p)
    rw [show p + (t - p) = t by omega] at this
    exact this
  · unfold PCo at hc
    have : wr w2 155 30 0 c k = w2 c k := by
      unfold wr
      rw [if_neg (by omega)]
    rw [this]
    exact b1 c k (by omega) (by omega)
  · rw [wr_nk (by omega)]
    exact b2
  · obtain ⟨⟨m1, m2, m3⟩, -⟩ := b3 j hj hl
    exact ⟨by rw [wr_nc (by omega)]; exact m1, by rw [wr_nc (by omega)]; exact m2, by rw [wr_nc (by omega)]; exact m3⟩
  · obtain ⟨-, -, m5⟩ := b3 j hj hl
    have := ySc_lt hy hd hj
    rw [wr_nc (by omega), m5, if_neg (fun z => by have : (10000 : Nat) ≤ ySc y d j := z.2; omega)]
