/-! The plain program's year: what meets on a day, by places; the offices before the moves -/
def MY (w : Wd) (i : Nat) (y : YT) : Prop := RS w ∧ i < 300 ∧ y = yv w i ∧ w 155 28 = f_Day_easter (nI (1900 + i)) ∧ w 155 29 = nI y.f0 ∧ ∀ f, f < y.nF → w 169 f = oO (y.own f)
theorem MY_ok {w : Wd} {i : Nat} {y : YT} (h : MY w i y) : Yok y := by rw [h.2.2.1]; exact yv_ok h.1 h.2.1
theorem MY_cg {w w' : Wd} {i : Nat} {y : YT} (o : OYr w' w) (e1 : w' 155 28 = w 155 28) (e2 : w' 155 29 = w 155 29) (e3 : ∀ k, w' 169 k = w 169 k) (h : MY w i y) : MY w' i y := by
  obtain ⟨h1, h2, h3, h4, h5, h6⟩ := h
  exact ⟨RS_yr o h1, h2, by rw [yv_cg o]; exact h3, e1.trans h4, e2.trans h5, fun f hf => (e3 f).trans (h6 f hf)⟩
def yX (y : YT) (d : Nat) : Nat → Nat
  | 0 => 0
  | f + 1 => 1 + cnt (uF y.f0 y.F d) f
def yCo (y : YT) (d : Nat) : Nat → Int32
  | 0 => y.sc d
  | f + 1 => y.co f
theorem yX_lt {y : YT} (hy : Yok y) {d j : Nat} (hj : j ≤ y.nF) : yX y d j < 200 := by
  have h60 := hy.2.2.2.1
  cases j with
  | zero => exact Nat.succ_pos _
  | succ f =>
    show 1 + cnt (uF y.f0 y.F d) f < 200
    have := cnt_le (uF y.f0 y.F d) f
    omega
theorem MY_F {w : Wd} {i : Nat} {y : YT} (h : MY w i y) : FDok w y.nF y.F := by
  have hy := MY_ok h
  have hN := hy.2.2.1
  obtain ⟨h1, h2, h3, h4, h5, h6⟩ := h
  intro f hf
  have fe := yv_feast h1 h2 (f := f) (by rw [← h3]; exact hf)
  rw [← h3] at fe
  obtain ⟨⟨-, fo⟩, ⟨f164, r1, r2⟩, ⟨f167, o2⟩, -, fv, -⟩ := fe
  refine ⟨?_, f164, f167, o2, r2, fv⟩
  have e := h6 f hf
  cases ho : (y.F f).own with
  | none =>
    rw [show y.own f = none from ho] at e
    exact e
  | some o =>
    rw [show y.own f = some o from ho] at e
    have := fo o ho
    exact ⟨by omega, e⟩
theorem ew_gath {zs : List Int32} {w : Wd} {i d : Nat} {y : YT} {Q : Option AV → Wd → Prop} (h : MY w i y) (hd : d < y.N)
    (hq : ∀ w', OM w' w → w' 155 22 = nI (1 + cnt (uF y.f0 y.F d) y.nF) → (∀ j, j ≤ y.nF → ySl y d j = true → Ent w' (yX y d j) (ySk y d j) (ySr y d j) (j - 1) (yCo y d j) (nI (ySw y d j))) → Q none w') : Ew zs 4 m_Md_gather [.inr (.inl (some 155)), .inl (nI (1900 + i)), .inl (nI d)] w Q := by
  have hy := MY_ok h
  have hN := hy.2.2.1
  have hF := MY_F h
  obtain ⟨h1, h2, h3, h4, h5, h6⟩ := h
  obtain ⟨n, n1, n2, n3, n4, n5⟩ := yv_nS h1
  have o : OYr (wr w 155 22 0) w := fun c k q => by
    unfold wr
    rw [if_neg (by omega)]
  have hr := yv_rank h1 (d := d) h2
  rw [← h3] at hr
  have hnF := yv_nF h1 i
  rw [← h3] at hnF
  have eS : lastS (fun k => pIn (wr w 155 22 0) i k d) n = y.so d := by
    rw [pIn_cg o i, h3]
    show _ = lastS (fun k => pIn w i k d) (w 155 0).toNatClampNeg
    rw [n4]
  refine ew_gather (f0 := y.f0) (F := y.F) (r := y.wr d) n1 h2 (by omega) n3 hnF.1 hnF.2.2 h4 h5 hy.1 hr.2.1 n5 hF ?_ (fun w' hG => ?_)
  · rw [eS, rankOf_cg o]
    exact hr.1
  · rw [eS, colourOf_cg o] at hG
    obtain ⟨g1, g2, g3, g4⟩ := hG
    refine hq w' (fun c k q1 q2 => ?_) g2 (fun j hj hl => ?_)
    · rw [g1 c k q1 q2]
      unfold wr
      rw [if_neg q2]
    · cases j with
      | zero =>
        have e1 : f_Sea_colourOf w (y.so d) = y.sc d := by rw [h3]; rfl
        have e2 : wkW ((y.f0 + d) % 7) (y.wr d) = nI (ySw y d 0) := by
          show (if ¬ (y.f0 + d) % 7 = 0 ∧ y.wr d = 0 then (0 : Int32) else 1) = nI (if ¬ (y.f0 + d) % 7 = 0 ∧ y.wr d = 0 then 0 else 1)
          split <;> rfl
        rw [e1, e2] at g3
        exact g3
      | succ f =>
        have k0 : KD y.f0 y.F d f ≠ 0 := of_decide_eq_true hl
        have g := g4 f (by omega) k0
        have fe := yv_feast h1 h2 (f := f) (by rw [← h3]; exact hj)
        rw [← h3] at fe
        obtain ⟨-, -, -, ⟨f166, -⟩, -, f165, -⟩ := fe
        have e1 : wr w 155 22 0 165 f = y.co f := by rw [wr_nc (by omega)]; exact f165
        have e2 : wyO (wr w 155 22 0 166 f) (KD y.f0 y.F d f) = nI (ySw y d (f + 1)) := by
          rw [wr_nc (by omega), f166]
          show (if KD y.f0 y.F d f = 2 then nI (y.wy f) else if KD y.f0 y.F d f = 3 then (1 : Int32) else 0) = nI (if KD y.f0 y.F d f = 2 then y.wy f else if KD y.f0 y.F d f = 3 then 1 else 0)
          split
          · rfl
          · split <;> rfl
        rw [e1, e2] at g
        exact g
/-- an office of the plain program -/
def colO (y : YT) (d c : Nat) : Int32 := if dkC c ≤ 1 then y.sc d else y.co (dgC c)
def RO (w : Wd) (y : YT) (d c : Nat) : Prop := w 171 d = nI (dkC c) ∧ w 172 d = fI (dkC c) (dgC c) ∧ w 173 d = nI (drC c) ∧ w 174 d = colO y d c
theorem RO_cg {w w' : Wd} {y : YT} {d c : Nat} (e : ∀ c', 171 ≤ c' → c' ≤ 174 → w' c' d = w c' d) (h : RO w y d c) : RO w' y d c := by
  obtain ⟨h1, h2, h3, h4⟩ := h
  exact ⟨(e _ (by omega) (by omega)).trans h1, (e _ (by omega) (by omega)).trans h2, (e _ (by omega) (by omega)).trans h3, (e _ (by omega) (by omega)).trans h4⟩
theorem ew_sets {zs : List Int32} {w : Wd} {d k g r : Nat} {co : Int32} {Q : Option AV → Wd → Prop} (hd : d < 366) (h : ∀ w', (∀ c x, ¬ (171 ≤ c ∧ c ≤ 174 ∧ x = d) → w' c x = w c x) → w' 171 d = nI k → w' 172 d = fI k g → w' 173 d = nI r → w' 174 d = co → Q none w') : Ew zs 0 m_Md_sets [.inr (.inl (some 155)), .inl (nI d), .inl (nI k), .inl (fI k g), .inl (nI r), .inl co] w Q := by
  refine ew_of k_Md_sets rfl (sg_Md_sets_0 ?_)
  have v := vinN (i := d) (n := 366) hd (by omega)
  rw [nI_clampN (by omega)]
  refine ⟨v, v, v, v, h _ (fun c x hc => ?_) ?_ ?_ ?_ ?_⟩
  · by_cases q : x = d
    · rw [wr_nc (by omega), wr_nc (by omega), wr_nc (by omega), wr_nc (by omega)]
    · rw [wr_nk q, wr_nk q, wr_nk q, wr_nk q]
  · rw [wr_nc (by omega), wr_nc (by omega), wr_nc (by omega), wr_eq]
  · rw [wr_nc (by omega), wr_nc (by omega), wr_eq]
  · rw [wr_nc (by omega), wr_eq]
  · rw [wr_eq]
theorem slot_RO {y : YT} (hy : Yok y) {d j : Nat} (hj : j ≤ y.nF) (hl : ySl y d j = true) : nI (ySk y d j) = nI (dkC (ySc y d j)) ∧ fI (ySk y d j) (j - 1) = fI (dkC (ySc y d j)) (dgC (ySc y d j)) ∧ nI (ySr y d j) = nI (drC (ySc y d j)) ∧ yCo y d j = colO y d (ySc y d j) := by
  have h60 := hy.2.2.2.1
  have e1 : dkC (ySc y d j) = ySk y d j := dk_cod (ySk_4 y d j)
  have e2 : drC (ySc y d j) = ySr y d j := dr_cod
  rw [e1, e2]
  refine ⟨rfl, ?_, rfl, ?_⟩
  · unfold fI
    by_cases q : ySk y d j ≤ 1
    · rw [if_pos q, if_pos q]
    · rw [if_neg q, if_neg q, show dgC (ySc y d j) = j - 1 from dg_cod (by omega) (by omega)]
  · unfold colO
    rw [e1]
    cases j with
    | zero => rw [if_pos (ySk_0 y d)]; rfl
    | succ f =>
      have := ySk_f hl
      rw [if_neg (by omega), show dgC (ySc y d (f + 1)) = f + 1 - 1 from dg_cod this (by omega)]
      rfl
/-- the day's office: the list gone over for its best -/
theorem ew_best {zs : List Int32} {w : Wd} {i d : Nat} {y : YT} {x1 : Int32} {Q : Option AV → Wd → Prop} (hy : Yok y) (hd : d < y.N) (h22 : w 155 22 = nI (1 + cnt (uF y.f0 y.F d) y.nF)) (hE : ∀ j, j ≤ y.nF → ySl y d j = true → Ent w (yX y d j) (ySk y d j) (ySr y d j) (j - 1) (yCo y d j) (nI (ySw y d j)))
    (h : ∀ w' o3 o4, (∀ c x, ¬ (171 ≤ c ∧ c ≤ 174 ∧ x = d) → w' c x = w c x) → RO w' y d (off0 y d) → Gw zs 5 m_Md_reckon 77 [some (.inr (.inl (some 155))), some (.inl x1), some (.inl (nI (d + 1))), o3, o4] [] w' Q) : Gw zs 5 m_Md_reckon 96 [some (.inr (.inl (some 155))), some (.inl x1), some (.inl (nI d)), some (.inl 0), some (.inl 1)] [] w Q := by
  have hN := hy.2.2.1
  have h60 := hy.2.2.2.1
  have g := up_loop (fun f => ∀ j, j ≤ f → ySl y d j = true → mxB (ySl y d) (ySc y d) 10000 (f + 1) = ySc y d j → Gw zs 5 m_Md_reckon 96 [some (.inr (.inl (some 155))), some (.inl x1), some (.inl (nI d)), some (.inl (nI (yX y d j))), some (.inl (nI (1 + cnt (uF y.f0 y.F d) f)))] [] w Q) 0 y.nF (by omega) ?_ ?_
  · refine g 0 (Nat.le_refl _) rfl ?_
    show (if ySl y d 0 = true ∧ ySc y d 0 < 10000 then max 0 (ySc y d 0) else 0) = ySc y d 0
    rw [if_pos ⟨rfl, ySc_lt hy hd (Nat.zero_le _)⟩]
    exact Nat.max_eq_right (Nat.zero_le _)
  · intro j hj hl hm
    have c200 := yX_lt hy (d := d) hj
    obtain ⟨⟨m1, m2, m3⟩, m4, m5⟩ := hE j hj hl
    obtain ⟨s1, s2, s3, s4⟩ := slot_RO hy hj hl
    have v := vinN (i := yX y d j) (n := 200) c200 (by omega)
    refine sg_Md_reckon_96 ?_
    rw [h22, nI_clampN (by omega), m1, m2, m3, m4]
    refine ⟨fun _ => ⟨v, v, v, v, ?_⟩, fun c => absurd (nI_le (Nat.le_refl _) (by have := cnt_le (uF y.f0 y.F d) y.nF; omega)) c⟩
    refine ew_sets (by omega) (fun w' a1 a2 a3 a4 a5 => ⟨rfl, ?_⟩)
    rw [nI_1]
    refine h w' _ _ a1 ?_
    have e : off0 y d = ySc y d j := hm
    rw [e]
    exact ⟨a2.trans s1, a3.trans s2, a4.trans s3, a5.trans s4⟩
  · intro f _ hf ih j hj hl hm
    have hc := cnt_le (uF y.f0 y.F d) f
    by_cases q : ySl y d (f + 1) = true
    · have qu : uF y.f0 y.F d f = true := q
      have e1 : cnt (uF y.f0 y.F d) (f + 1) = cnt (uF y.f0 y.F d) f + 1 := by simp only [cnt, qu, if_true]
      have hlt := cnt_lt hf qu
      have hc2 := cnt_le (uF y.f0 y.F d) y.nF
      have ent1 := hE (f + 1) hf q
      have ent2 := hE j (by omega) hl
      have r1 := ySr_9 hy hd (show f + 1 ≤ y.nF from hf)
      have r2 := ySr_9 hy hd (show j ≤ y.nF by omega)
      have mstep : mxB (ySl y d) (ySc y d) 10000 (f + 1 + 1) = max (ySc y d j) (ySc y d (f + 1)) := by
        rw [← hm]
        show (if ySl y d (f + 1) = true ∧ ySc y d (f + 1) < 10000 then _ else _) = _
        rw [if_pos ⟨q, ySc_lt hy hd hf⟩]
      refine sg_Md_reckon_96 ?_
      rw [h22]
      refine ⟨fun c => absurd c (nI_gle (by omega) (by omega)), fun _ => ?_⟩
      refine ew_isAhead (a := 1 + cnt (uF y.f0 y.F d) f) (b := yX y d j) (by omega) (yX_lt hy (by omega)) (ySk_4 y d (f + 1)) (ySk_4 y d j) (by omega) (by omega) (show f + 1 - 1 < 64 by omega) (show j - 1 < 64 by omega) ent1.1 ent2.1 ⟨_, rfl, ?_⟩
      have e2 : nI (1 + cnt (uF y.f0 y.F d) f) + 1 = nI (1 + cnt (uF y.f0 y.F d) (f + 1)) := by rw [nI_1, e1]; rfl
      rw [e2]
      refine ⟨fun c => ?_, fun c => ?_⟩
      · refine ih j (by omega) hl ?_
        rw [mstep]
        by_cases z : cod (ySk y d j) (ySr y d j) (j - 1) < cod (ySk y d (f + 1)) (ySr y d (f + 1)) (f + 1 - 1)
        · rw [if_pos z] at c; exact absurd c one_ne
        · exact Nat.max_eq_left (Nat.le_of_not_lt z)
      · refine ih (f + 1) (Nat.le_refl _) q ?_
        rw [mstep]
        by_cases z : cod (ySk y d j) (ySr y d j) (j - 1) < cod (ySk y d (f + 1)) (ySr y d (f + 1)) (f + 1 - 1)
        · exact Nat.max_eq_right (Nat.le_of_lt z)
        · rw [if_neg z] at c; exact absurd rfl c
    · have qu : ¬ uF y.f0 y.F d f = true := q
      have e1 : cnt (uF y.f0 y.F d) (f + 1) = cnt (uF y.f0 y.F d) f := by simp only [cnt]; rw [if_neg qu]; omega
      have g := ih j (by omega) hl (by rw [mxB_no q]; exact hm)
      rw [e1] at g
      exact g
