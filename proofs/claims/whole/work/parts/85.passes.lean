/-! The two passes of the almanac -/
theorem ew_call {zs : List Int32} {i : Nat} {y : YT} {sel : Int32} {Fr : Wd → Prop} {V : Wd → Nat → Nat → Prop} (hFr : ∀ w, Fr w → AB w i y)
  (hcons : ∀ (w : Wd) (d j : Nat) (Q : Option AV → Wd → Prop), Fr w → d < y.N → j ≤ y.nF → ySl y d j = true → V w d j → (∀ w', Fr w' → V w' d (j + 1) → (∀ d' k, d' < y.N → d' ≠ d → V w d' k → V w' d' k) → Q none w') → Ew zs 2 m_Alm_consider [.inr (.inl (some 16)), .inl (nI d), .inl (nI (ySc y d j)), .inl (nI (ySw y d j)), .inl sel] w Q)
  (hskip : ∀ (w : Wd) (d j : Nat), Fr w → d < y.N → ¬ ySl y d j = true → V w d j → V w d (j + 1))
  {w : Wd} {Q : Option AV → Wd → Prop} (hw : Fr w) (hV : ∀ d, d < y.N → V w d 0) (h : ∀ w', Fr w' → (∀ d, d < y.N → V w' d (y.nF + 1)) → Q none w') : Ew zs 4 m_Alm_considerAll [.inr (.inl (some 16)), .inl sel] w Q := by
  have hy := AB_ok (hFr w hw)
  have hN := hy.2.2.1
  have h60 := hy.2.2.2.1
  have hf07 := hy.1
  have feasts := up_loop (fun f => ∀ w o3 o4 o5 o6, Fr w → (∀ d, d < y.N → V w d (f + 1)) → Gw zs 4 m_Alm_considerAll 81 [some (.inr (.inl (some 16))), some (.inl sel), some (.inl (nI f)), o3, o4, o5, o6] [] w Q) 0 y.nF (by omega) ?_ ?_
  · have days := up_loop (fun t => ∀ w o3 o4 o5 o6, Fr w → (∀ d, d < y.N → V w d (if d < t then 1 else 0)) → Gw zs 4 m_Alm_considerAll 2 [some (.inr (.inl (some 16))), some (.inl sel), some (.inl (nI t)), o3, o4, o5, o6] [] w Q) 0 y.N (by omega) ?_ ?_
    · refine ew_of k_Alm_considerAll rfl (sg_Alm_considerAll_0 ?_)
      exact days w _ _ _ _ hw (fun d hd => by rw [if_neg (by omega)]; exact hV d hd)
    · intro w o3 o4 o5 o6 hw hv
      refine sg_Alm_considerAll_2 ?_
      rw [(hFr w hw).2.2.2.1]
      refine ⟨fun _ => feasts w _ _ _ _ hw (fun d hd => ?_), fun c => absurd (nI_le (Nat.le_refl _) (by omega)) c⟩
      have := hv d hd
      rw [if_pos hd] at this
      exact this
    · intro t _ ht ih w o3 o4 o5 o6 hw hv
      obtain ⟨hR, hi, ey, h8, h9, h17, h20⟩ := hFr w hw
      have hr := yv_rank hR (d := t) hi
      rw [← ey] at hr
      obtain ⟨r1, r2, r3⟩ := hr
      have ew : f_Alm_weekdayOf w (nI t) = nI (y.wd t) := by
        unfold f_Alm_weekdayOf
        rw [h9, nI_add, nI_mod7 (by omega)]
        rfl
      have hwd : y.wd t < 7 := Nat.mod_lt _ (by omega)
      have go : ∀ (k : Nat) (wy : Int32) o3 o4 o5 o6, wkK (y.wd t) = k → wy = nI (ySw y t 0) → Ew zs 2 m_Alm_consider [.inr (.inl (some 16)), .inl (nI t), .inl (f_Alm_candidate (nI (y.wr t)) (nI k) 0), .inl wy, .inl sel] w (fun v w8 => v = none ∧ Gw zs 4 m_Alm_considerAll 2 [some (.inr (.inl (some 16))), some (.inl sel), some (.inl (nI t + 1)), o3, o4, o5, o6] [] w8 Q) := by
        intro k wy o3 o4 o5 o6 hk hwy
        subst hwy
        have k1 : k ≤ 1 := by have := ySk_0 y t; rw [← hk]; exact this
        have ec : f_Alm_candidate (nI (y.wr t)) (nI k) 0 = nI (ySc y t 0) := by
          show f_Alm_candidate (nI (y.wr t)) (nI k) (nI 0) = nI (cod (wkK (y.wd t)) (y.wr t) (0 - 1))
          rw [hk]
          exact cand_cod (by omega) (by omega) (by omega) (fun _ => rfl)
        rw [ec, nI_1]
        have v0 := hv t ht
        rw [if_neg (by omega)] at v0
        refine hcons w t 0 _ hw ht (by omega) rfl v0 (fun w' hw' h1 h2 => ⟨rfl, ih w' _ _ _ _ hw' (fun d hd => ?_)⟩)
        by_cases q : d = t
        · subst q; rw [if_pos (by omega)]; exact h1
        · have := h2 d _ hd q (hv d hd)
          by_cases z : d < t
          · rw [if_pos z] at this; rw [if_pos (by omega)]; exact this
          · rw [if_neg z] at this; rw [if_neg (by omega)]; exact this
      refine sg_Alm_considerAll_2 ?_
      rw [h8, ew, f_at_in (by omega) (by omega), h17 t ht, r1]
      refine ⟨fun c => absurd c (nI_gle ht (by omega)), fun _ => ⟨fun c1 => ?_, fun c1 => ?_⟩⟩
      · have w0 : y.wd t = 0 := (nI_eq (by omega) (by omega)).mp (show nI (y.wd t) = nI 0 from c1)
        have kk : wkK (y.wd t) = 1 := by unfold wkK; rw [if_pos w0]
        refine ⟨fun c2 => ?_, fun c2 => ?_⟩
        · have z : y.wr t = 0 := (nI_eq (by omega) (by omega)).mp (show nI (y.wr t) = nI 0 from c2)
          have := r3 w0
          omega
        · refine go 1 1 _ _ _ _ kk ?_
          show (1 : Int32) = nI (if ¬ y.wd t = 0 ∧ y.wr t = 0 then 0 else 1)
          rw [if_neg (fun z => z.1 w0)]
          rfl
      · have w0 : ¬ y.wd t = 0 := fun z => c1 (by rw [z]; rfl)
        have kk : wkK (y.wd t) = 0 := by unfold wkK; rw [if_neg w0]
        refine ⟨fun c2 => go 0 0 _ _ _ _ kk ?_, fun c2 => go 0 1 _ _ _ _ kk ?_⟩
        · have z : y.wr t = 0 := (nI_eq (by omega) (by omega)).mp (show nI (y.wr t) = nI 0 from c2)
          show (0 : Int32) = nI (if ¬ y.wd t = 0 ∧ y.wr t = 0 then 0 else 1)
          rw [if_pos ⟨w0, z⟩]
          rfl
        · have z : ¬ y.wr t = 0 := fun z => c2 (by rw [z]; rfl)
          show (1 : Int32) = nI (if ¬ y.wd t = 0 ∧ y.wr t = 0 then 0 else 1)
          rw [if_neg (fun x => z x.2)]
          rfl
  · intro w o3 o4 o5 o6 hw hv
    obtain ⟨hR, hi, ey, h8, h9, h17, h20⟩ := hFr w hw
    have hn := (yv_nF hR i).2.1
    rw [← ey] at hn
    refine sg_Alm_considerAll_81 ?_
    rw [show f_Fea_count w = nI y.nF from hn]
    exact ⟨fun _ => h w hw hv, fun c => absurd (nI_le (Nat.le_refl _) (by omega)) c⟩
  · intro f _ hf ih w o3 o4 o5 o6 hw hv
    obtain ⟨hR, hi, ey, h8, h9, h17, h20⟩ := hFr w hw
    have hn := (yv_nF hR i).2.1
    rw [← ey] at hn
    refine sg_Alm_considerAll_81 ?_
    rw [show f_Fea_count w = nI y.nF from hn, f_at_in (by omega) (by omega), h20 f hf, nI_1]
    refine ⟨fun c => absurd c (nI_gle hf (by omega)), fun _ => ?_⟩
    cases ho : y.own f with
    | none =>
      refine ⟨fun _ => ih w _ _ _ _ hw (fun d hd => hskip w d (f + 1) hw hd (kd_none ho) (hv d hd)), fun c => absurd rfl c⟩
    | some o =>
      have hoN := (hy.2.2.2.2.1 f hf).1 o ho
      refine ⟨fun c => absurd c (m1_nI (n := o) (by omega)), fun _ => ?_⟩
      exact ew_cfeast hFr hcons hskip hw hf ho hv (fun w' hw' hv' => ⟨rfl, ih w' _ _ _ _ hw' hv'⟩)
/-- the office of a day, as far as the places are gone through -/
def V18 (y : YT) (w : Wd) (d j : Nat) : Prop := w 18 d = oI (mxB (ySl y d) (ySc y d) 10000 j)
theorem within_day {d n : Nat} (hd : d < n) (hn : n < 100000) : ¬ f_Bk_within (nI d) 0 (nI n - 1) = 0 := by
  rw [show f_Bk_within = f_Md_in from rfl, show (nI n - 1 : Int32) = nI (n - 1) from pk_sub (b := 1) (by omega)]
  exact in_n0 (in_in (l := 0) (h := n - 1) rfl rfl (by omega) (by omega) (by omega))
theorem oI_max {a b : Nat} (ha : a < 100000) (hb : b < 100000) (h1 : 1 ≤ b) : (if oI a < nI b then nI b else oI a) = oI (max a b) := by
  rw [← oI_pos h1]
  by_cases c : a < b
  · rw [if_pos ((oI_lt ha hb).mpr c), Nat.max_eq_right (by omega)]
  · rw [if_neg (fun q => c ((oI_lt ha hb).mp q)), Nat.max_eq_left (by omega)]
theorem cons_18 {zs : List Int32} {i : Nat} {y : YT} {b : Wd} (hb : AB b i y) (w : Wd) (d j : Nat) (Q : Option AV → Wd → Prop) (hw : ∀ c k, c ≠ 18 → w c k = b c k) (hd : d < y.N) (hj : j ≤ y.nF) (hl : ySl y d j = true) (hv : V18 y w d j) (h : ∀ w' : Wd, (∀ c k, c ≠ 18 → w' c k = b c k) → V18 y w' d (j + 1) → (∀ d' k, d' < y.N → d' ≠ d → V18 y w d' k → V18 y w' d' k) → Q none w') : Ew zs 2 m_Alm_consider [.inr (.inl (some 16)), .inl (nI d), .inl (nI (ySc y d j)), .inl (nI (ySw y d j)), .inl 1] w Q := by
  have hy := AB_ok hb
  have hN := hy.2.2.1
  have c1 := ySc_lt hy hd hj
  have c2 := ySc_pos hy (d := d) hj
  have h8 : w 16 8 = nI y.N := (hw _ _ (by omega)).trans hb.2.2.2.1
  have m1 : mxB (ySl y d) (ySc y d) 10000 j < 10000 := mxB_lt (by omega)
  refine ew_of k_Alm_consider rfl (sg_Alm_consider_0 ?_)
  rw [h8]
  refine ⟨fun c => absurd c (within_day hd (by omega)), fun _ => ⟨fun c => absurd c one_ne, fun _ => ?_⟩⟩
  rw [f_at_in (by omega) (by omega), hv, oI_max (by omega) (by omega) c2, g_put_in (by omega) (by omega)]
  refine h _ (fun c k hc => by rw [wr_nc hc]; exact hw c k hc) ?_ (fun d' k _ hne hv' => ?_)
  · show wr w 18 d _ 18 d = oI (mxB (ySl y d) (ySc y d) 10000 (j + 1))
    rw [wr_eq]
    simp only [mxB]
    rw [if_pos ⟨hl, c1⟩]
  · show wr w 18 d _ 18 d' = _
    rw [wr_nk hne]
    exact hv'
theorem ew_choose {zs : List Int32} {i : Nat} {y : YT} {b : Wd} {Q : Option AV → Wd → Prop} (hb : AB b i y) (h0 : ∀ d, d < y.N → b 18 d = -1) (h : ∀ w', (∀ c k, c ≠ 18 → w' c k = b c k) → (∀ d, d < y.N → w' 18 d = oI (mxB (ySl y d) (ySc y d) 10000 (y.nF + 1))) → Q none w') : Ew zs 4 m_Alm_considerAll [.inr (.inl (some 16)), .inl 1] b Q :=
  ew_call (i := i) (y := y) (Fr := fun w => ∀ c k, c ≠ 18 → w c k = b c k) (V := V18 y) (fun w hw => AB_cg (fun c k h1 _ _ => hw c k h1) hb) (fun w d j Q hw hd hj hl hv h => cons_18 hb w d j Q hw hd hj hl hv h) (fun w d j hw hd hl hv => by
    show w 18 d = oI (mxB (ySl y d) (ySc y d) 10000 (j + 1))
    rw [mxB_no hl]
    exact hv) (fun _ _ _ => rfl) (fun d hd => h0 d hd) h
/-! What is commemorated -/
def yE (y : YT) (off : Nat → Nat) (d j : Nat) : Bool := ySl y d j && (decide (ySw y d j = 1) && decide (¬ ySc y d j = off d))
def V19 (y : YT) (off : Nat → Nat) (w : Wd) (d j : Nat) : Prop := ∀ t, t < 3 → w 19 (3 * d + t) = oI (tpB (yE y off d) (ySc y d) j t)
theorem cm_step {zs : List Int32} {w : Wd} {d t x T : Nat} {o2 o5 : Option AV} {Q : Option AV → Wd → Prop} (hd : d < 366) (ht : t < 3) (hx : x < 100000) (hT : T < 100000) (h19 : w 19 (3 * d + t) = oI T) (h : ∀ w' o5, (∀ c k, ¬ (c = 19 ∧ k = 3 * d + t) → w' c k = w c k) → w' 19 (3 * d + t) = oI (max x T) → Gw zs 1 m_Alm_commemorate 7 [some (.inr (.inl (some 16))), some (.inl (nI d)), o2, some (.inl (oI (min x T))), some (.inl (nI (3 * d + (t + 1)))), o5] [] w' Q) : Gw zs 1 m_Alm_commemorate 7 [some (.inr (.inl (some 16))), some (.inl (nI d)), o2, some (.inl (oI x)), some (.inl (nI (3 * d + t))), o5] [] w Q := by
  have e3 : ((nI d + 1) * 3 : Int32) = nI (3 * d + 3) := by
    rw [nI_1, show (3 : Int32) = nI 3 from rfl, pk_mul]
    congr 1; omega
  refine sg_Alm_commemorate_7 ?_
  rw [e3, f_at_in (by omega) (by omega), h19, nI_1]
  refine ⟨fun c => absurd c (nI_gle (by omega) (by omega)), fun _ => ⟨fun c => ?_, fun c => ?_⟩⟩
  · have q := (oI_le hx hT).mp c
    have g := h w (some (.inl (oI T))) (fun _ _ _ => rfl) (by rw [Nat.max_eq_right q]; exact h19)
    rw [Nat.min_eq_left q] at g
    exact g
  · have q : T < x := by
      rcases Nat.lt_or_ge T x with z | z
      · exact z
      · exact absurd ((oI_le hx hT).mpr z) c
    rw [g_put_in (by omega) (by omega)]
    have g := h (wr w 19 (3 * d + t) (oI x)) (some (.inl (oI T))) (fun c k hc => if_neg hc) (by rw [wr_eq, Nat.max_eq_left (by omega)])
    rw [Nat.min_eq_right (by omega)] at g
    exact g
theorem ew_commemorate {zs : List Int32} {w : Wd} {d x : Nat} {T : Nat → Nat} {Q : Option AV → Wd → Prop} (hd : d < 366) (h1 : 1 ≤ x) (hx : x < 100000) (hT : ∀ t, T t < 100000) (h19 : ∀ t, t < 3 → w 19 (3 * d + t) = oI (T t)) (h : ∀ w', (∀ c k, ¬ (c = 19 ∧ 3 * d ≤ k ∧ k < 3 * d + 3) → w' c k = w c k) → w' 19 (3 * d) = oI (max x (T 0)) → w' 19 (3 * d + 1) = oI (max (min x (T 0)) (T 1)) → w' 19 (3 * d + 2) = oI (max (min (min x (T 0)) (T 1)) (T 2)) → Q none w') : Ew zs 1 m_Alm_commemorate [.inr (.inl (some 16)), .inl (nI d), .inl (nI x)] w Q := by
  have e0 : (nI d * 3 : Int32) = nI (3 * d + 0) := by
    rw [show (3 : Int32) = nI 3 from rfl, pk_mul]
    congr 1; omega
  have e3 : ((nI d + 1) * 3 : Int32) = nI (3 * d + 3) := by
    rw [nI_1, show (3 : Int32) = nI 3 from rfl, pk_mul]
    congr 1; omega
  refine ew_of k_Alm_commemorate rfl (sg_Alm_commemorate_0 ?_)
  rw [e0, ← oI_pos h1]
  have t0 := hT 0
  have t1 := hT 1
  refine cm_step hd (by omega) hx (hT 0) (h19 0 (by omega)) (fun w1 _ a1 a2 => ?_)
  refine cm_step hd (by omega) (by omega) (hT 1) ((a1 _ _ (by omega)).trans (h19 1 (by omega))) (fun w2 _ b1 b2 => ?_)
  refine cm_step hd (by omega) (by omega) (hT 2) ((b1 _ _ (by omega)).trans ((a1 _ _ (by omega)).trans (h19 2 (by omega)))) (fun w3 _ c1 c2 => ?_)
  refine sg_Alm_commemorate_7 ?_
  rw [e3]
  refine ⟨fun _ => h w3 (fun c k hc => ?_) ?_ ?_ c2, fun c => absurd (nI_le (Nat.le_refl _) (by omega)) c⟩
  · rw [c1 _ _ (by omega), b1 _ _ (by omega), a1 _ _ (by omega)]
  · rw [c1 _ _ (by omega), b1 _ _ (by omega)]; exact a2
  · rw [c1 _ _ (by omega)]; exact b2
theorem yE_true {y : YT} {off : Nat → Nat} {d j : Nat} : yE y off d j = true ↔ (ySl y d j = true ∧ ySw y d j = 1 ∧ ¬ ySc y d j = off d) := by
  unfold yE
  rw [Bool.and_eq_true, Bool.and_eq_true, decide_eq_true_iff, decide_eq_true_iff]
theorem cons_19 {zs : List Int32} {i : Nat} {y : YT} {off : Nat → Nat} {b : Wd} (hb : AB b i y) (hoff : ∀ d, d < y.N → b 18 d = nI (off d) ∧ off d < 100000) (w : Wd) (d j : Nat) (Q : Option AV → Wd → Prop) (hw : ∀ c k, c ≠ 19 → w c k = b c k) (hd : d < y.N) (hj : j ≤ y.nF) (hl : ySl y d j = true) (hv : V19 y off w d j) (h : ∀ w' : Wd, (∀ c k, c ≠ 19 → w' c k = b c k) → V19 y off w' d (j + 1) → (∀ d' k, d' < y.N → d' ≠ d → V19 y off w d' k → V19 y off w' d' k) → Q none w') : Ew zs 2 m_Alm_consider [.inr (.inl (some 16)), .inl (nI d), .inl (nI (ySc y d j)), .inl (nI (ySw y d j)), .inl 0] w Q := by
  have hy := AB_ok hb
  have hN := hy.2.2.1
  have c1 := ySc_lt hy hd hj
  have c2 := ySc_pos hy (d := d) hj
  have h8 : w 16 8 = nI y.N := (hw _ _ (by omega)).trans hb.2.2.2.1
  obtain ⟨o1, o2⟩ := hoff d hd
  have stay : ¬ yE y off d j = true → Q none w := fun q => h w hw (fun t ht => by rw [tpB_no q]; exact hv t ht) (fun _ _ _ _ z => z)
  have w2 : ySw y d j ≤ 2 := by
    cases j with
    | zero =>
      show (if ¬ y.wd d = 0 ∧ y.wr d = 0 then 0 else 1) ≤ 2
      split <;> omega
    | succ f =>
      show (if KD y.f0 y.F d f = 2 then y.wy f else if KD y.f0 y.F d f = 3 then 1 else 0) ≤ 2
      have := (hy.2.2.2.2.1 f hj).2.2.2
      split
      · exact this
      · split <;> omega
  refine ew_of k_Alm_consider rfl (sg_Alm_consider_0 ?_)
  rw [h8]
  refine ⟨fun c => absurd c (within_day hd (by omega)), fun _ => ⟨fun _ => ⟨fun c3 => ?_, fun c3 => ?_⟩, fun c => absurd rfl c⟩⟩
  · have e3 : ySw y d j = 1 := (nI_eq (by omega) (by omega)).mp (show nI (ySw y d j) = nI 1 from c3)
    rw [f_at_in (by omega) (by omega), hw 18 d (by omega), o1]
    refine ⟨fun c4 => stay (fun q => ?_), fun c4 => ?_⟩
    · exact (yE_true.mp q).2.2 ((nI_eq (by omega) (by omega)).mp c4)
    · have e4 : ¬ ySc y d j = off d := fun z => c4 (by rw [z])
      have he : yE y off d j = true := yE_true.mpr ⟨hl, e3, e4⟩
      obtain ⟨p0, p1, p2⟩ := tpB_put he c2 c1 (fun i hi hei => ySc_ne hy (by omega) hj hi hl (yE_true.mp hei).1)
      have tl : ∀ t, tpB (yE y off d) (ySc y d) j t < 100000 := fun t => Nat.lt_trans tpB_lt (by omega)
      refine ew_commemorate (by omega) c2 (by omega) tl hv (fun w' a1 a2 a3 a4 => ⟨rfl, h w' (fun c k hc => ?_) (fun t ht => ?_) (fun d' k _ hne hv' t ht => ?_)⟩)
      · rw [a1 _ _ (by omega)]; exact hw c k hc
      · rcases (show t = 0 ∨ t = 1 ∨ t = 2 by omega) with rfl | rfl | rfl
        · rw [p0]; exact a2
        · rw [p1]; exact a3
        · rw [p2]; exact a4
      · rw [a1 _ _ (by omega)]; exact hv' t ht
  · exact stay (fun q => c3 (by rw [(yE_true.mp q).2.1]; rfl))
theorem ew_others {zs : List Int32} {i : Nat} {y : YT} {off : Nat → Nat} {b : Wd} {Q : Option AV → Wd → Prop} (hb : AB b i y) (hoff : ∀ d, d < y.N → b 18 d = nI (off d) ∧ off d < 100000) (h0 : ∀ d, d < y.N → ∀ t, t < 3 → b 19 (3 * d + t) = -1) (h : ∀ w', (∀ c k, c ≠ 19 → w' c k = b c k) → (∀ d, d < y.N → ∀ t, t < 3 → w' 19 (3 * d + t) = oI (tpB (yE y off d) (ySc y d) (y.nF + 1) t)) → Q none w') : Ew zs 4 m_Alm_considerAll [.inr (.inl (some 16)), .inl 0] b Q :=
  ew_call (i := i) (y := y) (Fr := fun w => ∀ c k, c ≠ 19 → w c k = b c k) (V := V19 y off) (fun w hw => AB_cg (fun c k _ h1 _ => hw c k h1) hb) (fun w d j Q hw hd hj hl hv h => cons_19 hb hoff w d j Q hw hd hj hl hv h) (fun w d j hw hd hl hv t ht => by
    rw [tpB_no (fun q => hl (yE_true.mp q).1)]
    exact hv t ht) (fun _ _ _ => rfl) (fun d hd t ht => by
    rw [h0 d hd t ht]
    have : tpB (yE y off d) (ySc y d) 0 t = 0 := by
      cases t with
      | zero => rfl
      | succ t => rfl
    rw [this]
    rfl) h
