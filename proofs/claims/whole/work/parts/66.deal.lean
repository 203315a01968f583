/-! Dealing, as the class does it -/
theorem nI_div {a b : Nat} (ha : a < 2147483648) (hb : 0 < b) (hb2 : b < 2147483648) : (nI a / nI b : Int32) = nI (a / b) := by
  have h1 : (nI a).toInt = (a : Int) := nI_toInt ha
  have h2 : (nI b).toInt = (b : Int) := nI_toInt hb2
  have h3 : (nI (a / b)).toInt = ((a / b : Nat) : Int) := nI_toInt (Nat.lt_of_le_of_lt (Nat.div_le_self a b) ha)
  refine Int32.toInt_inj.mp ?_
  rw [Int32.toInt_div_of_ne_right _ _ (fun z => m1_nI hb2 z), h1, h2, h3]
  exact (Int.ofNat_tdiv a b).symm
def Inp (w : Wd) (u : Nat → Bool) (V : Nat → Nat) (H : Nat) : Prop := 1 ≤ H ∧ H ≤ 8 ∧ w 22 8 = nI H ∧ ∀ q, q < 150 → (u q = true ↔ w 24 (q + 1) = -1) ∧ w 23 (q + 1) = nI (V q) ∧ 1 ≤ V q ∧ V q ≤ 200
def ROW (w : Wd) (m : Nat) (r v : Nat → Nat) : Prop := m ≤ 150 ∧ w 22 7 = nI m ∧ ∀ i, i < m → r i < 150 ∧ w 27 i = nI (r i + 1) ∧ w 23 (r i + 1) = nI (v i) ∧ 1 ≤ v i ∧ v i ≤ 200
def LU (w0 w : Wd) (u : Nat → Bool) (q : Nat) : Prop := (∀ c k, ¬ (c = 22 ∧ k = 7) → c ≠ 27 → c ≠ 29 → w c k = w0 c k) ∧ w 22 7 = nI (cnt u q) ∧ (∀ i, i < cnt u q → w 27 i = nI (rf u 150 i + 1)) ∧ ∀ q', q' < q → w 29 (q' + 1) = -1
theorem ew_lineUp {zs : List Int32} {w0 : Wd} {u : Nat → Bool} {V : Nat → Nat} {H : Nat} {Q : Option AV → Wd → Prop} (hI : Inp w0 u V H) (h : ∀ w', LU w0 w' u 150 → Q none w') : Ew zs 1 m_Psa_lineUp [.inr (.inl (some 22))] w0 Q := by
  refine ew_of k_Psa_lineUp rfl (sg_Psa_lineUp_0 ?_)
  have g := up_loop (fun i => ∀ w, LU w0 w u i → Gw zs 1 m_Psa_lineUp 7 [some (.inr (.inl (some 22))), some (.inl (nI (i + 1)))] [] w Q) 0 150 (by omega) ?_ ?_
  · refine g _ ⟨fun c k h1 h2 h3 => ?_, ?_, fun i hi => ?_, fun q hq => ?_⟩
    · unfold wr; rw [if_neg h1]
    · rw [wr_eq]; rfl
    · simp only [cnt] at hi; omega
    · omega
  · intro w hw
    exact sg_Psa_lineUp_7 ⟨fun _ => h w hw, fun c => absurd (nI_lt (a := 150) (b := 150 + 1) (by omega) (by omega)) c⟩
  · intro q _ hq ih w hw
    obtain ⟨l1, l2, l3, l4⟩ := hw
    have hc := cnt_le u q
    refine sg_Psa_lineUp_7 ⟨fun c => absurd c (nI_nlt (a := 150) (b := q + 1) (by omega) (by omega)), fun _ => ?_⟩
    have e24 : w 24 (q + 1) = w0 24 (q + 1) := l1 _ _ (by omega) (by omega) (by omega)
    obtain ⟨i1, i2, i3, i4⟩ := hI.2.2.2 q hq
    rw [f_at_in (by omega) (by omega), e24, l2, nI_1, nI_1, g_put_in (c := 29) (by omega) (by omega), g_put_in (by omega) (by omega)]
    refine ⟨fun c => ih _ ?_, fun c => ih _ ?_⟩
    · have hu := i1.mpr c
      have e1 : cnt u (q + 1) = cnt u q + 1 := by simp only [cnt, hu, if_true]
      refine ⟨fun c k h1 h2 h3 => ?_, ?_, fun i hi => ?_, fun q' hq' => ?_⟩
      · have z : wr (wr (wr w 29 (q + 1) (-1)) 27 (cnt u q) (nI (q + 1))) 22 7 (nI (cnt u q + 1)) c k = w c k := by
          unfold wr; rw [if_neg h1, if_neg (by omega), if_neg (by omega)]
        rw [z]; exact l1 c k h1 h2 h3
      · rw [wr_eq, e1]
      · by_cases e : i = cnt u q
        · subst e
          rw [wr_nc (by omega), wr_eq, rf_cnt hq hu]
        · rw [wr_nc (by omega), wr_nk e, wr_nc (by omega)]
          exact l3 i (by omega)
      · rw [wr_nc (by omega), wr_nc (by omega)]
        by_cases e : q' = q
        · subst e; rw [wr_eq]
        · rw [wr_nk (by omega)]; exact l4 q' (by omega)
    · have hu : ¬ u q = true := fun z => c (i1.mp z)
      have e1 : cnt u (q + 1) = cnt u q := by simp only [cnt]; rw [if_neg hu]; omega
      refine ⟨fun c k h1 h2 h3 => ?_, ?_, fun i hi => ?_, fun q' hq' => ?_⟩
      · rw [wr_nc h3]; exact l1 c k h1 h2 h3
      · rw [wr_nc (by omega), e1]; exact l2
      · rw [wr_nc (by omega)]; exact l3 i (by rw [e1] at hi; exact hi)
      · by_cases e : q' = q
        · subst e; rw [wr_eq]
        · rw [wr_nk (by omega)]; exact l4 q' (by omega)
theorem row_of {w0 w : Wd} {u : Nat → Bool} {V : Nat → Nat} {H : Nat} (hI : Inp w0 u V H) (hL : LU w0 w u 150) : ROW w (cnt u 150) (rf u 150) (fun i => V (rf u 150 i)) := by
  obtain ⟨l1, l2, l3, l4⟩ := hL
  refine ⟨cnt_le u 150, l2, fun i hi => ?_⟩
  obtain ⟨a, b, c⟩ := rf_of hi
  obtain ⟨i1, i2, i3, i4⟩ := hI.2.2.2 _ b
  exact ⟨b, l3 i hi, by rw [l1 _ _ (by omega) (by omega) (by omega)]; exact i2, i3, i4⟩
theorem Sm_30000 {m : Nat} {v : Nat → Nat} (hm : m ≤ 150) (hv : ∀ i, i < m → v i ≤ 200) {i : Nat} (hi : i ≤ m) : Sm v i ≤ 30000 := by
  have := Sm_bound (v := v) (k := 200) (n := i) (fun j hj => hv j (by omega))
  omega
theorem ew_endOfHour {zs : List Int32} {w : Wd} {m f lim : Nat} {r v : Nat → Nat} {Q : Option AV → Wd → Prop} (hR : ROW w m r v) (hf : f ≤ m) (hl : lim ≤ 30000) (h : Q (some (.inl (nI (hE v m lim f)))) w) : Ew zs 1 m_Psa_endOfHour [.inr (.inl (some 22)), .inl (nI f), .inl (nI lim)] w Q := by
  obtain ⟨hm, h7, hi⟩ := hR
  refine ew_of k_Psa_endOfHour rfl (sg_Psa_endOfHour_0 ?_)
  have key : ∀ n e, f ≤ e → e ≤ m → m ≤ e + n → Sm v e ≤ Sm v f + lim → Q (some (.inl (nI (nE v m lim f n e)))) w → Gw zs 1 m_Psa_endOfHour 5 [some (.inr (.inl (some 22))), some (.inl (nI f)), some (.inl (nI lim)), some (.inl (nI (Sm v e - Sm v f))), some (.inl (nI e))] [] w Q := by
    intro n
    induction n with
    | zero =>
      intro e h1 h2 h3 h4 hq
      refine sg_Psa_endOfHour_5 ?_
      rw [h7]
      refine ⟨fun _ => ?_, fun c => absurd (nI_le (a := m) (b := e) (by omega) (by omega)) c⟩
      rw [show m = e by omega]; exact hq
    | succ n ih =>
      intro e h1 h2 h3 h4 hq
      refine sg_Psa_endOfHour_5 ?_
      rw [h7]
      have sfe := Sm_mono (v := v) h1
      have s3 := Sm_30000 (v := v) hm (fun i h => (hi i h).2.2.2.2) h2
      simp only [nE] at hq
      rcases Nat.lt_or_ge e m with q | q
      · refine ⟨fun c => absurd c (nI_gle q (by omega)), fun _ => ?_⟩
        obtain ⟨r1, r2, r3, r4, r5⟩ := hi e q
        have eS : Sm v (e + 1) = Sm v e + v e := rfl
        rw [f_at_in (c := 27) (by omega) (by omega), r2, f_at_in (by omega) (by omega), r3, nI_add, nI_1, show Sm v e - Sm v f + v e = Sm v (e + 1) - Sm v f by omega]
        refine ⟨fun c => ?_, fun c => ?_⟩
        · have c2 : Sm v (e + 1) - Sm v f ≤ lim := by
            rcases Nat.lt_or_ge lim (Sm v (e + 1) - Sm v f) with z | z
            · exact absurd c (nI_gle z (by omega))
            · exact z
          have c3 : e < m ∧ Sm v (e + 1) ≤ Sm v f + lim := ⟨q, by omega⟩
          rw [if_pos c3] at hq
          exact ih (e + 1) (by omega) (by omega) (by omega) c3.2 hq
        · have c3 : ¬ (e < m ∧ Sm v (e + 1) ≤ Sm v f + lim) := fun z => c (nI_le (by omega) (by omega))
          rw [if_neg c3] at hq
          exact hq
      · refine ⟨fun _ => ?_, fun c => absurd (nI_le (a := m) (b := e) (by omega) (by omega)) c⟩
        rw [if_neg (by omega)] at hq
        rw [show m = e by omega]; exact hq
  have g := key m f (Nat.le_refl _) hf (by omega) (by omega) h
  rw [Nat.sub_self] at g
  exact g
theorem ew_isEnough {zs : List Int32} {w : Wd} {m lim H : Nat} {r v : Nat → Nat} {Q : Option AV → Wd → Prop} (hR : ROW w m r v) (hH : H ≤ 8) (h8 : w 22 8 = nI H) (hl : lim ≤ 30000) (h1 : enough v m (7 * H) lim → Q (some (.inl 1)) w) (h0 : ¬ enough v m (7 * H) lim → Q (some (.inl 0)) w) : Ew zs 2 m_Psa_isEnough [.inr (.inl (some 22)), .inl (nI lim)] w Q := by
  refine ew_of k_Psa_isEnough rfl (sg_Psa_isEnough_0 ?_)
  have hm := hR.1
  have e7 : (7 * nI H : Int32) = nI (7 * H) := by rw [show (7 : Int32) = nI 7 from rfl, pk_mul]
  have g := up_loop (fun k => Gw zs 2 m_Psa_isEnough 4 [some (.inr (.inl (some 22))), some (.inl (nI lim)), some (.inl (nI (st v m lim k))), some (.inl (nI k))] [] w Q) 0 (7 * H) (by omega) ?_ ?_
  · exact g
  · refine sg_Psa_isEnough_4 ?_
    rw [h8, e7, hR.2.1]
    refine ⟨fun _ => ⟨fun c => h0 (fun z => ?_), fun c => h1 ?_⟩, fun c => absurd (nI_le (Nat.le_refl _) (by omega)) c⟩
    · unfold enough at z
      rw [z] at c
      exact nI_nlt (Nat.le_refl m) (by omega) c
    · unfold enough
      have := st_le (v := v) (m := m) (lim := lim) (7 * H)
      rcases Nat.lt_or_ge (st v m lim (7 * H)) m with q | q
      · exact absurd (nI_lt q (by omega)) c
      · omega
  · intro k _ hk ih
    have sl := st_le (v := v) (m := m) (lim := lim) k
    refine sg_Psa_isEnough_4 ?_
    rw [h8, e7, hR.2.1]
    refine ⟨fun c => absurd c (nI_gle hk (by omega)), fun _ => ?_⟩
    refine ew_endOfHour hR sl hl ⟨_, rfl, ?_⟩
    rw [nI_1]
    exact ih
