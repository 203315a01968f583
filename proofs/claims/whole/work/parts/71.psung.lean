/-! What is sung at an hour, as the class answers it -/
theorem ew_fixed {zs : List Int32} {w : Wd} {y n : Nat} {Q : Option AV → Wd → Prop} (hn : n < 2147483648) (h24 : ∀ q, q < 150 → w 24 (q + 1) = w 182 q) (h : Q (some (.inl (if n < cnt (gF w y) 150 then nI (rf (gF w y) 150 n + 1) else -1))) w) : Ew zs 1 m_Psa_fixedPsalm [.inr (.inl (some 22)), .inl (nI y), .inl (nI n)] w Q := by
  refine ew_of k_Psa_fixedPsalm rfl (sg_Psa_fixedPsalm_0 ?_)
  have g := up_loop (fun q => cnt (gF w y) q ≤ n → Gw zs 1 m_Psa_fixedPsalm 5 [some (.inr (.inl (some 22))), some (.inl (nI y)), some (.inl (nI n)), some (.inl (nI (n - cnt (gF w y) q))), some (.inl (nI (q + 1)))] [] w Q) 0 150 (by omega) ?_ ?_
  · exact g (Nat.zero_le _)
  · intro hc
    refine sg_Psa_fixedPsalm_5 ⟨fun _ => ?_, fun c => absurd (nI_lt (a := 150) (b := 150 + 1) (by omega) (by omega)) c⟩
    rw [if_neg (by omega)] at h
    exact h
  · intro q _ hq ih hc
    refine sg_Psa_fixedPsalm_5 ⟨fun c => absurd c (nI_nlt (a := 150) (b := q + 1) (by omega) (by omega)), fun _ => ?_⟩
    rw [f_at_in (by omega) (by omega), h24 q hq, nI_1]
    refine ⟨fun c => ?_, fun c => ?_⟩
    · have hu : gF w y q = true := by unfold gF; exact decide_eq_true c
      have e1 : cnt (gF w y) (q + 1) = cnt (gF w y) q + 1 := by simp only [cnt, hu, if_true]
      have hlt := cnt_lt hq hu
      refine ⟨fun c2 => ?_, fun c2 => ?_⟩
      · have e2 : n - cnt (gF w y) q = 0 := (nI_eq (by omega) (by omega)).mp (show nI (n - cnt (gF w y) q) = nI 0 from c2)
        have e3 : n = cnt (gF w y) q := by omega
        rw [if_pos (by omega), e3, rf_cnt hq hu] at h
        exact h
      · have e2 : n - cnt (gF w y) q ≠ 0 := fun z => c2 (by rw [z]; rfl)
        have eL : (nI (n - cnt (gF w y) q) + -1 : Int32) = nI (n - cnt (gF w y) (q + 1)) := by
          rw [show (nI (n - cnt (gF w y) q) + -1 : Int32) = nI (n - cnt (gF w y) q) - nI 1 from (Int32.sub_eq_add_neg _ _).symm, pk_sub (by omega), e1]
          congr 1
        rw [eL]
        exact ih (by omega)
    · have hu : ¬ gF w y q = true := fun z => c (of_decide_eq_true z)
      have e1 : cnt (gF w y) (q + 1) = cnt (gF w y) q := by simp only [cnt]; rw [if_neg hu]; omega
      rw [e1] at ih
      exact ih hc
/-- how an hour's list is made: k psalms ahead of the fixed ones -/
def Sp (w : Wd) (u : Nat → Bool) (V : Nat → Nat) (H lim x y : Nat) (R : Int32) (k : Nat) (L : Nat → Nat) : Prop :=
  ((1 ≤ k ∧ k ≤ 6 ∧ ¬ R < w 155 37 ∧ w 183 y = nI k ∧ ∀ j, j < k → L j < 1000 ∧ w 184 (6 * y + j) = nI (L j)) ∨ ((R < w 155 37 ∨ w 183 y ≤ 0) ∧ k = st (fun i => V (rf u 150 i)) (cnt u 150) lim (x * H + y + 1) - st (fun i => V (rf u 150 i)) (cnt u 150) lim (x * H + y) ∧ ∀ j, j < k → L j = rf u 150 (st (fun i => V (rf u 150 i)) (cnt u 150) lim (x * H + y) + j) + 1)) ∧ ∀ j, j < cnt (gF w y) 150 → L (k + j) = rf (gF w y) 150 j + 1
theorem Sp_ex {w : Wd} {u : Nat → Bool} {V : Nat → Nat} {H lim x y : Nat} {R : Int32} (hR : RP w) (hy : y < 8) : ∃ k L, k ≤ 150 ∧ Sp w u V H lim x y R k L := by
  obtain ⟨hv, H0, r0, b1, b2, b3, b4, b5, b6, b7, b8, hf, hfe⟩ := hR
  obtain ⟨c, c1, c2, c3, c4, c5⟩ := hfe y hy
  by_cases q : ¬ R < w 155 37 ∧ 1 ≤ c
  · refine ⟨c, fun j => if j < c then (w 184 (6 * y + j)).toNatClampNeg else rf (gF w y) 150 (j - c) + 1, by omega, Or.inl ⟨q.2, c1, q.1, c4, fun j hj => ?_⟩, fun j hj => ?_⟩
    · obtain ⟨p, p1, p2, p3⟩ := (c5 j hj).2
      simp only [if_pos hj]
      rw [p3, nI_clampN (by omega)]
      exact ⟨by omega, rfl⟩
    · simp only [if_neg (show ¬ c + j < c by omega)]
      rw [Nat.add_sub_cancel_left]
  · have sl := st_le (v := fun i => V (rf u 150 i)) (m := cnt u 150) (lim := lim) (x * H + y + 1)
    have hm := cnt_le u 150
    refine ⟨st (fun i => V (rf u 150 i)) (cnt u 150) lim (x * H + y + 1) - st (fun i => V (rf u 150 i)) (cnt u 150) lim (x * H + y), fun j => if j < st (fun i => V (rf u 150 i)) (cnt u 150) lim (x * H + y + 1) - st (fun i => V (rf u 150 i)) (cnt u 150) lim (x * H + y) then rf u 150 (st (fun i => V (rf u 150 i)) (cnt u 150) lim (x * H + y) + j) + 1 else rf (gF w y) 150 (j - (st (fun i => V (rf u 150 i)) (cnt u 150) lim (x * H + y + 1) - st (fun i => V (rf u 150 i)) (cnt u 150) lim (x * H + y))) + 1, by omega, Or.inr ⟨?_, rfl, fun j hj => ?_⟩, fun j hj => ?_⟩
    · by_cases z : R < w 155 37
      · exact Or.inl z
      · refine Or.inr ?_
        have : c = 0 := by
          rcases Nat.eq_zero_or_pos c with z2 | z2
          · exact z2
          · exact absurd ⟨z, z2⟩ q
        rw [c4, this]; exact nI_le (a := 0) (b := 0) (by omega) (by omega)
    · simp only [if_pos hj]
    · simp only [if_neg (show ¬ st (fun i => V (rf u 150 i)) (cnt u 150) lim (x * H + y + 1) - st (fun i => V (rf u 150 i)) (cnt u 150) lim (x * H + y) + j < st (fun i => V (rf u 150 i)) (cnt u 150) lim (x * H + y + 1) - st (fun i => V (rf u 150 i)) (cnt u 150) lim (x * H + y) by omega)]
      rw [Nat.add_sub_cancel_left]
theorem ew_sings {zs : List Int32} {w : Wd} {u : Nat → Bool} {V : Nat → Nat} {H d x y lim k : Nat} {L : Nat → Nat} {Q : Option AV → Wd → Prop} (hI : InM w u V H) (hFB : FB w (fun i => V (rf u 150 i)) (rf u 150) (st (fun i => V (rf u 150 i)) (cnt u 150) lim) (7 * H)) (hd : d < 366) (hx : x < 7) (hy : y < H)
    (hw : (w 155 29 + nI d - (w 155 29 + nI d) / 7 * 7 : Int32) = nI x) (hS : Sp w u V H lim x y (w 173 d) k L) (h : ∀ w2, SG w2 w (k + cnt (gF w y) 150) L → Q none w2) : Ew zs 1 m_Md_sings [.inr (.inl (some 155)), .inl (nI d), .inl (nI y)] w Q := by
  have hH := hI.2.1
  obtain ⟨a | a, b⟩ := hS
  · obtain ⟨a1, a2, a3, a4, a5⟩ := a
    exact ew_sings_f hd (by omega) a3 a1 a2 a4 (fun j hj => (a5 j hj).2) b h
  · obtain ⟨a1, a2, a3⟩ := a
    subst a2
    exact ew_sings_d hI hFB hd hx hy hw a1 a3 b h
/-- the class' answer, behind its dealing -/
theorem psung_at {zs : List Int32} {w : Wd} {u : Nat → Bool} {V : Nat → Nat} {H x y lim k : Nat} {L : Nat → Nat} {R a3 : Int32} {Q : Option AV → Wd → Prop} (hR : RP w) (h8 : w 22 8 = nI H) (hH : H ≤ 8) (h28 : ∀ k, k ≤ 7 * H → w 28 k = nI (st (fun i => V (rf u 150 i)) (cnt u 150) lim k)) (hrow : ROW w (cnt u 150) (rf u 150) (fun i => V (rf u 150 i))) (hx : x < 7) (hy : y < H) (hS : Sp w u V H lim x y R k L) (hk : k ≤ 150)
    (h0 : a3 < 0 → Q (some (.inl (-1))) w) (h1 : ∀ i, i < 2147483648 → a3 = nI i → Q (some (.inl (if i < k + cnt (gF w y) 150 then nI (L i) else -1))) w) :
    ((0 ≤ a3 → (((f_Psa_isFestive w (nI y) R) = 0 → (((f_Psa_countDealt w (nI x) (nI y)) ≤ a3 → Ew zs 1 m_Psa_fixedPsalm [.inr (.inl (some 22)), .inl (nI y), .inl (a3 - (f_Psa_countDealt w (nI x) (nI y)))] w (fun v w6 => ∃ r5 : Int32, v = some (.inl r5) ∧ Q (some (.inl r5)) w6)) ∧ (¬ ((f_Psa_countDealt w (nI x) (nI y)) ≤ a3) → Q (some (.inl (f_Psa_dealtPsalm w (nI x) (nI y) a3))) w))) ∧ (¬ ((f_Psa_isFestive w (nI y) R) = 0) → (((f_at w 26 8 (nI y)) ≤ a3 → Ew zs 1 m_Psa_fixedPsalm [.inr (.inl (some 22)), .inl (nI y), .inl (a3 - (f_at w 26 8 (nI y)))] w (fun v w9 => ∃ r8 : Int32, v = some (.inl r8) ∧ Q (some (.inl r8)) w9)) ∧ (¬ ((f_at w 26 8 (nI y)) ≤ a3) → Q (some (.inl (f_at w 25 48 (((nI y) * 6) + a3)))) w))))) ∧ (¬ (0 ≤ a3) → Q (some (.inl (-1))) w)) := by
  obtain ⟨hv, H0, r0, b1, b2, b3, b4, b5, b6, b7, b8, hf, hfe⟩ := hR
  have h24 : ∀ q, q < 150 → w 24 (q + 1) = w 182 q := fun q hq => (hf q hq).1
  obtain ⟨c, c1, c2, c3, c4, c5⟩ := hfe y (by omega)
  refine ⟨fun hp => ?_, fun hp => h0 ?_⟩
  · obtain ⟨i, hi, rfl⟩ : ∃ i, i < 2147483648 ∧ a3 = nI i := by
      refine ⟨a3.toNatClampNeg, ?_, ?_⟩
      · have := Int32.toNatClampNeg_lt a3
        omega
      · rw [Int32.le_iff_toInt_le] at hp
        have e0 : (0 : Int32).toInt = 0 := by decide
        refine Int32.toInt_inj.mp ?_
        have lt := Int32.toNatClampNeg_lt a3
        rw [nI_toInt (by omega)]
        have : a3.toNatClampNeg = a3.toInt.toNat := rfl
        omega
    have hq := h1 i hi rfl
    rw [f_at_in (c := 26) (by omega) (by omega), c3]
    have fin : ∀ n, k ≤ i → n = i - k → Ew zs 1 m_Psa_fixedPsalm [.inr (.inl (some 22)), .inl (nI y), .inl (nI n)] w (fun v w6 => ∃ r5 : Int32, v = some (.inl r5) ∧ Q (some (.inl r5)) w6) := by
      intro n hki hn
      subst hn
      refine ew_fixed (by omega) h24 ⟨_, rfl, ?_⟩
      by_cases z : i - k < cnt (gF w y) 150
      · rw [if_pos z]
        rw [if_pos (by omega)] at hq
        have := hS.2 (i - k) z
        rw [show k + (i - k) = i by omega] at this
        rw [← this]; exact hq
      · rw [if_neg z]
        rw [if_neg (by omega)] at hq
        exact hq
    obtain ⟨a | a, b⟩ := hS
    · obtain ⟨a1, a2, a3', a4, a5⟩ := a
      have ek : c = k := (nI_eq (by omega) (by omega)).mp (c4.symm.trans a4)
      subst ek
      have hfest : f_Psa_isFestive w (nI y) R = 1 := by
        unfold f_Psa_isFestive
        rw [b7, ← b8, if_neg a3', f_at_in (by omega) (by omega), c3, if_neg (nI_nle (by omega) (by omega))]
      refine ⟨fun z => absurd (hfest.symm.trans z) one_ne, fun _ => ⟨fun z => ?_, fun z => ?_⟩⟩
      · have hci : c ≤ i := by
          rcases Nat.lt_or_ge i c with q | q
          · exact absurd z (nI_gle q (by omega))
          · exact q
        rw [pk_sub hci]
        exact fin _ hci rfl
      · have hci : i < c := by
          rcases Nat.lt_or_ge i c with q | q
          · exact q
          · exact absurd (nI_le q (by omega)) z
        have e6 : (nI y * 6 + nI i : Int32) = nI (6 * y + i) := by rw [show (6 : Int32) = nI 6 from rfl, pk_mul, nI_add]; congr 1; omega
        rw [e6, f_at_in (by omega) (by omega), (c5 i hci).1, (a5 i hci).2]
        rw [if_pos (by omega)] at hq
        exact hq
    · obtain ⟨a1, a2, a3'⟩ := a
      have hfest : f_Psa_isFestive w (nI y) R = 0 := by
        unfold f_Psa_isFestive
        rw [b7, ← b8, f_at_in (by omega) (by omega), c3]
        rcases a1 with a1 | a1
        · rw [if_pos a1]
        · rw [c4] at a1
          rw [if_pos a1, ite_self]
      obtain ⟨e, hs⟩ := countD h8 hH hx hy h28
      rw [← a2] at e
      rw [e]
      refine ⟨fun _ => ⟨fun z => ?_, fun z => ?_⟩, fun z => absurd hfest z⟩
      · have hci : k ≤ i := by
          rcases Nat.lt_or_ge i k with q | q
          · exact absurd z (nI_gle q (by omega))
          · exact q
        rw [pk_sub hci]
        exact fin _ hci rfl
      · have hci : i < k := by
          rcases Nat.lt_or_ge i k with q | q
          · exact q
          · exact absurd (nI_le q (by omega)) z
        rw [psalmD h8 hH hx hy h28 hrow (by omega), ← a2, if_pos hci, ← a3' i hci]
        rw [if_pos (by omega)] at hq
        exact hq
  · rw [Int32.lt_iff_toInt_lt]
    rw [Int32.le_iff_toInt_le] at hp
    omega
