/-! The law out of pairs of calls: one of the choir's class and one of the reference, of one answer -/
def Pair (zs : List Int32) (R : Wd → Prop) (hB mB hM mM : Nat) (as : List AV) : Prop := ∀ w, R w → Ew zs hB mB (.inr (.inl (some 0)) :: as) w (fun v w1 => ∃ r : Int32, v = some (.inl r) ∧ Ew zs hM mM (.inr (.inl (some 155)) :: as) w1 (fun v2 w2 => v2 = some (.inl r) ∧ R w2))
theorem law_k {L k : Nat} (hL : L ≤ 3584) (hk : k ≤ L + 7) (h : ¬ (Int32.ofNat L - 7 < nI k)) : k + 7 ≤ L := by
  have e7 : (7 : Int32) = nI 7 := by decide
  have h1 : (nI L - nI 7).toInt = (L : Int) - 7 := pk_sub_toInt (by omega) (by omega)
  have h2 : (nI k).toInt = (k : Int) := nI_toInt (by omega)
  rw [Int32.lt_iff_toInt_lt, e7] at h
  have h3 : (Int32.ofNat L - nI 7).toInt = (L : Int) - 7 := h1
  omega
set_option maxHeartbeats 4000000 in
theorem law_loop {zs : List Int32} {R : Wd → Prop} (hL : zs.length ≤ 3584) (p_year : ∀ a0 a1 : Int32, Pair zs R 3 m_Bk_year 4 m_Md_year [.inl a0, .inl a1]) (p_day : ∀ a0 a1 a2 : Int32, Pair zs R 3 m_Bk_day 3 m_Md_day [.inl a0, .inl a1, .inl a2]) (p_season : ∀ a0 a1 a2 a3 a4 : Int32, Pair zs R 3 m_Bk_season 2 m_Md_season [.inl a0, .inl a1, .inl a2, .inl a3, .inl a4]) (p_dated : ∀ a0 a1 a2 a3 a4 : Int32, Pair zs R 3 m_Bk_dated 2 m_Md_dated [.inl a0, .inl a1, .inl a2, .inl a3, .inl a4]) (p_feast : ∀ a0 a1 a2 a3 a4 : Int32, Pair zs R 6 m_Bk_feast 3 m_Md_feast [.inl a0, .inl a1, .inl a2, .inl a3, .inl a4]) (p_around : ∀ a0 a1 a2 : Int32, (a2 = 0 ∨ a2 = 1) → Pair zs R 2 m_Bk_around 1 m_Md_around [.inl a0, .inl a1, .inl a2]) (p_raise : ∀ a0 a1 a2 : Int32, Pair zs R 3 m_Bk_raise 1 m_Md_raise [.inl a0, .inl a1, .inl a2]) (p_office : ∀ a0 a1 a2 : Int32, Pair zs R 7 m_Bk_office 6 m_Md_office [.inl a0, .inl a1, .inl a2]) (p_also : ∀ a0 a1 a2 a3 : Int32, Pair zs R 7 m_Bk_also 6 m_Md_also [.inl a0, .inl a1, .inl a2, .inl a3]) (p_kept : ∀ a0 a1 : Int32, Pair zs R 7 m_Bk_kept 7 m_Md_kept [.inl a0, .inl a1]) (p_tally : ∀ a0 a1 a2 : Int32, Pair zs R 7 m_Bk_tally 7 m_Md_tally [.inl a0, .inl a1, .inl a2]) (p_verses : ∀ a0 a1 : Int32, Pair zs R 3 m_Bk_verses 1 m_Md_verses [.inl a0, .inl a1]) (p_hours : ∀ a0 : Int32, Pair zs R 3 m_Bk_hours 1 m_Md_hours [.inl a0]) (p_fix : ∀ a0 a1 : Int32, Pair zs R 3 m_Bk_fix 1 m_Md_fix [.inl a0, .inl a1]) (p_festal : ∀ a0 a1 : Int32, Pair zs R 3 m_Bk_festal 1 m_Md_festal [.inl a0, .inl a1]) (p_limit : ∀ a0 : Int32, Pair zs R 2 m_Bk_limit 1 m_Md_limit [.inl a0]) (p_dealt : ∀ a0 a1 a2 : Int32, Pair zs R 6 m_Bk_dealt 2 m_Md_dealt [.inl a0, .inl a1, .inl a2]) (p_sung : ∀ a0 a1 a2 a3 : Int32, Pair zs R 7 m_Bk_sung 6 m_Md_sung [.inl a0, .inl a1, .inl a2, .inl a3]) (p_times : ∀ a0 a1 a2 a3 : Int32, Pair zs R 7 m_Bk_times 6 m_Md_times [.inl a0, .inl a1, .inl a2, .inl a3]) (p_tenor : ∀ a0 a1 : Int32, Pair zs R 3 m_Bk_tenor 2 m_Md_tenor [.inl a0, .inl a1]) (p_note : ∀ a0 a1 a2 : Int32, Pair zs R 3 m_Bk_note 2 m_Md_note [.inl a0, .inl a1, .inl a2]) (p_accent : ∀ a0 a1 a2 a3 a4 a5 : Int32, Pair zs R 3 m_Bk_accent 2 m_Md_accent [.inl a0, .inl a1, .inl a2, .inl a3, .inl a4, .inl a5]) (p_accents : ∀ a0 a1 a2 : Int32, Pair zs R 2 m_Bk_accents 1 m_Md_accents [.inl a0, .inl a1, .inl a2]) (p_syllable : ∀ a0 a1 : Int32, (a1 = 0 ∨ a1 = 1) → Pair zs R 1 m_Bk_syllable 1 m_Md_syllable [.inl a0, .inl a1]) (p_part : ∀ a0 : Int32, Pair zs R 1 m_Bk_part 1 m_Md_part [.inl a0]) (p_sing : ∀ a0 a1 a2 : Int32, Pair zs R 3 m_Bk_sing 1 m_Md_sing [.inl a0, .inl a1, .inl a2]) (p_monk : ∀ a0 : Int32, Pair zs R 2 m_Bk_monk 1 m_Md_monk [.inl a0]) (p_absence : ∀ a0 a1 a2 a3 : Int32, Pair zs R 3 m_Bk_absence 3 m_Md_absence [.inl a0, .inl a1, .inl a2, .inl a3]) (p_roster : ∀ a0 a1 a2 : Int32, Pair zs R 7 m_Bk_roster 6 m_Md_roster [.inl a0, .inl a1, .inl a2]) (p_turn : ∀ a0 a1 a2 : Int32, Pair zs R 2 m_Bk_turn 1 m_Md_turn [.inl a0, .inl a1, .inl a2]) (p_had : ∀ a0 a1 : Int32, Pair zs R 2 m_Bk_had 1 m_Md_had [.inl a0, .inl a1]) : ∀ (n k : Nat) (w : Wd), zs.length + 7 ≤ k + n → k ≤ zs.length + 7 → R w → Gw zs 8 m_Law_law 18 [some (.inr (.inr 0)), some (.inr (.inl (some 0))), some (.inr (.inl (some 155))), some (.inl (nI k))] [] w (fun v _ => v = some (.inl 1)) := by
  intro n
  induction n using Nat.strongRecOn with
  | ind n ih =>
  intro k w hn hk hR
  refine sg_Law_law_18 ⟨fun c => rfl, fun c => ?_⟩
  have hk2 := law_k hL hk c
  have b0 : vp_in (nI k) zs.length := vp_in_nI (by omega) (by omega)
  have b1 : vp_in (nI k + 1) zs.length := by rw [show (nI k + 1 : Int32) = nI (k + 1) from nI_add k 1]; exact vp_in_nI (by omega) (by omega)
  have b2 : vp_in (nI k + 2) zs.length := by rw [show (nI k + 2 : Int32) = nI (k + 2) from nI_add k 2]; exact vp_in_nI (by omega) (by omega)
  have b3 : vp_in (nI k + 3) zs.length := by rw [show (nI k + 3 : Int32) = nI (k + 3) from nI_add k 3]; exact vp_in_nI (by omega) (by omega)
  have b4 : vp_in (nI k + 4) zs.length := by rw [show (nI k + 4 : Int32) = nI (k + 4) from nI_add k 4]; exact vp_in_nI (by omega) (by omega)
  have b5 : vp_in (nI k + 5) zs.length := by rw [show (nI k + 5 : Int32) = nI (k + 5) from nI_add k 5]; exact vp_in_nI (by omega) (by omega)
  have b6 : vp_in (nI k + 6) zs.length := by rw [show (nI k + 6 : Int32) = nI (k + 6) from nI_add k 6]; exact vp_in_nI (by omega) (by omega)
  have e7 : (nI k + 7 : Int32) = nI (k + 7) := nI_add k 7
  cases n with
  | zero => exact absurd hn (by omega)
  | succ n =>
  have ih := ih n (by omega)
  refine ⟨b0, ?_⟩
  refine ⟨fun c0 => ?_, fun c1 => ?_, fun c2 => ?_, fun c3 => ?_, fun c4 => ?_, fun c5 => ?_, fun c6 => ?_, fun c7 => ?_, fun c8 => ?_, fun c9 => ?_, fun c10 => ?_, fun c11 => ?_, fun c12 => ?_, fun c13 => ?_, fun c14 => ?_, fun c15 => ?_, fun c16 => ?_, fun c17 => ?_, fun c18 => ?_, fun c19 => ?_, fun c20 => ?_, fun c21 => ?_, fun c22 => ?_, fun c23 => ?_, fun c24 => ?_, fun c25 => ?_, fun c26 => ?_, fun c27 => ?_, fun c28 => ?_, fun c29 => ?_, fun c30 => ?_, fun _ _ _ _ _ _ _ _ _ _ _ _ _ _ _ _ _ _ _ _ _ _ _ _ _ _ _ _ _ _ _ => ?_⟩
  ·
    refine ⟨b1, ?_⟩
    refine ⟨b2, ?_⟩
    refine (p_year _ _ _ hR).mono ?_
    intro v w1 hv
    obtain ⟨r, hv, h2⟩ := hv
    refine ⟨r, hv, ?_⟩
    refine ⟨b1, ?_⟩
    refine ⟨b2, ?_⟩
    refine h2.mono ?_
    intro v2 w2 hv2
    obtain ⟨hv2, hR2⟩ := hv2
    refine ⟨r, hv2, fun _ => ?_, fun c => absurd rfl c⟩
    rw [e7]
    exact ih (k + 7) w2 (by omega) (by omega) hR2
  ·
    refine ⟨b1, ?_⟩
    refine ⟨b2, ?_⟩
    refine ⟨b3, ?_⟩
    refine (p_day _ _ _ _ hR).mono ?_
    intro v w1 hv
    obtain ⟨r, hv, h2⟩ := hv
    refine ⟨r, hv, ?_⟩
    refine ⟨b1, ?_⟩
    refine ⟨b2, ?_⟩
    refine ⟨b3, ?_⟩
    refine h2.mono ?_
    intro v2 w2 hv2
    obtain ⟨hv2, hR2⟩ := hv2
    refine ⟨r, hv2, fun _ => ?_, fun c => absurd rfl c⟩
    rw [e7]
    exact ih (k + 7) w2 (by omega) (by omega) hR2
  ·
    refine ⟨b1, ?_⟩
    refine ⟨b2, ?_⟩
    refine ⟨b3, ?_⟩
    refine ⟨b4, ?_⟩
    refine ⟨b5, ?_⟩
    refine (p_season _ _ _ _ _ _ hR).mono ?_
    intro v w1 hv
    obtain ⟨r, hv, h2⟩ := hv
    refine ⟨r, hv, ?_⟩
    refine ⟨b1, ?_⟩
    refine ⟨b2, ?_⟩
    refine ⟨b3, ?_⟩
    refine ⟨b4, ?_⟩
    refine ⟨b5, ?_⟩
    refine h2.mono ?_
    intro v2 w2 hv2
    obtain ⟨hv2, hR2⟩ := hv2
    refine ⟨r, hv2, fun _ => ?_, fun c => absurd rfl c⟩
    rw [e7]
    exact ih (k + 7) w2 (by omega) (by omega) hR2
  ·
    refine ⟨b1, ?_⟩
    refine ⟨b2, ?_⟩
    refine ⟨b3, ?_⟩
    refine ⟨b4, ?_⟩
    refine ⟨b5, ?_⟩
    refine (p_dated _ _ _ _ _ _ hR).mono ?_
    intro v w1 hv
    obtain ⟨r, hv, h2⟩ := hv
    refine ⟨r, hv, ?_⟩
    refine ⟨b1, ?_⟩
    refine ⟨b2, ?_⟩
    refine ⟨b3, ?_⟩
    refine ⟨b4, ?_⟩
    refine ⟨b5, ?_⟩
    refine h2.mono ?_
    intro v2 w2 hv2
    obtain ⟨hv2, hR2⟩ := hv2
    refine ⟨r, hv2, fun _ => ?_, fun c => absurd rfl c⟩
    rw [e7]
    exact ih (k + 7) w2 (by omega) (by omega) hR2
  ·
    refine ⟨b1, ?_⟩
    refine ⟨b2, ?_⟩
    refine ⟨b3, ?_⟩
    refine ⟨b4, ?_⟩
    refine ⟨b5, ?_⟩
    refine (p_feast _ _ _ _ _ _ hR).mono ?_
    intro v w1 hv
    obtain ⟨r, hv, h2⟩ := hv
    refine ⟨r, hv, ?_⟩
    refine ⟨b1, ?_⟩
    refine ⟨b2, ?_⟩
    refine ⟨b3, ?_⟩
    refine ⟨b4, ?_⟩
    refine ⟨b5, ?_⟩
    refine h2.mono ?_
    intro v2 w2 hv2
    obtain ⟨hv2, hR2⟩ := hv2
    refine ⟨r, hv2, fun _ => ?_, fun c => absurd rfl c⟩
    rw [e7]
    exact ih (k + 7) w2 (by omega) (by omega) hR2
  ·
    refine ⟨b1, ?_⟩
    refine ⟨b2, ?_⟩
    refine ⟨b3, ?_⟩
    refine ⟨fun c33 => ?_, fun c33 => ?_⟩
    ·
      refine (p_around _ _ _ (Or.inl rfl) _ hR).mono ?_
      intro v w1 hv
      obtain ⟨r, hv, h2⟩ := hv
      refine ⟨r, hv, ?_⟩
      refine ⟨b1, ?_⟩
      refine ⟨b2, ?_⟩
      refine ⟨b3, ?_⟩
      refine h2.mono ?_
      intro v2 w2 hv2
      obtain ⟨hv2, hR2⟩ := hv2
      refine ⟨r, hv2, fun _ => ?_, fun c => absurd rfl c⟩
      rw [e7]
      exact ih (k + 7) w2 (by omega) (by omega) hR2
    ·
      refine (p_around _ _ _ (Or.inr rfl) _ hR).mono ?_
      intro v w1 hv
      obtain ⟨r, hv, h2⟩ := hv
      refine ⟨r, hv, ?_⟩
      refine ⟨b1, ?_⟩
      refine ⟨b2, ?_⟩
      refine ⟨b3, ?_⟩
      refine h2.mono ?_
      intro v2 w2 hv2
      obtain ⟨hv2, hR2⟩ := hv2
      refine ⟨r, hv2, fun _ => ?_, fun c => absurd rfl c⟩
      rw [e7]
      exact ih (k + 7) w2 (by omega) (by omega) hR2
  ·
    refine ⟨b1, ?_⟩
    refine ⟨b2, ?_⟩
    refine ⟨b3, ?_⟩
    refine (p_raise _ _ _ _ hR).mono ?_
    intro v w1 hv
    obtain ⟨r, hv, h2⟩ := hv
    refine ⟨r, hv, ?_⟩
    refine ⟨b1, ?_⟩
    refine ⟨b2, ?_⟩
    refine ⟨b3, ?_⟩
    refine h2.mono ?_
    intro v2 w2 hv2
    obtain ⟨hv2, hR2⟩ := hv2
    refine ⟨r, hv2, fun _ => ?_, fun c => absurd rfl c⟩
    rw [e7]
    exact ih (k + 7) w2 (by omega) (by omega) hR2
  ·
    refine ⟨b1, ?_⟩
    refine ⟨b2, ?_⟩
    refine ⟨b3, ?_⟩
    refine (p_office _ _ _ _ hR).mono ?_
    intro v w1 hv
    obtain ⟨r, hv, h2⟩ := hv
    refine ⟨r, hv, ?_⟩
    refine ⟨b1, ?_⟩
    refine ⟨b2, ?_⟩
    refine ⟨b3, ?_⟩
    refine h2.mono ?_
    intro v2 w2 hv2
    obtain ⟨hv2, hR2⟩ := hv2
    refine ⟨r, hv2, fun _ => ?_, fun c => absurd rfl c⟩
    rw [e7]
    exact ih (k + 7) w2 (by omega) (by omega) hR2
  ·
    refine ⟨b1, ?_⟩
    refine ⟨b2, ?_⟩
    refine ⟨b3, ?_⟩
    refine ⟨b4, ?_⟩
    refine (p_also _ _ _ _ _ hR).mono ?_
    intro v w1 hv
    obtain ⟨r, hv, h2⟩ := hv
    refine ⟨r, hv, ?_⟩
    refine ⟨b1, ?_⟩
    refine ⟨b2, ?_⟩
    refine ⟨b3, ?_⟩
    refine ⟨b4, ?_⟩
    refine h2.mono ?_
    intro v2 w2 hv2
    obtain ⟨hv2, hR2⟩ := hv2
    refine ⟨r, hv2, fun _ => ?_, fun c => absurd rfl c⟩
    rw [e7]
    exact ih (k + 7) w2 (by omega) (by omega) hR2
  ·
    refine ⟨b1, ?_⟩
    refine ⟨b2, ?_⟩
    refine (p_kept _ _ _ hR).mono ?_
    intro v w1 hv
    obtain ⟨r, hv, h2⟩ := hv
    refine ⟨r, hv, ?_⟩
    refine ⟨b1, ?_⟩
    refine ⟨b2, ?_⟩
    refine h2.mono ?_
    intro v2 w2 hv2
    obtain ⟨hv2, hR2⟩ := hv2
    refine ⟨r, hv2, fun _ => ?_, fun c => absurd rfl c⟩
    rw [e7]
    exact ih (k + 7) w2 (by omega) (by omega) hR2
  ·
    refine ⟨b1, ?_⟩
    refine ⟨b2, ?_⟩
    refine ⟨b3, ?_⟩
    refine (p_tally _ _ _ _ hR).mono ?_
    intro v w1 hv
    obtain ⟨r, hv, h2⟩ := hv
    refine ⟨r, hv, ?_⟩
    refine ⟨b1, ?_⟩
    refine ⟨b2, ?_⟩
    refine ⟨b3, ?_⟩
    refine h2.mono ?_
    intro v2 w2 hv2
    obtain ⟨hv2, hR2⟩ := hv2
    refine ⟨r, hv2, fun _ => ?_, fun c => absurd rfl c⟩
    rw [e7]
    exact ih (k + 7) w2 (by omega) (by omega) hR2
  ·
    refine ⟨b1, ?_⟩
    refine ⟨b2, ?_⟩
    refine (p_verses _ _ _ hR).mono ?_
    intro v w1 hv
    obtain ⟨r, hv, h2⟩ := hv
    refine ⟨r, hv, ?_⟩
    refine ⟨b1, ?_⟩
    refine ⟨b2, ?_⟩
    refine h2.mono ?_
    intro v2 w2 hv2
    obtain ⟨hv2, hR2⟩ := hv2
    refine ⟨r, hv2, fun _ => ?_, fun c => absurd rfl c⟩
    rw [e7]
    exact ih (k + 7) w2 (by omega) (by omega) hR2
  ·
    refine ⟨b1, ?_⟩
    refine (p_hours _ _ hR).mono ?_
    intro v w1 hv
    obtain ⟨r, hv, h2⟩ := hv
    refine ⟨r, hv, ?_⟩
    refine ⟨b1, ?_⟩
    refine h2.mono ?_
    intro v2 w2 hv2
    obtain ⟨hv2, hR2⟩ := hv2
    refine ⟨r, hv2, fun _ => ?_, fun c => absurd rfl c⟩
    rw [e7]
    exact ih (k + 7) w2 (by omega) (by omega) hR2
  ·
    refine ⟨b1, ?_⟩
    refine ⟨b2, ?_⟩
    refine (p_fix _ _ _ hR).mono ?_
    intro v w1 hv
    obtain ⟨r, hv, h2⟩ := hv
    refine ⟨r, hv, ?_⟩
    refine ⟨b1, ?_⟩
    refine ⟨b2, ?_⟩
    refine h2.mono ?_
    intro v2 w2 hv2
    obtain ⟨hv2, hR2⟩ := hv2
    refine ⟨r, hv2, fun _ => ?_, fun c => absurd rfl c⟩
    rw [e7]
    exact ih (k + 7) w2 (by omega) (by omega) hR2
  ·
    refine ⟨b1, ?_⟩
    refine ⟨b2, ?_⟩
    refine (p_festal _ _ _ hR).mono ?_
    intro v w1 hv
    obtain ⟨r, hv, h2⟩ := hv
    refine ⟨r, hv, ?_⟩
    refine ⟨b1, ?_⟩
    refine ⟨b2, ?_⟩
    refine h2.mono ?_
    intro v2 w2 hv2
    obtain ⟨hv2, hR2⟩ := hv2
    refine ⟨r, hv2, fun _ => ?_, fun c => absurd rfl c⟩
    rw [e7]
    exact ih (k + 7) w2 (by omega) (by omega) hR2
  ·
    refine ⟨b1, ?_⟩
    refine (p_limit _ _ hR).mono ?_
    intro v w1 hv
    obtain ⟨r, hv, h2⟩ := hv
    refine ⟨r, hv, ?_⟩
    refine ⟨b1, ?_⟩
    refine h2.mono ?_
    intro v2 w2 hv2
    obtain ⟨hv2, hR2⟩ := hv2
    refine ⟨r, hv2, fun _ => ?_, fun c => absurd rfl c⟩
    rw [e7]
    exact ih (k + 7) w2 (by omega) (by omega) hR2
  ·
    refine ⟨b1, ?_⟩
    refine ⟨b2, ?_⟩
    refine ⟨b3, ?_⟩
    refine (p_dealt _ _ _ _ hR).mono ?_
    intro v w1 hv
    obtain ⟨r, hv, h2⟩ := hv
    refine ⟨r, hv, ?_⟩
    refine ⟨b1, ?_⟩
    refine ⟨b2, ?_⟩
    refine ⟨b3, ?_⟩
    refine h2.mono ?_
    intro v2 w2 hv2
    obtain ⟨hv2, hR2⟩ := hv2
    refine ⟨r, hv2, fun _ => ?_, fun c => absurd rfl c⟩
    rw [e7]
    exact ih (k + 7) w2 (by omega) (by omega) hR2
  ·
    refine ⟨b1, ?_⟩
    refine ⟨b2, ?_⟩
    refine ⟨b3, ?_⟩
    refine ⟨b4, ?_⟩
    refine (p_sung _ _ _ _ _ hR).mono ?_
    intro v w1 hv
    obtain ⟨r, hv, h2⟩ := hv
    refine ⟨r, hv, ?_⟩
    refine ⟨b1, ?_⟩
    refine ⟨b2, ?_⟩
    refine ⟨b3, ?_⟩
    refine ⟨b4, ?_⟩
    refine h2.mono ?_
    intro v2 w2 hv2
    obtain ⟨hv2, hR2⟩ := hv2
    refine ⟨r, hv2, fun _ => ?_, fun c => absurd rfl c⟩
    rw [e7]
    exact ih (k + 7) w2 (by omega) (by omega) hR2
  ·
    refine ⟨b1, ?_⟩
    refine ⟨b2, ?_⟩
    refine ⟨b3, ?_⟩
    refine ⟨b4, ?_⟩
    refine (p_times _ _ _ _ _ hR).mono ?_
    intro v w1 hv
    obtain ⟨r, hv, h2⟩ := hv
    refine ⟨r, hv, ?_⟩
    refine ⟨b1, ?_⟩
    refine ⟨b2, ?_⟩
    refine ⟨b3, ?_⟩
    refine ⟨b4, ?_⟩
    refine h2.mono ?_
    intro v2 w2 hv2
    obtain ⟨hv2, hR2⟩ := hv2
    refine ⟨r, hv2, fun _ => ?_, fun c => absurd rfl c⟩
    rw [e7]
    exact ih (k + 7) w2 (by omega) (by omega) hR2
  ·
    refine ⟨b1, ?_⟩
    refine ⟨b2, ?_⟩
    refine (p_tenor _ _ _ hR).mono ?_
    intro v w1 hv
    obtain ⟨r, hv, h2⟩ := hv
    refine ⟨r, hv, ?_⟩
    refine ⟨b1, ?_⟩
    refine ⟨b2, ?_⟩
    refine h2.mono ?_
    intro v2 w2 hv2
    obtain ⟨hv2, hR2⟩ := hv2
    refine ⟨r, hv2, fun _ => ?_, fun c => absurd rfl c⟩
    rw [e7]
    exact ih (k + 7) w2 (by omega) (by omega) hR2
  ·
    refine ⟨b1, ?_⟩
    refine ⟨b2, ?_⟩
    refine ⟨b3, ?_⟩
    refine (p_note _ _ _ _ hR).mono ?_
    intro v w1 hv
    obtain ⟨r, hv, h2⟩ := hv
    refine ⟨r, hv, ?_⟩
    refine ⟨b1, ?_⟩
    refine ⟨b2, ?_⟩
    refine ⟨b3, ?_⟩
    refine h2.mono ?_
    intro v2 w2 hv2
    obtain ⟨hv2, hR2⟩ := hv2
    refine ⟨r, hv2, fun _ => ?_, fun c => absurd rfl c⟩
    rw [e7]
    exact ih (k + 7) w2 (by omega) (by omega) hR2
  ·
    refine ⟨b1, ?_⟩
    refine ⟨b2, ?_⟩
    refine ⟨b3, ?_⟩
    refine ⟨b4, ?_⟩
    refine ⟨b5, ?_⟩
    refine ⟨b6, ?_⟩
    refine (p_accent _ _ _ _ _ _ _ hR).mono ?_
    intro v w1 hv
    obtain ⟨r, hv, h2⟩ := hv
    refine ⟨r, hv, ?_⟩
    refine ⟨b1, ?_⟩
    refine ⟨b2, ?_⟩
    refine ⟨b3, ?_⟩
    refine ⟨b4, ?_⟩
    refine ⟨b5, ?_⟩
    refine ⟨b6, ?_⟩
    refine h2.mono ?_
    intro v2 w2 hv2
    obtain ⟨hv2, hR2⟩ := hv2
    refine ⟨r, hv2, fun _ => ?_, fun c => absurd rfl c⟩
    rw [e7]
    exact ih (k + 7) w2 (by omega) (by omega) hR2
  ·
    refine ⟨b1, ?_⟩
    refine ⟨b2, ?_⟩
    refine ⟨b3, ?_⟩
    refine (p_accents _ _ _ _ hR).mono ?_
    intro v w1 hv
    obtain ⟨r, hv, h2⟩ := hv
    refine ⟨r, hv, ?_⟩
    refine ⟨b1, ?_⟩
    refine ⟨b2, ?_⟩
    refine ⟨b3, ?_⟩
    refine h2.mono ?_
    intro v2 w2 hv2
    obtain ⟨hv2, hR2⟩ := hv2
    refine ⟨r, hv2, fun _ => ?_, fun c => absurd rfl c⟩
    rw [e7]
    exact ih (k + 7) w2 (by omega) (by omega) hR2
  ·
    refine ⟨b1, ?_⟩
    refine ⟨b2, ?_⟩
    refine ⟨fun c147 => ?_, fun c147 => ?_⟩
    ·
      refine (p_syllable _ _ (Or.inl rfl) _ hR).mono ?_
      intro v w1 hv
      obtain ⟨r, hv, h2⟩ := hv
      refine ⟨r, hv, ?_⟩
      refine ⟨b1, ?_⟩
      refine ⟨b2, ?_⟩
      refine h2.mono ?_
      intro v2 w2 hv2
      obtain ⟨hv2, hR2⟩ := hv2
      refine ⟨r, hv2, fun _ => ?_, fun c => absurd rfl c⟩
      rw [e7]
      exact ih (k + 7) w2 (by omega) (by omega) hR2
    ·
      refine (p_syllable _ _ (Or.inr rfl) _ hR).mono ?_
      intro v w1 hv
      obtain ⟨r, hv, h2⟩ := hv
      refine ⟨r, hv, ?_⟩
      refine ⟨b1, ?_⟩
      refine ⟨b2, ?_⟩
      refine h2.mono ?_
      intro v2 w2 hv2
      obtain ⟨hv2, hR2⟩ := hv2
      refine ⟨r, hv2, fun _ => ?_, fun c => absurd rfl c⟩
      rw [e7]
      exact ih (k + 7) w2 (by omega) (by omega) hR2
  ·
    refine ⟨b1, ?_⟩
    refine (p_part _ _ hR).mono ?_
    intro v w1 hv
    obtain ⟨r, hv, h2⟩ := hv
    refine ⟨r, hv, ?_⟩
    refine ⟨b1, ?_⟩
    refine h2.mono ?_
    intro v2 w2 hv2
    obtain ⟨hv2, hR2⟩ := hv2
    refine ⟨r, hv2, fun _ => ?_, fun c => absurd rfl c⟩
    rw [e7]
    exact ih (k + 7) w2 (by omega) (by omega) hR2
  ·
    refine ⟨b1, ?_⟩
    refine ⟨b2, ?_⟩
    refine ⟨b3, ?_⟩
    refine (p_sing _ _ _ _ hR).mono ?_
    intro v w1 hv
    obtain ⟨r, hv, h2⟩ := hv
    refine ⟨r, hv, ?_⟩
    refine ⟨b1, ?_⟩
    refine ⟨b2, ?_⟩
    refine ⟨b3, ?_⟩
    refine h2.mono ?_
    intro v2 w2 hv2
    obtain ⟨hv2, hR2⟩ := hv2
    refine ⟨r, hv2, fun _ => ?_, fun c => absurd rfl c⟩
    rw [e7]
    exact ih (k + 7) w2 (by omega) (by omega) hR2
  ·
    refine ⟨b1, ?_⟩
    refine (p_monk _ _ hR).mono ?_
    intro v w1 hv
    obtain ⟨r, hv, h2⟩ := hv
    refine ⟨r, hv, ?_⟩
    refine ⟨b1, ?_⟩
    refine h2.mono ?_
    intro v2 w2 hv2
    obtain ⟨hv2, hR2⟩ := hv2
    refine ⟨r, hv2, fun _ => ?_, fun c => absurd rfl c⟩
    rw [e7]
    exact ih (k + 7) w2 (by omega) (by omega) hR2
  ·
    refine ⟨b1, ?_⟩
    refine ⟨b2, ?_⟩
    refine ⟨b3, ?_⟩
    refine ⟨b4, ?_⟩
    refine (p_absence _ _ _ _ _ hR).mono ?_
    intro v w1 hv
    obtain ⟨r, hv, h2⟩ := hv
    refine ⟨r, hv, ?_⟩
    refine ⟨b1, ?_⟩
    refine ⟨b2, ?_⟩
    refine ⟨b3, ?_⟩
    refine ⟨b4, ?_⟩
    refine h2.mono ?_
    intro v2 w2 hv2
    obtain ⟨hv2, hR2⟩ := hv2
    refine ⟨r, hv2, fun _ => ?_, fun c => absurd rfl c⟩
    rw [e7]
    exact ih (k + 7) w2 (by omega) (by omega) hR2
  ·
    refine ⟨b1, ?_⟩
    refine ⟨b2, ?_⟩
    refine ⟨b3, ?_⟩
    refine (p_roster _ _ _ _ hR).mono ?_
    intro v w1 hv
    obtain ⟨r, hv, h2⟩ := hv
    refine ⟨r, hv, ?_⟩
    refine ⟨b1, ?_⟩
    refine ⟨b2, ?_⟩
    refine ⟨b3, ?_⟩
    refine h2.mono ?_
    intro v2 w2 hv2
    obtain ⟨hv2, hR2⟩ := hv2
    refine ⟨r, hv2, fun _ => ?_, fun c => absurd rfl c⟩
    rw [e7]
    exact ih (k + 7) w2 (by omega) (by omega) hR2
  ·
    refine ⟨b1, ?_⟩
    refine ⟨b2, ?_⟩
    refine ⟨b3, ?_⟩
    refine (p_turn _ _ _ _ hR).mono ?_
    intro v w1 hv
    obtain ⟨r, hv, h2⟩ := hv
    refine ⟨r, hv, ?_⟩
    refine ⟨b1, ?_⟩
    refine ⟨b2, ?_⟩
    refine ⟨b3, ?_⟩
    refine h2.mono ?_
    intro v2 w2 hv2
    obtain ⟨hv2, hR2⟩ := hv2
    refine ⟨r, hv2, fun _ => ?_, fun c => absurd rfl c⟩
    rw [e7]
    exact ih (k + 7) w2 (by omega) (by omega) hR2
  ·
    refine ⟨b1, ?_⟩
    refine ⟨b2, ?_⟩
    refine (p_had _ _ _ hR).mono ?_
    intro v w1 hv
    obtain ⟨r, hv, h2⟩ := hv
    refine ⟨r, hv, ?_⟩
    refine ⟨b1, ?_⟩
    refine ⟨b2, ?_⟩
    refine h2.mono ?_
    intro v2 w2 hv2
    obtain ⟨hv2, hR2⟩ := hv2
    refine ⟨r, hv2, fun _ => ?_, fun c => absurd rfl c⟩
    rw [e7]
    exact ih (k + 7) w2 (by omega) (by omega) hR2
  ·
    rw [e7]
    exact ih (k + 7) w (by omega) (by omega) hR
