/-! The turns as they were dealt -/
def plc (r : Nat) : Nat := if r = 0 then 0 else if r = 1 then 1 else 5
def RR (w : Wd) : Prop := (∃ d, d ≤ 60 ∧ w 150 4 = nI d ∧ w 155 59 = nI d ∧ ∀ k, k < d → ∀ r, r < 3 → ∃ n, 1 ≤ n ∧ plc r + n ≤ 11 ∧ f_Ros_manySeats (nI r) (w 152 k) = nI n ∧ w 202 (3 * k + r) = nI n ∧ ∀ i, i < n → w 151 (11 * k + plc r + i) = w 203 (11 * k + plc r + i)) ∧ ∀ k, k < 72 → w 153 k = w 204 k ∧ w 154 k = w 205 k
def PRo (c k : Nat) : Prop := (150 ≤ c ∧ c ≤ 154) ∨ (202 ≤ c ∧ c ≤ 205) ∨ (c = 155 ∧ k = 59)
theorem RR_cg {w w' : Wd} (e : ∀ c k, PRo c k → w' c k = w c k) (h : RR w) : RR w' := by
  obtain ⟨⟨d, hd, h1, h2, h3⟩, h4⟩ := h
  refine ⟨⟨d, hd, ?_, ?_, fun k hk r hr => ?_⟩, fun k hk => ?_⟩
  · rw [e _ _ (by unfold PRo; omega)]; exact h1
  · rw [e _ _ (by unfold PRo; omega)]; exact h2
  · obtain ⟨n, n1, n2, n3, n4, n5⟩ := h3 k hk r hr
    refine ⟨n, n1, n2, ?_, ?_, fun i hi => ?_⟩
    · rw [e _ _ (by unfold PRo; omega)]; exact n3
    · rw [e _ _ (by unfold PRo; omega)]; exact n4
    · rw [e _ _ (by unfold PRo; omega), e 203 _ (by unfold PRo; omega)]; exact n5 i hi
  · rw [e 153 _ (by unfold PRo; omega), e 154 _ (by unfold PRo; omega), e 204 _ (by unfold PRo; omega), e 205 _ (by unfold PRo; omega)]
    exact h4 k hk
theorem seat_nI {k r i : Nat} (hr : r < 3) : f_Ros_seatOf (nI k) (nI r) (nI i) = nI (11 * k + plc r + i) := by
  have e : ∀ p : Nat, (nI k * 11 + nI p + nI i : Int32) = nI (11 * k + p + i) := fun p => by
    rw [show (11 : Int32) = nI 11 from rfl, pk_mul, nI_add, nI_add]; congr 1; omega
  rcases (show r = 0 ∨ r = 1 ∨ r = 2 by omega) with rfl | rfl | rfl
  · exact e 0
  · exact e 1
  · exact e 5
theorem plc_nI {r : Nat} (hr : r < 3) : f_Md_placeOf (nI r) = nI (plc r) := by
  rcases (show r = 0 ∨ r = 1 ∨ r = 2 by omega) with rfl | rfl | rfl <;> rfl
theorem role_c (v : Int32) : (f_Md_in v 0 2 = 0 ∧ ∀ x, f_Ros_manySeats v x = 0) ∨ ∃ r, r < 3 ∧ v = nI r ∧ f_Md_in v 0 2 = 1 := by
  rcases in_c (v := v) (lo := 0) (hi := 2) 0 2 rfl rfl (by omega) (by omega) with ⟨e, h⟩ | ⟨r, _, r2, rfl, e⟩
  · refine Or.inl ⟨e, fun x => ?_⟩
    unfold f_Ros_manySeats
    have n0 : ¬ v = 0 := fun q => by subst q; revert e; decide
    have n1 : ¬ v = 1 := fun q => by subst q; revert e; decide
    have n2 : ¬ v = 2 := fun q => by subst q; revert e; decide
    rw [if_neg n0, if_neg n1, if_neg n2]
  · exact Or.inr ⟨r, by omega, rfl, e⟩
theorem par_turn {zs : List Int32} (a0 a1 a2 : Int32) : Par zs 2 m_Bk_turn 1 m_Md_turn [.inl a0, .inl a1, .inl a2] RR PRo := by
  intro w hR
  refine ev_Bk_turn ⟨_, rfl, ew_of k_Md_turn rfl (sg_Md_turn_0 ?_)⟩
  have hR0 := hR
  obtain ⟨⟨d, hd, h1, h2, h3⟩, h4⟩ := hR
  unfold f_Bk_turn f_Ros_monkAt
  rw [h1, h2]
  rcases in_cnt a0 (n := d) (by omega) with ⟨e0, h⟩ | ⟨k, hk, rfl, e0⟩
  · rw [if_out h]
    exact ⟨fun _ => ⟨rfl, hR0, off_rf⟩, fun c => absurd e0 c⟩
  rw [if_inn (m := nI d) (n := d) rfl hk (by omega), f_at_in (by omega) (by omega)]
  refine ⟨fun c => absurd c (in_n0 e0), fun _ => ?_⟩
  rcases role_c a1 with ⟨e1, hs⟩ | ⟨r, hr, rfl, e1⟩
  · rw [hs]
    refine ⟨fun _ => ⟨?_, hR0, off_rf⟩, fun c => absurd e1 c⟩
    by_cases c : a2 < 0
    · rw [if_pos c]
    · rw [if_neg c, if_neg c]
  obtain ⟨n, n1, n2, n3, n4, n5⟩ := h3 k hk r hr
  have e3 : (3 * nI k + nI r : Int32) = nI (3 * k + r) := by rw [show (3 : Int32) = nI 3 from rfl, pk_mul, nI_add]
  rw [n3, e3, nI_clampN (by omega), n4]
  refine ⟨fun c => absurd c (in_n0 e1), fun _ => ⟨vinN (by omega) (by omega), ?_⟩⟩
  have hp : plc r ≤ 5 := by
    rcases (show r = 0 ∨ r = 1 ∨ r = 2 by omega) with q | q | q <;> subst q <;> decide
  rcases in_cnt a2 (n := n) (by omega) with ⟨e2, h⟩ | ⟨i, hi, rfl, e2⟩
  · refine ⟨fun _ => ⟨?_, hR0, off_rf⟩, fun c => absurd e2 c⟩
    rcases h with h | h
    · rw [if_pos h]
    · by_cases c : a2 < 0
      · rw [if_pos c]
      · have c2 : ¬ a2 < nI n := fun q => by
          rw [Int32.lt_iff_toInt_lt] at q
          rw [Int32.le_iff_toInt_le] at h
          omega
        rw [if_neg c, if_neg c2]
  rw [if_neg (nI_pos (by omega)), if_pos (nI_lt hi (by omega)), seat_nI hr, f_at_in (by omega) (by omega), plc_nI hr]
  have e4 : (11 * nI k + nI (plc r) + nI i : Int32) = nI (11 * k + plc r + i) := by rw [show (11 : Int32) = nI 11 from rfl, pk_mul, nI_add, nI_add]
  rw [e4, nI_clampN (by omega), n5 i hi]
  exact ⟨fun c => absurd c (in_n0 e2), fun _ => ⟨vinN (by omega) (by omega), rfl, hR0, off_rf⟩⟩
theorem par_had {zs : List Int32} (a0 a1 : Int32) : Par zs 2 m_Bk_had 1 m_Md_had [.inl a0, .inl a1] (fun w => RC w ∧ RR w) PRo := by
  intro w ⟨hC, hR⟩
  refine ev_Bk_had ⟨_, rfl, ew_of k_Md_had rfl (sg_Md_had_0 ?_)⟩
  have hR0 := hR
  have hC0 := hC
  obtain ⟨⟨d, hd, h1, h2, h3⟩, h4⟩ := hR
  obtain ⟨n, m, a1', a2, a3, a4, a5, a6, a7, a8, a9⟩ := hC
  unfold f_Bk_had f_Ros_timesOf
  rw [h1, h2, a4, show f_Bk_within = f_Md_in from rfl]
  have fin : ∀ {r : Int32}, r = -1 → (some (.inl (-1)) : Option AV) = some (.inl r) ∧ (RC w ∧ RR w) ∧ ∀ c k, ¬ PRo c k → w c k = w c k := fun hr => ⟨by rw [hr], ⟨hC0, hR0⟩, off_rf⟩
  by_cases hd0 : d = 0
  · subst hd0
    refine ⟨fun _ => fin ?_, fun c => absurd (nI_le (a := 0) (b := 0) (by omega) (by omega)) c⟩
    split
    · rfl
    · rfl
  have dn : ¬ nI d = 0 := nI_ne (b := 0) (by omega) (by omega) hd0
  rw [if_neg dn]
  refine ⟨fun c => absurd c (nI_nle (by omega) (by omega)), fun _ => ?_⟩
  rcases in_cnt a0 (n := n) (by omega) with ⟨e0, h⟩ | ⟨t, ht, rfl, e0⟩
  · have hh : f_Cho_hasMonk w a0 = 0 := by unfold f_Cho_hasMonk; rw [a3, if_out h]
    rw [if_pos hh]
    exact ⟨fun _ => fin rfl, fun c => absurd e0 c⟩
  have hh : f_Cho_hasMonk w (nI t) = 1 := by unfold f_Cho_hasMonk; rw [a3, if_inn (m := nI n) (n := n) rfl ht (by omega)]
  rw [if_neg (fun c => one_ne (hh.symm.trans c))]
  refine ⟨fun c => absurd c (in_n0 e0), fun _ => ?_⟩
  rcases in_c (v := a1) (lo := 0) (hi := 2) 0 2 rfl rfl (by omega) (by omega) with ⟨e1, _⟩ | ⟨r, _, r2, rfl, e1⟩
  · rw [if_pos e1]
    exact ⟨fun _ => fin rfl, fun c => absurd e1 c⟩
  have e3 : (3 * nI t + nI r : Int32) = nI (3 * t + r) := by rw [show (3 : Int32) = nI 3 from rfl, pk_mul, nI_add]
  have e3' : (nI t * 3 + nI r : Int32) = nI (3 * t + r) := by rw [show (3 : Int32) = nI 3 from rfl, pk_mul, nI_add]; congr 1; omega
  rw [if_neg (in_n0 e1), e3, e3', f_at_in (by omega) (by omega), nI_clampN (by omega), (h4 _ (by omega)).1]
  exact ⟨fun c => absurd c (in_n0 e1), fun _ => ⟨vinN (by omega) (by omega), rfl, ⟨hC0, hR0⟩, off_rf⟩⟩
