/-! The psalter as it is told: verses, fixed psalms, festal psalms, the limit, the hours -/
def Vs (w : Wd) : Prop := ∀ q, q < 150 → ∃ n, 1 ≤ n ∧ n ≤ 200 ∧ w 23 (q + 1) = nI n ∧ w 181 q = nI n
def Fx (w : Wd) (H : Nat) : Prop := ∀ q, q < 150 → w 24 (q + 1) = w 182 q ∧ (w 182 q = -1 ∨ ∃ h, h < H ∧ w 182 q = nI h)
def Fe (w : Wd) (H : Nat) : Prop := ∀ h, h < 8 → ∃ c, c ≤ 6 ∧ (H ≤ h → c = 0) ∧ w 26 h = nI c ∧ w 183 h = nI c ∧ ∀ j, j < c → w 25 (6 * h + j) = w 184 (6 * h + j) ∧ ∃ p, 1 ≤ p ∧ p ≤ 150 ∧ w 184 (6 * h + j) = nI p
def RP (w : Wd) : Prop := Vs w ∧ ∃ H r, 1 ≤ H ∧ H ≤ 8 ∧ 1 ≤ r ∧ r ≤ 10 ∧ w 22 8 = nI H ∧ w 155 36 = nI H ∧ w 22 9 = nI r ∧ w 155 37 = nI r ∧ Fx w H ∧ Fe w H
def PP (c k : Nat) : Prop := (22 ≤ c ∧ c ≤ 29 ∧ ¬ (c = 28 ∧ k = 0)) ∨ (181 ≤ c ∧ c ≤ 188) ∨ (c = 155 ∧ (k = 36 ∨ k = 37 ∨ k = 38 ∨ k = 42))
def PD (c k : Nat) : Prop := (c = 22 ∧ (k = 7 ∨ k = 8 ∨ k = 10 ∨ k = 11)) ∨ c = 23 ∨ c = 24 ∨ c = 27 ∨ c = 28 ∨ c = 29
def DOK (D : Wd → Prop) : Prop := (∀ w : Wd, w 22 11 = 0 → D w) ∧ ∀ w w' : Wd, (∀ c k, PD c k → w' c k = w c k) → D w → D w'
theorem Vs_cg {w w' : Wd} (e1 : ∀ k, w' 23 k = w 23 k) (e2 : ∀ k, w' 181 k = w 181 k) (h : Vs w) : Vs w' := by
  intro q hq
  obtain ⟨n, h1, h2, h3, h4⟩ := h q hq
  exact ⟨n, h1, h2, by rw [e1]; exact h3, by rw [e2]; exact h4⟩
theorem Fx_cg {w w' : Wd} {H : Nat} (e1 : ∀ k, w' 24 k = w 24 k) (e2 : ∀ k, w' 182 k = w 182 k) (h : Fx w H) : Fx w' H := by
  intro q hq
  rw [e1, e2]
  exact h q hq
theorem Fe_cg {w w' : Wd} {H : Nat} (e1 : ∀ k, w' 25 k = w 25 k) (e2 : ∀ k, w' 26 k = w 26 k) (e3 : ∀ k, w' 183 k = w 183 k) (e4 : ∀ k, w' 184 k = w 184 k) (h : Fe w H) : Fe w' H := by
  intro q hq
  obtain ⟨c, h1, h0, h2, h3, h4⟩ := h q hq
  refine ⟨c, h1, h0, by rw [e2]; exact h2, by rw [e3]; exact h3, fun j hj => ?_⟩
  rw [e1, e4]; exact h4 j hj
theorem RP_cg {w w' : Wd} (e : ∀ c k, PP c k → w' c k = w c k) (h : RP w) : RP w' := by
  obtain ⟨hv, H, r, a1, a2, a3, a4, a5, a6, a7, a8, hf, hfe⟩ := h
  refine ⟨Vs_cg (fun k => e _ _ (by unfold PP; omega)) (fun k => e _ _ (by unfold PP; omega)) hv, H, r, a1, a2, a3, a4, ?_, ?_, ?_, ?_, Fx_cg (fun k => e _ _ (by unfold PP; omega)) (fun k => e _ _ (by unfold PP; omega)) hf, Fe_cg (fun k => e _ _ (by unfold PP; omega)) (fun k => e _ _ (by unfold PP; omega)) (fun k => e _ _ (by unfold PP; omega)) (fun k => e _ _ (by unfold PP; omega)) hfe⟩
  · rw [e _ _ (by unfold PP; omega)]; exact a5
  · rw [e _ _ (by unfold PP; omega)]; exact a6
  · rw [e _ _ (by unfold PP; omega)]; exact a7
  · rw [e _ _ (by unfold PP; omega)]; exact a8
theorem par_limit {zs : List Int32} {D : Wd → Prop} (hD : DOK D) (a0 : Int32) : Par zs 2 m_Bk_limit 1 m_Md_limit [.inl a0] (fun w => RP w ∧ D w) PP := by
  intro w ⟨hR, hd⟩
  refine ev_Bk_limit ⟨_, rfl, ev_Md_limit ?_⟩
  unfold f_Bk_limit g_Bk_limit f_Psa_setFeastRank g_Psa_setFeastRank f_Md_limit g_Md_limit
  rw [show f_Bk_within = f_Md_in from rfl]
  rcases in_c (v := a0) (lo := 1) (hi := 10) 1 10 rfl rfl (by omega) (by omega) with ⟨e0, _⟩ | ⟨n, n1, n2, rfl, e0⟩
  · simp only [if_pos e0]
    exact ⟨trivial, ⟨hR, hd⟩, fun _ _ _ => trivial⟩
  · have e1 : ¬ f_Md_in (nI n) 1 10 = 0 := fun c => one_ne (e0.symm.trans c)
    simp only [if_neg e1]
    obtain ⟨hv, H, r, b1, b2, b3, b4, b5, b6, b7, b8, hf, hfe⟩ := hR
    refine ⟨?_, ⟨⟨Vs_cg (fun k => ?_) (fun k => ?_) hv, H, n, b1, b2, n1, n2, ?_, ?_, ?_, ?_, Fx_cg (fun k => ?_) (fun k => ?_) hf, Fe_cg (fun k => ?_) (fun k => ?_) (fun k => ?_) (fun k => ?_) hfe⟩, hD.2 w _ (fun c k hp => ?_) hd⟩, off_wr (off_wr off_rf (by unfold PP; omega)) (by unfold PP; omega)⟩
    · rw [wr_nc (by omega), b7, b8]
    · rw [wr_nc (by omega), wr_nc (by omega)]
    · rw [wr_nc (by omega), wr_nc (by omega)]
    · rw [wr_nc (by omega), wr_nk (by omega)]; exact b5
    · rw [wr_nk (by omega), wr_nc (by omega)]; exact b6
    · rw [wr_nc (by omega), wr_eq]
    · rw [wr_eq]
    · rw [wr_nc (by omega), wr_nc (by omega)]
    · rw [wr_nc (by omega), wr_nc (by omega)]
    · rw [wr_nc (by omega), wr_nc (by omega)]
    · rw [wr_nc (by omega), wr_nc (by omega)]
    · rw [wr_nc (by omega), wr_nc (by omega)]
    · rw [wr_nc (by omega), wr_nc (by omega)]
    · unfold PD at hp
      rw [wr_nc (by omega)]
      by_cases hc : c = 22
      · rw [hc, wr_nk (by omega)]
      · rw [wr_nc hc]
theorem par_verses {zs : List Int32} {D : Wd → Prop} (hD : DOK D) (a0 a1 : Int32) : Par zs 3 m_Bk_verses 1 m_Md_verses [.inl a0, .inl a1] (fun w => RP w ∧ D w) PP := by
  intro w ⟨hR, hd⟩
  refine ev_Bk_verses ⟨_, rfl, ew_of k_Md_verses rfl (sg_Md_verses_0 ?_)⟩
  unfold f_Bk_verses g_Bk_verses f_Psa_setVerses g_Psa_setVerses f_Psa_hasPsalm
  rw [show f_Bk_within = f_Md_in from rfl]
  rcases in_c (v := a0) (lo := 1) (hi := 150) 1 150 rfl rfl (by omega) (by omega) with ⟨e0, _⟩ | ⟨p, p1, p2, rfl, e0⟩
  · simp only [if_pos e0]
    exact ⟨fun _ => ⟨trivial, ⟨hR, hd⟩, fun _ _ _ => trivial⟩, fun c => absurd e0 c⟩
  have e0n : ¬ f_Md_in (nI p) 1 150 = 0 := fun c => one_ne (e0.symm.trans c)
  simp only [if_neg e0n]
  refine ⟨fun c => absurd c e0n, fun _ => ?_⟩
  rcases in_c (v := a1) (lo := 1) (hi := 200) 1 200 rfl rfl (by omega) (by omega) with ⟨e1, _⟩ | ⟨n, n1, n2, rfl, e1⟩
  · simp only [if_pos e1]
    exact ⟨fun _ => ⟨trivial, ⟨hR, hd⟩, fun _ _ _ => trivial⟩, fun c => absurd e1 c⟩
  have e1n : ¬ f_Md_in (nI n) 1 200 = 0 := fun c => one_ne (e1.symm.trans c)
  simp only [if_neg e1n]
  refine ⟨fun c => absurd c e1n, fun _ => ?_⟩
  rw [show (1 : Int32) = nI 1 from rfl, pk_sub p1, nI_clampN (by omega), f_at_in (by omega) (by omega), g_put_in (by omega) (by omega)]
  obtain ⟨q, rfl⟩ : ∃ q, p = q + 1 := ⟨p - 1, by omega⟩
  rw [show q + 1 - 1 = q by omega]
  obtain ⟨hv, H, r, b1, b2, b3, b4, b5, b6, b7, b8, hf, hfe⟩ := hR
  obtain ⟨n0, x1, x2, x3, x4⟩ := hv q (by omega)
  refine ⟨vinN (by omega) (by omega), vinN (by omega) (by omega), ?_, ⟨⟨fun z hz => ?_, H, r, b1, b2, b3, b4, ?_, ?_, ?_, ?_, Fx_cg (fun k => ?_) (fun k => ?_) hf, Fe_cg (fun k => ?_) (fun k => ?_) (fun k => ?_) (fun k => ?_) hfe⟩, hD.1 _ ?_⟩, off_wr (off_wr (off_wr off_rf (by unfold PP; omega)) (by unfold PP; omega)) (by unfold PP; omega)⟩
  · rw [wr_nc (by omega), wr_nc (by omega), x3, x4]
  · by_cases hzq : z = q
    · subst hzq
      exact ⟨n, n1, n2, by rw [wr_nc (by omega), wr_nc (by omega), wr_eq], by rw [wr_eq]⟩
    · obtain ⟨n9, y1, y2, y3, y4⟩ := hv z hz
      exact ⟨n9, y1, y2, by rw [wr_nc (by omega), wr_nc (by omega), wr_nk (by omega)]; exact y3, by rw [wr_nk (by omega), wr_nc (by omega), wr_nc (by omega)]; exact y4⟩
  · rw [wr_nc (by omega), wr_nk (by omega), wr_nc (by omega)]; exact b5
  · rw [wr_nc (by omega), wr_nc (by omega), wr_nc (by omega)]; exact b6
  · rw [wr_nc (by omega), wr_nk (by omega), wr_nc (by omega)]; exact b7
  · rw [wr_nc (by omega), wr_nc (by omega), wr_nc (by omega)]; exact b8
  · rw [wr_nc (by omega), wr_nc (by omega), wr_nc (by omega)]
  · rw [wr_nc (by omega), wr_nc (by omega), wr_nc (by omega)]
  · rw [wr_nc (by omega), wr_nc (by omega), wr_nc (by omega)]
  · rw [wr_nc (by omega), wr_nc (by omega), wr_nc (by omega)]
  · rw [wr_nc (by omega), wr_nc (by omega), wr_nc (by omega)]
  · rw [wr_nc (by omega), wr_nc (by omega), wr_nc (by omega)]
  · rw [wr_nc (by omega), wr_eq]
theorem in_m1 {H : Nat} (h1 : 1 ≤ H) (h2 : H < 1000) (v : Int32) : (v = -1 ∧ f_Md_in v (-1) (nI H - 1) = 1) ∨ (∃ t, t < H ∧ v = nI t ∧ f_Md_in v (-1) (nI H - 1) = 1) ∨ (¬ v = -1 ∧ (v < 0 ∨ nI H ≤ v) ∧ f_Md_in v (-1) (nI H - 1) = 0) := by
  rw [show (nI H - 1 : Int32) = nI (H - 1) from pk_sub (b := 1) h1]
  have hi : (nI (H - 1)).toInt = ((H - 1 : Nat) : Int) := nI_toInt (by omega)
  have hm : (-1 : Int32).toInt = -1 := by decide
  have hz : (0 : Int32).toInt = 0 := by decide
  unfold f_Md_in
  by_cases hv : v = -1
  · subst hv
    refine Or.inl ⟨rfl, ?_⟩
    have c2 : ¬ nI (H - 1) < -1 := fun c => by rw [Int32.lt_iff_toInt_lt] at c; omega
    rw [if_neg (by decide), if_neg c2]
  refine Or.inr ?_
  rcases ix_c v (n := H) (m := nI H) rfl (by omega) with h | ⟨t, ht, rfl⟩
  · refine Or.inr ⟨hv, h, ?_⟩
    rcases h with h | h
    · have c1 : v < -1 := by
        rw [Int32.lt_iff_toInt_lt] at h ⊢
        have : ¬ v.toInt = -1 := fun q => hv (Int32.toInt_inj.mp (q.trans hm.symm))
        omega
      rw [if_pos c1]
    · have hH : (nI H).toInt = (H : Int) := nI_toInt (by omega)
      rw [Int32.le_iff_toInt_le] at h
      have c1 : ¬ v < -1 := fun c => by rw [Int32.lt_iff_toInt_lt] at c; omega
      have c2 : nI (H - 1) < v := by rw [Int32.lt_iff_toInt_lt]; omega
      rw [if_neg c1, if_pos c2]
  · refine Or.inl ⟨t, ht, rfl, ?_⟩
    have ht2 : (nI t).toInt = (t : Int) := nI_toInt (by omega)
    have c1 : ¬ nI t < -1 := fun c => by rw [Int32.lt_iff_toInt_lt] at c; omega
    have c2 : ¬ nI (H - 1) < nI t := nI_nlt (by omega) (by omega)
    rw [if_neg c1, if_neg c2]
theorem hasHour_in {w : Wd} {H t : Nat} (h8 : w 22 8 = nI H) (ht : t < H) (hH : H < 1000) : f_Psa_hasHour w (nI t) = 1 := by
  unfold f_Psa_hasHour
  rw [h8, if_inn (m := nI H) (n := H) rfl ht (by omega)]
theorem hasHour_out {w : Wd} {H : Nat} {v : Int32} (h8 : w 22 8 = nI H) (h : v < 0 ∨ nI H ≤ v) : f_Psa_hasHour w v = 0 := by
  unfold f_Psa_hasHour
  rw [h8, if_out h]
theorem m1_ne {t : Nat} (h : t < 1000) : ¬ nI t = (-1 : Int32) := m1_nI (by omega)
theorem fix_at {w : Wd} {D : Wd → Prop} {p : Nat} {x : Int32} {H r : Nat} (hD : DOK D) (hp : p < 150) (hv : Vs w) (b1 : 1 ≤ H) (b2 : H ≤ 8) (b3 : 1 ≤ r) (b4 : r ≤ 10) (b5 : w 22 8 = nI H) (b6 : w 155 36 = nI H) (b7 : w 22 9 = nI r) (b8 : w 155 37 = nI r) (hf : Fx w H) (hfe : Fe w H) (hx : x = -1 ∨ ∃ t, t < H ∧ x = nI t) :
    vp_in (nI p) 150 ∧ vp_in (nI p) 150 ∧ (some (.inl (wr (wr (wr w 24 (p + 1) x) 22 11 0) 182 p x 182 p)) : Option AV) = some (.inl x) ∧ (some (.inl (wr (wr w 24 (p + 1) x) 22 11 0 182 p)) : Option AV) = some (.inl (w 24 (p + 1))) ∧ (RP (wr (wr (wr w 24 (p + 1) x) 22 11 0) 182 p x) ∧ D (wr (wr (wr w 24 (p + 1) x) 22 11 0) 182 p x)) ∧ ∀ c k, ¬ PP c k → wr (wr (wr w 24 (p + 1) x) 22 11 0) 182 p x c k = w c k := by
  refine ⟨vinN (by omega) (by omega), vinN (by omega) (by omega), by rw [wr_eq], ?_, ⟨⟨Vs_cg (fun k => ?_) (fun k => ?_) hv, H, r, b1, b2, b3, b4, ?_, ?_, ?_, ?_, fun z hz => ?_, Fe_cg (fun k => ?_) (fun k => ?_) (fun k => ?_) (fun k => ?_) hfe⟩, hD.1 _ ?_⟩, off_wr (off_wr (off_wr off_rf (by unfold PP; omega)) (by unfold PP; omega)) (by unfold PP; omega)⟩
  · rw [wr_nc (by omega), wr_nc (by omega), (hf p hp).1]
  · rw [wr_nc (by omega), wr_nc (by omega), wr_nc (by omega)]
  · rw [wr_nc (by omega), wr_nc (by omega), wr_nc (by omega)]
  · rw [wr_nc (by omega), wr_nk (by omega), wr_nc (by omega)]; exact b5
  · rw [wr_nc (by omega), wr_nc (by omega), wr_nc (by omega)]; exact b6
  · rw [wr_nc (by omega), wr_nk (by omega), wr_nc (by omega)]; exact b7
  · rw [wr_nc (by omega), wr_nc (by omega), wr_nc (by omega)]; exact b8
  · by_cases hzp : z = p
    · subst hzp
      rw [wr_eq, wr_nc (by omega), wr_nc (by omega), wr_eq]
      exact ⟨rfl, hx⟩
    · rw [wr_nk (c := 182) hzp, wr_nc (by omega), wr_nc (by omega), wr_nk (by omega), wr_nc (by omega), wr_nc (by omega)]
      exact hf z hz
  · rw [wr_nc (by omega), wr_nc (by omega), wr_nc (by omega)]
  · rw [wr_nc (by omega), wr_nc (by omega), wr_nc (by omega)]
  · rw [wr_nc (by omega), wr_nc (by omega), wr_nc (by omega)]
  · rw [wr_nc (by omega), wr_nc (by omega), wr_nc (by omega)]
  · rw [wr_nc (by omega), wr_eq]
theorem par_fix {zs : List Int32} {D : Wd → Prop} (hD : DOK D) (a0 a1 : Int32) : Par zs 3 m_Bk_fix 1 m_Md_fix [.inl a0, .inl a1] (fun w => RP w ∧ D w) PP := by
  intro w ⟨hR, hd⟩
  refine ev_Bk_fix ⟨_, rfl, ew_of k_Md_fix rfl (sg_Md_fix_0 ?_)⟩
  have hR0 := hR
  obtain ⟨hv, H, r, b1, b2, b3, b4, b5, b6, b7, b8, hf, hfe⟩ := hR
  unfold f_Bk_fix g_Bk_fix f_Psa_setFixed g_Psa_setFixed f_Psa_hasPsalm
  rw [show f_Bk_within = f_Md_in from rfl]
  rcases in_c (v := a0) (lo := 1) (hi := 150) 1 150 rfl rfl (by omega) (by omega) with ⟨e0, _⟩ | ⟨p, p1, p2, rfl, e0⟩
  · rw [if_pos e0, if_pos e0]
    exact ⟨fun _ => ⟨rfl, ⟨hR0, hd⟩, off_rf⟩, fun c => absurd e0 c⟩
  have e0n : ¬ f_Md_in (nI p) 1 150 = 0 := fun c => one_ne (e0.symm.trans c)
  obtain ⟨q, rfl⟩ : ∃ q, p = q + 1 := ⟨p - 1, by omega⟩
  rw [if_neg e0n, if_neg e0n, f_at_in (by omega) (by omega), g_put_in (by omega) (by omega)]
  refine ⟨fun c => absurd c e0n, fun _ => ?_⟩
  rw [show (nI (q + 1) - 1 : Int32) = nI q from pk_sub (a := q + 1) (b := 1) (by omega), nI_clampN (by omega)]
  rcases in_m1 b1 (by omega) a1 with ⟨rfl, e1⟩ | ⟨t, ht, rfl, e1⟩ | ⟨hn, ho, e1⟩
  · rw [if_pos rfl, if_pos rfl]
    have r0 : wr (wr w 24 (q + 1) (-1)) 22 11 0 155 36 = nI H := by rw [wr_nc (by omega), wr_nc (by omega)]; exact b6
    rw [r0]
    obtain ⟨g1, g2, -, g4, g5, g6⟩ := fix_at (x := -1) hD (show q < 150 by omega) hv b1 b2 b3 b4 b5 b6 b7 b8 hf hfe (Or.inl rfl)
    exact ⟨fun c => absurd (e1.symm.trans c) one_ne, fun _ => ⟨g1, g2, g4, g5, g6⟩⟩
  · have hh := hasHour_in (w := w) b5 ht (by omega)
    have hhn : ¬ f_Psa_hasHour w (nI t) = 0 := fun c => one_ne (hh.symm.trans c)
    rw [if_neg (m1_ne (by omega)), if_neg (m1_ne (by omega)), if_neg hhn, if_neg hhn]
    have r0 : wr (wr w 24 (q + 1) (nI t)) 22 11 0 155 36 = nI H := by rw [wr_nc (by omega), wr_nc (by omega)]; exact b6
    rw [r0]
    obtain ⟨g1, g2, -, g4, g5, g6⟩ := fix_at (x := nI t) hD (show q < 150 by omega) hv b1 b2 b3 b4 b5 b6 b7 b8 hf hfe (Or.inr ⟨t, ht, rfl⟩)
    exact ⟨fun c => absurd (e1.symm.trans c) one_ne, fun _ => ⟨g1, g2, g4, g5, g6⟩⟩
  · have hh := hasHour_out (w := w) b5 ho
    rw [if_neg hn, if_neg hn, if_pos hh, if_pos hh, b6]
    exact ⟨fun _ => ⟨rfl, ⟨hR0, hd⟩, off_rf⟩, fun c => absurd e1 c⟩
theorem par_festal {zs : List Int32} {D : Wd → Prop} (hD : DOK D) (a0 a1 : Int32) : Par zs 3 m_Bk_festal 1 m_Md_festal [.inl a0, .inl a1] (fun w => RP w ∧ D w) PP := by
  intro w ⟨hR, hd⟩
  refine ev_Bk_festal ⟨_, rfl, ew_of k_Md_festal rfl (sg_Md_festal_0 ?_)⟩
  have hR0 := hR
  obtain ⟨hv, H, r, b1, b2, b3, b4, b5, b6, b7, b8, hf, hfe⟩ := hR
  unfold f_Bk_festal g_Bk_festal f_Psa_addFestal g_Psa_addFestal f_Psa_hasPsalm
  rw [show f_Bk_within = f_Md_in from rfl]
  have eH : (nI H - 1 : Int32) = nI (H - 1) := pk_sub (b := 1) b1
  rcases ix_c a0 (n := H) (m := nI H) rfl (by omega) with h | ⟨t, ht, rfl⟩
  · have hh := hasHour_out (w := w) b5 h
    rw [if_pos hh, if_pos hh, b6, eH]
    have e0 : f_Md_in a0 0 (nI (H - 1)) = 0 := in_out (h := H - 1) rfl (by omega) (by rw [show H - 1 + 1 = H by omega]; exact h)
    exact ⟨fun _ => ⟨rfl, ⟨hR0, hd⟩, off_rf⟩, fun c => absurd e0 c⟩
  have hh := hasHour_in (w := w) b5 ht (by omega)
  have hhn : ¬ f_Psa_hasHour w (nI t) = 0 := fun c => one_ne (hh.symm.trans c)
  have e0 : f_Md_in (nI t) 0 (nI (H - 1)) = 1 := in_in (l := 0) (h := H - 1) rfl rfl (by omega) (by omega) (by omega)
  rw [if_neg hhn, if_neg hhn]
  rcases in_c (v := a1) (lo := 1) (hi := 150) 1 150 rfl rfl (by omega) (by omega) with ⟨e1, _⟩ | ⟨p, p1, p2, rfl, e1⟩
  · rw [if_pos e1, if_pos e1, b6, eH]
    exact ⟨fun c => absurd (e0.symm.trans c) one_ne, fun _ => ⟨fun _ => ⟨rfl, ⟨hR0, hd⟩, off_rf⟩, fun c => absurd e1 c⟩⟩
  have e1n : ¬ f_Md_in (nI p) 1 150 = 0 := fun c => one_ne (e1.symm.trans c)
  rw [if_neg e1n, if_neg e1n, f_at_in (by omega) (by omega)]
  obtain ⟨c, hc, hcz, x1, x2, x3⟩ := hfe t (by omega)
  rw [x1]
  by_cases c6 : c = 6
  · subst c6
    have z : ¬ nI 6 < (6 : Int32) := by decide
    rw [if_neg z, if_neg z, b6, eH, nI_clampN (by omega), x2]
    exact ⟨fun q => absurd (e0.symm.trans q) one_ne, fun _ => ⟨fun q => absurd q e1n, fun _ => ⟨vinN (by omega) (by omega), fun _ => ⟨rfl, ⟨hR0, hd⟩, off_rf⟩, fun q => absurd rfl q⟩⟩⟩
  · have z : nI c < (6 : Int32) := nI_lt (a := c) (b := 6) (by omega) (by omega)
    have e6 : (nI t * 6 + nI c : Int32) = nI (6 * t + c) := by rw [show (6 : Int32) = nI 6 from rfl, pk_mul, nI_add]; congr 1; omega
    have e6' : (6 * nI t + nI c : Int32) = nI (6 * t + c) := by rw [show (6 : Int32) = nI 6 from rfl, pk_mul, nI_add]
    rw [if_pos z, if_pos z, e6, g_put_in (by omega) (by omega), g_put_in (by omega) (by omega), nI_1]
    have r0 : wr (wr w 25 (6 * t + c) (nI p)) 26 t (nI (c + 1)) 155 36 = nI H := by rw [wr_nc (by omega), wr_nc (by omega)]; exact b6
    have r1 : wr (wr w 25 (6 * t + c) (nI p)) 26 t (nI (c + 1)) 183 t = nI c := by rw [wr_nc (by omega), wr_nc (by omega)]; exact x2
    rw [r0, eH, nI_clampN (by omega), r1, e6', nI_clampN (by omega), nI_1]
    refine ⟨fun q => absurd (e0.symm.trans q) one_ne, fun _ => ⟨fun q => absurd q e1n, fun _ => ⟨vinN (by omega) (by omega), fun q => absurd q (nI_ne (b := 6) (by omega) (by omega) c6), fun _ => ⟨vinN (by omega) (by omega), vinN (by omega) (by omega), vinN (by omega) (by omega), vinN (by omega) (by omega), vinN (by omega) (by omega), rfl, ⟨⟨Vs_cg (fun k => ?_) (fun k => ?_) hv, H, r, b1, b2, b3, b4, ?_, ?_, ?_, ?_, Fx_cg (fun k => ?_) (fun k => ?_) hf, fun z hz => ?_⟩, hD.2 w _ (fun c k hp => ?_) hd⟩, off_wr (off_wr (off_wr (off_wr off_rf (by unfold PP; omega)) (by unfold PP; omega)) (by unfold PP; omega)) (by unfold PP; omega)⟩⟩⟩⟩
    · rw [wr_nc (by omega), wr_nc (by omega), wr_nc (by omega), wr_nc (by omega)]
    · rw [wr_nc (by omega), wr_nc (by omega), wr_nc (by omega), wr_nc (by omega)]
    · rw [wr_nc (by omega), wr_nc (by omega), wr_nc (by omega), wr_nc (by omega)]; exact b5
    · rw [wr_nc (by omega), wr_nc (by omega), wr_nc (by omega), wr_nc (by omega)]; exact b6
    · rw [wr_nc (by omega), wr_nc (by omega), wr_nc (by omega), wr_nc (by omega)]; exact b7
    · rw [wr_nc (by omega), wr_nc (by omega), wr_nc (by omega), wr_nc (by omega)]; exact b8
    · rw [wr_nc (by omega), wr_nc (by omega), wr_nc (by omega), wr_nc (by omega)]
    · rw [wr_nc (by omega), wr_nc (by omega), wr_nc (by omega), wr_nc (by omega)]
    · obtain ⟨c9, y0, y00, y1, y2, y3⟩ := hfe z hz
      by_cases hzt : z = t
      · subst hzt
        refine ⟨c + 1, by omega, by omega, ?_, ?_, fun j hj => ?_⟩
        · rw [wr_nc (by omega), wr_nc (by omega), wr_eq]
        · rw [wr_eq]
        · by_cases hjc : j = c
          · subst hjc
            rw [wr_nc (by omega), wr_nc (by omega), wr_nc (by omega), wr_eq, wr_nc (c' := 184) (by omega), wr_eq]
            exact ⟨rfl, p, p1, p2, rfl⟩
          · rw [wr_nc (by omega), wr_nc (by omega), wr_nc (by omega), wr_nk (by omega), wr_nc (c' := 184) (by omega), wr_nk (by omega), wr_nc (by omega), wr_nc (by omega)]
            exact x3 j (by omega)
      · refine ⟨c9, y0, y00, ?_, ?_, fun j hj => ?_⟩
        · rw [wr_nc (by omega), wr_nc (by omega), wr_nk hzt, wr_nc (by omega)]; exact y1
        · rw [wr_nk hzt, wr_nc (by omega), wr_nc (by omega), wr_nc (by omega)]; exact y2
        · rw [wr_nc (by omega), wr_nc (by omega), wr_nc (by omega), wr_nk (by omega), wr_nc (c' := 184) (by omega), wr_nk (by omega), wr_nc (by omega), wr_nc (by omega)]
          exact y3 j hj
    · unfold PD at hp
      rw [wr_nc (by omega), wr_nc (by omega), wr_nc (by omega), wr_nc (by omega)]
theorem ew_used {zs : List Int32} {m : Nat} {w : Wd} {Q : Option AV → Wd → Prop} (hm : m ≤ 8) (h0 : (∀ q, q < 150 → w 24 (q + 1) < nI m) → (∀ h, m ≤ h → h < 8 → w 26 h ≤ 0) → Q (some (.inl 0)) w) (h1 : ¬ ((∀ q, q < 150 → w 24 (q + 1) < nI m) ∧ (∀ h, m ≤ h → h < 8 → w 26 h ≤ 0)) → Q (some (.inl 1)) w) : Ew zs 1 m_Psa_isUsedFrom [.inr (.inl (some 22)), .inl (nI m)] w Q := by
  refine ew_of k_Psa_isUsedFrom rfl (sg_Psa_isUsedFrom_0 ?_)
  have g := up_loop (fun i => (∀ q, q < i → w 24 (q + 1) < nI m) → Gw zs 1 m_Psa_isUsedFrom 2 [some (.inr (.inl (some 22))), some (.inl (nI m)), some (.inl (nI (i + 1)))] [] w Q) 0 150 (by omega) ?_ ?_
  · exact g (fun q hq => absurd hq (by omega))
  · intro hq
    refine sg_Psa_isUsedFrom_2 ⟨fun _ => ?_, fun c => absurd (nI_lt (a := 150) (b := 150 + 1) (by omega) (by omega)) c⟩
    have g2 := up_loop (fun i => (∀ h, m ≤ h → h < i → w 26 h ≤ 0) → Gw zs 1 m_Psa_isUsedFrom 31 [some (.inr (.inl (some 22))), some (.inl (nI m)), some (.inl (nI i))] [] w Q) m 8 hm ?_ ?_
    · exact g2 (fun h a b => absurd a (by omega))
    · intro hh
      exact sg_Psa_isUsedFrom_31 ⟨fun _ => h0 hq hh, fun c => absurd (nI_le (a := 8) (b := 8) (by omega) (by omega)) c⟩
    · intro i hi1 hi2 ih hh
      refine sg_Psa_isUsedFrom_31 ⟨fun c => absurd c (nI_gle (a := 8) (b := i) (by omega) (by omega)), fun _ => ?_⟩
      rw [f_at_in (by omega) (by omega), nI_1]
      refine ⟨fun c => ih (fun h a b => ?_), fun c => h1 (fun z => c (z.2 i hi1 hi2))⟩
      by_cases hhi : h = i
      · rw [hhi]; exact c
      · exact hh h a (by omega)
  · intro i _ hi ih hq
    refine sg_Psa_isUsedFrom_2 ⟨fun c => absurd c (nI_nlt (a := 150) (b := i + 1) (by omega) (by omega)), fun _ => ?_⟩
    rw [f_at_in (by omega) (by omega), nI_1]
    refine ⟨fun c => ih (fun q a => ?_), fun c => h1 (fun z => c (z.1 i hi))⟩
    by_cases hqi : q = i
    · rw [hqi]; exact c
    · exact hq q (by omega)
theorem ew_mhours {zs : List Int32} {m : Nat} {w : Wd} {Q : Option AV → Wd → Prop} (hm : m ≤ 8) (h0 : (∀ q, q < 150 → w 182 q < nI m) → (∀ h, m ≤ h → h < 8 → w 183 h ≤ 0) → Q (some (.inl (w 155 36))) (wr w 155 36 (nI m))) (h1 : ¬ ((∀ q, q < 150 → w 182 q < nI m) ∧ (∀ h, m ≤ h → h < 8 → w 183 h ≤ 0)) → Q (some (.inl (-1))) w) : Gw zs 1 m_Md_hours 14 [some (.inr (.inl (some 155))), some (.inl (nI m)), some (.inl 0)] [] w Q := by
  have g := up_loop (fun i => (∀ q, q < i → w 182 q < nI m) → Gw zs 1 m_Md_hours 14 [some (.inr (.inl (some 155))), some (.inl (nI m)), some (.inl (nI i))] [] w Q) 0 150 (by omega) ?_ ?_
  · exact g (fun q hq => absurd hq (by omega))
  · intro hq
    refine sg_Md_hours_14 ⟨fun _ => ?_, fun c => absurd (nI_le (a := 150) (b := 150) (by omega) (by omega)) c⟩
    have g2 := up_loop (fun i => (∀ h, m ≤ h → h < i → w 183 h ≤ 0) → Gw zs 1 m_Md_hours 41 [some (.inr (.inl (some 155))), some (.inl (nI m)), some (.inl (nI i))] [] w Q) m 8 hm ?_ ?_
    · exact g2 (fun h a b => absurd a (by omega))
    · intro hh
      exact sg_Md_hours_41 ⟨fun _ => h0 hq hh, fun c => absurd (nI_le (a := 8) (b := 8) (by omega) (by omega)) c⟩
    · intro i hi1 hi2 ih hh
      refine sg_Md_hours_41 ⟨fun c => absurd c (nI_gle (a := 8) (b := i) (by omega) (by omega)), fun _ => ⟨vinN (by omega) (by omega), ?_⟩⟩
      rw [nI_clampN (by omega), nI_1]
      refine ⟨fun c => ih (fun h a b => ?_), fun c => h1 (fun z => c (z.2 i hi1 hi2))⟩
      by_cases hhi : h = i
      · rw [hhi]; exact c
      · exact hh h a (by omega)
  · intro i _ hi ih hq
    refine sg_Md_hours_14 ⟨fun c => absurd c (nI_gle (a := 150) (b := i) (by omega) (by omega)), fun _ => ⟨vinN (by omega) (by omega), ?_⟩⟩
    rw [nI_clampN (by omega), nI_1]
    refine ⟨fun c => ih (fun q a => ?_), fun c => h1 (fun z => c (z.1 i hi))⟩
    by_cases hqi : q = i
    · rw [hqi]; exact c
    · exact hq q (by omega)
theorem par_hours {zs : List Int32} {D : Wd → Prop} (hD : DOK D) (a0 : Int32) : Par zs 3 m_Bk_hours 1 m_Md_hours [.inl a0] (fun w => RP w ∧ D w) PP := by
  intro w ⟨hR, hd⟩
  refine ew_of k_Bk_hours rfl (sg_Bk_hours_0 (ew_of k_Psa_setHours rfl (sg_Psa_setHours_0 ?_)))
  rw [show f_Bk_within = f_Md_in from rfl]
  have hR0 := hR
  obtain ⟨hv, H, r, b1, b2, b3, b4, b5, b6, b7, b8, hf, hfe⟩ := hR
  rcases in_c (v := a0) (lo := 1) (hi := 8) 1 8 rfl rfl (by omega) (by omega) with ⟨e0, _⟩ | ⟨m, m1, m2, rfl, e0⟩
  · exact ⟨fun _ => ⟨_, rfl, _, rfl, ew_of k_Md_hours rfl (sg_Md_hours_0 ⟨fun _ => ⟨rfl, ⟨hR0, hd⟩, off_rf⟩, fun c => absurd e0 c⟩)⟩, fun c => absurd e0 c⟩
  have e0n : ¬ f_Md_in (nI m) 1 8 = 0 := fun c => one_ne (e0.symm.trans c)
  have eq1 : (∀ q, q < 150 → w 24 (q + 1) < nI m) ↔ (∀ q, q < 150 → w 182 q < nI m) := by
    constructor
    · intro h q hq; rw [← (hf q hq).1]; exact h q hq
    · intro h q hq; rw [(hf q hq).1]; exact h q hq
  have eq2 : (∀ h, m ≤ h → h < 8 → w 26 h ≤ 0) ↔ (∀ h, m ≤ h → h < 8 → w 183 h ≤ 0) := by
    constructor
    · intro g h a b; obtain ⟨c, -, -, x1, x2, -⟩ := hfe h b; rw [x2, ← x1]; exact g h a b
    · intro g h a b; obtain ⟨c, -, -, x1, x2, -⟩ := hfe h b; rw [x1, ← x2]; exact g h a b
  refine ⟨fun c => absurd c e0n, fun _ => ew_used m2 (fun q1 q2 => ?_) (fun q => ?_)⟩
  · refine ⟨_, rfl, fun _ => ⟨_, rfl, _, rfl, ew_of k_Md_hours rfl (sg_Md_hours_0 ⟨fun c => absurd c e0n, fun _ => ?_⟩)⟩, fun c => absurd rfl c⟩
    have n1 := eq1.mp q1
    have n2 := eq2.mp q2
    refine ew_mhours m2 (fun _ _ => ⟨?_, ⟨⟨Vs_cg (fun k => ?_) (fun k => ?_) hv, m, r, m1, m2, b3, b4, ?_, ?_, ?_, ?_, fun z hz => ?_, fun z hz => ?_⟩, hD.1 _ ?_⟩, off_wr (off_wr (off_wr off_rf (by unfold PP; omega)) (by unfold PP; omega)) (by unfold PP; omega)⟩) (fun c => absurd ⟨fun q hq => ?_, fun h a b => ?_⟩ c)
    · rw [wr_nc (by omega), wr_nc (by omega), b5, b6]
    · rw [wr_nc (by omega), wr_nc (by omega), wr_nc (by omega)]
    · rw [wr_nc (by omega), wr_nc (by omega), wr_nc (by omega)]
    · rw [wr_nc (by omega), wr_nk (by omega), wr_eq]
    · rw [wr_eq]
    · rw [wr_nc (by omega), wr_nk (by omega), wr_nk (by omega)]; exact b7
    · rw [wr_nk (by omega), wr_nc (by omega), wr_nc (by omega)]; exact b8
    · rw [wr_nc (by omega), wr_nc (by omega), wr_nc (by omega), wr_nc (by omega), wr_nc (by omega), wr_nc (by omega)]
      refine ⟨(hf z hz).1, ?_⟩
      rcases (hf z hz).2 with c | ⟨t, ht, c⟩
      · exact Or.inl c
      · refine Or.inr ⟨t, ?_, c⟩
        have := n1 z hz
        rw [c] at this
        exact (nI_ltI (by omega) (by omega)).mp this
    · obtain ⟨c, y1, y2, y3, y4, y5⟩ := hfe z hz
      refine ⟨c, y1, fun hmz => ?_, ?_, ?_, fun j hj => ?_⟩
      · have := n2 z hmz hz
        rw [y4] at this
        rcases Nat.eq_zero_or_pos c with q | q
        · exact q
        · exact absurd this (nI_nle (by omega) (by omega))
      · rw [wr_nc (by omega), wr_nc (by omega), wr_nc (by omega)]; exact y3
      · rw [wr_nc (by omega), wr_nc (by omega), wr_nc (by omega)]; exact y4
      · rw [wr_nc (by omega), wr_nc (by omega), wr_nc (by omega), wr_nc (by omega), wr_nc (by omega), wr_nc (by omega)]; exact y5 j hj
    · rw [wr_nc (by omega), wr_eq]
    · rw [wr_nc (by omega), wr_nc (by omega)]; exact n1 q hq
    · rw [wr_nc (by omega), wr_nc (by omega)]; exact n2 h a b
  · refine ⟨_, rfl, fun c => absurd c one_ne, fun _ => ⟨_, rfl, _, rfl, ew_of k_Md_hours rfl (sg_Md_hours_0 ⟨fun c => absurd c e0n, fun _ => ?_⟩)⟩⟩
    refine ew_mhours m2 (fun c1 c2 => absurd ⟨eq1.mpr c1, eq2.mpr c2⟩ q) (fun _ => ⟨rfl, ⟨hR0, hd⟩, off_rf⟩)
