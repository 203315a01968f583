/-! What the two books hold alike, part by part, with the places that each part speaks of -/
def Te (w : Wd) (t : Nat) : Prop := w (31 + 8 * t) 4 = w 189 t
def PTe (t : Nat) (c k : Nat) : Prop := (c = 31 + 8 * t ∧ k = 4) ∨ (c = 189 ∧ k = t)
def Ti (w : Wd) (t : Nat) : Prop := ∃ n, n ≤ 4 ∧ w (31 + 8 * t) 3 = nI n ∧ w 190 (3 * t) = nI n ∧ ∀ j, j < n → w (32 + 8 * t) j = w 191 (12 * t + j)
def PTi (t : Nat) (c k : Nat) : Prop := c = 32 + 8 * t ∨ (c = 31 + 8 * t ∧ k = 3) ∨ (c = 190 ∧ k = 3 * t) ∨ (c = 191 ∧ 12 * t ≤ k ∧ k < 12 * t + 4)
def Cb (w : Wd) (t q : Nat) : Prop := ∃ n, n ≤ 3 ∧ w (33 + 8 * t + 3 * q) 2 = nI n ∧ w 190 (3 * t + 1 + q) = nI n ∧ ∀ j, j < n → w (34 + 8 * t + 3 * q) j = w 191 (12 * t + 4 + 4 * q + j) ∧ ¬ w (34 + 8 * t + 3 * q) j = -1
def PCb (t q : Nat) (c k : Nat) : Prop := c = 34 + 8 * t + 3 * q ∨ (c = 33 + 8 * t + 3 * q ∧ k = 2) ∨ (c = 190 ∧ k = 3 * t + 1 + q) ∨ (c = 191 ∧ 12 * t + 4 + 4 * q ≤ k ∧ k < 12 * t + 8 + 4 * q)
def Cm (w : Wd) (t q : Nat) : Prop := (w (33 + 8 * t + 3 * q) 3 = 1 ∧ w 192 (2 * t + q) = 0) ∨ (w (33 + 8 * t + 3 * q) 3 = 2 ∧ w 192 (2 * t + q) = 1)
def PCm (t q : Nat) (c k : Nat) : Prop := (c = 33 + 8 * t + 3 * q ∧ k = 3) ∨ (c = 192 ∧ k = 2 * t + q)
def Ca (w : Wd) (t q : Nat) : Prop := ∀ j, j < 6 → w (35 + 8 * t + 3 * q) j = w 193 (12 * t + 6 * q + j)
def PCa (t q : Nat) (c k : Nat) : Prop := c = 35 + 8 * t + 3 * q ∨ (c = 193 ∧ 12 * t + 6 * q ≤ k ∧ k < 12 * t + 6 * q + 6)
def Vv (w : Wd) (v : Nat) : Prop := ∃ n m, n ≤ 60 ∧ m ≤ n ∧ w (104 + 2 * v) 1 = nI n ∧ w 194 v = nI n ∧ w (104 + 2 * v) 2 = nI m ∧ w 196 v = nI m ∧ ∀ j, j < n → w (105 + 2 * v) j = w 195 (60 * v + j) ∧ (w (105 + 2 * v) j = 0 ∨ w (105 + 2 * v) j = 1)
def PVv (v : Nat) (c k : Nat) : Prop := c = 104 + 2 * v ∨ c = 105 + 2 * v ∨ (c = 194 ∧ k = v) ∨ (c = 196 ∧ k = v) ∨ (c = 195 ∧ 60 * v ≤ k ∧ k < 60 * v + 60)
theorem Te_cg {w w' : Wd} {t : Nat} (e : ∀ c k, PTe t c k → w' c k = w c k) (h : Te w t) : Te w' t := by
  unfold Te at h ⊢
  rw [e _ _ (Or.inl ⟨rfl, rfl⟩), e _ _ (Or.inr ⟨rfl, rfl⟩)]
  exact h
theorem Ti_cg {w w' : Wd} {t : Nat} (e : ∀ c k, PTi t c k → w' c k = w c k) (h : Ti w t) : Ti w' t := by
  obtain ⟨n, hn, h1, h2, h3⟩ := h
  refine ⟨n, hn, ?_, ?_, fun j hj => ?_⟩
  · rw [e _ _ (by unfold PTi; omega)]; exact h1
  · rw [e _ _ (by unfold PTi; omega)]; exact h2
  · rw [e _ _ (by unfold PTi; omega), e _ _ (by unfold PTi; omega)]; exact h3 j hj
theorem Cb_cg {w w' : Wd} {t q : Nat} (e : ∀ c k, PCb t q c k → w' c k = w c k) (h : Cb w t q) : Cb w' t q := by
  obtain ⟨n, hn, h1, h2, h3⟩ := h
  refine ⟨n, hn, ?_, ?_, fun j hj => ?_⟩
  · rw [e _ _ (by unfold PCb; omega)]; exact h1
  · rw [e _ _ (by unfold PCb; omega)]; exact h2
  · rw [e _ _ (by unfold PCb; omega), e _ _ (by unfold PCb; omega)]; exact h3 j hj
theorem Cm_cg {w w' : Wd} {t q : Nat} (e : ∀ c k, PCm t q c k → w' c k = w c k) (h : Cm w t q) : Cm w' t q := by
  unfold Cm at h ⊢
  rw [e _ _ (Or.inl ⟨rfl, rfl⟩), e _ _ (Or.inr ⟨rfl, rfl⟩)]
  exact h
theorem Ca_cg {w w' : Wd} {t q : Nat} (e : ∀ c k, PCa t q c k → w' c k = w c k) (h : Ca w t q) : Ca w' t q := by
  intro j hj
  rw [e _ _ (by unfold PCa; omega), e _ _ (by unfold PCa; omega)]
  exact h j hj
theorem Vv_cg {w w' : Wd} {v : Nat} (e : ∀ c k, PVv v c k → w' c k = w c k) (h : Vv w v) : Vv w' v := by
  obtain ⟨n, m, hn, hm, h1, h2, h3, h4, h5⟩ := h
  refine ⟨n, m, hn, hm, ?_, ?_, ?_, ?_, fun j hj => ?_⟩
  · rw [e _ _ (by unfold PVv; omega)]; exact h1
  · rw [e _ _ (by unfold PVv; omega)]; exact h2
  · rw [e _ _ (by unfold PVv; omega)]; exact h3
  · rw [e _ _ (by unfold PVv; omega)]; exact h4
  · rw [e _ _ (by unfold PVv; omega), e _ _ (by unfold PVv; omega)]; exact h5 j hj
/-- all tones, all verses -/
def RT (w : Wd) : Prop := ∀ t, t < 9 → Te w t ∧ Ti w t ∧ ∀ q, q < 2 → Cb w t q ∧ Cm w t q ∧ Ca w t q
def PT (c _ : Nat) : Prop := (31 ≤ c ∧ c ≤ 102) ∨ (189 ≤ c ∧ c ≤ 193)
def RV (w : Wd) : Prop := ∀ v, v < 20 → Vv w v
def PV (c _ : Nat) : Prop := (104 ≤ c ∧ c ≤ 143) ∨ (194 ≤ c ∧ c ≤ 196)
theorem RT_cg {w w' : Wd} (e : ∀ c k, PT c k → w' c k = w c k) (h : RT w) : RT w' := by
  intro t ht
  obtain ⟨h1, h2, h3⟩ := h t ht
  refine ⟨Te_cg (fun c k q => e c k (by unfold PTe at q; unfold PT; omega)) h1, Ti_cg (fun c k q => e c k (by unfold PTi at q; unfold PT; omega)) h2, fun q hq => ?_⟩
  obtain ⟨g1, g2, g3⟩ := h3 q hq
  exact ⟨Cb_cg (fun c k z => e c k (by unfold PCb at z; unfold PT; omega)) g1, Cm_cg (fun c k z => e c k (by unfold PCm at z; unfold PT; omega)) g2, Ca_cg (fun c k z => e c k (by unfold PCa at z; unfold PT; omega)) g3⟩
theorem RV_cg {w w' : Wd} (e : ∀ c k, PV c k → w' c k = w c k) (h : RV w) : RV w' := fun v hv => Vv_cg (fun c k q => e c k (by unfold PVv at q; unfold PV; omega)) (h v hv)
/-- a change of one part -/
theorem RT_Te {w w' : Wd} {t : Nat} (h : RT w) (ht0 : t < 9) (e : ∀ c k, ¬ PTe t c k → w' c k = w c k) (n : Te w' t) : RT w' := by
  intro t' ht'
  obtain ⟨h1, h2, h3⟩ := h t' ht'
  refine ⟨?_, Ti_cg (fun c k q => e c k (by unfold PTi at q; unfold PTe; omega)) h2, fun q hq => ?_⟩
  · by_cases hq : t' = t
    · rw [hq]; exact n
    · exact Te_cg (fun c k q => e c k (by unfold PTe at q ⊢; omega)) h1
  · obtain ⟨g1, g2, g3⟩ := h3 q hq
    exact ⟨Cb_cg (fun c k z => e c k (by unfold PCb at z; unfold PTe; omega)) g1, Cm_cg (fun c k z => e c k (by unfold PCm at z; unfold PTe; omega)) g2, Ca_cg (fun c k z => e c k (by unfold PCa at z; unfold PTe; omega)) g3⟩
theorem RT_Ti {w w' : Wd} {t : Nat} (h : RT w) (ht0 : t < 9) (e : ∀ c k, ¬ PTi t c k → w' c k = w c k) (n : Ti w' t) : RT w' := by
  intro t' ht'
  obtain ⟨h1, h2, h3⟩ := h t' ht'
  refine ⟨Te_cg (fun c k q => e c k (by unfold PTe at q; unfold PTi; omega)) h1, ?_, fun q hq => ?_⟩
  · by_cases hq : t' = t
    · rw [hq]; exact n
    · exact Ti_cg (fun c k q => e c k (by unfold PTi at q ⊢; omega)) h2
  · obtain ⟨g1, g2, g3⟩ := h3 q hq
    exact ⟨Cb_cg (fun c k z => e c k (by unfold PCb at z; unfold PTi; omega)) g1, Cm_cg (fun c k z => e c k (by unfold PCm at z; unfold PTi; omega)) g2, Ca_cg (fun c k z => e c k (by unfold PCa at z; unfold PTi; omega)) g3⟩
theorem RT_Cb {w w' : Wd} {t q : Nat} (h : RT w) (ht0 : t < 9) (hq2 : q < 2) (e : ∀ c k, ¬ PCb t q c k → w' c k = w c k) (n : Cb w' t q) : RT w' := by
  intro t' ht'
  obtain ⟨h1, h2, h3⟩ := h t' ht'
  refine ⟨Te_cg (fun c k z => e c k (by unfold PTe at z; unfold PCb; omega)) h1, Ti_cg (fun c k z => e c k (by unfold PTi at z; unfold PCb; omega)) h2, fun q' hq' => ?_⟩
  obtain ⟨g1, g2, g3⟩ := h3 q' hq'
  refine ⟨?_, Cm_cg (fun c k z => e c k (by unfold PCm at z; unfold PCb; omega)) g2, Ca_cg (fun c k z => e c k (by unfold PCa at z; unfold PCb; omega)) g3⟩
  by_cases hz : t' = t ∧ q' = q
  · rw [hz.1, hz.2]; exact n
  · exact Cb_cg (fun c k z => e c k (by unfold PCb at z ⊢; omega)) g1
theorem RT_Cm {w w' : Wd} {t q : Nat} (h : RT w) (ht0 : t < 9) (hq2 : q < 2) (e : ∀ c k, ¬ PCm t q c k → w' c k = w c k) (n : Cm w' t q) : RT w' := by
  intro t' ht'
  obtain ⟨h1, h2, h3⟩ := h t' ht'
  refine ⟨Te_cg (fun c k z => e c k (by unfold PTe at z; unfold PCm; omega)) h1, Ti_cg (fun c k z => e c k (by unfold PTi at z; unfold PCm; omega)) h2, fun q' hq' => ?_⟩
  obtain ⟨g1, g2, g3⟩ := h3 q' hq'
  refine ⟨Cb_cg (fun c k z => e c k (by unfold PCb at z; unfold PCm; omega)) g1, ?_, Ca_cg (fun c k z => e c k (by unfold PCa at z; unfold PCm; omega)) g3⟩
  by_cases hz : t' = t ∧ q' = q
  · rw [hz.1, hz.2]; exact n
  · exact Cm_cg (fun c k z => e c k (by unfold PCm at z ⊢; omega)) g2
theorem RT_Ca {w w' : Wd} {t q : Nat} (h : RT w) (ht0 : t < 9) (hq2 : q < 2) (e : ∀ c k, ¬ PCa t q c k → w' c k = w c k) (n : Ca w' t q) : RT w' := by
  intro t' ht'
  obtain ⟨h1, h2, h3⟩ := h t' ht'
  refine ⟨Te_cg (fun c k z => e c k (by unfold PTe at z; unfold PCa; omega)) h1, Ti_cg (fun c k z => e c k (by unfold PTi at z; unfold PCa; omega)) h2, fun q' hq' => ?_⟩
  obtain ⟨g1, g2, g3⟩ := h3 q' hq'
  refine ⟨Cb_cg (fun c k z => e c k (by unfold PCb at z; unfold PCa; omega)) g1, Cm_cg (fun c k z => e c k (by unfold PCm at z; unfold PCa; omega)) g2, ?_⟩
  by_cases hz : t' = t ∧ q' = q
  · rw [hz.1, hz.2]; exact n
  · exact Ca_cg (fun c k z => e c k (by unfold PCa at z ⊢; omega)) g3
theorem RV_Vv {w w' : Wd} {v : Nat} (h : RV w) (hv0 : v < 20) (e : ∀ c k, ¬ PVv v c k → w' c k = w c k) (n : Vv w' v) : RV w' := by
  intro v' hv'
  by_cases hq : v' = v
  · rw [hq]; exact n
  · exact Vv_cg (fun c k q => e c k (by unfold PVv at q ⊢; omega)) (h v' hv')
