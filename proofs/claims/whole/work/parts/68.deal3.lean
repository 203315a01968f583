/-! Dealing, as the document's plain program does it -/
def InM (w : Wd) (u : Nat → Bool) (V : Nat → Nat) (H : Nat) : Prop := 1 ≤ H ∧ H ≤ 8 ∧ w 155 36 = nI H ∧ ∀ q, q < 150 → (u q = true ↔ w 182 q = -1) ∧ w 181 q = nI (V q) ∧ 1 ≤ V q ∧ V q ≤ 200
def FB (w : Wd) (v r B : Nat → Nat) (N : Nat) : Prop := ∀ s, s < N → B s ≤ B (s + 1) ∧ w 186 s = nI (B (s + 1) - B s) ∧ w 187 s = nI (Sm v (B (s + 1)) - Sm v (B s)) ∧ w 185 s = if B s < B (s + 1) then nI (r (B s) + 1) else -1
theorem FB_step {w : Wd} {v r B B' : Nat → Nat} {N t q : Nat} (h : FB w v r B N) (ht : t < N) (hb : B (t + 1) ≤ 150) (e1 : B' t = B t) (e2 : B' (t + 1) = B (t + 1) + 1) (e3 : ∀ s, s < N → s ≠ t → (B' s = B s ∧ B' (s + 1) = B (s + 1)) ∨ (B s = B (s + 1) ∧ B' s = B' (s + 1))) (hr : r (B (t + 1)) = q) :
    (w 186 t = 0 → FB (wr (wr (wr w 185 t (nI (q + 1))) 186 t (nI (B (t + 1) - B t + 1))) 187 t (nI (Sm v (B (t + 1)) - Sm v (B t) + v (B (t + 1))))) v r B' N) ∧ (¬ w 186 t = 0 → FB (wr (wr w 186 t (nI (B (t + 1) - B t + 1))) 187 t (nI (Sm v (B (t + 1)) - Sm v (B t) + v (B (t + 1))))) v r B' N) := by
  obtain ⟨t1, t2, t3, t4⟩ := h t ht
  have eS : Sm v (B' (t + 1)) = Sm v (B (t + 1)) + v (B (t + 1)) := by rw [e2]; rfl
  have mS := Sm_mono (v := v) t1
  have other : ∀ s, s < N → s ≠ t → B' s ≤ B' (s + 1) ∧ w 186 s = nI (B' (s + 1) - B' s) ∧ w 187 s = nI (Sm v (B' (s + 1)) - Sm v (B' s)) ∧ w 185 s = if B' s < B' (s + 1) then nI (r (B' s) + 1) else -1 := by
    intro s hs hst
    obtain ⟨s1, s2, s3, s4⟩ := h s hs
    rcases e3 s hs hst with ⟨a, b⟩ | ⟨a, b⟩
    · rw [a, b]; exact ⟨s1, s2, s3, s4⟩
    · rw [← a] at s2 s3 s4
      rw [← b]
      refine ⟨Nat.le_refl _, ?_, ?_, ?_⟩
      · rw [Nat.sub_self] at s2 ⊢; exact s2
      · rw [Nat.sub_self] at s3 ⊢; exact s3
      · rw [if_neg (Nat.lt_irrefl _)] at s4 ⊢; exact s4
  refine ⟨fun c s hs => ?_, fun c s hs => ?_⟩
  · by_cases hst : s = t
    · subst hst
      rw [e1, eS, e2]
      refine ⟨by omega, ?_, ?_, ?_⟩
      · rw [wr_nc (by omega), wr_eq]; congr 1; omega
      · rw [wr_eq]; congr 1; omega
      · have z : B (s + 1) - B s = 0 := (nI_eq (by omega) (by omega)).mp (show nI (B (s + 1) - B s) = nI 0 from t2.symm.trans c)
        rw [wr_nc (by omega), wr_nc (by omega), wr_eq, if_pos (by omega)]
        rw [show B s = B (s + 1) by omega, hr]
    · rw [wr_nc (c' := 186) (by omega), wr_nk hst, wr_nc (by omega), wr_nk hst, wr_nc (by omega), wr_nc (by omega), wr_nc (c' := 185) (by omega), wr_nc (by omega), wr_nk hst]
      exact other s hs hst
  · by_cases hst : s = t
    · subst hst
      rw [e1, eS, e2]
      refine ⟨by omega, ?_, ?_, ?_⟩
      · rw [wr_nc (by omega), wr_eq]; congr 1; omega
      · rw [wr_eq]; congr 1; omega
      · have z : ¬ B (s + 1) - B s = 0 := fun z => c (by rw [t2, z]; rfl)
        rw [wr_nc (by omega), wr_nc (by omega), t4, if_pos (by omega), if_pos (by omega)]
    · rw [wr_nc (c' := 186) (by omega), wr_nk hst, wr_nk hst, wr_nc (by omega), wr_nc (c' := 185) (by omega), wr_nc (by omega)]
      exact other s hs hst
def Bd (v : Nat → Nat) (m lim h i : Nat) (s : Nat) : Nat := if s ≤ h then st v m lim s else i
theorem ew_deals {zs : List Int32} {w0 : Wd} {u : Nat → Bool} {V : Nat → Nat} {H lim : Nat} {Q : Option AV → Wd → Prop} (hI : InM w0 u V H) (hl : lim ≤ 30000)
    (h1 : enough (fun i => V (rf u 150 i)) (cnt u 150) (7 * H) lim → ∀ w', (∀ c k, c ≠ 185 → c ≠ 186 → c ≠ 187 → w' c k = w0 c k) → FB w' (fun i => V (rf u 150 i)) (rf u 150) (st (fun i => V (rf u 150 i)) (cnt u 150) lim) (7 * H) → Q (some (.inl 1)) w')
    (h0 : ¬ enough (fun i => V (rf u 150 i)) (cnt u 150) (7 * H) lim → ∀ w', (∀ c k, c ≠ 185 → c ≠ 186 → c ≠ 187 → w' c k = w0 c k) → Q (some (.inl 0)) w') : Ew zs 0 m_Md_deals [.inr (.inl (some 155)), .inl (nI lim)] w0 Q := by
  obtain ⟨hH1, hH, h36, hq⟩ := hI
  have hm := cnt_le u 150
  have e7 : (7 * nI H : Int32) = nI (7 * H) := by rw [show (7 : Int32) = nI 7 from rfl, pk_mul]
  refine ew_of k_Md_deals rfl (sg_Md_deals_0 ?_)
  rw [h36, e7]
  generalize hv : (fun i => V (rf u 150 i)) = v at *
  have hvi : ∀ i, v i = V (rf u 150 i) := fun i => by rw [← hv]
  have v200 : ∀ i, i < cnt u 150 → v i ≤ 200 := fun i hi => by
    rw [hvi]; exact (hq _ (rf_of hi).2.1).2.2.2
  -- the walk over the psalms
  have walk := up_loop (fun q => ∀ w' h, (∀ c k, c ≠ 185 → c ≠ 186 → c ≠ 187 → w' c k = w0 c k) → h < 7 * H → st v (cnt u 150) lim h ≤ cnt u q → Sm v (cnt u q) ≤ Sm v (st v (cnt u 150) lim h) + lim → FB w' v (rf u 150) (Bd v (cnt u 150) lim h (cnt u q)) (7 * H) → Gw zs 0 m_Md_deals 47 [some (.inr (.inl (some 155))), some (.inl (nI lim)), some (.inl (nI (7 * H))), some (.inl (nI h)), some (.inl (nI q))] [] w' Q) 0 150 (by omega) ?_ ?_
  · have zero := up_loop (fun k => ∀ w', (∀ c j, c ≠ 185 → c ≠ 186 → c ≠ 187 → w' c j = w0 c j) → (∀ s, s < k → w' 185 s = -1 ∧ w' 186 s = 0 ∧ w' 187 s = 0) → Gw zs 0 m_Md_deals 10 [some (.inr (.inl (some 155))), some (.inl (nI lim)), some (.inl (nI (7 * H))), some (.inl (nI k)), none] [] w' Q) 0 (7 * H) (by omega) ?_ ?_
    · exact zero w0 (fun _ _ _ _ _ => rfl) (fun s hs => by omega)
    · intro w' a b
      refine sg_Md_deals_10 ⟨fun _ => ?_, fun c => absurd (nI_le (Nat.le_refl _) (by omega)) c⟩
      refine walk w' 0 a (by omega) (Nat.zero_le _) (by simp only [cnt, st, Sm]; omega) (fun s hs => ?_)
      have z : ∀ s, Bd v (cnt u 150) lim 0 (cnt u 0) s = 0 := by
        intro s
        unfold Bd
        split
        · rename_i c
          rw [Nat.le_zero.mp c]; rfl
        · rfl
      obtain ⟨b1, b2, b3⟩ := b s hs
      rw [z, z]
      exact ⟨Nat.le_refl _, b2, by rw [Nat.sub_self]; exact b3, by rw [if_neg (Nat.lt_irrefl _)]; exact b1⟩
    · intro k _ hk ih w' a b
      refine sg_Md_deals_10 ⟨fun c => absurd c (nI_gle hk (by omega)), fun _ => ?_⟩
      have vv := vinN (i := k) (n := 56) (by omega) (by omega)
      rw [nI_clampN (by omega), nI_1]
      refine ⟨vv, vv, vv, ih _ (fun c j q1 q2 q3 => ?_) (fun s hs => ?_)⟩
      · rw [wr_nc q3, wr_nc q2, wr_nc q1]; exact a c j q1 q2 q3
      · by_cases e : s = k
        · subst e
          refine ⟨?_, ?_, ?_⟩
          · rw [wr_nc (by omega), wr_nc (by omega), wr_eq]
          · rw [wr_nc (by omega), wr_eq]
          · rw [wr_eq]
        · rw [wr_nc (by omega), wr_nc (by omega), wr_nk e, wr_nc (by omega), wr_nk e, wr_nc (by omega), wr_nk e, wr_nc (by omega), wr_nc (by omega)]
          exact b s (by omega)
  · intro w' h a hh b1 b2 b3
    refine sg_Md_deals_47 ⟨fun _ => ?_, fun c => absurd (nI_le (a := 150) (b := 150) (by omega) (by omega)) c⟩
    have e1 : st v (cnt u 150) lim (h + 1) = cnt u 150 := hE_eq b1 (Nat.le_refl _) b2 (Or.inl rfl)
    have eB : Bd v (cnt u 150) lim h (cnt u 150) = st v (cnt u 150) lim := by
      funext s
      unfold Bd
      split
      · rfl
      · exact (st_full (by omega) e1).symm
    rw [eB] at b3
    exact h1 (st_full (by omega) e1) w' a b3
  · intro q _ hq150 ih w' h a hh b1 b2 b3
    obtain ⟨i1, i2, i3, i4⟩ := hq q hq150
    have vq := vinN (i := q) (n := 150) hq150 (by omega)
    have vh := vinN (i := h) (n := 56) (by omega) (by omega)
    refine sg_Md_deals_47 ⟨fun c => absurd c (nI_gle (a := 150) (b := q) (by omega) (by omega)), fun _ => ⟨vq, ?_⟩⟩
    rw [nI_clampN (n := q) (by omega), nI_clampN (n := h) (by omega), a 182 q (by omega) (by omega) (by omega), a 181 q (by omega) (by omega) (by omega), i2, nI_1, nI_1]
    refine ⟨fun c => ⟨vq, fun c2 => ?_, fun c2 => ?_⟩, fun c => ?_⟩
    · have hu := i1.mpr c
      have hlt := cnt_lt hq150 hu
      have ri : rf u 150 (cnt u q) = q := rf_cnt hq150 hu
      have vi : v (cnt u q) = V q := by rw [hvi, ri]
      have e1 : cnt u (q + 1) = cnt u q + 1 := by simp only [cnt, hu, if_true]
      have hvl : V q ≤ lim := by
        rcases Nat.lt_or_ge lim (V q) with z | z
        · exact absurd c2 (nI_gle z (by omega))
        · exact z
      have s3 := Sm_30000 (v := v) hm v200 (i := cnt u q) (by omega)
      obtain ⟨f1, f2, f3, f4⟩ := b3 h hh
      have Bh : Bd v (cnt u 150) lim h (cnt u q) h = st v (cnt u 150) lim h := by unfold Bd; rw [if_pos (Nat.le_refl _)]
      have Bh1 : Bd v (cnt u 150) lim h (cnt u q) (h + 1) = cnt u q := by unfold Bd; rw [if_neg (by omega)]
      rw [Bh, Bh1] at f3 f2
      have smono := Sm_mono (v := v) b1
      have eS : Sm v (cnt u q + 1) = Sm v (cnt u q) + v (cnt u q) := rfl
      rw [f3, nI_add]
      refine ⟨vh, vq, fun c3 => ⟨fun c4 => ?_, fun _ => ?_⟩, fun c3 => ⟨fun c4 => ?_, fun c4 => ?_⟩⟩
      · exact absurd ((nI_eq (by omega) (by omega)).mp c4) (by omega)
      · -- it stays in its hour
        have hin : Sm v (cnt u q) - Sm v (st v (cnt u 150) lim h) + V q ≤ lim := by
          rcases Nat.lt_or_ge lim (Sm v (cnt u q) - Sm v (st v (cnt u 150) lim h) + V q) with z | z
          · exact absurd c3 (nI_gle z (by omega))
          · exact z
        have stp := FB_step (B' := Bd v (cnt u 150) lim h (cnt u q + 1)) (q := q) b3 hh (by rw [Bh1]; omega) (by unfold Bd; rw [if_pos (Nat.le_refl _), if_pos (Nat.le_refl _)]) (by rw [Bh1]; unfold Bd; rw [if_neg (by omega)]) (fun s hs hst => by
          unfold Bd
          rcases Nat.lt_or_ge s h with z | z
          · rw [if_pos (by omega), if_pos (by omega), if_pos (by omega), if_pos (by omega)]; exact Or.inl ⟨rfl, rfl⟩
          · rw [if_neg (by omega), if_neg (by omega), if_neg (by omega), if_neg (by omega)]; exact Or.inr ⟨rfl, rfl⟩) (by rw [Bh1]; exact ri)
        rw [Bh, Bh1, vi] at stp
        have go : ∀ w2, (∀ c k, c ≠ 185 → c ≠ 186 → c ≠ 187 → w2 c k = w0 c k) → FB w2 v (rf u 150) (Bd v (cnt u 150) lim h (cnt u q + 1)) (7 * H) → Gw zs 0 m_Md_deals 47 [some (.inr (.inl (some 155))), some (.inl (nI lim)), some (.inl (nI (7 * H))), some (.inl (nI h)), some (.inl (nI (q + 1)))] [] w2 Q := fun w2 a2 b4 => ih w2 h a2 hh (by rw [e1]; omega) (by rw [e1, eS, vi]; omega) (by rw [e1]; exact b4)
        refine ⟨vh, fun c5 => ?_, fun c5 => ?_⟩
        · refine ⟨vh, vh, vh, vh, vq, vh, go _ (fun c k q1 q2 q3 => ?_) ?_⟩
          · rw [wr_nc q3, wr_nc q2, wr_nc q1]; exact a c k q1 q2 q3
          · have g := stp.1 c5
            rw [f2, nI_1]
            exact g
        · refine ⟨vh, vh, vh, vq, vh, go _ (fun c k q1 q2 q3 => ?_) ?_⟩
          · rw [wr_nc q3, wr_nc q2]; exact a c k q1 q2 q3
          · have g := stp.2 c5
            rw [f2, nI_1]
            exact g
      · -- no hour is left
        have hN : h + 1 = 7 * H := (nI_eq (by omega) (by omega)).mp c4
        have hout : lim < Sm v (cnt u q) - Sm v (st v (cnt u 150) lim h) + V q := by
          rcases Nat.lt_or_ge lim (Sm v (cnt u q) - Sm v (st v (cnt u 150) lim h) + V q) with z | z
          · exact z
          · exact absurd (nI_le z (by omega)) c3
        have e2 : st v (cnt u 150) lim (h + 1) = cnt u q := hE_eq b1 (by omega) b2 (Or.inr (by rw [eS, vi]; omega))
        refine h0 (fun z => ?_) w' a
        unfold enough at z
        rw [← hN, e2] at z
        omega
      · -- it opens the next hour
        have hN : ¬ h + 1 = 7 * H := fun z => c4 (by rw [z])
        have hout : lim < Sm v (cnt u q) - Sm v (st v (cnt u 150) lim h) + V q := by
          rcases Nat.lt_or_ge lim (Sm v (cnt u q) - Sm v (st v (cnt u 150) lim h) + V q) with z | z
          · exact z
          · exact absurd (nI_le z (by omega)) c3
        have e2 : st v (cnt u 150) lim (h + 1) = cnt u q := hE_eq b1 (by omega) b2 (Or.inr (by rw [eS, vi]; omega))
        have vh1 := vinN (i := h + 1) (n := 56) (by omega) (by omega)
        have Bh2 : Bd v (cnt u 150) lim h (cnt u q) (h + 1 + 1) = cnt u q := by unfold Bd; rw [if_neg (by omega)]
        obtain ⟨k1, k2, k3, k4⟩ := b3 (h + 1) (by omega)
        rw [Bh1, Bh2] at k2 k3
        have stp := FB_step (B' := Bd v (cnt u 150) lim (h + 1) (cnt u q + 1)) (t := h + 1) (q := q) b3 (by omega) (by rw [Bh2]; omega) (by unfold Bd; rw [if_pos (Nat.le_refl _), if_neg (by omega)]; exact e2) (by rw [Bh2]; unfold Bd; rw [if_neg (by omega)]) (fun s hs hst => by
          unfold Bd
          rcases Nat.lt_or_ge s h with z | z
          · rw [if_pos (by omega), if_pos (by omega), if_pos (by omega), if_pos (by omega)]; exact Or.inl ⟨rfl, rfl⟩
          · rcases Nat.lt_or_ge h s with z2 | z2
            · rw [if_neg (by omega), if_neg (by omega), if_neg (by omega), if_neg (by omega)]; exact Or.inr ⟨rfl, rfl⟩
            · have : s = h := by omega
              subst this
              rw [if_pos (by omega), if_pos (by omega), if_pos (by omega), if_neg (by omega)]; exact Or.inl ⟨rfl, e2⟩) (by rw [Bh2]; exact ri)
        rw [Bh1, Bh2, vi] at stp
        have go : ∀ w2, (∀ c k, c ≠ 185 → c ≠ 186 → c ≠ 187 → w2 c k = w0 c k) → FB w2 v (rf u 150) (Bd v (cnt u 150) lim (h + 1) (cnt u q + 1)) (7 * H) → Gw zs 0 m_Md_deals 47 [some (.inr (.inl (some 155))), some (.inl (nI lim)), some (.inl (nI (7 * H))), some (.inl (nI (h + 1))), some (.inl (nI (q + 1)))] [] w2 Q := fun w2 a2 b4 => ih w2 (h + 1) a2 (by omega) (by rw [e1, e2]; omega) (by rw [e1, e2, eS, vi]; omega) (by rw [e1]; exact b4)
        rw [nI_clampN (n := h + 1) (by omega)]
        refine ⟨vh1, fun c5 => ?_, fun c5 => ?_⟩
        · refine ⟨vh1, vh1, vh1, vh1, vq, vh1, go _ (fun c k q1 q2 q3 => ?_) ?_⟩
          · rw [wr_nc q3, wr_nc q2, wr_nc q1]; exact a c k q1 q2 q3
          · have g := stp.1 c5
            rw [k2, k3, nI_1, nI_add]
            exact g
        · refine ⟨vh1, vh1, vh1, vq, vh1, go _ (fun c k q1 q2 q3 => ?_) ?_⟩
          · rw [wr_nc q3, wr_nc q2]; exact a c k q1 q2 q3
          · have g := stp.2 c5
            rw [k2, k3, nI_1, nI_add]
            exact g
    · have hu := i1.mpr c
      have hlt := cnt_lt hq150 hu
      have vi : v (cnt u q) = V q := by rw [hvi, rf_cnt hq150 hu]
      refine h0 (not_enough hlt ?_) w' a
      rw [vi]
      rcases Nat.lt_or_ge lim (V q) with z | z
      · exact z
      · exact absurd (nI_le z (by omega)) c2
    · have hu : ¬ u q = true := fun z => c (i1.mp z)
      have e1 : cnt u (q + 1) = cnt u q := by simp only [cnt]; rw [if_neg hu]; omega
      exact ih w' h a hh (by rw [e1]; exact b1) (by rw [e1]; exact b2) (by rw [e1]; exact b3)
