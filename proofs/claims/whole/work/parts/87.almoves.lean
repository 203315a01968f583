/-! The almanac's moves -/
theorem oO_m1 {o : Option Nat} {n : Nat} (hn : n < 100000) (h : ∀ x, o = some x → x < n) : oO o = -1 ↔ o = none := by
  cases o with
  | none => exact ⟨fun _ => rfl, fun _ => rfl⟩
  | some x =>
    have := h x rfl
    exact ⟨fun q => absurd q (m1_nI (n := x) (by omega)), fun q => by cases q⟩
theorem mvI_m1 {m : Option (Option Nat)} {n : Nat} (hn : n < 100000) (h : ∀ x, m = some (some x) → x < n) : mvI m = -1 ↔ m = none := by
  cases m with
  | none => exact ⟨fun _ => rfl, fun _ => rfl⟩
  | some m =>
    refine ⟨fun q => ?_, fun q => by cases q⟩
    cases m with
    | none => revert q; decide
    | some x =>
      have := h x rfl
      exact absurd q (m1_nI (n := x) (by omega))
/-- the rows of the choir's feasts, by number -/
theorem AB_f {w : Wd} {i : Nat} {y : YT} (hb : AB w i y) {f : Nat} (hf : f < y.nF) : f_Fea_wayOf w (nI f) = nI (y.wy f) ∧ f_Fea_rankOf w (nI f) = nI (y.rk f) ∧ f_at w 20 60 (nI f) = oO (y.own f) ∧ f_Fea_colourOf w (nI f) = y.co f ∧ f_Alm_feastCandidate w (nI f) = nI (cod 2 (y.rk f) f) ∧ y.wy f ≤ 2 ∧ y.rk f ≤ 9 ∧ 1 ≤ y.rk f ∧ f < 60 ∧ ∀ o, y.own f = some o → o < y.N := by
  have hy := AB_ok hb
  obtain ⟨hR, hi, ey, h8, h9, h17, h20⟩ := hb
  have h60 := hy.2.2.2.1
  have fe := yv_feast hR hi (f := f) (by rw [← ey]; exact hf)
  rw [← ey] at fe
  obtain ⟨⟨-, fo⟩, ⟨f164, r1, r2⟩, ⟨f167, -⟩, ⟨f166, y2⟩, -, f165, -, -, -, f11, f12, f13, f14, -⟩ := fe
  have er : f_Fea_rankOf w (nI f) = nI (y.rk f) := by
    show f_at w 11 60 (nI f) = _
    rw [f_at_in (by omega) (by omega), f11, f164]
  refine ⟨?_, er, ?_, ?_, ?_, y2, r2, r1, by omega, fo⟩
  · show f_at w 13 60 (nI f) = _
    rw [f_at_in (by omega) (by omega), f13, f166]
  · rw [f_at_in (by omega) (by omega), h20 f hf]
  · show f_at w 12 60 (nI f) = _
    rw [f_at_in (by omega) (by omega), f12, f165]
  · show f_Alm_candidate (f_Fea_rankOf w (nI f)) 2 (nI f) = _
    rw [er]
    exact cand_cod (k := 2) (by omega) (by omega) (by omega) (by omega)
theorem AB_n {w : Wd} {i : Nat} {y : YT} (hb : AB w i y) : f_Fea_count w = nI y.nF := by
  obtain ⟨hR, hi, ey, -⟩ := hb
  have hn := (yv_nF hR i).2.1
  rw [← ey] at hn
  exact hn
theorem toMove_eq {w : Wd} {i : Nat} {y : YT} {mv : Nat → Option (Option Nat)} (hb : AB w i y) {f : Nat} (hf : f < y.nF) (h21 : w 21 f = mvI (mv f)) (hmv : ∀ d, mv f = some (some d) → d < y.N) : f_Alm_isToMove w (nI f) = if dueM y mv f = true then 1 else 0 := by
  have hy := AB_ok hb
  have hN := hy.2.2.1
  obtain ⟨e1, e2, e3, e4, e5, y2, r2, r1, f60, fo⟩ := AB_f hb hf
  unfold f_Alm_isToMove
  rw [e1, e3, f_at_in (by omega) (by omega), h21]
  by_cases c : nI (y.wy f) = (2 : Int32)
  · have cw : y.wy f = 2 := (nI_eq (by omega) (by omega)).mp (show nI (y.wy f) = nI 2 from c)
    rw [if_pos c]
    by_cases c1 : oO (y.own f) = -1
    · have z := (oO_m1 (by omega) fo).mp c1
      rw [if_pos c1, if_neg (fun q => by
        obtain ⟨-, ⟨o, ho⟩, -⟩ := due_c.mp q
        rw [z] at ho
        cases ho)]
    · rw [if_neg c1]
      by_cases c2 : mvI (mv f) = -1
      · have z := (mvI_m1 (by omega) hmv).mp c2
        rw [if_pos c2, if_pos (due_c.mpr ⟨cw, by
          cases ho : y.own f with
          | none => rw [ho] at c1; exact absurd rfl c1
          | some o => exact ⟨o, rfl⟩, z⟩)]
      · rw [if_neg c2, if_neg (fun q => c2 (by rw [(due_c.mp q).2.2]; rfl))]
  · rw [if_neg c, if_neg (fun q => c (by rw [(due_c.mp q).1]; rfl))]
theorem before_eq {w : Wd} {i : Nat} {y : YT} (hb : AB w i y) {f g : Nat} (hf : f < y.nF) (hg : g < y.nF) (of : ∃ o, y.own f = some o) (og : ∃ o, y.own g = some o) : f_Alm_isMovedBefore w (nI f) (nI g) = if befM y f g = true then 1 else 0 := by
  have hy := AB_ok hb
  have hN := hy.2.2.1
  obtain ⟨o, of⟩ := of
  obtain ⟨o', og⟩ := og
  obtain ⟨e1, e2, e3, e4, e5, y2, r2, r1, f60, fo⟩ := AB_f hb hf
  obtain ⟨a1, a2, a3, a4, a5, b2, s2, s1, g60, go⟩ := AB_f hb hg
  have h1 := fo o of
  have h2 := go o' og
  have n1 : owN y f = o := by unfold owN; rw [of]; rfl
  have n2 : owN y g = o' := by unfold owN; rw [og]; rfl
  unfold f_Alm_isMovedBefore
  rw [e2, a2, e3, a3, of, og]
  show (if nI (y.rk f) = nI (y.rk g) then if nI o' ≤ nI o then 0 else 1 else if nI (y.rk f) ≤ nI (y.rk g) then 0 else 1) = _
  unfold befM
  rw [n1, n2]
  by_cases c : y.rk f = y.rk g
  · rw [if_pos (by rw [c])]
    by_cases c2 : o < o'
    · rw [if_neg (nI_gle c2 (by omega)), if_pos (by rw [decide_eq_true_iff]; exact Or.inr ⟨c, c2⟩)]
    · rw [if_pos (nI_le (by omega) (by omega)), if_neg (by rw [decide_eq_true_iff]; omega)]
  · rw [if_neg (nI_ne (by omega) (by omega) c)]
    by_cases c2 : y.rk g < y.rk f
    · rw [if_neg (nI_gle c2 (by omega)), if_pos (by rw [decide_eq_true_iff]; exact Or.inl c2)]
    · rw [if_pos (nI_le (by omega) (by omega)), if_neg (by rw [decide_eq_true_iff]; omega)]
theorem ew_ntm {zs : List Int32} {w : Wd} {i : Nat} {y : YT} {mv : Nat → Option (Option Nat)} {Q : Option AV → Wd → Prop} (hb : AB w i y) (h21 : ∀ f, f < y.nF → w 21 f = mvI (mv f)) (hmv : ∀ f, f < y.nF → ∀ d, mv f = some (some d) → d < y.N) (h : Q (some (.inl (oO (nxM y mv y.nF)))) w) : Ew zs 3 m_Alm_nextToMove [.inr (.inl (some 16))] w Q := by
  have h60 := (AB_ok hb).2.2.2.1
  refine ew_of k_Alm_nextToMove rfl (sg_Alm_nextToMove_0 ?_)
  have g := up_loop (fun f => Gw zs 3 m_Alm_nextToMove 4 [some (.inr (.inl (some 16))), some (.inl (oO (nxM y mv f))), some (.inl (nI f))] [] w Q) 0 y.nF (by omega) ?_ ?_
  · exact g
  · refine sg_Alm_nextToMove_4 ?_
    rw [AB_n hb]
    exact ⟨fun _ => h, fun c => absurd (nI_le (Nat.le_refl _) (by omega)) c⟩
  · intro f _ hf ih
    refine sg_Alm_nextToMove_4 ?_
    rw [AB_n hb, toMove_eq hb hf (h21 f hf) (hmv f hf), nI_1]
    simp only [nxM] at ih
    refine ⟨fun c => absurd c (nI_gle hf (by omega)), fun _ => ⟨fun c => ?_, fun c => ?_⟩⟩
    · by_cases du : dueM y mv f = true
      · rw [if_pos du] at c; exact absurd c one_ne
      · rw [if_neg du] at ih; exact ih
    · by_cases du : dueM y mv f = true
      · rw [if_pos du] at ih
        cases hn : nxM y mv f with
        | none =>
          rw [hn] at ih
          exact ⟨fun _ => ih, fun z => absurd rfl z⟩
        | some g =>
          rw [hn] at ih
          obtain ⟨g1, g2⟩ := nxM_some hn
          have n1 : ¬ oO (some g) = -1 := m1_nI (n := g) (by omega)
          refine ⟨fun z => absurd z n1, fun _ => ?_⟩
          rw [show oO (some g) = nI g from rfl, before_eq hb hf (by omega) (due_c.mp du).2.1 (due_c.mp g2).2.1]
          by_cases b : befM y f g = true
          · simp only [if_pos b] at ih
            rw [if_pos b]
            exact ⟨fun z => absurd z one_ne, fun _ => ih⟩
          · simp only [if_neg b] at ih
            rw [if_neg b]
            exact ⟨fun _ => ih, fun z => absurd rfl z⟩
      · rw [if_neg du] at c; exact absurd rfl c
theorem gives_eq {w : Wd} {i : Nat} {y : YT} {off : Nat → Nat} {d r : Nat} (hb : AB w i y) (hok : cOK y (off d)) (hr : r ≤ 9) : f_Alm_givesWay w (nI (off d)) (nI r) = if gwM y off r d = true then 1 else 0 := by
  obtain ⟨k1, k2, k3, k4, k5, k6, k7⟩ := cOK_dk hok
  unfold f_Alm_givesWay gwM
  rw [k5, k6, k7]
  have fin : (¬ (dkC (off d) = 2 ∧ y.wy (dgC (off d)) = 2)) → (if nI r ≤ nI (drC (off d)) then (0 : Int32) else 1) = if decide (¬ (dkC (off d) = 2 ∧ y.wy (dgC (off d)) = 2) ∧ drC (off d) < r) = true then 1 else 0 := by
    intro hn
    by_cases q : drC (off d) < r
    · rw [if_neg (nI_gle q (by omega)), if_pos (by rw [decide_eq_true_iff]; exact ⟨hn, q⟩)]
    · rw [if_pos (nI_le (by omega) (by omega)), if_neg (by rw [decide_eq_true_iff]; exact fun z => q z.2)]
  by_cases c : dkC (off d) = 2
  · have e : nI (dkC (off d)) = (2 : Int32) := by rw [c]; rfl
    rw [if_pos e]
    have hg := k3 (by omega)
    obtain ⟨e1, -, -, -, -, y2, -⟩ := AB_f hb hg
    have ef : fI (dkC (off d)) (dgC (off d)) = nI (dgC (off d)) := by unfold fI; rw [if_neg (by omega)]
    rw [ef, e1]
    by_cases c2 : y.wy (dgC (off d)) = 2
    · have e2 : nI (y.wy (dgC (off d))) = (2 : Int32) := by rw [c2]; rfl
      rw [if_pos e2, if_neg (by rw [decide_eq_true_iff]; exact fun z => z.1 ⟨c, c2⟩)]
    · have e2 : ¬ nI (y.wy (dgC (off d))) = (2 : Int32) := nI_ne (b := 2) (by omega) (by omega) c2
      rw [if_neg e2]
      exact fin (fun z => c2 z.2)
  · have e : ¬ nI (dkC (off d)) = (2 : Int32) := nI_ne (b := 2) (by omega) (by omega) c
    rw [if_neg e]
    exact fin (fun z => c z.1)
theorem ew_placeFor {zs : List Int32} {w : Wd} {i : Nat} {y : YT} {off : Nat → Nat} {f o : Nat} {Q : Option AV → Wd → Prop} (hb : AB w i y) (h18 : ∀ d, d < y.N → w 18 d = nI (off d)) (hok : ∀ d, d < y.N → cOK y (off d)) (hf : f < y.nF) (ho : y.own f = some o) (h0 : plM y off f = none → Q (some (.inl (-4))) w) (h1 : ∀ d, plM y off f = some d → Q (some (.inl (nI d))) (wr w 18 d (nI (cod 2 (y.rk f) f)))) : Ew zs 3 m_Alm_placeFor [.inr (.inl (some 16)), .inl (nI f)] w Q := by
  have hy := AB_ok hb
  have hN := hy.2.2.1
  have hN1 := hy.2.1
  obtain ⟨e1, e2, e3, e4, e5, y2, r2, r1, f60, fo⟩ := AB_f hb hf
  have hoN := fo o ho
  have n1 : owN y f = o := by unfold owN; rw [ho]; rfl
  obtain ⟨hR, hi, ey, h8, h9, h17, h20⟩ := hb
  have hb : AB w i y := ⟨hR, hi, ey, h8, h9, h17, h20⟩
  refine ew_of k_Alm_placeFor rfl (sg_Alm_placeFor_0 ?_)
  rw [e3, ho, h8]
  show Gw zs 3 m_Alm_placeFor 28 [some (.inr (.inl (some 16))), some (.inl (nI f)), some (.inl (nI o)), some (.inl (if (nI y.N - 1) < nI o + 60 then (nI y.N - 1) else nI o + 60)), some (.inl (nI o + 1))] [] w Q
  have eM : (if (nI y.N - 1 : Int32) < nI o + 60 then (nI y.N - 1 : Int32) else nI o + 60) = nI (min (o + 60) (y.N - 1)) := by
    rw [show (nI y.N - 1 : Int32) = nI (y.N - 1) from pk_sub (b := 1) (by omega), show (60 : Int32) = nI 60 from rfl, nI_add]
    by_cases c : y.N - 1 < o + 60
    · rw [if_pos (nI_lt c (by omega)), Nat.min_eq_right (by omega)]
    · rw [if_neg (nI_nlt (by omega) (by omega)), Nat.min_eq_left (by omega)]
  rw [eM, nI_1]
  have key : ∀ n t, t + n = min (o + 60) (y.N - 1) + 1 → ffM (gwM y off (y.rk f)) n t = plM y off f → Gw zs 3 m_Alm_placeFor 28 [some (.inr (.inl (some 16))), some (.inl (nI f)), some (.inl (nI o)), some (.inl (nI (min (o + 60) (y.N - 1)))), some (.inl (nI t))] [] w Q := by
    intro n
    induction n with
    | zero =>
      intro t ht hp
      refine sg_Alm_placeFor_28 ⟨fun _ => h0 hp.symm, fun c => absurd (nI_lt (by omega) (by omega)) c⟩
    | succ n ih =>
      intro t ht hp
      have htN : t < y.N := by omega
      simp only [ffM] at hp
      refine sg_Alm_placeFor_28 ⟨fun c => absurd c (nI_nlt (by omega) (by omega)), fun _ => ?_⟩
      rw [f_at_in (by omega) (by omega), h18 t htN, e2, gives_eq hb (hok t htN) r2, e5, nI_1]
      by_cases c : gwM y off (y.rk f) t = true
      · rw [if_pos c] at hp ⊢
        refine ⟨fun z => absurd z one_ne, fun _ => ?_⟩
        rw [g_put_in (by omega) (by omega)]
        exact h1 t hp.symm
      · rw [if_neg c] at hp ⊢
        exact ⟨fun _ => ih (t + 1) (by omega) hp, fun z => absurd rfl z⟩
  refine key (min (o + 60) (y.N - 1) - o) (o + 1) (by omega) ?_
  unfold plM
  rw [n1]
def CM (b w : Wd) (y : YT) (s : SM) : Prop := (∀ c k, c ≠ 18 → c ≠ 21 → w c k = b c k) ∧ (∀ d, d < y.N → w 18 d = nI (s.off d)) ∧ ∀ f, f < y.nF → w 21 f = mvI (s.mv f)
theorem CM_AB {b w : Wd} {i : Nat} {y : YT} {s : SM} (hb : AB b i y) (h : CM b w y s) : AB w i y := AB_cg (fun c k h1 _ h3 => h.1 c k h1 h3) hb
theorem ew_moveFeasts {zs : List Int32} {b : Wd} {i : Nat} {y : YT} {Q : Option AV → Wd → Prop} (hb : AB b i y) (h18 : ∀ d, d < y.N → b 18 d = nI (off0 y d)) (h : ∀ w', CM b w' y (offF y, mvF y) → Q none w') : Ew zs 4 m_Alm_moveFeasts [.inr (.inl (some 16))] b Q := by
  have hy := AB_ok hb
  have hN := hy.2.2.1
  have h60 := hy.2.2.2.1
  have steps := up_loop (fun k => ∀ w o2 o3, CM b w y (itM y k) → Gw zs 4 m_Alm_moveFeasts 74 [some (.inr (.inl (some 16))), some (.inl (nI k)), o2, o3] [] w Q) 0 y.nF (by omega) ?_ ?_
  · have first := up_loop (fun f => ∀ w o2 o3, (∀ c k, c ≠ 21 → w c k = b c k) → (∀ g, g < f → w 21 g = mvI (mv0 y g)) → Gw zs 4 m_Alm_moveFeasts 2 [some (.inr (.inl (some 16))), some (.inl (nI f)), o2, o3] [] w Q) 0 y.nF (by omega) ?_ ?_
    · refine ew_of k_Alm_moveFeasts rfl (sg_Alm_moveFeasts_0 ?_)
      exact first b _ _ (fun _ _ _ => rfl) (fun g hg => by omega)
    · intro w o2 o3 a1 a2
      have hbw : AB w i y := AB_cg (fun c k _ _ h3 => a1 c k h3) hb
      refine sg_Alm_moveFeasts_2 ?_
      rw [AB_n hbw]
      exact ⟨fun _ => steps w _ _ ⟨fun c k _ h2 => a1 c k h2, fun d hd => (a1 _ _ (by omega)).trans (h18 d hd), a2⟩, fun c => absurd (nI_le (Nat.le_refl _) (by omega)) c⟩
    · intro f _ hf ih w o2 o3 a1 a2
      have hbw : AB w i y := AB_cg (fun c k _ _ h3 => a1 c k h3) hb
      obtain ⟨e1, e2, e3, e4, e5, y2, r2, r1, f60, fo⟩ := AB_f hbw hf
      refine sg_Alm_moveFeasts_2 ?_
      rw [AB_n hbw, e3, e5, nI_1]
      have put : ∀ (v : Int32) o2 o3, v = mvI (mv0 y f) → Gw zs 4 m_Alm_moveFeasts 2 [some (.inr (.inl (some 16))), some (.inl (nI (f + 1))), o2, o3] [] (g_put w 21 60 (nI f) v) Q := by
        intro v o2 o3 hv
        rw [g_put_in (by omega) (by omega)]
        refine ih _ _ _ (fun c k hc => by rw [wr_nc hc]; exact a1 c k hc) (fun g hg => ?_)
        by_cases q : g = f
        · subst q; rw [wr_eq]; exact hv
        · rw [wr_nk q]; exact a2 g (by omega)
      refine ⟨fun c => absurd c (nI_gle hf (by omega)), fun _ => ?_⟩
      have em : mv0 y f = match y.own f with | none => none | some o => if off0 y o = cod 2 (y.rk f) f then some (some o) else none := rfl
      cases ho : y.own f with
      | none =>
        rw [ho] at em
        exact ⟨fun _ => put _ _ _ (by rw [em]; rfl), fun c => absurd rfl c⟩
      | some o =>
        rw [ho] at em
        have hoN := fo o ho
        have n1 : ¬ oO (some o) = -1 := m1_nI (n := o) (by omega)
        refine ⟨fun c => absurd c n1, fun _ => ?_⟩
        rw [show oO (some o) = nI o from rfl, f_at_in (by omega) (by omega), a1 18 o (by omega), h18 o hoN]
        have c1 := cOK_lt (off0_ok hy hoN)
        have c2 := cOK_lt (cOK_feast hy hf)
        refine ⟨fun c => put _ _ _ ?_, fun c => put _ _ _ ?_⟩
        · have q := (nI_eq (by omega) (by omega)).mp c
          rw [em]
          show _ = mvI (if off0 y o = cod 2 (y.rk f) f then some (some o) else none)
          rw [if_pos q]
          rfl
        · have q : ¬ off0 y o = cod 2 (y.rk f) f := fun z => c (by rw [z])
          rw [em]
          show _ = mvI (if off0 y o = cod 2 (y.rk f) f then some (some o) else none)
          rw [if_neg q]
          rfl
  · intro w o2 o3 hC
    refine sg_Alm_moveFeasts_74 ?_
    rw [AB_n (CM_AB hb hC)]
    exact ⟨fun _ => h w hC, fun c => absurd (nI_le (Nat.le_refl _) (by omega)) c⟩
  · intro k _ hk ih w o2 o3 hC
    have hbw := CM_AB hb hC
    obtain ⟨m1, m2, m3⟩ := MI_it hy k
    refine sg_Alm_moveFeasts_74 ?_
    rw [AB_n hbw, nI_1]
    refine ⟨fun c => absurd c (nI_gle hk (by omega)), fun _ => ?_⟩
    refine ew_ntm hbw hC.2.2 m3 ⟨_, rfl, ?_⟩
    cases hn : nxM y (itM y k).mv y.nF with
    | none =>
      refine ⟨fun _ => h w ?_, fun c => absurd rfl c⟩
      have e := it_fin (Nat.le_of_lt hk) hn
      rw [e] at hC
      exact hC
    | some f =>
      obtain ⟨f1, f2⟩ := nxM_some hn
      obtain ⟨u1, ⟨o, u2⟩, u3⟩ := due_c.mp f2
      have n1 : ¬ oO (some f) = -1 := m1_nI (n := f) (by omega)
      have es : itM y (k + 1) = pstM y (itM y k) f (plM y (itM y k).off f) := stM_some hn
      refine ⟨fun c => absurd c n1, fun _ => ?_⟩
      rw [show oO (some f) = nI f from rfl]
      refine ew_placeFor hbw hC.2.1 m1 f1 u2 (fun hp => ⟨_, rfl, ?_⟩) (fun d hp => ⟨_, rfl, ?_⟩)
      · rw [g_put_in (by omega) (by omega)]
        rw [hp] at es
        refine ih _ _ _ ?_
        rw [es]
        refine ⟨fun c k' h1 h2 => by rw [wr_nc h2]; exact hC.1 c k' h1 h2, fun d hd => ?_, fun g hg => ?_⟩
        · rw [wr_nc (by omega)]; exact hC.2.1 d hd
        · show _ = mvI (upM (itM y k).mv f (some none) g)
          by_cases q : g = f
          · subst q; rw [wr_eq, upM_eq]; rfl
          · rw [wr_nk q, upM_ne q]; exact hC.2.2 g hg
      · rw [g_put_in (by omega) (by omega)]
        rw [hp] at es
        refine ih _ _ _ ?_
        rw [es]
        refine ⟨fun c k' h1 h2 => by rw [wr_nc h2, wr_nc h1]; exact hC.1 c k' h1 h2, fun e he => ?_, fun g hg => ?_⟩
        · show _ = nI (upM (itM y k).off d (cod 2 (y.rk f) f) e)
          rw [wr_nc (by omega)]
          by_cases q : e = d
          · subst q; rw [wr_eq, upM_eq]
          · rw [wr_nk q, upM_ne q]; exact hC.2.1 e he
        · show _ = mvI (upM (itM y k).mv f (some (some d)) g)
          by_cases q : g = f
          · subst q; rw [wr_eq, upM_eq]; rfl
          · rw [wr_nk q, wr_nc (by omega), upM_ne q]; exact hC.2.2 g hg
