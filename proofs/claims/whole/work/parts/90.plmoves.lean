/-! The plain program's moves -/
def mR (own : Option Nat) (m : Option (Option Nat)) : Int32 := match m with | none => -1 | some none => -2 | some (some d) => if own = some d then -1 else nI d
def MM (w : Wd) (y : YT) (s : SM) : Prop := (∀ d, d < y.N → RO w y d (s.off d)) ∧ ∀ f, f < y.nF → w 170 f = mR (y.own f) (s.mv f)
theorem MY_f {w : Wd} {i : Nat} {y : YT} (h : MY w i y) {f : Nat} (hf : f < y.nF) : w 169 f = oO (y.own f) ∧ w 166 f = nI (y.wy f) ∧ y.wy f ≤ 2 ∧ w 164 f = nI (y.rk f) ∧ y.rk f ≤ 9 ∧ w 165 f = y.co f ∧ f < 60 ∧ ∀ o, y.own f = some o → o < y.N := by
  have hy := MY_ok h
  have h60 := hy.2.2.2.1
  obtain ⟨h1, h2, h3, h4, h5, h6⟩ := h
  have fe := yv_feast h1 h2 (f := f) (by rw [← h3]; exact hf)
  rw [← h3] at fe
  obtain ⟨⟨-, fo⟩, ⟨f164, r1, r2⟩, -, ⟨f166, y2⟩, -, f165, -⟩ := fe
  exact ⟨h6 f hf, f166, y2, f164, r2, f165, by omega, fo⟩
theorem MY_n {w : Wd} {i : Nat} {y : YT} (h : MY w i y) : w 155 1 = nI y.nF := by
  have hn := (yv_nF h.1 i).1
  rw [← h.2.2.1] at hn
  exact hn
theorem RO_feast {w : Wd} {y : YT} {d c f : Nat} (hok : cOK y c) (hf : f < 60) (hy : Yok y) (h : RO w y d c) : (w 171 d = 2 ∧ w 172 d = nI f) ↔ c = cod 2 (y.rk f) f := by
  obtain ⟨k1, k2, k3, k4, -⟩ := cOK_dk hok
  obtain ⟨a1, a2, a3, a4⟩ := h
  have h60 := hy.2.2.2.1
  rw [a1, a2]
  refine ⟨fun ⟨q1, q2⟩ => ?_, fun q => ?_⟩
  · have e : dkC c = 2 := (nI_eq (by omega) (by omega)).mp (show nI (dkC c) = nI 2 from q1)
    have hg := k3 (by omega)
    unfold fI at q2
    rw [if_neg (by omega)] at q2
    have e2 := (nI_eq (by omega) (by omega)).mp q2
    have := k4 e
    rw [e2] at this
    exact this
  · rw [q, dk_cod (by omega), dg_cod (by omega) (by omega)]
    exact ⟨rfl, rfl⟩
theorem ew_isOffice {zs : List Int32} {w : Wd} {y : YT} {d c f : Nat} {Q : Option AV → Wd → Prop} (hd : d < 366) (hok : cOK y c) (hf : f < 60) (hy : Yok y) (hRO : RO w y d c) (h : Q (some (.inl (if c = cod 2 (y.rk f) f then 1 else 0))) w) : Ew zs 0 m_Md_isOffice [.inr (.inl (some 155)), .inl (nI d), .inl (nI f)] w Q := by
  have v := vinN (i := d) (n := 366) hd (by omega)
  have e := RO_feast hok hf hy hRO
  refine ew_of k_Md_isOffice rfl (sg_Md_isOffice_0 ?_)
  rw [nI_clampN (by omega)]
  refine ⟨v, fun c1 => ⟨v, fun c2 => ?_, fun c2 => ?_⟩, fun c1 => ?_⟩
  · rw [if_pos (e.mp ⟨c1, c2⟩)] at h; exact h
  · rw [if_neg (fun z => c2 (e.mpr z).2)] at h; exact h
  · rw [if_neg (fun z => c1 (e.mpr z).1)] at h; exact h
theorem mR_m1 {own : Option Nat} {m : Option (Option Nat)} {n : Nat} (hn : n < 100000) (h : ∀ x, m = some (some x) → x < n) : mR own m = -1 ↔ (m = none ∨ ∃ o, own = some o ∧ m = some (some o)) := by
  cases m with
  | none => exact ⟨fun _ => Or.inl rfl, fun _ => rfl⟩
  | some m =>
    cases m with
    | none =>
      refine ⟨fun q => ?_, fun q => ?_⟩
      · exact absurd q (show ¬ (-2 : Int32) = -1 by decide)
      · rcases q with q | ⟨o, -, q⟩
        · cases q
        · cases q
    | some x =>
      have := h x rfl
      show (if own = some x then (-1 : Int32) else nI x) = -1 ↔ _
      by_cases c : own = some x
      · rw [if_pos c]
        exact ⟨fun _ => Or.inr ⟨x, c, rfl⟩, fun _ => rfl⟩
      · rw [if_neg c]
        refine ⟨fun q => absurd q (m1_nI (by omega)), fun q => ?_⟩
        rcases q with q | ⟨o, q1, q2⟩
        · cases q
        · cases q2
          exact absurd q1 c
theorem ew_nextMoved {zs : List Int32} {w : Wd} {i : Nat} {y : YT} {s : SM} {Q : Option AV → Wd → Prop} (hb : MY w i y) (hM : MM w y s) (hI : MI y s) (h : Q (some (.inl (oO (nxM y s.mv y.nF)))) w) : Ew zs 1 m_Md_nextMoved [.inr (.inl (some 155))] w Q := by
  have hy := MY_ok hb
  have h60 := hy.2.2.2.1
  have hN := hy.2.2.1
  refine ew_of k_Md_nextMoved rfl (sg_Md_nextMoved_0 ?_)
  have g := up_loop (fun f => Gw zs 1 m_Md_nextMoved 4 [some (.inr (.inl (some 155))), some (.inl (oO (nxM y s.mv f))), some (.inl (nI f))] [] w Q) 0 y.nF (by omega) ?_ ?_
  · exact g
  · refine sg_Md_nextMoved_4 ?_
    rw [MY_n hb]
    exact ⟨fun _ => h, fun c => absurd (nI_le (Nat.le_refl _) (by omega)) c⟩
  · intro f _ hf ih
    obtain ⟨e169, e166, y2, e164, r2, e165, f60, fo⟩ := MY_f hb hf
    have v := vinN (i := f) (n := 60) f60 (by omega)
    have e170 := hM.2 f hf
    have mm := mR_m1 (own := y.own f) (m := s.mv f) (n := y.N) (by omega) (hI.2.2 f hf)
    have skip : ¬ dueM y s.mv f = true → Gw zs 1 m_Md_nextMoved 4 [some (.inr (.inl (some 155))), some (.inl (oO (nxM y s.mv f))), some (.inl (nI (f + 1)))] [] w Q := by
      intro du
      simp only [nxM] at ih
      rw [if_neg du] at ih
      exact ih
    refine sg_Md_nextMoved_4 ?_
    rw [MY_n hb, nI_clampN (by omega), e169, e166, e170, nI_1]
    refine ⟨fun c => absurd c (nI_gle hf (by omega)), fun _ => ⟨v, fun c => ?_, fun c => ⟨v, fun c2 => ⟨v, fun c3 => ⟨v, ?_⟩, fun c3 => ?_⟩, fun c2 => ?_⟩⟩⟩
    · refine skip (fun q => ?_)
      obtain ⟨-, ⟨o, ho⟩, -⟩ := due_c.mp q
      rw [ho] at c
      have := fo o ho
      exact m1_nI (n := o) (by omega) c
    · obtain ⟨o, ho⟩ : ∃ o, y.own f = some o := by
        cases ho : y.own f with
        | none => rw [ho] at c; exact absurd rfl c
        | some o => exact ⟨o, rfl⟩
      have hoN := fo o ho
      have cw : y.wy f = 2 := (nI_eq (by omega) (by omega)).mp (show nI (y.wy f) = nI 2 from c2)
      have iff2 := hI.2.1 f hf o ho cw
      rw [ho, show oO (some o) = nI o from rfl]
      refine ew_isOffice (by omega) (hI.1 o hoN) f60 hy (hM.1 o hoN) ⟨_, rfl, ?_⟩
      rw [e164, e169, ho, show oO (some o) = nI o from rfl]
      refine ⟨fun c4 => ?_, fun c4 => ?_⟩
      · have noff : ¬ s.off o = cod 2 (y.rk f) f := fun z => by rw [if_pos z] at c4; exact one_ne c4
        have du : dueM y s.mv f = true := by
          refine due_c.mpr ⟨cw, ⟨o, ho⟩, ?_⟩
          rcases mm.mp c3 with q | ⟨o', q1, q2⟩
          · exact q
          · rw [ho] at q1
            cases q1
            exact absurd (iff2.mpr q2) noff
        simp only [nxM] at ih
        rw [if_pos du] at ih
        cases hn : nxM y s.mv f with
        | none =>
          rw [hn] at ih
          exact ⟨fun _ => ih, fun z => absurd rfl z⟩
        | some g =>
          rw [hn] at ih
          obtain ⟨g1, g2⟩ := nxM_some hn
          obtain ⟨-, ⟨o', ho'⟩, -⟩ := due_c.mp g2
          obtain ⟨a169, a166, b2, a164, s2, a165, g60, go⟩ := MY_f hb (show g < y.nF by omega)
          have hoN' := go o' ho'
          have vg := vinN (i := g) (n := 60) g60 (by omega)
          have nf : owN y f = o := by unfold owN; rw [ho]; rfl
          have ng : owN y g = o' := by unfold owN; rw [ho']; rfl
          rw [show oO (some g) = nI g from rfl, nI_clampN (n := g) (by omega), a164, a169, ho']
          refine ⟨fun z => absurd z (m1_nI (n := g) (by omega)), fun _ => ⟨v, vg, fun c5 => ?_, fun c5 => ⟨v, vg, fun c6 => ⟨v, vg, fun c7 => ?_, fun c7 => ?_⟩, fun c6 => ?_⟩⟩⟩
          · have lt : y.rk g < y.rk f := by
              rcases Nat.lt_or_ge (y.rk g) (y.rk f) with q | q
              · exact q
              · exact absurd c5 (nI_nlt q (by omega))
            have b : befM y f g = true := decide_eq_true (Or.inl lt)
            simp only [if_pos b] at ih
            exact ih
          · have e := (nI_eq (by omega) (by omega)).mp c6
            have le : o' ≤ o := by
              rcases Nat.lt_or_ge o o' with q | q
              · exact absurd c7 (nI_gle q (by omega))
              · exact q
            have b : ¬ befM y f g = true := by
              unfold befM
              rw [decide_eq_true_iff, nf, ng]
              omega
            simp only [if_neg b] at ih
            exact ih
          · have e := (nI_eq (by omega) (by omega)).mp c6
            have lt : o < o' := by
              rcases Nat.lt_or_ge o o' with q | q
              · exact q
              · exact absurd (nI_le q (by omega)) c7
            have b : befM y f g = true := decide_eq_true (Or.inr ⟨e, by rw [nf, ng]; exact lt⟩)
            simp only [if_pos b] at ih
            exact ih
          · have e : ¬ y.rk f = y.rk g := fun z => c6 (by rw [z])
            have ge : y.rk f ≤ y.rk g := by
              rcases Nat.lt_or_ge (y.rk g) (y.rk f) with q | q
              · exact absurd (nI_lt q (by omega)) c5
              · exact q
            have b : ¬ befM y f g = true := by
              unfold befM
              rw [decide_eq_true_iff]
              omega
            simp only [if_neg b] at ih
            exact ih
      · have off : s.off o = cod 2 (y.rk f) f := by
          by_cases z : s.off o = cod 2 (y.rk f) f
          · exact z
          · rw [if_neg z] at c4; exact absurd rfl c4
        refine skip (fun q => ?_)
        have := (due_c.mp q).2.2
        rw [iff2.mp off] at this
        cases this
    · refine skip (fun q => c3 (mm.mpr (Or.inl (due_c.mp q).2.2)))
    · exact skip (fun q => c2 (by rw [(due_c.mp q).1]; rfl))
theorem ew_moves {zs : List Int32} {w : Wd} {i f o : Nat} {y : YT} {s : SM} {Q : Option AV → Wd → Prop} (hb : MY w i y) (hM : MM w y s) (hI : MI y s) (hf : f < y.nF) (ho : y.own f = some o)
    (h : ∀ w', (∀ c k, ¬ (170 ≤ c ∧ c ≤ 174) → w' c k = w c k) → MM w' y (pstM y s f (plM y s.off f)) → Q none w') : Ew zs 2 m_Md_moves [.inr (.inl (some 155)), .inl (nI (1900 + i)), .inl (nI f)] w Q := by
  have hy := MY_ok hb
  have h60 := hy.2.2.2.1
  have hN := hy.2.2.1
  have hN1 := hy.2.1
  obtain ⟨e169, e166, y2, e164, r2, e165, f60, fo⟩ := MY_f hb hf
  have hoN := fo o ho
  have n1 : owN y f = o := by unfold owN; rw [ho]; rfl
  have v := vinN (i := f) (n := 60) f60 (by omega)
  have eN : f_Md_daysOf (nI (1900 + i)) = nI y.N := by rw [(yrN_is i).1, hb.2.2.1]; rfl
  refine ew_of k_Md_moves rfl (sg_Md_moves_0 ?_)
  rw [nI_clampN (by omega), e169, ho, show oO (some o) = nI o from rfl, nI_1]
  refine ⟨v, v, ?_⟩
  have key : ∀ n t, t + n = min (o + 60) (y.N - 1) + 1 → o < t → ffM (gwM y s.off (y.rk f)) n t = plM y s.off f → Gw zs 2 m_Md_moves 17 [some (.inr (.inl (some 155))), some (.inl (nI (1900 + i))), some (.inl (nI f)), some (.inl (nI t))] [] (wr w 170 f (-2)) Q := by
    intro n
    have lost : plM y s.off f = none → Q none (wr w 170 f (-2)) := by
      intro hp
      rw [hp] at h
      refine h _ (fun c k hc => by rw [wr_nc (by omega)]) ⟨fun d hd => ?_, fun g hg => ?_⟩
      · exact RO_cg (fun c h1 h2 => by rw [wr_nc (by omega)]) (hM.1 d hd)
      · show _ = mR (y.own g) (upM s.mv f (some none) g)
        by_cases q : g = f
        · subst q; rw [wr_eq, upM_eq]; rfl
        · rw [wr_nk q, upM_ne q]; exact hM.2 g hg
    induction n with
    | zero =>
      intro t ht hot hp
      have hl := lost hp.symm
      refine sg_Md_moves_17 ?_
      rw [nI_clampN (by omega), eN, wr_nc (c' := 169) (by omega), e169, ho, show oO (some o) = nI o from rfl, show (60 : Int32) = nI 60 from rfl, nI_add]
      refine ⟨v, fun _ => hl, fun c => ⟨fun _ => hl, fun c2 => ?_⟩⟩
      exfalso
      rcases Nat.lt_or_ge (o + 60) t with q | q
      · exact c (nI_lt q (by omega))
      · exact c2 (nI_le (by omega) (by omega))
    | succ n ih =>
      intro t ht hot hp
      have htN : t < y.N := by omega
      have vt := vinN (i := t) (n := 366) (by omega) (by omega)
      have okt := hI.1 t htN
      obtain ⟨k1, k2, k3, k4, -⟩ := cOK_dk okt
      obtain ⟨a1, a2, a3, a4⟩ := hM.1 t htN
      simp only [ffM] at hp
      have r164 : wr w 170 f (-2) 164 f = nI (y.rk f) := by rw [wr_nc (by omega)]; exact e164
      have r165 : wr w 170 f (-2) 165 f = y.co f := by rw [wr_nc (by omega)]; exact e165
      have r173 : wr w 170 f (-2) 173 t = nI (drC (s.off t)) := by rw [wr_nc (by omega)]; exact a3
      have r171 : wr w 170 f (-2) 171 t = nI (dkC (s.off t)) := by rw [wr_nc (by omega)]; exact a1
      have r172 : wr w 170 f (-2) 172 t = fI (dkC (s.off t)) (dgC (s.off t)) := by rw [wr_nc (by omega)]; exact a2
      have no : ¬ gwM y s.off (y.rk f) t = true → Gw zs 2 m_Md_moves 17 [some (.inr (.inl (some 155))), some (.inl (nI (1900 + i))), some (.inl (nI f)), some (.inl (nI (t + 1)))] [] (wr w 170 f (-2)) Q := by
        intro c
        rw [if_neg c] at hp
        exact ih (t + 1) (by omega) (by omega) hp
      have yes : gwM y s.off (y.rk f) t = true → Ew zs 0 m_Md_sets [.inr (.inl (some 155)), .inl (nI t), .inl 2, .inl (nI f), .inl (nI (y.rk f)), .inl (y.co f)] (wr (wr w 170 f (-2)) 170 f (nI t)) (fun v w7 => v = none ∧ Q (none) w7) := by
        intro c
        rw [if_pos c] at hp
        rw [← hp] at h
        have ef : fI 2 f = nI f := rfl
        have g := ew_sets (zs := zs) (w := wr (wr w 170 f (-2)) 170 f (nI t)) (d := t) (k := 2) (g := f) (r := y.rk f) (co := y.co f) (Q := fun v w7 => v = none ∧ Q (none) w7) (by omega) (fun w' b1 b2 b3 b4 b5 => ⟨rfl, h w' (fun c k hc => by rw [b1 _ _ (by omega), wr_nc (by omega), wr_nc (by omega)]) ⟨fun d hd => ?_, fun g hg => ?_⟩⟩)
        · rw [ef] at g
          exact g
        · show RO w' y d (upM s.off t (cod 2 (y.rk f) f) d)
          by_cases q : d = t
          · subst q
            rw [upM_eq]
            have d2 : dkC (cod 2 (y.rk f) f) = 2 := dk_cod (by omega)
            have g2 : dgC (cod 2 (y.rk f) f) = f := dg_cod (by omega) (by omega)
            refine ⟨?_, ?_, ?_, ?_⟩
            · rw [d2]; exact b2
            · rw [d2, g2]; exact b3
            · rw [dr_cod]; exact b4
            · unfold colO
              rw [d2, g2, if_neg (by omega)]
              exact b5
          · rw [upM_ne q]
            exact RO_cg (fun c h1 h2 => by rw [b1 _ _ (by omega), wr_nc (by omega), wr_nc (by omega)]) (hM.1 d hd)
        · show _ = mR (y.own g) (upM s.mv f (some (some t)) g)
          rw [b1 _ _ (by omega)]
          by_cases q : g = f
          · subst q
            rw [wr_eq, upM_eq, ho]
            show nI t = if (some o : Option Nat) = some t then -1 else nI t
            rw [if_neg (fun z => by cases z; omega)]
          · rw [wr_nk q, wr_nk q, upM_ne q]; exact hM.2 g hg
      refine sg_Md_moves_17 ?_
      rw [nI_clampN (n := f) (by omega), nI_clampN (n := t) (by omega), eN, wr_nc (c' := 169) (by omega), e169, ho, show oO (some o) = nI o from rfl, show (60 : Int32) = nI 60 from rfl, nI_add, r164, r165, r173, r171, nI_1]
      refine ⟨v, fun c => absurd c (nI_nlt (by omega) (by omega)), fun _ => ⟨fun c => absurd c (nI_gle htN (by omega)), fun _ => ⟨vt, v, fun c => no (fun z => ?_), fun c => ?_⟩⟩⟩
      · have := (of_decide_eq_true z).2
        exact nI_gle this (by omega) c
      · have lt : drC (s.off t) < y.rk f := by
          rcases Nat.lt_or_ge (drC (s.off t)) (y.rk f) with q | q
          · exact q
          · exact absurd (nI_le q (by omega)) c
        refine ⟨vt, fun c2 => ?_, fun c2 => ?_⟩
        · have d2 : dkC (s.off t) = 2 := (nI_eq (by omega) (by omega)).mp (show nI (dkC (s.off t)) = nI 2 from c2)
          have hg := k3 (by omega)
          have ef : fI (dkC (s.off t)) (dgC (s.off t)) = nI (dgC (s.off t)) := by unfold fI; rw [if_neg (by omega)]
          obtain ⟨-, g166, gy2, -⟩ := MY_f hb hg
          rw [r172, ef, nI_clampN (by omega), wr_nc (c' := 166) (by omega), g166]
          refine ⟨vt, vinN (by omega) (by omega), fun c3 => no (fun z => ?_), fun c3 => ⟨v, v, v, yes (decide_eq_true ⟨fun z => c3 (by rw [z.2]; rfl), lt⟩)⟩⟩
          exact (of_decide_eq_true z).1 ⟨d2, (nI_eq (by omega) (by omega)).mp (show nI (y.wy (dgC (s.off t))) = nI 2 from c3)⟩
        · exact ⟨v, v, v, yes (decide_eq_true ⟨fun z => c2 (by rw [z.1]; rfl), lt⟩)⟩
  refine key (min (o + 60) (y.N - 1) - o) (o + 1) (by omega) (by omega) ?_
  unfold plM
  rw [n1]
