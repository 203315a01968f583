/-! The choir's almanac: what is considered on each day, in either pass -/
def AB (w : Wd) (i : Nat) (y : YT) : Prop := RS w ∧ i < 300 ∧ y = yv w i ∧ w 16 8 = nI y.N ∧ w 16 9 = nI y.f0 ∧ (∀ d, d < y.N → w 17 d = y.so d) ∧ ∀ f, f < y.nF → w 20 f = oO (y.own f)
theorem AB_cg {w w' : Wd} {i : Nat} {y : YT} (e : ∀ c k, c ≠ 18 → c ≠ 19 → c ≠ 21 → w' c k = w c k) (h : AB w i y) : AB w' i y := by
  obtain ⟨h1, h2, h3, h4, h5, h6, h7⟩ := h
  have o : OYr w' w := fun c k q => e c k (by omega) (by omega) (by omega)
  refine ⟨RS_yr o h1, h2, by rw [yv_cg o]; exact h3, ?_, ?_, fun d hd => ?_, fun f hf => ?_⟩
  · rw [e _ _ (by omega) (by omega) (by omega)]; exact h4
  · rw [e _ _ (by omega) (by omega) (by omega)]; exact h5
  · rw [e _ _ (by omega) (by omega) (by omega)]; exact h6 d hd
  · rw [e _ _ (by omega) (by omega) (by omega)]; exact h7 f hf
theorem AB_ok {w : Wd} {i : Nat} {y : YT} (h : AB w i y) : Yok y := by rw [h.2.2.1]; exact yv_ok h.1 h.2.1
theorem kd_own {y : YT} {f o : Nat} (ho : y.own f = some o) : KD y.f0 y.F o f = 2 ∧ RK y.F y.f0 o f = y.rk f := by
  have h1 : (y.F f).own = some o := ho
  have k : KD y.f0 y.F o f = 2 := by
    unfold KD
    rw [h1]
    show kdO _ _ _ _ _ = 2
    unfold kdO
    rw [if_pos rfl]
  refine ⟨k, ?_⟩
  unfold RK
  rw [h1]
  show rkO _ _ _ _ (KD y.f0 y.F o f) = _
  rw [k]
  rfl
theorem kd_oct {y : YT} {f o d : Nat} (ho : y.own f = some o) (h0 : 0 < (y.F f).oc) (h1 : o < d) (h2 : d ≤ o + 7) : KD y.f0 y.F d f = 3 ∧ RK y.F y.f0 d f = if d = o + 7 then (y.F f).oc + 1 else (y.F f).oc := by
  have h3 : (y.F f).own = some o := ho
  have k : KD y.f0 y.F d f = 3 := by
    unfold KD
    rw [h3]
    show kdO _ _ _ _ _ = 3
    unfold kdO
    rw [if_neg (by omega), if_pos ⟨h0, h1, h2⟩]
  refine ⟨k, ?_⟩
  unfold RK
  rw [h3]
  show rkO _ _ _ _ (KD y.f0 y.F d f) = _
  rw [k]
  rfl
theorem kd_eve {y : YT} {f o d : Nat} (ho : y.own f = some o) (hv : (y.F f).vg = true) (h1 : 1 ≤ o) (h2 : (¬ (y.f0 + (o - 1)) % 7 = 0 ∧ d + 1 = o) ∨ ((y.f0 + (o - 1)) % 7 = 0 ∧ d + 2 = o)) : KD y.f0 y.F d f = 4 ∧ RK y.F y.f0 d f = 2 := by
  have h3 : (y.F f).own = some o := ho
  have k : KD y.f0 y.F d f = 4 := by
    unfold KD
    rw [h3]
    show kdO _ _ _ _ _ = 4
    unfold kdO
    rw [if_neg (by omega), if_neg (by omega), if_pos ⟨hv, h1, h2⟩]
  refine ⟨k, ?_⟩
  unfold RK
  rw [h3]
  show rkO _ _ _ _ (KD y.f0 y.F d f) = _
  rw [k]
  rfl
theorem kd_no {y : YT} {f o d : Nat} (ho : y.own f = some o) (h1 : ¬ (o ≤ d ∧ d < o + if 0 < (y.F f).oc then 8 else 1)) (h2 : ¬ ((y.F f).vg = true ∧ 1 ≤ o ∧ ((¬ (y.f0 + (o - 1)) % 7 = 0 ∧ d + 1 = o) ∨ ((y.f0 + (o - 1)) % 7 = 0 ∧ d + 2 = o)))) : ¬ ySl y d (f + 1) = true := by
  intro h
  have k : KD y.f0 y.F d f ≠ 0 := of_decide_eq_true h
  refine k ?_
  have h3 : (y.F f).own = some o := ho
  unfold KD
  rw [h3]
  show kdO _ _ _ _ _ = 0
  unfold kdO
  by_cases c : 0 < (y.F f).oc
  · rw [if_pos c] at h1
    rw [if_neg (by omega), if_neg (by omega), if_neg h2]
  · rw [if_neg c] at h1
    rw [if_neg (by omega), if_neg (fun q => c q.1), if_neg h2]
theorem kd_none {y : YT} {f d : Nat} (ho : y.own f = none) : ¬ ySl y d (f + 1) = true := by
  intro h
  have k : KD y.f0 y.F d f ≠ 0 := of_decide_eq_true h
  refine k ?_
  have h3 : (y.F f).own = none := ho
  unfold KD
  rw [h3]
/-- a day out of the year: nothing is done -/
theorem ew_cons_out {zs : List Int32} {w : Wd} {n : Nat} {x a b c : Int32} {Q : Option AV → Wd → Prop} (h8 : w 16 8 = nI n) (hn : n < 100000) (hx : x < 0 ∨ nI n ≤ x) (h : Q none w) : Ew zs 2 m_Alm_consider [.inr (.inl (some 16)), .inl x, .inl a, .inl b, .inl c] w Q := by
  refine ew_of k_Alm_consider rfl (sg_Alm_consider_0 ?_)
  rw [show f_Bk_within = f_Md_in from rfl, h8]
  have e : f_Md_in x 0 (nI n - 1) = 0 := by
    rcases in_cnt x (n := n) hn with ⟨e, _⟩ | ⟨t, t1, rfl, e⟩
    · exact e
    · exfalso
      rcases hx with q | q
      · exact nI_pos (by omega) q
      · exact nI_gle t1 (by omega) q
  exact ⟨fun _ => h, fun c => absurd e c⟩
theorem ew_cfeast {zs : List Int32} {i : Nat} {y : YT} {sel : Int32} {Fr : Wd → Prop} {V : Wd → Nat → Nat → Prop} (hFr : ∀ w, Fr w → AB w i y)
  (hcons : ∀ (w : Wd) (d j : Nat) (Q : Option AV → Wd → Prop), Fr w → d < y.N → j ≤ y.nF → ySl y d j = true → V w d j → (∀ w', Fr w' → V w' d (j + 1) → (∀ d' k, d' < y.N → d' ≠ d → V w d' k → V w' d' k) → Q none w') → Ew zs 2 m_Alm_consider [.inr (.inl (some 16)), .inl (nI d), .inl (nI (ySc y d j)), .inl (nI (ySw y d j)), .inl sel] w Q)
  (hskip : ∀ (w : Wd) (d j : Nat), Fr w → d < y.N → ¬ ySl y d j = true → V w d j → V w d (j + 1))
  {w : Wd} {f o : Nat} {Q : Option AV → Wd → Prop} (hw : Fr w) (hf : f < y.nF) (ho : y.own f = some o) (hV : ∀ d, d < y.N → V w d (f + 1)) (h : ∀ w', Fr w' → (∀ d, d < y.N → V w' d (f + 2)) → Q none w') : Ew zs 3 m_Alm_considerFeast [.inr (.inl (some 16)), .inl (nI f), .inl (nI o), .inl sel] w Q := by
  have hy := AB_ok (hFr w hw)
  have hN := hy.2.2.1
  have h60 := hy.2.2.2.1
  have hoN := (hy.2.2.2.2.1 f hf).1 o ho
  have hoc8 := (hy.2.2.2.2.1 f hf).2.2.1
  have hrk9 := (hy.2.2.2.2.1 f hf).2.1
  have hf07 := hy.1
  -- a change on one day of those that are done
  have put : ∀ (w : Wd) (d : Nat) (S S' : Nat → Prop) [DecidablePred S] [DecidablePred S'] (cd wy : Int32) (Q' : Option AV → Wd → Prop), Fr w → d < y.N → (∀ e, S' e ↔ (S e ∨ e = d)) → ¬ S d → ySl y d (f + 1) = true → cd = nI (ySc y d (f + 1)) → wy = nI (ySw y d (f + 1)) → (∀ e, e < y.N → V w e (if S e then f + 2 else f + 1)) → (∀ w', Fr w' → (∀ e, e < y.N → V w' e (if S' e then f + 2 else f + 1)) → Q' none w') → Ew zs 2 m_Alm_consider [.inr (.inl (some 16)), .inl (nI d), .inl cd, .inl wy, .inl sel] w Q' := by
    intro w d S S' _ _ cd wy Q' hw hd hS hnS hl e1 e2 hv hq
    subst e1; subst e2
    have vd := hv d hd
    rw [if_neg hnS] at vd
    refine hcons w d (f + 1) Q' hw hd (by omega) hl vd (fun w' hw' h1 h2 => hq w' hw' (fun e he => ?_))
    by_cases q : e = d
    · subst q
      rw [if_pos ((hS e).mpr (Or.inr rfl))]
      exact h1
    · have := h2 e _ he q (hv e he)
      by_cases z : S e
      · rw [if_pos z] at this
        rw [if_pos ((hS e).mpr (Or.inl z))]
        exact this
      · rw [if_neg z] at this
        rw [if_neg (fun x => ((hS e).mp x).elim z q)]
        exact this
  -- the eve
  have vig : ∀ (w : Wd), Fr w → (∀ e, e < y.N → V w e (if o ≤ e ∧ e < o + (if 0 < (y.F f).oc then 8 else 1) then f + 2 else f + 1)) →
      (((f_Fea_hasVigil w (nI f)) = 0 → Q (none) w) ∧ (¬ ((f_Fea_hasVigil w (nI f)) = 0) → ((nI o ≤ 0 → Q (none) w) ∧ (¬ (nI o ≤ 0) → (((f_Alm_weekdayOf w (nI o - 1)) = 0 → Ew zs 2 m_Alm_consider [.inr (.inl (some 16)), .inl (nI o - 2), .inl (f_Alm_candidate 2 4 (nI f)), .inl 0, .inl sel] w (fun v w6 => v = none ∧ Q (none) w6)) ∧ (¬ ((f_Alm_weekdayOf w (nI o - 1)) = 0) → Ew zs 2 m_Alm_consider [.inr (.inl (some 16)), .inl (nI o - 1), .inl (f_Alm_candidate 2 4 (nI f)), .inl 0, .inl sel] w (fun v w5 => v = none ∧ Q (none) w5))))))) := by
    intro w hw hv
    obtain ⟨hR, hi, ey, h8, h9, h17, h20⟩ := hFr w hw
    have fe := yv_feast hR hi (f := f) (by rw [← ey]; exact hf)
    rw [← ey] at fe
    obtain ⟨-, -, -, -, fv, -, -, -, -, -, -, -, -, f15⟩ := fe
    have ev : f_Fea_hasVigil w (nI f) = if w 168 f = 0 then 0 else 1 := by
      unfold f_Fea_hasVigil
      rw [if_inn (m := 60) (n := 60) rfl (by omega) (by omega), nI_clampN (by omega), f15]
    have ec : f_Alm_candidate 2 4 (nI f) = nI (cod 4 2 f) := cand_cod (k := 4) (r := 2) (by omega) (by omega) (by omega) (by omega)
    -- where no eve is kept
    have noeve : ¬ ((y.F f).vg = true ∧ 1 ≤ o ∧ ∃ d, d < y.N ∧ ((¬ (y.f0 + (o - 1)) % 7 = 0 ∧ d + 1 = o) ∨ ((y.f0 + (o - 1)) % 7 = 0 ∧ d + 2 = o))) → Q none w := by
      intro hn
      refine h w hw (fun d hd => ?_)
      have vd := hv d hd
      by_cases c : o ≤ d ∧ d < o + (if 0 < (y.F f).oc then 8 else 1)
      · rw [if_pos c] at vd; exact vd
      · rw [if_neg c] at vd
        exact hskip w d (f + 1) hw hd (kd_no ho c (fun q => hn ⟨q.1, q.2.1, d, hd, q.2.2⟩)) vd
    have eve : (y.F f).vg = true → 1 ≤ o → ∀ d, d < y.N → ((¬ (y.f0 + (o - 1)) % 7 = 0 ∧ d + 1 = o) ∨ ((y.f0 + (o - 1)) % 7 = 0 ∧ d + 2 = o)) → Ew zs 2 m_Alm_consider [.inr (.inl (some 16)), .inl (nI d), .inl (nI (cod 4 2 f)), .inl 0, .inl sel] w (fun v w5 => v = none ∧ Q (none) w5) := by
      intro hvg h1 d hd hd2
      obtain ⟨kd, rd⟩ := kd_eve ho hvg h1 hd2
      refine put w d (fun e => o ≤ e ∧ e < o + (if 0 < (y.F f).oc then 8 else 1)) (fun e => (o ≤ e ∧ e < o + (if 0 < (y.F f).oc then 8 else 1)) ∨ e = d) _ _ _ hw hd (fun e => Iff.rfl) (by omega) (decide_eq_true (by rw [kd]; omega)) ?_ ?_ hv (fun w' hw' hv' => ⟨rfl, h w' hw' (fun e he => ?_)⟩)
      · show nI (cod 4 2 f) = nI (cod (KD y.f0 y.F d f) (RK y.F y.f0 d f) (f + 1 - 1))
        rw [kd, rd, Nat.add_sub_cancel]
      · show (0 : Int32) = nI (if KD y.f0 y.F d f = 2 then y.wy f else if KD y.f0 y.F d f = 3 then 1 else 0)
        rw [kd]
        rfl
      · have ve := hv' e he
        by_cases c : (o ≤ e ∧ e < o + (if 0 < (y.F f).oc then 8 else 1)) ∨ e = d
        · rw [if_pos c] at ve; exact ve
        · rw [if_neg c] at ve
          refine hskip w' e (f + 1) hw' he (kd_no ho (fun q => c (Or.inl q)) (fun q => c (Or.inr ?_))) ve
          have := q.2.2
          omega
    rw [ev, ec]
    by_cases c0 : w 168 f = 0
    · rw [if_pos c0]
      exact ⟨fun _ => noeve (fun q => fv.mp c0 q.1), fun q => absurd rfl q⟩
    · have hvg : (y.F f).vg = true := by
        by_cases q : (y.F f).vg = true
        · exact q
        · exact absurd (fv.mpr q) c0
      rw [if_neg c0]
      refine ⟨fun q => absurd q one_ne, fun _ => ⟨fun c1 => ?_, fun c1 => ?_⟩⟩
      · refine noeve (fun q => ?_)
        exact nI_nle q.2.1 (by omega) c1
      · have o1 : 1 ≤ o := by
          rcases Nat.eq_zero_or_pos o with q | q
          · subst q; exact absurd (nI_le (a := 0) (b := 0) (by omega) (by omega)) c1
          · exact q
        have ew : f_Alm_weekdayOf w (nI o - 1) = nI ((y.f0 + (o - 1)) % 7) := by
          unfold f_Alm_weekdayOf
          rw [h9, show (nI o - 1 : Int32) = nI (o - 1) from pk_sub (b := 1) o1, nI_add, nI_mod7 (by omega)]
        rw [ew]
        refine ⟨fun c2 => ?_, fun c2 => ?_⟩
        · have s0 : (y.f0 + (o - 1)) % 7 = 0 := (nI_eq (by omega) (by omega)).mp (show nI _ = nI 0 from c2)
          rcases Nat.lt_or_ge o 2 with q | q
          · have oe : o = 1 := by omega
            refine ew_cons_out h8 (by omega) (Or.inl (by rw [oe]; decide)) ⟨rfl, noeve (fun z => ?_)⟩
            obtain ⟨-, -, d, -, zz⟩ := z
            omega
          · rw [show (nI o - 2 : Int32) = nI (o - 2) from pk_sub (b := 2) q]
            exact eve hvg o1 (o - 2) (by omega) (Or.inr ⟨s0, by omega⟩)
        · have s0 : ¬ (y.f0 + (o - 1)) % 7 = 0 := fun z => c2 (by rw [z]; rfl)
          rw [show (nI o - 1 : Int32) = nI (o - 1) from pk_sub (b := 1) o1]
          exact eve hvg o1 (o - 1) (by omega) (Or.inl ⟨s0, by omega⟩)
  -- the octave
  have oct : 0 < (y.F f).oc → ∀ w o6, Fr w → (∀ e, e < y.N → V w e (if o ≤ e ∧ e < o + 1 then f + 2 else f + 1)) → Gw zs 3 m_Alm_considerFeast 32 [some (.inr (.inl (some 16))), some (.inl (nI f)), some (.inl (nI o)), some (.inl sel), some (.inl (nI (y.F f).oc)), some (.inl (nI 1)), o6] [] w Q := by
    intro hoc
    have g := up_loop (fun t => ∀ w o6, Fr w → (∀ e, e < y.N → V w e (if o ≤ e ∧ e < o + t then f + 2 else f + 1)) → Gw zs 3 m_Alm_considerFeast 32 [some (.inr (.inl (some 16))), some (.inl (nI f)), some (.inl (nI o)), some (.inl sel), some (.inl (nI (y.F f).oc)), some (.inl (nI t)), o6] [] w Q) 1 8 (by omega) ?_ ?_
    · exact g
    · intro w o6 hw hv
      refine sg_Alm_considerFeast_32 ⟨fun _ => vig w hw ?_, fun c => absurd (nI_lt (a := 7) (b := 8) (by omega) (by omega)) c⟩
      rw [if_pos hoc]
      exact hv
    · intro t t1 t2 ih w o6 hw hv
      refine sg_Alm_considerFeast_32 ⟨fun c => absurd c (nI_nlt (a := 7) (b := t) (by omega) (by omega)), fun _ => ⟨fun c => absurd c (nI_nle hoc (by omega)), fun _ => ?_⟩⟩
      have go : ∀ (r : Int32), r = nI (if t = 7 then (y.F f).oc + 1 else (y.F f).oc) → Ew zs 2 m_Alm_consider [.inr (.inl (some 16)), .inl (nI o + nI t), .inl (f_Alm_candidate r 3 (nI f)), .inl 1, .inl sel] w (fun v w15 => v = none ∧ Gw zs 3 m_Alm_considerFeast 32 [some (.inr (.inl (some 16))), some (.inl (nI f)), some (.inl (nI o)), some (.inl sel), some (.inl (nI (y.F f).oc)), some (.inl (nI t + 1)), some (.inl r)] [] w15 Q) := by
        intro r hr
        have hr2 : (if t = 7 then (y.F f).oc + 1 else (y.F f).oc) ≤ 9 := by split <;> omega
        have ec : f_Alm_candidate r 3 (nI f) = nI (cod 3 (if t = 7 then (y.F f).oc + 1 else (y.F f).oc) f) := by
          rw [hr]
          exact cand_cod (k := 3) (by omega) (by omega) (by omega) (by omega)
        rw [ec, nI_add, nI_1]
        rcases Nat.lt_or_ge (o + t) y.N with q | q
        · obtain ⟨kd, rd⟩ := kd_oct ho hoc (show o < o + t by omega) (by omega)
          refine put w (o + t) (fun e => o ≤ e ∧ e < o + t) (fun e => o ≤ e ∧ e < o + (t + 1)) _ _ _ hw q (fun e => by omega) (by omega) (decide_eq_true (by rw [kd]; omega)) ?_ ?_ hv (fun w' hw' hv' => ⟨rfl, ih w' _ hw' hv'⟩)
          · show _ = nI (cod (KD y.f0 y.F (o + t) f) (RK y.F y.f0 (o + t) f) (f + 1 - 1))
            rw [kd, rd, Nat.add_sub_cancel]
            by_cases z : t = 7
            · rw [if_pos z, if_pos (by omega)]
            · rw [if_neg z, if_neg (by omega)]
          · show (1 : Int32) = nI (if KD y.f0 y.F (o + t) f = 2 then y.wy f else if KD y.f0 y.F (o + t) f = 3 then 1 else 0)
            rw [kd]
            rfl
        · refine ew_cons_out (hFr w hw).2.2.2.1 (by omega) (Or.inr (nI_le q (by omega))) ⟨rfl, ih w _ hw (fun e he => ?_)⟩
          have := hv e he
          by_cases z : o ≤ e ∧ e < o + t
          · rw [if_pos z] at this
            rw [if_pos (by omega)]
            exact this
          · rw [if_neg z] at this
            rw [if_neg (by omega)]
            exact this
      refine ⟨fun c => ?_, fun c => ?_⟩
      · have t7 : t = 7 := (nI_eq (by omega) (by omega)).mp (show nI t = nI 7 from c)
        have g := go (nI (y.F f).oc + 1) (by rw [if_pos t7, nI_1])
        exact g
      · have t7 : ¬ t = 7 := fun z => c (by rw [z]; rfl)
        exact go (nI (y.F f).oc) (by rw [if_neg t7])
  have ab := hFr w hw
  obtain ⟨hR, hi, ey, h8, h9, h17, h20⟩ := ab
  have fe := yv_feast hR hi (f := f) (by rw [← ey]; exact hf)
  rw [← ey] at fe
  obtain ⟨-, ⟨f164, -⟩, ⟨f167, -⟩, ⟨f166, -⟩, -, -, -, -, -, f11, -, f13, f14, -⟩ := fe
  obtain ⟨kd, rd⟩ := kd_own ho
  refine ew_of k_Alm_considerFeast rfl (sg_Alm_considerFeast_0 ?_)
  refine put w o (fun e => o ≤ e ∧ e < o + 0) (fun e => o ≤ e ∧ e < o + 1) _ _ _ hw hoN (fun e => by omega) (by omega) (decide_eq_true (by rw [kd]; omega)) ?_ ?_ (fun e he => ?_) (fun w' hw' hv' => ⟨rfl, ?_⟩)
  · show f_Alm_candidate (f_at w 11 60 (nI f)) 2 (nI f) = nI (cod (KD y.f0 y.F o f) (RK y.F y.f0 o f) (f + 1 - 1))
    rw [kd, rd, Nat.add_sub_cancel, f_at_in (by omega) (by omega), f11, f164]
    exact cand_cod (k := 2) (by omega) (by omega) (by omega) (by omega)
  · show f_at w 13 60 (nI f) = nI (if KD y.f0 y.F o f = 2 then y.wy f else if KD y.f0 y.F o f = 3 then 1 else 0)
    rw [kd, if_pos rfl, f_at_in (by omega) (by omega), f13, f166]
  · rw [if_neg (by omega)]; exact hV e he
  · have e14 : f_Fea_octaveOf w' (nI f) = nI (y.F f).oc := by
      obtain ⟨hR', hi', ey', -⟩ := hFr w' hw'
      have fe' := yv_feast hR' hi' (f := f) (by rw [← ey']; exact hf)
      rw [← ey'] at fe'
      obtain ⟨-, -, ⟨g167, -⟩, -, -, -, -, -, -, -, -, -, g14, -⟩ := fe'
      show f_at w' 14 60 (nI f) = _
      rw [f_at_in (by omega) (by omega), g14, g167]
    rw [e14]
    rcases Nat.eq_zero_or_pos (y.F f).oc with q | q
    · refine sg_Alm_considerFeast_32 ⟨fun c => absurd c (nI_nlt (a := 7) (b := 1) (by omega) (by omega)), fun _ => ⟨fun _ => vig w' hw' ?_, fun c => ?_⟩⟩
      · rw [if_neg (by omega)]
        exact hv'
      · rw [q] at c
        exact absurd (nI_le (a := 0) (b := 0) (by omega) (by omega)) c
    · exact oct q w' _ hw' hv'
