/-! The year: the day of a feast -/
theorem nI_mod7 {a : Nat} (h : a < 2147483648) : (nI a - nI a / 7 * 7 : Int32) = nI (a % 7) := by
  rw [show (7 : Int32) = nI 7 from rfl, nI_div h (by omega) (by omega), pk_mul, pk_sub (by omega)]
  congr 1; omega
def dI (y s a : Int32) : Int32 := if s = 0 then (f_Day_dayOf y (a / 100) (a - a / 100 * 100)) else if s = 1 then if (f_Md_in ((f_Day_easter y) + a) 0 ((f_Md_daysOf y) - 1)) = 0 then (-1) else ((f_Day_easter y) + a) else if s = 2 then (f_Day_nthWeekday y (a / 100) ((a / 10) - (a / 10) / 10 * 10) (a - a / 10 * 10)) else (-1)
theorem dayIn_nI {w : Wd} {k : Nat} {y : Int32} (hk : k < 60) : f_Fea_dayIn w (nI k) y = dI y (w 9 k) (w 10 k) := by
  unfold f_Fea_dayIn
  rw [f_at_in (c := 9) (by omega) (by omega), f_at_in (c := 10) (by omega) (by omega)]
  rfl
/-- the first day of a month that has a weekday, counted from 1 -/
def cW (f0 F wd : Nat) : Nat := 1 + (wd + 7 - (f0 + F) % 7) % 7
theorem nth_val {y : Int32} {f0 F m wd k l : Nat} (h1 : 1 ≤ m) (h2 : m ≤ 12) (hf : f_Day_firstWeekday y = nI f0) (hf0 : f0 < 7) (hF : f_Day_firstOfMonth y (nI m) = nI F) (hF2 : F ≤ 335) (hl : f_Md_daysIn y (nI m) = nI l) (hl2 : l ≤ 31) (hw : wd < 7) (hk1 : 1 ≤ k) (hk : k ≤ 5) : f_Day_nthWeekday y (nI m) (nI wd) (nI k) = if cW f0 F wd + 7 * (k - 1) ≤ l then nI (F + (cW f0 F wd + 7 * (k - 1)) - 1) else -1 := by
  unfold f_Day_nthWeekday
  have e1 : (nI f0 + nI F - (nI f0 + nI F) / 7 * 7 : Int32) = nI ((f0 + F) % 7) := by rw [nI_add]; exact nI_mod7 (by omega)
  have e2 : (nI wd - nI ((f0 + F) % 7) + 7 : Int32) = nI (wd + 7 - (f0 + F) % 7) := by
    rw [show (nI wd - nI ((f0 + F) % 7) + 7 : Int32) = nI wd + nI 7 - nI ((f0 + F) % 7) from by
      rw [Int32.sub_eq_add_neg, Int32.sub_eq_add_neg, Int32.add_assoc, Int32.add_assoc, Int32.add_comm (-nI ((f0 + F) % 7))]; rfl]
    rw [nI_add, pk_sub (by omega)]
  have e3 : (7 * (nI k - 1) : Int32) = nI (7 * (k - 1)) := by rw [show (nI k - 1 : Int32) = nI (k - 1) from pk_sub (b := 1) hk1, show (7 : Int32) = nI 7 from rfl, pk_mul]
  rw [hf, hF, e1, e2, nI_mod7 (by omega), e3, show (1 : Int32) = nI 1 from rfl, nI_add, nI_add]
  show f_Day_dayOf y (nI m) (nI (cW f0 F wd + 7 * (k - 1))) = _
  have hc : 1 ≤ cW f0 F wd := by unfold cW; omega
  by_cases c : cW f0 F wd + 7 * (k - 1) ≤ l
  · rw [if_pos c, dayOf_val y h1 h2 (by rw [hl]; exact in_in (l := 1) (h := l) rfl rfl (by omega) c (by omega)), hF, nI_add, show (1 : Int32) = nI 1 from rfl, pk_sub (by omega)]
  · rw [if_neg c]
    refine (dayOf_m1 _ _ _).mpr (Or.inr ?_)
    rw [hl]
    unfold f_Md_in
    have z1 : ¬ nI (cW f0 F wd + 7 * (k - 1)) < (1 : Int32) := nI_nlt (a := cW f0 F wd + 7 * (k - 1)) (b := 1) (by omega) (by unfold cW; omega)
    have z2 : nI l < nI (cW f0 F wd + 7 * (k - 1)) := nI_lt (by omega) (by unfold cW; omega)
    rw [if_neg z1, if_pos z2]
theorem ew_mweekday {zs : List Int32} {w : Wd} {i f0 n : Nat} {Q : Option AV → Wd → Prop} (hi : i < 300) (hf : f_Day_firstWeekday (nI (1900 + i)) = nI f0) (hf0 : f0 < 7) (hn : n < 1000) (h : Q (some (.inl (nI ((f0 + n) % 7)))) w) : Ew zs 3 m_Md_weekday [.inl (nI (1900 + i)), .inl (nI n)] w Q := by
  refine ew_of k_Md_weekday rfl (sg_Md_weekday_0 (ew_mfw hi ⟨_, rfl, ?_⟩))
  rw [hf, nI_add, nI_mod7 (by omega)]
  exact h
theorem ew_feastDay {zs : List Int32} {w : Wd} {i : Nat} {s a : Int32} {Q : Option AV → Wd → Prop} (hi : i < 300) (ht : f_Md_isTold s a = 1) (h : Q (some (.inl (dI (nI (1900 + i)) s a))) w) : Ew zs 4 m_Md_feastDay [.inl (nI (1900 + i)), .inl s, .inl a] w Q := by
  obtain ⟨⟨f0, hf0, hf⟩, -, E, E1, E2, eE⟩ := y_facts hi
  refine ew_of k_Md_feastDay rfl (sg_Md_feastDay_0 ?_)
  unfold dI at h
  unfold f_Md_isTold at ht
  refine ⟨fun c0 => ?_, fun c0 => ⟨fun c1 => ?_, fun c1 => ?_⟩⟩
  · rw [if_pos c0] at h ht
    by_cases hz : a ≤ 0
    · rw [if_pos hz] at ht; exact absurd ht.symm one_ne
    rw [if_neg hz] at ht
    rcases in_c (v := a / 100) (lo := 1) (hi := 12) 1 12 rfl rfl (by omega) (by omega) with ⟨e, _⟩ | ⟨m, m1, m2, em, e⟩
    · rw [if_pos e] at ht; exact absurd ht.symm one_ne
    rw [if_neg (in_n0 e)] at ht
    have hd1 : f_Md_in (a - a / 100 * 100) 1 (f_Md_daysIn 2000 (a / 100)) = 1 := by
      rcases in_01 (a - a / 100 * 100) 1 (f_Md_daysIn 2000 (a / 100)) with q | q
      · rw [if_pos q] at ht; exact absurd ht.symm one_ne
      · exact q
    obtain ⟨l, l1, l2, el⟩ := mlen_31 2000 m1 m2
    obtain ⟨l', l1', l2', el'⟩ := mlen_31 (nI (1900 + i)) m1 m2
    rw [em, el] at hd1
    rw [em] at h ⊢
    rcases in_c (v := a - nI m * 100) (lo := 1) (hi := nI l) 1 l rfl rfl (by omega) (by omega) with ⟨q, _⟩ | ⟨d, d1, d2, ed, _⟩
    · exact absurd q (in_n0 hd1)
    rw [ed] at h ⊢
    rw [el']
    refine ⟨fun c => ?_, fun c => ?_⟩
    · rw [(dayOf_m1 _ _ _).mpr (Or.inr (by
        rw [el']
        unfold f_Md_in
        have z1 : ¬ nI d < (1 : Int32) := nI_nlt (a := d) (b := 1) (by omega) (by omega)
        rw [if_neg z1, if_pos c]))] at h
      exact h
    · have hdl : d ≤ l' := by
        rcases Nat.lt_or_ge l' d with q | q
        · exact absurd (nI_lt q (by omega)) c
        · exact q
      refine ew_mdayOf m1 m2 ⟨_, rfl, ?_⟩
      rw [dayOf_val _ m1 m2 (by rw [el']; exact in_in (l := 1) (h := l') rfl rfl d1 hdl (by omega))] at h
      exact h
  · rw [if_neg c0, if_pos c1] at h
    refine ew_measter hi ⟨_, rfl, fun c => ?_, fun c => ?_⟩
    · rw [if_pos c] at h; exact h
    · rw [if_neg c] at h; exact h
  · rw [if_neg c0, if_neg c1] at h ht
    by_cases c2 : s = 2
    · rw [if_pos c2] at h ht
      by_cases hz : a ≤ 0
      · rw [if_pos hz] at ht; exact absurd ht.symm one_ne
      rw [if_neg hz] at ht
      rcases in_c (v := a / 100) (lo := 1) (hi := 12) 1 12 rfl rfl (by omega) (by omega) with ⟨e, _⟩ | ⟨m, m1, m2, em, e⟩
      · rw [if_pos e] at ht; exact absurd ht.symm one_ne
      rw [if_neg (in_n0 e)] at ht
      rcases in_c (v := a / 10 - a / 10 / 10 * 10) (lo := 0) (hi := 6) 0 6 rfl rfl (by omega) (by omega) with ⟨e3, _⟩ | ⟨wd, _, wd2, ewd, e3⟩
      · rw [if_pos e3] at ht; exact absurd ht.symm one_ne
      rw [if_neg (in_n0 e3)] at ht
      rcases in_c (v := a - a / 10 * 10) (lo := 1) (hi := 5) 1 5 rfl rfl (by omega) (by omega) with ⟨e4, _⟩ | ⟨k, k1, k2, ek, e4⟩
      · rw [if_pos e4] at ht; exact absurd ht.symm one_ne
      obtain ⟨F, hF2, hF⟩ := mfirst (nI (1900 + i)) m1 m2
      obtain ⟨l, l1, l2, el⟩ := mlen_31 (nI (1900 + i)) m1 m2
      rw [em, ewd, ek, nth_val m1 m2 hf hf0 hF hF2 el l2 (by omega) k1 k2] at h
      rw [em]
      have hcw : 1 ≤ cW f0 F wd ∧ cW f0 F wd ≤ 7 := by unfold cW; omega
      -- at day t: so many of the weekday lie before it
      have loop := up_loop (fun t => (t ≤ cW f0 F wd + 7 * (k - 1)) → Gw zs 4 m_Md_feastDay 79 [some (.inl (nI (1900 + i))), some (.inl s), some (.inl a), some (.inl (nI m)), some (.inl (nI ((t + 6 - cW f0 F wd) / 7))), some (.inl (nI t))] [] w Q) 1 (l + 1) (by omega) ?_ ?_
      · have g := loop (by omega)
        rw [show (1 + 6 - cW f0 F wd) / 7 = 0 by omega] at g
        exact g
      · intro ht2
        refine sg_Md_feastDay_79 ?_
        rw [el]
        refine ⟨fun _ => ?_, fun c => absurd (nI_lt (Nat.lt_succ_self l) (by omega)) c⟩
        rw [if_neg (by omega)] at h
        exact h
      · intro t ht1 ht2 ih ht3
        refine sg_Md_feastDay_79 ?_
        rw [el]
        have dv : f_Day_firstOfMonth (nI (1900 + i)) (nI m) + nI t - 1 = nI (F + t - 1) := by
          rw [hF, nI_add]; exact pk_sub (b := 1) (by omega)
        refine ⟨fun c => absurd c (nI_nlt (by omega) (by omega)), fun _ => ?_⟩
        refine ew_mdayOf m1 m2 ⟨_, rfl, ?_⟩
        rw [dv]
        refine ew_mweekday hi hf hf0 (by omega) ⟨_, rfl, ?_⟩
        rw [ewd, ek, nI_1, nI_1]
        refine ⟨fun c => ?_, fun c => ?_⟩
        · have e5 : (f0 + (F + t - 1)) % 7 = wd := (nI_eq (by omega) (by omega)).mp c
          have e6 : (t + 6 - cW f0 F wd) / 7 + 1 = (t + 1 + 6 - cW f0 F wd) / 7 := by
            unfold cW at hcw ⊢; omega
          refine ⟨fun c9 => ?_, fun c9 => ?_⟩
          · have e7 := (nI_eq (by omega) (by omega)).mp c9
            have e8 : t = cW f0 F wd + 7 * (k - 1) := by
              unfold cW at hcw e7 ht3 ⊢; omega
            refine ew_mdayOf m1 m2 ⟨_, rfl, ?_⟩
            rw [dv]
            rw [← e8, if_pos (by omega)] at h
            exact h
          · rw [e6]
            refine ih ?_
            have e7 : ¬ (t + 6 - cW f0 F wd) / 7 + 1 = k := fun z => c9 (by rw [z])
            unfold cW at hcw e7 ht3 ⊢; omega
        · have e5 : ¬ (f0 + (F + t - 1)) % 7 = wd := fun z => c (by rw [z])
          have e6 : (t + 6 - cW f0 F wd) / 7 = (t + 1 + 6 - cW f0 F wd) / 7 := by
            unfold cW at hcw ⊢; omega
          rw [e6]
          refine ih ?_
          unfold cW at hcw ht3 ⊢; omega
    · rw [if_neg c2] at ht
      exact absurd ht.symm one_ne
