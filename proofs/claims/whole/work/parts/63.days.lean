/-! Days: years, weekdays, Easter -/
def eM (a0 : Int32) : Int32 := ((((((((((19 * (a0 - a0 / 19 * 19)) + (a0 / 100)) - ((a0 / 100) / 4)) - ((((a0 / 100) - (((a0 / 100) + 8) / 25)) + 1) / 3)) + 15) - (((((19 * (a0 - a0 / 19 * 19)) + (a0 / 100)) - ((a0 / 100) / 4)) - ((((a0 / 100) - (((a0 / 100) + 8) / 25)) + 1) / 3)) + 15) / 30 * 30) + (((((32 + (2 * ((a0 / 100) - (a0 / 100) / 4 * 4))) + (2 * ((a0 - a0 / 100 * 100) / 4))) - ((((((19 * (a0 - a0 / 19 * 19)) + (a0 / 100)) - ((a0 / 100) / 4)) - ((((a0 / 100) - (((a0 / 100) + 8) / 25)) + 1) / 3)) + 15) - (((((19 * (a0 - a0 / 19 * 19)) + (a0 / 100)) - ((a0 / 100) / 4)) - ((((a0 / 100) - (((a0 / 100) + 8) / 25)) + 1) / 3)) + 15) / 30 * 30)) - ((a0 - a0 / 100 * 100) - (a0 - a0 / 100 * 100) / 4 * 4)) - ((((32 + (2 * ((a0 / 100) - (a0 / 100) / 4 * 4))) + (2 * ((a0 - a0 / 100 * 100) / 4))) - ((((((19 * (a0 - a0 / 19 * 19)) + (a0 / 100)) - ((a0 / 100) / 4)) - ((((a0 / 100) - (((a0 / 100) + 8) / 25)) + 1) / 3)) + 15) - (((((19 * (a0 - a0 / 19 * 19)) + (a0 / 100)) - ((a0 / 100) / 4)) - ((((a0 / 100) - (((a0 / 100) + 8) / 25)) + 1) / 3)) + 15) / 30 * 30)) - ((a0 - a0 / 100 * 100) - (a0 - a0 / 100 * 100) / 4 * 4)) / 7 * 7)) - (7 * ((((a0 - a0 / 19 * 19) + (11 * ((((((19 * (a0 - a0 / 19 * 19)) + (a0 / 100)) - ((a0 / 100) / 4)) - ((((a0 / 100) - (((a0 / 100) + 8) / 25)) + 1) / 3)) + 15) - (((((19 * (a0 - a0 / 19 * 19)) + (a0 / 100)) - ((a0 / 100) / 4)) - ((((a0 / 100) - (((a0 / 100) + 8) / 25)) + 1) / 3)) + 15) / 30 * 30))) + (22 * (((((32 + (2 * ((a0 / 100) - (a0 / 100) / 4 * 4))) + (2 * ((a0 - a0 / 100 * 100) / 4))) - ((((((19 * (a0 - a0 / 19 * 19)) + (a0 / 100)) - ((a0 / 100) / 4)) - ((((a0 / 100) - (((a0 / 100) + 8) / 25)) + 1) / 3)) + 15) - (((((19 * (a0 - a0 / 19 * 19)) + (a0 / 100)) - ((a0 / 100) / 4)) - ((((a0 / 100) - (((a0 / 100) + 8) / 25)) + 1) / 3)) + 15) / 30 * 30)) - ((a0 - a0 / 100 * 100) - (a0 - a0 / 100 * 100) / 4 * 4)) - ((((32 + (2 * ((a0 / 100) - (a0 / 100) / 4 * 4))) + (2 * ((a0 - a0 / 100 * 100) / 4))) - ((((((19 * (a0 - a0 / 19 * 19)) + (a0 / 100)) - ((a0 / 100) / 4)) - ((((a0 / 100) - (((a0 / 100) + 8) / 25)) + 1) / 3)) + 15) - (((((19 * (a0 - a0 / 19 * 19)) + (a0 / 100)) - ((a0 / 100) / 4)) - ((((a0 / 100) - (((a0 / 100) + 8) / 25)) + 1) / 3)) + 15) / 30 * 30)) - ((a0 - a0 / 100 * 100) - (a0 - a0 / 100 * 100) / 4 * 4)) / 7 * 7))) / 451))) + 114) / 31)
def eD (a0 : Int32) : Int32 := ((((((((((19 * (a0 - a0 / 19 * 19)) + (a0 / 100)) - ((a0 / 100) / 4)) - ((((a0 / 100) - (((a0 / 100) + 8) / 25)) + 1) / 3)) + 15) - (((((19 * (a0 - a0 / 19 * 19)) + (a0 / 100)) - ((a0 / 100) / 4)) - ((((a0 / 100) - (((a0 / 100) + 8) / 25)) + 1) / 3)) + 15) / 30 * 30) + (((((32 + (2 * ((a0 / 100) - (a0 / 100) / 4 * 4))) + (2 * ((a0 - a0 / 100 * 100) / 4))) - ((((((19 * (a0 - a0 / 19 * 19)) + (a0 / 100)) - ((a0 / 100) / 4)) - ((((a0 / 100) - (((a0 / 100) + 8) / 25)) + 1) / 3)) + 15) - (((((19 * (a0 - a0 / 19 * 19)) + (a0 / 100)) - ((a0 / 100) / 4)) - ((((a0 / 100) - (((a0 / 100) + 8) / 25)) + 1) / 3)) + 15) / 30 * 30)) - ((a0 - a0 / 100 * 100) - (a0 - a0 / 100 * 100) / 4 * 4)) - ((((32 + (2 * ((a0 / 100) - (a0 / 100) / 4 * 4))) + (2 * ((a0 - a0 / 100 * 100) / 4))) - ((((((19 * (a0 - a0 / 19 * 19)) + (a0 / 100)) - ((a0 / 100) / 4)) - ((((a0 / 100) - (((a0 / 100) + 8) / 25)) + 1) / 3)) + 15) - (((((19 * (a0 - a0 / 19 * 19)) + (a0 / 100)) - ((a0 / 100) / 4)) - ((((a0 / 100) - (((a0 / 100) + 8) / 25)) + 1) / 3)) + 15) / 30 * 30)) - ((a0 - a0 / 100 * 100) - (a0 - a0 / 100 * 100) / 4 * 4)) / 7 * 7)) - (7 * ((((a0 - a0 / 19 * 19) + (11 * ((((((19 * (a0 - a0 / 19 * 19)) + (a0 / 100)) - ((a0 / 100) / 4)) - ((((a0 / 100) - (((a0 / 100) + 8) / 25)) + 1) / 3)) + 15) - (((((19 * (a0 - a0 / 19 * 19)) + (a0 / 100)) - ((a0 / 100) / 4)) - ((((a0 / 100) - (((a0 / 100) + 8) / 25)) + 1) / 3)) + 15) / 30 * 30))) + (22 * (((((32 + (2 * ((a0 / 100) - (a0 / 100) / 4 * 4))) + (2 * ((a0 - a0 / 100 * 100) / 4))) - ((((((19 * (a0 - a0 / 19 * 19)) + (a0 / 100)) - ((a0 / 100) / 4)) - ((((a0 / 100) - (((a0 / 100) + 8) / 25)) + 1) / 3)) + 15) - (((((19 * (a0 - a0 / 19 * 19)) + (a0 / 100)) - ((a0 / 100) / 4)) - ((((a0 / 100) - (((a0 / 100) + 8) / 25)) + 1) / 3)) + 15) / 30 * 30)) - ((a0 - a0 / 100 * 100) - (a0 - a0 / 100 * 100) / 4 * 4)) - ((((32 + (2 * ((a0 / 100) - (a0 / 100) / 4 * 4))) + (2 * ((a0 - a0 / 100 * 100) / 4))) - ((((((19 * (a0 - a0 / 19 * 19)) + (a0 / 100)) - ((a0 / 100) / 4)) - ((((a0 / 100) - (((a0 / 100) + 8) / 25)) + 1) / 3)) + 15) - (((((19 * (a0 - a0 / 19 * 19)) + (a0 / 100)) - ((a0 / 100) / 4)) - ((((a0 / 100) - (((a0 / 100) + 8) / 25)) + 1) / 3)) + 15) / 30 * 30)) - ((a0 - a0 / 100 * 100) - (a0 - a0 / 100 * 100) / 4 * 4)) / 7 * 7))) / 451))) + 114) - (((((((((19 * (a0 - a0 / 19 * 19)) + (a0 / 100)) - ((a0 / 100) / 4)) - ((((a0 / 100) - (((a0 / 100) + 8) / 25)) + 1) / 3)) + 15) - (((((19 * (a0 - a0 / 19 * 19)) + (a0 / 100)) - ((a0 / 100) / 4)) - ((((a0 / 100) - (((a0 / 100) + 8) / 25)) + 1) / 3)) + 15) / 30 * 30) + (((((32 + (2 * ((a0 / 100) - (a0 / 100) / 4 * 4))) + (2 * ((a0 - a0 / 100 * 100) / 4))) - ((((((19 * (a0 - a0 / 19 * 19)) + (a0 / 100)) - ((a0 / 100) / 4)) - ((((a0 / 100) - (((a0 / 100) + 8) / 25)) + 1) / 3)) + 15) - (((((19 * (a0 - a0 / 19 * 19)) + (a0 / 100)) - ((a0 / 100) / 4)) - ((((a0 / 100) - (((a0 / 100) + 8) / 25)) + 1) / 3)) + 15) / 30 * 30)) - ((a0 - a0 / 100 * 100) - (a0 - a0 / 100 * 100) / 4 * 4)) - ((((32 + (2 * ((a0 / 100) - (a0 / 100) / 4 * 4))) + (2 * ((a0 - a0 / 100 * 100) / 4))) - ((((((19 * (a0 - a0 / 19 * 19)) + (a0 / 100)) - ((a0 / 100) / 4)) - ((((a0 / 100) - (((a0 / 100) + 8) / 25)) + 1) / 3)) + 15) - (((((19 * (a0 - a0 / 19 * 19)) + (a0 / 100)) - ((a0 / 100) / 4)) - ((((a0 / 100) - (((a0 / 100) + 8) / 25)) + 1) / 3)) + 15) / 30 * 30)) - ((a0 - a0 / 100 * 100) - (a0 - a0 / 100 * 100) / 4 * 4)) / 7 * 7)) - (7 * ((((a0 - a0 / 19 * 19) + (11 * ((((((19 * (a0 - a0 / 19 * 19)) + (a0 / 100)) - ((a0 / 100) / 4)) - ((((a0 / 100) - (((a0 / 100) + 8) / 25)) + 1) / 3)) + 15) - (((((19 * (a0 - a0 / 19 * 19)) + (a0 / 100)) - ((a0 / 100) / 4)) - ((((a0 / 100) - (((a0 / 100) + 8) / 25)) + 1) / 3)) + 15) / 30 * 30))) + (22 * (((((32 + (2 * ((a0 / 100) - (a0 / 100) / 4 * 4))) + (2 * ((a0 - a0 / 100 * 100) / 4))) - ((((((19 * (a0 - a0 / 19 * 19)) + (a0 / 100)) - ((a0 / 100) / 4)) - ((((a0 / 100) - (((a0 / 100) + 8) / 25)) + 1) / 3)) + 15) - (((((19 * (a0 - a0 / 19 * 19)) + (a0 / 100)) - ((a0 / 100) / 4)) - ((((a0 / 100) - (((a0 / 100) + 8) / 25)) + 1) / 3)) + 15) / 30 * 30)) - ((a0 - a0 / 100 * 100) - (a0 - a0 / 100 * 100) / 4 * 4)) - ((((32 + (2 * ((a0 / 100) - (a0 / 100) / 4 * 4))) + (2 * ((a0 - a0 / 100 * 100) / 4))) - ((((((19 * (a0 - a0 / 19 * 19)) + (a0 / 100)) - ((a0 / 100) / 4)) - ((((a0 / 100) - (((a0 / 100) + 8) / 25)) + 1) / 3)) + 15) - (((((19 * (a0 - a0 / 19 * 19)) + (a0 / 100)) - ((a0 / 100) / 4)) - ((((a0 / 100) - (((a0 / 100) + 8) / 25)) + 1) / 3)) + 15) / 30 * 30)) - ((a0 - a0 / 100 * 100) - (a0 - a0 / 100 * 100) / 4 * 4)) / 7 * 7))) / 451))) + 114) / 31 * 31)
theorem easter_eq (y : Int32) : f_Day_easter y = f_Day_firstOfMonth y (eM y) + eD y := rfl
/-- the first of the month, counted up -/
theorem first_1 (y : Int32) : f_Day_firstOfMonth y (nI 1) = 0 := rfl
theorem first_up (y : Int32) {m : Nat} (h1 : 1 ≤ m) (h2 : m ≤ 11) : f_Day_firstOfMonth y (nI (m + 1)) = f_Day_firstOfMonth y (nI m) + f_Md_daysIn y (nI m) := by
  unfold f_Day_firstOfMonth f_Md_daysIn
  rw [show f_Day_isLeap = f_Md_isLeap from rfl]
  by_cases hl : f_Md_isLeap y = 0
  · simp only [if_pos hl]
    rcases (show m = 1 ∨ m = 2 ∨ m = 3 ∨ m = 4 ∨ m = 5 ∨ m = 6 ∨ m = 7 ∨ m = 8 ∨ m = 9 ∨ m = 10 ∨ m = 11 by omega) with rfl | rfl | rfl | rfl | rfl | rfl | rfl | rfl | rfl | rfl | rfl <;> decide
  · simp only [if_neg hl]
    rcases (show m = 1 ∨ m = 2 ∨ m = 3 ∨ m = 4 ∨ m = 5 ∨ m = 6 ∨ m = 7 ∨ m = 8 ∨ m = 9 ∨ m = 10 ∨ m = 11 by omega) with rfl | rfl | rfl | rfl | rfl | rfl | rfl | rfl | rfl | rfl | rfl <;> decide
theorem ew_mdayOf {zs : List Int32} {y d : Int32} {m : Nat} {w : Wd} {Q : Option AV → Wd → Prop} (h1 : 1 ≤ m) (h2 : m ≤ 12) (h : Q (some (.inl (f_Day_firstOfMonth y (nI m) + d - 1))) w) : Ew zs 2 m_Md_dayOf [.inl y, .inl (nI m), .inl d] w Q := by
  refine ew_of k_Md_dayOf rfl (sg_Md_dayOf_0 ?_)
  have key : ∀ i, (d - 1) + f_Day_firstOfMonth y (nI i) = f_Day_firstOfMonth y (nI i) + d - 1 := fun i => by
    rw [Int32.sub_eq_add_neg, Int32.sub_eq_add_neg, Int32.add_comm, Int32.add_assoc]
  have g := up_loop (fun i => Gw zs 2 m_Md_dayOf 7 [some (.inl y), some (.inl (nI m)), some (.inl d), some (.inl ((d - 1) + f_Day_firstOfMonth y (nI i))), some (.inl (nI i))] [] w Q) 1 m h1 ?_ ?_
  · have e : (d - 1 + f_Day_firstOfMonth y (nI 1) : Int32) = d - 1 := by rw [first_1, Int32.add_zero]
    rw [e] at g
    exact g
  · refine sg_Md_dayOf_7 ⟨fun _ => ?_, fun c => absurd (nI_le (Nat.le_refl m) (by omega)) c⟩
    rw [key]; exact h
  · intro i hi1 hi2 ih
    refine sg_Md_dayOf_7 ⟨fun c => absurd c (nI_gle (by omega) (by omega)), fun _ => ?_⟩
    rw [nI_1, Int32.add_assoc, ← first_up y hi1 (by omega)]
    exact ih
/-- the years' weekdays and Easters, one by one -/
def yOk (i : Nat) : Bool := (f_Day_firstWeekday (nI (1900 + i))).toNatClampNeg < 7 && decide (f_Day_firstWeekday (nI (1900 + i)) = nI (f_Day_firstWeekday (nI (1900 + i))).toNatClampNeg) && (decide (eM (nI (1900 + i)) = nI 3) || decide (eM (nI (1900 + i)) = nI 4)) && decide (eD (nI (1900 + i)) = nI (eD (nI (1900 + i))).toNatClampNeg) && (eD (nI (1900 + i))).toNatClampNeg < 31 && decide (f_Day_easter (nI (1900 + i)) = nI (f_Day_easter (nI (1900 + i))).toNatClampNeg) && 80 ≤ (f_Day_easter (nI (1900 + i))).toNatClampNeg && (f_Day_easter (nI (1900 + i))).toNatClampNeg ≤ 116
def yAll : Nat → Bool
  | 0 => true
  | n + 1 => yOk n && yAll n
theorem yAll_of {n : Nat} (h : yAll n = true) : ∀ i, i < n → yOk i = true := by
  induction n with
  | zero => intro i hi; omega
  | succ n ih =>
    intro i hi
    simp only [yAll, Bool.and_eq_true] at h
    by_cases e : i = n
    · rw [e]; exact h.1
    · exact ih h.2 i (by omega)
set_option maxRecDepth 100000 in
theorem yAll_300 : yAll 300 = true := by decide +kernel
theorem y_facts {i : Nat} (hi : i < 300) : (∃ d, d < 7 ∧ f_Day_firstWeekday (nI (1900 + i)) = nI d) ∧ (eM (nI (1900 + i)) = nI 3 ∨ eM (nI (1900 + i)) = nI 4) ∧ ∃ E, 80 ≤ E ∧ E ≤ 116 ∧ f_Day_easter (nI (1900 + i)) = nI E := by
  have h := yAll_of yAll_300 i hi
  unfold yOk at h
  simp only [Bool.and_eq_true, Bool.or_eq_true, decide_eq_true_eq] at h
  obtain ⟨⟨⟨⟨⟨⟨⟨a1, a2⟩, a3⟩, a4⟩, a5⟩, a6⟩, a7⟩, a8⟩ := h
  exact ⟨⟨_, a1, a2⟩, a3, _, a7, a8, a6⟩
/-- the weekday of a year's first day, counted up -/
def wkS : Nat → Nat → Int32 → Bool
  | 0, _, _ => true
  | n + 1, i, s => decide (s - s / 7 * 7 = f_Day_firstWeekday (nI (1900 + i))) && wkS n (i + 1) (s + f_Md_daysOf (nI (1900 + i)))
set_option maxRecDepth 100000 in
theorem wk_300 : wkS 300 0 1 = true := by decide +kernel
theorem ew_wkloop {zs : List Int32} {w : Wd} {Q : Option AV → Wd → Prop} : ∀ (n i k : Nat) (s : Int32), wkS n i s = true → k < n → i + k < 300 → Q (some (.inl (f_Day_firstWeekday (nI (1900 + (i + k)))))) w → Gw zs 2 m_Md_firstWeekday 6 [some (.inl (nI (1900 + (i + k)))), some (.inl s), some (.inl (nI (1900 + i)))] [] w Q := by
  intro n
  induction n with
  | zero => intro i k s _ hk; omega
  | succ n ih =>
    intro i k s h hk hik hq
    simp only [wkS, Bool.and_eq_true, decide_eq_true_eq] at h
    rcases Nat.eq_zero_or_pos k with q | q
    · subst q
      rw [Nat.add_zero] at hq ⊢
      refine sg_Md_firstWeekday_6 ⟨fun _ => ?_, fun c => absurd (nI_le (Nat.le_refl _) (by omega)) c⟩
      rw [h.1]; exact hq
    · refine sg_Md_firstWeekday_6 ⟨fun c => absurd c (nI_gle (by omega) (by omega)), fun _ => ?_⟩
      have g := ih (i + 1) (k - 1) _ h.2 (by omega) (by omega) (by rw [show i + 1 + (k - 1) = i + k by omega]; exact hq)
      rw [show i + 1 + (k - 1) = i + k by omega] at g
      rw [nI_1]
      exact g
theorem ew_mfw {zs : List Int32} {w : Wd} {i : Nat} {Q : Option AV → Wd → Prop} (hi : i < 300) (h : Q (some (.inl (f_Day_firstWeekday (nI (1900 + i))))) w) : Ew zs 2 m_Md_firstWeekday [.inl (nI (1900 + i))] w Q := by
  refine ew_of k_Md_firstWeekday rfl (sg_Md_firstWeekday_0 ?_)
  have g := ew_wkloop (zs := zs) (w := w) (Q := Q) 300 0 i 1 wk_300 hi (by omega) (by rw [Nat.zero_add]; exact h)
  rw [Nat.zero_add] at g
  exact g
theorem ew_measter {zs : List Int32} {w : Wd} {i : Nat} {Q : Option AV → Wd → Prop} (hi : i < 300) (h : Q (some (.inl (f_Day_easter (nI (1900 + i))))) w) : Ew zs 3 m_Md_easter [.inl (nI (1900 + i))] w Q := by
  refine ew_of k_Md_easter rfl (sg_Md_easter_0 ?_)
  obtain ⟨-, hm, -⟩ := y_facts hi
  have e : ∀ m, eM (nI (1900 + i)) = nI m → f_Day_firstOfMonth (nI (1900 + i)) (nI m) + (eD (nI (1900 + i)) + 1) - 1 = f_Day_easter (nI (1900 + i)) := by
    intro m hm
    rw [easter_eq, hm, Int32.sub_eq_add_neg, Int32.add_assoc, Int32.add_assoc]
    rw [show (1 + -1 : Int32) = 0 from by decide, Int32.add_zero]
  show Ew zs 2 m_Md_dayOf [.inl (nI (1900 + i)), .inl (eM (nI (1900 + i))), .inl (eD (nI (1900 + i)) + 1)] w (fun v w2 => ∃ r1 : Int32, v = some (.inl r1) ∧ Q (some (.inl r1)) w2)
  rcases hm with hm | hm
  · rw [hm]
    refine ew_mdayOf (by omega) (by omega) ⟨_, rfl, ?_⟩
    rw [e 3 hm]; exact h
  · rw [hm]
    refine ew_mdayOf (by omega) (by omega) ⟨_, rfl, ?_⟩
    rw [e 4 hm]; exact h
theorem year_c (y : Int32) : f_Md_isYear y = 0 ∨ ∃ i, i < 300 ∧ y = nI (1900 + i) ∧ f_Md_isYear y = 1 := by
  unfold f_Md_isYear
  rcases in_c (v := y) (lo := 1900) (hi := 2199) 1900 2199 rfl rfl (by omega) (by omega) with ⟨e, _⟩ | ⟨t, t1, t2, rfl, e⟩
  · exact Or.inl e
  · exact Or.inr ⟨t - 1900, by omega, by rw [show 1900 + (t - 1900) = t by omega], e⟩
theorem par_year {zs : List Int32} (a0 a1 : Int32) : Par zs 3 m_Bk_year 4 m_Md_year [.inl a0, .inl a1] (fun _ => True) (fun _ _ => False) := by
  intro w _
  refine ev_Bk_year ⟨_, rfl, ew_of k_Md_year rfl (sg_Md_year_0 ?_)⟩
  unfold f_Bk_year
  rw [year_eq]
  rcases year_c a0 with e | ⟨i, hi, rfl, e⟩
  · rw [if_pos e]
    exact ⟨fun _ => ⟨rfl, trivial, off_rf⟩, fun c => absurd e c⟩
  have en : ¬ f_Md_isYear (nI (1900 + i)) = 0 := fun c => one_ne (e.symm.trans c)
  rw [if_neg en]
  refine ⟨fun c => absurd c en, fun _ => ⟨fun c => ?_, fun c0 => ⟨fun c => ?_, fun c1 => ⟨fun c => ?_, fun c2 => ?_⟩⟩⟩⟩
  · rw [if_pos c]; exact ⟨rfl, trivial, off_rf⟩
  · rw [if_neg c0, if_pos c]
    exact ew_mfw hi ⟨_, rfl, rfl, trivial, off_rf⟩
  · rw [if_neg c0, if_neg c1, if_pos c]
    exact ew_measter hi ⟨_, rfl, rfl, trivial, off_rf⟩
  · rw [if_neg c0, if_neg c1, if_neg c2]
    exact ⟨rfl, trivial, off_rf⟩
theorem dayOf_val (y : Int32) {m : Nat} {d : Int32} (h1 : 1 ≤ m) (h2 : m ≤ 12) (hd : f_Md_in d 1 (f_Md_daysIn y (nI m)) = 1) : f_Day_dayOf y (nI m) d = f_Day_firstOfMonth y (nI m) + d - 1 := by
  unfold f_Day_dayOf
  have z : f_Md_in (nI m) 1 12 = 1 := in_in (l := 1) (h := 12) rfl rfl h1 h2 (by omega)
  rw [show f_Bk_within = f_Md_in from rfl, if_neg (in_n0 z), mlen_eq y h1 h2, if_neg (in_n0 hd)]
theorem par_day {zs : List Int32} (a0 a1 a2 : Int32) : Par zs 3 m_Bk_day 3 m_Md_day [.inl a0, .inl a1, .inl a2] (fun _ => True) (fun _ _ => False) := by
  intro w _
  refine ev_Bk_day ⟨_, rfl, ew_of k_Md_day rfl (sg_Md_day_0 ?_)⟩
  unfold f_Bk_day
  rw [year_eq]
  rcases year_c a0 with e | ⟨i, hi, rfl, e⟩
  · rw [if_pos e]
    exact ⟨fun _ => ⟨rfl, trivial, off_rf⟩, fun c => absurd e c⟩
  have en : ¬ f_Md_isYear (nI (1900 + i)) = 0 := fun c => one_ne (e.symm.trans c)
  rw [if_neg en]
  refine ⟨fun c => absurd c en, fun _ => ⟨fun c => ?_, fun c0 => ⟨fun c => ?_, fun c1 => ?_⟩⟩⟩
  · rw [(dayOf_m1 _ _ _).mpr (Or.inl c)]
    exact ⟨rfl, trivial, off_rf⟩
  · rw [(dayOf_m1 _ _ _).mpr (Or.inr c)]
    exact ⟨rfl, trivial, off_rf⟩
  · rcases in_c (v := a1) (lo := 1) (hi := 12) 1 12 rfl rfl (by omega) (by omega) with ⟨e0, _⟩ | ⟨m, m1, m2, rfl, e0⟩
    · exact absurd e0 c0
    · refine ew_mdayOf m1 m2 ⟨_, rfl, ?_⟩
      rw [dayOf_val _ m1 m2 (in_1 c1)]
      exact ⟨rfl, trivial, off_rf⟩
