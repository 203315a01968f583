/-! What meets on a day: the weekday itself -/
theorem lastS_c (p : Nat → Bool) (n : Nat) : lastS p n = -1 ∨ ∃ k, k < n ∧ p k = true ∧ lastS p n = nI k := by
  induction n with
  | zero => exact Or.inl rfl
  | succ n ih =>
    show (if p n = true then nI n else lastS p n) = -1 ∨ ∃ k, k < n + 1 ∧ p k = true ∧ (if p n = true then nI n else lastS p n) = nI k
    by_cases c : p n = true
    · rw [if_pos c]; exact Or.inr ⟨n, by omega, c, rfl⟩
    · rw [if_neg c]
      rcases ih with q | ⟨k, a, b, e⟩
      · exact Or.inl q
      · exact Or.inr ⟨k, by omega, b, e⟩
/-- the weekday's rank, as the class tells it, is a small number -/
theorem wk_rank {w : Wd} {n wd : Nat} {S : Int32} (hn : n ≤ 10) (hwd : wd < 7)
    (hs : ∀ k, k < n → w 2 k = w 156 k ∧ w 3 k = w 157 k ∧ w 4 k = w 158 k ∧ w 5 k = w 159 k ∧ w 6 k = w 160 k ∧ w 7 k = w 161 k ∧ Sok (w 156 k) (w 157 k) (w 158 k) (w 159 k) (w 160 k) (w 161 k)) (hS : S = -1 ∨ ∃ k, k < n ∧ S = nI k) : ∃ r, r ≤ 9 ∧ f_Sea_rankOf w S (nI wd) = nI r := by
  unfold f_Sea_rankOf
  rcases hS with rfl | ⟨k, hk, rfl⟩
  · rw [if_pos rfl]
    by_cases c : nI wd = (0 : Int32)
    · rw [if_pos c]; exact ⟨3, by omega, rfl⟩
    · rw [if_neg c]; exact ⟨0, by omega, rfl⟩
  · obtain ⟨-, -, -, s5, s6, s7, ok⟩ := hs k hk
    obtain ⟨-, -, r1, r2, r3⟩ := ok
    rw [if_neg (m1_ne (by omega)), f_at_in (by omega) (by omega), f_at_in (by omega) (by omega), s5, s6]
    by_cases c : nI wd = (0 : Int32)
    · rw [if_pos c]
      rcases in_c (v := w 159 k) (lo := 1) (hi := 9) 1 9 rfl rfl (by omega) (by omega) with ⟨e, _⟩ | ⟨t, t1, t2, e, _⟩
      · exact absurd e (in_n0 r1)
      · exact ⟨t, t2, e⟩
    · rw [if_neg c]
      rcases in_c (v := w 160 k) (lo := 0) (hi := 8) 0 8 rfl rfl (by omega) (by omega) with ⟨e, _⟩ | ⟨t, t1, t2, e, _⟩
      · exact absurd e (in_n0 r2)
      · exact ⟨t, by omega, e⟩
def wkK (wd : Nat) : Nat := if wd = 0 then 1 else 0
def wkW (wd r : Nat) : Int32 := if ¬ wd = 0 ∧ r = 0 then 0 else 1
theorem ew_gweek {zs : List Int32} {w : Wd} {n wd r d : Nat} {S : Int32} {o1 o4 o5 o6 o7 o8 : Option AV} {Q : Option AV → Wd → Prop} (hn : n ≤ 10) (hwd : wd < 7) (hr : r ≤ 9)
    (hs : ∀ k, k < n → w 2 k = w 156 k ∧ w 3 k = w 157 k ∧ w 4 k = w 158 k ∧ w 5 k = w 159 k ∧ w 6 k = w 160 k ∧ w 7 k = w 161 k ∧ Sok (w 156 k) (w 157 k) (w 158 k) (w 159 k) (w 160 k) (w 161 k)) (hS : S = -1 ∨ ∃ k, k < n ∧ S = nI k) (h22 : w 155 22 = nI 0) (her : f_Sea_rankOf w S (nI wd) = nI r)
    (h : ∀ w' p3 p4 p5 p7 p8, OM w' w → w' 155 22 = nI 1 → Ent w' 0 (wkK wd) r 0 (f_Sea_colourOf w S) (wkW wd r) → Gw zs 4 m_Md_gather 152 [some (.inr (.inl (some 155))), o1, some (.inl (nI d)), p3, p4, p5, some (.inl 0), p7, p8] [] w' Q) :
    Gw zs 4 m_Md_gather 60 [some (.inr (.inl (some 155))), o1, some (.inl (nI d)), some (.inl S), o4, o5, o6, o7, o8] [.inl (if wd = 0 then 1 else 0)] w Q := by
  -- the last stretch: the entry itself
  have last : ∀ (su co wy : Int32) p4 p5 p7 p8, su = nI (wkK wd) → co = f_Sea_colourOf w S → wy = wkW wd r → ∀ o6, Gw zs 4 m_Md_gather 146 [some (.inr (.inl (some 155))), o1, some (.inl (nI d)), some (.inl S), p4, p5, o6, p7, p8] [.inl wy, .inl co, .inl (nI r), .inl (-1), .inl su, .inr (.inl (some 155))] w Q := by
    intro su co wy p4 p5 p7 p8 e1 e2 e3 o6
    subst e1; subst e2; subst e3
    have ef : fI (wkK wd) 0 = -1 := by unfold fI wkK; split <;> rfl
    refine sg_Md_gather_146 ?_
    have g := ew_meets (zs := zs) (w := w) (n := 0) (k := wkK wd) (r := r) (g := 0) (co := f_Sea_colourOf w S) (wy := wkW wd r) (Q := fun v w1 => v = none ∧ Gw zs 4 m_Md_gather 152 [some (.inr (.inl (some 155))), o1, some (.inl (nI d)), some (.inl S), p4, p5, some (.inl 0), p7, p8] [] w1 Q) h22 (by omega) (fun w' a b c _ => ⟨rfl, h w' _ _ _ _ _ a b c⟩)
    rw [ef] at g
    exact g
  -- from the rank on
  have mid : ∀ (su : Int32) p5 p6 p7 p8, su = (if wd = 0 then 1 else 0) → Gw zs 4 m_Md_gather 100 [some (.inr (.inl (some 155))), o1, some (.inl (nI d)), some (.inl S), some (.inl su), p5, p6, p7, p8] [.inl (nI r)] w Q := by
    intro su p5 p6 p7 p8 hsu
    have esu : (if wd = 0 then (1 : Int32) else 0) = nI (wkK wd) := by unfold wkK; split <;> rfl
    have way : ∀ co, co = f_Sea_colourOf w S → Gw zs 4 m_Md_gather 131 [some (.inr (.inl (some 155))), o1, some (.inl (nI d)), some (.inl S), some (.inl su), some (.inl (nI r)), p6, p7, p8] [.inl co, .inl (nI r), .inl (-1), .inl (nI (wkK wd)), .inr (.inl (some 155))] w Q := by
      intro co hco
      refine sg_Md_gather_131 ⟨fun c => ⟨fun c2 => last _ _ _ _ _ _ _ rfl hco ?_ _, fun c2 => sg_Md_gather_145 (last _ _ _ _ _ _ _ rfl hco ?_ _)⟩, fun c => sg_Md_gather_145 (last _ _ _ _ _ _ _ rfl hco ?_ _)⟩
      · have hw0 : ¬ wd = 0 := fun z => by rw [hsu, if_pos z] at c; exact one_ne c
        have hr0 : r = 0 := (nI_eq (by omega) (by omega)).mp (show nI r = nI 0 from c2)
        unfold wkW; rw [if_pos ⟨hw0, hr0⟩]
      · have hr0 : ¬ r = 0 := fun z => c2 (by rw [z]; rfl)
        unfold wkW; rw [if_neg (fun z => hr0 z.2)]
      · have hw0 : wd = 0 := by
          by_cases z : wd = 0
          · exact z
          · rw [hsu, if_neg z] at c; exact absurd rfl c
        unfold wkW; rw [if_neg (fun z => z.1 hw0)]
    have col : Gw zs 4 m_Md_gather 113 [some (.inr (.inl (some 155))), o1, some (.inl (nI d)), some (.inl S), some (.inl su), some (.inl (nI r)), p6, p7, p8] [.inl (nI (wkK wd)), .inr (.inl (some 155))] w Q := by
      refine sg_Md_gather_113 ⟨fun c => way _ ?_, fun c => ?_⟩
      · unfold f_Sea_colourOf; rw [if_pos c]
      · rcases hS with q | ⟨k, hk, rfl⟩
        · exact absurd q c
        · refine ⟨vinN (by omega) (by omega), way _ ?_⟩
          unfold f_Sea_colourOf
          rw [if_neg c, f_at_in (by omega) (by omega), nI_clampN (by omega), (hs k hk).2.2.2.2.2.1]
    refine sg_Md_gather_100 ⟨fun c => ?_, fun c => ?_⟩
    · have hw0 : ¬ wd = 0 := fun z => by rw [hsu, if_pos z] at c; exact one_ne c
      have e : nI (wkK wd) = (0 : Int32) := by unfold wkK; rw [if_neg hw0]; rfl
      rw [e] at col; exact col
    · have hw0 : wd = 0 := by
        by_cases z : wd = 0
        · exact z
        · rw [hsu, if_neg z] at c; exact absurd rfl c
      have e : nI (wkK wd) = (1 : Int32) := by unfold wkK; rw [if_pos hw0]; rfl
      rw [e] at col; exact col
  unfold f_Sea_rankOf at her
  refine sg_Md_gather_60 ⟨fun c => ⟨fun c2 => ?_, fun c2 => ?_⟩, fun c => ⟨fun c2 => ?_, fun c2 => ?_⟩⟩
  · have hw0 : ¬ nI wd = (0 : Int32) := fun z => by
      rw [if_pos ((nI_eq (b := 0) (by omega) (by omega)).mp z)] at c2; exact one_ne c2
    rw [if_pos c, if_neg hw0] at her
    have g := mid (if wd = 0 then 1 else 0) o5 o6 o7 o8 rfl
    rw [← her] at g
    exact g
  · have hw0 : nI wd = (0 : Int32) := by
      by_cases z : wd = 0
      · rw [z]; rfl
      · rw [if_neg z] at c2; exact absurd rfl c2
    rw [if_pos c, if_pos hw0] at her
    have g := mid (if wd = 0 then 1 else 0) o5 o6 o7 o8 rfl
    rw [← her] at g
    exact g
  · rcases hS with q | ⟨k, hk, rfl⟩
    · exact absurd q c
    have hw0 : ¬ nI wd = (0 : Int32) := fun z => by
      rw [if_pos ((nI_eq (b := 0) (by omega) (by omega)).mp z)] at c2; exact one_ne c2
    rw [if_neg c, if_neg hw0, f_at_in (by omega) (by omega), (hs k hk).2.2.2.2.1] at her
    rw [nI_clampN (by omega), her]
    exact ⟨vinN (by omega) (by omega), mid _ _ _ _ _ rfl⟩
  · rcases hS with q | ⟨k, hk, rfl⟩
    · exact absurd q c
    have hw0 : nI wd = (0 : Int32) := by
      by_cases z : wd = 0
      · rw [z]; rfl
      · rw [if_neg z] at c2; exact absurd rfl c2
    rw [if_neg c, if_pos hw0, f_at_in (by omega) (by omega), (hs k hk).2.2.2.1] at her
    rw [nI_clampN (by omega), her]
    exact ⟨vinN (by omega) (by omega), mid _ _ _ _ _ rfl⟩
