/-! Ints, and what the two 'in' say -/
theorem nI_clampN {n : Nat} (h : n < 2147483648) : (nI n).toNatClampNeg = n := nI_clamp h
theorem in_c {v lo hi : Int32} (l h : Nat) (hl : lo = nI l) (hh : hi = nI h) (hlh : l ≤ h) (h31 : h < 2147483648) : (f_Md_in v lo hi = 0 ∧ (v < lo ∨ hi < v)) ∨ (∃ t, l ≤ t ∧ t ≤ h ∧ v = nI t ∧ f_Md_in v lo hi = 1) := by
  subst hl; subst hh
  unfold f_Md_in
  by_cases c1 : v < nI l
  · exact Or.inl ⟨if_pos c1, Or.inl c1⟩
  · by_cases c2 : nI h < v
    · exact Or.inl ⟨by rw [if_neg c1, if_pos c2], Or.inr c2⟩
    · refine Or.inr ?_
      have e1 : (nI l).toInt = (l : Int) := nI_toInt (by omega)
      have e2 : (nI h).toInt = (h : Int) := nI_toInt h31
      rw [Int32.lt_iff_toInt_lt, e1] at c1
      rw [Int32.lt_iff_toInt_lt, e2] at c2
      refine ⟨v.toInt.toNat, by omega, by omega, ?_, ?_⟩
      · apply Int32.toInt_inj.mp
        rw [nI_toInt (by omega)]
        omega
      · rw [if_neg (by rw [Int32.lt_iff_toInt_lt, e1]; exact c1), if_neg (by rw [Int32.lt_iff_toInt_lt, e2]; exact c2)]
theorem within_in : f_Bk_within = f_Md_in := rfl
theorem nI_ne {a b : Nat} (ha : a < 2147483648) (hb : b < 2147483648) (h : a ≠ b) : ¬ nI a = nI b := fun q => h ((nI_eq ha hb).mp q)
theorem f_at_in {w : Wd} {c n i : Nat} (hi : i < n) (hn : n < 2147483648) : f_at w c n (nI i) = w c i := by
  show (if nI i < 0 then -1 else if nI n ≤ nI i then -1 else w c (nI i).toNatClampNeg) = _
  rw [if_neg (nI_pos (by omega)), if_neg (nI_ge hi hn), nI_clampN (by omega)]
theorem f_at_out {w : Wd} {c n : Nat} {i : Int32} (h : i < 0 ∨ nI n ≤ i) : f_at w c n i = -1 := by
  show (if i < 0 then -1 else if nI n ≤ i then -1 else w c i.toNatClampNeg) = _
  by_cases c1 : i < 0
  · rw [if_pos c1]
  · rw [if_neg c1, if_pos (h.resolve_left c1)]
theorem g_put_in {w : Wd} {c n i : Nat} {v : Int32} (hi : i < n) (hn : n < 2147483648) : g_put w c n (nI i) v = wr w c i v := by
  show (if nI i < 0 then w else if nI n ≤ nI i then w else wr w c (nI i).toNatClampNeg v) = _
  rw [if_neg (nI_pos (by omega)), if_neg (nI_ge hi hn), nI_clampN (by omega)]
theorem vinN {i n : Nat} (hi : i < n) (hn : n < 2147483648) : vp_in (nI i) n := vp_in_nI hi hn
theorem and1 {x : Int32} (h : x = 0 ∨ x = 1) : x &&& 1 = x := by rcases h with rfl | rfl <;> rfl
/-- a loop upwards: what holds at the end holds at the start, if each turn hands it back -/
theorem up_loop (P : Nat → Prop) (a n : Nat) (ha : a ≤ n) (hlast : P n) (hstep : ∀ i, a ≤ i → i < n → P (i + 1) → P i) : P a := by
  have key : ∀ k i, i + k = n → a ≤ i → P i := by
    intro k
    induction k with
    | zero =>
      intro i h1 h2
      rw [show i = n by omega]
      exact hlast
    | succ k ih =>
      intro i h1 h2
      exact hstep i h2 (by omega) (ih (i + 1) (by omega) (by omega))
  exact key (n - a) a (by omega) (Nat.le_refl a)
theorem if_out {α : Type} {v m : Int32} {x y : α} (h : v < 0 ∨ m ≤ v) : (if v < 0 then x else if m ≤ v then x else y) = x := by
  by_cases c : v < 0
  · rw [if_pos c]
  · rw [if_neg c, if_pos (h.resolve_left c)]
theorem if_inn {α : Type} {t n : Nat} {m : Int32} {x y : α} (hm : m = nI n) (ht : t < n) (hn : n < 2147483648) : (if nI t < 0 then x else if m ≤ nI t then x else y) = y := by
  subst hm
  rw [if_neg (nI_pos (by omega)), if_neg (nI_ge ht hn)]
theorem ix_c (v : Int32) {n : Nat} {m : Int32} (hm : m = nI n) (hn : n < 2147483648) : (v < 0 ∨ m ≤ v) ∨ ∃ t, t < n ∧ v = nI t := by
  subst hm
  rcases pk_ix v hn with h | h | ⟨t, ht, e⟩
  · exact Or.inl (Or.inl h)
  · exact Or.inl (Or.inr h)
  · exact Or.inr ⟨t, ht, e⟩
theorem in_out {v hi : Int32} {h : Nat} (hh : hi = nI h) (h31 : h + 1 < 2147483648) (hv : v < 0 ∨ nI (h + 1) ≤ v) : f_Md_in v 0 hi = 0 := by
  rcases in_c (v := v) (hi := hi) 0 h rfl hh (Nat.zero_le h) (by omega) with ⟨e, -⟩ | ⟨t, -, ht, rfl, -⟩
  · exact e
  · rcases hv with hv | hv
    · exact absurd hv (nI_pos (by omega))
    · exact absurd hv (nI_ge (by omega) h31)
theorem in_in {lo hi : Int32} {t l h : Nat} (hl : lo = nI l) (hh : hi = nI h) (h1 : l ≤ t) (h2 : t ≤ h) (h31 : h < 2147483648) : f_Md_in (nI t) lo hi = 1 := by
  subst hl; subst hh
  unfold f_Md_in
  rw [if_neg (nI_nlt h1 (by omega)), if_neg (nI_nlt h2 h31)]
theorem one_ne : ¬ ((1 : Int32) = 0) := by decide
/-- two calls, one of each book: one answer, a part of the worlds kept alike, nothing else changed -/
def Par (zs : List Int32) (hB mB hM mM : Nat) (as : List AV) (G : Wd → Prop) (P : Nat → Nat → Prop) : Prop := ∀ w, G w → Ew zs hB mB (.inr (.inl (some 0)) :: as) w (fun v w1 => ∃ r : Int32, v = some (.inl r) ∧ Ew zs hM mM (.inr (.inl (some 155)) :: as) w1 (fun v2 w2 => v2 = some (.inl r) ∧ G w2 ∧ ∀ c k, ¬ P c k → w2 c k = w c k))
theorem off_rf {w : Wd} {P : Nat → Nat → Prop} : ∀ c k, ¬ P c k → w c k = w c k := fun _ _ _ => rfl
theorem off_wr {w w' : Wd} {P : Nat → Nat → Prop} {c0 k0 : Nat} {x : Int32} (h : ∀ c k, ¬ P c k → w' c k = w c k) (hp : P c0 k0) : ∀ c k, ¬ P c k → wr w' c0 k0 x c k = w c k := by
  intro c k hn
  have : ¬ (c = c0 ∧ k = k0) := fun q => hn (by rw [q.1, q.2]; exact hp)
  unfold wr
  rw [if_neg this]
  exact h c k hn
