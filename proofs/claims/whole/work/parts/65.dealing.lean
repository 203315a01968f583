/-! Dealing, as numbers: the row of psalms, its sums, the hours' ends, the least limit -/
def cnt (u : Nat → Bool) : Nat → Nat
  | 0 => 0
  | q + 1 => cnt u q + (if u q then 1 else 0)
def rf (u : Nat → Bool) : Nat → Nat → Nat
  | 0 => fun _ => 0
  | q + 1 => fun i => if u q = true ∧ i = cnt u q then q else rf u q i
theorem cnt_mono {u : Nat → Bool} {a b : Nat} (h : a ≤ b) : cnt u a ≤ cnt u b := by
  induction b with
  | zero => rw [Nat.le_zero.mp h]; exact Nat.le_refl _
  | succ b ih =>
    by_cases e : a = b + 1
    · rw [e]; exact Nat.le_refl _
    · exact Nat.le_trans (ih (by omega)) (Nat.le_add_right _ _)
theorem cnt_lt {u : Nat → Bool} {a b : Nat} (h : a < b) (hu : u a = true) : cnt u a < cnt u b := by
  have := cnt_mono (u := u) (show a + 1 ≤ b from h)
  simp only [cnt, hu, if_true] at this
  omega
theorem cnt_le (u : Nat → Bool) (q : Nat) : cnt u q ≤ q := by
  induction q with
  | zero => exact Nat.le_refl _
  | succ q ih => simp only [cnt]; split <;> omega
theorem rf_cnt {u : Nat → Bool} {q n : Nat} (h : q < n) (hu : u q = true) : rf u n (cnt u q) = q := by
  induction n with
  | zero => omega
  | succ n ih =>
    simp only [rf]
    by_cases e : q = n
    · subst e; rw [if_pos ⟨hu, rfl⟩]
    · have lt := cnt_lt (show q < n by omega) hu
      rw [if_neg (fun z => by omega)]
      exact ih (by omega)
theorem rf_of {u : Nat → Bool} {n i : Nat} (h : i < cnt u n) : u (rf u n i) = true ∧ rf u n i < n ∧ cnt u (rf u n i) = i := by
  induction n with
  | zero => simp only [cnt] at h; omega
  | succ n ih =>
    simp only [rf]
    by_cases hu : u n = true
    · by_cases e : i = cnt u n
      · rw [if_pos ⟨hu, e⟩]; exact ⟨hu, by omega, e.symm⟩
      · rw [if_neg (fun z => e z.2)]
        simp only [cnt, hu, if_true] at h
        obtain ⟨a, b, c⟩ := ih (by omega)
        exact ⟨a, by omega, c⟩
    · rw [if_neg (fun z => hu z.1)]
      simp only [cnt, hu] at h
      obtain ⟨a, b, c⟩ := ih (by simpa using h)
      exact ⟨a, by omega, c⟩
/-- sums of the first -/
def Sm (v : Nat → Nat) : Nat → Nat
  | 0 => 0
  | i + 1 => Sm v i + v i
theorem Sm_mono {v : Nat → Nat} {a b : Nat} (h : a ≤ b) : Sm v a ≤ Sm v b := by
  induction b with
  | zero => rw [Nat.le_zero.mp h]; exact Nat.le_refl _
  | succ b ih =>
    by_cases e : a = b + 1
    · rw [e]; exact Nat.le_refl _
    · exact Nat.le_trans (ih (by omega)) (Nat.le_add_right _ _)
theorem Sm_bound {v : Nat → Nat} {k : Nat} : ∀ {n : Nat}, (∀ i, i < n → v i ≤ k) → Sm v n ≤ k * n := by
  intro n
  induction n with
  | zero => intro _; exact Nat.zero_le _
  | succ n ih =>
    intro h
    have := ih (fun i hi => h i (by omega))
    have := h n (by omega)
    simp only [Sm, Nat.mul_succ]
    omega
/-- where an hour ends: searching on from e -/
def nE (v : Nat → Nat) (m lim f : Nat) : Nat → Nat → Nat
  | 0, e => e
  | n + 1, e => if e < m ∧ Sm v (e + 1) ≤ Sm v f + lim then nE v m lim f n (e + 1) else e
theorem nE_eq {v : Nat → Nat} {m lim f e : Nat} (h2 : e ≤ m) (h3 : Sm v e ≤ Sm v f + lim) (h4 : e = m ∨ Sm v f + lim < Sm v (e + 1)) : ∀ n s, s ≤ e → m ≤ s + n → nE v m lim f n s = e := by
  intro n
  induction n with
  | zero => intro s h5 h6; simp only [nE]; omega
  | succ n ih =>
    intro s h5 h6
    simp only [nE]
    by_cases c : s < m ∧ Sm v (s + 1) ≤ Sm v f + lim
    · rw [if_pos c]
      have : s ≠ e := fun q => by
        subst q
        rcases h4 with h4 | h4
        · omega
        · omega
      exact ih (s + 1) (by omega) (by omega)
    · rw [if_neg c]
      rcases Nat.lt_or_ge s e with q | q
      · exfalso
        exact c ⟨by omega, Nat.le_trans (Sm_mono q) h3⟩
      · omega
theorem nE_is {v : Nat → Nat} {m lim f : Nat} : ∀ n s, s ≤ m → m ≤ s + n → Sm v s ≤ Sm v f + lim → s ≤ nE v m lim f n s ∧ nE v m lim f n s ≤ m ∧ Sm v (nE v m lim f n s) ≤ Sm v f + lim ∧ (nE v m lim f n s = m ∨ Sm v f + lim < Sm v (nE v m lim f n s + 1)) := by
  intro n
  induction n with
  | zero => intro s h1 h2 h3; simp only [nE]; exact ⟨Nat.le_refl _, h1, h3, Or.inl (by omega)⟩
  | succ n ih =>
    intro s h1 h2 h3
    simp only [nE]
    by_cases c : s < m ∧ Sm v (s + 1) ≤ Sm v f + lim
    · rw [if_pos c]
      obtain ⟨a, b⟩ := ih (s + 1) (by omega) (by omega) c.2
      exact ⟨by omega, b⟩
    · rw [if_neg c]
      refine ⟨Nat.le_refl _, h1, h3, ?_⟩
      by_cases q : s < m
      · exact Or.inr (by
          rcases Nat.lt_or_ge (Sm v f + lim) (Sm v (s + 1)) with z | z
          · exact z
          · exact absurd ⟨q, z⟩ c)
      · exact Or.inl (by omega)
def hE (v : Nat → Nat) (m lim f : Nat) : Nat := nE v m lim f m f
theorem hE_is {v : Nat → Nat} {m lim f : Nat} (hf : f ≤ m) : f ≤ hE v m lim f ∧ hE v m lim f ≤ m ∧ Sm v (hE v m lim f) ≤ Sm v f + lim ∧ (hE v m lim f = m ∨ Sm v f + lim < Sm v (hE v m lim f + 1)) := nE_is m f hf (by omega) (by omega)
theorem hE_eq {v : Nat → Nat} {m lim f e : Nat} (h1 : f ≤ e) (h2 : e ≤ m) (h3 : Sm v e ≤ Sm v f + lim) (h4 : e = m ∨ Sm v f + lim < Sm v (e + 1)) : hE v m lim f = e := nE_eq h2 h3 h4 m f h1 (by omega)
def st (v : Nat → Nat) (m lim : Nat) : Nat → Nat
  | 0 => 0
  | k + 1 => hE v m lim (st v m lim k)
theorem st_le {v : Nat → Nat} {m lim : Nat} : ∀ k, st v m lim k ≤ m := by
  intro k
  induction k with
  | zero => exact Nat.zero_le _
  | succ k ih => exact (hE_is ih).2.1
theorem st_up {v : Nat → Nat} {m lim : Nat} (k : Nat) : st v m lim k ≤ st v m lim (k + 1) := (hE_is (st_le k)).1
theorem st_mono {v : Nat → Nat} {m lim a b : Nat} (h : a ≤ b) : st v m lim a ≤ st v m lim b := by
  induction b with
  | zero => rw [Nat.le_zero.mp h]; exact Nat.le_refl _
  | succ b ih =>
    by_cases e : a = b + 1
    · rw [e]; exact Nat.le_refl _
    · exact Nat.le_trans (ih (by omega)) (st_up b)
theorem st_full {v : Nat → Nat} {m lim a b : Nat} (h : a ≤ b) (e : st v m lim a = m) : st v m lim b = m := by
  have := st_mono (v := v) (m := m) (lim := lim) h
  have := st_le (v := v) (m := m) (lim := lim) b
  omega
/-- an hour that begins no sooner and holds no less ends no sooner -/
theorem hE_mono {v : Nat → Nat} {m l l' f f' : Nat} (hf : f ≤ f') (hf' : f' ≤ m) (hl : l ≤ l') : hE v m l f ≤ hE v m l' f' := by
  obtain ⟨a1, a2, a3, a4⟩ := hE_is (v := v) (m := m) (lim := l) (f := f) (by omega)
  obtain ⟨b1, b2, b3, b4⟩ := hE_is (v := v) (m := m) (lim := l') (f := f') hf'
  rcases b4 with b4 | b4
  · omega
  · rcases Nat.lt_or_ge (hE v m l' f') (hE v m l f) with q | q
    · exfalso
      have s1 := Sm_mono (v := v) (show hE v m l' f' + 1 ≤ hE v m l f from q)
      have s2 := Sm_mono (v := v) hf
      omega
    · exact q
theorem st_lim {v : Nat → Nat} {m l l' : Nat} (hl : l ≤ l') : ∀ k, st v m l k ≤ st v m l' k := by
  intro k
  induction k with
  | zero => exact Nat.le_refl _
  | succ k ih => exact hE_mono ih (st_le k) hl
def enough (v : Nat → Nat) (m N lim : Nat) : Prop := st v m lim N = m
theorem enough_up {v : Nat → Nat} {m N l l' : Nat} (hl : l ≤ l') (h : enough v m N l) : enough v m N l' := by
  have a := st_lim (v := v) (m := m) hl N
  have b := st_le (v := v) (m := m) (lim := l') N
  unfold enough at h ⊢
  omega
theorem enough_all {v : Nat → Nat} {m N l : Nat} (hN : 1 ≤ N) (hl : Sm v m ≤ l) : enough v m N l := by
  refine st_full hN ?_
  show hE v m l 0 = m
  exact hE_eq (Nat.zero_le _) (Nat.le_refl _) (by simp only [Sm]; omega) (Or.inl rfl)
/-- a psalm that is longer than the limit is never passed -/
theorem st_stuck {v : Nat → Nat} {m l i : Nat} (hi : i < m) (hv : l < v i) : ∀ k, st v m l k ≤ i := by
  intro k
  induction k with
  | zero => exact Nat.zero_le _
  | succ k ih =>
    show hE v m l (st v m l k) ≤ i
    obtain ⟨a1, a2, a3, a4⟩ := hE_is (v := v) (m := m) (lim := l) (f := st v m l k) (st_le k)
    rcases Nat.lt_or_ge i (hE v m l (st v m l k)) with q | q
    · exfalso
      have s1 := Sm_mono (v := v) (show i + 1 ≤ hE v m l (st v m l k) from q)
      have s2 := Sm_mono (v := v) ih
      simp only [Sm] at s1
      omega
    · exact q
theorem not_enough {v : Nat → Nat} {m N l i : Nat} (hi : i < m) (hv : l < v i) : ¬ enough v m N l := by
  have := st_stuck hi hv N
  unfold enough
  omega
def isLeast (v : Nat → Nat) (m N lim : Nat) : Prop := enough v m N lim ∧ ∀ l, l < lim → ¬ enough v m N l
theorem least_eq {v : Nat → Nat} {m N a b : Nat} (ha : isLeast v m N a) (hb : isLeast v m N b) : a = b := by
  rcases Nat.lt_or_ge a b with q | q
  · exact absurd ha.1 (hb.2 a q)
  · rcases Nat.lt_or_ge b a with z | z
    · exact absurd hb.1 (ha.2 b z)
    · omega
/-- in which hour a psalm of the row lies -/
theorem slot_of {v : Nat → Nat} {m lim i : Nat} : ∀ N, i < st v m lim N → ∃ s, s < N ∧ st v m lim s ≤ i ∧ i < st v m lim (s + 1) := by
  intro N
  induction N with
  | zero => intro h; simp only [st] at h; omega
  | succ N ih =>
    intro h
    rcases Nat.lt_or_ge i (st v m lim N) with q | q
    · obtain ⟨s, a, b, c⟩ := ih q
      exact ⟨s, by omega, b, c⟩
    · exact ⟨N, by omega, q, h⟩
