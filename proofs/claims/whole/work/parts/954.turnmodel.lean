/-! Rosters: bits of a number; the turns as numbers -/
def tbI (x : Int32) (m : Nat) : Bool := x.toBitVec.getLsbD m
theorem tb_one : ∀ m, m < 32 → ((1 : Int32) <<< (nI m &&& 31)).toBitVec = BitVec.twoPow 32 m := by decide +kernel
theorem tb_nz : ∀ m, m < 32 → BitVec.twoPow 32 m ≠ 0#32 := by decide +kernel
theorem tb_sm : ∀ m, m < 32 → ((nI m &&& 31).toBitVec.smod 32).toNat = m := by decide +kernel
theorem tb_0 (m : Nat) : tbI 0 m = false := BitVec.getLsbD_zero
theorem tb_and (x : Int32) {m : Nat} (hm : m < 32) : x &&& ((1 : Int32) <<< (nI m &&& 31)) = 0 ↔ ¬ tbI x m = true := by
  rw [← Int32.toBitVec_inj, Int32.toBitVec_and, tb_one m hm, BitVec.and_twoPow]
  unfold tbI
  by_cases h : x.toBitVec.getLsbD m = true
  · rw [if_pos h]; exact ⟨fun z => absurd z (tb_nz m hm), fun z => absurd h z⟩
  · rw [if_neg h]; exact ⟨fun _ => h, fun _ => rfl⟩
theorem tb_or (x : Int32) {a m : Nat} (ha : a < 32) (hm : m < 32) : tbI (x ||| ((1 : Int32) <<< (nI a &&& 31))) m = true ↔ (tbI x m = true ∨ m = a) := by
  unfold tbI
  rw [Int32.toBitVec_or, BitVec.getLsbD_or, tb_one a ha, BitVec.getLsbD_twoPow, Bool.or_eq_true]
  refine ⟨fun h => ?_, fun h => ?_⟩
  · rcases h with h | h
    · exact Or.inl h
    · right
      simp at h
      omega
  · rcases h with h | h
    · exact Or.inl h
    · right
      simp
      omega
theorem tb_shr (x : Int32) {m : Nat} (hm : m < 32) : ((x >>> (nI m &&& 31)) &&& 1 : Int32) = if tbI x m = true then 1 else 0 := by
  apply Int32.toBitVec_inj.mp
  rw [Int32.toBitVec_and, Int32.toBitVec_shiftRight]
  show (x.toBitVec.sshiftRight ((nI m &&& 31).toBitVec.smod 32).toNat &&& 1#32) = _
  rw [tb_sm m hm, BitVec.and_one_eq_setWidth_ofBool_getLsbD, BitVec.getLsbD_sshiftRight]
  unfold tbI
  have e : (!decide (32 ≤ 0) && if m + 0 < 32 then x.toBitVec.getLsbD (m + 0) else x.toBitVec.msb) = x.toBitVec.getLsbD m := by
    rw [Nat.add_zero, if_pos hm]
    simp
  rw [e]
  cases x.toBitVec.getLsbD m
  · rfl
  · rfl
def ST5 : Type := (Nat → Int32) × ((Nat → Int32) × ((Nat → Option Int32) × ((Nat → Bool) × Nat)))
def ST5.of (s : ST5) : Nat → Int32 := s.1
def ST5.la (s : ST5) : Nat → Int32 := s.2.1
def ST5.se (s : ST5) : Nat → Option Int32 := s.2.2.1
def ST5.tk (s : ST5) : Nat → Bool := s.2.2.2.1
def ST5.op (s : ST5) : Nat := s.2.2.2.2
def PT5 : Type := (Nat → Nat → Bool) × ((Nat → Nat → Bool) × (Nat × (Nat → Nat → Nat)))
def PT5.can (p : PT5) : Nat → Nat → Bool := p.1
def PT5.gone (p : PT5) : Nat → Nat → Bool := p.2.1
def PT5.nM (p : PT5) : Nat := p.2.2.1
def PT5.nS (p : PT5) : Nat → Nat → Nat := p.2.2.2
def el5 (p : PT5) (s : ST5) (k r m : Nat) : Bool := p.can m r && (!s.tk m && !p.gone k m)
def ah5 (s : ST5) (r m b : Nat) : Bool := decide (s.of (3 * m + r) < s.of (3 * b + r) ∨ (s.of (3 * m + r) = s.of (3 * b + r) ∧ s.la (3 * m + r) < s.la (3 * b + r)))
def ch5 (p : PT5) (s : ST5) (k r : Nat) : Nat → Option Nat
  | 0 => none
  | m + 1 => if el5 p s k r m = true then (match ch5 p s k r m with | none => some m | some b => if ah5 s r m b = true then some m else some b) else ch5 p s k r m
def pt5 (s : ST5) (k r i : Nat) (c : Option Nat) : ST5 := match c with
  | none => (s.of, s.la, upM s.se (11 * k + plc r + i) (some (-2)), s.tk, s.op + 1)
  | some m => (upM s.of (3 * m + r) (s.of (3 * m + r) + 1), upM s.la (3 * m + r) (nI k), upM s.se (11 * k + plc r + i) (some (nI m)), upM s.tk m true, s.op)
def sI5 (p : PT5) (k r : Nat) (s : ST5) : Nat → ST5
  | 0 => s
  | i + 1 => pt5 (sI5 p k r s i) k r i (ch5 p (sI5 p k r s i) k r p.nM)
def sR5 (p : PT5) (k : Nat) (s : ST5) : Nat → ST5
  | 0 => s
  | r + 1 => sI5 p k r (sR5 p k s r) (p.nS k r)
def cl5 (s : ST5) : ST5 := (s.of, s.la, s.se, (fun _ => false), s.op)
def s05 : ST5 := ((fun _ => 0), (fun _ => -1), (fun _ => none), (fun _ => false), 0)
def sK5 (p : PT5) : Nat → ST5
  | 0 => s05
  | k + 1 => sR5 p k (cl5 (sK5 p k)) 3
theorem ch5_lt {p : PT5} {s : ST5} {k r m : Nat} : ∀ {n : Nat}, ch5 p s k r n = some m → m < n := by
  intro n
  induction n with
  | zero => intro h; cases h
  | succ n ih =>
    intro h
    simp only [ch5] at h
    by_cases c : el5 p s k r n = true
    · rw [if_pos c] at h
      cases hn : ch5 p s k r n with
      | none => rw [hn] at h; cases h; exact Nat.lt_succ_self _
      | some b =>
        rw [hn] at h
        by_cases q : ah5 s r n b = true
        · simp only [if_pos q] at h; cases h; exact Nat.lt_succ_self _
        · simp only [if_neg q] at h; cases h; have := ih hn; omega
    · rw [if_neg c] at h
      have := ih h
      omega
/-- who is not a monk has nothing -/
def of05 (p : PT5) (s : ST5) : Prop := ∀ j, 3 * p.nM ≤ j → s.of j = 0
theorem of05_p {p : PT5} {s : ST5} {k r i n : Nat} (hr : r < 3) (hn : n ≤ p.nM) (h : of05 p s) : of05 p (pt5 s k r i (ch5 p s k r n)) := by
  cases hc : ch5 p s k r n with
  | none => exact h
  | some m =>
    have := ch5_lt hc
    intro j hj
    show upM s.of (3 * m + r) _ j = 0
    rw [upM_ne (by omega)]
    exact h j hj
theorem of05_i {p : PT5} {s : ST5} {k r : Nat} (hr : r < 3) (h : of05 p s) : ∀ i, of05 p (sI5 p k r s i) := by
  intro i
  induction i with
  | zero => exact h
  | succ i ih => exact of05_p hr (Nat.le_refl _) ih
theorem of05_r {p : PT5} {s : ST5} {k : Nat} (h : of05 p s) : ∀ r, r ≤ 3 → of05 p (sR5 p k s r) := by
  intro r
  induction r with
  | zero => intro _; exact h
  | succ r ih => intro hr; exact of05_i (by omega) (ih (by omega)) _
theorem of05_k (p : PT5) : ∀ k, of05 p (sK5 p k) := by
  intro k
  induction k with
  | zero => intro j _; rfl
  | succ k ih => exact of05_r (s := cl5 (sK5 p k)) ih 3 (Nat.le_refl _)
/-- a seat that is given stays given -/
def gv5 (s : ST5) (x : Nat) : Prop := ∃ v, s.se x = some v
theorem gv5_p {s : ST5} {k r i x : Nat} {c : Option Nat} (h : gv5 s x ∨ x = 11 * k + plc r + i) : gv5 (pt5 s k r i c) x := by
  have key : ∀ v0, gv5 ((s.of, s.la, upM s.se (11 * k + plc r + i) (some v0), s.tk, s.op) : (Nat → Int32) × ((Nat → Int32) × ((Nat → Option Int32) × ((Nat → Bool) × Nat)))) x := by
    intro v0
    show ∃ v, upM s.se (11 * k + plc r + i) (some v0) x = some v
    by_cases q : x = 11 * k + plc r + i
    · subst q; exact ⟨v0, upM_eq⟩
    · obtain ⟨v, hv⟩ := h.resolve_right q
      exact ⟨v, by rw [upM_ne q]; exact hv⟩
  cases c with
  | none => exact key (-2)
  | some m => exact key (nI m)
theorem gv5_i {p : PT5} {s : ST5} {k r x : Nat} : ∀ i, (gv5 s x ∨ ∃ i', i' < i ∧ x = 11 * k + plc r + i') → gv5 (sI5 p k r s i) x := by
  intro i
  induction i with
  | zero =>
    intro h
    rcases h with h | ⟨i', h, _⟩
    · exact h
    · omega
  | succ i ih =>
    intro h
    refine gv5_p ?_
    rcases h with h | ⟨i', h1, h2⟩
    · exact Or.inl (ih (Or.inl h))
    · by_cases q : i' = i
      · subst q; exact Or.inr h2
      · exact Or.inl (ih (Or.inr ⟨i', by omega, h2⟩))
theorem gv5_r {p : PT5} {s : ST5} {k x : Nat} : ∀ r, (gv5 s x ∨ ∃ r' i', r' < r ∧ i' < p.nS k r' ∧ x = 11 * k + plc r' + i') → gv5 (sR5 p k s r) x := by
  intro r
  induction r with
  | zero =>
    intro h
    rcases h with h | ⟨r', i', h, _⟩
    · exact h
    · omega
  | succ r ih =>
    intro h
    refine gv5_i _ ?_
    rcases h with h | ⟨r', i', h1, h2, h3⟩
    · exact Or.inl (ih (Or.inl h))
    · by_cases q : r' = r
      · subst q; exact Or.inr ⟨i', h2, h3⟩
      · exact Or.inl (ih (Or.inr ⟨r', i', by omega, h2, h3⟩))
theorem gv5_k {p : PT5} {x : Nat} : ∀ k, (∃ k' r' i', k' < k ∧ r' < 3 ∧ i' < p.nS k' r' ∧ x = 11 * k' + plc r' + i') → gv5 (sK5 p k) x := by
  intro k
  induction k with
  | zero => intro ⟨k', r', i', h, _⟩; omega
  | succ k ih =>
    intro ⟨k', r', i', h1, h2, h3, h4⟩
    refine gv5_r (s := cl5 (sK5 p k)) 3 ?_
    by_cases q : k' = k
    · subst q; exact Or.inr ⟨r', i', h2, h3, h4⟩
    · exact Or.inl (ih ⟨k', r', i', by omega, h2, h3, h4⟩)
/-- the many of a role, by the rank -/
def nSt (rk r : Nat) : Nat := if r = 0 then 1 else if r = 1 then (if rk < 7 then (if rk < 4 then 1 else 2) else 4) else (if rk < 6 then (if rk < 3 then 1 else 3) else 6)
theorem nSt_is : ∀ rk, rk < 10 → ∀ r, r < 3 → f_Ros_manySeats (nI r) (nI rk) = nI (nSt rk r) ∧ 1 ≤ nSt rk r ∧ plc r + nSt rk r ≤ 11 := by decide +kernel
/-- who is away, by so many absences -/
def awM (w : Wd) (y d : Int32) (m : Nat) : Nat → Bool
  | 0 => false
  | j + 1 => awM w y d m j || (decide (w 198 j = nI m) && (decide (w 199 j = y) && decide (f_Md_in d (w 200 j) (w 201 j) = 1)))
theorem awM_s {w : Wd} {y d : Int32} {m j : Nat} : awM w y d m (j + 1) = true ↔ (awM w y d m j = true ∨ (w 198 j = nI m ∧ w 199 j = y ∧ f_Md_in d (w 200 j) (w 201 j) = 1)) := by
  show (awM w y d m j || (decide (w 198 j = nI m) && (decide (w 199 j = y) && decide (f_Md_in d (w 200 j) (w 201 j) = 1)))) = true ↔ _
  rw [Bool.or_eq_true, Bool.and_eq_true, Bool.and_eq_true, decide_eq_true_iff, decide_eq_true_iff, decide_eq_true_iff]
theorem ew_awayBits {zs : List Int32} {w : Wd} {nM nA : Nat} {y d : Int32} {Q : Option AV → Wd → Prop} (hA : w 144 6 = nI nA) (hA2 : nA ≤ 60) (hM : nM ≤ 24) (hr : ∀ j, j < nA → w 146 j = w 198 j ∧ (∃ t, t < nM ∧ w 198 j = nI t) ∧ w 147 j = w 199 j ∧ w 148 j = w 200 j ∧ w 149 j = w 201 j) (h : ∀ x, (∀ m, m < 24 → (tbI x m = true ↔ awM w y d m nA = true)) → Q (some (.inl x)) w) : Ew zs 1 m_Cho_awayBits [.inr (.inl (some 144)), .inl y, .inl d] w Q := by
  refine ew_of k_Cho_awayBits rfl (sg_Cho_awayBits_0 ?_)
  have g := up_loop (fun j => ∀ x, (∀ m, m < 24 → (tbI x m = true ↔ awM w y d m j = true)) → Gw zs 1 m_Cho_awayBits 5 [some (.inr (.inl (some 144))), some (.inl y), some (.inl d), some (.inl x), some (.inl (nI j))] [] w Q) 0 nA (by omega) ?_ ?_
  · exact g 0 (fun m _ => by rw [tb_0]; exact Iff.rfl)
  · intro x hx
    refine sg_Cho_awayBits_5 ?_
    rw [hA]
    exact ⟨fun _ => h x hx, fun c => absurd (nI_le (Nat.le_refl _) (by omega)) c⟩
  · intro j _ hj ih x hx
    obtain ⟨a1, ⟨t, t1, t2⟩, a2, a3, a4⟩ := hr j hj
    have no : ¬ (w 199 j = y ∧ f_Md_in d (w 200 j) (w 201 j) = 1) → Gw zs 1 m_Cho_awayBits 5 [some (.inr (.inl (some 144))), some (.inl y), some (.inl d), some (.inl x), some (.inl (nI (j + 1)))] [] w Q := by
      intro q
      refine ih x (fun m hm => ?_)
      rw [hx m hm, awM_s]
      exact ⟨Or.inl, fun z => z.elim id (fun z => absurd ⟨z.2.1, z.2.2⟩ q)⟩
    refine sg_Cho_awayBits_5 ?_
    rw [hA, f_at_in (by omega) (by omega), f_at_in (by omega) (by omega), f_at_in (by omega) (by omega), f_at_in (by omega) (by omega), a1, a2, a3, a4, t2, nI_1, show f_Bk_within = f_Md_in from rfl]
    refine ⟨fun c => absurd c (nI_gle hj (by omega)), fun _ => ⟨fun c => ⟨fun c2 => no (fun q => in_n0 q.2 c2), fun c2 => ?_⟩, fun c => no (fun q => c q.1)⟩⟩
    refine ih _ (fun m hm => ?_)
    rw [tb_or x (by omega) (by omega), hx m hm, awM_s, t2]
    refine ⟨fun z => z.elim Or.inl (fun z => Or.inr ⟨by rw [z], c, in_1 c2⟩), fun z => z.elim Or.inl (fun z => Or.inr ?_)⟩
    exact ((nI_eq (by omega) (by omega)).mp z.1).symm
theorem ew_isThere {zs : List Int32} {w : Wd} {nA m : Nat} {y d : Int32} {Q : Option AV → Wd → Prop} (hA : w 155 53 = nI nA) (hA2 : nA ≤ 60) (h : Q (some (.inl (if awM w y d m nA = true then 0 else 1))) w) : Ew zs 1 m_Md_isThere [.inr (.inl (some 155)), .inl (nI m), .inl y, .inl d] w Q := by
  refine ew_of k_Md_isThere rfl (sg_Md_isThere_0 ?_)
  have g := up_loop (fun j => Gw zs 1 m_Md_isThere 6 [some (.inr (.inl (some 155))), some (.inl (nI m)), some (.inl y), some (.inl d), some (.inl (if awM w y d m j = true then 0 else 1)), some (.inl (nI j))] [] w Q) 0 nA (by omega) ?_ ?_
  · exact g
  · refine sg_Md_isThere_6 ?_
    rw [hA]
    refine ⟨fun _ => ⟨?_, h⟩, fun c => absurd (nI_le (Nat.le_refl _) (by omega)) c⟩
    split
    · exact Or.inl rfl
    · exact Or.inr rfl
  · intro j _ hj ih
    have v := vinN (i := j) (n := 60) (by omega) (by omega)
    have gone : awM w y d m (j + 1) = true → Gw zs 1 m_Md_isThere 6 [some (.inr (.inl (some 155))), some (.inl (nI m)), some (.inl y), some (.inl d), some (.inl 0), some (.inl (nI (j + 1)))] [] w Q := by
      intro q
      rw [if_pos q] at ih
      exact ih
    have here : ¬ awM w y d m (j + 1) = true → Gw zs 1 m_Md_isThere 6 [some (.inr (.inl (some 155))), some (.inl (nI m)), some (.inl y), some (.inl d), some (.inl 1), some (.inl (nI (j + 1)))] [] w Q := by
      intro q
      rw [if_neg q] at ih
      exact ih
    refine sg_Md_isThere_6 ?_
    rw [hA, nI_clampN (by omega), nI_1]
    refine ⟨fun c => absurd c (nI_gle hj (by omega)), fun _ => ⟨fun c => ?_, fun c => ⟨v, fun c1 => ⟨v, fun c2 => ⟨v, v, fun c3 => ?_, fun c3 => ?_⟩, fun c2 => ?_⟩, fun c1 => ?_⟩⟩⟩
    · by_cases q : awM w y d m j = true
      · exact gone (awM_s.mpr (Or.inl q))
      · rw [if_neg q] at c; exact absurd c one_ne
    · have n0 : ¬ awM w y d m j = true := fun q => by rw [if_pos q] at c; exact c rfl
      exact here (fun z => (awM_s.mp z).elim n0 (fun z => in_n0 z.2.2 c3))
    · exact gone (awM_s.mpr (Or.inr ⟨c1, c2, in_1 c3⟩))
    · have n0 : ¬ awM w y d m j = true := fun q => by rw [if_pos q] at c; exact c rfl
      exact here (fun z => (awM_s.mp z).elim n0 (fun z => c2 z.2.1))
    · have n0 : ¬ awM w y d m j = true := fun q => by rw [if_pos q] at c; exact c rfl
      exact here (fun z => (awM_s.mp z).elim n0 (fun z => c1 z.1))
