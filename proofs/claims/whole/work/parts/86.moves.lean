/-! Feasts that are moved, as numbers -/
def mvI (m : Option (Option Nat)) : Int32 := match m with | none => -1 | some none => -4 | some (some d) => nI d
def owN (y : YT) (f : Nat) : Nat := (y.own f).getD 0
def dueM (y : YT) (mv : Nat → Option (Option Nat)) (f : Nat) : Bool := decide (y.wy f = 2) && ((y.own f).isSome && (mv f).isNone)
def befM (y : YT) (f g : Nat) : Bool := decide (y.rk g < y.rk f ∨ (y.rk f = y.rk g ∧ owN y f < owN y g))
def nxM (y : YT) (mv : Nat → Option (Option Nat)) : Nat → Option Nat
  | 0 => none
  | f + 1 => if dueM y mv f = true then (match nxM y mv f with | none => some f | some g => if befM y f g = true then some f else some g) else nxM y mv f
def gwM (y : YT) (off : Nat → Nat) (r d : Nat) : Bool := decide (¬ (dkC (off d) = 2 ∧ y.wy (dgC (off d)) = 2) ∧ drC (off d) < r)
def ffM (p : Nat → Bool) : Nat → Nat → Option Nat
  | 0, _ => none
  | n + 1, s => if p s = true then some s else ffM p n (s + 1)
def plM (y : YT) (off : Nat → Nat) (f : Nat) : Option Nat := ffM (gwM y off (y.rk f)) (min (owN y f + 60) (y.N - 1) - owN y f) (owN y f + 1)
def upM {α : Type} (g : Nat → α) (k : Nat) (v : α) : Nat → α := fun x => if x = k then v else g x
theorem upM_eq {α : Type} {g : Nat → α} {k : Nat} {v : α} : upM g k v k = v := if_pos rfl
theorem upM_ne {α : Type} {g : Nat → α} {k x : Nat} {v : α} (h : x ≠ k) : upM g k v x = g x := if_neg h
def SM : Type := (Nat → Nat) × (Nat → Option (Option Nat))
def SM.off (s : SM) : Nat → Nat := s.1
def SM.mv (s : SM) : Nat → Option (Option Nat) := s.2
def pstM (y : YT) (s : SM) (f : Nat) (p : Option Nat) : SM := match p with | none => (s.off, upM s.mv f (some none)) | some d => (upM s.off d (cod 2 (y.rk f) f), upM s.mv f (some (some d)))
def stM (y : YT) (s : SM) : SM := match nxM y s.mv y.nF with | none => s | some f => pstM y s f (plM y s.off f)
def off0 (y : YT) (d : Nat) : Nat := mxB (ySl y d) (ySc y d) 10000 (y.nF + 1)
def mv0 (y : YT) (f : Nat) : Option (Option Nat) := match y.own f with | none => none | some o => if off0 y o = cod 2 (y.rk f) f then some (some o) else none
def itM (y : YT) : Nat → SM
  | 0 => (off0 y, mv0 y)
  | k + 1 => stM y (itM y k)
theorem nxM_some {y : YT} {mv : Nat → Option (Option Nat)} {f : Nat} : ∀ {n : Nat}, nxM y mv n = some f → f < n ∧ dueM y mv f = true := by
  intro n
  induction n with
  | zero => intro h; cases h
  | succ n ih =>
    intro h
    simp only [nxM] at h
    by_cases c : dueM y mv n = true
    · rw [if_pos c] at h
      cases hn : nxM y mv n with
      | none =>
        rw [hn] at h
        cases h
        exact ⟨Nat.lt_succ_self _, c⟩
      | some g =>
        rw [hn] at h
        by_cases b : befM y n g = true
        · simp only [if_pos b] at h
          cases h
          exact ⟨Nat.lt_succ_self _, c⟩
        · simp only [if_neg b] at h
          cases h
          have := ih hn
          exact ⟨by omega, this.2⟩
    · rw [if_neg c] at h
      have := ih h
      exact ⟨by omega, this.2⟩
theorem nxM_none {y : YT} {mv : Nat → Option (Option Nat)} : ∀ {n : Nat}, nxM y mv n = none → ∀ f, f < n → ¬ dueM y mv f = true := by
  intro n
  induction n with
  | zero => intro _ f hf; omega
  | succ n ih =>
    intro h f hf
    simp only [nxM] at h
    by_cases c : dueM y mv n = true
    · exfalso
      rw [if_pos c] at h
      cases hn : nxM y mv n with
      | none => rw [hn] at h; cases h
      | some g =>
        rw [hn] at h
        by_cases b : befM y n g = true
        · simp only [if_pos b] at h; cases h
        · simp only [if_neg b] at h; cases h
    · rw [if_neg c] at h
      by_cases e : f = n
      · rw [e]; exact c
      · exact ih h f (by omega)
theorem ffM_some {p : Nat → Bool} {d : Nat} : ∀ {n s : Nat}, ffM p n s = some d → s ≤ d ∧ d < s + n ∧ p d = true := by
  intro n
  induction n with
  | zero => intro s h; cases h
  | succ n ih =>
    intro s h
    simp only [ffM] at h
    by_cases c : p s = true
    · rw [if_pos c] at h
      cases h
      exact ⟨Nat.le_refl _, by omega, c⟩
    · rw [if_neg c] at h
      have := ih h
      exact ⟨by omega, by omega, this.2.2⟩
theorem due_c {y : YT} {mv : Nat → Option (Option Nat)} {f : Nat} : dueM y mv f = true ↔ (y.wy f = 2 ∧ (∃ o, y.own f = some o) ∧ mv f = none) := by
  unfold dueM
  rw [Bool.and_eq_true, Bool.and_eq_true, decide_eq_true_iff, Option.isSome_iff_exists, Option.isNone_iff_eq_none]
/-- what holds of offices and moves at every step -/
def MI (y : YT) (s : SM) : Prop := (∀ d, d < y.N → cOK y (s.off d)) ∧ (∀ f, f < y.nF → ∀ o, y.own f = some o → y.wy f = 2 → (s.off o = cod 2 (y.rk f) f ↔ s.mv f = some (some o))) ∧ ∀ f, f < y.nF → ∀ d, s.mv f = some (some d) → d < y.N
theorem off0_ok {y : YT} (hy : Yok y) {d : Nat} (hd : d < y.N) : cOK y (off0 y d) := by
  have h0 : ySc y d 0 ≤ off0 y d := mxB_ge (Nat.succ_pos _) rfl (ySc_lt hy hd (Nat.zero_le _))
  have h1 := ySc_pos hy (d := d) (Nat.zero_le y.nF)
  rcases mxB_c (ySl y d) (ySc y d) 10000 (y.nF + 1) with h | ⟨j, h2, h3, -, h4⟩
  · exfalso
    have : off0 y d = 0 := h
    omega
  · show cOK y (mxB (ySl y d) (ySc y d) 10000 (y.nF + 1))
    rw [h4]
    exact ySc_ok hy hd (by omega) h3
theorem MI_0 {y : YT} (hy : Yok y) : MI y (itM y 0) := by
  refine ⟨fun d hd => off0_ok hy hd, fun f hf o ho hw => ?_, fun f hf d hd => ?_⟩
  · show off0 y o = _ ↔ mv0 y f = _
    unfold mv0
    rw [ho]
    by_cases c : off0 y o = cod 2 (y.rk f) f
    · simp only [if_pos c]; exact ⟨fun _ => trivial, fun _ => c⟩
    · simp only [if_neg c]
      exact ⟨fun z => absurd z c, fun z => by cases z⟩
  · have h : mv0 y f = some (some d) := hd
    unfold mv0 at h
    cases ho : y.own f with
    | none => rw [ho] at h; cases h
    | some o =>
      rw [ho] at h
      by_cases c : off0 y o = cod 2 (y.rk f) f
      · simp only [if_pos c] at h
        cases h
        exact (hy.2.2.2.2.1 f hf).1 _ ho
      · simp only [if_neg c] at h
        cases h
theorem pl_c {y : YT} {off : Nat → Nat} {f d : Nat} (h : plM y off f = some d) : owN y f < d ∧ d < y.N ∧ d ≤ owN y f + 60 ∧ gwM y off (y.rk f) d = true := by
  obtain ⟨a, b, c⟩ := ffM_some h
  exact ⟨by omega, by omega, by omega, c⟩
theorem MI_p {y : YT} (hy : Yok y) {s : SM} {f : Nat} (hf : f < y.nF) (hu : dueM y s.mv f = true) (h : MI y s) : MI y (pstM y s f (plM y s.off f)) := by
  obtain ⟨h1, h2, h3⟩ := h
  obtain ⟨u1, ⟨o, u2⟩, u3⟩ := due_c.mp hu
  have oe : owN y f = o := by unfold owN; rw [u2]; rfl
  cases hp : plM y s.off f with
  | none =>
    refine ⟨h1, fun g hg o' ho' hw' => ?_, fun g hg d hd => ?_⟩
    · show s.off o' = _ ↔ upM s.mv f (some none) g = _
      by_cases e : g = f
      · subst e
        rw [upM_eq]
        have := h2 g hg o' ho' hw'
        rw [u3] at this
        exact ⟨fun z => absurd (this.mp z) (by simp), fun z => absurd z (by simp)⟩
      · rw [upM_ne e]; exact h2 g hg o' ho' hw'
    · have hd2 : upM s.mv f (some none) g = some (some d) := hd
      by_cases e : g = f
      · subst e; rw [upM_eq] at hd2; cases hd2
      · rw [upM_ne e] at hd2; exact h3 g hg d hd2
  | some x =>
    obtain ⟨p1, p2, p3, p4⟩ := pl_c hp
    have pg := of_decide_eq_true p4
    refine ⟨fun d hd => ?_, fun g hg o' ho' hw' => ?_, fun g hg d hd => ?_⟩
    · show cOK y (upM s.off x (cod 2 (y.rk f) f) d)
      by_cases e : d = x
      · subst e; rw [upM_eq]; exact cOK_feast hy hf
      · rw [upM_ne e]; exact h1 d hd
    · show upM s.off x (cod 2 (y.rk f) f) o' = _ ↔ upM s.mv f (some (some x)) g = _
      have hgo := h2 g hg o' ho' hw'
      by_cases e : g = f
      · subst e
        rw [upM_eq]
        have oo : o' = o := by rw [u2] at ho'; cases ho'; rfl
        subst oo
        rw [upM_ne (by omega), hgo, u3]
        refine ⟨fun z => absurd z (by simp), fun z => ?_⟩
        cases z
        omega
      · rw [upM_ne e]
        by_cases e2 : o' = x
        · subst e2
          rw [upM_eq]
          have h60 := hy.2.2.2.1
          refine ⟨fun z => ?_, fun z => ?_⟩
          · have := (cod_inj (by omega) (by omega) (by omega) (by omega) z).2.2 (by omega)
            omega
          · exfalso
            have q := hgo.mpr z
            refine pg.1 ?_
            rw [q, dk_cod (by omega), dg_cod (by omega) (by omega)]
            exact ⟨rfl, hw'⟩
        · rw [upM_ne e2]; exact hgo
    · have hd2 : upM s.mv f (some (some x)) g = some (some d) := hd
      by_cases e : g = f
      · subst e; rw [upM_eq] at hd2; cases hd2; exact p2
      · rw [upM_ne e] at hd2; exact h3 g hg d hd2
theorem stM_none {y : YT} {s : SM} (h : nxM y s.mv y.nF = none) : stM y s = s := by
  unfold stM
  rw [h]
theorem stM_some {y : YT} {s : SM} {f : Nat} (h : nxM y s.mv y.nF = some f) : stM y s = pstM y s f (plM y s.off f) := by
  unfold stM
  rw [h]
theorem MI_s {y : YT} (hy : Yok y) {s : SM} (h : MI y s) : MI y (stM y s) := by
  cases hn : nxM y s.mv y.nF with
  | none => rw [stM_none hn]; exact h
  | some f =>
    rw [stM_some hn]
    obtain ⟨a, b⟩ := nxM_some hn
    exact MI_p hy a b h
theorem MI_it {y : YT} (hy : Yok y) (k : Nat) : MI y (itM y k) := by
  induction k with
  | zero => exact MI_0 hy
  | succ k ih => exact MI_s hy ih
theorem cnt_less {u u' : Nat → Bool} {g : Nat} (h : ∀ f, u' f = true → u f = true) (hu : u g = true) (hu' : ¬ u' g = true) : ∀ n, cnt u' n + (if g < n then 1 else 0) ≤ cnt u n := by
  intro n
  induction n with
  | zero => rw [if_neg (by omega)]; exact Nat.le_refl _
  | succ n ih =>
    simp only [cnt]
    by_cases e : n = g
    · subst e
      rw [if_neg (by omega)] at ih
      rw [if_neg hu', if_pos hu, if_pos (by omega)]
      omega
    · have e2 : (g < n + 1) ↔ (g < n) := by omega
      simp only [e2]
      by_cases c : u' n = true
      · rw [if_pos c, if_pos (h n c)]; omega
      · rw [if_neg c]
        omega
/-- behind so many steps as there are feasts none is left to be moved -/
theorem it_end (y : YT) : nxM y (itM y y.nF).mv y.nF = none := by
  have key : ∀ k, nxM y (itM y k).mv y.nF = none ∨ cnt (dueM y (itM y k).mv) y.nF + k ≤ y.nF := by
    intro k
    induction k with
    | zero => exact Or.inr (cnt_le _ _)
    | succ k ih =>
      show nxM y (stM y (itM y k)).mv y.nF = none ∨ cnt (dueM y (stM y (itM y k)).mv) y.nF + (k + 1) ≤ y.nF
      cases hn : nxM y (itM y k).mv y.nF with
      | none =>
        left
        rw [stM_none hn]
        exact hn
      | some f =>
        right
        rw [stM_some hn]
        obtain ⟨a, b⟩ := nxM_some hn
        rcases ih with q | q
        · rw [q] at hn; cases hn
        have mvp : ∀ p, ∃ v, v ≠ none ∧ (pstM y (itM y k) f p).mv = upM (itM y k).mv f v := by
          intro p
          cases p with
          | none => exact ⟨some none, by simp, rfl⟩
          | some d => exact ⟨some (some d), by simp, rfl⟩
        obtain ⟨v, v1, v2⟩ := mvp (plM y (itM y k).off f)
        rw [v2]
        have l := cnt_less (u := dueM y (itM y k).mv) (u' := dueM y (upM (itM y k).mv f v)) (g := f) (fun g hg => ?_) b (fun hg => ?_) y.nF
        · rw [if_pos a] at l
          omega
        · obtain ⟨a1, a2, a3⟩ := due_c.mp hg
          refine due_c.mpr ⟨a1, a2, ?_⟩
          by_cases e : g = f
          · subst e; rw [upM_eq] at a3; exact absurd a3 v1
          · rw [upM_ne e] at a3; exact a3
        · obtain ⟨a1, a2, a3⟩ := due_c.mp hg
          rw [upM_eq] at a3
          exact v1 a3
  rcases key y.nF with h | h
  · exact h
  · cases hn : nxM y (itM y y.nF).mv y.nF with
    | none => rfl
    | some f =>
      exfalso
      obtain ⟨a, b⟩ := nxM_some hn
      have := cnt_lt a b
      omega
def offF (y : YT) : Nat → Nat := (itM y y.nF).off
def mvF (y : YT) : Nat → Option (Option Nat) := (itM y y.nF).mv
theorem it_stop {y : YT} {k : Nat} (h : nxM y (itM y k).mv y.nF = none) : ∀ n, itM y (k + n) = itM y k := by
  intro n
  induction n with
  | zero => rfl
  | succ n ih =>
    show stM y (itM y (k + n)) = itM y k
    rw [ih]
    exact stM_none h
theorem it_fin {y : YT} {k : Nat} (hk : k ≤ y.nF) (h : nxM y (itM y k).mv y.nF = none) : itM y k = itM y y.nF := by
  have := it_stop h (y.nF - k)
  rw [show k + (y.nF - k) = y.nF by omega] at this
  exact this.symm
def tpF (y : YT) (d t : Nat) : Nat := tpB (yE y (offF y) d) (ySc y d) (y.nF + 1) t
def fateF (y : YT) (f : Nat) : Int32 := match y.own f with
  | none => -5
  | some o => if y.wy f = 2 then mvI (mvF y f) else if offF y o = cod 2 (y.rk f) f then nI o else if tpF y o 0 = cod 2 (y.rk f) f ∨ tpF y o 1 = cod 2 (y.rk f) f ∨ tpF y o 2 = cod 2 (y.rk f) f then -2 else -3
