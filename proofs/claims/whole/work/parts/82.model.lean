/-! The year as numbers: what may stand on a day, by places: place 0 the weekday, place f + 1 the feast f -/
def YT : Type := Nat × (Nat × (Nat × ((Nat → FD) × ((Nat → Nat) × ((Nat → Nat) × ((Nat → Int32) × ((Nat → Int32) × (Nat → Int32))))))))
def YT.f0 (y : YT) : Nat := y.1
def YT.N (y : YT) : Nat := y.2.1
def YT.nF (y : YT) : Nat := y.2.2.1
def YT.F (y : YT) : Nat → FD := y.2.2.2.1
def YT.wy (y : YT) : Nat → Nat := y.2.2.2.2.1
def YT.wr (y : YT) : Nat → Nat := y.2.2.2.2.2.1
def YT.co (y : YT) : Nat → Int32 := y.2.2.2.2.2.2.1
def YT.so (y : YT) : Nat → Int32 := y.2.2.2.2.2.2.2.1
def YT.sc (y : YT) : Nat → Int32 := y.2.2.2.2.2.2.2.2
def YT.own (y : YT) (f : Nat) : Option Nat := (y.F f).own
def YT.rk (y : YT) (f : Nat) : Nat := (y.F f).rk
def YT.wd (y : YT) (d : Nat) : Nat := (y.f0 + d) % 7
def Yok (y : YT) : Prop := y.f0 < 7 ∧ 365 ≤ y.N ∧ y.N ≤ 366 ∧ y.nF ≤ 60 ∧ (∀ f, f < y.nF → (∀ o, y.own f = some o → o < y.N) ∧ y.rk f ≤ 9 ∧ (y.F f).oc ≤ 8 ∧ y.wy f ≤ 2) ∧ ∀ d, d < y.N → y.wr d ≤ 9 ∧ (y.wd d = 0 → 1 ≤ y.wr d)
def ySk (y : YT) (d : Nat) : Nat → Nat
  | 0 => wkK (y.wd d)
  | f + 1 => KD y.f0 y.F d f
def ySr (y : YT) (d : Nat) : Nat → Nat
  | 0 => y.wr d
  | f + 1 => RK y.F y.f0 d f
def ySl (y : YT) (d : Nat) : Nat → Bool
  | 0 => true
  | f + 1 => uF y.f0 y.F d f
def ySc (y : YT) (d j : Nat) : Nat := cod (ySk y d j) (ySr y d j) (j - 1)
def ySw (y : YT) (d : Nat) : Nat → Nat
  | 0 => if ¬ y.wd d = 0 ∧ y.wr d = 0 then 0 else 1
  | f + 1 => if KD y.f0 y.F d f = 2 then y.wy f else if KD y.f0 y.F d f = 3 then 1 else 0
theorem kdO_4 (f0 o oc : Nat) (vg : Bool) (d : Nat) : kdO f0 o oc vg d ≤ 4 ∧ kdO f0 o oc vg d ≠ 1 := by
  unfold kdO
  split
  · omega
  · split
    · omega
    · split <;> omega
theorem KD_4 (f0 : Nat) (F : Nat → FD) (d f : Nat) : KD f0 F d f ≤ 4 ∧ KD f0 F d f ≠ 1 := by
  unfold KD
  cases (F f).own with
  | none => exact ⟨Nat.zero_le _, show ¬ (0 : Nat) = 1 by decide⟩
  | some o => exact kdO_4 _ _ _ _ _
theorem ySk_0 (y : YT) (d : Nat) : ySk y d 0 ≤ 1 := by
  show wkK (y.wd d) ≤ 1
  unfold wkK
  split <;> omega
theorem ySk_f {y : YT} {d f : Nat} (h : ySl y d (f + 1) = true) : 2 ≤ ySk y d (f + 1) := by
  have h1 : KD y.f0 y.F d f ≠ 0 := of_decide_eq_true h
  have h2 := KD_4 y.f0 y.F d f
  show 2 ≤ KD y.f0 y.F d f
  omega
theorem ySk_4 (y : YT) (d j : Nat) : ySk y d j ≤ 4 := by
  cases j with
  | zero => have := ySk_0 y d; omega
  | succ f => exact (KD_4 y.f0 y.F d f).1
theorem RK_9 {y : YT} (hy : Yok y) {d f : Nat} (hf : f < y.nF) : RK y.F y.f0 d f ≤ 9 := by
  obtain ⟨-, -, -, -, h5, -⟩ := hy
  obtain ⟨-, h6, h7, -⟩ := h5 f hf
  unfold YT.rk at h6
  unfold RK
  cases (y.F f).own with
  | none => exact Nat.zero_le _
  | some o =>
    show rkO o (y.F f).rk (y.F f).oc d (KD y.f0 y.F d f) ≤ 9
    unfold rkO
    split
    · exact h6
    · split
      · split <;> omega
      · omega
theorem ySr_9 {y : YT} (hy : Yok y) {d j : Nat} (hd : d < y.N) (hj : j ≤ y.nF) : ySr y d j ≤ 9 := by
  cases j with
  | zero => exact (hy.2.2.2.2.2 d hd).1
  | succ f => exact RK_9 hy hj
theorem ySc_lt {y : YT} (hy : Yok y) {d j : Nat} (hd : d < y.N) (hj : j ≤ y.nF) : ySc y d j < 10000 := by
  have := ySr_9 hy hd hj
  exact cod_bound (by omega)
theorem cod_pos {k r g : Nat} (hg : g < 63) : 1 ≤ cod k r g := by
  unfold cod
  split <;> omega
theorem ySc_pos {y : YT} (hy : Yok y) {d j : Nat} (hj : j ≤ y.nF) : 1 ≤ ySc y d j := by
  have := hy.2.2.2.1
  exact cod_pos (by omega)
/-- the codes of a day are all different -/
theorem ySc_ne {y : YT} (hy : Yok y) {d i j : Nat} (hi : i ≤ y.nF) (hj : j ≤ y.nF) (hij : i < j) (hlj : ySl y d j = true) (hli : ySl y d i = true) : ySc y d i ≠ ySc y d j := by
  have h60 := hy.2.2.2.1
  intro h
  obtain ⟨a, b, c⟩ := cod_inj (ySk_4 y d i) (ySk_4 y d j) (by omega) (by omega) h
  cases j with
  | zero => omega
  | succ f =>
    have h2 := ySk_f hlj
    cases i with
    | zero => have := ySk_0 y d; omega
    | succ g =>
      have := c (by omega)
      omega
/-! Codes read back -/
def dkC (c : Nat) : Nat := if c / 64 % 5 = 1 then 4 else if c / 64 % 5 = 2 then 1 else if c / 64 % 5 = 3 then 3 else if c / 64 % 5 = 4 then 2 else 0
def drC (c : Nat) : Nat := c / 320
def dgC (c : Nat) : Nat := 63 - c % 64
theorem dk_cod {k r g : Nat} (hk : k ≤ 4) : dkC (cod k r g) = k := by
  unfold dkC
  rw [cod_mod5]
  rcases (show k = 0 ∨ k = 1 ∨ k = 2 ∨ k = 3 ∨ k = 4 by omega) with rfl | rfl | rfl | rfl | rfl <;> rfl
theorem dr_cod {k r g : Nat} : drC (cod k r g) = r := by
  have p5 := plN_5 k
  unfold drC cod
  split <;> omega
theorem dg_cod {k r g : Nat} (hk : 2 ≤ k) (hg : g < 64) : dgC (cod k r g) = g := by
  have p5 := plN_5 k
  unfold dgC cod
  rw [if_neg (by omega)]
  omega
/-- a code that may be an office's: a weekday's, or a told feast's -/
def cOK (y : YT) (c : Nat) : Prop := ∃ k r g, k ≤ 4 ∧ r ≤ 9 ∧ g < 60 ∧ c = cod k r g ∧ (k ≤ 1 → g = 0) ∧ (2 ≤ k → g < y.nF) ∧ (k = 2 → r = y.rk g)
theorem ySc_ok {y : YT} (hy : Yok y) {d j : Nat} (hd : d < y.N) (hj : j ≤ y.nF) (hl : ySl y d j = true) : cOK y (ySc y d j) := by
  have h60 := hy.2.2.2.1
  refine ⟨ySk y d j, ySr y d j, j - 1, ySk_4 y d j, ySr_9 hy hd hj, by omega, rfl, fun h => ?_, fun h => ?_, fun h => ?_⟩
  · cases j with
    | zero => rfl
    | succ f => have := ySk_f hl; omega
  · cases j with
    | zero => have := ySk_0 y d; omega
    | succ f => omega
  · cases j with
    | zero => have := ySk_0 y d; omega
    | succ f =>
      show RK y.F y.f0 d f = y.rk f
      have e : KD y.f0 y.F d f = 2 := h
      unfold RK
      unfold KD at e
      cases ho : (y.F f).own with
      | none => rw [ho] at e; exact absurd e (show ¬ (0 : Nat) = 2 by decide)
      | some o =>
        rw [ho] at e
        show rkO o (y.F f).rk (y.F f).oc d (KD y.f0 y.F d f) = y.rk f
        have e2 : KD y.f0 y.F d f = 2 := h
        rw [e2]
        rfl
theorem cOK_lt {y : YT} {c : Nat} (h : cOK y c) : c < 10000 := by
  obtain ⟨k, r, g, h1, h2, h3, rfl, -⟩ := h
  exact cod_bound (by omega)
theorem cOK_pos {y : YT} {c : Nat} (h : cOK y c) : 1 ≤ c := by
  obtain ⟨k, r, g, h1, h2, h3, rfl, -⟩ := h
  exact cod_pos (by omega)
theorem cOK_dk {y : YT} {c : Nat} (h : cOK y c) : dkC c ≤ 4 ∧ drC c ≤ 9 ∧ (2 ≤ dkC c → dgC c < y.nF) ∧ (dkC c = 2 → c = cod 2 (y.rk (dgC c)) (dgC c)) ∧ f_Alm_kindIn (nI c) = nI (dkC c) ∧ f_Alm_rankIn (nI c) = nI (drC c) ∧ f_Alm_feastIn (nI c) = fI (dkC c) (dgC c) := by
  obtain ⟨k, r, g, h1, h2, h3, rfl, h5, h6, h7⟩ := h
  have h8 : f_Alm_feastIn (nI (cod k r g)) = fI k (dgC (cod k r g)) := by
    rw [feastIn_cod h1 (by omega) (by omega)]
    unfold fI
    by_cases q : k ≤ 1
    · rw [if_pos q, if_pos q]
    · rw [if_neg q, if_neg q, dg_cod (by omega) (by omega)]
  rw [dk_cod h1, dr_cod]
  refine ⟨h1, h2, fun q => ?_, fun q => ?_, kindIn_cod h1 (by omega), rankIn_cod h1 (by omega) (by omega), h8⟩
  · rw [dg_cod q (by omega)]; exact h6 q
  · rw [dg_cod (by omega) (by omega), h7 q, q]
theorem cOK_feast {y : YT} (hy : Yok y) {f : Nat} (hf : f < y.nF) : cOK y (cod 2 (y.rk f) f) := ⟨2, y.rk f, f, by omega, (hy.2.2.2.2.1 f hf).2.1, by have := hy.2.2.2.1; omega, rfl, fun q => by omega, fun _ => hf, fun _ => rfl⟩
/-- none, or a number -/
def oI (x : Nat) : Int32 := if x = 0 then -1 else nI x
theorem oI_0 : oI 0 = -1 := rfl
theorem oI_pos {x : Nat} (h : 1 ≤ x) : oI x = nI x := by unfold oI; rw [if_neg (by omega)]
theorem oI_toInt {x : Nat} (h : x < 100000) : (oI x).toInt = if x = 0 then -1 else (x : Int) := by
  unfold oI
  by_cases c : x = 0
  · rw [if_pos c, if_pos c]; rfl
  · rw [if_neg c, if_neg c]; exact nI_toInt (by omega)
theorem oI_lt {a b : Nat} (ha : a < 100000) (hb : b < 100000) : oI a < oI b ↔ a < b := by
  rw [Int32.lt_iff_toInt_lt, oI_toInt ha, oI_toInt hb]
  by_cases c : a = 0
  · by_cases c2 : b = 0
    · rw [if_pos c, if_pos c2]; omega
    · rw [if_pos c, if_neg c2]; omega
  · by_cases c2 : b = 0
    · rw [if_neg c, if_pos c2]; omega
    · rw [if_neg c, if_neg c2]; omega
theorem oI_le {a b : Nat} (ha : a < 100000) (hb : b < 100000) : oI a ≤ oI b ↔ a ≤ b := by
  rw [Int32.le_iff_toInt_le, oI_toInt ha, oI_toInt hb]
  by_cases c : a = 0
  · by_cases c2 : b = 0
    · rw [if_pos c, if_pos c2]; omega
    · rw [if_pos c, if_neg c2]; omega
  · by_cases c2 : b = 0
    · rw [if_neg c, if_pos c2]; omega
    · rw [if_neg c, if_neg c2]; omega
theorem oI_inj {a b : Nat} (ha : a < 100000) (hb : b < 100000) (h : oI a = oI b) : a = b := by
  have e := congrArg Int32.toInt h
  rw [oI_toInt ha, oI_toInt hb] at e
  by_cases c : a = 0
  · by_cases c2 : b = 0
    · omega
    · rw [if_pos c, if_neg c2] at e; omega
  · by_cases c2 : b = 0
    · rw [if_neg c, if_pos c2] at e; omega
    · rw [if_neg c, if_neg c2] at e; omega
theorem oI_m1 {a : Nat} (ha : a < 100000) : oI a = -1 ↔ a = 0 := ⟨fun h => oI_inj (b := 0) ha (by omega) h, fun h => by rw [h]; rfl⟩
/-! The greatest of those below a bound; the three greatest -/
def mxB (e : Nat → Bool) (c : Nat → Nat) (b : Nat) : Nat → Nat
  | 0 => 0
  | j + 1 => if e j = true ∧ c j < b then max (mxB e c b j) (c j) else mxB e c b j
theorem mxB_c (e : Nat → Bool) (c : Nat → Nat) (b n : Nat) : mxB e c b n = 0 ∨ ∃ j, j < n ∧ e j = true ∧ c j < b ∧ mxB e c b n = c j := by
  induction n with
  | zero => exact Or.inl rfl
  | succ n ih =>
    simp only [mxB]
    by_cases q : e n = true ∧ c n < b
    · rw [if_pos q]
      rcases Nat.le_total (mxB e c b n) (c n) with z | z
      · rw [Nat.max_eq_right z]
        exact Or.inr ⟨n, by omega, q.1, q.2, rfl⟩
      · rw [Nat.max_eq_left z]
        rcases ih with h | ⟨j, h1, h2, h3, h4⟩
        · exact Or.inl h
        · exact Or.inr ⟨j, by omega, h2, h3, h4⟩
    · rw [if_neg q]
      rcases ih with h | ⟨j, h1, h2, h3, h4⟩
      · exact Or.inl h
      · exact Or.inr ⟨j, by omega, h2, h3, h4⟩
theorem mxB_ge {e : Nat → Bool} {c : Nat → Nat} {b n j : Nat} (hj : j < n) (he : e j = true) (hc : c j < b) : c j ≤ mxB e c b n := by
  induction n with
  | zero => omega
  | succ n ih =>
    simp only [mxB]
    by_cases z : j = n
    · subst z
      rw [if_pos ⟨he, hc⟩]
      exact Nat.le_max_right _ _
    · have := ih (by omega)
      split
      · exact Nat.le_trans this (Nat.le_max_left _ _)
      · exact this
theorem mxB_lt {e : Nat → Bool} {c : Nat → Nat} {b n : Nat} (hb : 1 ≤ b) : mxB e c b n < b := by
  rcases mxB_c e c b n with h | ⟨j, -, -, h, h2⟩
  · omega
  · omega
theorem mxB_le {e : Nat → Bool} {c : Nat → Nat} {b n : Nat} : mxB e c b n ≤ b := by
  rcases mxB_c e c b n with h | ⟨j, -, -, h, h2⟩
  · omega
  · omega
theorem mxB_cut {e : Nat → Bool} {c : Nat → Nat} {b b' n : Nat} (hb : b' ≤ b) (h : mxB e c b n < b') : mxB e c b' n = mxB e c b n := by
  induction n with
  | zero => rfl
  | succ n ih =>
    simp only [mxB] at h ⊢
    by_cases q : e n = true ∧ c n < b
    · rw [if_pos q] at h ⊢
      have h1 := Nat.le_max_left (mxB e c b n) (c n)
      have h2 := Nat.le_max_right (mxB e c b n) (c n)
      rw [if_pos ⟨q.1, by omega⟩, ih (by omega)]
    · rw [if_neg q] at h ⊢
      rw [if_neg (fun z => q ⟨z.1, by omega⟩)]
      exact ih h
theorem mxB_no {e : Nat → Bool} {c : Nat → Nat} {b n : Nat} (h : ¬ e n = true) : mxB e c b (n + 1) = mxB e c b n := by
  simp only [mxB]
  rw [if_neg (fun z => h z.1)]
theorem mxB_0 {e : Nat → Bool} {c : Nat → Nat} {n : Nat} : mxB e c 0 n = 0 := by
  have := mxB_le (e := e) (c := c) (b := 0) (n := n)
  omega
theorem mxB_cg {e e' : Nat → Bool} {c c' : Nat → Nat} {b n : Nat} (h : ∀ j, j < n → e j = e' j ∧ c j = c' j) : mxB e c b n = mxB e' c' b n := by
  induction n with
  | zero => rfl
  | succ n ih =>
    simp only [mxB]
    rw [ih (fun j hj => h j (by omega)), (h n (by omega)).1, (h n (by omega)).2]
def tpB (e : Nat → Bool) (c : Nat → Nat) (n : Nat) : Nat → Nat
  | 0 => mxB e c 10000 n
  | t + 1 => mxB e c (tpB e c n t) n
theorem tpB_no {e : Nat → Bool} {c : Nat → Nat} {n : Nat} (h : ¬ e n = true) (t : Nat) : tpB e c (n + 1) t = tpB e c n t := by
  induction t with
  | zero => exact mxB_no h
  | succ t ih =>
    simp only [tpB]
    rw [ih]
    exact mxB_no h
theorem tpB_down {e : Nat → Bool} {c : Nat → Nat} {n t : Nat} : tpB e c n (t + 1) ≤ tpB e c n t := mxB_le
theorem tpB_lt {e : Nat → Bool} {c : Nat → Nat} {n t : Nat} : tpB e c n t < 10000 := by
  induction t with
  | zero => exact mxB_lt (by omega)
  | succ t ih => have := tpB_down (e := e) (c := c) (n := n) (t := t); omega
theorem tpB_c (e : Nat → Bool) (c : Nat → Nat) (n t : Nat) : tpB e c n t = 0 ∨ ∃ j, j < n ∧ e j = true ∧ tpB e c n t = c j := by
  cases t with
  | zero =>
    rcases mxB_c e c 10000 n with h | ⟨j, h1, h2, -, h3⟩
    · exact Or.inl h
    · exact Or.inr ⟨j, h1, h2, h3⟩
  | succ t =>
    rcases mxB_c e c (tpB e c n t) n with h | ⟨j, h1, h2, -, h3⟩
    · exact Or.inl h
    · exact Or.inr ⟨j, h1, h2, h3⟩
/-- one more: it goes through the three from the greatest on, each time the smaller goes on -/
theorem tpB_put {e : Nat → Bool} {c : Nat → Nat} {n : Nat} (he : e n = true) (h1 : 1 ≤ c n) (h2 : c n < 10000) (hne : ∀ j, j < n → e j = true → c j ≠ c n) :
    tpB e c (n + 1) 0 = max (c n) (tpB e c n 0) ∧ tpB e c (n + 1) 1 = max (min (c n) (tpB e c n 0)) (tpB e c n 1) ∧ tpB e c (n + 1) 2 = max (min (min (c n) (tpB e c n 0)) (tpB e c n 1)) (tpB e c n 2) := by
  have ne : ∀ t, tpB e c n t ≠ c n := by
    intro t z
    rcases tpB_c e c n t with h | ⟨j, j1, j2, j3⟩
    · omega
    · exact hne j j1 j2 (by omega)
  have n0 := ne 0
  have n1 := ne 1
  have d0 : tpB e c n 1 ≤ tpB e c n 0 := tpB_down
  have d1 : tpB e c n 2 ≤ tpB e c n 1 := tpB_down
  have u0 : tpB e c (n + 1) 0 = max (tpB e c n 0) (c n) := by
    show mxB e c 10000 (n + 1) = _
    simp only [mxB]
    rw [if_pos ⟨he, h2⟩]
    rfl
  have stp : ∀ b, mxB e c b (n + 1) = if c n < b then max (mxB e c b n) (c n) else mxB e c b n := by
    intro b
    simp only [mxB]
    by_cases z : c n < b
    · rw [if_pos ⟨he, z⟩, if_pos z]
    · rw [if_neg (fun q => z q.2), if_neg z]
  have u1 : tpB e c (n + 1) 1 = if c n < tpB e c (n + 1) 0 then max (mxB e c (tpB e c (n + 1) 0) n) (c n) else mxB e c (tpB e c (n + 1) 0) n := stp _
  have u2 : tpB e c (n + 1) 2 = if c n < tpB e c (n + 1) 1 then max (mxB e c (tpB e c (n + 1) 1) n) (c n) else mxB e c (tpB e c (n + 1) 1) n := stp _
  have k1 : mxB e c (tpB e c n 0) n = tpB e c n 1 := rfl
  have k2 : mxB e c (tpB e c n 1) n = tpB e c n 2 := rfl
  rcases Nat.lt_or_ge (tpB e c n 0) (c n) with q | q
  · have v0 : tpB e c (n + 1) 0 = c n := by omega
    have cut : mxB e c (c n) n = tpB e c n 0 := mxB_cut (by omega) q
    rw [v0, if_neg (by omega), cut] at u1
    rw [u1, if_neg (by omega), k1] at u2
    rw [v0, u1, u2]
    omega
  · have v0 : tpB e c (n + 1) 0 = tpB e c n 0 := by omega
    rw [v0, if_pos (by omega), k1] at u1
    rcases Nat.lt_or_ge (tpB e c n 1) (c n) with q2 | q2
    · have v1 : tpB e c (n + 1) 1 = c n := by omega
      have cut : mxB e c (c n) n = tpB e c n 1 := mxB_cut (b := tpB e c n 0) (by omega) q2
      rw [v1, if_neg (by omega), cut] at u2
      rw [v0, v1, u2]
      omega
    · have v1 : tpB e c (n + 1) 1 = tpB e c n 1 := by omega
      rw [v1, if_pos (by omega), k2] at u2
      rw [v0, v1, u2]
      omega
