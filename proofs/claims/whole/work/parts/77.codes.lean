/-! What meets on a day, as numbers: greater is ahead -/
def plN (k : Nat) : Nat := if k = 1 then 2 else if k = 2 then 4 else if k = 3 then 3 else if k = 4 then 1 else 0
def cod (k r g : Nat) : Nat := r * 320 + plN k * 64 + (if k ≤ 1 then 63 else 63 - g)
def fI (k g : Nat) : Int32 := if k ≤ 1 then -1 else nI g
theorem cod_bound {k r g : Nat} (hr : r ≤ 20) : cod k r g < 10000 := by
  unfold cod plN
  split <;> split <;> (try split) <;> (try split) <;> (try split) <;> omega
theorem plN_5 (k : Nat) : plN k ≤ 4 := by unfold plN; split <;> (try split) <;> (try split) <;> (try split) <;> omega
theorem place_nI {k : Nat} (hk : k ≤ 4) : f_Alm_placeOf (nI k) = nI (plN k) := by
  rcases (show k = 0 ∨ k = 1 ∨ k = 2 ∨ k = 3 ∨ k = 4 by omega) with rfl | rfl | rfl | rfl | rfl <;> rfl
theorem cand_cod {k r g : Nat} (hk : k ≤ 4) (hr : r ≤ 20) (hg : g < 64) (h0 : k ≤ 1 → g = 0) : f_Alm_candidate (nI r) (nI k) (nI g) = nI (cod k r g) := by
  unfold f_Alm_candidate
  have p5 := plN_5 k
  rw [place_nI hk, show (320 : Int32) = nI 320 from rfl, show (64 : Int32) = nI 64 from rfl, show (1 : Int32) = nI 1 from rfl, pk_mul, pk_mul, nI_add, nI_add, pk_sub (by omega), pk_sub (by omega)]
  congr 1
  unfold cod
  by_cases c : k ≤ 1
  · rw [if_pos c, h0 c]; omega
  · rw [if_neg c]; omega
theorem cod_div64 {k r g : Nat} : cod k r g / 64 = r * 5 + plN k := by
  unfold cod
  split <;> omega
theorem cod_mod5 {k r g : Nat} : cod k r g / 64 % 5 = plN k := by
  rw [cod_div64]
  have := plN_5 k
  omega
theorem kindIn_cod {k r g : Nat} (hk : k ≤ 4) (hr : r ≤ 20) : f_Alm_kindIn (nI (cod k r g)) = nI k := by
  have hb := cod_bound (k := k) (g := g) hr
  unfold f_Alm_kindIn
  have e : (nI (cod k r g) / 64 - nI (cod k r g) / 64 / 5 * 5 : Int32) = nI (plN k) := by
    rw [show (64 : Int32) = nI 64 from rfl, show (5 : Int32) = nI 5 from rfl, nI_div (by omega) (by omega) (by omega), nI_div (by omega) (by omega) (by omega), pk_mul, pk_sub (by omega), ← cod_mod5 (k := k) (r := r) (g := g)]
    congr 1; omega
  rw [e]
  rcases (show k = 0 ∨ k = 1 ∨ k = 2 ∨ k = 3 ∨ k = 4 by omega) with rfl | rfl | rfl | rfl | rfl <;> rfl
theorem rankIn_cod {k r g : Nat} (hk : k ≤ 4) (hr : r ≤ 20) (hg : g < 64) : f_Alm_rankIn (nI (cod k r g)) = nI r := by
  have hb := cod_bound (k := k) (g := g) hr
  have p5 := plN_5 k
  unfold f_Alm_rankIn
  rw [show (320 : Int32) = nI 320 from rfl, nI_div (by omega) (by omega) (by omega)]
  congr 1
  unfold cod
  split <;> omega
theorem feastIn_cod {k r g : Nat} (hk : k ≤ 4) (hr : r ≤ 20) (hg : g < 64) : f_Alm_feastIn (nI (cod k r g)) = fI k g := by
  have hb := cod_bound (k := k) (g := g) hr
  unfold f_Alm_feastIn fI
  rw [kindIn_cod hk hr]
  by_cases c : k ≤ 1
  · rw [if_pos c]
    rcases (show k = 0 ∨ k = 1 by omega) with rfl | rfl <;> rfl
  · have n0 : ¬ nI k = (0 : Int32) := nI_ne (b := 0) (by omega) (by omega) (by omega)
    have n1 : ¬ nI k = (1 : Int32) := nI_ne (b := 1) (by omega) (by omega) (by omega)
    rw [if_neg c, if_neg n0, if_neg n1, show (64 : Int32) = nI 64 from rfl, show (63 : Int32) = nI 63 from rfl, nI_div (by omega) (by omega) (by omega), pk_mul, pk_sub (by omega)]
    have e : cod k r g - cod k r g / 64 * 64 = 63 - g := by
      unfold cod
      rw [if_neg c]; omega
    rw [e, pk_sub (by omega)]
    congr 1; omega
theorem cod_inj {k r g k' r' g' : Nat} (hk : k ≤ 4) (hk' : k' ≤ 4) (hg : g < 64) (hg' : g' < 64) (h : cod k r g = cod k' r' g') : k = k' ∧ r = r' ∧ (2 ≤ k → g = g') := by
  have a1 := cod_mod5 (k := k) (r := r) (g := g)
  have a2 := cod_mod5 (k := k') (r := r') (g := g')
  rw [h, a2] at a1
  have b1 := cod_div64 (k := k) (r := r) (g := g)
  have b2 := cod_div64 (k := k') (r := r') (g := g')
  rw [h, b2] at b1
  have ek : k = k' := by
    unfold plN at a1
    rcases (show k = 0 ∨ k = 1 ∨ k = 2 ∨ k = 3 ∨ k = 4 by omega) with rfl | rfl | rfl | rfl | rfl <;> rcases (show k' = 0 ∨ k' = 1 ∨ k' = 2 ∨ k' = 3 ∨ k' = 4 by omega) with rfl | rfl | rfl | rfl | rfl <;> first | rfl | (exfalso; revert a1; decide)
  subst ek
  have er : r = r' := by omega
  subst er
  refine ⟨rfl, rfl, fun c => ?_⟩
  unfold cod at h
  rw [if_neg (by omega), if_neg (by omega)] at h
  omega
theorem plc_le {k k' : Nat} (hk : k ≤ 4) (hk' : k' ≤ 4) : (f_Md_place (nI k') ≤ f_Md_place (nI k)) ↔ plN k ≤ plN k' := by
  rcases (show k = 0 ∨ k = 1 ∨ k = 2 ∨ k = 3 ∨ k = 4 by omega) with rfl | rfl | rfl | rfl | rfl <;> rcases (show k' = 0 ∨ k' = 1 ∨ k' = 2 ∨ k' = 3 ∨ k' = 4 by omega) with rfl | rfl | rfl | rfl | rfl <;> decide
theorem plN_inj {k k' : Nat} (hk : k ≤ 4) (hk' : k' ≤ 4) (h : plN k = plN k') : k = k' := by
  rcases (show k = 0 ∨ k = 1 ∨ k = 2 ∨ k = 3 ∨ k = 4 by omega) with rfl | rfl | rfl | rfl | rfl <;> rcases (show k' = 0 ∨ k' = 1 ∨ k' = 2 ∨ k' = 3 ∨ k' = 4 by omega) with rfl | rfl | rfl | rfl | rfl <;> first | rfl | (exfalso; revert h; decide)
/-- an entry of what meets, in the plain program's cells -/
def Mtt (w : Wd) (x k r g : Nat) : Prop := w 175 x = nI k ∧ w 176 x = fI k g ∧ w 177 x = nI r
theorem ew_isAhead {zs : List Int32} {w : Wd} {a b k r g k' r' g' : Nat} {Q : Option AV → Wd → Prop} (ha : a < 200) (hb : b < 200) (hk : k ≤ 4) (hk' : k' ≤ 4) (hr : r ≤ 20) (hr' : r' ≤ 20) (hg : g < 64) (hg' : g' < 64) (mA : Mtt w a k r g) (mB : Mtt w b k' r' g') (h : Q (some (.inl (if cod k' r' g' < cod k r g then 1 else 0))) w) : Ew zs 1 m_Md_isAhead [.inr (.inl (some 155)), .inl (nI a), .inl (nI b)] w Q := by
  obtain ⟨a1, a2, a3⟩ := mA
  obtain ⟨b1, b2, b3⟩ := mB
  have va := vinN (i := a) (n := 200) ha (by omega)
  have vb := vinN (i := b) (n := 200) hb (by omega)
  have p5 := plN_5 k
  have p5' := plN_5 k'
  refine ew_of k_Md_isAhead rfl (sg_Md_isAhead_0 ?_)
  rw [nI_clampN (by omega), nI_clampN (by omega), a1, a2, a3, b1, b2, b3]
  refine ⟨va, vb, fun c => ⟨va, vb, fun c2 => ⟨va, vb, fun c3 => ?_, fun c3 => ?_⟩, fun c2 => ⟨va, vb, fun c3 => ?_, fun c3 => ?_⟩⟩, fun c => ⟨va, vb, fun c3 => ?_, fun c3 => ?_⟩⟩
  · have er := (nI_eq (by omega) (by omega)).mp c
    have ek := (nI_eq (by omega) (by omega)).mp c2
    subst er; subst ek
    rw [if_neg (by
      unfold cod
      by_cases z : k ≤ 1
      · rw [if_pos z, if_pos z]; omega
      · rw [if_neg z, if_neg z]
        unfold fI at c3
        rw [if_neg z, if_neg z] at c3
        have : g' ≤ g := by
          rcases Nat.lt_or_ge g g' with q | q
          · exact absurd c3 (nI_gle q (by omega))
          · exact q
        omega)] at h
    exact h
  · have er := (nI_eq (by omega) (by omega)).mp c
    have ek := (nI_eq (by omega) (by omega)).mp c2
    subst er; subst ek
    rw [if_pos (by
      unfold cod
      by_cases z : k ≤ 1
      · exfalso
        unfold fI at c3
        rw [if_pos z] at c3
        exact c3 (by rw [if_pos z]; decide)
      · rw [if_neg z, if_neg z]
        unfold fI at c3
        rw [if_neg z, if_neg z] at c3
        have : g < g' := by
          rcases Nat.lt_or_ge g g' with q | q
          · exact q
          · exact absurd (nI_le q (by omega)) c3
        omega)] at h
    exact h
  · have er := (nI_eq (by omega) (by omega)).mp c
    subst er
    have hp := (plc_le hk hk').mp c3
    have hne : plN k ≠ plN k' := fun z => c2 (by rw [plN_inj hk hk' z])
    rw [if_neg (by unfold cod; split <;> split <;> omega)] at h
    exact h
  · have er := (nI_eq (by omega) (by omega)).mp c
    subst er
    have hp : plN k' < plN k := by
      rcases Nat.lt_or_ge (plN k') (plN k) with q | q
      · exact q
      · exact absurd ((plc_le hk hk').mpr q) c3
    rw [if_pos (by unfold cod; split <;> split <;> omega)] at h
    exact h
  · have hr2 : r ≤ r' := by
      rcases Nat.lt_or_ge r' r with q | q
      · exact absurd c3 (nI_gle q (by omega))
      · exact q
    have hne : r ≠ r' := fun z => c (by rw [z])
    rw [if_neg (by unfold cod; split <;> split <;> omega)] at h
    exact h
  · have hr2 : r' < r := by
      rcases Nat.lt_or_ge r' r with q | q
      · exact q
      · exact absurd (nI_le q (by omega)) c3
    rw [if_pos (by unfold cod; split <;> split <;> omega)] at h
    exact h
