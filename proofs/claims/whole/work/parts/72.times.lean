/-! How often a psalm is sung on a day -/
def occ (L : Nat → Nat) (p : Nat) : Nat → Nat
  | 0 => 0
  | n + 1 => occ L p n + (if L n = p then 1 else 0)
theorem occ_le (L : Nat → Nat) (p n : Nat) : occ L p n ≤ n := by
  induction n with
  | zero => exact Nat.le_refl _
  | succ n ih => simp only [occ]; split <;> omega
theorem occ_cg {L L' : Nat → Nat} {p n : Nat} (h : ∀ j, j < n → L j = L' j) : occ L p n = occ L' p n := by
  induction n with
  | zero => rfl
  | succ n ih => simp only [occ]; rw [ih (fun j hj => h j (by omega)), h n (by omega)]
theorem occ_add (L : Nat → Nat) (p k n : Nat) : occ L p (k + n) = occ L p k + occ (fun j => L (k + j)) p n := by
  induction n with
  | zero => rfl
  | succ n ih =>
    show occ L p (k + n) + (if L (k + n) = p then 1 else 0) = occ L p k + (occ (fun j => L (k + j)) p n + (if L (k + n) = p then 1 else 0))
    rw [ih, Nat.add_assoc]
/-- an ascending list holds a psalm once, where it is in it -/
theorem occ_rf {u : Nat → Bool} {p f : Nat} (hp : 1 ≤ p) (hp2 : p ≤ 150) : ∀ n, f + n ≤ cnt u 150 → occ (fun j => rf u 150 (f + j) + 1) p n = if u (p - 1) = true ∧ f ≤ cnt u (p - 1) ∧ cnt u (p - 1) < f + n then 1 else 0 := by
  intro n
  induction n with
  | zero => intro _; rw [if_neg (by omega)]; rfl
  | succ n ih =>
    intro h
    simp only [occ]
    rw [ih (by omega)]
    obtain ⟨r1, r2, r3⟩ := rf_of (u := u) (n := 150) (i := f + n) (by omega)
    by_cases e : rf u 150 (f + n) + 1 = p
    · have ep : p - 1 = rf u 150 (f + n) := by omega
      rw [if_pos e, ep, r3, if_neg (by omega), if_pos ⟨r1, by omega, by omega⟩]
    · rw [if_neg e]
      by_cases c : u (p - 1) = true ∧ f ≤ cnt u (p - 1) ∧ cnt u (p - 1) < f + n
      · rw [if_pos c, if_pos ⟨c.1, c.2.1, by omega⟩]
      · have c2 : ¬ (u (p - 1) = true ∧ f ≤ cnt u (p - 1) ∧ cnt u (p - 1) < f + (n + 1)) := by
          rintro ⟨q1, q2, q3⟩
          by_cases z : cnt u (p - 1) < f + n
          · exact c ⟨q1, q2, z⟩
          · have z2 : cnt u (p - 1) = f + n := by omega
            have z3 := rf_cnt (u := u) (q := p - 1) (n := 150) (by omega) q1
            rw [z2] at z3
            omega
        rw [if_neg c, if_neg c2]
def sumH (f : Nat → Nat) : Nat → Nat
  | 0 => 0
  | n + 1 => sumH f n + f n
theorem sumH_cg {f g : Nat → Nat} {n : Nat} (h : ∀ i, i < n → f i = g i) : sumH f n = sumH g n := by
  induction n with
  | zero => rfl
  | succ n ih => simp only [sumH]; rw [ih (fun i hi => h i (by omega)), h n (by omega)]
theorem sumH_add (f g : Nat → Nat) (n : Nat) : sumH (fun i => f i + g i) n = sumH f n + sumH g n := by
  induction n with
  | zero => rfl
  | succ n ih => simp only [sumH]; rw [ih]; omega
/-- of the hour's own psalms, and of its fixed ones -/
def tD (w : Wd) (u : Nat → Bool) (V : Nat → Nat) (H lim x p : Nat) (R : Int32) (y : Nat) : Nat := if ¬ R < w 155 37 ∧ ¬ w 183 y ≤ 0 then occ (fun j => (w 184 (6 * y + j)).toNatClampNeg) p (w 183 y).toNatClampNeg else if u (p - 1) = true ∧ st (fun i => V (rf u 150 i)) (cnt u 150) lim (x * H + y) ≤ cnt u (p - 1) ∧ cnt u (p - 1) < st (fun i => V (rf u 150 i)) (cnt u 150) lim (x * H + y + 1) then 1 else 0
def tF (w : Wd) (p y : Nat) : Nat := if w 182 (p - 1) = nI y then 1 else 0
theorem occ_Sp {w : Wd} {u : Nat → Bool} {V : Nat → Nat} {H lim x y k p : Nat} {R : Int32} {L : Nat → Nat} (hS : Sp w u V H lim x y R k L) (hp : 1 ≤ p) (hp2 : p ≤ 150) : occ L p (k + cnt (gF w y) 150) = tD w u V H lim x p R y + tF w p y := by
  rw [occ_add]
  obtain ⟨a, b⟩ := hS
  have e2 : occ (fun j => L (k + j)) p (cnt (gF w y) 150) = tF w p y := by
    rw [occ_cg (L' := fun j => rf (gF w y) 150 (0 + j) + 1) (fun j hj => by rw [b j hj, Nat.zero_add]), occ_rf hp hp2 _ (by omega)]
    unfold tF
    by_cases c : w 182 (p - 1) = nI y
    · have hu : gF w y (p - 1) = true := decide_eq_true c
      rw [if_pos c, if_pos ⟨hu, Nat.zero_le _, by have := cnt_lt (show p - 1 < 150 by omega) hu; omega⟩]
    · rw [if_neg c, if_neg (fun z => c (of_decide_eq_true z.1))]
  rw [e2]
  congr 1
  unfold tD
  rcases a with ⟨a1, a2, a3, a4, a5⟩ | ⟨a1, a2, a3⟩
  · rw [if_pos ⟨a3, by rw [a4]; exact nI_nle (by omega) (by omega)⟩, a4, nI_clampN (by omega)]
    refine occ_cg (fun j hj => ?_)
    show L j = (w 184 (6 * y + j)).toNatClampNeg
    rw [(a5 j hj).2, nI_clampN (by have := (a5 j hj).1; omega)]
  · rw [if_neg (fun z => a1.elim z.1 z.2)]
    have sl := st_le (v := fun i => V (rf u 150 i)) (m := cnt u 150) (lim := lim) (x * H + y + 1)
    have su := st_up (v := fun i => V (rf u 150 i)) (m := cnt u 150) (lim := lim) (x * H + y)
    rw [occ_cg (L' := fun j => rf u 150 (st (fun i => V (rf u 150 i)) (cnt u 150) lim (x * H + y) + j) + 1) a3, a2, occ_rf hp hp2 _ (by omega)]
    rw [show st (fun i => V (rf u 150 i)) (cnt u 150) lim (x * H + y) + (st (fun i => V (rf u 150 i)) (cnt u 150) lim (x * H + y + 1) - st (fun i => V (rf u 150 i)) (cnt u 150) lim (x * H + y)) = st (fun i => V (rf u 150 i)) (cnt u 150) lim (x * H + y + 1) by omega]
theorem tF_sum {w : Wd} {H p : Nat} (hF : w 182 (p - 1) = -1 ∨ ∃ h, h < H ∧ w 182 (p - 1) = nI h) (hH : H ≤ 8) : ∀ n, n ≤ H → sumH (tF w p) n = if ∃ h, h < n ∧ w 182 (p - 1) = nI h then 1 else 0 := by
  intro n
  induction n with
  | zero => intro _; rw [if_neg (fun z => by obtain ⟨h, a, _⟩ := z; omega)]; rfl
  | succ n ih =>
    intro hn
    simp only [sumH]
    rw [ih (by omega)]
    unfold tF
    by_cases c : w 182 (p - 1) = nI n
    · have c2 : ¬ ∃ h, h < n ∧ w 182 (p - 1) = nI h := by
        rintro ⟨h, a, b⟩
        have := (nI_eq (by omega) (by omega)).mp (c.symm.trans b)
        omega
      rw [if_pos c, if_neg c2, if_pos ⟨n, by omega, c⟩]
    · rw [if_neg c]
      by_cases c2 : ∃ h, h < n ∧ w 182 (p - 1) = nI h
      · obtain ⟨h, a, b⟩ := c2
        rw [if_pos ⟨h, a, b⟩, if_pos ⟨h, by omega, b⟩]
      · rw [if_neg c2, if_neg (fun z => by
          obtain ⟨h, a, b⟩ := z
          by_cases e : h = n
          · subst e; exact c b
          · exact c2 ⟨h, by omega, b⟩)]
theorem tF_all {w : Wd} {H p : Nat} (hF : w 182 (p - 1) = -1 ∨ ∃ h, h < H ∧ w 182 (p - 1) = nI h) (hH : H ≤ 8) : sumH (tF w p) H = if w 182 (p - 1) = -1 then 0 else 1 := by
  rw [tF_sum hF hH H (Nat.le_refl _)]
  rcases hF with a | ⟨h, a, b⟩
  · rw [if_pos a, if_neg (fun z => by
      obtain ⟨h, b, c⟩ := z
      exact m1_nI (by omega) (c.symm.trans a))]
  · rw [if_pos ⟨h, a, b⟩, if_neg (fun z => m1_nI (by omega) (b.symm.trans z))]
/-- a day's number -/
def dayT (w : Wd) (u : Nat → Bool) (V : Nat → Nat) (H lim x p : Nat) (R : Int32) : Nat := sumH (fun y => tD w u V H lim x p R y + tF w p y) H
theorem ew_countFestal {zs : List Int32} {w : Wd} {y c p : Nat} {A : Nat → Nat} {Q : Option AV → Wd → Prop} (hy : y < 8) (hc : c ≤ 6) (h26 : w 26 y = nI c) (hp2 : p ≤ 150) (hA : ∀ j, j < c → A j < 1000 ∧ w 25 (6 * y + j) = nI (A j)) (h : Q (some (.inl (nI (occ A p c)))) w) : Ew zs 1 m_Psa_countFestal [.inr (.inl (some 22)), .inl (nI y), .inl (nI p)] w Q := by
  refine ew_of k_Psa_countFestal rfl (sg_Psa_countFestal_0 ?_)
  rw [f_at_in (by omega) (by omega), h26]
  have g := up_loop (fun i => Gw zs 1 m_Psa_countFestal 15 [some (.inr (.inl (some 22))), some (.inl (nI y)), some (.inl (nI p)), some (.inl (nI (occ A p i))), some (.inl (nI c)), some (.inl (nI i))] [] w Q) 0 c (by omega) ?_ ?_
  · exact g
  · exact sg_Psa_countFestal_15 ⟨fun _ => h, fun z => absurd (nI_le (Nat.le_refl _) (by omega)) z⟩
  · intro i _ hi ih
    obtain ⟨a1, a2⟩ := hA i hi
    have e6 : (nI y * 6 + nI i : Int32) = nI (6 * y + i) := by rw [show (6 : Int32) = nI 6 from rfl, pk_mul, nI_add]; congr 1; omega
    refine sg_Psa_countFestal_15 ⟨fun z => absurd z (nI_gle hi (by omega)), fun _ => ?_⟩
    rw [e6, f_at_in (by omega) (by omega), a2, nI_1, nI_1]
    refine ⟨fun z => ?_, fun z => ?_⟩
    · have e := (nI_eq (by omega) (by omega)).mp z
      have o : occ A p (i + 1) = occ A p i + 1 := by simp only [occ]; rw [if_pos e]
      rw [o] at ih; exact ih
    · have e : ¬ A i = p := fun q => z (by rw [q])
      have o : occ A p (i + 1) = occ A p i := by simp only [occ]; rw [if_neg e]; omega
      rw [o] at ih; exact ih
/-- the class' number of a day, behind its dealing -/
theorem ctimes_at {zs : List Int32} {w : Wd} {u : Nat → Bool} {V : Nat → Nat} {H x lim p : Nat} {R : Int32} {Q : Option AV → Wd → Prop} (hR : RP w) (hI : Inp w u V H) (hLe : enough (fun i => V (rf u 150 i)) (cnt u 150) (7 * H) lim) (hx : x < 7) (hp : 1 ≤ p) (hp2 : p ≤ 150) (h29 : ∀ q, q < 150 → ¬ u q = true → w 29 (q + 1) = -1) (h29b : ∀ s, s < 7 * H → ∀ i, st (fun i => V (rf u 150 i)) (cnt u 150) lim s ≤ i → i < st (fun i => V (rf u 150 i)) (cnt u 150) lim (s + 1) → w 29 (rf u 150 i + 1) = nI s) (h : Q (some (.inl (nI (dayT w u V H lim x p R)))) w) :
    (((f_at w 24 151 (nI p)) = (-1) → Gw zs 5 m_Psa_timesSung 26 [some (.inr (.inl (some 22))), some (.inl (nI x)), some (.inl R), some (.inl (nI p)), some (.inl 0), some (.inl 0)] [] w Q) ∧ (¬ ((f_at w 24 151 (nI p)) = (-1)) → Gw zs 5 m_Psa_timesSung 26 [some (.inr (.inl (some 22))), some (.inl (nI x)), some (.inl R), some (.inl (nI p)), some (.inl 1), some (.inl 0)] [] w Q)) := by
  obtain ⟨hv, H0, r0, b1, b2, b3, b4, b5, b6, b7, b8, hf, hfe⟩ := hR
  obtain ⟨q, rfl⟩ : ∃ q, p = q + 1 := ⟨p - 1, by omega⟩
  have hH := hI.2.1
  have h8 := hI.2.2.1
  have hH0 : H0 = H := (nI_eq (by omega) (by omega)).mp (b5.symm.trans h8)
  subst hH0
  obtain ⟨f24, f182⟩ := hf q (by omega)
  have loop : ∀ b : Nat, b = (if w 182 q = -1 then 0 else 1) → Gw zs 5 m_Psa_timesSung 26 [some (.inr (.inl (some 22))), some (.inl (nI x)), some (.inl R), some (.inl (nI (q + 1))), some (.inl (nI b)), some (.inl 0)] [] w Q := by
    intro b hb
    have g := up_loop (fun y => Gw zs 5 m_Psa_timesSung 26 [some (.inr (.inl (some 22))), some (.inl (nI x)), some (.inl R), some (.inl (nI (q + 1))), some (.inl (nI (b + sumH (tD w u V H0 lim x (q + 1) R) y))), some (.inl (nI y))] [] w Q) 0 H0 (by omega) ?_ ?_
    · exact g
    · refine sg_Psa_timesSung_26 ?_
      rw [b5]
      refine ⟨fun _ => ?_, fun z => absurd (nI_le (Nat.le_refl _) (by omega)) z⟩
      have e : dayT w u V H0 lim x (q + 1) R = b + sumH (tD w u V H0 lim x (q + 1) R) H0 := by
        unfold dayT
        rw [sumH_add, tF_all (by rw [Nat.add_sub_cancel]; exact f182) hH, Nat.add_sub_cancel, ← hb]
        exact Nat.add_comm _ _
      rw [← e]; exact h
    · intro y _ hy ih
      obtain ⟨c, c1, c2, c3, c4, c5⟩ := hfe y (by omega)
      have es : (nI x * nI H0 + nI y : Int32) = nI (x * H0 + y) := slot_nI
      have hs : x * H0 + y < 7 * H0 := by
        have : x * H0 ≤ 6 * H0 := Nat.mul_le_mul_right H0 (by omega)
        omega
      have ih1 : ∀ n, n = tD w u V H0 lim x (q + 1) R y → Gw zs 5 m_Psa_timesSung 26 [some (.inr (.inl (some 22))), some (.inl (nI x)), some (.inl R), some (.inl (nI (q + 1))), some (.inl (nI (b + sumH (tD w u V H0 lim x (q + 1) R) y + n))), some (.inl (nI (y + 1)))] [] w Q := by
        intro n hn
        rw [hn, Nat.add_assoc]; exact ih
      refine sg_Psa_timesSung_26 ?_
      rw [b5]
      refine ⟨fun z => absurd z (nI_gle hy (by omega)), fun _ => ?_⟩
      have hfest : f_Psa_isFestive w (nI y) R = if R < w 155 37 then 0 else if w 183 y ≤ 0 then 0 else 1 := by
        unfold f_Psa_isFestive
        rw [b7, ← b8, f_at_in (by omega) (by omega), c3, ← c4]
      rw [hfest, es, f_at_in (by omega) (by omega), nI_1, nI_1]
      by_cases fe : ¬ R < w 155 37 ∧ ¬ w 183 y ≤ 0
      · rw [if_neg fe.1, if_neg fe.2]
        refine ⟨fun z => absurd z one_ne, fun _ => ?_⟩
        refine ew_countFestal (A := fun j => (w 184 (6 * y + j)).toNatClampNeg) (by omega) c1 c3 hp2 (fun j hj => ?_) ⟨_, rfl, ?_⟩
        · obtain ⟨y1, pp, y2, y3, y4⟩ := c5 j hj
          simp only [y4]
          rw [nI_clampN (by omega), y1]
          exact ⟨by omega, y4⟩
        · rw [nI_add]
          refine ih1 _ ?_
          unfold tD
          rw [if_pos fe, c4, nI_clampN (by omega)]
      · have e0 : (if R < w 155 37 then (0 : Int32) else if w 183 y ≤ 0 then 0 else 1) = 0 := by
          by_cases z : R < w 155 37
          · rw [if_pos z]
          · rw [if_neg z]
            by_cases z2 : w 183 y ≤ 0
            · rw [if_pos z2]
            · exact absurd ⟨z, z2⟩ fe
        rw [e0]
        refine ⟨fun _ => ⟨fun z => ?_, fun z => ?_⟩, fun z => absurd rfl z⟩
        · refine ih1 1 ?_
          unfold tD
          rw [if_neg fe, Nat.add_sub_cancel]
          by_cases hu : u q = true
          · obtain ⟨s, s1, s2, s3⟩ := slot_of (v := fun i => V (rf u 150 i)) (m := cnt u 150) (lim := lim) (i := cnt u q) (7 * H0) (by rw [hLe]; exact cnt_lt (by omega) hu)
            have k1 := h29b s s1 _ s2 s3
            rw [rf_cnt (by omega) hu] at k1
            have k2 : x * H0 + y = s := (nI_eq (by omega) (by omega)).mp (z.symm.trans k1)
            rw [if_pos ⟨hu, by rw [k2]; exact s2, by rw [k2]; exact s3⟩]
          · have k1 := h29 q (by omega) hu
            exact absurd (z.symm.trans k1) (m1_nI (by omega))
        · refine ih1 0 ?_
          unfold tD
          rw [if_neg fe, Nat.add_sub_cancel]
          rw [if_neg]
          rintro ⟨hu, s2, s3⟩
          have k1 := h29b _ hs _ s2 s3
          rw [rf_cnt (by omega) hu] at k1
          exact z k1
  rw [f_at_in (by omega) (by omega), f24]
  refine ⟨fun c => loop 0 (by rw [if_pos c]), fun c => loop 1 (by rw [if_neg c])⟩
