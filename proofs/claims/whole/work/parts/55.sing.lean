/-! Singing: the note of a syllable -/
def nAh (w : Wd) (b cb : Nat) (a1 ST x : Int32) : Int32 := if f_Cad_noteAhead w cb (x - a1) = -1 then (if ST = 0 then (if w b 3 ≤ a1 then w b 4 else f_at w (b + 1) 4 a1) else w b 4) else f_Cad_noteAhead w cb (x - a1)
def nAt (w : Wd) (b cb : Nat) (a1 ST EN LA FA : Int32) : Int32 := if f_Cad_hasTwoAccents w cb = 0 then (if a1 < LA then nAh w b cb a1 ST LA else f_Cad_noteFrom w cb 1 (a1 - LA) ((EN - 1) - LA)) else (if a1 < LA then (if FA = -1 then nAh w b cb a1 ST LA else if a1 < FA then nAh w b cb a1 ST FA else f_Cad_noteFrom w cb 0 (a1 - FA) ((LA - 1) - FA)) else f_Cad_noteFrom w cb 1 (a1 - LA) ((EN - 1) - LA))
theorem noteAt_eq (w : Wd) (b e : Nat) (a1 : Int32) : f_Ton_noteAt w b e a1 = if f_Ver_isFirstHalf w e a1 = 0 then nAt w b (b + 5) a1 (f_Ver_startOfHalf w e a1) (f_Ver_endOfHalf w e a1) (f_Ver_lastAccent w e (f_Ver_startOfHalf w e a1) (f_Ver_endOfHalf w e a1)) (f_Ver_firstAccent w e (f_Ver_startOfHalf w e a1) (f_Ver_lastAccent w e (f_Ver_startOfHalf w e a1) (f_Ver_endOfHalf w e a1))) else nAt w b (b + 2) a1 (f_Ver_startOfHalf w e a1) (f_Ver_endOfHalf w e a1) (f_Ver_lastAccent w e (f_Ver_startOfHalf w e a1) (f_Ver_endOfHalf w e a1)) (f_Ver_firstAccent w e (f_Ver_startOfHalf w e a1) (f_Ver_lastAccent w e (f_Ver_startOfHalf w e a1) (f_Ver_endOfHalf w e a1))) := rfl
theorem ew_byAccent {zs : List Int32} {t c u p z : Nat} {w : Wd} {Q : Option AV → Wd → Prop} (ht : t < 9) (hc : c < 2) (hu : u < 2) (hp : p < 100) (hz : z < 100) (hA : Ca w t c) (h : Q (some (.inl (f_Cad_noteFrom w (33 + 8 * t + 3 * c) (nI u) (nI p) (nI z)))) w) : Ew zs 0 m_Md_byAccent [.inr (.inl (some 155)), .inl (nI t), .inl (nI c), .inl (nI u), .inl (nI p), .inl (nI z)] w Q := by
  refine ew_of k_Md_byAccent rfl (sg_Md_byAccent_0 ?_)
  have ir : (3 * (4 * nI t + 2 * nI c + nI u) : Int32) = nI (12 * t + 6 * c + 3 * u) := by
    rw [show (3 : Int32) = nI 3 from rfl, show (4 : Int32) = nI 4 from rfl, show (2 : Int32) = nI 2 from rfl, pk_mul, pk_mul, nI_add, nI_add, pk_mul]
    congr 1; omega
  have i0 : (nI u * 3 : Int32) = nI (3 * u) := by rw [show (3 : Int32) = nI 3 from rfl, pk_mul]; congr 1; omega
  have p1 : ∀ n, (nI n + 1 : Int32) = nI (n + 1) := fun n => nI_1 n
  have p2 : ∀ n, (nI n + 2 : Int32) = nI (n + 2) := fun n => nI_add n 2
  rw [ir, p1, p2, nI_clampN (by omega), nI_clampN (by omega), nI_clampN (by omega)]
  unfold f_Cad_noteFrom at h
  rw [i0, p1, p2, f_at_in (by omega) (by omega), f_at_in (by omega) (by omega), f_at_in (by omega) (by omega)] at h
  have c35 : 33 + 8 * t + 3 * c + 2 = 35 + 8 * t + 3 * c := by omega
  rw [c35, hA _ (by omega), hA _ (by omega), hA _ (by omega)] at h
  refine ⟨fun c0 => ⟨vinN (by omega) (by omega), ?_⟩, fun c0 => ⟨fun c2 => ⟨fun c1 => ⟨vinN (by omega) (by omega), ?_⟩, fun c1 => ⟨vinN (by omega) (by omega), ?_⟩⟩, fun c2 => ⟨vinN (by omega) (by omega), ?_⟩⟩⟩
  · rw [if_pos c0] at h
    exact h
  · rw [if_neg c0, if_pos c1, if_pos c2] at h
    exact h
  · rw [if_neg c0, if_neg c1] at h
    exact h
  · rw [if_neg c0, if_neg c2] at h
    split at h <;> exact h
set_option maxHeartbeats 1000000 in
theorem sing_core {zs : List Int32} {t c s N a L F : Nat} {FA : Int32} {o1 o3 o10 o11 : Option AV} {w : Wd} {Q : Option AV → Wd → Prop} (hR : RT w) (ht : t < 9) (hc : c < 2) (hs : s + N ≤ 60) (ha : a < N) (hL : L < N)
    (hF : (f_Cad_hasTwoAccents w (33 + 8 * t + 3 * c) = 0 ∧ F = L) ∨ (f_Cad_hasTwoAccents w (33 + 8 * t + 3 * c) = 1 ∧ FA = -1 ∧ F = L) ∨ (f_Cad_hasTwoAccents w (33 + 8 * t + 3 * c) = 1 ∧ FA = nI (s + F) ∧ F < L))
    (h : Q (some (.inl (nAt w (31 + 8 * t) (33 + 8 * t + 3 * c) (nI (s + a)) (nI s) (nI (s + N)) (nI (s + L)) FA))) w) :
    Gw zs 1 m_Md_sing 248 [some (.inr (.inl (some 155))), o1, some (.inl (nI t)), o3, some (.inl (nI c)), some (.inl (nI s)), some (.inl (nI N)), some (.inl (nI a)), some (.inl (nI L)), some (.inl (nI F)), o10, o11] [] w Q := by
  obtain ⟨hTe, ⟨ni, hni, i1, i2, i3⟩, hC⟩ := hR t ht
  obtain ⟨⟨n, hn, b1, b2, b3⟩, hCm, hCa⟩ := hC c hc
  have ek : (3 * nI t + 1 + nI c : Int32) = nI (3 * t + 1 + c) := by
    rw [show (3 : Int32) = nI 3 from rfl, pk_mul, nI_1, nI_add]
  have e3t : (3 * nI t : Int32) = nI (3 * t) := by rw [show (3 : Int32) = nI 3 from rfl, pk_mul]
  have sb : ∀ x y : Nat, y ≤ x → (nI x - nI y : Int32) = nI (x - y) := fun x y h => pk_sub h
  have m1 : ∀ x : Nat, 1 ≤ x → (nI x - 1 : Int32) = nI (x - 1) := fun x h => pk_sub (a := x) (b := 1) h
  -- ahead of x (relative): the note, in both books
  have ahead : ∀ X, a < X → X ≤ L → Q (some (.inl (nAh w (31 + 8 * t) (33 + 8 * t + 3 * c) (nI (s + a)) (nI s) (nI (s + X))))) w →
      (vp_in (3 * nI t + 1 + nI c) 27 ∧ ((w 190 (3 * nI t + 1 + nI c : Int32).toNatClampNeg < nI X - nI a → ((nI s = 0 → (vp_in (3 * nI t) 27 ∧ ((w 190 (3 * nI t : Int32).toNatClampNeg ≤ nI a → Gw zs 1 m_Md_sing 385 [some (.inr (.inl (some 155))), o1, some (.inl (nI t)), o3, some (.inl (nI c)), some (.inl (nI s)), some (.inl (nI N)), some (.inl (nI a)), some (.inl (nI L)), some (.inl (nI X)), some (.inl (3 * nI t + 1 + nI c)), some (.inl (w 190 (3 * nI t + 1 + nI c : Int32).toNatClampNeg))] [] w Q) ∧ (¬ (w 190 (3 * nI t : Int32).toNatClampNeg ≤ nI a) → (vp_in (12 * nI t + nI a) 108 ∧ Gw zs 1 m_Md_sing 391 [some (.inr (.inl (some 155))), o1, some (.inl (nI t)), o3, some (.inl (nI c)), some (.inl (nI s)), some (.inl (nI N)), some (.inl (nI a)), some (.inl (nI L)), some (.inl (nI X)), some (.inl (3 * nI t + 1 + nI c)), some (.inl (w 190 (3 * nI t + 1 + nI c : Int32).toNatClampNeg))] [.inl (w 191 (12 * nI t + nI a : Int32).toNatClampNeg)] w Q))))) ∧ (¬ (nI s = 0) → Gw zs 1 m_Md_sing 385 [some (.inr (.inl (some 155))), o1, some (.inl (nI t)), o3, some (.inl (nI c)), some (.inl (nI s)), some (.inl (nI N)), some (.inl (nI a)), some (.inl (nI L)), some (.inl (nI X)), some (.inl (3 * nI t + 1 + nI c)), some (.inl (w 190 (3 * nI t + 1 + nI c : Int32).toNatClampNeg))] [] w Q))) ∧ (¬ (w 190 (3 * nI t + 1 + nI c : Int32).toNatClampNeg < nI X - nI a) → (vp_in (4 * (3 * nI t + 1 + nI c) + w 190 (3 * nI t + 1 + nI c : Int32).toNatClampNeg - (nI X - nI a)) 108 ∧ Q (some (.inl (w 191 (4 * (3 * nI t + 1 + nI c) + w 190 (3 * nI t + 1 + nI c : Int32).toNatClampNeg - (nI X - nI a) : Int32).toNatClampNeg))) w)))) := by
    intro X hX1 hX2 hq
    rw [ek, nI_clampN (by omega), b2, sb X a (by omega), e3t, nI_clampN (by omega), i2]
    unfold nAh f_Cad_noteAhead at hq
    rw [b1, sb (s + X) (s + a) (by omega), show s + X - (s + a) = X - a by omega, show f_Bk_within = f_Md_in from rfl] at hq
    have tenor : Q (some (.inl (w (31 + 8 * t) 4))) w → Gw zs 1 m_Md_sing 385 [some (.inr (.inl (some 155))), o1, some (.inl (nI t)), o3, some (.inl (nI c)), some (.inl (nI s)), some (.inl (nI N)), some (.inl (nI a)), some (.inl (nI L)), some (.inl (nI X)), some (.inl (nI (3 * t + 1 + c))), some (.inl (nI n))] [] w Q := by
      intro hz
      refine sg_Md_sing_385 ⟨vinN ht (by omega), sg_Md_sing_391 ?_⟩
      rw [nI_clampN (by omega), ← hTe]
      exact hz
    refine ⟨vinN (by omega) (by omega), fun c1 => ?_, fun c1 => ?_⟩
    · have hk : n < X - a := (nI_ltI (by omega) (by omega)).mp c1
      have e0 : f_Md_in (nI (X - a)) 1 (nI n) = 0 := by
        unfold f_Md_in
        have z1 : ¬ nI (X - a) < (1 : Int32) := nI_nlt (a := X - a) (b := 1) (by omega) (by omega)
        rw [if_neg z1, if_pos (nI_lt hk (by omega))]
      rw [if_pos e0, if_pos rfl] at hq
      refine ⟨fun c2 => ⟨vinN (by omega) (by omega), fun c3 => ?_, fun c3 => ⟨?_, ?_⟩⟩, fun c2 => ?_⟩
      · rw [if_pos c2, i1, ] at hq
        have hq2 : nI ni ≤ nI (s + a) := by
          have hz : s = 0 := (nI_eq (by omega) (by omega)).mp (show nI s = nI 0 from c2)
          rw [hz, Nat.zero_add]; exact c3
        rw [if_pos hq2] at hq
        exact tenor hq
      · have hz : s = 0 := (nI_eq (by omega) (by omega)).mp (show nI s = nI 0 from c2)
        have ha4 : a < ni := by
          rcases Nat.lt_or_ge a ni with q | q
          · exact q
          · exact absurd (nI_le q (by omega)) c3
        rw [show (12 : Int32) = nI 12 from rfl, pk_mul, nI_add]
        exact vinN (by omega) (by omega)
      · have hz : s = 0 := (nI_eq (by omega) (by omega)).mp (show nI s = nI 0 from c2)
        have ha4 : a < ni := by
          rcases Nat.lt_or_ge a ni with q | q
          · exact q
          · exact absurd (nI_le q (by omega)) c3
        subst hz
        rw [if_pos c2, i1, Nat.zero_add, if_neg c3, f_at_in (by omega) (by omega), show 31 + 8 * t + 1 = 32 + 8 * t by omega, i3 a ha4] at hq
        refine sg_Md_sing_391 ?_
        rw [show (12 : Int32) = nI 12 from rfl, pk_mul, nI_add, nI_clampN (by omega)]
        exact hq
      · rw [if_neg c2] at hq
        exact tenor hq
    · have hk : X - a ≤ n := by
        rcases Nat.lt_or_ge n (X - a) with q | q
        · exact absurd (nI_lt q (by omega)) c1
        · exact q
      have e0 : f_Md_in (nI (X - a)) 1 (nI n) = 1 := in_in (l := 1) rfl rfl (by omega) hk (by omega)
      have e0n : ¬ f_Md_in (nI (X - a)) 1 (nI n) = 0 := fun q => one_ne (e0.symm.trans q)
      rw [if_neg e0n, sb n (X - a) hk, f_at_in (by omega) (by omega), show 33 + 8 * t + 3 * c + 1 = 34 + 8 * t + 3 * c by omega] at hq
      obtain ⟨q1, q2⟩ := b3 (n - (X - a)) (by omega)
      rw [if_neg q2, q1] at hq
      have ei : (4 * nI (3 * t + 1 + c) + nI n - nI (X - a) : Int32) = nI (12 * t + 4 + 4 * c + (n - (X - a))) := by
        rw [show (4 : Int32) = nI 4 from rfl, pk_mul, nI_add, sb _ _ (by omega)]
        congr 1; omega
      rw [ei, nI_clampN (by omega)]
      exact ⟨vinN (by omega) (by omega), hq⟩
  have fromL : ¬ a < L → Q (some (.inl (f_Cad_noteFrom w (33 + 8 * t + 3 * c) 1 (nI (s + a) - nI (s + L)) (nI (s + N) - 1 - nI (s + L))))) w → Ew zs 0 m_Md_byAccent [.inr (.inl (some 155)), .inl (nI t), .inl (nI c), .inl 1, .inl (nI a - nI L), .inl (nI N - 1 - nI L)] w (fun v w9 => ∃ r8 : Int32, v = some (.inl r8) ∧ Q (some (.inl r8)) w9) := by
    intro hq hz
    rw [sb _ _ (by omega), m1 _ (by omega), sb _ _ (by omega), show s + a - (s + L) = a - L by omega, show s + N - 1 - (s + L) = N - 1 - L by omega] at hz
    rw [sb _ _ (by omega), m1 _ (by omega), sb _ _ (by omega)]
    exact ew_byAccent (u := 1) ht hc (by omega) (by omega) (by omega) hCa ⟨_, rfl, hz⟩
  have lt_iff : ∀ x y : Nat, x < 200 → y < 200 → (nI x < nI y ↔ x < y) := fun x y h1 h2 => nI_ltI (by omega) (by omega)
  refine sg_Md_sing_248 ⟨fun cL => ?_, fun cL => ?_⟩
  · have hL2 : a < L := (lt_iff _ _ (by omega) (by omega)).mp cL
    have cLs : nI (s + a) < nI (s + L) := nI_lt (by omega) (by omega)
    unfold nAt at h
    rw [if_pos cLs, if_pos cLs] at h
    rcases hF with ⟨h2, rfl⟩ | ⟨h2, hfa, rfl⟩ | ⟨h2, hfa, hFL⟩
    · rw [if_pos h2] at h
      exact ⟨fun _ => ahead F hL2 (Nat.le_refl _) h, fun q => absurd cL q⟩
    · rw [if_neg (by rw [h2]; exact one_ne), if_pos hfa] at h
      exact ⟨fun _ => ahead F hL2 (Nat.le_refl _) h, fun q => absurd cL q⟩
    · rw [if_neg (by rw [h2]; exact one_ne), hfa, if_neg (m1_nI (by omega))] at h
      refine ⟨fun cF => ?_, fun cF => ?_⟩
      · have hF2 : a < F := (lt_iff _ _ (by omega) (by omega)).mp cF
        rw [if_pos (nI_lt (by omega) (by omega))] at h
        exact ahead F hF2 (by omega) h
      · have hF2 : ¬ a < F := fun q => cF ((lt_iff _ _ (by omega) (by omega)).mpr q)
        rw [if_neg (nI_nlt (by omega) (by omega)), sb _ _ (by omega), m1 _ (by omega), sb _ _ (by omega), show s + a - (s + F) = a - F by omega, show s + L - 1 - (s + F) = L - F - 1 by omega] at h
        rw [sb _ _ (by omega), sb _ _ (by omega), m1 _ (by omega)]
        exact ew_byAccent (u := 0) ht hc (by omega) (by omega) (by omega) hCa ⟨_, rfl, h⟩
  · have hL2 : ¬ a < L := fun q => cL ((lt_iff _ _ (by omega) (by omega)).mpr q)
    have cLs : ¬ nI (s + a) < nI (s + L) := nI_nlt (by omega) (by omega)
    unfold nAt at h
    rw [if_neg cLs, if_neg cLs] at h
    have h' : Q (some (.inl (f_Cad_noteFrom w (33 + 8 * t + 3 * c) 1 (nI (s + a) - nI (s + L)) (nI (s + N) - 1 - nI (s + L))))) w := by
      split at h <;> exact h
    exact fromL hL2 h'
