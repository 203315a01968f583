/-! Singing: the halves and their accents -/
theorem nI_gle {a b : Nat} (h : b < a) (ha : a < 2147483648) : ¬ nI a ≤ nI b := fun q => by
  have z := nI_lt h ha
  rw [Int32.lt_iff_toInt_lt] at z
  rw [Int32.le_iff_toInt_le] at q
  omega
theorem isS_1 {w : Wd} {e s N k : Nat} (hs : s + N ≤ 60) (hk1 : 1 ≤ k) (hk : k ≤ N) (hq : ¬ w (e + 1) (s + N - k) = 0) : f_Ver_isStressedFrom w e (nI s) (nI (s + N) - nI k) = 1 := by
  unfold f_Ver_isStressedFrom
  have c1 : ¬ nI (s + N - k) < nI s := nI_nlt (by omega) (by omega)
  have c2 : ¬ nI (s + N - k) < 0 := nI_pos (by omega)
  have c3 : ¬ (60 : Int32) ≤ nI (s + N - k) := nI_ge (a := s + N - k) (b := 60) (by omega) (by omega)
  rw [pk_sub (a := s + N) (b := k) (by omega), if_neg c1, if_neg c2, if_neg c3, nI_clampN (by omega), if_neg hq]
theorem sub_low {x k : Nat} (h : x < k) (hk : k ≤ 3) : nI x - nI k < 0 := by
  rcases (show (x = 0 ∧ k = 1) ∨ (x = 0 ∧ k = 2) ∨ (x = 0 ∧ k = 3) ∨ (x = 1 ∧ k = 2) ∨ (x = 1 ∧ k = 3) ∨ (x = 2 ∧ k = 3) by omega) with ⟨rfl, rfl⟩ | ⟨rfl, rfl⟩ | ⟨rfl, rfl⟩ | ⟨rfl, rfl⟩ | ⟨rfl, rfl⟩ | ⟨rfl, rfl⟩ <;> decide
theorem sub_low2 {s N k : Nat} (h : N < k) (hk : k ≤ 3) (hs : s ≤ 60) : nI (s + N) - nI k < nI s := by
  rcases Nat.lt_or_ge (s + N) k with q | q
  · have e : s = 0 ∨ s = 1 ∨ s = 2 := by omega
    rcases (show (s = 0 ∧ N = 0 ∧ k = 1) ∨ (s = 0 ∧ N = 0 ∧ k = 2) ∨ (s = 0 ∧ N = 0 ∧ k = 3) ∨ (s = 0 ∧ N = 1 ∧ k = 2) ∨ (s = 0 ∧ N = 1 ∧ k = 3) ∨ (s = 0 ∧ N = 2 ∧ k = 3) ∨ (s = 1 ∧ N = 0 ∧ k = 2) ∨ (s = 1 ∧ N = 0 ∧ k = 3) ∨ (s = 1 ∧ N = 1 ∧ k = 3) ∨ (s = 2 ∧ N = 0 ∧ k = 3) by omega) with ⟨rfl, rfl, rfl⟩ | ⟨rfl, rfl, rfl⟩ | ⟨rfl, rfl, rfl⟩ | ⟨rfl, rfl, rfl⟩ | ⟨rfl, rfl, rfl⟩ | ⟨rfl, rfl, rfl⟩ | ⟨rfl, rfl, rfl⟩ | ⟨rfl, rfl, rfl⟩ | ⟨rfl, rfl, rfl⟩ | ⟨rfl, rfl, rfl⟩ <;> decide
  · rw [pk_sub q]
    exact nI_lt (by omega) (by omega)
theorem isS_0 {w : Wd} {e s N k : Nat} (hs : s + N ≤ 60) (hk1 : 1 ≤ k) (hk3 : k ≤ 3) (hq : k ≤ N → w (e + 1) (s + N - k) = 0) : f_Ver_isStressedFrom w e (nI s) (nI (s + N) - nI k) = 0 := by
  unfold f_Ver_isStressedFrom
  rcases Nat.lt_or_ge N k with q | q
  · rw [if_pos (sub_low2 q hk3 (by omega))]
  · have c1 : ¬ nI (s + N - k) < nI s := nI_nlt (by omega) (by omega)
    have c2 : ¬ nI (s + N - k) < 0 := nI_pos (by omega)
    have c3 : ¬ (60 : Int32) ≤ nI (s + N - k) := nI_ge (a := s + N - k) (b := 60) (by omega) (by omega)
    rw [pk_sub (a := s + N) (b := k) (by omega), if_neg c1, if_neg c2, if_neg c3, nI_clampN (by omega), if_pos (hq q)]
theorem sI {v s N k : Nat} (hk : k ≤ N) : (60 * nI v + nI s + (nI N - nI k) : Int32) = nI (60 * v + (s + N - k)) := by
  rw [pk_sub hk, show (60 : Int32) = nI 60 from rfl, pk_mul, nI_add, nI_add]
  congr 1; omega
theorem ew_isS_1 {zs : List Int32} {v s N k : Nat} {w : Wd} {Q : Option AV → Wd → Prop} (hv : v < 20) (hs : s + N ≤ 60) (hk1 : 1 ≤ k) (hk : k ≤ N) (hq : ¬ w 195 (60 * v + (s + N - k)) = 0) (h : Q (some (.inl 1)) w) : Ew zs 0 m_Md_isStressed [.inr (.inl (some 155)), .inl (nI v), .inl (nI s), .inl (nI N - nI k)] w Q := by
  refine ew_of k_Md_isStressed rfl (sg_Md_isStressed_0 ⟨fun c => absurd c ?_, fun _ => ?_⟩)
  · rw [pk_sub hk]; exact nI_pos (by omega)
  · rw [sI hk, nI_clampN (by omega)]
    exact ⟨vinN (by omega) (by omega), fun c => absurd c hq, fun _ => h⟩
theorem ew_isS_0 {zs : List Int32} {v s N k : Nat} {w : Wd} {Q : Option AV → Wd → Prop} (hv : v < 20) (hs : s + N ≤ 60) (hk1 : 1 ≤ k) (hk3 : k ≤ 3) (hq : k ≤ N → w 195 (60 * v + (s + N - k)) = 0) (h : Q (some (.inl 0)) w) : Ew zs 0 m_Md_isStressed [.inr (.inl (some 155)), .inl (nI v), .inl (nI s), .inl (nI N - nI k)] w Q := by
  refine ew_of k_Md_isStressed rfl (sg_Md_isStressed_0 ⟨fun _ => h, fun c => ?_⟩)
  have hk : k ≤ N := by
    rcases Nat.lt_or_ge N k with q | q
    · exact absurd (sub_low q hk3) c
    · exact q
  rw [sI hk, nI_clampN (by omega)]
  exact ⟨vinN (by omega) (by omega), fun _ => h, fun c2 => absurd (hq hk) c2⟩
theorem sing_two {zs : List Int32} {v t c s N a L : Nat} {o3 o8 o9 o10 o11 : Option AV} {w : Wd} {Q : Option AV → Wd → Prop} (hR : RT w) (hv : v < 20) (ht : t < 9) (hc : c < 2) (hs : s + N ≤ 60) (ha : a < N) (hL : L < N)
    (hE : ∀ j, j < N → w (104 + 2 * v + 1) (s + j) = w 195 (60 * v + (s + j)))
    (h : Q (some (.inl (nAt w (31 + 8 * t) (33 + 8 * t + 3 * c) (nI (s + a)) (nI s) (nI (s + N)) (nI (s + L)) (f_Ver_firstAccent w (104 + 2 * v) (nI s) (nI (s + L)))))) w) :
    Gw zs 1 m_Md_sing 174 [some (.inr (.inl (some 155))), some (.inl (nI v)), some (.inl (nI t)), o3, some (.inl (nI c)), some (.inl (nI s)), some (.inl (nI N)), some (.inl (nI a)), o8, o9, o10, o11] [.inl (nI L)] w Q := by
  obtain ⟨-, -, hC⟩ := hR t ht
  obtain ⟨-, hCm, -⟩ := hC c hc
  have ei : (2 * nI t + nI c : Int32) = nI (2 * t + c) := by rw [show (2 : Int32) = nI 2 from rfl, pk_mul, nI_add]
  refine sg_Md_sing_174 ?_
  rw [ei, nI_clampN (by omega)]
  have lo : L < 2 → f_Ver_firstAccent w (104 + 2 * v) (nI s) (nI (s + L)) = -1 := by
    intro hl
    unfold f_Ver_firstAccent
    have e2 := isS_0 (w := w) (e := 104 + 2 * v) (s := s) (N := L) (k := 2) (by omega) (by omega) (by omega) (fun q => absurd q (by omega))
    have e3 := isS_0 (w := w) (e := 104 + 2 * v) (s := s) (N := L) (k := 3) (by omega) (by omega) (by omega) (fun q => absurd q (by omega))
    have e4 := sub_low2 (s := s) (N := L) (k := 2) hl (by omega) (by omega)
    rw [show (2 : Int32) = nI 2 from rfl, show (3 : Int32) = nI 3 from rfl, if_pos e2, if_pos e3, if_pos e4]
  refine ⟨vinN (by omega) (by omega), fun c0 => ?_, fun c0 => ?_⟩
  · rcases hCm with ⟨x1, x2⟩ | ⟨x1, x2⟩
    · refine sing_core (L := L) (F := L) hR ht hc hs ha hL (Or.inl ⟨?_, rfl⟩) h
      unfold f_Cad_hasTwoAccents; rw [x1]; rfl
    · exact absurd (x2.symm.trans c0) one_ne
  · have h2 : f_Cad_hasTwoAccents w (33 + 8 * t + 3 * c) = 1 := by
      rcases hCm with ⟨x1, x2⟩ | ⟨x1, x2⟩
      · exact absurd x2 c0
      · unfold f_Cad_hasTwoAccents; rw [x1]; rfl
    refine ⟨fun c1 => ?_, fun c1 => ?_⟩
    · have hl : L < 2 := by
        rcases Nat.lt_or_ge L 2 with q | q
        · exact q
        · exact absurd c1 (nI_gle (a := L) (b := 1) (by omega) (by omega))
      exact sing_core (L := L) (F := L) hR ht hc hs ha hL (Or.inr (Or.inl ⟨h2, lo hl, rfl⟩)) h
    · have hl : 2 ≤ L := by
        rcases Nat.lt_or_ge L 2 with q | q
        · exact absurd (nI_le (a := L) (b := 1) (by omega) (by omega)) c1
        · exact q
      have E : ∀ k, 1 ≤ k → k ≤ L → w (104 + 2 * v + 1) (s + L - k) = w 195 (60 * v + (s + L - k)) := by
        intro k hk1 hk
        have := hE (L - k) (by omega)
        rw [show s + (L - k) = s + L - k by omega] at this
        exact this
      have fa : f_Ver_firstAccent w (104 + 2 * v) (nI s) (nI (s + L)) = if f_Ver_isStressedFrom w (104 + 2 * v) (nI s) (nI (s + L) - nI 2) = 0 then if f_Ver_isStressedFrom w (104 + 2 * v) (nI s) (nI (s + L) - nI 3) = 0 then if nI (s + L) - nI 2 < nI s then (-1) else nI (s + L) - nI 2 else nI (s + L) - nI 3 else nI (s + L) - nI 2 := rfl
      by_cases q2 : w 195 (60 * v + (s + L - 2)) = 0
      · refine ew_isS_0 (k := 2) hv (by omega) (by omega) (by omega) (fun _ => q2) ⟨_, rfl, fun _ => ?_, fun c => absurd rfl c⟩
        rw [if_pos (isS_0 (by omega) (by omega) (by omega) (fun _ => (E 2 (by omega) (by omega)).trans q2))] at fa
        by_cases q3 : 3 ≤ L ∧ ¬ w 195 (60 * v + (s + L - 3)) = 0
        · refine ew_isS_1 (k := 3) hv (by omega) (by omega) q3.1 q3.2 ⟨_, rfl, fun c => absurd c one_ne, fun _ => ?_⟩
          rw [if_neg (by rw [isS_1 (by omega) (by omega) q3.1 (by rw [E 3 (by omega) q3.1]; exact q3.2)]; exact one_ne), pk_sub (by omega)] at fa
          rw [show (3 : Int32) = nI 3 from rfl, pk_sub q3.1]
          refine sg_Md_sing_246 ?_
          exact sing_core (L := L) (F := L - 3) hR ht hc hs ha hL (Or.inr (Or.inr ⟨h2, by rw [fa]; congr 1; omega, by omega⟩)) h
        · have q3' : 3 ≤ L → w 195 (60 * v + (s + L - 3)) = 0 := fun q => Classical.byContradiction fun q4 => q3 ⟨q, q4⟩
          refine ew_isS_0 (k := 3) hv (by omega) (by omega) (by omega) q3' ⟨_, rfl, fun _ => ?_, fun c => absurd rfl c⟩
          rw [if_pos (isS_0 (by omega) (by omega) (by omega) (fun q => (E 3 (by omega) q).trans (q3' q))), pk_sub (by omega), if_neg (nI_nlt (by omega) (by omega))] at fa
          rw [show (2 : Int32) = nI 2 from rfl, pk_sub hl]
          refine sg_Md_sing_246 ?_
          exact sing_core (L := L) (F := L - 2) hR ht hc hs ha hL (Or.inr (Or.inr ⟨h2, by rw [fa]; congr 1; omega, by omega⟩)) h
      · refine ew_isS_1 (k := 2) hv (by omega) (by omega) hl q2 ⟨_, rfl, fun c => absurd c one_ne, fun _ => ?_⟩
        rw [if_neg (by rw [isS_1 (by omega) (by omega) hl (by rw [E 2 (by omega) hl]; exact q2)]; exact one_ne), pk_sub (by omega)] at fa
        rw [show (2 : Int32) = nI 2 from rfl, pk_sub hl]
        refine sg_Md_sing_246 ?_
        exact sing_core (L := L) (F := L - 2) hR ht hc hs ha hL (Or.inr (Or.inr ⟨h2, by rw [fa]; congr 1; omega, by omega⟩)) h
theorem sing_half {zs : List Int32} {v t c s N a : Nat} {o3 o6 o7 o8 o9 o10 o11 : Option AV} {w : Wd} {Q : Option AV → Wd → Prop} (hR : RT w) (hv : v < 20) (ht : t < 9) (hc : c < 2) (hs : s + N ≤ 60) (ha : a < N)
    (hE : ∀ j, j < N → w (104 + 2 * v + 1) (s + j) = w 195 (60 * v + (s + j))) (ho3 : o3 = some (.inl (nI (s + a))))
    (h : Q (some (.inl (nAt w (31 + 8 * t) (33 + 8 * t + 3 * c) (nI (s + a)) (nI s) (nI (s + N)) (f_Ver_lastAccent w (104 + 2 * v) (nI s) (nI (s + N))) (f_Ver_firstAccent w (104 + 2 * v) (nI s) (f_Ver_lastAccent w (104 + 2 * v) (nI s) (nI (s + N))))))) w) :
    Gw zs 1 m_Md_sing 116 [some (.inr (.inl (some 155))), some (.inl (nI v)), some (.inl (nI t)), o3, some (.inl (nI c)), some (.inl (nI s)), o6, o7, o8, o9, o10, o11] [.inl (nI (s + N))] w Q := by
  subst ho3
  have la : f_Ver_lastAccent w (104 + 2 * v) (nI s) (nI (s + N)) = if f_Ver_isStressedFrom w (104 + 2 * v) (nI s) (nI (s + N) - nI 2) = 0 then (if nI s < nI (s + N) - nI 3 then nI (s + N) - nI 3 else nI s) else nI (s + N) - nI 2 := rfl
  have E : ∀ k, 1 ≤ k → k ≤ N → w (104 + 2 * v + 1) (s + N - k) = w 195 (60 * v + (s + N - k)) := by
    intro k hk1 hk
    have := hE (N - k) (by omega)
    rw [show s + (N - k) = s + N - k by omega] at this
    exact this
  have eN : (nI (s + N) - nI s : Int32) = nI N := by rw [pk_sub (by omega)]; congr 1; omega
  have ea : (nI (s + a) - nI s : Int32) = nI a := by rw [pk_sub (by omega)]; congr 1; omega
  refine sg_Md_sing_116 ?_
  rw [eN, ea]
  by_cases q2 : 2 ≤ N ∧ ¬ w 195 (60 * v + (s + N - 2)) = 0
  · refine ew_isS_1 (k := 2) hv (by omega) (by omega) q2.1 q2.2 ⟨_, rfl, fun c => absurd c one_ne, fun _ => ?_⟩
    have la2 := q2.1
    rw [if_neg (by rw [isS_1 (by omega) (by omega) q2.1 (by rw [E 2 (by omega) q2.1]; exact q2.2)]; exact one_ne), pk_sub (by omega), show s + N - 2 = s + (N - 2) by omega] at la
    rw [la] at h
    rw [show (2 : Int32) = nI 2 from rfl, pk_sub q2.1]
    exact sing_two hR hv ht hc hs ha (by omega) hE h
  · have q2' : 2 ≤ N → w 195 (60 * v + (s + N - 2)) = 0 := fun q => Classical.byContradiction fun q4 => q2 ⟨q, q4⟩
    refine ew_isS_0 (k := 2) hv (by omega) (by omega) (by omega) q2' ⟨_, rfl, fun _ => ?_, fun c => absurd rfl c⟩
    rw [if_pos (isS_0 (by omega) (by omega) (by omega) (fun q => (E 2 (by omega) q).trans (q2' q)))] at la
    have la3 : f_Ver_lastAccent w (104 + 2 * v) (nI s) (nI (s + N)) = nI (s + (N - 3)) := by
      rw [la]
      rcases Nat.lt_or_ge N 3 with q | q
      · have z := sub_low2 (s := s) (N := N) (k := 3) q (by omega) (by omega)
        have z2 : ¬ nI s < nI (s + N) - nI 3 := fun z3 => by
          rw [Int32.lt_iff_toInt_lt] at z z3
          omega
        rw [if_neg z2]; congr 1; omega
      · rw [pk_sub (by omega)]
        split
        · congr 1; omega
        · rename_i z
          have : N = 3 := by
            rcases Nat.lt_or_ge s (s + N - 3) with y | y
            · exact absurd (nI_lt y (by omega)) z
            · omega
          congr 1; omega
    rw [la3] at h
    by_cases q3 : 3 ≤ N ∧ ¬ w 195 (60 * v + (s + N - 3)) = 0
    · refine ew_isS_1 (k := 3) hv (by omega) (by omega) q3.1 q3.2 ⟨_, rfl, fun c => absurd c one_ne, fun _ => ?_⟩
      have q31 := q3.1
      rw [show (3 : Int32) = nI 3 from rfl, pk_sub q31]
      exact sing_two hR hv ht hc hs ha (by omega) hE h
    · have q3' : 3 ≤ N → w 195 (60 * v + (s + N - 3)) = 0 := fun q => Classical.byContradiction fun q4 => q3 ⟨q, q4⟩
      refine ew_isS_0 (k := 3) hv (by omega) (by omega) (by omega) q3' ⟨_, rfl, fun _ => ?_, fun c => absurd rfl c⟩
      have lb : f_Md_lastBut (nI N) = nI (N - 3) := by
        unfold f_Md_lastBut
        rcases Nat.lt_or_ge N 3 with q | q
        · have z : nI N ≤ (2 : Int32) := nI_le (a := N) (b := 2) (by omega) (by omega)
          rw [if_pos z, show N - 3 = 0 by omega]; rfl
        · have z : ¬ nI N ≤ (2 : Int32) := nI_gle (a := N) (b := 2) (by omega) (by omega)
          rw [if_neg z]
          exact pk_sub (a := N) (b := 3) q
      rw [lb]
      exact sing_two hR hv ht hc hs ha (by omega) hE h
theorem par_sing {zs : List Int32} (a0 a1 a2 : Int32) : Par zs 3 m_Bk_sing 1 m_Md_sing [.inl a0, .inl a1, .inl a2] (fun w => RT w ∧ RV w) PV := by
  intro w ⟨hR, hV⟩
  refine ev_Bk_sing ⟨_, rfl, ew_of k_Md_sing rfl (sg_Md_sing_0 ?_)⟩
  have done : ∀ {r : Int32}, r = -1 → Gw zs 1 m_Md_sing 60 [some (.inr (.inl (some 155))), some (.inl a0), some (.inl a1), some (.inl a2), none, none, none, none, none, none, none, none] [] w (fun v2 w2 => v2 = some (.inl r) ∧ (RT w2 ∧ RV w2) ∧ ∀ c k, ¬ PV c k → w2 c k = w c k) := by
    intro r hr
    exact sg_Md_sing_60 ⟨by rw [hr], ⟨hR, hV⟩, off_rf⟩
  unfold f_Bk_sing
  rcases ix_c a0 (n := 20) (m := 20) rfl (by omega) with h | ⟨v, hv, rfl⟩
  · have e0 : f_Md_in a0 0 19 = 0 := in_out (h := 19) rfl (by omega) h
    refine ⟨fun _ => done ?_, fun c => absurd e0 c⟩
    rcases h with h | h
    all_goals
      repeat' split
      all_goals first | rfl | exact absurd h (by assumption)
  have e0 : f_Md_in (nI v) 0 19 = 1 := in_in (l := 0) (h := 19) rfl rfl (by omega) (by omega) (by omega)
  rw [if_inn (m := 20) (n := 20) rfl hv (by omega)]
  refine ⟨fun c => absurd (e0.symm.trans c) one_ne, fun _ => ?_⟩
  rcases ix_c a1 (n := 9) (m := 9) rfl (by omega) with h | ⟨t, ht, rfl⟩
  · have e1 : f_Md_in a1 0 8 = 0 := in_out (h := 8) rfl (by omega) h
    rw [if_out h]
    exact ⟨fun _ => done rfl, fun c => absurd e1 c⟩
  have e1 : f_Md_in (nI t) 0 8 = 1 := in_in (l := 0) (h := 8) rfl rfl (by omega) (by omega) (by omega)
  rw [if_inn (m := 9) (n := 9) rfl ht (by omega), nI_clampN (by omega), nI_clampN (by omega)]
  obtain ⟨n, m, hn, hm, h1, h2, h3, h4, h5⟩ := hV v hv
  have vv : vp_in (nI v) 20 := vinN hv (by omega)
  refine ⟨fun c => absurd (e1.symm.trans c) one_ne, fun _ => ⟨vv, ?_⟩⟩
  rw [h2, h4]
  have e5 : f_Ver_isSungAt w (104 + 2 * v) a2 = if a2 < 0 then 0 else if nI n ≤ a2 then 0 else if nI n ≤ nI m then 0 else 1 := by unfold f_Ver_isSungAt; rw [h1, h3]
  rw [e5]
  rcases ix_c a2 (n := n) (m := nI n) rfl (by omega) with h | ⟨i, hi, rfl⟩
  · rw [if_out h, if_pos rfl]
    have e2 : f_Md_in a2 0 (nI n - 1) = 0 := by
      unfold f_Md_in
      rcases h with h | h
      · rw [if_pos h]
      · split
        · rfl
        · have z : nI n - 1 < a2 := by
            rcases Nat.eq_zero_or_pos n with q | q
            · subst q
              rename_i z
              rw [Int32.lt_iff_toInt_lt] at z ⊢
              have : (nI 0 - 1 : Int32).toInt = -1 := by decide
              have : (0 : Int32).toInt = 0 := by decide
              omega
            · rw [show (1 : Int32) = nI 1 from rfl, pk_sub q]
              have z1 : nI (n - 1) < nI n := nI_lt (a := n - 1) (b := n) (by omega) (by omega)
              have z2 := Int32.lt_iff_toInt_lt.mp z1
              show nI (n - 1) < a2
              rw [Int32.lt_iff_toInt_lt]
              rw [Int32.le_iff_toInt_le] at h
              omega
          rw [if_pos z]
    exact ⟨fun _ => done rfl, fun c => absurd e2 c⟩
  have e2 : f_Md_in (nI i) 0 (nI n - 1) = 1 := by
    rw [show (1 : Int32) = nI 1 from rfl, pk_sub (by omega)]
    exact in_in (l := 0) (h := n - 1) rfl rfl (by omega) (by omega) (by omega)
  rw [if_inn (m := nI n) (n := n) rfl hi (by omega)]
  refine ⟨fun c => absurd (e2.symm.trans c) one_ne, fun _ => ⟨vv, ?_⟩⟩
  by_cases hmn : n = m
  · subst hmn
    rw [if_pos (nI_le (Nat.le_refl _) (by omega)), if_pos rfl]
    refine ⟨fun c => ?_, fun _ => ⟨vv, vv, fun _ => done rfl, fun c => absurd rfl c⟩⟩
    exact absurd c (nI_nle (by omega) (by omega))
  rw [if_neg (nI_gle (by omega) (by omega)), if_neg one_ne, noteAt_eq]
  have key : Gw zs 1 m_Md_sing 62 [some (.inr (.inl (some 155))), some (.inl (nI v)), some (.inl (nI t)), some (.inl (nI i)), none, none, none, none, none, none, none, none] [] w (fun v2 w2 => v2 = some (.inl (if f_Ver_isFirstHalf w (104 + 2 * v) (nI i) = 0 then nAt w (31 + 8 * t) (31 + 8 * t + 5) (nI i) (f_Ver_startOfHalf w (104 + 2 * v) (nI i)) (f_Ver_endOfHalf w (104 + 2 * v) (nI i)) (f_Ver_lastAccent w (104 + 2 * v) (f_Ver_startOfHalf w (104 + 2 * v) (nI i)) (f_Ver_endOfHalf w (104 + 2 * v) (nI i))) (f_Ver_firstAccent w (104 + 2 * v) (f_Ver_startOfHalf w (104 + 2 * v) (nI i)) (f_Ver_lastAccent w (104 + 2 * v) (f_Ver_startOfHalf w (104 + 2 * v) (nI i)) (f_Ver_endOfHalf w (104 + 2 * v) (nI i)))) else nAt w (31 + 8 * t) (31 + 8 * t + 2) (nI i) (f_Ver_startOfHalf w (104 + 2 * v) (nI i)) (f_Ver_endOfHalf w (104 + 2 * v) (nI i)) (f_Ver_lastAccent w (104 + 2 * v) (f_Ver_startOfHalf w (104 + 2 * v) (nI i)) (f_Ver_endOfHalf w (104 + 2 * v) (nI i))) (f_Ver_firstAccent w (104 + 2 * v) (f_Ver_startOfHalf w (104 + 2 * v) (nI i)) (f_Ver_lastAccent w (104 + 2 * v) (f_Ver_startOfHalf w (104 + 2 * v) (nI i)) (f_Ver_endOfHalf w (104 + 2 * v) (nI i)))))) ∧ (RT w2 ∧ RV w2) ∧ ∀ c k, ¬ PV c k → w2 c k = w c k) := by
    refine sg_Md_sing_62 ?_
    have eh : f_Ver_isFirstHalf w (104 + 2 * v) (nI i) = if nI m ≤ nI i then 0 else 1 := by unfold f_Ver_isFirstHalf; rw [h3]
    unfold f_Ver_startOfHalf f_Ver_endOfHalf
    rw [eh, h1, h3, nI_clampN (by omega), h4]
    rcases Nat.lt_or_ge i m with q | q
    · have z : ¬ nI m ≤ nI i := nI_gle q (by omega)
      rw [if_neg z, if_neg one_ne, if_neg one_ne, if_neg one_ne]
      refine ⟨vv, fun c => absurd c z, fun _ => sg_Md_sing_77 ⟨fun _ => sg_Md_sing_94 ⟨fun _ => ⟨vv, ?_⟩, fun c => absurd rfl c⟩, fun c => absurd rfl c⟩⟩
      rw [nI_clampN (by omega), h4]
      have g := sing_half (zs := zs) (v := v) (t := t) (c := 0) (s := 0) (N := m) (a := i) (o3 := some (.inl (nI i))) (o6 := none) (o7 := none) (o8 := none) (o9 := none) (o10 := none) (o11 := none) (w := w) (Q := fun v2 w2 => v2 = some (.inl (nAt w (31 + 8 * t) (31 + 8 * t + 2) (nI i) 0 (nI m) (f_Ver_lastAccent w (104 + 2 * v) 0 (nI m)) (f_Ver_firstAccent w (104 + 2 * v) 0 (f_Ver_lastAccent w (104 + 2 * v) 0 (nI m))))) ∧ (RT w2 ∧ RV w2) ∧ ∀ c k, ¬ PV c k → w2 c k = w c k) hR hv ht (by omega) (by omega) q (fun j hj => by
        have := (h5 (0 + j) (by omega)).1
        rw [show 105 + 2 * v = 104 + 2 * v + 1 by omega] at this
        exact this) (by rw [Nat.zero_add]) (by
        rw [Nat.zero_add, Nat.zero_add, show 33 + 8 * t + 3 * 0 = 31 + 8 * t + 2 by omega]
        exact ⟨rfl, ⟨hR, hV⟩, off_rf⟩)
      rw [Nat.zero_add] at g
      exact g
    · have z : nI m ≤ nI i := nI_le q (by omega)
      rw [if_pos z, if_pos rfl, if_pos rfl, if_pos rfl]
      refine ⟨vv, fun _ => sg_Md_sing_77 ⟨fun c => absurd c one_ne, fun _ => ⟨vv, sg_Md_sing_94 ⟨fun c => absurd c one_ne, fun _ => ⟨vv, ?_⟩⟩⟩⟩, fun c => absurd z c⟩
      rw [nI_clampN (by omega), h4, h2]
      have g := sing_half (zs := zs) (v := v) (t := t) (c := 1) (s := m) (N := n - m) (a := i - m) (o3 := some (.inl (nI i))) (o6 := none) (o7 := none) (o8 := none) (o9 := none) (o10 := none) (o11 := none) (w := w) (Q := fun v2 w2 => v2 = some (.inl (nAt w (31 + 8 * t) (31 + 8 * t + 5) (nI i) (nI m) (nI n) (f_Ver_lastAccent w (104 + 2 * v) (nI m) (nI n)) (f_Ver_firstAccent w (104 + 2 * v) (nI m) (f_Ver_lastAccent w (104 + 2 * v) (nI m) (nI n))))) ∧ (RT w2 ∧ RV w2) ∧ ∀ c k, ¬ PV c k → w2 c k = w c k) hR hv ht (by omega) (by omega) (by omega) (fun j hj => by
        have := (h5 (m + j) (by omega)).1
        rw [show 105 + 2 * v = 104 + 2 * v + 1 by omega] at this
        exact this) (by rw [show m + (i - m) = i by omega]) (by
        rw [show m + (i - m) = i by omega, show m + (n - m) = n by omega, show 33 + 8 * t + 3 * 1 = 31 + 8 * t + 5 by omega]
        exact ⟨rfl, ⟨hR, hV⟩, off_rf⟩)
      rw [show m + (n - m) = n by omega] at g
      exact g
  by_cases hm0 : m = 0
  · subst hm0
    exact ⟨fun _ => key, fun c => absurd (nI_le (a := 0) (b := 0) (by omega) (by omega)) c⟩
  · exact ⟨fun c => absurd c (nI_nle (by omega) (by omega)), fun _ => ⟨vv, vv, fun c => absurd ((nI_eq (by omega) (by omega)).mp c).symm hmn, fun _ => key⟩⟩
