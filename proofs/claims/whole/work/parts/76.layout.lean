/-! The year: the season of each day -/
def lastS (p : Nat → Bool) : Nat → Int32
  | 0 => -1
  | n + 1 => if p n = true then nI n else lastS p n
def pIn (w : Wd) (i k d : Nat) : Bool := decide (f_Md_in (nI d) (f_Sea_firstDay w (nI k) (nI (1900 + i))) (f_Sea_lastDay w (nI k) (nI (1900 + i))) = 1)
theorem rough_bound {i : Nat} {a : Int32} (h : f_Md_isDate a = 1) : ∃ r, r ≤ 366 ∧ f_Day_roughDay (nI (1900 + i)) a = nI r := by
  rw [rough_val _ h]
  obtain ⟨m, d, m1, m2, d1, d2, em, ed⟩ := date_c h
  obtain ⟨F, hF2, hF⟩ := mfirst (nI (1900 + i)) m1 m2
  obtain ⟨l, l1, l2, el⟩ := mlen_31 (nI (1900 + i)) m1 m2
  rw [ed, em, hF, el]
  by_cases c : nI l ≤ nI d
  · rw [if_pos c, nI_add]
    exact ⟨F + l - 1, by omega, pk_sub (b := 1) (by omega)⟩
  · rw [if_neg c, nI_add]
    exact ⟨F + d - 1, by omega, pk_sub (b := 1) (by omega)⟩
theorem sea_bounds {w : Wd} {k i n : Nat} (hn : n ≤ 10) (hk : k < n) (hi : i < 300) (hs : w 2 k = w 156 k ∧ w 3 k = w 157 k ∧ w 4 k = w 158 k ∧ w 5 k = w 159 k ∧ w 6 k = w 160 k ∧ w 7 k = w 161 k ∧ Sok (w 156 k) (w 157 k) (w 158 k) (w 159 k) (w 160 k) (w 161 k)) :
    (-1000 ≤ (f_Sea_firstDay w (nI k) (nI (1900 + i))).toInt ∧ (f_Sea_firstDay w (nI k) (nI (1900 + i))).toInt ≤ 1000) ∧ (-1000 ≤ (f_Sea_lastDay w (nI k) (nI (1900 + i))).toInt ∧ (f_Sea_lastDay w (nI k) (nI (1900 + i))).toInt ≤ 1000) := by
  obtain ⟨s2, s3, s4, -, -, -, ok⟩ := hs
  obtain ⟨kind, -⟩ := ok
  obtain ⟨-, -, E, E1, E2, eE⟩ := y_facts hi
  unfold f_Sea_firstDay f_Sea_lastDay
  rw [byDates_nI (by omega), s2, f_at_in (by omega) (by omega), f_at_in (by omega) (by omega), s3, s4]
  have k1 : (-120 : Int32).toInt = -120 := by decide
  have k2 : (250 : Int32).toInt = 250 := by decide
  rcases kind with ⟨z, r1, r2⟩ | ⟨z, r1, r2⟩
  · have ra := in_range r1
    have rb := in_range r2
    rw [k1, k2] at ra rb
    rw [z, if_pos rfl, if_pos rfl, if_pos rfl, eE]
    have eE2 : (nI E).toInt = (E : Int) := nI_toInt (by omega)
    rw [toInt_add_small (by omega) (by omega) (by omega) (by omega), toInt_add_small (by omega) (by omega) (by omega) (by omega), eE2]
    omega
  · rw [z, if_neg one_ne, if_neg one_ne, if_neg one_ne]
    obtain ⟨x, x1, x2⟩ := rough_bound (i := i) r1
    obtain ⟨y, y1, y2⟩ := rough_bound (i := i) r2
    rw [x2, y2, nI_toInt (by omega), nI_toInt (by omega)]
    omega
theorem sea_cg {w w' : Wd} (e2 : w' 2 = w 2) (e3 : w' 3 = w 3) (e4 : w' 4 = w 4) (x y : Int32) : f_Sea_firstDay w' x y = f_Sea_firstDay w x y ∧ f_Sea_lastDay w' x y = f_Sea_lastDay w x y := by
  unfold f_Sea_firstDay f_Sea_lastDay f_Sea_isByDates f_at
  rw [e2, e3, e4]
  exact ⟨rfl, rfl⟩
theorem ew_layOut {zs : List Int32} {w0 : Wd} {n i N : Nat} {Q : Option AV → Wd → Prop} (hn : n ≤ 10) (h6 : w0 1 6 = nI n) (hi : i < 300) (hN : 1 ≤ N) (hN2 : N ≤ 366) (h8 : w0 16 8 = nI N)
    (hs : ∀ k, k < n → w0 2 k = w0 156 k ∧ w0 3 k = w0 157 k ∧ w0 4 k = w0 158 k ∧ w0 5 k = w0 159 k ∧ w0 6 k = w0 160 k ∧ w0 7 k = w0 161 k ∧ Sok (w0 156 k) (w0 157 k) (w0 158 k) (w0 159 k) (w0 160 k) (w0 161 k))
    (h : ∀ w', (∀ c k, c ≠ 17 → w' c k = w0 c k) → (∀ d, d < N → w' 17 d = lastS (fun k => pIn w0 i k d) n) → Q none w') : Ew zs 4 m_Alm_layOutSeasons [.inr (.inl (some 16)), .inl (nI (1900 + i))] w0 Q := by
  refine ew_of k_Alm_layOutSeasons rfl (sg_Alm_layOutSeasons_0 ?_)
  have outer := up_loop (fun K => ∀ w' o3 o4, (∀ c k, c ≠ 17 → w' c k = w0 c k) → (∀ d, d < N → w' 17 d = lastS (fun k => pIn w0 i k d) K) → Gw zs 4 m_Alm_layOutSeasons 26 [some (.inr (.inl (some 16))), some (.inl (nI (1900 + i))), some (.inl (nI K)), o3, o4] [] w' Q) 0 n (by omega) ?_ ?_
  · have zero := up_loop (fun t => ∀ w', (∀ c k, c ≠ 17 → w' c k = w0 c k) → (∀ d, d < t → w' 17 d = -1) → Gw zs 4 m_Alm_layOutSeasons 2 [some (.inr (.inl (some 16))), some (.inl (nI (1900 + i))), some (.inl (nI t)), none, none] [] w' Q) 0 366 (by omega) ?_ ?_
    · exact zero w0 (fun _ _ _ => rfl) (fun d hd => by omega)
    · intro w' a b
      exact sg_Alm_layOutSeasons_2 ⟨fun _ => outer w' _ _ a (fun d hd => b d (by omega)), fun c => absurd (nI_le (a := 366) (b := 366) (by omega) (by omega)) c⟩
    · intro t _ ht ih w' a b
      refine sg_Alm_layOutSeasons_2 ⟨fun c => absurd c (nI_gle (a := 366) (b := t) (by omega) (by omega)), fun _ => ⟨vinN ht (by omega), ?_⟩⟩
      rw [nI_clampN (by omega), nI_1]
      refine ih _ (fun c k hc => ?_) (fun d hd => ?_)
      · rw [wr_nc hc]; exact a c k hc
      · by_cases e : d = t
        · subst e; rw [wr_eq]
        · rw [wr_nk e]; exact b d (by omega)
  · intro w' o3 o4 a b
    refine sg_Alm_layOutSeasons_26 ?_
    have hc : f_Sea_count w' = nI n := (a 1 6 (by omega)).trans h6
    rw [hc]
    exact ⟨fun _ => h w' a b, fun c => absurd (nI_le (Nat.le_refl _) (by omega)) c⟩
  · intro K _ hK ih w' o3 o4 a b
    refine sg_Alm_layOutSeasons_26 ?_
    have hc : f_Sea_count w' = nI n := (a 1 6 (by omega)).trans h6
    have cg : ∀ w'' : Wd, (∀ c k, c ≠ 17 → w'' c k = w0 c k) → f_Sea_firstDay w'' (nI K) (nI (1900 + i)) = f_Sea_firstDay w0 (nI K) (nI (1900 + i)) ∧ f_Sea_lastDay w'' (nI K) (nI (1900 + i)) = f_Sea_lastDay w0 (nI K) (nI (1900 + i)) := fun w'' z => sea_cg (funext fun k => z _ _ (by omega)) (funext fun k => z _ _ (by omega)) (funext fun k => z _ _ (by omega)) _ _
    obtain ⟨c1, c2⟩ := cg w' a
    rw [hc, c1, c2, a 16 8 (by omega), h8, show (nI N - 1 : Int32) = nI (N - 1) from pk_sub (b := 1) hN]
    refine ⟨fun c => absurd c (nI_gle hK (by omega)), fun _ => ?_⟩
    obtain ⟨⟨A1, A2⟩, B1, B2⟩ := sea_bounds hn hK hi (hs K hK)
    have pin : ∀ d, d < 366 → (pIn w0 i K d = true ↔ (f_Sea_firstDay w0 (nI K) (nI (1900 + i))).toInt ≤ (d : Int) ∧ (d : Int) ≤ (f_Sea_lastDay w0 (nI K) (nI (1900 + i))).toInt) := by
      intro d hd
      unfold pIn
      rw [decide_eq_true_iff, in_toInt, nI_toInt (by omega)]
      by_cases z : (f_Sea_firstDay w0 (nI K) (nI (1900 + i))).toInt ≤ (d : Int) ∧ (d : Int) ≤ (f_Sea_lastDay w0 (nI K) (nI (1900 + i))).toInt
      · rw [if_pos z]; exact ⟨fun _ => z, fun _ => rfl⟩
      · rw [if_neg z]; exact ⟨fun q => absurd q.symm one_ne, fun q => absurd q z⟩
    generalize f_Sea_firstDay w0 (nI K) (nI (1900 + i)) = fA at *
    generalize f_Sea_lastDay w0 (nI K) (nI (1900 + i)) = fB at *
    have e0 : (0 : Int32).toInt = 0 := by decide
    have eN : (nI (N - 1)).toInt = ((N - 1 : Nat) : Int) := nI_toInt (by omega)
    have eA : (if fA < 0 then (0 : Int32) else fA) = nI fA.toInt.toNat := by
      by_cases z : fA < 0
      · rw [if_pos z]
        rw [Int32.lt_iff_toInt_lt] at z
        rw [show fA.toInt.toNat = 0 by omega]; rfl
      · rw [if_neg z]
        rw [Int32.lt_iff_toInt_lt] at z
        refine Int32.toInt_inj.mp ?_
        rw [nI_toInt (by omega)]; omega
    obtain ⟨fM, hM⟩ : ∃ fM : Int32, (if nI (N - 1) < fB then nI (N - 1) else fB) = fM := ⟨_, rfl⟩
    have eM : fM.toInt = if ((N - 1 : Nat) : Int) < fB.toInt then ((N - 1 : Nat) : Int) else fB.toInt := by
      rw [← hM]
      by_cases z : nI (N - 1) < fB
      · rw [if_pos z, eN]
        rw [Int32.lt_iff_toInt_lt, eN] at z
        rw [if_pos z]
      · rw [if_neg z]
        rw [Int32.lt_iff_toInt_lt, eN] at z
        rw [if_neg z]
    rw [eA, hM]
    -- the days of this season, one by one
    have days : ∀ r t w'', t + r = 1100 → fA.toInt.toNat ≤ t → (t ≤ fA.toInt.toNat ∨ (t : Int) ≤ fM.toInt + 1) → (∀ c k, c ≠ 17 → w'' c k = w0 c k) → (∀ d, d < N → w'' 17 d = if fA.toInt.toNat ≤ d ∧ d < t then nI K else lastS (fun k => pIn w0 i k d) K) → Gw zs 4 m_Alm_layOutSeasons 71 [some (.inr (.inl (some 16))), some (.inl (nI (1900 + i))), some (.inl (nI K)), some (.inl fM), some (.inl (nI t))] [] w'' Q := by
      intro r
      induction r with
      | zero =>
        intro t w'' ht h1 h2 h3 h4
        exfalso
        split at eM <;> omega
      | succ r ihr =>
        intro t w'' ht h1 h2 h3 h4
        have et : (nI t).toInt = (t : Int) := nI_toInt (by omega)
        refine sg_Alm_layOutSeasons_71 ⟨fun c => ?_, fun c => ?_⟩
        · rw [Int32.lt_iff_toInt_lt, et] at c
          rw [nI_1]
          refine ih w'' _ _ h3 (fun d hd => ?_)
          rw [h4 d hd]
          show _ = if pIn w0 i K d = true then nI K else lastS (fun k => pIn w0 i k d) K
          have pd := pin d (by omega)
          by_cases z : fA.toInt.toNat ≤ d ∧ d < t
          · rw [if_pos z, if_pos (pd.mpr (by split at eM <;> omega))]
          · rw [if_neg z, if_neg (fun q => z (by have := pd.mp q; split at eM <;> omega))]
        · rw [Int32.lt_iff_toInt_lt, et] at c
          have htN : t < N := by split at eM <;> omega
          rw [g_put_in (by omega) (by omega), nI_1]
          refine ihr (t + 1) _ (by omega) (by omega) (Or.inr (by omega)) (fun c k hc => ?_) (fun d hd => ?_)
          · rw [wr_nc hc]; exact h3 c k hc
          · by_cases e : d = t
            · subst e; rw [wr_eq, if_pos ⟨h1, by omega⟩]
            · rw [wr_nk e, h4 d hd]
              by_cases z : fA.toInt.toNat ≤ d ∧ d < t
              · rw [if_pos z, if_pos ⟨z.1, by omega⟩]
              · rw [if_neg z, if_neg (fun q => z ⟨q.1, by omega⟩)]
    refine days (1100 - fA.toInt.toNat) fA.toInt.toNat w' (by omega) (Nat.le_refl _) (Or.inl (Nat.le_refl _)) a (fun d hd => ?_)
    rw [if_neg (by omega)]
    exact b d hd
