/-! Dealing, as the class does it: the least limit, the slots -/
def mx (v : Nat → Nat) : Nat → Nat
  | 0 => 0
  | i + 1 => if mx v i < v i then v i else mx v i
theorem mx_le {v : Nat → Nat} {k : Nat} : ∀ {n : Nat}, (∀ i, i < n → v i ≤ k) → mx v n ≤ k := by
  intro n
  induction n with
  | zero => intro _; exact Nat.zero_le _
  | succ n ih =>
    intro h
    have a := ih (fun i hi => h i (by omega))
    have b := h n (by omega)
    simp only [mx]
    split <;> omega
theorem mx_is {v : Nat → Nat} {l : Nat} : ∀ {n : Nat}, l < mx v n → ∃ i, i < n ∧ l < v i := by
  intro n
  induction n with
  | zero => intro h; simp only [mx] at h; omega
  | succ n ih =>
    intro h
    simp only [mx] at h
    split at h
    · exact ⟨n, by omega, h⟩
    · obtain ⟨i, a, b⟩ := ih h
      exact ⟨i, by omega, b⟩
theorem mx_sum {v : Nat → Nat} : ∀ n, mx v n ≤ Sm v n := by
  intro n
  induction n with
  | zero => exact Nat.le_refl _
  | succ n ih =>
    simp only [mx, Sm]
    split <;> omega
theorem ew_halve {zs : List Int32} {w : Wd} {m H : Nat} {r v : Nat → Nat} {Q : Option AV → Wd → Prop} (hR : ROW w m r v) (hH1 : 1 ≤ H) (hH : H ≤ 8) (h8 : w 22 8 = nI H) (h : ∀ lim, lim ≤ 30000 → isLeast v m (7 * H) lim → Q none (wr w 22 10 (nI lim))) : ∀ n k lo hi o4, k + n = 40 → lo ≤ hi → hi - lo < 2 ^ n → hi ≤ 30000 → enough v m (7 * H) hi → (∀ l, l < lo → ¬ enough v m (7 * H) l) → Gw zs 3 m_Psa_findLimit 51 [some (.inr (.inl (some 22))), some (.inl (nI lo)), some (.inl (nI hi)), some (.inl (nI k)), o4] [] w Q := by
  intro n
  induction n with
  | zero =>
    intro k lo hi o4 hk h1 h2 h3 h4 h5
    have e : hi = lo := by
      have : (2 : Nat) ^ 0 = 1 := rfl
      omega
    subst e
    exact sg_Psa_findLimit_51 ⟨fun _ => h hi h3 ⟨h4, h5⟩, fun c => absurd (nI_le (a := 40) (b := k) (by omega) (by omega)) c⟩
  | succ n ih =>
    intro k lo hi o4 hk h1 h2 h3 h4 h5
    refine sg_Psa_findLimit_51 ⟨fun c => absurd c (nI_gle (a := 40) (b := k) (by omega) (by omega)), fun _ => ?_⟩
    refine ⟨fun c => ?_, fun c => ?_⟩
    · have e : hi = lo := by
        rcases Nat.lt_or_ge lo hi with q | q
        · exact absurd c (nI_gle q (by omega))
        · omega
      subst e
      exact h hi h3 ⟨h4, h5⟩
    · have hlt : lo < hi := by
        rcases Nat.lt_or_ge lo hi with q | q
        · exact q
        · exact absurd (nI_le q (by omega)) c
      have hp : 2 ^ (n + 1) = 2 * 2 ^ n := by rw [Nat.pow_succ, Nat.mul_comm]
      have em : (nI lo + ((nI hi - nI lo) / 2) : Int32) = nI (lo + (hi - lo) / 2) := by
        rw [pk_sub h1, show (2 : Int32) = nI 2 from rfl, nI_div (by omega) (by omega) (by omega), nI_add]
      rw [em, nI_1, nI_1]
      refine ew_isEnough hR hH h8 (by omega) (fun he => ⟨_, rfl, fun z => absurd z one_ne, fun _ => ?_⟩) (fun he => ⟨_, rfl, fun _ => ?_, fun z => absurd rfl z⟩)
      · exact ih (k + 1) lo (lo + (hi - lo) / 2) _ (by omega) (by omega) (by omega) (by omega) he h5
      · exact ih (k + 1) (lo + (hi - lo) / 2 + 1) hi _ (by omega) (by omega) (by omega) h3 h4 (fun l hl z => he (enough_up (by omega) z))
theorem ew_findLimit {zs : List Int32} {w : Wd} {m H : Nat} {r v : Nat → Nat} {Q : Option AV → Wd → Prop} (hR : ROW w m r v) (hH1 : 1 ≤ H) (hH : H ≤ 8) (h8 : w 22 8 = nI H) (h : ∀ lim, lim ≤ 30000 → isLeast v m (7 * H) lim → Q none (wr w 22 10 (nI lim))) : Ew zs 3 m_Psa_findLimit [.inr (.inl (some 22))] w Q := by
  have hR0 := hR
  obtain ⟨hm, h7, hi⟩ := hR
  have h200 : ∀ i, i < m → v i ≤ 200 := fun i hh => (hi i hh).2.2.2.2
  refine ew_of k_Psa_findLimit rfl (sg_Psa_findLimit_0 ?_)
  have g := up_loop (fun i => ∀ o4, Gw zs 3 m_Psa_findLimit 6 [some (.inr (.inl (some 22))), some (.inl (nI (mx v i))), some (.inl (nI (Sm v i))), some (.inl (nI i)), o4] [] w Q) 0 m (by omega) ?_ ?_
  · exact g none
  · intro o4
    refine sg_Psa_findLimit_6 ?_
    rw [h7]
    refine ⟨fun _ => ?_, fun c => absurd (nI_le (Nat.le_refl m) (by omega)) c⟩
    have s3 := Sm_30000 (v := v) hm h200 (Nat.le_refl m)
    have m3 := mx_sum (v := v) m
    exact ew_halve hR0 hH1 hH h8 h 40 0 (mx v m) (Sm v m) o4 (by omega) m3 (by
      have : (2 : Nat) ^ 40 = 1099511627776 := by decide
      omega) s3 (enough_all (by omega) (Nat.le_refl _)) (fun l hl => by
      obtain ⟨i, a, b⟩ := mx_is hl
      exact not_enough a b)
  · intro i _ hlt ih o4
    refine sg_Psa_findLimit_6 ?_
    obtain ⟨r1, r2, r3, r4, r5⟩ := hi i hlt
    have ml := mx_le (v := v) (k := 200) (n := i) (fun j hj => h200 j (by omega))
    have eS : Sm v (i + 1) = Sm v i + v i := rfl
    rw [h7, f_at_in (c := 27) (by omega) (by omega), r2, f_at_in (by omega) (by omega), r3, nI_add, nI_1]
    refine ⟨fun c => absurd c (nI_gle hlt (by omega)), fun _ => ?_⟩
    have em : (if nI (mx v i) < nI (v i) then nI (v i) else nI (mx v i)) = nI (mx v (i + 1)) := by
      simp only [mx]
      by_cases c : mx v i < v i
      · rw [if_pos c, if_pos (nI_lt c (by omega))]
      · rw [if_neg c, if_neg (nI_nlt (by omega) (by omega))]
    rw [em]
    exact ih _
theorem ew_markSlot {zs : List Int32} {w : Wd} {m s f e : Nat} {r v : Nat → Nat} {Q : Option AV → Wd → Prop} (hR : ROW w m r v) (hfe : f ≤ e) (he : e ≤ m)
    (h : ∀ w', (∀ c k, c ≠ 29 → w' c k = w c k) → (∀ i, f ≤ i → i < e → w' 29 (r i + 1) = nI s) → (∀ k, (∀ i, f ≤ i → i < e → k ≠ r i + 1) → w' 29 k = w 29 k) → Q none w') : Ew zs 1 m_Psa_markSlot [.inr (.inl (some 22)), .inl (nI s), .inl (nI f), .inl (nI e)] w Q := by
  obtain ⟨hm, h7, hi⟩ := hR
  refine ew_of k_Psa_markSlot rfl (sg_Psa_markSlot_0 ?_)
  have g := up_loop (fun j => ∀ w', (∀ c k, c ≠ 29 → w' c k = w c k) → (∀ i, f ≤ i → i < j → w' 29 (r i + 1) = nI s) → (∀ k, (∀ i, f ≤ i → i < j → k ≠ r i + 1) → w' 29 k = w 29 k) → Gw zs 1 m_Psa_markSlot 3 [some (.inr (.inl (some 22))), some (.inl (nI s)), some (.inl (nI f)), some (.inl (nI e)), some (.inl (nI j))] [] w' Q) f e hfe ?_ ?_
  · exact g w (fun _ _ _ => rfl) (fun i a b => by omega) (fun _ _ => rfl)
  · intro w' a b c
    exact sg_Psa_markSlot_3 ⟨fun _ => h w' a b c, fun q => absurd (nI_le (Nat.le_refl e) (by omega)) q⟩
  · intro j h1 h2 ih w' a b c
    refine sg_Psa_markSlot_3 ⟨fun q => absurd q (nI_gle h2 (by omega)), fun _ => ?_⟩
    obtain ⟨r1, r2, r3, r4, r5⟩ := hi j (by omega)
    rw [f_at_in (by omega) (by omega), a 27 j (by omega), r2, g_put_in (by omega) (by omega), nI_1]
    refine ih _ (fun c k hc => ?_) (fun i p1 p2 => ?_) (fun k hk => ?_)
    · rw [wr_nc hc]; exact a c k hc
    · by_cases e1 : r i = r j
      · rw [e1, wr_eq]
      · have hij : i ≠ j := fun z => e1 (by rw [z])
        rw [wr_nk (by omega)]
        exact b i p1 (by omega)
    · have := hk j h1 (by omega)
      rw [wr_nk this]
      exact c k (fun i p1 p2 => hk i p1 (by omega))
def DC (w : Wd) : Prop := ∃ (u : Nat → Bool) (V : Nat → Nat) (H lim : Nat), Inp w u V H ∧ w 22 11 = 1 ∧ ROW w (cnt u 150) (rf u 150) (fun i => V (rf u 150 i)) ∧ lim ≤ 30000 ∧ isLeast (fun i => V (rf u 150 i)) (cnt u 150) (7 * H) lim ∧ w 22 10 = nI lim ∧ (∀ k, k ≤ 7 * H → w 28 k = nI (st (fun i => V (rf u 150 i)) (cnt u 150) lim k)) ∧ (∀ q, q < 150 → ¬ u q = true → w 29 (q + 1) = -1) ∧ ∀ s, s < 7 * H → ∀ i, st (fun i => V (rf u 150 i)) (cnt u 150) lim s ≤ i → i < st (fun i => V (rf u 150 i)) (cnt u 150) lim (s + 1) → w 29 (rf u 150 i + 1) = nI s
def DD (w : Wd) : Prop := w 22 11 = 0 ∨ DC w
theorem Inp_cg {w w' : Wd} {u : Nat → Bool} {V : Nat → Nat} {H : Nat} (e1 : w' 22 8 = w 22 8) (e2 : ∀ k, w' 23 k = w 23 k) (e3 : ∀ k, w' 24 k = w 24 k) (h : Inp w u V H) : Inp w' u V H := by
  obtain ⟨a, b, c, d⟩ := h
  refine ⟨a, b, by rw [e1]; exact c, fun q hq => ?_⟩
  rw [e2, e3]; exact d q hq
theorem ROW_cg {w w' : Wd} {m : Nat} {r v : Nat → Nat} (e1 : w' 22 7 = w 22 7) (e2 : ∀ k, w' 23 k = w 23 k) (e3 : ∀ k, w' 27 k = w 27 k) (h : ROW w m r v) : ROW w' m r v := by
  obtain ⟨a, b, c⟩ := h
  refine ⟨a, by rw [e1]; exact b, fun i hi => ?_⟩
  rw [e2, e3]; exact c i hi
theorem DC_cg {w w' : Wd} (e : ∀ c k, PD c k → w' c k = w c k) (h : DC w) : DC w' := by
  obtain ⟨u, V, H, lim, a1, a2, a3, a4, a5, a6, a7, a8, a9⟩ := h
  refine ⟨u, V, H, lim, Inp_cg (e _ _ (by unfold PD; omega)) (fun k => e _ _ (by unfold PD; omega)) (fun k => e _ _ (by unfold PD; omega)) a1, ?_, ROW_cg (e _ _ (by unfold PD; omega)) (fun k => e _ _ (by unfold PD; omega)) (fun k => e _ _ (by unfold PD; omega)) a3, a4, a5, ?_, fun k hk => ?_, fun q hq hu => ?_, fun s hs i h1 h2 => ?_⟩
  · rw [e _ _ (by unfold PD; omega)]; exact a2
  · rw [e _ _ (by unfold PD; omega)]; exact a6
  · rw [e _ _ (by unfold PD; omega)]; exact a7 k hk
  · rw [e _ _ (by unfold PD; omega)]; exact a8 q hq hu
  · rw [e _ _ (by unfold PD; omega)]; exact a9 s hs i h1 h2
theorem DD_ok : DOK DD := ⟨fun _ h => Or.inl h, fun w w' e h => by
  rcases h with h | h
  · exact Or.inl (by rw [e _ _ (by unfold PD; omega)]; exact h)
  · exact Or.inr (DC_cg e h)⟩
def PDl (c k : Nat) : Prop := (c = 22 ∧ (k = 7 ∨ k = 10 ∨ k = 11)) ∨ c = 27 ∨ (c = 28 ∧ k ≠ 0) ∨ c = 29
theorem ew_deal {zs : List Int32} {w0 : Wd} {u : Nat → Bool} {V : Nat → Nat} {H : Nat} {Q : Option AV → Wd → Prop} (hD : DD w0) (hZ : w0 28 0 = 0) (hI : Inp w0 u V H) (h : ∀ w', (∀ c k, ¬ PDl c k → w' c k = w0 c k) → DC w' → Q none w') : Ew zs 4 m_Psa_deal [.inr (.inl (some 22))] w0 Q := by
  refine ew_of k_Psa_deal rfl (sg_Psa_deal_0 ⟨fun c0 => ?_, fun c0 => h w0 (fun _ _ _ => rfl) (hD.resolve_left c0)⟩)
  have hI1 : Inp (wr w0 22 11 1) u V H := Inp_cg (wr_nk (by omega)) (fun k => wr_nc (by omega)) (fun k => wr_nc (by omega)) hI
  have hI10 := hI1
  obtain ⟨hH1, hH, h8, -⟩ := hI1
  refine ew_lineUp hI10 (fun w2 hL => ⟨rfl, ?_⟩)
  have hR2 := row_of hI10 hL
  obtain ⟨l1, l2, l3, l4⟩ := hL
  have h82 : w2 22 8 = nI H := (l1 22 8 (by omega) (by omega) (by omega)).trans h8
  refine ew_findLimit hR2 hH1 hH h82 (fun lim hlim hleast => ⟨rfl, ?_⟩)
  have hm := cnt_le u 150
  have e7 : (7 * nI H : Int32) = nI (7 * H) := by rw [show (7 : Int32) = nI 7 from rfl, pk_mul]
  -- from here on: only 28 (but its first) and 29 change
  have g := up_loop (fun k => ∀ w' o3, (∀ c j, ¬ (c = 28 ∧ j ≠ 0) → c ≠ 29 → w' c j = wr w2 22 10 (nI lim) c j) → (∀ j, j ≤ k → w' 28 j = nI (st (fun i => V (rf u 150 i)) (cnt u 150) lim j)) → (∀ q, q < 150 → ¬ u q = true → w' 29 (q + 1) = -1) → (∀ s, s < k → ∀ i, st (fun i => V (rf u 150 i)) (cnt u 150) lim s ≤ i → i < st (fun i => V (rf u 150 i)) (cnt u 150) lim (s + 1) → w' 29 (rf u 150 i + 1) = nI s) → Gw zs 4 m_Psa_deal 25 [some (.inr (.inl (some 22))), some (.inl (nI (st (fun i => V (rf u 150 i)) (cnt u 150) lim k))), some (.inl (nI k)), o3] [] w' Q) 0 (7 * H) (by omega) ?_ ?_
  · refine g _ none (fun _ _ _ _ => rfl) (fun j hj => ?_) (fun q hq _ => ?_) (fun s hs => by omega)
    · have : j = 0 := by omega
      subst this
      rw [wr_nc (by omega), l1 28 0 (by omega) (by omega) (by omega), wr_nc (by omega)]
      exact hZ
    · rw [wr_nc (by omega)]; exact l4 q hq
  · intro w' o3 a b c d
    have x8 : w' 22 8 = nI H := by rw [a _ _ (by omega) (by omega), wr_nk (by omega)]; exact h82
    refine sg_Psa_deal_25 ?_
    rw [x8, e7]
    refine ⟨fun _ => h w' (fun c' k' hp => ?_) ⟨u, V, H, lim, ?_, ?_, ?_, hlim, hleast, ?_, b, c, d⟩, fun z => absurd (nI_le (Nat.le_refl _) (by omega)) z⟩
    · unfold PDl at hp
      rw [a _ _ (by omega) (by omega)]
      have z1 : wr w2 22 10 (nI lim) c' k' = w2 c' k' := by unfold wr; rw [if_neg (by omega)]
      rw [z1, l1 _ _ (by omega) (by omega) (by omega)]
      unfold wr; rw [if_neg (by omega)]
    · refine Inp_cg (w := wr w0 22 11 1) ?_ (fun k => ?_) (fun k => ?_) hI10
      · rw [x8, h8]
      · rw [a _ _ (by omega) (by omega), wr_nc (by omega)]; exact l1 _ _ (by omega) (by omega) (by omega)
      · rw [a _ _ (by omega) (by omega), wr_nc (by omega)]; exact l1 _ _ (by omega) (by omega) (by omega)
    · rw [a _ _ (by omega) (by omega), wr_nk (by omega), l1 _ _ (by omega) (by omega) (by omega), wr_eq]
    · refine ROW_cg (w := w2) ?_ (fun k => ?_) (fun k => ?_) hR2
      · rw [a _ _ (by omega) (by omega), wr_nk (by omega)]
      · rw [a _ _ (by omega) (by omega), wr_nc (by omega)]
      · rw [a _ _ (by omega) (by omega), wr_nc (by omega)]
    · rw [a _ _ (by omega) (by omega), wr_eq]
  · intro k _ hk ih w' o3 a b c d
    have x8 : w' 22 8 = nI H := by rw [a _ _ (by omega) (by omega), wr_nk (by omega)]; exact h82
    have x10 : w' 22 10 = nI lim := by rw [a _ _ (by omega) (by omega), wr_eq]
    have hR' : ROW w' (cnt u 150) (rf u 150) (fun i => V (rf u 150 i)) := by
      refine ROW_cg (w := w2) ?_ (fun k => ?_) (fun k => ?_) hR2
      · rw [a _ _ (by omega) (by omega), wr_nk (by omega)]
      · rw [a _ _ (by omega) (by omega), wr_nc (by omega)]
      · rw [a _ _ (by omega) (by omega), wr_nc (by omega)]
    have sl := st_le (v := fun i => V (rf u 150 i)) (m := cnt u 150) (lim := lim) k
    have sl1 := st_le (v := fun i => V (rf u 150 i)) (m := cnt u 150) (lim := lim) (k + 1)
    have su := st_up (v := fun i => V (rf u 150 i)) (m := cnt u 150) (lim := lim) k
    refine sg_Psa_deal_25 ?_
    rw [x8, e7, x10]
    refine ⟨fun z => absurd z (nI_gle hk (by omega)), fun _ => ?_⟩
    refine ew_endOfHour hR' sl hlim ⟨_, rfl, ?_⟩
    show Ew zs 1 m_Psa_markSlot [.inr (.inl (some 22)), .inl (nI k), .inl (nI (st (fun i => V (rf u 150 i)) (cnt u 150) lim k)), .inl (nI (st (fun i => V (rf u 150 i)) (cnt u 150) lim (k + 1)))] (g_put w' 28 57 (nI k + 1) (nI (st (fun i => V (rf u 150 i)) (cnt u 150) lim (k + 1)))) _
    rw [nI_1, g_put_in (by omega) (by omega)]
    have hR'' : ROW (wr w' 28 (k + 1) (nI (st (fun i => V (rf u 150 i)) (cnt u 150) lim (k + 1)))) (cnt u 150) (rf u 150) (fun i => V (rf u 150 i)) := ROW_cg (wr_nc (by omega)) (fun k => wr_nc (by omega)) (fun k => wr_nc (by omega)) hR'
    refine ew_markSlot hR'' su sl1 (fun w5 p1 p2 p3 => ⟨rfl, ?_⟩)
    refine ih w5 _ (fun c' j q1 q2 => ?_) (fun j hj => ?_) (fun q hq hu => ?_) (fun s hs i h1 h2 => ?_)
    · have z1 : wr w' 28 (k + 1) (nI (st (fun i => V (rf u 150 i)) (cnt u 150) lim (k + 1))) c' j = w' c' j := by unfold wr; rw [if_neg (by omega)]
      rw [p1 _ _ q2, z1]
      exact a _ _ q1 q2
    · rw [p1 _ _ (by omega)]
      by_cases e : j = k + 1
      · subst e; rw [wr_eq]
      · rw [wr_nk e]; exact b j (by omega)
    · rw [p3 _ (fun i y1 y2 => ?_), wr_nc (by omega)]
      · exact c q hq hu
      · intro y3
        have y4 := (rf_of (u := u) (n := 150) (i := i) (by omega)).1
        rw [show rf u 150 i = q by omega] at y4
        exact hu y4
    · by_cases e : s = k
      · subst e
        exact p2 i h1 h2
      · have hsk : s + 1 ≤ k := by omega
        have mono := st_mono (v := fun i => V (rf u 150 i)) (m := cnt u 150) (lim := lim) hsk
        rw [p3 _ (fun i' y1 y2 => ?_), wr_nc (by omega)]
        · exact d s (by omega) i h1 h2
        · intro y3
          have z1 := (rf_of (u := u) (n := 150) (i := i) (by omega)).2.2
          have z2 := (rf_of (u := u) (n := 150) (i := i') (by omega)).2.2
          rw [show rf u 150 i = rf u 150 i' by omega, z2] at z1
          omega
