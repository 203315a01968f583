/-! What is sung at an hour, as the plain program lists it -/
def SG (w' w : Wd) (n : Nat) (L : Nat → Nat) : Prop := (∀ c k, c ≠ 188 → ¬ (c = 155 ∧ k = 42) → w' c k = w c k) ∧ w' 155 42 = nI n ∧ ∀ j, j < n → w' 188 j = nI (L j)
def gF (w : Wd) (y : Nat) (q : Nat) : Bool := decide (w 182 q = nI y)
theorem ew_mput {zs : List Int32} {w w' : Wd} {n p : Nat} {L : Nat → Nat} {Q : Option AV → Wd → Prop} (hS : SG w' w n L) (hn : n < 310) (hp : L n = p) (h : ∀ w2, SG w2 w (n + 1) L → Q none w2) : Ew zs 0 m_Md_adds [.inr (.inl (some 155)), .inl (nI p)] w' Q := by
  obtain ⟨a, b, c⟩ := hS
  refine ew_of k_Md_adds rfl (sg_Md_adds_0 ?_)
  rw [b, nI_clampN (by omega), nI_1]
  refine ⟨vinN hn (by omega), h _ ⟨fun c' k' h1 h2 => ?_, by rw [wr_eq], fun j hj => ?_⟩⟩
  · have z : wr (wr w' 188 n (nI p)) 155 42 (nI (n + 1)) c' k' = w' c' k' := by unfold wr; rw [if_neg h2, if_neg (by omega)]
    rw [z]; exact a c' k' h1 h2
  · rw [wr_nc (by omega)]
    by_cases e : j = n
    · subst e; rw [wr_eq, hp]
    · rw [wr_nk e]; exact c j (by omega)
theorem ew_singF {zs : List Int32} {w w' : Wd} {k y : Nat} {L : Nat → Nat} {o1 o4 o5 : Option AV} {Q : Option AV → Wd → Prop} (hS : SG w' w k L) (hk : k ≤ 150) (hL : ∀ j, j < cnt (gF w y) 150 → L (k + j) = rf (gF w y) 150 j + 1) (h : ∀ w2, SG w2 w (k + cnt (gF w y) 150) L → Q none w2) : Gw zs 1 m_Md_sings 134 [some (.inr (.inl (some 155))), o1, some (.inl (nI y)), some (.inl 0), o4, o5] [] w' Q := by
  have g := up_loop (fun q => ∀ w', SG w' w (k + cnt (gF w y) q) L → Gw zs 1 m_Md_sings 134 [some (.inr (.inl (some 155))), o1, some (.inl (nI y)), some (.inl (nI q)), o4, o5] [] w' Q) 0 150 (by omega) ?_ ?_
  · exact g w' hS
  · intro w2 h2
    exact sg_Md_sings_134 ⟨fun _ => h w2 h2, fun c => absurd (nI_le (a := 150) (b := 150) (by omega) (by omega)) c⟩
  · intro q _ hq ih w2 h2
    have hc := cnt_le (gF w y) q
    refine sg_Md_sings_134 ⟨fun c => absurd c (nI_gle (a := 150) (b := q) (by omega) (by omega)), fun _ => ⟨vinN (by omega) (by omega), ?_⟩⟩
    rw [nI_clampN (by omega), h2.1 182 q (by omega) (by omega), nI_1]
    refine ⟨fun c => ?_, fun c => ?_⟩
    · have hu : gF w y q = true := by unfold gF; exact decide_eq_true c
      have e1 : cnt (gF w y) (q + 1) = cnt (gF w y) q + 1 := by simp only [cnt, hu, if_true]
      refine ew_mput (p := q + 1) h2 (by omega) ?_ (fun w3 h3 => ⟨rfl, ih w3 ?_⟩)
      · rw [hL _ (cnt_lt hq hu), rf_cnt hq hu]
      · rw [e1]; exact h3
    · have hu : ¬ gF w y q = true := fun z => c (of_decide_eq_true z)
      have e1 : cnt (gF w y) (q + 1) = cnt (gF w y) q := by simp only [cnt]; rw [if_neg hu]; omega
      exact ih w2 (by rw [e1]; exact h2)
theorem ew_singA {zs : List Int32} {w w' : Wd} {y c : Nat} {L : Nat → Nat} {o1 o4 o5 : Option AV} {Q : Option AV → Wd → Prop} (hS : SG w' w 0 L) (hy : y < 8) (hc : c ≤ 6) (h183 : w 183 y = nI c) (hA : ∀ j, j < c → w 184 (6 * y + j) = nI (L j)) (hL : ∀ j, j < cnt (gF w y) 150 → L (c + j) = rf (gF w y) 150 j + 1) (h : ∀ w2, SG w2 w (c + cnt (gF w y) 150) L → Q none w2) : Gw zs 1 m_Md_sings 29 [some (.inr (.inl (some 155))), o1, some (.inl (nI y)), some (.inl 0), o4, o5] [] w' Q := by
  have g := up_loop (fun i => ∀ w', SG w' w i L → Gw zs 1 m_Md_sings 29 [some (.inr (.inl (some 155))), o1, some (.inl (nI y)), some (.inl (nI i)), o4, o5] [] w' Q) 0 c (by omega) ?_ ?_
  · exact g w' hS
  · intro w2 h2
    refine sg_Md_sings_29 ⟨vinN hy (by omega), ?_⟩
    rw [nI_clampN (by omega), h2.1 183 y (by omega) (by omega), h183]
    exact ⟨fun _ => ew_singF h2 (by omega) hL h, fun z => absurd (nI_le (Nat.le_refl _) (by omega)) z⟩
  · intro i _ hi ih w2 h2
    have e6 : (6 * nI y + nI i : Int32) = nI (6 * y + i) := by rw [show (6 : Int32) = nI 6 from rfl, pk_mul, nI_add]
    refine sg_Md_sings_29 ⟨vinN hy (by omega), ?_⟩
    rw [nI_clampN (by omega), h2.1 183 y (by omega) (by omega), h183, e6, nI_clampN (by omega), h2.1 184 _ (by omega) (by omega), hA i hi, nI_1]
    refine ⟨fun z => absurd z (nI_gle hi (by omega)), fun _ => ⟨vinN (by omega) (by omega), ew_mput h2 (by omega) rfl (fun w3 h3 => ⟨rfl, ih w3 h3⟩)⟩⟩
theorem ew_singD {zs : List Int32} {w w' : Wd} {u : Nat → Bool} {V : Nat → Nat} {H y f e : Nat} {L : Nat → Nat} {o1 o3 : Option AV} {Q : Option AV → Wd → Prop} (hI : InM w u V H) (hS : SG w' w 0 L) (hfe : f ≤ e) (he : e ≤ cnt u 150) (hA : ∀ j, j < e - f → L j = rf u 150 (f + j) + 1) (hL : ∀ j, j < cnt (gF w y) 150 → L (e - f + j) = rf (gF w y) 150 j + 1) (h : ∀ w2, SG w2 w (e - f + cnt (gF w y) 150) L → Q none w2) : Gw zs 1 m_Md_sings 96 [some (.inr (.inl (some 155))), o1, some (.inl (nI y)), o3, some (.inl (nI (e - f))), some (.inl (if f < e then nI (rf u 150 f + 1) else -1))] [] w' Q := by
  have hm := cnt_le u 150
  rcases Nat.lt_or_ge f e with hlt | hge
  · rw [if_pos hlt]
    obtain ⟨r1, r2, r3⟩ := rf_of (u := u) (n := 150) (i := f) (by omega)
    have g := up_loop (fun q => ∀ w', f ≤ cnt u q → cnt u q ≤ e → SG w' w (cnt u q - f) L → Gw zs 1 m_Md_sings 96 [some (.inr (.inl (some 155))), o1, some (.inl (nI y)), o3, some (.inl (nI (e - cnt u q))), some (.inl (nI (q + 1)))] [] w' Q) (rf u 150 f) 150 (by omega) ?_ ?_
    · have g1 := g w' (by omega) (by omega) (by rw [r3, Nat.sub_self]; exact hS)
      rw [r3] at g1
      exact g1
    · intro w2 h1 h2 h3
      have e0 : cnt u 150 = e := by omega
      rw [e0] at h3 ⊢
      rw [Nat.sub_self]
      exact sg_Md_sings_96 ⟨fun _ => ew_singF h3 (by omega) hL h, fun z => absurd (nI_le (a := 0) (b := 0) (by omega) (by omega)) z⟩
    · intro q hq1 hq2 ih w2 h1 h2 h3
      rcases Nat.lt_or_ge (cnt u q) e with c | c
      · refine sg_Md_sings_96 ⟨fun z => absurd z (nI_nle (by omega) (by omega)), fun _ => ?_⟩
        rw [show (nI (q + 1) - 1 : Int32) = nI q from pk_sub (a := q + 1) (b := 1) (by omega), nI_clampN (by omega), h3.1 182 q (by omega) (by omega), nI_1]
        refine ⟨vinN (by omega) (by omega), fun z => ?_, fun z => ?_⟩
        · have hu := (hI.2.2.2 q hq2).1.mpr z
          have e1 : cnt u (q + 1) = cnt u q + 1 := by simp only [cnt, hu, if_true]
          have eL : (nI (e - cnt u q) + -1 : Int32) = nI (e - cnt u (q + 1)) := by
            rw [show (nI (e - cnt u q) + -1 : Int32) = nI (e - cnt u q) - nI 1 from (Int32.sub_eq_add_neg _ _).symm, pk_sub (by omega), e1]
            congr 1
          refine ew_mput (p := q + 1) h3 (by omega) ?_ (fun w3 h4 => ⟨rfl, ?_⟩)
          · rw [hA _ (by omega), show f + (cnt u q - f) = cnt u q by omega, rf_cnt hq2 hu]
          · rw [eL]
            refine ih w3 (by omega) (by omega) ?_
            rw [e1, show cnt u q + 1 - f = cnt u q - f + 1 by omega]
            exact h4
        · have hu : ¬ u q = true := fun x => z ((hI.2.2.2 q hq2).1.mp x)
          have e1 : cnt u (q + 1) = cnt u q := by simp only [cnt]; rw [if_neg hu]; omega
          have g2 := ih w2 (by omega) (by omega) (by rw [e1]; exact h3)
          rw [e1] at g2
          exact g2
      · have e0 : cnt u q = e := by omega
        rw [e0] at h3 ⊢
        rw [Nat.sub_self]
        exact sg_Md_sings_96 ⟨fun _ => ew_singF h3 (by omega) hL h, fun z => absurd (nI_le (a := 0) (b := 0) (by omega) (by omega)) z⟩
  · have e0 : f = e := by omega
    subst e0
    rw [if_neg (by omega)]
    rw [Nat.sub_self] at hL h ⊢
    exact sg_Md_sings_96 ⟨fun _ => ew_singF hS (by omega) hL h, fun z => absurd (nI_le (a := 0) (b := 0) (by omega) (by omega)) z⟩
/-- an hour's list: on a feast with psalms of its own -/
theorem ew_sings_f {zs : List Int32} {w : Wd} {d y c : Nat} {L : Nat → Nat} {Q : Option AV → Wd → Prop} (hd : d < 366) (hy : y < 8) (hR : ¬ w 173 d < w 155 37) (hc0 : 1 ≤ c) (hc : c ≤ 6) (h183 : w 183 y = nI c) (hA : ∀ j, j < c → w 184 (6 * y + j) = nI (L j)) (hL : ∀ j, j < cnt (gF w y) 150 → L (c + j) = rf (gF w y) 150 j + 1) (h : ∀ w2, SG w2 w (c + cnt (gF w y) 150) L → Q none w2) : Ew zs 1 m_Md_sings [.inr (.inl (some 155)), .inl (nI d), .inl (nI y)] w Q := by
  refine ew_of k_Md_sings rfl (sg_Md_sings_0 ⟨vinN hd (by omega), ?_⟩)
  rw [nI_clampN (n := d) (by omega), nI_clampN (n := y) (by omega), h183]
  refine ⟨fun z => absurd z hR, fun _ => ⟨vinN hy (by omega), fun z => absurd z (nI_nle (by omega) (by omega)), fun _ => ?_⟩⟩
  refine ew_singA ⟨fun c' k' h1 h2 => ?_, by rw [wr_eq]; rfl, fun j hj => absurd hj (by omega)⟩ hy hc h183 hA hL h
  unfold wr; rw [if_neg h2]
/-- an hour's list, else: the psalms that were dealt to it -/
theorem ew_sings_d {zs : List Int32} {w : Wd} {u : Nat → Bool} {V : Nat → Nat} {H d x y lim : Nat} {L : Nat → Nat} {Q : Option AV → Wd → Prop} (hI : InM w u V H) (hFB : FB w (fun i => V (rf u 150 i)) (rf u 150) (st (fun i => V (rf u 150 i)) (cnt u 150) lim) (7 * H)) (hd : d < 366) (hx : x < 7) (hy : y < H)
    (hw : (w 155 29 + nI d - (w 155 29 + nI d) / 7 * 7 : Int32) = nI x) (hR : w 173 d < w 155 37 ∨ w 183 y ≤ 0)
    (hA : ∀ j, j < st (fun i => V (rf u 150 i)) (cnt u 150) lim (x * H + y + 1) - st (fun i => V (rf u 150 i)) (cnt u 150) lim (x * H + y) → L j = rf u 150 (st (fun i => V (rf u 150 i)) (cnt u 150) lim (x * H + y) + j) + 1)
    (hL : ∀ j, j < cnt (gF w y) 150 → L (st (fun i => V (rf u 150 i)) (cnt u 150) lim (x * H + y + 1) - st (fun i => V (rf u 150 i)) (cnt u 150) lim (x * H + y) + j) = rf (gF w y) 150 j + 1)
    (h : ∀ w2, SG w2 w (st (fun i => V (rf u 150 i)) (cnt u 150) lim (x * H + y + 1) - st (fun i => V (rf u 150 i)) (cnt u 150) lim (x * H + y) + cnt (gF w y) 150) L → Q none w2) : Ew zs 1 m_Md_sings [.inr (.inl (some 155)), .inl (nI d), .inl (nI y)] w Q := by
  have hH := hI.2.1
  have hs : x * H + y < 7 * H := by
    have : x * H ≤ 6 * H := Nat.mul_le_mul_right H (by omega)
    omega
  have es : (nI H * nI x + nI y : Int32) = nI (x * H + y) := by rw [pk_mul, nI_add, Nat.mul_comm]
  obtain ⟨f1, f2, f3, f4⟩ := hFB (x * H + y) hs
  have vs := vinN (i := x * H + y) (n := 56) (by omega) (by omega)
  have go : Gw zs 1 m_Md_sings 96 [some (.inr (.inl (some 155))), some (.inl (nI d)), some (.inl (nI y)), some (.inl (nI (x * H + y))), some (.inl (w 186 (x * H + y))), some (.inl (w 185 (x * H + y)))] [] (wr w 155 42 0) Q := by
    rw [f2, f4]
    refine ew_singD hI ⟨fun c' k' h1 h2 => ?_, by rw [wr_eq]; rfl, fun j hj => absurd hj (by omega)⟩ f1 (st_le _) hA hL h
    unfold wr; rw [if_neg h2]
  refine ew_of k_Md_sings rfl (sg_Md_sings_0 ⟨vinN hd (by omega), ?_⟩)
  rw [nI_clampN (n := d) (by omega), nI_clampN (n := y) (by omega), hw, hI.2.2.1, es, nI_clampN (n := x * H + y) (by omega)]
  refine ⟨fun _ => ⟨vs, vs, go⟩, fun z => ⟨vinN (by omega) (by omega), fun _ => ⟨vs, vs, go⟩, fun z2 => ?_⟩⟩
  rcases hR with q | q
  · exact absurd q z
  · exact absurd q z2
