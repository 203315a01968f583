/-! What meets on a day: the whole list -/
def FD : Type := Option Nat × (Nat × (Nat × Bool))
def FD.own (x : FD) : Option Nat := x.1
def FD.rk (x : FD) : Nat := x.2.1
def FD.oc (x : FD) : Nat := x.2.2.1
def FD.vg (x : FD) : Bool := x.2.2.2
def FDok (w : Wd) (nF : Nat) (F : Nat → FD) : Prop := ∀ f, f < nF → (match (F f).own with | none => w 169 f = -1 | some o => o < 366 ∧ w 169 f = nI o) ∧ w 164 f = nI (F f).rk ∧ w 167 f = nI (F f).oc ∧ (F f).oc ≤ 8 ∧ (F f).rk ≤ 9 ∧ (w 168 f = 0 ↔ ¬ (F f).vg = true)
def KD (f0 : Nat) (F : Nat → FD) (d f : Nat) : Nat := match (F f).own with | none => 0 | some o => kdO f0 o (F f).oc (F f).vg d
def RK (F : Nat → FD) (f0 d f : Nat) : Nat := match (F f).own with | none => 0 | some o => rkO o (F f).rk (F f).oc d (KD f0 F d f)
def uF (f0 : Nat) (F : Nat → FD) (d : Nat) (f : Nat) : Bool := decide (KD f0 F d f ≠ 0)
def GA (w' w : Wd) (f0 nF : Nat) (F : Nat → FD) (d wr0 : Nat) (co : Int32) (f : Nat) : Prop := OM w' w ∧ w' 155 22 = nI (1 + cnt (uF f0 F d) f) ∧ Ent w' 0 (wkK ((f0 + d) % 7)) wr0 0 co (wkW ((f0 + d) % 7) wr0) ∧ ∀ g, g < f → KD f0 F d g ≠ 0 → Ent w' (1 + cnt (uF f0 F d) g) (KD f0 F d g) (RK F f0 d g) g (w 165 g) (wyO (w 166 g) (KD f0 F d g))
theorem Ent_cg {w w' : Wd} {x k r g : Nat} {co wy : Int32} (e : ∀ c, 175 ≤ c → c ≤ 179 → w' c x = w c x) (h : Ent w x k r g co wy) : Ent w' x k r g co wy := by
  obtain ⟨⟨a, b, c⟩, d, f⟩ := h
  exact ⟨⟨by rw [e _ (by omega) (by omega)]; exact a, by rw [e _ (by omega) (by omega)]; exact b, by rw [e _ (by omega) (by omega)]; exact c⟩, by rw [e _ (by omega) (by omega)]; exact d, by rw [e _ (by omega) (by omega)]; exact f⟩
theorem ew_gfeasts {zs : List Int32} {w : Wd} {f0 nF d wr0 : Nat} {F : Nat → FD} {co : Int32} {o1 o3 o4 o5 : Option AV} {Q : Option AV → Wd → Prop} (h1 : w 155 1 = nI nF) (hnF : nF ≤ 60) (h29 : w 155 29 = nI f0) (hf0 : f0 < 7) (hd : d < 366) (hF : FDok w nF F)
    (h : ∀ w', GA w' w f0 nF F d wr0 co nF → Q none w') : ∀ w' p7 p8, GA w' w f0 nF F d wr0 co 0 → Gw zs 4 m_Md_gather 152 [some (.inr (.inl (some 155))), o1, some (.inl (nI d)), o3, o4, o5, some (.inl 0), p7, p8] [] w' Q := by
  have g := up_loop (fun f => ∀ w' p7 p8, GA w' w f0 nF F d wr0 co f → Gw zs 4 m_Md_gather 152 [some (.inr (.inl (some 155))), o1, some (.inl (nI d)), o3, o4, o5, some (.inl (nI f)), p7, p8] [] w' Q) 0 nF (by omega) ?_ ?_
  · exact g
  · intro w' p7 p8 hG
    refine sg_Md_gather_152 ?_
    rw [hG.1 155 1 (by omega) (by omega), h1]
    exact ⟨fun _ => h w' hG, fun c => absurd (nI_le (Nat.le_refl _) (by omega)) c⟩
  · intro f _ hf ih w' p7 p8 hG
    obtain ⟨a1, a2, a3, a4⟩ := hG
    obtain ⟨f1, f2, f3, f4, f5, f6⟩ := hF f hf
    have hc := cnt_le (uF f0 F d) f
    have e165 : w' 165 f = w 165 f := a1 _ _ (by omega) (by omega)
    have e166 : w' 166 f = w 166 f := a1 _ _ (by omega) (by omega)
    have none0 : KD f0 F d f = 0 → GA w' w f0 nF F d wr0 co (f + 1) := by
      intro z
      have e1 : cnt (uF f0 F d) (f + 1) = cnt (uF f0 F d) f := by
        have : ¬ uF f0 F d f = true := fun y => (of_decide_eq_true y) z
        simp only [cnt]; rw [if_neg this]; omega
      refine ⟨a1, by rw [e1]; exact a2, a3, fun g hg hk => ?_⟩
      by_cases e : g = f
      · subst e; exact absurd z hk
      · exact a4 g (by omega) hk
    cases hown : (F f).own with
    | none =>
      rw [hown] at f1
      have z : KD f0 F d f = 0 := by unfold KD; rw [hown]
      refine sg_Md_gather_152 ?_
      rw [a1 155 1 (by omega) (by omega), h1, nI_clampN (by omega), a1 169 f (by omega) (by omega)]
      refine ⟨fun c => absurd c (nI_gle hf (by omega)), fun _ => ⟨vinN (by omega) (by omega), fun _ => ?_, fun c => absurd f1 c⟩⟩
      refine sg_Md_gather_345 ?_
      rw [nI_1]
      exact ih w' _ _ (none0 z)
    | some o =>
      rw [hown] at f1
      have ek : KD f0 F d f = kdO f0 o (F f).oc (F f).vg d := by unfold KD; rw [hown]
      have er : RK F f0 d f = rkO o (F f).rk (F f).oc d (KD f0 F d f) := by unfold RK; rw [hown]
      refine ew_gfeast (f0 := f0) (rk := (F f).rk) (oc := (F f).oc) (o := o) (vg := (F f).vg) (m := 1 + cnt (uF f0 F d) f) ((a1 155 1 (by omega) (by omega)).trans h1) hf hnF a2 (by omega) ((a1 155 29 (by omega) (by omega)).trans h29) hf0 hd f1.1 ((a1 169 f (by omega) (by omega)).trans f1.2) ((a1 164 f (by omega) (by omega)).trans f2) ((a1 167 f (by omega) (by omega)).trans f3) f4 (by rw [a1 168 f (by omega) (by omega)]; exact f6) (fun z q7 q8 => ih w' q7 q8 (none0 (by rw [ek]; exact z))) (fun k hk hk0 w2 q7 q8 b1 b2 b3 b4 => ?_)
      rw [← ek] at hk
      subst hk
      have hu : uF f0 F d f = true := decide_eq_true hk0
      have e1 : cnt (uF f0 F d) (f + 1) = cnt (uF f0 F d) f + 1 := by simp only [cnt, hu, if_true]
      refine ih w2 q7 q8 ⟨OM_trans b1 a1, by rw [e1]; exact b2, Ent_cg (fun c c1 c2 => b4 0 (by omega) c c1 c2) a3, fun g hg hk => ?_⟩
      by_cases e : g = f
      · subst e
        rw [er, ← e165, ← e166]; exact b3
      · have hlt : g < f := by omega
        have hug : uF f0 F d g = true := decide_eq_true hk
        have := cnt_lt (u := uF f0 F d) hlt hug
        exact Ent_cg (fun c c1 c2 => b4 _ (by omega) c c1 c2) (a4 g hlt hk)
theorem FDok_cg {w w' : Wd} {nF : Nat} {F : Nat → FD} (e1 : ∀ k, w' 169 k = w 169 k) (e2 : ∀ k, w' 164 k = w 164 k) (e3 : ∀ k, w' 167 k = w 167 k) (e4 : ∀ k, w' 168 k = w 168 k) (h : FDok w nF F) : FDok w' nF F := by
  intro f hf
  rw [e1, e2, e3, e4]
  exact h f hf
theorem ew_gather {zs : List Int32} {w : Wd} {i d n nF f0 r : Nat} {F : Nat → FD} {Q : Option AV → Wd → Prop} (hn : n ≤ 10) (hi : i < 300) (hd : d < 366) (h0 : w 155 0 = nI n) (h1 : w 155 1 = nI nF) (hnF : nF ≤ 60) (h28 : w 155 28 = f_Day_easter (nI (1900 + i))) (h29 : w 155 29 = nI f0) (hf0 : f0 < 7) (hr : r ≤ 9)
    (hs : ∀ k, k < n → w 2 k = w 156 k ∧ w 3 k = w 157 k ∧ w 4 k = w 158 k ∧ w 5 k = w 159 k ∧ w 6 k = w 160 k ∧ w 7 k = w 161 k ∧ Sok (w 156 k) (w 157 k) (w 158 k) (w 159 k) (w 160 k) (w 161 k)) (hF : FDok w nF F)
    (her : f_Sea_rankOf (wr w 155 22 0) (lastS (fun k => pIn (wr w 155 22 0) i k d) n) (nI ((f0 + d) % 7)) = nI r)
    (h : ∀ w', GA w' (wr w 155 22 0) f0 nF F d r (f_Sea_colourOf (wr w 155 22 0) (lastS (fun k => pIn (wr w 155 22 0) i k d) n)) nF → Q none w') : Ew zs 4 m_Md_gather [.inr (.inl (some 155)), .inl (nI (1900 + i)), .inl (nI d)] w Q := by
  refine ew_of k_Md_gather rfl (sg_Md_gather_0 ?_)
  have c0 : ∀ c k, c ≠ 155 → wr w 155 22 0 c k = w c k := fun c k hc => wr_nc hc
  have hs' : ∀ k, k < n → wr w 155 22 0 2 k = wr w 155 22 0 156 k ∧ wr w 155 22 0 3 k = wr w 155 22 0 157 k ∧ wr w 155 22 0 4 k = wr w 155 22 0 158 k ∧ wr w 155 22 0 5 k = wr w 155 22 0 159 k ∧ wr w 155 22 0 6 k = wr w 155 22 0 160 k ∧ wr w 155 22 0 7 k = wr w 155 22 0 161 k ∧ Sok (wr w 155 22 0 156 k) (wr w 155 22 0 157 k) (wr w 155 22 0 158 k) (wr w 155 22 0 159 k) (wr w 155 22 0 160 k) (wr w 155 22 0 161 k) := by
    intro k hk
    rw [c0 2 k (by omega), c0 3 k (by omega), c0 4 k (by omega), c0 5 k (by omega), c0 6 k (by omega), c0 7 k (by omega), c0 156 k (by omega), c0 157 k (by omega), c0 158 k (by omega), c0 159 k (by omega), c0 160 k (by omega), c0 161 k (by omega)]
    exact hs k hk
  have hS : lastS (fun k => pIn (wr w 155 22 0) i k d) n = -1 ∨ ∃ k, k < n ∧ lastS (fun k => pIn (wr w 155 22 0) i k d) n = nI k := by
    rcases lastS_c (fun k => pIn (wr w 155 22 0) i k d) n with q | ⟨k, a, _, b⟩
    · exact Or.inl q
    · exact Or.inr ⟨k, a, b⟩
  refine ew_gseason (f0 := f0) hn hi hd (by rw [wr_nk (by omega)]; exact h0) (by rw [wr_nk (by omega)]; exact h28) (by rw [wr_nk (by omega)]; exact h29) hf0 hs' ?_
  refine ew_gweek (wd := (f0 + d) % 7) hn (by omega) hr hs' hS (by rw [wr_eq]; rfl) her (fun w' p3 p4 p5 p7 p8 a b c => ?_)
  exact ew_gfeasts (by rw [wr_nk (by omega)]; exact h1) hnF (by rw [wr_nk (by omega)]; exact h29) hf0 hd (FDok_cg (fun k => c0 _ _ (by omega)) (fun k => c0 _ _ (by omega)) (fun k => c0 _ _ (by omega)) (fun k => c0 _ _ (by omega)) hF) h w' p7 p8 ⟨a, b, c, fun g hg => by omega⟩
