/-! How often a psalm is sung on a day, as the plain program counts it -/
def OS (w' w : Wd) : Prop := ∀ c k, c ≠ 188 → ¬ (c = 155 ∧ k = 42) → w' c k = w c k
theorem FB_cg {w w' : Wd} {v r B : Nat → Nat} {N : Nat} (e1 : ∀ k, w' 185 k = w 185 k) (e2 : ∀ k, w' 186 k = w 186 k) (e3 : ∀ k, w' 187 k = w 187 k) (h : FB w v r B N) : FB w' v r B N := by
  intro s hs
  rw [e1, e2, e3]; exact h s hs
theorem Sp_bound {w : Wd} {u : Nat → Bool} {V : Nat → Nat} {H lim x y k : Nat} {R : Int32} {L : Nat → Nat} (hS : Sp w u V H lim x y R k L) : ∀ j, j < k + cnt (gF w y) 150 → L j < 1000 := by
  intro j hj
  obtain ⟨a, b⟩ := hS
  by_cases c : j < k
  · rcases a with ⟨a1, a2, a3, a4, a5⟩ | ⟨a1, a2, a3⟩
    · exact (a5 j c).1
    · have sl := st_le (v := fun i => V (rf u 150 i)) (m := cnt u 150) (lim := lim) (x * H + y + 1)
      have := (rf_of (u := u) (n := 150) (i := st (fun i => V (rf u 150 i)) (cnt u 150) lim (x * H + y) + j) (by omega)).2.1
      rw [a3 j c]; omega
  · have := (rf_of (u := gF w y) (n := 150) (i := j - k) (by omega)).2.1
    have e := b (j - k) (by omega)
    rw [show k + (j - k) = j by omega] at e
    rw [e]; omega
theorem tDF_cg {w w' : Wd} {u : Nat → Bool} {V : Nat → Nat} {H lim x p y : Nat} {R : Int32} (e : OS w' w) : tD w' u V H lim x p R y + tF w' p y = tD w u V H lim x p R y + tF w p y := by
  have e1 : w' 155 37 = w 155 37 := e _ _ (by omega) (by omega)
  have e2 : w' 183 = w 183 := funext fun k => e _ _ (by omega) (by omega)
  have e3 : w' 184 = w 184 := funext fun k => e _ _ (by omega) (by omega)
  have e4 : w' 182 = w 182 := funext fun k => e _ _ (by omega) (by omega)
  unfold tD tF
  rw [e1, e2, e3, e4]
theorem rtimes_day {zs : List Int32} {w : Wd} {u : Nat → Bool} {V : Nat → Nat} {H d x p lim T0 : Nat} {x3 : Int32} {o1 o2 : Option AV} {Q : Option AV → Wd → Prop} (hR : RP w) (hI : InM w u V H) (hFB : FB w (fun i => V (rf u 150 i)) (rf u 150) (st (fun i => V (rf u 150 i)) (cnt u 150) lim) (7 * H)) (hd : d < 366) (hx : x < 7) (hp : 1 ≤ p) (hp2 : p ≤ 150) (hw : (w 155 29 + nI d - (w 155 29 + nI d) / 7 * 7 : Int32) = nI x)
    (h : ∀ w' o7 o8, OS w' w → Gw zs 6 m_Md_times 50 [some (.inr (.inl (some 155))), o1, o2, some (.inl x3), some (.inl (nI p)), some (.inl (nI (T0 + dayT w u V H lim x p (w 173 d)))), some (.inl (nI (d + 1))), o7, o8] [] w' Q) :
    ∀ w' o8, OS w' w → Gw zs 6 m_Md_times 59 [some (.inr (.inl (some 155))), o1, o2, some (.inl x3), some (.inl (nI p)), some (.inl (nI T0)), some (.inl (nI d)), some (.inl 0), o8] [] w' Q := by
  have hH := hI.2.1
  have g := up_loop (fun y => ∀ w' o8, OS w' w → Gw zs 6 m_Md_times 59 [some (.inr (.inl (some 155))), o1, o2, some (.inl x3), some (.inl (nI p)), some (.inl (nI (T0 + sumH (fun y => tD w u V H lim x p (w 173 d) y + tF w p y) y))), some (.inl (nI d)), some (.inl (nI y)), o8] [] w' Q) 0 H (by omega) ?_ ?_
  · exact g
  · intro w' o8 hw'
    refine sg_Md_times_59 ?_
    rw [hw' 155 36 (by omega) (by omega), hI.2.2.1, nI_1]
    exact ⟨fun _ => h w' _ _ hw', fun z => absurd (nI_le (Nat.le_refl _) (by omega)) z⟩
  · intro y _ hy ih w' o8 hw'
    have hR' : RP w' := RP_cg2 (fun c k hp => hw' c k (by unfold PR2 at hp; omega) (by unfold PR2 at hp; omega)) hR
    have hI' : InM w' u V H := InM_cg (hw' _ _ (by omega) (by omega)) (fun k => hw' _ _ (by omega) (by omega)) (fun k => hw' _ _ (by omega) (by omega)) hI
    have hFB' := FB_cg (w' := w') (fun k => hw' _ _ (by omega) (by omega)) (fun k => hw' _ _ (by omega) (by omega)) (fun k => hw' _ _ (by omega) (by omega)) hFB
    have e173 : w' 173 d = w 173 d := hw' _ _ (by omega) (by omega)
    have e29 : w' 155 29 = w 155 29 := hw' _ _ (by omega) (by omega)
    obtain ⟨k, L, hk, hS⟩ := Sp_ex (w := w') (u := u) (V := V) (H := H) (lim := lim) (x := x) (y := y) (R := w' 173 d) hR' (by omega)
    have hb := Sp_bound hS
    have hcnt := cnt_le (gF w' y) 150
    refine sg_Md_times_59 ?_
    rw [hw' 155 36 (by omega) (by omega), hI.2.2.1]
    refine ⟨fun z => absurd z (nI_gle hy (by omega)), fun _ => ?_⟩
    refine ew_sings hI' hFB' hd hx hy (by rw [e29]; exact hw) hS (fun w2 hSG => ⟨rfl, ?_⟩)
    have hw2 : OS w2 w := fun c k' a b => (hSG.1 c k' a b).trans (hw' c k' a b)
    have eo : occ L p (k + cnt (gF w' y) 150) = tD w u V H lim x p (w 173 d) y + tF w p y := by
      rw [occ_Sp hS hp hp2, e173]
      exact tDF_cg hw'
    have g2 := up_loop (fun j => Gw zs 6 m_Md_times 79 [some (.inr (.inl (some 155))), o1, o2, some (.inl x3), some (.inl (nI p)), some (.inl (nI (T0 + sumH (fun y => tD w u V H lim x p (w 173 d) y + tF w p y) y + occ L p j))), some (.inl (nI d)), some (.inl (nI y)), some (.inl (nI j))] [] w2 Q) 0 (k + cnt (gF w' y) 150) (by omega) ?_ ?_
    · exact g2
    · refine sg_Md_times_79 ?_
      rw [hSG.2.1, nI_1]
      refine ⟨fun _ => ?_, fun z => absurd (nI_le (Nat.le_refl _) (by omega)) z⟩
      have g3 := ih w2 (some (.inl (nI (k + cnt (gF w' y) 150)))) hw2
      rw [eo, Nat.add_assoc]
      exact g3
    · intro j _ hj ih2
      have bj := hb j hj
      refine sg_Md_times_79 ?_
      rw [hSG.2.1, nI_clampN (by omega), hSG.2.2 j hj, nI_1 (a := j), nI_1 (a := T0 + sumH (fun y => tD w u V H lim x p (w 173 d) y + tF w p y) y + occ L p j)]
      refine ⟨fun z => absurd z (nI_gle hj (by omega)), fun _ => ⟨vinN (by omega) (by omega), fun z => ?_, fun z => ?_⟩⟩
      · have e := (nI_eq (by omega) (by omega)).mp z
        have o : occ L p (j + 1) = occ L p j + 1 := by simp only [occ]; rw [if_pos e]
        rw [o] at ih2; exact ih2
      · have e : ¬ L j = p := fun q => z (by rw [q])
        have o : occ L p (j + 1) = occ L p j := by simp only [occ]; rw [if_neg e]; omega
        rw [o] at ih2
        rw [Int32.add_zero]
        exact ih2
