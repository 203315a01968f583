/-! What meets on a day: a feast's own day, its octave, its eve -/
def kdO (f0 o oc : Nat) (vg : Bool) (d : Nat) : Nat := if o = d then 2 else if 0 < oc ∧ o < d ∧ d ≤ o + 7 then 3 else if vg = true ∧ 1 ≤ o ∧ ((¬ (f0 + (o - 1)) % 7 = 0 ∧ d + 1 = o) ∨ ((f0 + (o - 1)) % 7 = 0 ∧ d + 2 = o)) then 4 else 0
def rkO (o rk oc d k : Nat) : Nat := if k = 2 then rk else if k = 3 then (if d = o + 7 then oc + 1 else oc) else 2
def wyO (way : Int32) (k : Nat) : Int32 := if k = 2 then way else if k = 3 then 1 else 0
theorem ew_gfeast {zs : List Int32} {w : Wd} {f nF m d f0 rk oc o : Nat} {vg : Bool} {o1 o3 o4 o5 o7 o8 : Option AV} {Q : Option AV → Wd → Prop} (h1 : w 155 1 = nI nF) (hf : f < nF) (hnF : nF ≤ 60) (h22 : w 155 22 = nI m) (hm : m < 200) (h29 : w 155 29 = nI f0) (hf0 : f0 < 7) (hd : d < 366) (ho : o < 366) (h169 : w 169 f = nI o)
    (h164 : w 164 f = nI rk) (h167 : w 167 f = nI oc) (hoc : oc ≤ 8) (hvg : w 168 f = 0 ↔ ¬ vg = true)
    (hno : kdO f0 o oc vg d = 0 → ∀ p7 p8, Gw zs 4 m_Md_gather 152 [some (.inr (.inl (some 155))), o1, some (.inl (nI d)), o3, o4, o5, some (.inl (nI (f + 1))), p7, p8] [] w Q)
    (hyes : ∀ k, kdO f0 o oc vg d = k → k ≠ 0 → ∀ w' p7 p8, OM w' w → w' 155 22 = nI (m + 1) → Ent w' m k (rkO o rk oc d k) f (w 165 f) (wyO (w 166 f) k) → (∀ x, x < m → ∀ c, 175 ≤ c → c ≤ 179 → w' c x = w c x) → Gw zs 4 m_Md_gather 152 [some (.inr (.inl (some 155))), o1, some (.inl (nI d)), o3, o4, o5, some (.inl (nI (f + 1))), p7, p8] [] w' Q) :
    Gw zs 4 m_Md_gather 152 [some (.inr (.inl (some 155))), o1, some (.inl (nI d)), o3, o4, o5, some (.inl (nI f)), o7, o8] [] w Q := by
  have v := vinN (i := f) (n := 60) (by omega) (by omega)
  -- the eve, in a world that has what w has outside the list
  have eve : ∀ w', OM w' w → ∀ p7 p8, (¬ kdO f0 o oc vg d = 4 → ∀ p7 p8, Gw zs 4 m_Md_gather 152 [some (.inr (.inl (some 155))), o1, some (.inl (nI d)), o3, o4, o5, some (.inl (nI (f + 1))), p7, p8] [] w' Q) → (kdO f0 o oc vg d = 4 → w' = w) → (kdO f0 o oc vg d = 2 ∨ kdO f0 o oc vg d = 3 → d ≥ o) → Gw zs 4 m_Md_gather 281 [some (.inr (.inl (some 155))), o1, some (.inl (nI d)), o3, o4, o5, some (.inl (nI f)), p7, p8] [] w' Q := by
    intro w' hO p7 p8 no4 is4 hge
    have e169 : w' 169 f = nI o := (hO _ _ (by omega) (by omega)).trans h169
    have e29 : w' 155 29 = nI f0 := (hO _ _ (by omega) (by omega)).trans h29
    have e168 : w' 168 f = w 168 f := hO _ _ (by omega) (by omega)
    have e165 : w' 165 f = w 165 f := hO _ _ (by omega) (by omega)
    -- at 313 with the eve told
    have fin : ∀ (e : Int32) p7, (vg = true → e = nI d → kdO f0 o oc vg d = 4) → (kdO f0 o oc vg d = 4 → e = nI d) → Gw zs 4 m_Md_gather 313 [some (.inr (.inl (some 155))), o1, some (.inl (nI d)), o3, o4, o5, some (.inl (nI f)), p7, some (.inl e)] [] w' Q := by
      intro e p7 k1 k2
      refine sg_Md_gather_313 ?_
      rw [nI_clampN (by omega), e168, e165]
      refine ⟨v, fun c => ?_, fun c => ⟨fun c2 => ?_, fun c2 => ?_⟩⟩
      · refine sg_Md_gather_345 ?_
        rw [nI_1]
        refine no4 (fun z => ?_) _ _
        have : vg = true := by
          unfold kdO at z
          split at z
          · omega
          · split at z
            · omega
            · split at z
              · rename_i y; exact y.1
              · omega
        exact hvg.mp c this
      · have hv : vg = true := by
          by_cases y : vg = true
          · exact y
          · exact absurd (hvg.mpr y) c
        have k4 := k1 hv c2
        have ew := is4 k4
        subst ew
        have g := ew_meets (zs := zs) (w := w') (n := m) (k := 4) (r := 2) (g := f) (co := w' 165 f) (wy := 0) (Q := fun v w3 => v = none ∧ Gw zs 4 m_Md_gather 345 [some (.inr (.inl (some 155))), o1, some (.inl (nI d)), o3, o4, o5, some (.inl (nI f)), p7, some (.inl e)] [] w3 Q) h22 hm (fun w2 a b c' s => ⟨rfl, by
          refine sg_Md_gather_345 ?_
          rw [nI_1]
          exact hyes 4 k4 (by omega) w2 _ _ a b c' s⟩)
        exact ⟨v, g⟩
      · refine sg_Md_gather_345 ?_
        rw [nI_1]
        exact no4 (fun z => c2 (k2 z)) _ _
    refine sg_Md_gather_281 ?_
    rw [nI_clampN (by omega), e169]
    refine ⟨v, fun c => ?_, fun c => ?_⟩
    · have o0 : o = 0 := by
        rcases Nat.eq_zero_or_pos o with q | q
        · exact q
        · rw [show (nI o - 1 : Int32) = nI (o - 1) from pk_sub (b := 1) q] at c
          exact absurd c (nI_pos (by omega))
      subst o0
      refine fin _ _ (fun _ z => ?_) (fun z => ?_)
      · exfalso
        rw [z] at c
        exact nI_pos (by omega) c
      · exfalso
        unfold kdO at z
        split at z
        · omega
        · split at z
          · omega
          · split at z
            · omega
            · omega
    · have o1' : 1 ≤ o := by
        rcases Nat.eq_zero_or_pos o with q | q
        · subst q; exact absurd (by decide) c
        · exact q
      rw [show (nI o - 1 : Int32) = nI (o - 1) from pk_sub (b := 1) o1', e29, nI_add, nI_mod7 (by omega)]
      have main : ∀ (e : Nat), (e = d ↔ ((¬ (f0 + (o - 1)) % 7 = 0 ∧ d + 1 = o) ∨ ((f0 + (o - 1)) % 7 = 0 ∧ d + 2 = o))) → (vg = true → e = d → kdO f0 o oc vg d = 4) ∧ (kdO f0 o oc vg d = 4 → e = d) := by
        intro e he
        refine ⟨fun hv z => ?_, fun z => ?_⟩
        · have y := he.mp z
          unfold kdO
          rw [if_neg (by omega), if_neg (by omega), if_pos ⟨hv, o1', y⟩]
        · unfold kdO at z
          split at z
          · omega
          · split at z
            · omega
            · split at z
              · rename_i y; exact he.mpr y.2.2
              · omega
      refine ⟨fun c2 => ?_, fun c2 => ?_⟩
      · have s0 : (f0 + (o - 1)) % 7 = 0 := (nI_eq (by omega) (by omega)).mp (show nI _ = nI 0 from c2)
        rcases Nat.lt_or_ge o 2 with q | q
        · have o1e : o = 1 := by omega
          subst o1e
          refine fin _ _ (fun _ z => ?_) (fun z => ?_)
          · exfalso
            have : ¬ (nI (1 - 1) + -1 : Int32) = nI d := fun y => m1_nI (n := d) (by omega) (y.symm.trans (by decide))
            exact this z
          · exfalso
            unfold kdO at z
            split at z
            · omega
            · split at z
              · omega
              · split at z
                · omega
                · omega
        · have e2 : (nI (o - 1) + -1 : Int32) = nI (o - 2) := by
            rw [show (nI (o - 1) + -1 : Int32) = nI (o - 1) - nI 1 from (Int32.sub_eq_add_neg _ _).symm, pk_sub (by omega)]
            congr 1
          rw [e2]
          obtain ⟨k1, k2⟩ := main (o - 2) (by omega)
          exact fin _ _ (fun hv z => k1 hv ((nI_eq (by omega) (by omega)).mp z)) (fun z => by rw [k2 z])
      · have s0 : ¬ (f0 + (o - 1)) % 7 = 0 := fun z => c2 (by rw [z]; rfl)
        obtain ⟨k1, k2⟩ := main (o - 1) (by omega)
        exact fin _ _ (fun hv z => k1 hv ((nI_eq (by omega) (by omega)).mp z)) (fun z => by rw [k2 z])
  have ts : (nI d - nI o : Int32).toInt = (d : Int) - (o : Int) := by
    have e1 : (nI d).toInt = (d : Int) := nI_toInt (by omega)
    have e2 : (nI o).toInt = (o : Int) := nI_toInt (by omega)
    rw [toInt_sub_small (by omega) (by omega) (by omega) (by omega), e1, e2]
  have i7 : f_Md_in (nI d - nI o) 1 7 = if o + 1 ≤ d ∧ d ≤ o + 7 then 1 else 0 := by
    have k1 : (1 : Int32).toInt = 1 := by decide
    have k7 : (7 : Int32).toInt = 7 := by decide
    rw [in_toInt, ts, k1, k7]
    by_cases c : o + 1 ≤ d ∧ d ≤ o + 7
    · rw [if_pos c, if_pos (by omega)]
    · rw [if_neg c, if_neg (by omega)]
  -- the octave, when the day is not the feast's own
  have oct : ¬ o = d → Gw zs 4 m_Md_gather 214 [some (.inr (.inl (some 155))), o1, some (.inl (nI d)), o3, o4, o5, some (.inl (nI f)), o7, o8] [] w Q := by
    intro hod
    have plain : ¬ (0 < oc ∧ o < d ∧ d ≤ o + 7) → ∀ p7 p8, Gw zs 4 m_Md_gather 281 [some (.inr (.inl (some 155))), o1, some (.inl (nI d)), o3, o4, o5, some (.inl (nI f)), p7, p8] [] w Q := by
      intro h3 p7 p8
      refine eve w (fun _ _ _ _ => rfl) p7 p8 (fun n4 p7 p8 => hno ?_ p7 p8) (fun _ => rfl) (fun z => ?_)
      · unfold kdO at n4 ⊢
        rw [if_neg hod, if_neg h3] at n4 ⊢
        split at n4
        · exact absurd rfl n4
        · rename_i y; rw [if_neg y]
      · unfold kdO at z
        rw [if_neg hod, if_neg h3] at z
        split at z <;> omega
    have festal : (0 < oc ∧ o < d ∧ d ≤ o + 7) → ∀ (b : Nat) p7 p8, b = (if d = o + 7 then 1 else 0) → Gw zs 4 m_Md_gather 269 [some (.inr (.inl (some 155))), o1, some (.inl (nI d)), o3, o4, o5, some (.inl (nI f)), p7, p8] [.inl (nI b), .inl (nI oc), .inl (nI f), .inl 3, .inr (.inl (some 155))] w Q := by
      intro h3 b p7 p8 hb
      have k3 : kdO f0 o oc vg d = 3 := by unfold kdO; rw [if_neg hod, if_pos h3]
      have er : oc + b = rkO o rk oc d 3 := by
        unfold rkO
        rw [if_neg (by omega), if_pos rfl, hb]
        by_cases z : d = o + 7
        · rw [if_pos z, if_pos z]
        · rw [if_neg z, if_neg z]
          rfl
      refine sg_Md_gather_269 ?_
      rw [nI_clampN (by omega), nI_add, er]
      have g := ew_meets (zs := zs) (w := w) (n := m) (k := 3) (r := rkO o rk oc d 3) (g := f) (co := w 165 f) (wy := 1) (Q := fun v w1 => v = none ∧ Gw zs 4 m_Md_gather 281 [some (.inr (.inl (some 155))), o1, some (.inl (nI d)), o3, o4, o5, some (.inl (nI f)), p7, p8] [] w1 Q) h22 hm (fun w2 a b' c' s => ⟨rfl, eve w2 a p7 p8 (fun _ p7 p8 => hyes 3 k3 (by omega) w2 p7 p8 a b' c' s) (fun z => absurd (k3.symm.trans z) (by omega)) (fun _ => by omega)⟩)
      exact ⟨v, g⟩
    refine sg_Md_gather_214 ?_
    rw [nI_clampN (by omega), h167, h169, i7]
    refine ⟨v, v, fun c => ?_, fun c => ⟨fun c2 => ?_, fun c2 => ⟨v, fun c3 => ?_, fun c3 => ?_⟩⟩⟩
    · refine plain (fun z => ?_) _ _
      exact nI_nle z.1 (by omega) c
    · refine plain (fun z => ?_) _ _
      rw [if_pos ⟨z.2.1, z.2.2⟩] at c2
      exact one_ne c2
    · have y : o + 1 ≤ d ∧ d ≤ o + 7 := by
        by_cases y : o + 1 ≤ d ∧ d ≤ o + 7
        · exact y
        · rw [if_neg y] at c2; exact absurd rfl c2
      have oc0 : 0 < oc := by
        rcases Nat.eq_zero_or_pos oc with q | q
        · subst q; exact absurd (nI_le (a := 0) (b := 0) (by omega) (by omega)) c
        · exact q
      have e7 : d = o + 7 := by
        have := congrArg Int32.toInt c3
        have k7 : (7 : Int32).toInt = 7 := by decide
        rw [ts, k7] at this
        omega
      exact festal ⟨oc0, y.1, y.2⟩ 1 _ _ (by rw [if_pos e7])
    · have y : o + 1 ≤ d ∧ d ≤ o + 7 := by
        by_cases y : o + 1 ≤ d ∧ d ≤ o + 7
        · exact y
        · rw [if_neg y] at c2; exact absurd rfl c2
      have oc0 : 0 < oc := by
        rcases Nat.eq_zero_or_pos oc with q | q
        · subst q; exact absurd (nI_le (a := 0) (b := 0) (by omega) (by omega)) c
        · exact q
      have e7 : ¬ d = o + 7 := fun z => c3 (Int32.toInt_inj.mp (by
        have k7 : (7 : Int32).toInt = 7 := by decide
        rw [ts, k7]; omega))
      exact festal ⟨oc0, y.1, y.2⟩ 0 _ _ (by rw [if_neg e7])
  refine sg_Md_gather_152 ?_
  rw [h1, nI_clampN (by omega), h169, h164]
  refine ⟨fun c => absurd c (nI_gle hf (by omega)), fun _ => ⟨v, fun c => absurd c (m1_nI (by omega)), fun _ => ⟨v, fun c => ?_, fun c => oct (fun z => c (by rw [z]))⟩⟩⟩
  have e := (nI_eq (by omega) (by omega)).mp c
  have k2 : kdO f0 o oc vg d = 2 := by unfold kdO; rw [if_pos e]
  have g := ew_meets (zs := zs) (w := w) (n := m) (k := 2) (r := rk) (g := f) (co := w 165 f) (wy := w 166 f) (Q := fun v w4 => v = none ∧ Gw zs 4 m_Md_gather 214 [some (.inr (.inl (some 155))), o1, some (.inl (nI d)), o3, o4, o5, some (.inl (nI f)), o7, o8] [] w4 Q) h22 hm (fun w2 a b' c' s => ⟨rfl, by
    have ev := fun p7 p8 => eve w2 a p7 p8 (fun _ p7 p8 => hyes 2 k2 (by omega) w2 p7 p8 a b' c' s) (fun z => absurd (k2.symm.trans z) (by omega)) (fun _ => by omega)
    refine sg_Md_gather_214 ?_
    rw [nI_clampN (by omega), a 167 f (by omega) (by omega), a 169 f (by omega) (by omega), h167, h169, i7, if_neg (by omega)]
    exact ⟨v, v, fun _ => ev _ _, fun _ => ⟨fun _ => ev _ _, fun z => absurd rfl z⟩⟩⟩)
  exact ⟨v, v, v, g⟩
