/-- numbers by cell and place -/
abbrev Wd : Type := Nat → Nat → Int32
def mkv (w : Nat → Int32) (j : Nat) (v : AV) : AV := match v with
  | .inl _ => .inl (w j)
  | r => r
def mkc (w : Wd) (c : Nat) (cell : AC) : AC := (cell.1, cell.2.mapIdx (mkv (w c)))
def mk (w : Wd) : AH := hs.mapIdx (mkc w)
def wr (w : Wd) (c k : Nat) (v : Int32) : Wd := fun c' k' => if c' = c ∧ k' = k then v else w c' k'
theorem mk_get {w : Wd} {c : Nat} {cell : AC} (h : hs[c]? = some cell) : (mk w)[c]? = some (mkc w c cell) := by simp [mk, List.getElem?_mapIdx, h]
theorem mk_len (w : Wd) : (mk w).length = hs.length := by simp [mk]
theorem mkv_wr (w : Wd) (c k : Nat) (x : Int32) (j : Nat) (v : AV) (hj : j ≠ k) : mkv (wr w c k x c) j v = mkv (w c) j v := by
  unfold mkv wr
  cases v with
  | inl y => simp [hj]
  | inr y => rfl
theorem mk_set {w : Wd} {c k : Nat} {t : Nat ⊕ FieldType} {vs : List AV} {x y : Int32} (h : hs[c]? = some (t, vs)) (hk : vs[k]? = some (.inl y)) : (mk w).set c (t, (vs.mapIdx (mkv (w c))).set k (.inl x)) = mk (wr w c k x) := by
  apply List.ext_getElem?
  intro i
  have hc : c < (mk w).length := by rw [mk_len]; exact (List.getElem?_eq_some_iff.mp h).1
  by_cases hi : c = i
  · subst hi
    rw [List.getElem?_set_self hc, mk_get h]
    unfold mkc
    congr 2
    apply List.ext_getElem?
    intro j
    have hkl : k < (vs.mapIdx (mkv (w c))).length := by simp; exact (List.getElem?_eq_some_iff.mp hk).1
    by_cases hj : k = j
    · subst hj
      rw [List.getElem?_set_self hkl, List.getElem?_mapIdx, hk]
      simp [mkv, wr]
    · rw [List.getElem?_set_ne hj, List.getElem?_mapIdx, List.getElem?_mapIdx]
      cases hv : vs[j]? with
      | none => rfl
      | some v =>
        simp only [Option.map_some]
        rw [mkv_wr _ _ _ _ _ _ (fun q => hj q.symm)]
  · rw [List.getElem?_set_ne hi]
    simp only [mk, List.getElem?_mapIdx]
    cases hv : hs[i]? with
    | none => rfl
    | some cell =>
      simp only [Option.map_some, mkc]
      congr 3
      funext j v
      unfold mkv wr
      cases v with
      | inl z => simp [Ne.symm hi]
      | inr z => rfl
/-- the tables that are only read -/
def rz (zs : List Int32) : List (List Int32) := [zs, ML, MS]
theorem run_mono (ro : List (List Int32)) : ∀ (f d j : Nat) (s : AS) (o : Option AV × AH), run ro f d j s = some o → run ro (f + 1) d j s = some o := by
  intro f
  induction f with
  | zero => intro d j s o e; simp [run] at e
  | succ f ih =>
    intro d j s o e
    rw [run] at e ⊢
    split at e
    · cases e
    · rename_i r hr
      split at e
      · cases e
      · rename_i i hi
        split at e
        · cases e
        · rename_i s' h1
          exact ih _ _ _ _ e
        · exact e
        · rename_i k as s' h1
          split at e
          · rename_i d' r' hr'
            split at e
            · rename_i v h' h2
              rw [ih _ _ _ _ h2]
              exact ih _ _ _ _ e
            · cases e
          · cases e
theorem run_le {ro : List (List Int32)} {f f' d j : Nat} {s : AS} {o : Option AV × AH} (hf : f ≤ f') (e : run ro f d j s = some o) : run ro f' d j s = some o := by
  induction hf with
  | refl => exact e
  | step _ ih => exact run_mono _ _ _ _ _ _ ih
theorem st3_dep {d d' K : Nat} {rt : Option FieldType} {i : Instr} {pc : Nat} {L : AL} {S : List AV} {h : AH} {x : AR} (hd : d ≤ d') (e : st3 d K rt i pc L S h = some x) : st3 d' K rt i pc L S h = some x := by
  unfold st3 at e ⊢
  split at e
  · split at e
    · split at e
      · rename_i h1
        split at e
        · split at e
          · rename_i h2
            rw [if_pos h1, if_pos ⟨Nat.le_trans h2.1 hd, h2.2⟩]
            exact e
          · cases e
        · cases e
      · rename_i h1
        rw [if_neg h1]
        exact e
    · cases e
  · exact e
  · split at e
    · split at e
      · split at e
        · rename_i h2
          rw [if_pos ⟨Nat.le_trans h2.1 hd, h2.2⟩]
          exact e
        · cases e
      · cases e
    · exact e
  · exact e
  · exact e
  · exact e
  · cases e
theorem stp_dep {ro : List (List Int32)} {d d' : Nat} {r : MR} {i : Instr} {pc : Nat} {L : AL} {S : List AV} {h : AH} {x : AR} (hd : d ≤ d') (e : stp ro d r i pc L S h = some x) : stp ro d' r i pc L S h = some x := by
  unfold stp at e ⊢
  by_cases h1 : (kind i).1 = 1
  · rw [if_pos h1] at e ⊢
    exact e
  · rw [if_neg h1] at e ⊢
    by_cases h2 : (kind i).1 = 2
    · rw [if_pos h2] at e ⊢
      exact e
    · rw [if_neg h2] at e ⊢
      by_cases h3 : (kind i).1 = 3
      · rw [if_pos h3] at e ⊢
        exact st3_dep hd e
      · rw [if_neg h3] at e
        cases e
theorem run_dep (ro : List (List Int32)) : ∀ (f d d' j : Nat) (s : AS) (o : Option AV × AH), d ≤ d' → run ro f d j s = some o → run ro f d' j s = some o := by
  intro f
  induction f with
  | zero => intro d d' j s o hd e; simp [run] at e
  | succ f ih =>
    intro d d' j s o hd e
    rw [run] at e ⊢
    split at e
    · cases e
    · rename_i r hr
      split at e
      · cases e
      · rename_i i hi
        split at e
        · cases e
        · rename_i s' h1
          rw [stp_dep hd h1]
          exact ih _ _ _ _ _ hd e
        · rename_i o' h1
          rw [stp_dep hd h1]
          exact e
        · rename_i k as s' h1
          rw [stp_dep hd h1]
          split at e
          · rename_i d1 r' hr'
            obtain ⟨d2, rfl⟩ : ∃ d2, d' = d2 + 1 := ⟨d' - 1, by omega⟩
            simp only [hr']
            split at e
            · rename_i v h' h2
              rw [ih _ _ _ _ _ (Nat.le_of_succ_le_succ hd) h2]
              exact ih _ _ _ _ _ hd e
            · cases e
          · cases e
/-- from this place of a method the run comes to an end of which Q holds -/
def Gw (zs : List Int32) (d j pc : Nat) (L : AL) (S : List AV) (w : Wd) (Q : Option AV → Wd → Prop) : Prop := ∃ f v w', run (rz zs) f d j (pc, L, S, mk w) = some (v, mk w') ∧ Q v w'
/-- a call of a method -/
def Ew (zs : List Int32) (d j : Nat) (as : List AV) (w : Wd) (Q : Option AV → Wd → Prop) : Prop := ∃ r, mrec j = some r ∧ Gw zs d j 0 (as.map some ++ List.replicate (r.2.2.1 - as.length) none) [] w Q
theorem Gw.mono {zs : List Int32} {d j pc : Nat} {L : AL} {S : List AV} {w : Wd} {Q Q' : Option AV → Wd → Prop} (h : Gw zs d j pc L S w Q) (hq : ∀ v w', Q v w' → Q' v w') : Gw zs d j pc L S w Q' := by
  obtain ⟨f, v, w', h1, h2⟩ := h
  exact ⟨f, v, w', h1, hq v w' h2⟩
theorem Ew.mono {zs : List Int32} {d j : Nat} {as : List AV} {w : Wd} {Q Q' : Option AV → Wd → Prop} (h : Ew zs d j as w Q) (hq : ∀ v w', Q v w' → Q' v w') : Ew zs d j as w Q' := by
  obtain ⟨r, h1, h2⟩ := h
  exact ⟨r, h1, h2.mono hq⟩
theorem Ew.up {zs : List Int32} {d d' j : Nat} {as : List AV} {w : Wd} {Q : Option AV → Wd → Prop} (h : Ew zs d j as w Q) (hd : d ≤ d') : Ew zs d' j as w Q := by
  obtain ⟨r, h1, f, v, w', h2, h3⟩ := h
  exact ⟨r, h1, f, v, w', run_dep _ _ _ _ _ _ _ hd h2, h3⟩
section GW
variable {zs : List Int32} {d j pc : Nat} {L : AL} {S : List AV} {w : Wd} {Q : Option AV → Wd → Prop} {r : MR}
theorem gw_step {i : Instr} {pc' : Nat} {L' : AL} {S' : List AV} {w' : Wd} (hm : mrec j = some r) (hf : fch r.2.1 pc = some i) (hs : stp (rz zs) d r i pc L S (mk w) = some (.inl (pc', L', S', mk w'))) (k : Gw zs d j pc' L' S' w' Q) : Gw zs d j pc L S w Q := by
  obtain ⟨f, v, w2, h1, h2⟩ := k
  exact ⟨f + 1, v, w2, by rw [run, hm]; simp only [hf, hs]; exact h1, h2⟩
theorem gw_end {i : Instr} {v : Option AV} (hm : mrec j = some r) (hf : fch r.2.1 pc = some i) (hs : stp (rz zs) d r i pc L S (mk w) = some (.inr (.inr (v, mk w)))) (k : Q v w) : Gw zs d j pc L S w Q :=
  ⟨1, v, w, by rw [run, hm]; simp only [hf, hs], k⟩
theorem gw_sub {i : Instr} {k pc' : Nat} {as : List AV} {L' : AL} {S' : List AV} (hm : mrec j = some r) (hf : fch r.2.1 pc = some i) (hs : stp (rz zs) (d + 1) r i pc L S (mk w) = some (.inr (.inl (k, as, pc', L', S', mk w)))) (he : Ew zs d k as w (fun v w1 => Gw zs (d + 1) j pc' L' (v.toList ++ S') w1 Q)) : Gw zs (d + 1) j pc L S w Q := by
  obtain ⟨r', h1, f1, v1, w1, h2, f2, v2, w2, h3, h4⟩ := he
  refine ⟨(f1 + f2) + 1, v2, w2, ?_, h4⟩
  rw [run, hm]
  simp only [hf, hs, h1]
  rw [show (ent r' as (mk w)) = (0, as.map some ++ List.replicate (r'.2.2.1 - as.length) none, [], mk w) from rfl, run_le (Nat.le_add_right f1 f2) h2]
  exact run_le (Nat.le_add_left f2 f1) h3
end GW
