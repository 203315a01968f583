/-! The world behind the constructors -/
def w0 : Wd := fun c k => if c = 23 ∧ k ≤ 150 then 10 else if c = 24 ∧ k ≤ 150 then -1 else if c = 22 ∧ (k = 8 ∨ k = 9) then 7 else if c = 16 ∧ k = 7 then -1 else if 33 ≤ c ∧ c ≤ 102 ∧ (c % 8 = 1 ∨ c % 8 = 4) ∧ k = 3 then 1 else if c = 155 ∧ (k = 36 ∨ k = 37) then 7 else if c = 181 ∧ k < 150 then 10 else if c = 182 ∧ k < 150 then -1 else 0
theorem w0_z {c k : Nat} (h : ¬ (c = 23 ∧ k ≤ 150) ∧ ¬ (c = 24 ∧ k ≤ 150) ∧ ¬ (c = 22 ∧ (k = 8 ∨ k = 9)) ∧ ¬ (c = 16 ∧ k = 7) ∧ ¬ (33 ≤ c ∧ c ≤ 102 ∧ (c % 8 = 1 ∨ c % 8 = 4) ∧ k = 3) ∧ ¬ (c = 155 ∧ (k = 36 ∨ k = 37)) ∧ ¬ (c = 181 ∧ k < 150) ∧ ¬ (c = 182 ∧ k < 150)) : w0 c k = 0 := by
  obtain ⟨h1, h2, h3, h4, h5, h6, h7, h8⟩ := h
  show (if c = 23 ∧ k ≤ 150 then (10 : Int32) else if c = 24 ∧ k ≤ 150 then -1 else if c = 22 ∧ (k = 8 ∨ k = 9) then 7 else if c = 16 ∧ k = 7 then -1 else if 33 ≤ c ∧ c ≤ 102 ∧ (c % 8 = 1 ∨ c % 8 = 4) ∧ k = 3 then 1 else if c = 155 ∧ (k = 36 ∨ k = 37) then 7 else if c = 181 ∧ k < 150 then 10 else if c = 182 ∧ k < 150 then -1 else 0) = 0
  rw [if_neg h1, if_neg h2, if_neg h3, if_neg h4, if_neg h5, if_neg h6, if_neg h7, if_neg h8]
theorem w0_cad {c : Nat} (h1 : 33 ≤ c) (h2 : c ≤ 102) (h3 : c % 8 = 1 ∨ c % 8 = 4) : w0 c 3 = 1 := by
  show (if c = 23 ∧ 3 ≤ 150 then (10 : Int32) else if c = 24 ∧ 3 ≤ 150 then -1 else if c = 22 ∧ (3 = 8 ∨ 3 = 9) then 7 else if c = 16 ∧ 3 = 7 then -1 else if 33 ≤ c ∧ c ≤ 102 ∧ (c % 8 = 1 ∨ c % 8 = 4) ∧ 3 = 3 then 1 else if c = 155 ∧ (3 = 36 ∨ 3 = 37) then 7 else if c = 181 ∧ 3 < 150 then 10 else if c = 182 ∧ 3 < 150 then -1 else 0) = 1
  rw [if_neg (by omega), if_neg (by omega), if_neg (by omega), if_neg (by omega), if_pos ⟨h1, h2, h3, rfl⟩]
theorem w0_23 {k : Nat} (h : k ≤ 150) : w0 23 k = nI 10 := by
  show (if 23 = 23 ∧ k ≤ 150 then (10 : Int32) else _) = _
  rw [if_pos ⟨rfl, h⟩]
  rfl
theorem w0_24 {k : Nat} (h : k ≤ 150) : w0 24 k = -1 := by
  show (if 24 = 23 ∧ k ≤ 150 then (10 : Int32) else if 24 = 24 ∧ k ≤ 150 then -1 else _) = _
  rw [if_neg (by omega), if_pos ⟨rfl, h⟩]
theorem w0_181 {k : Nat} (h : k < 150) : w0 181 k = nI 10 := by
  show (if 181 = 23 ∧ k ≤ 150 then (10 : Int32) else if 181 = 24 ∧ k ≤ 150 then -1 else if 181 = 22 ∧ (k = 8 ∨ k = 9) then 7 else if 181 = 16 ∧ k = 7 then -1 else if 33 ≤ 181 ∧ 181 ≤ 102 ∧ (181 % 8 = 1 ∨ 181 % 8 = 4) ∧ k = 3 then 1 else if 181 = 155 ∧ (k = 36 ∨ k = 37) then 7 else if 181 = 181 ∧ k < 150 then 10 else _) = _
  rw [if_neg (by omega), if_neg (by omega), if_neg (by omega), if_neg (by omega), if_neg (by omega), if_neg (by omega), if_pos ⟨rfl, h⟩]
  rfl
theorem w0_182 {k : Nat} (h : k < 150) : w0 182 k = -1 := by
  show (if 182 = 23 ∧ k ≤ 150 then (10 : Int32) else if 182 = 24 ∧ k ≤ 150 then -1 else if 182 = 22 ∧ (k = 8 ∨ k = 9) then 7 else if 182 = 16 ∧ k = 7 then -1 else if 33 ≤ 182 ∧ 182 ≤ 102 ∧ (182 % 8 = 1 ∨ 182 % 8 = 4) ∧ k = 3 then 1 else if 182 = 155 ∧ (k = 36 ∨ k = 37) then 7 else if 182 = 181 ∧ k < 150 then 10 else if 182 = 182 ∧ k < 150 then -1 else 0) = _
  rw [if_neg (by omega), if_neg (by omega), if_neg (by omega), if_neg (by omega), if_neg (by omega), if_neg (by omega), if_neg (by omega), if_pos ⟨rfl, h⟩]
theorem RT_0 : RT w0 := by
  intro t ht
  refine ⟨?_, ⟨0, by omega, ?_, ?_, fun j hj => by omega⟩, fun q hq => ⟨⟨0, by omega, ?_, ?_, fun j hj => by omega⟩, Or.inl ⟨?_, ?_⟩, fun j hj => ?_⟩⟩
  · show w0 (31 + 8 * t) 4 = w0 189 t
    rw [w0_z (by omega), w0_z (by omega)]
  · exact w0_z (by omega)
  · exact w0_z (by omega)
  · exact w0_z (by omega)
  · exact w0_z (by omega)
  · exact w0_cad (by omega) (by omega) (by rcases (show q = 0 ∨ q = 1 by omega) with rfl | rfl <;> omega)
  · exact w0_z (by omega)
  · rw [w0_z (by omega), w0_z (by omega)]
theorem RV_0 : RV w0 := by
  intro v hv
  refine ⟨0, 0, by omega, by omega, ?_, ?_, ?_, ?_, fun j hj => by omega⟩
  · exact w0_z (by omega)
  · exact w0_z (by omega)
  · exact w0_z (by omega)
  · exact w0_z (by omega)
theorem GU_0 : GU w0 := by
  refine ⟨⟨⟨0, by omega, ?_, ?_, fun j hj => by omega⟩, ⟨0, by omega, ?_, ?_, fun j hj => by omega, fun j _ hj => ⟨?_, ?_⟩⟩⟩, AY_ok w0 rfl ?_⟩
  · exact w0_z (by omega)
  · exact w0_z (by omega)
  · exact w0_z (by omega)
  · exact w0_z (by omega)
  · exact w0_z (by omega)
  · exact w0_z (by omega)
  · exact w0_z (by omega)
theorem GP_0 : GP w0 := by
  refine ⟨⟨fun q hq => ⟨10, by omega, by omega, w0_23 (by omega), w0_181 hq⟩, 7, 7, by omega, by omega, by omega, by omega, rfl, rfl, rfl, rfl, fun q hq => ⟨?_, Or.inl (w0_182 hq)⟩, fun h hh => ⟨0, by omega, fun _ => rfl, ?_, ?_, fun j hj => by omega⟩⟩, Or.inl ?_, ?_⟩
  · rw [w0_24 (by omega), w0_182 hq]
  · exact w0_z (by omega)
  · exact w0_z (by omega)
  · exact w0_z (by omega)
  · exact w0_z (by omega)
theorem RC_0 : RC w0 := by
  refine ⟨0, 0, by omega, by omega, ?_, ?_, ?_, ?_, fun j hj => by omega, fun j hj => by omega, fun k _ hk => ?_⟩
  · exact w0_z (by omega)
  · exact w0_z (by omega)
  · exact w0_z (by omega)
  · exact w0_z (by omega)
  · exact w0_z (by omega)
theorem RR_0 : RR w0 := by
  refine ⟨⟨0, by omega, ?_, ?_, fun k hk => by omega⟩, fun k hk => ⟨?_, ?_⟩⟩
  · exact w0_z (by omega)
  · exact w0_z (by omega)
  · rw [w0_z (by omega), w0_z (by omega)]
  · rw [w0_z (by omega), w0_z (by omega)]
theorem RU_0 : RU w0 := ⟨RT_0, RV_0, GU_0, GP_0, RC_0, RR_0⟩
/-! The cells behind the constructors are this world's -/
def chk1 (g : Nat → AV → AV) : List AV → List AV → Nat → Bool
  | [], [], _ => true
  | v :: vs, u :: us, j => decide (g j v = u) && chk1 g vs us (j + 1)
  | _, _, _ => false
theorem chk1_is {g : Nat → AV → AV} : ∀ {vs us : List AV} {j : Nat}, chk1 g vs us j = true → us.length = vs.length ∧ ∀ (i : Nat) (v : AV), vs[i]? = some v → us[i]? = some (g (j + i) v) := by
  intro vs
  induction vs with
  | nil =>
    intro us j h
    cases us with
    | nil => exact ⟨rfl, fun i v hv => by simp at hv⟩
    | cons u us => simp [chk1] at h
  | cons v vs ih =>
    intro us j h
    cases us with
    | nil => simp [chk1] at h
    | cons u us =>
      simp only [chk1, Bool.and_eq_true, decide_eq_true_eq] at h
      obtain ⟨a, b⟩ := ih h.2
      refine ⟨by simp [a], fun i x hx => ?_⟩
      cases i with
      | zero =>
        simp at hx
        subst hx
        simp [h.1]
      | succ i =>
        simp at hx
        have := b i x hx
        rw [show j + 1 + i = j + (i + 1) by omega] at this
        simpa using this
theorem chk1_eq {g : Nat → AV → AV} {vs us : List AV} (h : chk1 g vs us 0 = true) : vs.mapIdx g = us := by
  obtain ⟨a, b⟩ := chk1_is h
  apply List.ext_getElem?
  intro i
  rw [List.getElem?_mapIdx]
  cases hv : vs[i]? with
  | none =>
    have : vs.length ≤ i := List.getElem?_eq_none_iff.mp hv
    exact (List.getElem?_eq_none_iff.mpr (by omega)).symm
  | some v =>
    have := b i v hv
    rw [Nat.zero_add] at this
    rw [this]
    rfl
def chk2 (w : Wd) : AH → AH → Nat → Bool
  | [], [], _ => true
  | a :: as, b :: bs, c => decide (a.1 = b.1) && (chk1 (mkv (w c)) a.2 b.2 0 && chk2 w as bs (c + 1))
  | _, _, _ => false
theorem chk2_is {w : Wd} : ∀ {as bs : AH} {c : Nat}, chk2 w as bs c = true → bs.length = as.length ∧ ∀ (i : Nat) (a : AC), as[i]? = some a → bs[i]? = some (mkc w (c + i) a) := by
  intro as
  induction as with
  | nil =>
    intro bs c h
    cases bs with
    | nil => exact ⟨rfl, fun i v hv => by simp at hv⟩
    | cons b bs => simp [chk2] at h
  | cons a as ih =>
    intro bs c h
    cases bs with
    | nil => simp [chk2] at h
    | cons b bs =>
      simp only [chk2, Bool.and_eq_true, decide_eq_true_eq] at h
      obtain ⟨x, y⟩ := ih h.2.2
      refine ⟨by simp [x], fun i z hz => ?_⟩
      cases i with
      | zero =>
        simp at hz
        subst hz
        have e := chk1_eq h.2.1
        simp only [List.getElem?_cons_zero, Nat.add_zero]
        unfold mkc
        rw [e, h.1]
      | succ i =>
        simp at hz
        have := y i z hz
        rw [show c + 1 + i = c + (i + 1) by omega] at this
        simpa using this
theorem chk2_eq {w : Wd} {bs : AH} (h : chk2 w hs bs 0 = true) : mk w = bs := by
  obtain ⟨a, b⟩ := chk2_is h
  apply List.ext_getElem?
  intro i
  unfold mk
  rw [List.getElem?_mapIdx]
  cases hv : hs[i]? with
  | none =>
    have : hs.length ≤ i := List.getElem?_eq_none_iff.mp hv
    exact (List.getElem?_eq_none_iff.mpr (by omega)).symm
  | some v =>
    have := b i v hv
    rw [Nat.zero_add] at this
    rw [this]
    rfl
set_option maxRecDepth 100000 in
theorem mk_w0 : mk w0 = hxI := chk2_eq (by decide +kernel)
theorem slz_mapIdx : ∀ {l : AH} {f : Nat → AC → AC}, (∀ i c, (f i c).2.length = c.2.length) → slz (l.mapIdx f) = slz l := by
  intro l
  induction l with
  | nil => intro f _; rfl
  | cons c l ih =>
    intro f h
    rw [List.mapIdx_cons]
    simp only [slz]
    rw [h, ih (fun i c => h (i + 1) c)]
theorem slz_mk (w : Wd) : slz (mk w) = slz hs := slz_mapIdx (fun i c => by simp [mkc])
set_option maxRecDepth 100000 in
theorem hs_room : hs.length ≤ 600000 ∧ slz hs ≤ 7302250 := by decide +kernel
