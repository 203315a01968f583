/-! From the law's entry to its loop, and on to its end -/
theorem st2_ro {ro : List (List Int32)} {K : Nat} {ini : Bool} {i : Instr} {pc : Nat} {L : AL} {S : List AV} {h : AH} {x : AR} (e : st2 [] K ini i pc L S h = some x) : st2 ro K ini i pc L S h = some x := by
  unfold st2 at e ⊢
  split at e
  all_goals first
    | exact e
    | (cases e; done)
    | (simp at e; done)
theorem stp_ro {ro : List (List Int32)} {d : Nat} {r : MR} {i : Instr} {pc : Nat} {L : AL} {S : List AV} {h : AH} {x : AR} (e : stp [] d r i pc L S h = some x) : stp ro d r i pc L S h = some x := by
  unfold stp at e ⊢
  by_cases h1 : (kind i).1 = 1
  · rw [if_pos h1] at e ⊢
    exact e
  · rw [if_neg h1] at e ⊢
    by_cases h2 : (kind i).1 = 2
    · rw [if_pos h2] at e ⊢
      exact st2_ro e
    · rw [if_neg h2] at e ⊢
      exact e
theorem run_ro (ro : List (List Int32)) : ∀ (f d j : Nat) (s : AS) (o : Option AV × AH), run [] f d j s = some o → run ro f d j s = some o := by
  intro f
  induction f with
  | zero => intro d j s o e; simp [run] at e
  | succ f ih =>
    intro d j s o e
    rw [run] at e ⊢
    split at e
    · cases e
    · rename_i r hr
      split at e
      · cases e
      · rename_i i hi
        split at e
        · cases e
        · rename_i s' h1
          rw [stp_ro h1]
          exact ih _ _ _ _ e
        · rename_i o' h1
          rw [stp_ro h1]
          exact e
        · rename_i k as s' h1
          rw [stp_ro h1]
          split at e
          · rename_i d' r' hr'
            simp only [hr']
            split at e
            · rename_i v h' h2
              rw [ih _ _ _ _ h2]
              exact ih _ _ _ _ e
            · cases e
          · cases e
theorem gh_ro {ro : List (List Int32)} {d j : Nat} {s : AS} {o : Option AV × AH} (h : Gh [] d j s o) : Gh ro d j s o := by
  obtain ⟨f, hf⟩ := h
  exact ⟨f, run_ro ro f d j s o hf⟩
theorem gh_st {ro : List (List Int32)} {d j : Nat} {s s' : AS} {r : MR} {i : Instr} {o : Option AV × AH} (hr : mrec j = some r) (hi : fch r.2.1 s.1 = some i) (hs : stp ro d r i s.1 s.2.1 s.2.2.1 s.2.2.2 = some (.inl s')) (k : Gh ro d j s' o) : Gh ro d j s o := by
  obtain ⟨f, hf⟩ := k
  exact ⟨f + 1, by rw [run, hr]; simp only [hi, hs]; exact hf⟩
theorem law_enter {zs : List Int32} {o : Option AV × AH} (h : Gh (rz zs) 9 m_Law_law (18, [some (.inr (.inr 0)), some (.inr (.inl (some 0))), some (.inr (.inl (some 155))), some (.inl 0)], [], hxI) o) : Gh (rz zs) 9 m_Law_law (0, [some (.inr (.inr 0)), none, none, none], [], []) o := by
  have s0 : stp (rz zs) 9 r_Law_law (.new 7) 0 [some (.inr (.inr 0)), none, none, none] [] [] = some (.inl (3, [some (.inr (.inr 0)), none, none, none], [.inr (.inl (some 0))], zA0.2.2.2)) := rfl
  refine gh_st k_Law_law f_Law_law_0 s0 ?_
  refine gh_st k_Law_law f_Law_law_3 (s' := (4, [some (.inr (.inr 0)), none, none, none], [.inr (.inl (some 0)), .inr (.inl (some 0))], zA0.2.2.2)) rfl ?_
  refine gh_call (d := 8) (v := none) (h1 := hxB) (s' := (7, [some (.inr (.inr 0)), none, none, none], [.inr (.inl (some 0))], zA0.2.2.2)) (k := m_Bk_init) (as := [.inr (.inl (some 0))]) k_Law_law f_Law_law_4 rfl rfl (gh_ro (show Gh [] 8 m_Bk_init zA0 (none, hxB) from ctB)) ?_
  refine gh_st k_Law_law f_Law_law_7 (s' := (8, [some (.inr (.inr 0)), some (.inr (.inl (some 0))), none, none], [], hxB)) rfl ?_
  refine gh_st k_Law_law f_Law_law_8 (s' := (11, [some (.inr (.inr 0)), some (.inr (.inl (some 0))), none, none], [.inr (.inl (some 155))], zD0.2.2.2)) rfl ?_
  refine gh_st k_Law_law f_Law_law_11 (s' := (12, [some (.inr (.inr 0)), some (.inr (.inl (some 0))), none, none], [.inr (.inl (some 155)), .inr (.inl (some 155))], zD0.2.2.2)) rfl ?_
  refine gh_call (d := 8) (v := none) (h1 := hxI) (s' := (15, [some (.inr (.inr 0)), some (.inr (.inl (some 0))), none, none], [.inr (.inl (some 155))], zD0.2.2.2)) (k := m_Md_init) (as := [.inr (.inl (some 155))]) k_Law_law f_Law_law_12 rfl rfl (gh_ro (show Gh [] 8 m_Md_init zD0 (none, hxI) from ctM)) ?_
  refine gh_st k_Law_law f_Law_law_15 (s' := (16, [some (.inr (.inr 0)), some (.inr (.inl (some 0))), some (.inr (.inl (some 155))), none], [], hxI)) rfl ?_
  refine gh_st k_Law_law f_Law_law_16 (s' := (17, [some (.inr (.inr 0)), some (.inr (.inl (some 0))), some (.inr (.inl (some 155))), none], [.inl 0], hxI)) rfl ?_
  exact gh_st k_Law_law f_Law_law_17 (s' := (18, [some (.inr (.inr 0)), some (.inr (.inl (some 0))), some (.inr (.inl (some 155))), some (.inl 0)], [], hxI)) rfl h
/-- the run of the law, in small -/
theorem pure_goal (xs : List Int32) (hL : xs.length ≤ 3584) : ∃ (f : Nat) (h' : AH), run [xs, ML, MS] f 9 247 (0, [some (.inr (.inr 0)), none, none, none], [], []) = some (some (.inl 1), h') ∧ h'.length ≤ 600000 ∧ slz h' ≤ 7302250 := by
  obtain ⟨f, v, w', h1, h2⟩ := all_calls hL (xs.length + 7) 0 w0 (by omega) (by omega) RU_0
  subst h2
  rw [mk_w0] at h1
  obtain ⟨f2, h3⟩ := law_enter (zs := xs) (o := (some (.inl 1), mk w')) ⟨f, run_dep _ _ _ _ _ _ _ (by omega) h1⟩
  refine ⟨f2, mk w', h3, ?_, ?_⟩
  · rw [mk_len]; exact hs_room.1
  · rw [slz_mk]; exact hs_room.2
