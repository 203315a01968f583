/-- the run of the law, in small -/
theorem pure_goal (xs : List Int32) (hL : xs.length ≤ 3584) : ∃ (f : Nat) (h' : AH), run [xs, ML, MS] f 9 247 (0, [some (.inr (.inr 0)), none, none, none], [], []) = some (some (.inl 1), h') ∧ h'.length ≤ 600000 ∧ slz h' ≤ 7302250 := by
  sorry
