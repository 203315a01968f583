/-! Methods without loops: values and worlds -/
def f_Ton_noteAt (w : Wd) (b : Nat) (e : Nat) (a1 : Int32) : Int32 := if (f_Ver_isFirstHalf w e a1) = 0 then if (f_Cad_hasTwoAccents w (b + 5)) = 0 then if a1 < (f_Ver_lastAccent w e (f_Ver_startOfHalf w e a1) (f_Ver_endOfHalf w e a1)) then if (f_Cad_noteAhead w (b + 5) ((f_Ver_lastAccent w e (f_Ver_startOfHalf w e a1) (f_Ver_endOfHalf w e a1)) - a1)) = (-1) then if (f_Ver_startOfHalf w e a1) = 0 then if (w b 3) ≤ a1 then (w b 4) else (f_at w (b + 1) 4 a1) else (w b 4) else (f_Cad_noteAhead w (b + 5) ((f_Ver_lastAccent w e (f_Ver_startOfHalf w e a1) (f_Ver_endOfHalf w e a1)) - a1)) else (f_Cad_noteFrom w (b + 5) 1 (a1 - (f_Ver_lastAccent w e (f_Ver_startOfHalf w e a1) (f_Ver_endOfHalf w e a1))) (((f_Ver_endOfHalf w e a1) - 1) - (f_Ver_lastAccent w e (f_Ver_startOfHalf w e a1) (f_Ver_endOfHalf w e a1)))) else if a1 < (f_Ver_lastAccent w e (f_Ver_startOfHalf w e a1) (f_Ver_endOfHalf w e a1)) then if (f_Ver_firstAccent w e (f_Ver_startOfHalf w e a1) (f_Ver_lastAccent w e (f_Ver_startOfHalf w e a1) (f_Ver_endOfHalf w e a1))) = (-1) then if (f_Cad_noteAhead w (b + 5) ((f_Ver_lastAccent w e (f_Ver_startOfHalf w e a1) (f_Ver_endOfHalf w e a1)) - a1)) = (-1) then if (f_Ver_startOfHalf w e a1) = 0 then if (w b 3) ≤ a1 then (w b 4) else (f_at w (b + 1) 4 a1) else (w b 4) else (f_Cad_noteAhead w (b + 5) ((f_Ver_lastAccent w e (f_Ver_startOfHalf w e a1) (f_Ver_endOfHalf w e a1)) - a1)) else if a1 < (f_Ver_firstAccent w e (f_Ver_startOfHalf w e a1) (f_Ver_lastAccent w e (f_Ver_startOfHalf w e a1) (f_Ver_endOfHalf w e a1))) then if (f_Cad_noteAhead w (b + 5) ((f_Ver_firstAccent w e (f_Ver_startOfHalf w e a1) (f_Ver_lastAccent w e (f_Ver_startOfHalf w e a1) (f_Ver_endOfHalf w e a1))) - a1)) = (-1) then if (f_Ver_startOfHalf w e a1) = 0 then if (w b 3) ≤ a1 then (w b 4) else (f_at w (b + 1) 4 a1) else (w b 4) else (f_Cad_noteAhead w (b + 5) ((f_Ver_firstAccent w e (f_Ver_startOfHalf w e a1) (f_Ver_lastAccent w e (f_Ver_startOfHalf w e a1) (f_Ver_endOfHalf w e a1))) - a1)) else (f_Cad_noteFrom w (b + 5) 0 (a1 - (f_Ver_firstAccent w e (f_Ver_startOfHalf w e a1) (f_Ver_lastAccent w e (f_Ver_startOfHalf w e a1) (f_Ver_endOfHalf w e a1)))) (((f_Ver_lastAccent w e (f_Ver_startOfHalf w e a1) (f_Ver_endOfHalf w e a1)) - 1) - (f_Ver_firstAccent w e (f_Ver_startOfHalf w e a1) (f_Ver_lastAccent w e (f_Ver_startOfHalf w e a1) (f_Ver_endOfHalf w e a1))))) else (f_Cad_noteFrom w (b + 5) 1 (a1 - (f_Ver_lastAccent w e (f_Ver_startOfHalf w e a1) (f_Ver_endOfHalf w e a1))) (((f_Ver_endOfHalf w e a1) - 1) - (f_Ver_lastAccent w e (f_Ver_startOfHalf w e a1) (f_Ver_endOfHalf w e a1)))) else if (f_Cad_hasTwoAccents w (b + 2)) = 0 then if a1 < (f_Ver_lastAccent w e (f_Ver_startOfHalf w e a1) (f_Ver_endOfHalf w e a1)) then if (f_Cad_noteAhead w (b + 2) ((f_Ver_lastAccent w e (f_Ver_startOfHalf w e a1) (f_Ver_endOfHalf w e a1)) - a1)) = (-1) then if (f_Ver_startOfHalf w e a1) = 0 then if (w b 3) ≤ a1 then (w b 4) else (f_at w (b + 1) 4 a1) else (w b 4) else (f_Cad_noteAhead w (b + 2) ((f_Ver_lastAccent w e (f_Ver_startOfHalf w e a1) (f_Ver_endOfHalf w e a1)) - a1)) else (f_Cad_noteFrom w (b + 2) 1 (a1 - (f_Ver_lastAccent w e (f_Ver_startOfHalf w e a1) (f_Ver_endOfHalf w e a1))) (((f_Ver_endOfHalf w e a1) - 1) - (f_Ver_lastAccent w e (f_Ver_startOfHalf w e a1) (f_Ver_endOfHalf w e a1)))) else if a1 < (f_Ver_lastAccent w e (f_Ver_startOfHalf w e a1) (f_Ver_endOfHalf w e a1)) then if (f_Ver_firstAccent w e (f_Ver_startOfHalf w e a1) (f_Ver_lastAccent w e (f_Ver_startOfHalf w e a1) (f_Ver_endOfHalf w e a1))) = (-1) then if (f_Cad_noteAhead w (b + 2) ((f_Ver_lastAccent w e (f_Ver_startOfHalf w e a1) (f_Ver_endOfHalf w e a1)) - a1)) = (-1) then if (f_Ver_startOfHalf w e a1) = 0 then if (w b 3) ≤ a1 then (w b 4) else (f_at w (b + 1) 4 a1) else (w b 4) else (f_Cad_noteAhead w (b + 2) ((f_Ver_lastAccent w e (f_Ver_startOfHalf w e a1) (f_Ver_endOfHalf w e a1)) - a1)) else if a1 < (f_Ver_firstAccent w e (f_Ver_startOfHalf w e a1) (f_Ver_lastAccent w e (f_Ver_startOfHalf w e a1) (f_Ver_endOfHalf w e a1))) then if (f_Cad_noteAhead w (b + 2) ((f_Ver_firstAccent w e (f_Ver_startOfHalf w e a1) (f_Ver_lastAccent w e (f_Ver_startOfHalf w e a1) (f_Ver_endOfHalf w e a1))) - a1)) = (-1) then if (f_Ver_startOfHalf w e a1) = 0 then if (w b 3) ≤ a1 then (w b 4) else (f_at w (b + 1) 4 a1) else (w b 4) else (f_Cad_noteAhead w (b + 2) ((f_Ver_firstAccent w e (f_Ver_startOfHalf w e a1) (f_Ver_lastAccent w e (f_Ver_startOfHalf w e a1) (f_Ver_endOfHalf w e a1))) - a1)) else (f_Cad_noteFrom w (b + 2) 0 (a1 - (f_Ver_firstAccent w e (f_Ver_startOfHalf w e a1) (f_Ver_lastAccent w e (f_Ver_startOfHalf w e a1) (f_Ver_endOfHalf w e a1)))) (((f_Ver_lastAccent w e (f_Ver_startOfHalf w e a1) (f_Ver_endOfHalf w e a1)) - 1) - (f_Ver_firstAccent w e (f_Ver_startOfHalf w e a1) (f_Ver_lastAccent w e (f_Ver_startOfHalf w e a1) (f_Ver_endOfHalf w e a1))))) else (f_Cad_noteFrom w (b + 2) 1 (a1 - (f_Ver_lastAccent w e (f_Ver_startOfHalf w e a1) (f_Ver_endOfHalf w e a1))) (((f_Ver_endOfHalf w e a1) - 1) - (f_Ver_lastAccent w e (f_Ver_startOfHalf w e a1) (f_Ver_endOfHalf w e a1))))
theorem sg_Ton_noteAt_0 {zs : List Int32} {b : Nat} (hb : isTon b) {e : Nat} (he : isVer e) {a1 : Int32} {w : Wd} {Q : Option AV → Wd → Prop} (h : (((f_Ver_isFirstHalf w e a1) = 0 → (((f_Cad_hasTwoAccents w (b + 5)) = 0 → ((a1 < (f_Ver_lastAccent w e (f_Ver_startOfHalf w e a1) (f_Ver_endOfHalf w e a1)) → (((f_Cad_noteAhead w (b + 5) ((f_Ver_lastAccent w e (f_Ver_startOfHalf w e a1) (f_Ver_endOfHalf w e a1)) - a1)) = (-1) → (((f_Ver_startOfHalf w e a1) = 0 → (((w b 3) ≤ a1 → Q (some (.inl (w b 4))) w) ∧ (¬ ((w b 3) ≤ a1) → Q (some (.inl (f_at w (b + 1) 4 a1))) w))) ∧ (¬ ((f_Ver_startOfHalf w e a1) = 0) → Q (some (.inl (w b 4))) w))) ∧ (¬ ((f_Cad_noteAhead w (b + 5) ((f_Ver_lastAccent w e (f_Ver_startOfHalf w e a1) (f_Ver_endOfHalf w e a1)) - a1)) = (-1)) → Q (some (.inl (f_Cad_noteAhead w (b + 5) ((f_Ver_lastAccent w e (f_Ver_startOfHalf w e a1) (f_Ver_endOfHalf w e a1)) - a1)))) w))) ∧ (¬ (a1 < (f_Ver_lastAccent w e (f_Ver_startOfHalf w e a1) (f_Ver_endOfHalf w e a1))) → Q (some (.inl (f_Cad_noteFrom w (b + 5) 1 (a1 - (f_Ver_lastAccent w e (f_Ver_startOfHalf w e a1) (f_Ver_endOfHalf w e a1))) (((f_Ver_endOfHalf w e a1) - 1) - (f_Ver_lastAccent w e (f_Ver_startOfHalf w e a1) (f_Ver_endOfHalf w e a1)))))) w))) ∧ (¬ ((f_Cad_hasTwoAccents w (b + 5)) = 0) → ((a1 < (f_Ver_lastAccent w e (f_Ver_startOfHalf w e a1) (f_Ver_endOfHalf w e a1)) → (((f_Ver_firstAccent w e (f_Ver_startOfHalf w e a1) (f_Ver_lastAccent w e (f_Ver_startOfHalf w e a1) (f_Ver_endOfHalf w e a1))) = (-1) → (((f_Cad_noteAhead w (b + 5) ((f_Ver_lastAccent w e (f_Ver_startOfHalf w e a1) (f_Ver_endOfHalf w e a1)) - a1)) = (-1) → (((f_Ver_startOfHalf w e a1) = 0 → (((w b 3) ≤ a1 → Q (some (.inl (w b 4))) w) ∧ (¬ ((w b 3) ≤ a1) → Q (some (.inl (f_at w (b + 1) 4 a1))) w))) ∧ (¬ ((f_Ver_startOfHalf w e a1) = 0) → Q (some (.inl (w b 4))) w))) ∧ (¬ ((f_Cad_noteAhead w (b + 5) ((f_Ver_lastAccent w e (f_Ver_startOfHalf w e a1) (f_Ver_endOfHalf w e a1)) - a1)) = (-1)) → Q (some (.inl (f_Cad_noteAhead w (b + 5) ((f_Ver_lastAccent w e (f_Ver_startOfHalf w e a1) (f_Ver_endOfHalf w e a1)) - a1)))) w))) ∧ (¬ ((f_Ver_firstAccent w e (f_Ver_startOfHalf w e a1) (f_Ver_lastAccent w e (f_Ver_startOfHalf w e a1) (f_Ver_endOfHalf w e a1))) = (-1)) → ((a1 < (f_Ver_firstAccent w e (f_Ver_startOfHalf w e a1) (f_Ver_lastAccent w e (f_Ver_startOfHalf w e a1) (f_Ver_endOfHalf w e a1))) → (((f_Cad_noteAhead w (b + 5) ((f_Ver_firstAccent w e (f_Ver_startOfHalf w e a1) (f_Ver_lastAccent w e (f_Ver_startOfHalf w e a1) (f_Ver_endOfHalf w e a1))) - a1)) = (-1) → (((f_Ver_startOfHalf w e a1) = 0 → (((w b 3) ≤ a1 → Q (some (.inl (w b 4))) w) ∧ (¬ ((w b 3) ≤ a1) → Q (some (.inl (f_at w (b + 1) 4 a1))) w))) ∧ (¬ ((f_Ver_startOfHalf w e a1) = 0) → Q (some (.inl (w b 4))) w))) ∧ (¬ ((f_Cad_noteAhead w (b + 5) ((f_Ver_firstAccent w e (f_Ver_startOfHalf w e a1) (f_Ver_lastAccent w e (f_Ver_startOfHalf w e a1) (f_Ver_endOfHalf w e a1))) - a1)) = (-1)) → Q (some (.inl (f_Cad_noteAhead w (b + 5) ((f_Ver_firstAccent w e (f_Ver_startOfHalf w e a1) (f_Ver_lastAccent w e (f_Ver_startOfHalf w e a1) (f_Ver_endOfHalf w e a1))) - a1)))) w))) ∧ (¬ (a1 < (f_Ver_firstAccent w e (f_Ver_startOfHalf w e a1) (f_Ver_lastAccent w e (f_Ver_startOfHalf w e a1) (f_Ver_endOfHalf w e a1)))) → Q (some (.inl (f_Cad_noteFrom w (b + 5) 0 (a1 - (f_Ver_firstAccent w e (f_Ver_startOfHalf w e a1) (f_Ver_lastAccent w e (f_Ver_startOfHalf w e a1) (f_Ver_endOfHalf w e a1)))) (((f_Ver_lastAccent w e (f_Ver_startOfHalf w e a1) (f_Ver_endOfHalf w e a1)) - 1) - (f_Ver_firstAccent w e (f_Ver_startOfHalf w e a1) (f_Ver_lastAccent w e (f_Ver_startOfHalf w e a1) (f_Ver_endOfHalf w e a1))))))) w))))) ∧ (¬ (a1 < (f_Ver_lastAccent w e (f_Ver_startOfHalf w e a1) (f_Ver_endOfHalf w e a1))) → Q (some (.inl (f_Cad_noteFrom w (b + 5) 1 (a1 - (f_Ver_lastAccent w e (f_Ver_startOfHalf w e a1) (f_Ver_endOfHalf w e a1))) (((f_Ver_endOfHalf w e a1) - 1) - (f_Ver_lastAccent w e (f_Ver_startOfHalf w e a1) (f_Ver_endOfHalf w e a1)))))) w))))) ∧ (¬ ((f_Ver_isFirstHalf w e a1) = 0) → (((f_Cad_hasTwoAccents w (b + 2)) = 0 → ((a1 < (f_Ver_lastAccent w e (f_Ver_startOfHalf w e a1) (f_Ver_endOfHalf w e a1)) → (((f_Cad_noteAhead w (b + 2) ((f_Ver_lastAccent w e (f_Ver_startOfHalf w e a1) (f_Ver_endOfHalf w e a1)) - a1)) = (-1) → (((f_Ver_startOfHalf w e a1) = 0 → (((w b 3) ≤ a1 → Q (some (.inl (w b 4))) w) ∧ (¬ ((w b 3) ≤ a1) → Q (some (.inl (f_at w (b + 1) 4 a1))) w))) ∧ (¬ ((f_Ver_startOfHalf w e a1) = 0) → Q (some (.inl (w b 4))) w))) ∧ (¬ ((f_Cad_noteAhead w (b + 2) ((f_Ver_lastAccent w e (f_Ver_startOfHalf w e a1) (f_Ver_endOfHalf w e a1)) - a1)) = (-1)) → Q (some (.inl (f_Cad_noteAhead w (b + 2) ((f_Ver_lastAccent w e (f_Ver_startOfHalf w e a1) (f_Ver_endOfHalf w e a1)) - a1)))) w))) ∧ (¬ (a1 < (f_Ver_lastAccent w e (f_Ver_startOfHalf w e a1) (f_Ver_endOfHalf w e a1))) → Q (some (.inl (f_Cad_noteFrom w (b + 2) 1 (a1 - (f_Ver_lastAccent w e (f_Ver_startOfHalf w e a1) (f_Ver_endOfHalf w e a1))) (((f_Ver_endOfHalf w e a1) - 1) - (f_Ver_lastAccent w e (f_Ver_startOfHalf w e a1) (f_Ver_endOfHalf w e a1)))))) w))) ∧ (¬ ((f_Cad_hasTwoAccents w (b + 2)) = 0) → ((a1 < (f_Ver_lastAccent w e (f_Ver_startOfHalf w e a1) (f_Ver_endOfHalf w e a1)) → (((f_Ver_firstAccent w e (f_Ver_startOfHalf w e a1) (f_Ver_lastAccent w e (f_Ver_startOfHalf w e a1) (f_Ver_endOfHalf w e a1))) = (-1) → (((f_Cad_noteAhead w (b + 2) ((f_Ver_lastAccent w e (f_Ver_startOfHalf w e a1) (f_Ver_endOfHalf w e a1)) - a1)) = (-1) → (((f_Ver_startOfHalf w e a1) = 0 → (((w b 3) ≤ a1 → Q (some (.inl (w b 4))) w) ∧ (¬ ((w b 3) ≤ a1) → Q (some (.inl (f_at w (b + 1) 4 a1))) w))) ∧ (¬ ((f_Ver_startOfHalf w e a1) = 0) → Q (some (.inl (w b 4))) w))) ∧ (¬ ((f_Cad_noteAhead w (b + 2) ((f_Ver_lastAccent w e (f_Ver_startOfHalf w e a1) (f_Ver_endOfHalf w e a1)) - a1)) = (-1)) → Q (some (.inl (f_Cad_noteAhead w (b + 2) ((f_Ver_lastAccent w e (f_Ver_startOfHalf w e a1) (f_Ver_endOfHalf w e a1)) - a1)))) w))) ∧ (¬ ((f_Ver_firstAccent w e (f_Ver_startOfHalf w e a1) (f_Ver_lastAccent w e (f_Ver_startOfHalf w e a1) (f_Ver_endOfHalf w e a1))) = (-1)) → ((a1 < (f_Ver_firstAccent w e (f_Ver_startOfHalf w e a1) (f_Ver_lastAccent w e (f_Ver_startOfHalf w e a1) (f_Ver_endOfHalf w e a1))) → (((f_Cad_noteAhead w (b + 2) ((f_Ver_firstAccent w e (f_Ver_startOfHalf w e a1) (f_Ver_lastAccent w e (f_Ver_startOfHalf w e a1) (f_Ver_endOfHalf w e a1))) - a1)) = (-1) → (((f_Ver_startOfHalf w e a1) = 0 → (((w b 3) ≤ a1 → Q (some (.inl (w b 4))) w) ∧ (¬ ((w b 3) ≤ a1) → Q (some (.inl (f_at w (b + 1) 4 a1))) w))) ∧ (¬ ((f_Ver_startOfHalf w e a1) = 0) → Q (some (.inl (w b 4))) w))) ∧ (¬ ((f_Cad_noteAhead w (b + 2) ((f_Ver_firstAccent w e (f_Ver_startOfHalf w e a1) (f_Ver_lastAccent w e (f_Ver_startOfHalf w e a1) (f_Ver_endOfHalf w e a1))) - a1)) = (-1)) → Q (some (.inl (f_Cad_noteAhead w (b + 2) ((f_Ver_firstAccent w e (f_Ver_startOfHalf w e a1) (f_Ver_lastAccent w e (f_Ver_startOfHalf w e a1) (f_Ver_endOfHalf w e a1))) - a1)))) w))) ∧ (¬ (a1 < (f_Ver_firstAccent w e (f_Ver_startOfHalf w e a1) (f_Ver_lastAccent w e (f_Ver_startOfHalf w e a1) (f_Ver_endOfHalf w e a1)))) → Q (some (.inl (f_Cad_noteFrom w (b + 2) 0 (a1 - (f_Ver_firstAccent w e (f_Ver_startOfHalf w e a1) (f_Ver_lastAccent w e (f_Ver_startOfHalf w e a1) (f_Ver_endOfHalf w e a1)))) (((f_Ver_lastAccent w e (f_Ver_startOfHalf w e a1) (f_Ver_endOfHalf w e a1)) - 1) - (f_Ver_firstAccent w e (f_Ver_startOfHalf w e a1) (f_Ver_lastAccent w e (f_Ver_startOfHalf w e a1) (f_Ver_endOfHalf w e a1))))))) w))))) ∧ (¬ (a1 < (f_Ver_lastAccent w e (f_Ver_startOfHalf w e a1) (f_Ver_endOfHalf w e a1))) → Q (some (.inl (f_Cad_noteFrom w (b + 2) 1 (a1 - (f_Ver_lastAccent w e (f_Ver_startOfHalf w e a1) (f_Ver_endOfHalf w e a1))) (((f_Ver_endOfHalf w e a1) - 1) - (f_Ver_lastAccent w e (f_Ver_startOfHalf w e a1) (f_Ver_endOfHalf w e a1)))))) w))))))) : Gw zs 2 m_Ton_noteAt 0 [some (.inr (.inl (some b))), some (.inr (.inl (some e))), some (.inl a1), none, none, none, none, none, none] [] w Q := by
  refine gw_aload_n k_Ton_noteAt f_Ton_noteAt_0 rfl ?_
  refine gw_iload_n k_Ton_noteAt f_Ton_noteAt_1 rfl ?_
  refine gw_virtual [.inl a1] k_Ton_noteAt f_Ton_noteAt_2 l_invT_8_51 k_Ver_startOfHalf he.1 rfl rfl rfl (by exact Nat.le_of_ble_eq_true rfl) (dc := 1) (by decide) ?_ rfl
  refine ev_Ver_startOfHalf he ?_
  show Gw zs 2 m_Ton_noteAt 5 [some (.inr (.inl (some b))), some (.inr (.inl (some e))), some (.inl a1), none, none, none, none, none, none] [.inl (f_Ver_startOfHalf w e a1)] w _
  refine gw_istore_n [some (.inr (.inl (some b))), some (.inr (.inl (some e))), some (.inl a1), some (.inl (f_Ver_startOfHalf w e a1)), none, none, none, none, none] k_Ton_noteAt f_Ton_noteAt_5 (Nat.le_of_ble_eq_true rfl) rfl ?_
  refine gw_aload_n k_Ton_noteAt f_Ton_noteAt_6 rfl ?_
  refine gw_iload_n k_Ton_noteAt f_Ton_noteAt_7 rfl ?_
  refine gw_virtual [.inl a1] k_Ton_noteAt f_Ton_noteAt_8 l_invT_8_56 k_Ver_endOfHalf he.1 rfl rfl rfl (by exact Nat.le_of_ble_eq_true rfl) (dc := 1) (by decide) ?_ rfl
  refine ev_Ver_endOfHalf he ?_
  show Gw zs 2 m_Ton_noteAt 11 [some (.inr (.inl (some b))), some (.inr (.inl (some e))), some (.inl a1), some (.inl (f_Ver_startOfHalf w e a1)), none, none, none, none, none] [.inl (f_Ver_endOfHalf w e a1)] w _
  refine gw_istore [some (.inr (.inl (some b))), some (.inr (.inl (some e))), some (.inl a1), some (.inl (f_Ver_startOfHalf w e a1)), some (.inl (f_Ver_endOfHalf w e a1)), none, none, none, none] k_Ton_noteAt f_Ton_noteAt_11 (Nat.le_of_ble_eq_true rfl) rfl ?_
  refine gw_aload_n k_Ton_noteAt f_Ton_noteAt_13 rfl ?_
  refine gw_iload_n k_Ton_noteAt f_Ton_noteAt_14 rfl ?_
  refine gw_virtual [.inl a1] k_Ton_noteAt f_Ton_noteAt_15 l_invT_8_59 k_Ver_isFirstHalf he.1 rfl rfl rfl (by exact Nat.le_of_ble_eq_true rfl) (dc := 0) (by decide) ?_ rfl
  refine ev_Ver_isFirstHalf he ?_
  show Gw zs 2 m_Ton_noteAt 18 [some (.inr (.inl (some b))), some (.inr (.inl (some e))), some (.inl a1), some (.inl (f_Ver_startOfHalf w e a1)), some (.inl (f_Ver_endOfHalf w e a1)), none, none, none, none] [.inl (f_Ver_isFirstHalf w e a1)] w _
  refine gw_if_eq (t := 28) k_Ton_noteAt f_Ton_noteAt_18 rfl (fun c1 => ?_) (fun c1 => ?_)
  · have h := h.1 c1
    refine gw_aload_n k_Ton_noteAt f_Ton_noteAt_28 rfl ?_
    refine gw_getR k_Ton_noteAt f_Ton_noteAt_29 l_fldT_8_22 hb.1 rfl ?_
    refine gw_astore [some (.inr (.inl (some b))), some (.inr (.inl (some e))), some (.inl a1), some (.inl (f_Ver_startOfHalf w e a1)), some (.inl (f_Ver_endOfHalf w e a1)), some (.inr (.inl (some (b + 5)))), none, none, none] k_Ton_noteAt f_Ton_noteAt_32 (Nat.le_of_ble_eq_true rfl) rfl ?_
    refine gw_aload_n k_Ton_noteAt f_Ton_noteAt_34 rfl ?_
    refine gw_iload_n k_Ton_noteAt f_Ton_noteAt_35 rfl ?_
    refine gw_iload k_Ton_noteAt f_Ton_noteAt_36 rfl ?_
    refine gw_virtual [.inl (f_Ver_startOfHalf w e a1), .inl (f_Ver_endOfHalf w e a1)] k_Ton_noteAt f_Ton_noteAt_38 l_invT_8_62 k_Ver_lastAccent he.1 rfl rfl rfl (by exact Nat.le_of_ble_eq_true rfl) (dc := 1) (by decide) ?_ rfl
    refine ev_Ver_lastAccent he ?_
    show Gw zs 2 m_Ton_noteAt 41 [some (.inr (.inl (some b))), some (.inr (.inl (some e))), some (.inl a1), some (.inl (f_Ver_startOfHalf w e a1)), some (.inl (f_Ver_endOfHalf w e a1)), some (.inr (.inl (some (b + 5)))), none, none, none] [.inl (f_Ver_lastAccent w e (f_Ver_startOfHalf w e a1) (f_Ver_endOfHalf w e a1))] w _
    refine gw_istore [some (.inr (.inl (some b))), some (.inr (.inl (some e))), some (.inl a1), some (.inl (f_Ver_startOfHalf w e a1)), some (.inl (f_Ver_endOfHalf w e a1)), some (.inr (.inl (some (b + 5)))), some (.inl (f_Ver_lastAccent w e (f_Ver_startOfHalf w e a1) (f_Ver_endOfHalf w e a1))), none, none] k_Ton_noteAt f_Ton_noteAt_41 (Nat.le_of_ble_eq_true rfl) rfl ?_
    refine gw_aload k_Ton_noteAt f_Ton_noteAt_43 rfl ?_
    refine gw_virtual [] k_Ton_noteAt f_Ton_noteAt_45 l_invT_8_66 k_Cad_hasTwoAccents hb.2.2.2.1 rfl rfl rfl (by exact Nat.le_of_ble_eq_true rfl) (dc := 0) (by decide) ?_ rfl
    refine ev_Cad_hasTwoAccents hb.2.2.2 ?_
    show Gw zs 2 m_Ton_noteAt 48 [some (.inr (.inl (some b))), some (.inr (.inl (some e))), some (.inl a1), some (.inl (f_Ver_startOfHalf w e a1)), some (.inl (f_Ver_endOfHalf w e a1)), some (.inr (.inl (some (b + 5)))), some (.inl (f_Ver_lastAccent w e (f_Ver_startOfHalf w e a1) (f_Ver_endOfHalf w e a1))), none, none] [.inl (f_Cad_hasTwoAccents w (b + 5))] w _
    refine gw_if_eq (t := 61) k_Ton_noteAt f_Ton_noteAt_48 rfl (fun c2 => ?_) (fun c2 => ?_)
    · have h := h.1 c2
      refine gw_iconst k_Ton_noteAt f_Ton_noteAt_61 qc_m1 ?_
      refine gw_istore [some (.inr (.inl (some b))), some (.inr (.inl (some e))), some (.inl a1), some (.inl (f_Ver_startOfHalf w e a1)), some (.inl (f_Ver_endOfHalf w e a1)), some (.inr (.inl (some (b + 5)))), some (.inl (f_Ver_lastAccent w e (f_Ver_startOfHalf w e a1) (f_Ver_endOfHalf w e a1))), some (.inl (-1)), none] k_Ton_noteAt f_Ton_noteAt_62 (Nat.le_of_ble_eq_true rfl) rfl ?_
      refine gw_iload_n k_Ton_noteAt f_Ton_noteAt_64 rfl ?_
      refine gw_iload k_Ton_noteAt f_Ton_noteAt_65 rfl ?_
      refine gw_icmp_lt (t := 88) k_Ton_noteAt f_Ton_noteAt_67 rfl (fun c3 => ?_) (fun c3 => ?_)
      · have h := h.1 c3
        refine gw_iload k_Ton_noteAt f_Ton_noteAt_88 rfl ?_
        refine gw_iconst k_Ton_noteAt f_Ton_noteAt_90 qc_m1 ?_
        refine gw_icmp_eq (t := 118) k_Ton_noteAt f_Ton_noteAt_91 rfl (fun _ => ?_) (fun c => absurd (by decide) c)
        refine gw_aload k_Ton_noteAt f_Ton_noteAt_118 rfl ?_
        refine gw_iload k_Ton_noteAt f_Ton_noteAt_120 rfl ?_
        refine gw_iconst k_Ton_noteAt f_Ton_noteAt_122 qc_m1 ?_
        refine gw_icmp_ne (t := 131) k_Ton_noteAt f_Ton_noteAt_123 rfl (fun c => absurd c (by decide)) (fun _ => ?_)
        refine gw_iload k_Ton_noteAt f_Ton_noteAt_126 rfl ?_
        refine gw_goto (t := 133) k_Ton_noteAt f_Ton_noteAt_128 rfl ?_
        refine gw_iload_n k_Ton_noteAt f_Ton_noteAt_133 rfl ?_
        refine gw_isub k_Ton_noteAt f_Ton_noteAt_134 ?_
        refine gw_virtual [.inl ((f_Ver_lastAccent w e (f_Ver_startOfHalf w e a1) (f_Ver_endOfHalf w e a1)) - a1)] k_Ton_noteAt f_Ton_noteAt_135 l_invT_8_77 k_Cad_noteAhead hb.2.2.2.1 rfl rfl rfl (by exact Nat.le_of_ble_eq_true rfl) (dc := 1) (by decide) ?_ rfl
        refine ev_Cad_noteAhead hb.2.2.2 ?_
        show Gw zs 2 m_Ton_noteAt 138 [some (.inr (.inl (some b))), some (.inr (.inl (some e))), some (.inl a1), some (.inl (f_Ver_startOfHalf w e a1)), some (.inl (f_Ver_endOfHalf w e a1)), some (.inr (.inl (some (b + 5)))), some (.inl (f_Ver_lastAccent w e (f_Ver_startOfHalf w e a1) (f_Ver_endOfHalf w e a1))), some (.inl (-1)), none] [.inl (f_Cad_noteAhead w (b + 5) ((f_Ver_lastAccent w e (f_Ver_startOfHalf w e a1) (f_Ver_endOfHalf w e a1)) - a1))] w _
        refine gw_istore [some (.inr (.inl (some b))), some (.inr (.inl (some e))), some (.inl a1), some (.inl (f_Ver_startOfHalf w e a1)), some (.inl (f_Ver_endOfHalf w e a1)), some (.inr (.inl (some (b + 5)))), some (.inl (f_Ver_lastAccent w e (f_Ver_startOfHalf w e a1) (f_Ver_endOfHalf w e a1))), some (.inl (-1)), some (.inl (f_Cad_noteAhead w (b + 5) ((f_Ver_lastAccent w e (f_Ver_startOfHalf w e a1) (f_Ver_endOfHalf w e a1)) - a1)))] k_Ton_noteAt f_Ton_noteAt_138 (Nat.le_of_ble_eq_true rfl) rfl ?_
        refine gw_iload k_Ton_noteAt f_Ton_noteAt_140 rfl ?_
        refine gw_iconst k_Ton_noteAt f_Ton_noteAt_142 qc_m1 ?_
        refine gw_icmp_eq (t := 149) k_Ton_noteAt f_Ton_noteAt_143 rfl (fun c4 => ?_) (fun c4 => ?_)
        · have h := h.1 c4
          refine gw_iload_n k_Ton_noteAt f_Ton_noteAt_149 rfl ?_
          refine gw_if_ne (t := 172) k_Ton_noteAt f_Ton_noteAt_150 rfl (fun c5 => ?_) (fun c5 => ?_)
          · have h := h.2 c5
            refine gw_aload_n k_Ton_noteAt f_Ton_noteAt_172 rfl ?_
            refine gw_getI k_Ton_noteAt f_Ton_noteAt_173 l_fldT_8_33 hb.1 rfl ?_
            exact gw_iret k_Ton_noteAt f_Ton_noteAt_176 rfl h
          · have c5 := Decidable.not_not.mp c5
            have h := h.1 c5
            refine gw_iload_n k_Ton_noteAt f_Ton_noteAt_153 rfl ?_
            refine gw_aload_n k_Ton_noteAt f_Ton_noteAt_154 rfl ?_
            refine gw_getI k_Ton_noteAt f_Ton_noteAt_155 l_fldT_8_44 hb.1 rfl ?_
            refine gw_icmp_ge (t := 172) k_Ton_noteAt f_Ton_noteAt_158 rfl (fun c6 => ?_) (fun c6 => ?_)
            · have h := h.1 c6
              refine gw_aload_n k_Ton_noteAt f_Ton_noteAt_172 rfl ?_
              refine gw_getI k_Ton_noteAt f_Ton_noteAt_173 l_fldT_8_33 hb.1 rfl ?_
              exact gw_iret k_Ton_noteAt f_Ton_noteAt_176 rfl h
            · have h := h.2 c6
              refine gw_aload_n k_Ton_noteAt f_Ton_noteAt_161 rfl ?_
              refine gw_getR k_Ton_noteAt f_Ton_noteAt_162 l_fldT_8_11 hb.1 rfl ?_
              refine gw_iload_n k_Ton_noteAt f_Ton_noteAt_165 rfl ?_
              refine gw_static [.inr (.inl (some (b + 1))), .inl a1] k_Ton_noteAt f_Ton_noteAt_166 l_invT_8_80 (by decide) k_Bk_at rfl (by exact Nat.le_of_ble_eq_true rfl) (dc := 0) (by decide) ?_ rfl
              refine ev_at hb.2.1 (by decide) ?_
              show Gw zs 2 m_Ton_noteAt 169 [some (.inr (.inl (some b))), some (.inr (.inl (some e))), some (.inl a1), some (.inl (f_Ver_startOfHalf w e a1)), some (.inl (f_Ver_endOfHalf w e a1)), some (.inr (.inl (some (b + 5)))), some (.inl (f_Ver_lastAccent w e (f_Ver_startOfHalf w e a1) (f_Ver_endOfHalf w e a1))), some (.inl (-1)), some (.inl (f_Cad_noteAhead w (b + 5) ((f_Ver_lastAccent w e (f_Ver_startOfHalf w e a1) (f_Ver_endOfHalf w e a1)) - a1)))] [.inl (f_at w (b + 1) 4 a1)] w _
              refine gw_goto (t := 176) k_Ton_noteAt f_Ton_noteAt_169 rfl ?_
              exact gw_iret k_Ton_noteAt f_Ton_noteAt_176 rfl h
        · have h := h.2 c4
          refine gw_iload k_Ton_noteAt f_Ton_noteAt_146 rfl ?_
          exact gw_iret k_Ton_noteAt f_Ton_noteAt_148 rfl h
      · have h := h.2 c3
        refine gw_aload k_Ton_noteAt f_Ton_noteAt_70 rfl ?_
        refine gw_iconst k_Ton_noteAt f_Ton_noteAt_72 qc_1 ?_
        refine gw_iload_n k_Ton_noteAt f_Ton_noteAt_73 rfl ?_
        refine gw_iload k_Ton_noteAt f_Ton_noteAt_74 rfl ?_
        refine gw_isub k_Ton_noteAt f_Ton_noteAt_76 ?_
        refine gw_iload k_Ton_noteAt f_Ton_noteAt_77 rfl ?_
        refine gw_iconst k_Ton_noteAt f_Ton_noteAt_79 qc_1 ?_
        refine gw_isub k_Ton_noteAt f_Ton_noteAt_80 ?_
        refine gw_iload k_Ton_noteAt f_Ton_noteAt_81 rfl ?_
        refine gw_isub k_Ton_noteAt f_Ton_noteAt_83 ?_
        refine gw_virtual [.inl 1, .inl (a1 - (f_Ver_lastAccent w e (f_Ver_startOfHalf w e a1) (f_Ver_endOfHalf w e a1))), .inl (((f_Ver_endOfHalf w e a1) - 1) - (f_Ver_lastAccent w e (f_Ver_startOfHalf w e a1) (f_Ver_endOfHalf w e a1)))] k_Ton_noteAt f_Ton_noteAt_84 l_invT_8_73 k_Cad_noteFrom hb.2.2.2.1 rfl rfl rfl (by exact Nat.le_of_ble_eq_true rfl) (dc := 1) (by decide) ?_ rfl
        refine ev_Cad_noteFrom hb.2.2.2 ?_
        show Gw zs 2 m_Ton_noteAt 87 [some (.inr (.inl (some b))), some (.inr (.inl (some e))), some (.inl a1), some (.inl (f_Ver_startOfHalf w e a1)), some (.inl (f_Ver_endOfHalf w e a1)), some (.inr (.inl (some (b + 5)))), some (.inl (f_Ver_lastAccent w e (f_Ver_startOfHalf w e a1) (f_Ver_endOfHalf w e a1))), some (.inl (-1)), none] [.inl (f_Cad_noteFrom w (b + 5) 1 (a1 - (f_Ver_lastAccent w e (f_Ver_startOfHalf w e a1) (f_Ver_endOfHalf w e a1))) (((f_Ver_endOfHalf w e a1) - 1) - (f_Ver_lastAccent w e (f_Ver_startOfHalf w e a1) (f_Ver_endOfHalf w e a1))))] w _
        exact gw_iret k_Ton_noteAt f_Ton_noteAt_87 rfl h
    · have h := h.2 c2
      refine gw_aload_n k_Ton_noteAt f_Ton_noteAt_51 rfl ?_
      refine gw_iload_n k_Ton_noteAt f_Ton_noteAt_52 rfl ?_
      refine gw_iload k_Ton_noteAt f_Ton_noteAt_53 rfl ?_
      refine gw_virtual [.inl (f_Ver_startOfHalf w e a1), .inl (f_Ver_lastAccent w e (f_Ver_startOfHalf w e a1) (f_Ver_endOfHalf w e a1))] k_Ton_noteAt f_Ton_noteAt_55 l_invT_8_70 k_Ver_firstAccent he.1 rfl rfl rfl (by exact Nat.le_of_ble_eq_true rfl) (dc := 1) (by decide) ?_ rfl
      refine ev_Ver_firstAccent he ?_
      show Gw zs 2 m_Ton_noteAt 58 [some (.inr (.inl (some b))), some (.inr (.inl (some e))), some (.inl a1), some (.inl (f_Ver_startOfHalf w e a1)), some (.inl (f_Ver_endOfHalf w e a1)), some (.inr (.inl (some (b + 5)))), some (.inl (f_Ver_lastAccent w e (f_Ver_startOfHalf w e a1) (f_Ver_endOfHalf w e a1))), none, none] [.inl (f_Ver_firstAccent w e (f_Ver_startOfHalf w e a1) (f_Ver_lastAccent w e (f_Ver_startOfHalf w e a1) (f_Ver_endOfHalf w e a1)))] w _
      refine gw_goto (t := 62) k_Ton_noteAt f_Ton_noteAt_58 rfl ?_
      refine gw_istore [some (.inr (.inl (some b))), some (.inr (.inl (some e))), some (.inl a1), some (.inl (f_Ver_startOfHalf w e a1)), some (.inl (f_Ver_endOfHalf w e a1)), some (.inr (.inl (some (b + 5)))), some (.inl (f_Ver_lastAccent w e (f_Ver_startOfHalf w e a1) (f_Ver_endOfHalf w e a1))), some (.inl (f_Ver_firstAccent w e (f_Ver_startOfHalf w e a1) (f_Ver_lastAccent w e (f_Ver_startOfHalf w e a1) (f_Ver_endOfHalf w e a1)))), none] k_Ton_noteAt f_Ton_noteAt_62 (Nat.le_of_ble_eq_true rfl) rfl ?_
      refine gw_iload_n k_Ton_noteAt f_Ton_noteAt_64 rfl ?_
      refine gw_iload k_Ton_noteAt f_Ton_noteAt_65 rfl ?_
      refine gw_icmp_lt (t := 88) k_Ton_noteAt f_Ton_noteAt_67 rfl (fun c7 => ?_) (fun c7 => ?_)
      · have h := h.1 c7
        refine gw_iload k_Ton_noteAt f_Ton_noteAt_88 rfl ?_
        refine gw_iconst k_Ton_noteAt f_Ton_noteAt_90 qc_m1 ?_
        refine gw_icmp_eq (t := 118) k_Ton_noteAt f_Ton_noteAt_91 rfl (fun c8 => ?_) (fun c8 => ?_)
        · have h := h.1 c8
          refine gw_aload k_Ton_noteAt f_Ton_noteAt_118 rfl ?_
          refine gw_iload k_Ton_noteAt f_Ton_noteAt_120 rfl ?_
          refine gw_iconst k_Ton_noteAt f_Ton_noteAt_122 qc_m1 ?_
          refine gw_icmp_ne (t := 131) k_Ton_noteAt f_Ton_noteAt_123 rfl (fun c => absurd c8 c) (fun _ => ?_)
          refine gw_iload k_Ton_noteAt f_Ton_noteAt_126 rfl ?_
          refine gw_goto (t := 133) k_Ton_noteAt f_Ton_noteAt_128 rfl ?_
          refine gw_iload_n k_Ton_noteAt f_Ton_noteAt_133 rfl ?_
          refine gw_isub k_Ton_noteAt f_Ton_noteAt_134 ?_
          refine gw_virtual [.inl ((f_Ver_lastAccent w e (f_Ver_startOfHalf w e a1) (f_Ver_endOfHalf w e a1)) - a1)] k_Ton_noteAt f_Ton_noteAt_135 l_invT_8_77 k_Cad_noteAhead hb.2.2.2.1 rfl rfl rfl (by exact Nat.le_of_ble_eq_true rfl) (dc := 1) (by decide) ?_ rfl
          refine ev_Cad_noteAhead hb.2.2.2 ?_
          show Gw zs 2 m_Ton_noteAt 138 [some (.inr (.inl (some b))), some (.inr (.inl (some e))), some (.inl a1), some (.inl (f_Ver_startOfHalf w e a1)), some (.inl (f_Ver_endOfHalf w e a1)), some (.inr (.inl (some (b + 5)))), some (.inl (f_Ver_lastAccent w e (f_Ver_startOfHalf w e a1) (f_Ver_endOfHalf w e a1))), some (.inl (f_Ver_firstAccent w e (f_Ver_startOfHalf w e a1) (f_Ver_lastAccent w e (f_Ver_startOfHalf w e a1) (f_Ver_endOfHalf w e a1)))), none] [.inl (f_Cad_noteAhead w (b + 5) ((f_Ver_lastAccent w e (f_Ver_startOfHalf w e a1) (f_Ver_endOfHalf w e a1)) - a1))] w _
          refine gw_istore [some (.inr (.inl (some b))), some (.inr (.inl (some e))), some (.inl a1), some (.inl (f_Ver_startOfHalf w e a1)), some (.inl (f_Ver_endOfHalf w e a1)), some (.inr (.inl (some (b + 5)))), some (.inl (f_Ver_lastAccent w e (f_Ver_startOfHalf w e a1) (f_Ver_endOfHalf w e a1))), some (.inl (f_Ver_firstAccent w e (f_Ver_startOfHalf w e a1) (f_Ver_lastAccent w e (f_Ver_startOfHalf w e a1) (f_Ver_endOfHalf w e a1)))), some (.inl (f_Cad_noteAhead w (b + 5) ((f_Ver_lastAccent w e (f_Ver_startOfHalf w e a1) (f_Ver_endOfHalf w e a1)) - a1)))] k_Ton_noteAt f_Ton_noteAt_138 (Nat.le_of_ble_eq_true rfl) rfl ?_
          refine gw_iload k_Ton_noteAt f_Ton_noteAt_140 rfl ?_
          refine gw_iconst k_Ton_noteAt f_Ton_noteAt_142 qc_m1 ?_
          refine gw_icmp_eq (t := 149) k_Ton_noteAt f_Ton_noteAt_143 rfl (fun c9 => ?_) (fun c9 => ?_)
          · have h := h.1 c9
            refine gw_iload_n k_Ton_noteAt f_Ton_noteAt_149 rfl ?_
            refine gw_if_ne (t := 172) k_Ton_noteAt f_Ton_noteAt_150 rfl (fun c10 => ?_) (fun c10 => ?_)
            · have h := h.2 c10
              refine gw_aload_n k_Ton_noteAt f_Ton_noteAt_172 rfl ?_
              refine gw_getI k_Ton_noteAt f_Ton_noteAt_173 l_fldT_8_33 hb.1 rfl ?_
              exact gw_iret k_Ton_noteAt f_Ton_noteAt_176 rfl h
            · have c10 := Decidable.not_not.mp c10
              have h := h.1 c10
              refine gw_iload_n k_Ton_noteAt f_Ton_noteAt_153 rfl ?_
              refine gw_aload_n k_Ton_noteAt f_Ton_noteAt_154 rfl ?_
              refine gw_getI k_Ton_noteAt f_Ton_noteAt_155 l_fldT_8_44 hb.1 rfl ?_
              refine gw_icmp_ge (t := 172) k_Ton_noteAt f_Ton_noteAt_158 rfl (fun c11 => ?_) (fun c11 => ?_)
              · have h := h.1 c11
                refine gw_aload_n k_Ton_noteAt f_Ton_noteAt_172 rfl ?_
                refine gw_getI k_Ton_noteAt f_Ton_noteAt_173 l_fldT_8_33 hb.1 rfl ?_
                exact gw_iret k_Ton_noteAt f_Ton_noteAt_176 rfl h
              · have h := h.2 c11
                refine gw_aload_n k_Ton_noteAt f_Ton_noteAt_161 rfl ?_
                refine gw_getR k_Ton_noteAt f_Ton_noteAt_162 l_fldT_8_11 hb.1 rfl ?_
                refine gw_iload_n k_Ton_noteAt f_Ton_noteAt_165 rfl ?_
                refine gw_static [.inr (.inl (some (b + 1))), .inl a1] k_Ton_noteAt f_Ton_noteAt_166 l_invT_8_80 (by decide) k_Bk_at rfl (by exact Nat.le_of_ble_eq_true rfl) (dc := 0) (by decide) ?_ rfl
                refine ev_at hb.2.1 (by decide) ?_
                show Gw zs 2 m_Ton_noteAt 169 [some (.inr (.inl (some b))), some (.inr (.inl (some e))), some (.inl a1), some (.inl (f_Ver_startOfHalf w e a1)), some (.inl (f_Ver_endOfHalf w e a1)), some (.inr (.inl (some (b + 5)))), some (.inl (f_Ver_lastAccent w e (f_Ver_startOfHalf w e a1) (f_Ver_endOfHalf w e a1))), some (.inl (f_Ver_firstAccent w e (f_Ver_startOfHalf w e a1) (f_Ver_lastAccent w e (f_Ver_startOfHalf w e a1) (f_Ver_endOfHalf w e a1)))), some (.inl (f_Cad_noteAhead w (b + 5) ((f_Ver_lastAccent w e (f_Ver_startOfHalf w e a1) (f_Ver_endOfHalf w e a1)) - a1)))] [.inl (f_at w (b + 1) 4 a1)] w _
                refine gw_goto (t := 176) k_Ton_noteAt f_Ton_noteAt_169 rfl ?_
                exact gw_iret k_Ton_noteAt f_Ton_noteAt_176 rfl h
          · have h := h.2 c9
            refine gw_iload k_Ton_noteAt f_Ton_noteAt_146 rfl ?_
            exact gw_iret k_Ton_noteAt f_Ton_noteAt_148 rfl h
        · have h := h.2 c8
          refine gw_iload_n k_Ton_noteAt f_Ton_noteAt_94 rfl ?_
          refine gw_iload k_Ton_noteAt f_Ton_noteAt_95 rfl ?_
          refine gw_icmp_lt (t := 118) k_Ton_noteAt f_Ton_noteAt_97 rfl (fun c12 => ?_) (fun c12 => ?_)
          · have h := h.1 c12
            refine gw_aload k_Ton_noteAt f_Ton_noteAt_118 rfl ?_
            refine gw_iload k_Ton_noteAt f_Ton_noteAt_120 rfl ?_
            refine gw_iconst k_Ton_noteAt f_Ton_noteAt_122 qc_m1 ?_
            refine gw_icmp_ne (t := 131) k_Ton_noteAt f_Ton_noteAt_123 rfl (fun _ => ?_) (fun c => absurd (Decidable.not_not.mp c) c8)
            refine gw_iload k_Ton_noteAt f_Ton_noteAt_131 rfl ?_
            refine gw_iload_n k_Ton_noteAt f_Ton_noteAt_133 rfl ?_
            refine gw_isub k_Ton_noteAt f_Ton_noteAt_134 ?_
            refine gw_virtual [.inl ((f_Ver_firstAccent w e (f_Ver_startOfHalf w e a1) (f_Ver_lastAccent w e (f_Ver_startOfHalf w e a1) (f_Ver_endOfHalf w e a1))) - a1)] k_Ton_noteAt f_Ton_noteAt_135 l_invT_8_77 k_Cad_noteAhead hb.2.2.2.1 rfl rfl rfl (by exact Nat.le_of_ble_eq_true rfl) (dc := 1) (by decide) ?_ rfl
            refine ev_Cad_noteAhead hb.2.2.2 ?_
            show Gw zs 2 m_Ton_noteAt 138 [some (.inr (.inl (some b))), some (.inr (.inl (some e))), some (.inl a1), some (.inl (f_Ver_startOfHalf w e a1)), some (.inl (f_Ver_endOfHalf w e a1)), some (.inr (.inl (some (b + 5)))), some (.inl (f_Ver_lastAccent w e (f_Ver_startOfHalf w e a1) (f_Ver_endOfHalf w e a1))), some (.inl (f_Ver_firstAccent w e (f_Ver_startOfHalf w e a1) (f_Ver_lastAccent w e (f_Ver_startOfHalf w e a1) (f_Ver_endOfHalf w e a1)))), none] [.inl (f_Cad_noteAhead w (b + 5) ((f_Ver_firstAccent w e (f_Ver_startOfHalf w e a1) (f_Ver_lastAccent w e (f_Ver_startOfHalf w e a1) (f_Ver_endOfHalf w e a1))) - a1))] w _
            refine gw_istore [some (.inr (.inl (some b))), some (.inr (.inl (some e))), some (.inl a1), some (.inl (f_Ver_startOfHalf w e a1)), some (.inl (f_Ver_endOfHalf w e a1)), some (.inr (.inl (some (b + 5)))), some (.inl (f_Ver_lastAccent w e (f_Ver_startOfHalf w e a1) (f_Ver_endOfHalf w e a1))), some (.inl (f_Ver_firstAccent w e (f_Ver_startOfHalf w e a1) (f_Ver_lastAccent w e (f_Ver_startOfHalf w e a1) (f_Ver_endOfHalf w e a1)))), some (.inl (f_Cad_noteAhead w (b + 5) ((f_Ver_firstAccent w e (f_Ver_startOfHalf w e a1) (f_Ver_lastAccent w e (f_Ver_startOfHalf w e a1) (f_Ver_endOfHalf w e a1))) - a1)))] k_Ton_noteAt f_Ton_noteAt_138 (Nat.le_of_ble_eq_true rfl) rfl ?_
            refine gw_iload k_Ton_noteAt f_Ton_noteAt_140 rfl ?_
            refine gw_iconst k_Ton_noteAt f_Ton_noteAt_142 qc_m1 ?_
            refine gw_icmp_eq (t := 149) k_Ton_noteAt f_Ton_noteAt_143 rfl (fun c13 => ?_) (fun c13 => ?_)
            · have h := h.1 c13
              refine gw_iload_n k_Ton_noteAt f_Ton_noteAt_149 rfl ?_
              refine gw_if_ne (t := 172) k_Ton_noteAt f_Ton_noteAt_150 rfl (fun c14 => ?_) (fun c14 => ?_)
              · have h := h.2 c14
                refine gw_aload_n k_Ton_noteAt f_Ton_noteAt_172 rfl ?_
                refine gw_getI k_Ton_noteAt f_Ton_noteAt_173 l_fldT_8_33 hb.1 rfl ?_
                exact gw_iret k_Ton_noteAt f_Ton_noteAt_176 rfl h
              · have c14 := Decidable.not_not.mp c14
                have h := h.1 c14
                refine gw_iload_n k_Ton_noteAt f_Ton_noteAt_153 rfl ?_
                refine gw_aload_n k_Ton_noteAt f_Ton_noteAt_154 rfl ?_
                refine gw_getI k_Ton_noteAt f_Ton_noteAt_155 l_fldT_8_44 hb.1 rfl ?_
                refine gw_icmp_ge (t := 172) k_Ton_noteAt f_Ton_noteAt_158 rfl (fun c15 => ?_) (fun c15 => ?_)
                · have h := h.1 c15
                  refine gw_aload_n k_Ton_noteAt f_Ton_noteAt_172 rfl ?_
                  refine gw_getI k_Ton_noteAt f_Ton_noteAt_173 l_fldT_8_33 hb.1 rfl ?_
                  exact gw_iret k_Ton_noteAt f_Ton_noteAt_176 rfl h
                · have h := h.2 c15
                  refine gw_aload_n k_Ton_noteAt f_Ton_noteAt_161 rfl ?_
                  refine gw_getR k_Ton_noteAt f_Ton_noteAt_162 l_fldT_8_11 hb.1 rfl ?_
                  refine gw_iload_n k_Ton_noteAt f_Ton_noteAt_165 rfl ?_
                  refine gw_static [.inr (.inl (some (b + 1))), .inl a1] k_Ton_noteAt f_Ton_noteAt_166 l_invT_8_80 (by decide) k_Bk_at rfl (by exact Nat.le_of_ble_eq_true rfl) (dc := 0) (by decide) ?_ rfl
                  refine ev_at hb.2.1 (by decide) ?_
                  show Gw zs 2 m_Ton_noteAt 169 [some (.inr (.inl (some b))), some (.inr (.inl (some e))), some (.inl a1), some (.inl (f_Ver_startOfHalf w e a1)), some (.inl (f_Ver_endOfHalf w e a1)), some (.inr (.inl (some (b + 5)))), some (.inl (f_Ver_lastAccent w e (f_Ver_startOfHalf w e a1) (f_Ver_endOfHalf w e a1))), some (.inl (f_Ver_firstAccent w e (f_Ver_startOfHalf w e a1) (f_Ver_lastAccent w e (f_Ver_startOfHalf w e a1) (f_Ver_endOfHalf w e a1)))), some (.inl (f_Cad_noteAhead w (b + 5) ((f_Ver_firstAccent w e (f_Ver_startOfHalf w e a1) (f_Ver_lastAccent w e (f_Ver_startOfHalf w e a1) (f_Ver_endOfHalf w e a1))) - a1)))] [.inl (f_at w (b + 1) 4 a1)] w _
                  refine gw_goto (t := 176) k_Ton_noteAt f_Ton_noteAt_169 rfl ?_
                  exact gw_iret k_Ton_noteAt f_Ton_noteAt_176 rfl h
            · have h := h.2 c13
              refine gw_iload k_Ton_noteAt f_Ton_noteAt_146 rfl ?_
              exact gw_iret k_Ton_noteAt f_Ton_noteAt_148 rfl h
          · have h := h.2 c12
            refine gw_aload k_Ton_noteAt f_Ton_noteAt_100 rfl ?_
            refine gw_iconst k_Ton_noteAt f_Ton_noteAt_102 qc_0 ?_
            refine gw_iload_n k_Ton_noteAt f_Ton_noteAt_103 rfl ?_
            refine gw_iload k_Ton_noteAt f_Ton_noteAt_104 rfl ?_
            refine gw_isub k_Ton_noteAt f_Ton_noteAt_106 ?_
            refine gw_iload k_Ton_noteAt f_Ton_noteAt_107 rfl ?_
            refine gw_iconst k_Ton_noteAt f_Ton_noteAt_109 qc_1 ?_
            refine gw_isub k_Ton_noteAt f_Ton_noteAt_110 ?_
            refine gw_iload k_Ton_noteAt f_Ton_noteAt_111 rfl ?_
            refine gw_isub k_Ton_noteAt f_Ton_noteAt_113 ?_
            refine gw_virtual [.inl 0, .inl (a1 - (f_Ver_firstAccent w e (f_Ver_startOfHalf w e a1) (f_Ver_lastAccent w e (f_Ver_startOfHalf w e a1) (f_Ver_endOfHalf w e a1)))), .inl (((f_Ver_lastAccent w e (f_Ver_startOfHalf w e a1) (f_Ver_endOfHalf w e a1)) - 1) - (f_Ver_firstAccent w e (f_Ver_startOfHalf w e a1) (f_Ver_lastAccent w e (f_Ver_startOfHalf w e a1) (f_Ver_endOfHalf w e a1))))] k_Ton_noteAt f_Ton_noteAt_114 l_invT_8_73 k_Cad_noteFrom hb.2.2.2.1 rfl rfl rfl (by exact Nat.le_of_ble_eq_true rfl) (dc := 1) (by decide) ?_ rfl
            refine ev_Cad_noteFrom hb.2.2.2 ?_
            show Gw zs 2 m_Ton_noteAt 117 [some (.inr (.inl (some b))), some (.inr (.inl (some e))), some (.inl a1), some (.inl (f_Ver_startOfHalf w e a1)), some (.inl (f_Ver_endOfHalf w e a1)), some (.inr (.inl (some (b + 5)))), some (.inl (f_Ver_lastAccent w e (f_Ver_startOfHalf w e a1) (f_Ver_endOfHalf w e a1))), some (.inl (f_Ver_firstAccent w e (f_Ver_startOfHalf w e a1) (f_Ver_lastAccent w e (f_Ver_startOfHalf w e a1) (f_Ver_endOfHalf w e a1)))), none] [.inl (f_Cad_noteFrom w (b + 5) 0 (a1 - (f_Ver_firstAccent w e (f_Ver_startOfHalf w e a1) (f_Ver_lastAccent w e (f_Ver_startOfHalf w e a1) (f_Ver_endOfHalf w e a1)))) (((f_Ver_lastAccent w e (f_Ver_startOfHalf w e a1) (f_Ver_endOfHalf w e a1)) - 1) - (f_Ver_firstAccent w e (f_Ver_startOfHalf w e a1) (f_Ver_lastAccent w e (f_Ver_startOfHalf w e a1) (f_Ver_endOfHalf w e a1)))))] w _
            exact gw_iret k_Ton_noteAt f_Ton_noteAt_117 rfl h
      · have h := h.2 c7
        refine gw_aload k_Ton_noteAt f_Ton_noteAt_70 rfl ?_
        refine gw_iconst k_Ton_noteAt f_Ton_noteAt_72 qc_1 ?_
        refine gw_iload_n k_Ton_noteAt f_Ton_noteAt_73 rfl ?_
        refine gw_iload k_Ton_noteAt f_Ton_noteAt_74 rfl ?_
        refine gw_isub k_Ton_noteAt f_Ton_noteAt_76 ?_
        refine gw_iload k_Ton_noteAt f_Ton_noteAt_77 rfl ?_
        refine gw_iconst k_Ton_noteAt f_Ton_noteAt_79 qc_1 ?_
        refine gw_isub k_Ton_noteAt f_Ton_noteAt_80 ?_
        refine gw_iload k_Ton_noteAt f_Ton_noteAt_81 rfl ?_
        refine gw_isub k_Ton_noteAt f_Ton_noteAt_83 ?_
        refine gw_virtual [.inl 1, .inl (a1 - (f_Ver_lastAccent w e (f_Ver_startOfHalf w e a1) (f_Ver_endOfHalf w e a1))), .inl (((f_Ver_endOfHalf w e a1) - 1) - (f_Ver_lastAccent w e (f_Ver_startOfHalf w e a1) (f_Ver_endOfHalf w e a1)))] k_Ton_noteAt f_Ton_noteAt_84 l_invT_8_73 k_Cad_noteFrom hb.2.2.2.1 rfl rfl rfl (by exact Nat.le_of_ble_eq_true rfl) (dc := 1) (by decide) ?_ rfl
        refine ev_Cad_noteFrom hb.2.2.2 ?_
        show Gw zs 2 m_Ton_noteAt 87 [some (.inr (.inl (some b))), some (.inr (.inl (some e))), some (.inl a1), some (.inl (f_Ver_startOfHalf w e a1)), some (.inl (f_Ver_endOfHalf w e a1)), some (.inr (.inl (some (b + 5)))), some (.inl (f_Ver_lastAccent w e (f_Ver_startOfHalf w e a1) (f_Ver_endOfHalf w e a1))), some (.inl (f_Ver_firstAccent w e (f_Ver_startOfHalf w e a1) (f_Ver_lastAccent w e (f_Ver_startOfHalf w e a1) (f_Ver_endOfHalf w e a1)))), none] [.inl (f_Cad_noteFrom w (b + 5) 1 (a1 - (f_Ver_lastAccent w e (f_Ver_startOfHalf w e a1) (f_Ver_endOfHalf w e a1))) (((f_Ver_endOfHalf w e a1) - 1) - (f_Ver_lastAccent w e (f_Ver_startOfHalf w e a1) (f_Ver_endOfHalf w e a1))))] w _
        exact gw_iret k_Ton_noteAt f_Ton_noteAt_87 rfl h
  · have h := h.2 c1
    refine gw_aload_n k_Ton_noteAt f_Ton_noteAt_21 rfl ?_
    refine gw_getR k_Ton_noteAt f_Ton_noteAt_22 l_fldT_8_18 hb.1 rfl ?_
    refine gw_goto (t := 32) k_Ton_noteAt f_Ton_noteAt_25 rfl ?_
    refine gw_astore [some (.inr (.inl (some b))), some (.inr (.inl (some e))), some (.inl a1), some (.inl (f_Ver_startOfHalf w e a1)), some (.inl (f_Ver_endOfHalf w e a1)), some (.inr (.inl (some (b + 2)))), none, none, none] k_Ton_noteAt f_Ton_noteAt_32 (Nat.le_of_ble_eq_true rfl) rfl ?_
    refine gw_aload_n k_Ton_noteAt f_Ton_noteAt_34 rfl ?_
    refine gw_iload_n k_Ton_noteAt f_Ton_noteAt_35 rfl ?_
    refine gw_iload k_Ton_noteAt f_Ton_noteAt_36 rfl ?_
    refine gw_virtual [.inl (f_Ver_startOfHalf w e a1), .inl (f_Ver_endOfHalf w e a1)] k_Ton_noteAt f_Ton_noteAt_38 l_invT_8_62 k_Ver_lastAccent he.1 rfl rfl rfl (by exact Nat.le_of_ble_eq_true rfl) (dc := 1) (by decide) ?_ rfl
    refine ev_Ver_lastAccent he ?_
    show Gw zs 2 m_Ton_noteAt 41 [some (.inr (.inl (some b))), some (.inr (.inl (some e))), some (.inl a1), some (.inl (f_Ver_startOfHalf w e a1)), some (.inl (f_Ver_endOfHalf w e a1)), some (.inr (.inl (some (b + 2)))), none, none, none] [.inl (f_Ver_lastAccent w e (f_Ver_startOfHalf w e a1) (f_Ver_endOfHalf w e a1))] w _
    refine gw_istore [some (.inr (.inl (some b))), some (.inr (.inl (some e))), some (.inl a1), some (.inl (f_Ver_startOfHalf w e a1)), some (.inl (f_Ver_endOfHalf w e a1)), some (.inr (.inl (some (b + 2)))), some (.inl (f_Ver_lastAccent w e (f_Ver_startOfHalf w e a1) (f_Ver_endOfHalf w e a1))), none, none] k_Ton_noteAt f_Ton_noteAt_41 (Nat.le_of_ble_eq_true rfl) rfl ?_
    refine gw_aload k_Ton_noteAt f_Ton_noteAt_43 rfl ?_
    refine gw_virtual [] k_Ton_noteAt f_Ton_noteAt_45 l_invT_8_66 k_Cad_hasTwoAccents hb.2.2.1.1 rfl rfl rfl (by exact Nat.le_of_ble_eq_true rfl) (dc := 0) (by decide) ?_ rfl
    refine ev_Cad_hasTwoAccents hb.2.2.1 ?_
    show Gw zs 2 m_Ton_noteAt 48 [some (.inr (.inl (some b))), some (.inr (.inl (some e))), some (.inl a1), some (.inl (f_Ver_startOfHalf w e a1)), some (.inl (f_Ver_endOfHalf w e a1)), some (.inr (.inl (some (b + 2)))), some (.inl (f_Ver_lastAccent w e (f_Ver_startOfHalf w e a1) (f_Ver_endOfHalf w e a1))), none, none] [.inl (f_Cad_hasTwoAccents w (b + 2))] w _
    refine gw_if_eq (t := 61) k_Ton_noteAt f_Ton_noteAt_48 rfl (fun c16 => ?_) (fun c16 => ?_)
    · have h := h.1 c16
      refine gw_iconst k_Ton_noteAt f_Ton_noteAt_61 qc_m1 ?_
      refine gw_istore [some (.inr (.inl (some b))), some (.inr (.inl (some e))), some (.inl a1), some (.inl (f_Ver_startOfHalf w e a1)), some (.inl (f_Ver_endOfHalf w e a1)), some (.inr (.inl (some (b + 2)))), some (.inl (f_Ver_lastAccent w e (f_Ver_startOfHalf w e a1) (f_Ver_endOfHalf w e a1))), some (.inl (-1)), none] k_Ton_noteAt f_Ton_noteAt_62 (Nat.le_of_ble_eq_true rfl) rfl ?_
      refine gw_iload_n k_Ton_noteAt f_Ton_noteAt_64 rfl ?_
      refine gw_iload k_Ton_noteAt f_Ton_noteAt_65 rfl ?_
      refine gw_icmp_lt (t := 88) k_Ton_noteAt f_Ton_noteAt_67 rfl (fun c17 => ?_) (fun c17 => ?_)
      · have h := h.1 c17
        refine gw_iload k_Ton_noteAt f_Ton_noteAt_88 rfl ?_
        refine gw_iconst k_Ton_noteAt f_Ton_noteAt_90 qc_m1 ?_
        refine gw_icmp_eq (t := 118) k_Ton_noteAt f_Ton_noteAt_91 rfl (fun _ => ?_) (fun c => absurd (by decide) c)
        refine gw_aload k_Ton_noteAt f_Ton_noteAt_118 rfl ?_
        refine gw_iload k_Ton_noteAt f_Ton_noteAt_120 rfl ?_
        refine gw_iconst k_Ton_noteAt f_Ton_noteAt_122 qc_m1 ?_
        refine gw_icmp_ne (t := 131) k_Ton_noteAt f_Ton_noteAt_123 rfl (fun c => absurd c (by decide)) (fun _ => ?_)
        refine gw_iload k_Ton_noteAt f_Ton_noteAt_126 rfl ?_
        refine gw_goto (t := 133) k_Ton_noteAt f_Ton_noteAt_128 rfl ?_
        refine gw_iload_n k_Ton_noteAt f_Ton_noteAt_133 rfl ?_
        refine gw_isub k_Ton_noteAt f_Ton_noteAt_134 ?_
        refine gw_virtual [.inl ((f_Ver_lastAccent w e (f_Ver_startOfHalf w e a1) (f_Ver_endOfHalf w e a1)) - a1)] k_Ton_noteAt f_Ton_noteAt_135 l_invT_8_77 k_Cad_noteAhead hb.2.2.1.1 rfl rfl rfl (by exact Nat.le_of_ble_eq_true rfl) (dc := 1) (by decide) ?_ rfl
        refine ev_Cad_noteAhead hb.2.2.1 ?_
        show Gw zs 2 m_Ton_noteAt 138 [some (.inr (.inl (some b))), some (.inr (.inl (some e))), some (.inl a1), some (.inl (f_Ver_startOfHalf w e a1)), some (.inl (f_Ver_endOfHalf w e a1)), some (.inr (.inl (some (b + 2)))), some (.inl (f_Ver_lastAccent w e (f_Ver_startOfHalf w e a1) (f_Ver_endOfHalf w e a1))), some (.inl (-1)), none] [.inl (f_Cad_noteAhead w (b + 2) ((f_Ver_lastAccent w e (f_Ver_startOfHalf w e a1) (f_Ver_endOfHalf w e a1)) - a1))] w _
        refine gw_istore [some (.inr (.inl (some b))), some (.inr (.inl (some e))), some (.inl a1), some (.inl (f_Ver_startOfHalf w e a1)), some (.inl (f_Ver_endOfHalf w e a1)), some (.inr (.inl (some (b + 2)))), some (.inl (f_Ver_lastAccent w e (f_Ver_startOfHalf w e a1) (f_Ver_endOfHalf w e a1))), some (.inl (-1)), some (.inl (f_Cad_noteAhead w (b + 2) ((f_Ver_lastAccent w e (f_Ver_startOfHalf w e a1) (f_Ver_endOfHalf w e a1)) - a1)))] k_Ton_noteAt f_Ton_noteAt_138 (Nat.le_of_ble_eq_true rfl) rfl ?_
        refine gw_iload k_Ton_noteAt f_Ton_noteAt_140 rfl ?_
        refine gw_iconst k_Ton_noteAt f_Ton_noteAt_142 qc_m1 ?_
        refine gw_icmp_eq (t := 149) k_Ton_noteAt f_Ton_noteAt_143 rfl (fun c18 => ?_) (fun c18 => ?_)
        · have h := h.1 c18
          refine gw_iload_n k_Ton_noteAt f_Ton_noteAt_149 rfl ?_
          refine gw_if_ne (t := 172) k_Ton_noteAt f_Ton_noteAt_150 rfl (fun c19 => ?_) (fun c19 => ?_)
          · have h := h.2 c19
            refine gw_aload_n k_Ton_noteAt f_Ton_noteAt_172 rfl ?_
            refine gw_getI k_Ton_noteAt f_Ton_noteAt_173 l_fldT_8_33 hb.1 rfl ?_
            exact gw_iret k_Ton_noteAt f_Ton_noteAt_176 rfl h
          · have c19 := Decidable.not_not.mp c19
            have h := h.1 c19
            refine gw_iload_n k_Ton_noteAt f_Ton_noteAt_153 rfl ?_
            refine gw_aload_n k_Ton_noteAt f_Ton_noteAt_154 rfl ?_
            refine gw_getI k_Ton_noteAt f_Ton_noteAt_155 l_fldT_8_44 hb.1 rfl ?_
            refine gw_icmp_ge (t := 172) k_Ton_noteAt f_Ton_noteAt_158 rfl (fun c20 => ?_) (fun c20 => ?_)
            · have h := h.1 c20
              refine gw_aload_n k_Ton_noteAt f_Ton_noteAt_172 rfl ?_
              refine gw_getI k_Ton_noteAt f_Ton_noteAt_173 l_fldT_8_33 hb.1 rfl ?_
              exact gw_iret k_Ton_noteAt f_Ton_noteAt_176 rfl h
            · have h := h.2 c20
              refine gw_aload_n k_Ton_noteAt f_Ton_noteAt_161 rfl ?_
              refine gw_getR k_Ton_noteAt f_Ton_noteAt_162 l_fldT_8_11 hb.1 rfl ?_
              refine gw_iload_n k_Ton_noteAt f_Ton_noteAt_165 rfl ?_
              refine gw_static [.inr (.inl (some (b + 1))), .inl a1] k_Ton_noteAt f_Ton_noteAt_166 l_invT_8_80 (by decide) k_Bk_at rfl (by exact Nat.le_of_ble_eq_true rfl) (dc := 0) (by decide) ?_ rfl
              refine ev_at hb.2.1 (by decide) ?_
              show Gw zs 2 m_Ton_noteAt 169 [some (.inr (.inl (some b))), some (.inr (.inl (some e))), some (.inl a1), some (.inl (f_Ver_startOfHalf w e a1)), some (.inl (f_Ver_endOfHalf w e a1)), some (.inr (.inl (some (b + 2)))), some (.inl (f_Ver_lastAccent w e (f_Ver_startOfHalf w e a1) (f_Ver_endOfHalf w e a1))), some (.inl (-1)), some (.inl (f_Cad_noteAhead w (b + 2) ((f_Ver_lastAccent w e (f_Ver_startOfHalf w e a1) (f_Ver_endOfHalf w e a1)) - a1)))] [.inl (f_at w (b + 1) 4 a1)] w _
              refine gw_goto (t := 176) k_Ton_noteAt f_Ton_noteAt_169 rfl ?_
              exact gw_iret k_Ton_noteAt f_Ton_noteAt_176 rfl h
        · have h := h.2 c18
          refine gw_iload k_Ton_noteAt f_Ton_noteAt_146 rfl ?_
          exact gw_iret k_Ton_noteAt f_Ton_noteAt_148 rfl h
      · have h := h.2 c17
        refine gw_aload k_Ton_noteAt f_Ton_noteAt_70 rfl ?_
        refine gw_iconst k_Ton_noteAt f_Ton_noteAt_72 qc_1 ?_
        refine gw_iload_n k_Ton_noteAt f_Ton_noteAt_73 rfl ?_
        refine gw_iload k_Ton_noteAt f_Ton_noteAt_74 rfl ?_
        refine gw_isub k_Ton_noteAt f_Ton_noteAt_76 ?_
        refine gw_iload k_Ton_noteAt f_Ton_noteAt_77 rfl ?_
        refine gw_iconst k_Ton_noteAt f_Ton_noteAt_79 qc_1 ?_
        refine gw_isub k_Ton_noteAt f_Ton_noteAt_80 ?_
        refine gw_iload k_Ton_noteAt f_Ton_noteAt_81 rfl ?_
        refine gw_isub k_Ton_noteAt f_Ton_noteAt_83 ?_
        refine gw_virtual [.inl 1, .inl (a1 - (f_Ver_lastAccent w e (f_Ver_startOfHalf w e a1) (f_Ver_endOfHalf w e a1))), .inl (((f_Ver_endOfHalf w e a1) - 1) - (f_Ver_lastAccent w e (f_Ver_startOfHalf w e a1) (f_Ver_endOfHalf w e a1)))] k_Ton_noteAt f_Ton_noteAt_84 l_invT_8_73 k_Cad_noteFrom hb.2.2.1.1 rfl rfl rfl (by exact Nat.le_of_ble_eq_true rfl) (dc := 1) (by decide) ?_ rfl
        refine ev_Cad_noteFrom hb.2.2.1 ?_
        show Gw zs 2 m_Ton_noteAt 87 [some (.inr (.inl (some b))), some (.inr (.inl (some e))), some (.inl a1), some (.inl (f_Ver_startOfHalf w e a1)), some (.inl (f_Ver_endOfHalf w e a1)), some (.inr (.inl (some (b + 2)))), some (.inl (f_Ver_lastAccent w e (f_Ver_startOfHalf w e a1) (f_Ver_endOfHalf w e a1))), some (.inl (-1)), none] [.inl (f_Cad_noteFrom w (b + 2) 1 (a1 - (f_Ver_lastAccent w e (f_Ver_startOfHalf w e a1) (f_Ver_endOfHalf w e a1))) (((f_Ver_endOfHalf w e a1) - 1) - (f_Ver_lastAccent w e (f_Ver_startOfHalf w e a1) (f_Ver_endOfHalf w e a1))))] w _
        exact gw_iret k_Ton_noteAt f_Ton_noteAt_87 rfl h
    · have h := h.2 c16
      refine gw_aload_n k_Ton_noteAt f_Ton_noteAt_51 rfl ?_
      refine gw_iload_n k_Ton_noteAt f_Ton_noteAt_52 rfl ?_
      refine gw_iload k_Ton_noteAt f_Ton_noteAt_53 rfl ?_
      refine gw_virtual [.inl (f_Ver_startOfHalf w e a1), .inl (f_Ver_lastAccent w e (f_Ver_startOfHalf w e a1) (f_Ver_endOfHalf w e a1))] k_Ton_noteAt f_Ton_noteAt_55 l_invT_8_70 k_Ver_firstAccent he.1 rfl rfl rfl (by exact Nat.le_of_ble_eq_true rfl) (dc := 1) (by decide) ?_ rfl
      refine ev_Ver_firstAccent he ?_
      show Gw zs 2 m_Ton_noteAt 58 [some (.inr (.inl (some b))), some (.inr (.inl (some e))), some (.inl a1), some (.inl (f_Ver_startOfHalf w e a1)), some (.inl (f_Ver_endOfHalf w e a1)), some (.inr (.inl (some (b + 2)))), some (.inl (f_Ver_lastAccent w e (f_Ver_startOfHalf w e a1) (f_Ver_endOfHalf w e a1))), none, none] [.inl (f_Ver_firstAccent w e (f_Ver_startOfHalf w e a1) (f_Ver_lastAccent w e (f_Ver_startOfHalf w e a1) (f_Ver_endOfHalf w e a1)))] w _
      refine gw_goto (t := 62) k_Ton_noteAt f_Ton_noteAt_58 rfl ?_
      refine gw_istore [some (.inr (.inl (some b))), some (.inr (.inl (some e))), some (.inl a1), some (.inl (f_Ver_startOfHalf w e a1)), some (.inl (f_Ver_endOfHalf w e a1)), some (.inr (.inl (some (b + 2)))), some (.inl (f_Ver_lastAccent w e (f_Ver_startOfHalf w e a1) (f_Ver_endOfHalf w e a1))), some (.inl (f_Ver_firstAccent w e (f_Ver_startOfHalf w e a1) (f_Ver_lastAccent w e (f_Ver_startOfHalf w e a1) (f_Ver_endOfHalf w e a1)))), none] k_Ton_noteAt f_Ton_noteAt_62 (Nat.le_of_ble_eq_true rfl) rfl ?_
      refine gw_iload_n k_Ton_noteAt f_Ton_noteAt_64 rfl ?_
      refine gw_iload k_Ton_noteAt f_Ton_noteAt_65 rfl ?_
      refine gw_icmp_lt (t := 88) k_Ton_noteAt f_Ton_noteAt_67 rfl (fun c21 => ?_) (fun c21 => ?_)
      · have h := h.1 c21
        refine gw_iload k_Ton_noteAt f_Ton_noteAt_88 rfl ?_
        refine gw_iconst k_Ton_noteAt f_Ton_noteAt_90 qc_m1 ?_
        refine gw_icmp_eq (t := 118) k_Ton_noteAt f_Ton_noteAt_91 rfl (fun c22 => ?_) (fun c22 => ?_)
        · have h := h.1 c22
          refine gw_aload k_Ton_noteAt f_Ton_noteAt_118 rfl ?_
          refine gw_iload k_Ton_noteAt f_Ton_noteAt_120 rfl ?_
          refine gw_iconst k_Ton_noteAt f_Ton_noteAt_122 qc_m1 ?_
          refine gw_icmp_ne (t := 131) k_Ton_noteAt f_Ton_noteAt_123 rfl (fun c => absurd c22 c) (fun _ => ?_)
          refine gw_iload k_Ton_noteAt f_Ton_noteAt_126 rfl ?_
          refine gw_goto (t := 133) k_Ton_noteAt f_Ton_noteAt_128 rfl ?_
          refine gw_iload_n k_Ton_noteAt f_Ton_noteAt_133 rfl ?_
          refine gw_isub k_Ton_noteAt f_Ton_noteAt_134 ?_
          refine gw_virtual [.inl ((f_Ver_lastAccent w e (f_Ver_startOfHalf w e a1) (f_Ver_endOfHalf w e a1)) - a1)] k_Ton_noteAt f_Ton_noteAt_135 l_invT_8_77 k_Cad_noteAhead hb.2.2.1.1 rfl rfl rfl (by exact Nat.le_of_ble_eq_true rfl) (dc := 1) (by decide) ?_ rfl
          refine ev_Cad_noteAhead hb.2.2.1 ?_
          show Gw zs 2 m_Ton_noteAt 138 [some (.inr (.inl (some b))), some (.inr (.inl (some e))), some (.inl a1), some (.inl (f_Ver_startOfHalf w e a1)), some (.inl (f_Ver_endOfHalf w e a1)), some (.inr (.inl (some (b + 2)))), some (.inl (f_Ver_lastAccent w e (f_Ver_startOfHalf w e a1) (f_Ver_endOfHalf w e a1))), some (.inl (f_Ver_firstAccent w e (f_Ver_startOfHalf w e a1) (f_Ver_lastAccent w e (f_Ver_startOfHalf w e a1) (f_Ver_endOfHalf w e a1)))), none] [.inl (f_Cad_noteAhead w (b + 2) ((f_Ver_lastAccent w e (f_Ver_startOfHalf w e a1) (f_Ver_endOfHalf w e a1)) - a1))] w _
          refine gw_istore [some (.inr (.inl (some b))), some (.inr (.inl (some e))), some (.inl a1), some (.inl (f_Ver_startOfHalf w e a1)), some (.inl (f_Ver_endOfHalf w e a1)), some (.inr (.inl (some (b + 2)))), some (.inl (f_Ver_lastAccent w e (f_Ver_startOfHalf w e a1) (f_Ver_endOfHalf w e a1))), some (.inl (f_Ver_firstAccent w e (f_Ver_startOfHalf w e a1) (f_Ver_lastAccent w e (f_Ver_startOfHalf w e a1) (f_Ver_endOfHalf w e a1)))), some (.inl (f_Cad_noteAhead w (b + 2) ((f_Ver_lastAccent w e (f_Ver_startOfHalf w e a1) (f_Ver_endOfHalf w e a1)) - a1)))] k_Ton_noteAt f_Ton_noteAt_138 (Nat.le_of_ble_eq_true rfl) rfl ?_
          refine gw_iload k_Ton_noteAt f_Ton_noteAt_140 rfl ?_
          refine gw_iconst k_Ton_noteAt f_Ton_noteAt_142 qc_m1 ?_
          refine gw_icmp_eq (t := 149) k_Ton_noteAt f_Ton_noteAt_143 rfl (fun c23 => ?_) (fun c23 => ?_)
          · have h := h.1 c23
            refine gw_iload_n k_Ton_noteAt f_Ton_noteAt_149 rfl ?_
            refine gw_if_ne (t := 172) k_Ton_noteAt f_Ton_noteAt_150 rfl (fun c24 => ?_) (fun c24 => ?_)
            · have h := h.2 c24
              refine gw_aload_n k_Ton_noteAt f_Ton_noteAt_172 rfl ?_
              refine gw_getI k_Ton_noteAt f_Ton_noteAt_173 l_fldT_8_33 hb.1 rfl ?_
              exact gw_iret k_Ton_noteAt f_Ton_noteAt_176 rfl h
            · have c24 := Decidable.not_not.mp c24
              have h := h.1 c24
              refine gw_iload_n k_Ton_noteAt f_Ton_noteAt_153 rfl ?_
              refine gw_aload_n k_Ton_noteAt f_Ton_noteAt_154 rfl ?_
              refine gw_getI k_Ton_noteAt f_Ton_noteAt_155 l_fldT_8_44 hb.1 rfl ?_
              refine gw_icmp_ge (t := 172) k_Ton_noteAt f_Ton_noteAt_158 rfl (fun c25 => ?_) (fun c25 => ?_)
              · have h := h.1 c25
                refine gw_aload_n k_Ton_noteAt f_Ton_noteAt_172 rfl ?_
                refine gw_getI k_Ton_noteAt f_Ton_noteAt_173 l_fldT_8_33 hb.1 rfl ?_
                exact gw_iret k_Ton_noteAt f_Ton_noteAt_176 rfl h
              · have h := h.2 c25
                refine gw_aload_n k_Ton_noteAt f_Ton_noteAt_161 rfl ?_
                refine gw_getR k_Ton_noteAt f_Ton_noteAt_162 l_fldT_8_11 hb.1 rfl ?_
                refine gw_iload_n k_Ton_noteAt f_Ton_noteAt_165 rfl ?_
                refine gw_static [.inr (.inl (some (b + 1))), .inl a1] k_Ton_noteAt f_Ton_noteAt_166 l_invT_8_80 (by decide) k_Bk_at rfl (by exact Nat.le_of_ble_eq_true rfl) (dc := 0) (by decide) ?_ rfl
                refine ev_at hb.2.1 (by decide) ?_
                show Gw zs 2 m_Ton_noteAt 169 [some (.inr (.inl (some b))), some (.inr (.inl (some e))), some (.inl a1), some (.inl (f_Ver_startOfHalf w e a1)), some (.inl (f_Ver_endOfHalf w e a1)), some (.inr (.inl (some (b + 2)))), some (.inl (f_Ver_lastAccent w e (f_Ver_startOfHalf w e a1) (f_Ver_endOfHalf w e a1))), some (.inl (f_Ver_firstAccent w e (f_Ver_startOfHalf w e a1) (f_Ver_lastAccent w e (f_Ver_startOfHalf w e a1) (f_Ver_endOfHalf w e a1)))), some (.inl (f_Cad_noteAhead w (b + 2) ((f_Ver_lastAccent w e (f_Ver_startOfHalf w e a1) (f_Ver_endOfHalf w e a1)) - a1)))] [.inl (f_at w (b + 1) 4 a1)] w _
                refine gw_goto (t := 176) k_Ton_noteAt f_Ton_noteAt_169 rfl ?_
                exact gw_iret k_Ton_noteAt f_Ton_noteAt_176 rfl h
          · have h := h.2 c23
            refine gw_iload k_Ton_noteAt f_Ton_noteAt_146 rfl ?_
            exact gw_iret k_Ton_noteAt f_Ton_noteAt_148 rfl h
        · have h := h.2 c22
          refine gw_iload_n k_Ton_noteAt f_Ton_noteAt_94 rfl ?_
          refine gw_iload k_Ton_noteAt f_Ton_noteAt_95 rfl ?_
          refine gw_icmp_lt (t := 118) k_Ton_noteAt f_Ton_noteAt_97 rfl (fun c26 => ?_) (fun c26 => ?_)
          · have h := h.1 c26
            refine gw_aload k_Ton_noteAt f_Ton_noteAt_118 rfl ?_
            refine gw_iload k_Ton_noteAt f_Ton_noteAt_120 rfl ?_
            refine gw_iconst k_Ton_noteAt f_Ton_noteAt_122 qc_m1 ?_
            refine gw_icmp_ne (t := 131) k_Ton_noteAt f_Ton_noteAt_123 rfl (fun _ => ?_) (fun c => absurd (Decidable.not_not.mp c) c22)
            refine gw_iload k_Ton_noteAt f_Ton_noteAt_131 rfl ?_
            refine gw_iload_n k_Ton_noteAt f_Ton_noteAt_133 rfl ?_
            refine gw_isub k_Ton_noteAt f_Ton_noteAt_134 ?_
            refine gw_virtual [.inl ((f_Ver_firstAccent w e (f_Ver_startOfHalf w e a1) (f_Ver_lastAccent w e (f_Ver_startOfHalf w e a1) (f_Ver_endOfHalf w e a1))) - a1)] k_Ton_noteAt f_Ton_noteAt_135 l_invT_8_77 k_Cad_noteAhead hb.2.2.1.1 rfl rfl rfl (by exact Nat.le_of_ble_eq_true rfl) (dc := 1) (by decide) ?_ rfl
            refine ev_Cad_noteAhead hb.2.2.1 ?_
            show Gw zs 2 m_Ton_noteAt 138 [some (.inr (.inl (some b))), some (.inr (.inl (some e))), some (.inl a1), some (.inl (f_Ver_startOfHalf w e a1)), some (.inl (f_Ver_endOfHalf w e a1)), some (.inr (.inl (some (b + 2)))), some (.inl (f_Ver_lastAccent w e (f_Ver_startOfHalf w e a1) (f_Ver_endOfHalf w e a1))), some (.inl (f_Ver_firstAccent w e (f_Ver_startOfHalf w e a1) (f_Ver_lastAccent w e (f_Ver_startOfHalf w e a1) (f_Ver_endOfHalf w e a1)))), none] [.inl (f_Cad_noteAhead w (b + 2) ((f_Ver_firstAccent w e (f_Ver_startOfHalf w e a1) (f_Ver_lastAccent w e (f_Ver_startOfHalf w e a1) (f_Ver_endOfHalf w e a1))) - a1))] w _
            refine gw_istore [some (.inr (.inl (some b))), some (.inr (.inl (some e))), some (.inl a1), some (.inl (f_Ver_startOfHalf w e a1)), some (.inl (f_Ver_endOfHalf w e a1)), some (.inr (.inl (some (b + 2)))), some (.inl (f_Ver_lastAccent w e (f_Ver_startOfHalf w e a1) (f_Ver_endOfHalf w e a1))), some (.inl (f_Ver_firstAccent w e (f_Ver_startOfHalf w e a1) (f_Ver_lastAccent w e (f_Ver_startOfHalf w e a1) (f_Ver_endOfHalf w e a1)))), some (.inl (f_Cad_noteAhead w (b + 2) ((f_Ver_firstAccent w e (f_Ver_startOfHalf w e a1) (f_Ver_lastAccent w e (f_Ver_startOfHalf w e a1) (f_Ver_endOfHalf w e a1))) - a1)))] k_Ton_noteAt f_Ton_noteAt_138 (Nat.le_of_ble_eq_true rfl) rfl ?_
            refine gw_iload k_Ton_noteAt f_Ton_noteAt_140 rfl ?_
            refine gw_iconst k_Ton_noteAt f_Ton_noteAt_142 qc_m1 ?_
            refine gw_icmp_eq (t := 149) k_Ton_noteAt f_Ton_noteAt_143 rfl (fun c27 => ?_) (fun c27 => ?_)
            · have h := h.1 c27
              refine gw_iload_n k_Ton_noteAt f_Ton_noteAt_149 rfl ?_
              refine gw_if_ne (t := 172) k_Ton_noteAt f_Ton_noteAt_150 rfl (fun c28 => ?_) (fun c28 => ?_)
              · have h := h.2 c28
                refine gw_aload_n k_Ton_noteAt f_Ton_noteAt_172 rfl ?_
                refine gw_getI k_Ton_noteAt f_Ton_noteAt_173 l_fldT_8_33 hb.1 rfl ?_
                exact gw_iret k_Ton_noteAt f_Ton_noteAt_176 rfl h
              · have c28 := Decidable.not_not.mp c28
                have h := h.1 c28
                refine gw_iload_n k_Ton_noteAt f_Ton_noteAt_153 rfl ?_
                refine gw_aload_n k_Ton_noteAt f_Ton_noteAt_154 rfl ?_
                refine gw_getI k_Ton_noteAt f_Ton_noteAt_155 l_fldT_8_44 hb.1 rfl ?_
                refine gw_icmp_ge (t := 172) k_Ton_noteAt f_Ton_noteAt_158 rfl (fun c29 => ?_) (fun c29 => ?_)
                · have h := h.1 c29
                  refine gw_aload_n k_Ton_noteAt f_Ton_noteAt_172 rfl ?_
                  refine gw_getI k_Ton_noteAt f_Ton_noteAt_173 l_fldT_8_33 hb.1 rfl ?_
                  exact gw_iret k_Ton_noteAt f_Ton_noteAt_176 rfl h
                · have h := h.2 c29
                  refine gw_aload_n k_Ton_noteAt f_Ton_noteAt_161 rfl ?_
                  refine gw_getR k_Ton_noteAt f_Ton_noteAt_162 l_fldT_8_11 hb.1 rfl ?_
                  refine gw_iload_n k_Ton_noteAt f_Ton_noteAt_165 rfl ?_
                  refine gw_static [.inr (.inl (some (b + 1))), .inl a1] k_Ton_noteAt f_Ton_noteAt_166 l_invT_8_80 (by decide) k_Bk_at rfl (by exact Nat.le_of_ble_eq_true rfl) (dc := 0) (by decide) ?_ rfl
                  refine ev_at hb.2.1 (by decide) ?_
                  show Gw zs 2 m_Ton_noteAt 169 [some (.inr (.inl (some b))), some (.inr (.inl (some e))), some (.inl a1), some (.inl (f_Ver_startOfHalf w e a1)), some (.inl (f_Ver_endOfHalf w e a1)), some (.inr (.inl (some (b + 2)))), some (.inl (f_Ver_lastAccent w e (f_Ver_startOfHalf w e a1) (f_Ver_endOfHalf w e a1))), some (.inl (f_Ver_firstAccent w e (f_Ver_startOfHalf w e a1) (f_Ver_lastAccent w e (f_Ver_startOfHalf w e a1) (f_Ver_endOfHalf w e a1)))), some (.inl (f_Cad_noteAhead w (b + 2) ((f_Ver_firstAccent w e (f_Ver_startOfHalf w e a1) (f_Ver_lastAccent w e (f_Ver_startOfHalf w e a1) (f_Ver_endOfHalf w e a1))) - a1)))] [.inl (f_at w (b + 1) 4 a1)] w _
                  refine gw_goto (t := 176) k_Ton_noteAt f_Ton_noteAt_169 rfl ?_
                  exact gw_iret k_Ton_noteAt f_Ton_noteAt_176 rfl h
            · have h := h.2 c27
              refine gw_iload k_Ton_noteAt f_Ton_noteAt_146 rfl ?_
              exact gw_iret k_Ton_noteAt f_Ton_noteAt_148 rfl h
          · have h := h.2 c26
            refine gw_aload k_Ton_noteAt f_Ton_noteAt_100 rfl ?_
            refine gw_iconst k_Ton_noteAt f_Ton_noteAt_102 qc_0 ?_
            refine gw_iload_n k_Ton_noteAt f_Ton_noteAt_103 rfl ?_
            refine gw_iload k_Ton_noteAt f_Ton_noteAt_104 rfl ?_
            refine gw_isub k_Ton_noteAt f_Ton_noteAt_106 ?_
            refine gw_iload k_Ton_noteAt f_Ton_noteAt_107 rfl ?_
            refine gw_iconst k_Ton_noteAt f_Ton_noteAt_109 qc_1 ?_
            refine gw_isub k_Ton_noteAt f_Ton_noteAt_110 ?_
            refine gw_iload k_Ton_noteAt f_Ton_noteAt_111 rfl ?_
            refine gw_isub k_Ton_noteAt f_Ton_noteAt_113 ?_
            refine gw_virtual [.inl 0, .inl (a1 - (f_Ver_firstAccent w e (f_Ver_startOfHalf w e a1) (f_Ver_lastAccent w e (f_Ver_startOfHalf w e a1) (f_Ver_endOfHalf w e a1)))), .inl (((f_Ver_lastAccent w e (f_Ver_startOfHalf w e a1) (f_Ver_endOfHalf w e a1)) - 1) - (f_Ver_firstAccent w e (f_Ver_startOfHalf w e a1) (f_Ver_lastAccent w e (f_Ver_startOfHalf w e a1) (f_Ver_endOfHalf w e a1))))] k_Ton_noteAt f_Ton_noteAt_114 l_invT_8_73 k_Cad_noteFrom hb.2.2.1.1 rfl rfl rfl (by exact Nat.le_of_ble_eq_true rfl) (dc := 1) (by decide) ?_ rfl
            refine ev_Cad_noteFrom hb.2.2.1 ?_
            show Gw zs 2 m_Ton_noteAt 117 [some (.inr (.inl (some b))), some (.inr (.inl (some e))), some (.inl a1), some (.inl (f_Ver_startOfHalf w e a1)), some (.inl (f_Ver_endOfHalf w e a1)), some (.inr (.inl (some (b + 2)))), some (.inl (f_Ver_lastAccent w e (f_Ver_startOfHalf w e a1) (f_Ver_endOfHalf w e a1))), some (.inl (f_Ver_firstAccent w e (f_Ver_startOfHalf w e a1) (f_Ver_lastAccent w e (f_Ver_startOfHalf w e a1) (f_Ver_endOfHalf w e a1)))), none] [.inl (f_Cad_noteFrom w (b + 2) 0 (a1 - (f_Ver_firstAccent w e (f_Ver_startOfHalf w e a1) (f_Ver_lastAccent w e (f_Ver_startOfHalf w e a1) (f_Ver_endOfHalf w e a1)))) (((f_Ver_lastAccent w e (f_Ver_startOfHalf w e a1) (f_Ver_endOfHalf w e a1)) - 1) - (f_Ver_firstAccent w e (f_Ver_startOfHalf w e a1) (f_Ver_lastAccent w e (f_Ver_startOfHalf w e a1) (f_Ver_endOfHalf w e a1)))))] w _
            exact gw_iret k_Ton_noteAt f_Ton_noteAt_117 rfl h
      · have h := h.2 c21
        refine gw_aload k_Ton_noteAt f_Ton_noteAt_70 rfl ?_
        refine gw_iconst k_Ton_noteAt f_Ton_noteAt_72 qc_1 ?_
        refine gw_iload_n k_Ton_noteAt f_Ton_noteAt_73 rfl ?_
        refine gw_iload k_Ton_noteAt f_Ton_noteAt_74 rfl ?_
        refine gw_isub k_Ton_noteAt f_Ton_noteAt_76 ?_
        refine gw_iload k_Ton_noteAt f_Ton_noteAt_77 rfl ?_
        refine gw_iconst k_Ton_noteAt f_Ton_noteAt_79 qc_1 ?_
        refine gw_isub k_Ton_noteAt f_Ton_noteAt_80 ?_
        refine gw_iload k_Ton_noteAt f_Ton_noteAt_81 rfl ?_
        refine gw_isub k_Ton_noteAt f_Ton_noteAt_83 ?_
        refine gw_virtual [.inl 1, .inl (a1 - (f_Ver_lastAccent w e (f_Ver_startOfHalf w e a1) (f_Ver_endOfHalf w e a1))), .inl (((f_Ver_endOfHalf w e a1) - 1) - (f_Ver_lastAccent w e (f_Ver_startOfHalf w e a1) (f_Ver_endOfHalf w e a1)))] k_Ton_noteAt f_Ton_noteAt_84 l_invT_8_73 k_Cad_noteFrom hb.2.2.1.1 rfl rfl rfl (by exact Nat.le_of_ble_eq_true rfl) (dc := 1) (by decide) ?_ rfl
        refine ev_Cad_noteFrom hb.2.2.1 ?_
        show Gw zs 2 m_Ton_noteAt 87 [some (.inr (.inl (some b))), some (.inr (.inl (some e))), some (.inl a1), some (.inl (f_Ver_startOfHalf w e a1)), some (.inl (f_Ver_endOfHalf w e a1)), some (.inr (.inl (some (b + 2)))), some (.inl (f_Ver_lastAccent w e (f_Ver_startOfHalf w e a1) (f_Ver_endOfHalf w e a1))), some (.inl (f_Ver_firstAccent w e (f_Ver_startOfHalf w e a1) (f_Ver_lastAccent w e (f_Ver_startOfHalf w e a1) (f_Ver_endOfHalf w e a1)))), none] [.inl (f_Cad_noteFrom w (b + 2) 1 (a1 - (f_Ver_lastAccent w e (f_Ver_startOfHalf w e a1) (f_Ver_endOfHalf w e a1))) (((f_Ver_endOfHalf w e a1) - 1) - (f_Ver_lastAccent w e (f_Ver_startOfHalf w e a1) (f_Ver_endOfHalf w e a1))))] w _
        exact gw_iret k_Ton_noteAt f_Ton_noteAt_87 rfl h
theorem ev_Ton_noteAt {zs : List Int32} {b : Nat} (hb : isTon b) {e : Nat} (he : isVer e) {a1 : Int32} {w : Wd} {Q : Option AV → Wd → Prop} (h : Q (some (.inl (f_Ton_noteAt w b e a1))) w) : Ew zs 2 m_Ton_noteAt [.inr (.inl (some b)), .inr (.inl (some e)), .inl a1] w Q := by
  refine ew_of k_Ton_noteAt rfl (sg_Ton_noteAt_0 hb he ?_)
  refine ⟨fun c1 => ?_, fun c1 => ?_⟩
  ·
    refine ⟨fun c2 => ?_, fun c2 => ?_⟩
    ·
      refine ⟨fun c3 => ?_, fun c3 => ?_⟩
      ·
        refine ⟨fun c4 => ?_, fun c4 => ?_⟩
        ·
          refine ⟨fun c5 => ?_, fun c5 => ?_⟩
          ·
            refine ⟨fun c6 => ?_, fun c6 => ?_⟩
            ·
              rw [show f_Ton_noteAt w b e a1 = (w b 4) from by unfold f_Ton_noteAt; rw [if_pos c1, if_pos c2, if_pos c3, if_pos c4, if_pos c5, if_pos c6]] at h
              exact h
            ·
              rw [show f_Ton_noteAt w b e a1 = (f_at w (b + 1) 4 a1) from by unfold f_Ton_noteAt; rw [if_pos c1, if_pos c2, if_pos c3, if_pos c4, if_pos c5, if_neg c6]] at h
              exact h
          ·
            rw [show f_Ton_noteAt w b e a1 = (w b 4) from by unfold f_Ton_noteAt; rw [if_pos c1, if_pos c2, if_pos c3, if_pos c4, if_neg c5]] at h
            exact h
        ·
          rw [show f_Ton_noteAt w b e a1 = (f_Cad_noteAhead w (b + 5) ((f_Ver_lastAccent w e (f_Ver_startOfHalf w e a1) (f_Ver_endOfHalf w e a1)) - a1)) from by unfold f_Ton_noteAt; rw [if_pos c1, if_pos c2, if_pos c3, if_neg c4]] at h
          exact h
      ·
        rw [show f_Ton_noteAt w b e a1 = (f_Cad_noteFrom w (b + 5) 1 (a1 - (f_Ver_lastAccent w e (f_Ver_startOfHalf w e a1) (f_Ver_endOfHalf w e a1))) (((f_Ver_endOfHalf w e a1) - 1) - (f_Ver_lastAccent w e (f_Ver_startOfHalf w e a1) (f_Ver_endOfHalf w e a1)))) from by unfold f_Ton_noteAt; rw [if_pos c1, if_pos c2, if_neg c3]] at h
        exact h
    ·
      refine ⟨fun c7 => ?_, fun c7 => ?_⟩
      ·
        refine ⟨fun c8 => ?_, fun c8 => ?_⟩
        ·
          refine ⟨fun c9 => ?_, fun c9 => ?_⟩
          ·
            refine ⟨fun c10 => ?_, fun c10 => ?_⟩
            ·
              refine ⟨fun c11 => ?_, fun c11 => ?_⟩
              ·
                rw [show f_Ton_noteAt w b e a1 = (w b 4) from by unfold f_Ton_noteAt; rw [if_pos c1, if_neg c2, if_pos c7, if_pos c8, if_pos c9, if_pos c10, if_pos c11]] at h
                exact h
              ·
                rw [show f_Ton_noteAt w b e a1 = (f_at w (b + 1) 4 a1) from by unfold f_Ton_noteAt; rw [if_pos c1, if_neg c2, if_pos c7, if_pos c8, if_pos c9, if_pos c10, if_neg c11]] at h
                exact h
            ·
              rw [show f_Ton_noteAt w b e a1 = (w b 4) from by unfold f_Ton_noteAt; rw [if_pos c1, if_neg c2, if_pos c7, if_pos c8, if_pos c9, if_neg c10]] at h
              exact h
          ·
            rw [show f_Ton_noteAt w b e a1 = (f_Cad_noteAhead w (b + 5) ((f_Ver_lastAccent w e (f_Ver_startOfHalf w e a1) (f_Ver_endOfHalf w e a1)) - a1)) from by unfold f_Ton_noteAt; rw [if_pos c1, if_neg c2, if_pos c7, if_pos c8, if_neg c9]] at h
            exact h
        ·
          refine ⟨fun c12 => ?_, fun c12 => ?_⟩
          ·
            refine ⟨fun c13 => ?_, fun c13 => ?_⟩
            ·
              refine ⟨fun c14 => ?_, fun c14 => ?_⟩
              ·
                refine ⟨fun c15 => ?_, fun c15 => ?_⟩
                ·
                  rw [show f_Ton_noteAt w b e a1 = (w b 4) from by unfold f_Ton_noteAt; rw [if_pos c1, if_neg c2, if_pos c7, if_neg c8, if_pos c12, if_pos c13, if_pos c14, if_pos c15]] at h
                  exact h
                ·
                  rw [show f_Ton_noteAt w b e a1 = (f_at w (b + 1) 4 a1) from by unfold f_Ton_noteAt; rw [if_pos c1, if_neg c2, if_pos c7, if_neg c8, if_pos c12, if_pos c13, if_pos c14, if_neg c15]] at h
                  exact h
              ·
                rw [show f_Ton_noteAt w b e a1 = (w b 4) from by unfold f_Ton_noteAt; rw [if_pos c1, if_neg c2, if_pos c7, if_neg c8, if_pos c12, if_pos c13, if_neg c14]] at h
                exact h
            ·
              rw [show f_Ton_noteAt w b e a1 = (f_Cad_noteAhead w (b + 5) ((f_Ver_firstAccent w e (f_Ver_startOfHalf w e a1) (f_Ver_lastAccent w e (f_Ver_startOfHalf w e a1) (f_Ver_endOfHalf w e a1))) - a1)) from by unfold f_Ton_noteAt; rw [if_pos c1, if_neg c2, if_pos c7, if_neg c8, if_pos c12, if_neg c13]] at h
              exact h
          ·
            rw [show f_Ton_noteAt w b e a1 = (f_Cad_noteFrom w (b + 5) 0 (a1 - (f_Ver_firstAccent w e (f_Ver_startOfHalf w e a1) (f_Ver_lastAccent w e (f_Ver_startOfHalf w e a1) (f_Ver_endOfHalf w e a1)))) (((f_Ver_lastAccent w e (f_Ver_startOfHalf w e a1) (f_Ver_endOfHalf w e a1)) - 1) - (f_Ver_firstAccent w e (f_Ver_startOfHalf w e a1) (f_Ver_lastAccent w e (f_Ver_startOfHalf w e a1) (f_Ver_endOfHalf w e a1))))) from by unfold f_Ton_noteAt; rw [if_pos c1, if_neg c2, if_pos c7, if_neg c8, if_neg c12]] at h
            exact h
      ·
        rw [show f_Ton_noteAt w b e a1 = (f_Cad_noteFrom w (b + 5) 1 (a1 - (f_Ver_lastAccent w e (f_Ver_startOfHalf w e a1) (f_Ver_endOfHalf w e a1))) (((f_Ver_endOfHalf w e a1) - 1) - (f_Ver_lastAccent w e (f_Ver_startOfHalf w e a1) (f_Ver_endOfHalf w e a1)))) from by unfold f_Ton_noteAt; rw [if_pos c1, if_neg c2, if_neg c7]] at h
        exact h
  ·
    refine ⟨fun c16 => ?_, fun c16 => ?_⟩
    ·
      refine ⟨fun c17 => ?_, fun c17 => ?_⟩
      ·
        refine ⟨fun c18 => ?_, fun c18 => ?_⟩
        ·
          refine ⟨fun c19 => ?_, fun c19 => ?_⟩
          ·
            refine ⟨fun c20 => ?_, fun c20 => ?_⟩
            ·
              rw [show f_Ton_noteAt w b e a1 = (w b 4) from by unfold f_Ton_noteAt; rw [if_neg c1, if_pos c16, if_pos c17, if_pos c18, if_pos c19, if_pos c20]] at h
              exact h
            ·
              rw [show f_Ton_noteAt w b e a1 = (f_at w (b + 1) 4 a1) from by unfold f_Ton_noteAt; rw [if_neg c1, if_pos c16, if_pos c17, if_pos c18, if_pos c19, if_neg c20]] at h
              exact h
          ·
            rw [show f_Ton_noteAt w b e a1 = (w b 4) from by unfold f_Ton_noteAt; rw [if_neg c1, if_pos c16, if_pos c17, if_pos c18, if_neg c19]] at h
            exact h
        ·
          rw [show f_Ton_noteAt w b e a1 = (f_Cad_noteAhead w (b + 2) ((f_Ver_lastAccent w e (f_Ver_startOfHalf w e a1) (f_Ver_endOfHalf w e a1)) - a1)) from by unfold f_Ton_noteAt; rw [if_neg c1, if_pos c16, if_pos c17, if_neg c18]] at h
          exact h
      ·
        rw [show f_Ton_noteAt w b e a1 = (f_Cad_noteFrom w (b + 2) 1 (a1 - (f_Ver_lastAccent w e (f_Ver_startOfHalf w e a1) (f_Ver_endOfHalf w e a1))) (((f_Ver_endOfHalf w e a1) - 1) - (f_Ver_lastAccent w e (f_Ver_startOfHalf w e a1) (f_Ver_endOfHalf w e a1)))) from by unfold f_Ton_noteAt; rw [if_neg c1, if_pos c16, if_neg c17]] at h
        exact h
    ·
      refine ⟨fun c21 => ?_, fun c21 => ?_⟩
      ·
        refine ⟨fun c22 => ?_, fun c22 => ?_⟩
        ·
          refine ⟨fun c23 => ?_, fun c23 => ?_⟩
          ·
            refine ⟨fun c24 => ?_, fun c24 => ?_⟩
            ·
              refine ⟨fun c25 => ?_, fun c25 => ?_⟩
              ·
                rw [show f_Ton_noteAt w b e a1 = (w b 4) from by unfold f_Ton_noteAt; rw [if_neg c1, if_neg c16, if_pos c21, if_pos c22, if_pos c23, if_pos c24, if_pos c25]] at h
                exact h
              ·
                rw [show f_Ton_noteAt w b e a1 = (f_at w (b + 1) 4 a1) from by unfold f_Ton_noteAt; rw [if_neg c1, if_neg c16, if_pos c21, if_pos c22, if_pos c23, if_pos c24, if_neg c25]] at h
                exact h
            ·
              rw [show f_Ton_noteAt w b e a1 = (w b 4) from by unfold f_Ton_noteAt; rw [if_neg c1, if_neg c16, if_pos c21, if_pos c22, if_pos c23, if_neg c24]] at h
              exact h
          ·
            rw [show f_Ton_noteAt w b e a1 = (f_Cad_noteAhead w (b + 2) ((f_Ver_lastAccent w e (f_Ver_startOfHalf w e a1) (f_Ver_endOfHalf w e a1)) - a1)) from by unfold f_Ton_noteAt; rw [if_neg c1, if_neg c16, if_pos c21, if_pos c22, if_neg c23]] at h
            exact h
        ·
          refine ⟨fun c26 => ?_, fun c26 => ?_⟩
          ·
            refine ⟨fun c27 => ?_, fun c27 => ?_⟩
            ·
              refine ⟨fun c28 => ?_, fun c28 => ?_⟩
              ·
                refine ⟨fun c29 => ?_, fun c29 => ?_⟩
                ·
                  rw [show f_Ton_noteAt w b e a1 = (w b 4) from by unfold f_Ton_noteAt; rw [if_neg c1, if_neg c16, if_pos c21, if_neg c22, if_pos c26, if_pos c27, if_pos c28, if_pos c29]] at h
                  exact h
                ·
                  rw [show f_Ton_noteAt w b e a1 = (f_at w (b + 1) 4 a1) from by unfold f_Ton_noteAt; rw [if_neg c1, if_neg c16, if_pos c21, if_neg c22, if_pos c26, if_pos c27, if_pos c28, if_neg c29]] at h
                  exact h
              ·
                rw [show f_Ton_noteAt w b e a1 = (w b 4) from by unfold f_Ton_noteAt; rw [if_neg c1, if_neg c16, if_pos c21, if_neg c22, if_pos c26, if_pos c27, if_neg c28]] at h
                exact h
            ·
              rw [show f_Ton_noteAt w b e a1 = (f_Cad_noteAhead w (b + 2) ((f_Ver_firstAccent w e (f_Ver_startOfHalf w e a1) (f_Ver_lastAccent w e (f_Ver_startOfHalf w e a1) (f_Ver_endOfHalf w e a1))) - a1)) from by unfold f_Ton_noteAt; rw [if_neg c1, if_neg c16, if_pos c21, if_neg c22, if_pos c26, if_neg c27]] at h
              exact h
          ·
            rw [show f_Ton_noteAt w b e a1 = (f_Cad_noteFrom w (b + 2) 0 (a1 - (f_Ver_firstAccent w e (f_Ver_startOfHalf w e a1) (f_Ver_lastAccent w e (f_Ver_startOfHalf w e a1) (f_Ver_endOfHalf w e a1)))) (((f_Ver_lastAccent w e (f_Ver_startOfHalf w e a1) (f_Ver_endOfHalf w e a1)) - 1) - (f_Ver_firstAccent w e (f_Ver_startOfHalf w e a1) (f_Ver_lastAccent w e (f_Ver_startOfHalf w e a1) (f_Ver_endOfHalf w e a1))))) from by unfold f_Ton_noteAt; rw [if_neg c1, if_neg c16, if_pos c21, if_neg c22, if_neg c26]] at h
            exact h
      ·
        rw [show f_Ton_noteAt w b e a1 = (f_Cad_noteFrom w (b + 2) 1 (a1 - (f_Ver_lastAccent w e (f_Ver_startOfHalf w e a1) (f_Ver_endOfHalf w e a1))) (((f_Ver_endOfHalf w e a1) - 1) - (f_Ver_lastAccent w e (f_Ver_startOfHalf w e a1) (f_Ver_endOfHalf w e a1)))) from by unfold f_Ton_noteAt; rw [if_neg c1, if_neg c16, if_neg c21]] at h
        exact h
def f_Bk_sing (w : Wd) (a0 : Int32) (a1 : Int32) (a2 : Int32) : Int32 := if a0 < 0 then if a1 < 0 then (-1) else if 9 ≤ a1 then (-1) else (-1) else if 20 ≤ a0 then if a1 < 0 then (-1) else if 9 ≤ a1 then (-1) else (-1) else if a1 < 0 then (-1) else if 9 ≤ a1 then (-1) else if (f_Ver_isSungAt w (104 + 2 * a0.toNatClampNeg) a2) = 0 then (-1) else (f_Ton_noteAt w (31 + 8 * a1.toNatClampNeg) (104 + 2 * a0.toNatClampNeg) a2)
theorem sg_Bk_sing_0 {zs : List Int32} {a0 a1 a2 : Int32} {w : Wd} {Q : Option AV → Wd → Prop} (h : ((a0 < 0 → ((a1 < 0 → Q (some (.inl (-1))) w) ∧ (¬ (a1 < 0) → ((9 ≤ a1 → Q (some (.inl (-1))) w) ∧ (¬ (9 ≤ a1) → Q (some (.inl (-1))) w))))) ∧ (¬ (a0 < 0) → ((20 ≤ a0 → ((a1 < 0 → Q (some (.inl (-1))) w) ∧ (¬ (a1 < 0) → ((9 ≤ a1 → Q (some (.inl (-1))) w) ∧ (¬ (9 ≤ a1) → Q (some (.inl (-1))) w))))) ∧ (¬ (20 ≤ a0) → ((a1 < 0 → Q (some (.inl (-1))) w) ∧ (¬ (a1 < 0) → ((9 ≤ a1 → Q (some (.inl (-1))) w) ∧ (¬ (9 ≤ a1) → (((f_Ver_isSungAt w (104 + 2 * a0.toNatClampNeg) a2) = 0 → Q (some (.inl (-1))) w) ∧ (¬ ((f_Ver_isSungAt w (104 + 2 * a0.toNatClampNeg) a2) = 0) → Q (some (.inl (f_Ton_noteAt w (31 + 8 * a1.toNatClampNeg) (104 + 2 * a0.toNatClampNeg) a2))) w))))))))))) : Gw zs 3 m_Bk_sing 0 [some (.inr (.inl (some 0))), some (.inl a0), some (.inl a1), some (.inl a2), none, none] [] w Q := by
  refine gw_aload_n k_Bk_sing f_Bk_sing_0 rfl ?_
  refine gw_iload_n k_Bk_sing f_Bk_sing_1 rfl ?_
  refine gw_virtual [.inl a0] k_Bk_sing f_Bk_sing_2 l_invT_10_209 k_Bk_verseOf hc0 rfl rfl rfl (by exact Nat.le_of_ble_eq_true rfl) (dc := 0) (by decide) ?_ rfl
  refine ew_of k_Bk_verseOf rfl ?_
  show Gw zs 0 m_Bk_verseOf 0 [some (.inr (.inl (some 0))), some (.inl a0)] [] w _
  refine gw_iload_n k_Bk_verseOf f_Bk_verseOf_0 rfl ?_
  refine gw_if_lt (t := 22) k_Bk_verseOf f_Bk_verseOf_1 rfl (fun c1 => ?_) (fun c1 => ?_)
  · have h := h.1 c1
    refine gw_null k_Bk_verseOf f_Bk_verseOf_22 ?_
    refine gw_aret k_Bk_verseOf f_Bk_verseOf_23 rfl ?_
    show Gw zs 3 m_Bk_sing 5 [some (.inr (.inl (some 0))), some (.inl a0), some (.inl a1), some (.inl a2), none, none] [.inr (.inl none)] w _
    refine gw_astore [some (.inr (.inl (some 0))), some (.inl a0), some (.inl a1), some (.inl a2), some (.inr (.inl none)), none] k_Bk_sing f_Bk_sing_5 (Nat.le_of_ble_eq_true rfl) rfl ?_
    refine gw_aload_n k_Bk_sing f_Bk_sing_7 rfl ?_
    refine gw_iload_n k_Bk_sing f_Bk_sing_8 rfl ?_
    refine gw_virtual [.inl a1] k_Bk_sing f_Bk_sing_9 l_invT_10_187 k_Bk_toneOf hc0 rfl rfl rfl (by exact Nat.le_of_ble_eq_true rfl) (dc := 0) (by decide) ?_ rfl
    refine ew_of k_Bk_toneOf rfl ?_
    show Gw zs 0 m_Bk_toneOf 0 [some (.inr (.inl (some 0))), some (.inl a1)] [] w _
    refine gw_iload_n k_Bk_toneOf f_Bk_toneOf_0 rfl ?_
    refine gw_if_lt (t := 22) k_Bk_toneOf f_Bk_toneOf_1 rfl (fun c2 => ?_) (fun c2 => ?_)
    · have h := h.1 c2
      refine gw_null k_Bk_toneOf f_Bk_toneOf_22 ?_
      refine gw_aret k_Bk_toneOf f_Bk_toneOf_23 rfl ?_
      show Gw zs 3 m_Bk_sing 12 [some (.inr (.inl (some 0))), some (.inl a0), some (.inl a1), some (.inl a2), some (.inr (.inl none)), none] [.inr (.inl none)] w _
      refine gw_astore [some (.inr (.inl (some 0))), some (.inl a0), some (.inl a1), some (.inl a2), some (.inr (.inl none)), some (.inr (.inl none))] k_Bk_sing f_Bk_sing_12 (Nat.le_of_ble_eq_true rfl) rfl ?_
      refine gw_aload k_Bk_sing f_Bk_sing_14 rfl ?_
      refine gw_ifnull_n (t := 33) k_Bk_sing f_Bk_sing_16 rfl ?_
      refine gw_iconst k_Bk_sing f_Bk_sing_33 qc_m1 ?_
      exact gw_iret k_Bk_sing f_Bk_sing_34 rfl h
    · have h := h.2 c2
      refine gw_iload_n k_Bk_toneOf f_Bk_toneOf_4 rfl ?_
      refine gw_aload_n k_Bk_toneOf f_Bk_toneOf_5 rfl ?_
      refine gw_getR k_Bk_toneOf f_Bk_toneOf_6 l_fldT_10_41 hc0 rfl ?_
      refine gw_alenQ k_Bk_toneOf f_Bk_toneOf_9 hc30 qn_9 ?_
      refine gw_icmp_ge (t := 22) k_Bk_toneOf f_Bk_toneOf_10 rfl (fun c3 => ?_) (fun c3 => ?_)
      · have h := h.1 c3
        refine gw_null k_Bk_toneOf f_Bk_toneOf_22 ?_
        refine gw_aret k_Bk_toneOf f_Bk_toneOf_23 rfl ?_
        show Gw zs 3 m_Bk_sing 12 [some (.inr (.inl (some 0))), some (.inl a0), some (.inl a1), some (.inl a2), some (.inr (.inl none)), none] [.inr (.inl none)] w _
        refine gw_astore [some (.inr (.inl (some 0))), some (.inl a0), some (.inl a1), some (.inl a2), some (.inr (.inl none)), some (.inr (.inl none))] k_Bk_sing f_Bk_sing_12 (Nat.le_of_ble_eq_true rfl) rfl ?_
        refine gw_aload k_Bk_sing f_Bk_sing_14 rfl ?_
        refine gw_ifnull_n (t := 33) k_Bk_sing f_Bk_sing_16 rfl ?_
        refine gw_iconst k_Bk_sing f_Bk_sing_33 qc_m1 ?_
        exact gw_iret k_Bk_sing f_Bk_sing_34 rfl h
      · have h := h.2 c3
        refine gw_aload_n k_Bk_toneOf f_Bk_toneOf_13 rfl ?_
        refine gw_getR k_Bk_toneOf f_Bk_toneOf_14 l_fldT_10_41 hc0 rfl ?_
        refine gw_iload_n k_Bk_toneOf f_Bk_toneOf_17 rfl ?_
        have hp4 : vp_in a1 9 := (vin qn_9 (by decide) c2 c3)
        refine gw_aald k_Bk_toneOf f_Bk_toneOf_18 hc30 hp4 (ton_el (vp_lt hp4)) ?_
        have hb5 := ton_is (vp_lt hp4)
        refine gw_goto (t := 23) k_Bk_toneOf f_Bk_toneOf_19 rfl ?_
        refine gw_aret k_Bk_toneOf f_Bk_toneOf_23 rfl ?_
        show Gw zs 3 m_Bk_sing 12 [some (.inr (.inl (some 0))), some (.inl a0), some (.inl a1), some (.inl a2), some (.inr (.inl none)), none] [.inr (.inl (some (31 + 8 * a1.toNatClampNeg)))] w _
        refine gw_astore [some (.inr (.inl (some 0))), some (.inl a0), some (.inl a1), some (.inl a2), some (.inr (.inl none)), some (.inr (.inl (some (31 + 8 * a1.toNatClampNeg))))] k_Bk_sing f_Bk_sing_12 (Nat.le_of_ble_eq_true rfl) rfl ?_
        refine gw_aload k_Bk_sing f_Bk_sing_14 rfl ?_
        refine gw_ifnull_n (t := 33) k_Bk_sing f_Bk_sing_16 rfl ?_
        refine gw_iconst k_Bk_sing f_Bk_sing_33 qc_m1 ?_
        exact gw_iret k_Bk_sing f_Bk_sing_34 rfl h
  · have h := h.2 c1
    refine gw_iload_n k_Bk_verseOf f_Bk_verseOf_4 rfl ?_
    refine gw_aload_n k_Bk_verseOf f_Bk_verseOf_5 rfl ?_
    refine gw_getR k_Bk_verseOf f_Bk_verseOf_6 l_fldT_10_48 hc0 rfl ?_
    refine gw_alenQ k_Bk_verseOf f_Bk_verseOf_9 hc103 qn_20 ?_
    refine gw_icmp_ge (t := 22) k_Bk_verseOf f_Bk_verseOf_10 rfl (fun c6 => ?_) (fun c6 => ?_)
    · have h := h.1 c6
      refine gw_null k_Bk_verseOf f_Bk_verseOf_22 ?_
      refine gw_aret k_Bk_verseOf f_Bk_verseOf_23 rfl ?_
      show Gw zs 3 m_Bk_sing 5 [some (.inr (.inl (some 0))), some (.inl a0), some (.inl a1), some (.inl a2), none, none] [.inr (.inl none)] w _
      refine gw_astore [some (.inr (.inl (some 0))), some (.inl a0), some (.inl a1), some (.inl a2), some (.inr (.inl none)), none] k_Bk_sing f_Bk_sing_5 (Nat.le_of_ble_eq_true rfl) rfl ?_
      refine gw_aload_n k_Bk_sing f_Bk_sing_7 rfl ?_
      refine gw_iload_n k_Bk_sing f_Bk_sing_8 rfl ?_
      refine gw_virtual [.inl a1] k_Bk_sing f_Bk_sing_9 l_invT_10_187 k_Bk_toneOf hc0 rfl rfl rfl (by exact Nat.le_of_ble_eq_true rfl) (dc := 0) (by decide) ?_ rfl
      refine ew_of k_Bk_toneOf rfl ?_
      show Gw zs 0 m_Bk_toneOf 0 [some (.inr (.inl (some 0))), some (.inl a1)] [] w _
      refine gw_iload_n k_Bk_toneOf f_Bk_toneOf_0 rfl ?_
      refine gw_if_lt (t := 22) k_Bk_toneOf f_Bk_toneOf_1 rfl (fun c7 => ?_) (fun c7 => ?_)
      · have h := h.1 c7
        refine gw_null k_Bk_toneOf f_Bk_toneOf_22 ?_
        refine gw_aret k_Bk_toneOf f_Bk_toneOf_23 rfl ?_
        show Gw zs 3 m_Bk_sing 12 [some (.inr (.inl (some 0))), some (.inl a0), some (.inl a1), some (.inl a2), some (.inr (.inl none)), none] [.inr (.inl none)] w _
        refine gw_astore [some (.inr (.inl (some 0))), some (.inl a0), some (.inl a1), some (.inl a2), some (.inr (.inl none)), some (.inr (.inl none))] k_Bk_sing f_Bk_sing_12 (Nat.le_of_ble_eq_true rfl) rfl ?_
        refine gw_aload k_Bk_sing f_Bk_sing_14 rfl ?_
        refine gw_ifnull_n (t := 33) k_Bk_sing f_Bk_sing_16 rfl ?_
        refine gw_iconst k_Bk_sing f_Bk_sing_33 qc_m1 ?_
        exact gw_iret k_Bk_sing f_Bk_sing_34 rfl h
      · have h := h.2 c7
        refine gw_iload_n k_Bk_toneOf f_Bk_toneOf_4 rfl ?_
        refine gw_aload_n k_Bk_toneOf f_Bk_toneOf_5 rfl ?_
        refine gw_getR k_Bk_toneOf f_Bk_toneOf_6 l_fldT_10_41 hc0 rfl ?_
        refine gw_alenQ k_Bk_toneOf f_Bk_toneOf_9 hc30 qn_9 ?_
        refine gw_icmp_ge (t := 22) k_Bk_toneOf f_Bk_toneOf_10 rfl (fun c8 => ?_) (fun c8 => ?_)
        · have h := h.1 c8
          refine gw_null k_Bk_toneOf f_Bk_toneOf_22 ?_
          refine gw_aret k_Bk_toneOf f_Bk_toneOf_23 rfl ?_
          show Gw zs 3 m_Bk_sing 12 [some (.inr (.inl (some 0))), some (.inl a0), some (.inl a1), some (.inl a2), some (.inr (.inl none)), none] [.inr (.inl none)] w _
          refine gw_astore [some (.inr (.inl (some 0))), some (.inl a0), some (.inl a1), some (.inl a2), some (.inr (.inl none)), some (.inr (.inl none))] k_Bk_sing f_Bk_sing_12 (Nat.le_of_ble_eq_true rfl) rfl ?_
          refine gw_aload k_Bk_sing f_Bk_sing_14 rfl ?_
          refine gw_ifnull_n (t := 33) k_Bk_sing f_Bk_sing_16 rfl ?_
          refine gw_iconst k_Bk_sing f_Bk_sing_33 qc_m1 ?_
          exact gw_iret k_Bk_sing f_Bk_sing_34 rfl h
        · have h := h.2 c8
          refine gw_aload_n k_Bk_toneOf f_Bk_toneOf_13 rfl ?_
          refine gw_getR k_Bk_toneOf f_Bk_toneOf_14 l_fldT_10_41 hc0 rfl ?_
          refine gw_iload_n k_Bk_toneOf f_Bk_toneOf_17 rfl ?_
          have hp9 : vp_in a1 9 := (vin qn_9 (by decide) c7 c8)
          refine gw_aald k_Bk_toneOf f_Bk_toneOf_18 hc30 hp9 (ton_el (vp_lt hp9)) ?_
          have hb10 := ton_is (vp_lt hp9)
          refine gw_goto (t := 23) k_Bk_toneOf f_Bk_toneOf_19 rfl ?_
          refine gw_aret k_Bk_toneOf f_Bk_toneOf_23 rfl ?_
          show Gw zs 3 m_Bk_sing 12 [some (.inr (.inl (some 0))), some (.inl a0), some (.inl a1), some (.inl a2), some (.inr (.inl none)), none] [.inr (.inl (some (31 + 8 * a1.toNatClampNeg)))] w _
          refine gw_astore [some (.inr (.inl (some 0))), some (.inl a0), some (.inl a1), some (.inl a2), some (.inr (.inl none)), some (.inr (.inl (some (31 + 8 * a1.toNatClampNeg))))] k_Bk_sing f_Bk_sing_12 (Nat.le_of_ble_eq_true rfl) rfl ?_
          refine gw_aload k_Bk_sing f_Bk_sing_14 rfl ?_
          refine gw_ifnull_n (t := 33) k_Bk_sing f_Bk_sing_16 rfl ?_
          refine gw_iconst k_Bk_sing f_Bk_sing_33 qc_m1 ?_
          exact gw_iret k_Bk_sing f_Bk_sing_34 rfl h
    · have h := h.2 c6
      refine gw_aload_n k_Bk_verseOf f_Bk_verseOf_13 rfl ?_
      refine gw_getR k_Bk_verseOf f_Bk_verseOf_14 l_fldT_10_48 hc0 rfl ?_
      refine gw_iload_n k_Bk_verseOf f_Bk_verseOf_17 rfl ?_
      have hp11 : vp_in a0 20 := (vin qn_20 (by decide) c1 c6)
      refine gw_aald k_Bk_verseOf f_Bk_verseOf_18 hc103 hp11 (ver_el (vp_lt hp11)) ?_
      have hb12 := ver_is (vp_lt hp11)
      refine gw_goto (t := 23) k_Bk_verseOf f_Bk_verseOf_19 rfl ?_
      refine gw_aret k_Bk_verseOf f_Bk_verseOf_23 rfl ?_
      show Gw zs 3 m_Bk_sing 5 [some (.inr (.inl (some 0))), some (.inl a0), some (.inl a1), some (.inl a2), none, none] [.inr (.inl (some (104 + 2 * a0.toNatClampNeg)))] w _
      refine gw_astore [some (.inr (.inl (some 0))), some (.inl a0), some (.inl a1), some (.inl a2), some (.inr (.inl (some (104 + 2 * a0.toNatClampNeg)))), none] k_Bk_sing f_Bk_sing_5 (Nat.le_of_ble_eq_true rfl) rfl ?_
      refine gw_aload_n k_Bk_sing f_Bk_sing_7 rfl ?_
      refine gw_iload_n k_Bk_sing f_Bk_sing_8 rfl ?_
      refine gw_virtual [.inl a1] k_Bk_sing f_Bk_sing_9 l_invT_10_187 k_Bk_toneOf hc0 rfl rfl rfl (by exact Nat.le_of_ble_eq_true rfl) (dc := 0) (by decide) ?_ rfl
      refine ew_of k_Bk_toneOf rfl ?_
      show Gw zs 0 m_Bk_toneOf 0 [some (.inr (.inl (some 0))), some (.inl a1)] [] w _
      refine gw_iload_n k_Bk_toneOf f_Bk_toneOf_0 rfl ?_
      refine gw_if_lt (t := 22) k_Bk_toneOf f_Bk_toneOf_1 rfl (fun c13 => ?_) (fun c13 => ?_)
      · have h := h.1 c13
        refine gw_null k_Bk_toneOf f_Bk_toneOf_22 ?_
        refine gw_aret k_Bk_toneOf f_Bk_toneOf_23 rfl ?_
        show Gw zs 3 m_Bk_sing 12 [some (.inr (.inl (some 0))), some (.inl a0), some (.inl a1), some (.inl a2), some (.inr (.inl (some (104 + 2 * a0.toNatClampNeg)))), none] [.inr (.inl none)] w _
        refine gw_astore [some (.inr (.inl (some 0))), some (.inl a0), some (.inl a1), some (.inl a2), some (.inr (.inl (some (104 + 2 * a0.toNatClampNeg)))), some (.inr (.inl none))] k_Bk_sing f_Bk_sing_12 (Nat.le_of_ble_eq_true rfl) rfl ?_
        refine gw_aload k_Bk_sing f_Bk_sing_14 rfl ?_
        refine gw_ifnull_s k_Bk_sing f_Bk_sing_16 ?_
        refine gw_aload k_Bk_sing f_Bk_sing_19 rfl ?_
        refine gw_ifnull_n (t := 33) k_Bk_sing f_Bk_sing_21 rfl ?_
        refine gw_iconst k_Bk_sing f_Bk_sing_33 qc_m1 ?_
        exact gw_iret k_Bk_sing f_Bk_sing_34 rfl h
      · have h := h.2 c13
        refine gw_iload_n k_Bk_toneOf f_Bk_toneOf_4 rfl ?_
        refine gw_aload_n k_Bk_toneOf f_Bk_toneOf_5 rfl ?_
        refine gw_getR k_Bk_toneOf f_Bk_toneOf_6 l_fldT_10_41 hc0 rfl ?_
        refine gw_alenQ k_Bk_toneOf f_Bk_toneOf_9 hc30 qn_9 ?_
        refine gw_icmp_ge (t := 22) k_Bk_toneOf f_Bk_toneOf_10 rfl (fun c14 => ?_) (fun c14 => ?_)
        · have h := h.1 c14
          refine gw_null k_Bk_toneOf f_Bk_toneOf_22 ?_
          refine gw_aret k_Bk_toneOf f_Bk_toneOf_23 rfl ?_
          show Gw zs 3 m_Bk_sing 12 [some (.inr (.inl (some 0))), some (.inl a0), some (.inl a1), some (.inl a2), some (.inr (.inl (some (104 + 2 * a0.toNatClampNeg)))), none] [.inr (.inl none)] w _
          refine gw_astore [some (.inr (.inl (some 0))), some (.inl a0), some (.inl a1), some (.inl a2), some (.inr (.inl (some (104 + 2 * a0.toNatClampNeg)))), some (.inr (.inl none))] k_Bk_sing f_Bk_sing_12 (Nat.le_of_ble_eq_true rfl) rfl ?_
          refine gw_aload k_Bk_sing f_Bk_sing_14 rfl ?_
          refine gw_ifnull_s k_Bk_sing f_Bk_sing_16 ?_
          refine gw_aload k_Bk_sing f_Bk_sing_19 rfl ?_
          refine gw_ifnull_n (t := 33) k_Bk_sing f_Bk_sing_21 rfl ?_
          refine gw_iconst k_Bk_sing f_Bk_sing_33 qc_m1 ?_
          exact gw_iret k_Bk_sing f_Bk_sing_34 rfl h
        · have h := h.2 c14
          refine gw_aload_n k_Bk_toneOf f_Bk_toneOf_13 rfl ?_
          refine gw_getR k_Bk_toneOf f_Bk_toneOf_14 l_fldT_10_41 hc0 rfl ?_
          refine gw_iload_n k_Bk_toneOf f_Bk_toneOf_17 rfl ?_
          have hp15 : vp_in a1 9 := (vin qn_9 (by decide) c13 c14)
          refine gw_aald k_Bk_toneOf f_Bk_toneOf_18 hc30 hp15 (ton_el (vp_lt hp15)) ?_
          have hb16 := ton_is (vp_lt hp15)
          refine gw_goto (t := 23) k_Bk_toneOf f_Bk_toneOf_19 rfl ?_
          refine gw_aret k_Bk_toneOf f_Bk_toneOf_23 rfl ?_
          show Gw zs 3 m_Bk_sing 12 [some (.inr (.inl (some 0))), some (.inl a0), some (.inl a1), some (.inl a2), some (.inr (.inl (some (104 + 2 * a0.toNatClampNeg)))), none] [.inr (.inl (some (31 + 8 * a1.toNatClampNeg)))] w _
          refine gw_astore [some (.inr (.inl (some 0))), some (.inl a0), some (.inl a1), some (.inl a2), some (.inr (.inl (some (104 + 2 * a0.toNatClampNeg)))), some (.inr (.inl (some (31 + 8 * a1.toNatClampNeg))))] k_Bk_sing f_Bk_sing_12 (Nat.le_of_ble_eq_true rfl) rfl ?_
          refine gw_aload k_Bk_sing f_Bk_sing_14 rfl ?_
          refine gw_ifnull_s k_Bk_sing f_Bk_sing_16 ?_
          refine gw_aload k_Bk_sing f_Bk_sing_19 rfl ?_
          refine gw_ifnull_s k_Bk_sing f_Bk_sing_21 ?_
          refine gw_aload k_Bk_sing f_Bk_sing_24 rfl ?_
          refine gw_iload_n k_Bk_sing f_Bk_sing_26 rfl ?_
          refine gw_virtual [.inl a2] k_Bk_sing f_Bk_sing_27 l_invT_10_220 k_Ver_isSungAt hb12.1 rfl rfl rfl (by exact Nat.le_of_ble_eq_true rfl) (dc := 0) (by decide) ?_ rfl
          refine ev_Ver_isSungAt hb12 ?_
          show Gw zs 3 m_Bk_sing 30 [some (.inr (.inl (some 0))), some (.inl a0), some (.inl a1), some (.inl a2), some (.inr (.inl (some (104 + 2 * a0.toNatClampNeg)))), some (.inr (.inl (some (31 + 8 * a1.toNatClampNeg))))] [.inl (f_Ver_isSungAt w (104 + 2 * a0.toNatClampNeg) a2)] w _
          refine gw_if_ne (t := 35) k_Bk_sing f_Bk_sing_30 rfl (fun c17 => ?_) (fun c17 => ?_)
          · have h := h.2 c17
            refine gw_aload k_Bk_sing f_Bk_sing_35 rfl ?_
            refine gw_aload k_Bk_sing f_Bk_sing_37 rfl ?_
            refine gw_iload_n k_Bk_sing f_Bk_sing_39 rfl ?_
            refine gw_virtual [.inr (.inl (some (104 + 2 * a0.toNatClampNeg))), .inl a2] k_Bk_sing f_Bk_sing_40 l_invT_10_223 k_Ton_noteAt hb16.1 rfl rfl rfl (by exact Nat.le_of_ble_eq_true rfl) (dc := 2) (by decide) ?_ rfl
            refine ev_Ton_noteAt hb16 hb12 ?_
            show Gw zs 3 m_Bk_sing 43 [some (.inr (.inl (some 0))), some (.inl a0), some (.inl a1), some (.inl a2), some (.inr (.inl (some (104 + 2 * a0.toNatClampNeg)))), some (.inr (.inl (some (31 + 8 * a1.toNatClampNeg))))] [.inl (f_Ton_noteAt w (31 + 8 * a1.toNatClampNeg) (104 + 2 * a0.toNatClampNeg) a2)] w _
            exact gw_iret k_Bk_sing f_Bk_sing_43 rfl h
          · have c17 := Decidable.not_not.mp c17
            have h := h.1 c17
            refine gw_iconst k_Bk_sing f_Bk_sing_33 qc_m1 ?_
            exact gw_iret k_Bk_sing f_Bk_sing_34 rfl h
theorem ev_Bk_sing {zs : List Int32} {a0 a1 a2 : Int32} {w : Wd} {Q : Option AV → Wd → Prop} (h : Q (some (.inl (f_Bk_sing w a0 a1 a2))) w) : Ew zs 3 m_Bk_sing [.inr (.inl (some 0)), .inl a0, .inl a1, .inl a2] w Q := by
  refine ew_of k_Bk_sing rfl (sg_Bk_sing_0 ?_)
  refine ⟨fun c1 => ?_, fun c1 => ?_⟩
  ·
    refine ⟨fun c2 => ?_, fun c2 => ?_⟩
    ·
      rw [show f_Bk_sing w a0 a1 a2 = (-1) from by unfold f_Bk_sing; rw [if_pos c1, if_pos c2]] at h
      exact h
    ·
      refine ⟨fun c3 => ?_, fun c3 => ?_⟩
      ·
        rw [show f_Bk_sing w a0 a1 a2 = (-1) from by unfold f_Bk_sing; rw [if_pos c1, if_neg c2, if_pos c3]] at h
        exact h
      ·
        rw [show f_Bk_sing w a0 a1 a2 = (-1) from by unfold f_Bk_sing; rw [if_pos c1, if_neg c2, if_neg c3]] at h
        exact h
  ·
    refine ⟨fun c6 => ?_, fun c6 => ?_⟩
    ·
      refine ⟨fun c7 => ?_, fun c7 => ?_⟩
      ·
        rw [show f_Bk_sing w a0 a1 a2 = (-1) from by unfold f_Bk_sing; rw [if_neg c1, if_pos c6, if_pos c7]] at h
        exact h
      ·
        refine ⟨fun c8 => ?_, fun c8 => ?_⟩
        ·
          rw [show f_Bk_sing w a0 a1 a2 = (-1) from by unfold f_Bk_sing; rw [if_neg c1, if_pos c6, if_neg c7, if_pos c8]] at h
          exact h
        ·
          rw [show f_Bk_sing w a0 a1 a2 = (-1) from by unfold f_Bk_sing; rw [if_neg c1, if_pos c6, if_neg c7, if_neg c8]] at h
          exact h
    ·
      refine ⟨fun c13 => ?_, fun c13 => ?_⟩
      ·
        rw [show f_Bk_sing w a0 a1 a2 = (-1) from by unfold f_Bk_sing; rw [if_neg c1, if_neg c6, if_pos c13]] at h
        exact h
      ·
        refine ⟨fun c14 => ?_, fun c14 => ?_⟩
        ·
          rw [show f_Bk_sing w a0 a1 a2 = (-1) from by unfold f_Bk_sing; rw [if_neg c1, if_neg c6, if_neg c13, if_pos c14]] at h
          exact h
        ·
          refine ⟨fun c17 => ?_, fun c17 => ?_⟩
          ·
            rw [show f_Bk_sing w a0 a1 a2 = (-1) from by unfold f_Bk_sing; rw [if_neg c1, if_neg c6, if_neg c13, if_neg c14, if_pos c17]] at h
            exact h
          ·
            rw [show f_Bk_sing w a0 a1 a2 = (f_Ton_noteAt w (31 + 8 * a1.toNatClampNeg) (104 + 2 * a0.toNatClampNeg) a2) from by unfold f_Bk_sing; rw [if_neg c1, if_neg c6, if_neg c13, if_neg c14, if_neg c17]] at h
            exact h
def f_Cho_join (w : Wd) (a0 : Int32) : Int32 := if 24 ≤ (w 144 5) then (-1) else if (f_Bk_within a0 0 7) = 0 then (-1) else (((w 144 5) + 1) - 1)
def g_Cho_join (w : Wd) (a0 : Int32) : Wd := if 24 ≤ (w 144 5) then w else if (f_Bk_within a0 0 7) = 0 then w else wr (g_put w 145 24 (w 144 5) a0) 144 5 ((w 144 5) + 1)
theorem sg_Cho_join_0 {zs : List Int32} {a0 : Int32} {w : Wd} {Q : Option AV → Wd → Prop} (h : ((24 ≤ (w 144 5) → Q (some (.inl (-1))) w) ∧ (¬ (24 ≤ (w 144 5)) → (((f_Bk_within a0 0 7) = 0 → Q (some (.inl (-1))) w) ∧ (¬ ((f_Bk_within a0 0 7) = 0) → Q (some (.inl (((w 144 5) + 1) - 1))) (wr (g_put w 145 24 (w 144 5) a0) 144 5 ((w 144 5) + 1))))))) : Gw zs 1 m_Cho_join 0 [some (.inr (.inl (some 144))), some (.inl a0)] [] w Q := by
  refine gw_aload_n k_Cho_join f_Cho_join_0 rfl ?_
  refine gw_getI k_Cho_join f_Cho_join_1 l_fldT_2_27 hc144 rfl ?_
  refine gw_bipush k_Cho_join f_Cho_join_4 qb_24 ?_
  refine gw_icmp_ge (t := 19) k_Cho_join f_Cho_join_6 rfl (fun c1 => ?_) (fun c1 => ?_)
  · have h := h.1 c1
    refine gw_iconst k_Cho_join f_Cho_join_19 qc_m1 ?_
    exact gw_iret k_Cho_join f_Cho_join_20 rfl h
  · have h := h.2 c1
    refine gw_iload_n k_Cho_join f_Cho_join_9 rfl ?_
    refine gw_iconst k_Cho_join f_Cho_join_10 qc_0 ?_
    refine gw_bipush k_Cho_join f_Cho_join_11 qb_7 ?_
    refine gw_static [.inl a0, .inl 0, .inl 7] k_Cho_join f_Cho_join_13 l_invT_2_31 (by decide) k_Bk_within rfl (by exact Nat.le_of_ble_eq_true rfl) (dc := 0) (by decide) ?_ rfl
    refine ev_Bk_within ?_
    show Gw zs 1 m_Cho_join 16 [some (.inr (.inl (some 144))), some (.inl a0)] [.inl (f_Bk_within a0 0 7)] w _
    refine gw_if_ne (t := 21) k_Cho_join f_Cho_join_16 rfl (fun c2 => ?_) (fun c2 => ?_)
    · have h := h.2 c2
      refine gw_aload_n k_Cho_join f_Cho_join_21 rfl ?_
      refine gw_getR k_Cho_join f_Cho_join_22 l_fldT_2_11 hc144 rfl ?_
      refine gw_aload_n k_Cho_join f_Cho_join_25 rfl ?_
      refine gw_getI k_Cho_join f_Cho_join_26 l_fldT_2_27 hc144 rfl ?_
      refine gw_iload_n k_Cho_join f_Cho_join_29 rfl ?_
      refine gw_static [.inr (.inl (some 145)), .inl (w 144 5), .inl a0] k_Cho_join f_Cho_join_30 l_invT_2_35 (by decide) k_Bk_put rfl (by exact Nat.le_of_ble_eq_true rfl) (dc := 0) (by decide) ?_ rfl
      refine ev_put hc145 (by decide) ?_
      show Gw zs 1 m_Cho_join 33 [some (.inr (.inl (some 144))), some (.inl a0)] [] (g_put w 145 24 (w 144 5) a0) _
      refine gw_aload_n k_Cho_join f_Cho_join_33 rfl ?_
      refine gw_dup k_Cho_join f_Cho_join_34 ?_
      refine gw_getI k_Cho_join f_Cho_join_35 l_fldT_2_27 hc144 rfl ?_
      rw [show (g_put w 145 24 (w 144 5) a0) 144 5 = w 144 5 from g_put_ne (by decide)]
      refine gw_iconst k_Cho_join f_Cho_join_38 qc_1 ?_
      refine gw_iadd k_Cho_join f_Cho_join_39 ?_
      refine gw_put k_Cho_join f_Cho_join_40 l_fldT_2_27 hc144 rfl rfl rfl rfl rfl ?_
      refine gw_aload_n k_Cho_join f_Cho_join_43 rfl ?_
      refine gw_getI k_Cho_join f_Cho_join_44 l_fldT_2_27 hc144 rfl ?_
      rw [show (wr (g_put w 145 24 (w 144 5) a0) 144 5 ((w 144 5) + 1)) 144 5 = (w 144 5) + 1 from wr_eq]
      refine gw_iconst k_Cho_join f_Cho_join_47 qc_1 ?_
      refine gw_isub k_Cho_join f_Cho_join_48 ?_
      exact gw_iret k_Cho_join f_Cho_join_49 rfl h
    · have c2 := Decidable.not_not.mp c2
      have h := h.1 c2
      refine gw_iconst k_Cho_join f_Cho_join_19 qc_m1 ?_
      exact gw_iret k_Cho_join f_Cho_join_20 rfl h
theorem ev_Cho_join {zs : List Int32} {a0 : Int32} {w : Wd} {Q : Option AV → Wd → Prop} (h : Q (some (.inl (f_Cho_join w a0))) (g_Cho_join w a0)) : Ew zs 1 m_Cho_join [.inr (.inl (some 144)), .inl a0] w Q := by
  refine ew_of k_Cho_join rfl (sg_Cho_join_0 ?_)
  refine ⟨fun c1 => ?_, fun c1 => ?_⟩
  ·
    rw [show f_Cho_join w a0 = (-1) from by unfold f_Cho_join; rw [if_pos c1]] at h
    rw [show g_Cho_join w a0 = w from by unfold g_Cho_join; rw [if_pos c1]] at h
    exact h
  ·
    refine ⟨fun c2 => ?_, fun c2 => ?_⟩
    ·
      rw [show f_Cho_join w a0 = (-1) from by unfold f_Cho_join; rw [if_neg c1, if_pos c2]] at h
      rw [show g_Cho_join w a0 = w from by unfold g_Cho_join; rw [if_neg c1, if_pos c2]] at h
      exact h
    ·
      rw [show f_Cho_join w a0 = (((w 144 5) + 1) - 1) from by unfold f_Cho_join; rw [if_neg c1, if_neg c2]] at h
      rw [show g_Cho_join w a0 = (wr (g_put w 145 24 (w 144 5) a0) 144 5 ((w 144 5) + 1)) from by unfold g_Cho_join; rw [if_neg c1, if_neg c2]] at h
      exact h
theorem gn_Cho_join {w : Wd} {a0 : Int32} {c k : Nat} (h : c ∉ [144, 145]) : g_Cho_join w a0 c k = w c k := by
  simp only [List.mem_cons, List.not_mem_nil, or_false, not_or] at h
  unfold g_Cho_join
  repeat' split
  all_goals simp [wr, g_put_ne, h]
def f_Bk_monk (w : Wd) (a0 : Int32) : Int32 := (f_Cho_join w a0)
def g_Bk_monk (w : Wd) (a0 : Int32) : Wd := g_Cho_join w a0
theorem sg_Bk_monk_0 {zs : List Int32} {a0 : Int32} {w : Wd} {Q : Option AV → Wd → Prop} (h : Q (some (.inl (f_Cho_join w a0))) (g_Cho_join w a0)) : Gw zs 2 m_Bk_monk 0 [some (.inr (.inl (some 0))), some (.inl a0)] [] w Q := by
  refine gw_aload_n k_Bk_monk f_Bk_monk_0 rfl ?_
  refine gw_getR k_Bk_monk f_Bk_monk_1 l_fldT_10_56 hc0 rfl ?_
  refine gw_iload_n k_Bk_monk f_Bk_monk_4 rfl ?_
  refine gw_virtual [.inl a0] k_Bk_monk f_Bk_monk_5 l_invT_10_227 k_Cho_join hc144 rfl rfl rfl (by exact Nat.le_of_ble_eq_true rfl) (dc := 1) (by decide) ?_ rfl
  refine ev_Cho_join ?_
  show Gw zs 2 m_Bk_monk 8 [some (.inr (.inl (some 0))), some (.inl a0)] [.inl (f_Cho_join w a0)] (g_Cho_join w a0) _
  exact gw_iret k_Bk_monk f_Bk_monk_8 rfl h
theorem ev_Bk_monk {zs : List Int32} {a0 : Int32} {w : Wd} {Q : Option AV → Wd → Prop} (h : Q (some (.inl (f_Bk_monk w a0))) (g_Bk_monk w a0)) : Ew zs 2 m_Bk_monk [.inr (.inl (some 0)), .inl a0] w Q := by
  refine ew_of k_Bk_monk rfl (sg_Bk_monk_0 ?_)
  rw [show f_Bk_monk w a0 = (f_Cho_join w a0) from by unfold f_Bk_monk; rfl] at h
  rw [show g_Bk_monk w a0 = (g_Cho_join w a0) from by unfold g_Bk_monk; rfl] at h
  exact h
theorem gn_Bk_monk {w : Wd} {a0 : Int32} {c k : Nat} (h : c ∉ [144, 145]) : g_Bk_monk w a0 c k = w c k := by
  simp only [List.mem_cons, List.not_mem_nil, or_false, not_or] at h
  unfold g_Bk_monk
  repeat' split
  all_goals simp [wr, gn_Cho_join, h]
def f_Cho_hasMonk (w : Wd) (a0 : Int32) : Int32 := if a0 < 0 then 0 else if (w 144 5) ≤ a0 then 0 else 1
theorem sg_Cho_hasMonk_0 {zs : List Int32} {a0 : Int32} {w : Wd} {Q : Option AV → Wd → Prop} (h : ((a0 < 0 → Q (some (.inl 0)) w) ∧ (¬ (a0 < 0) → (((w 144 5) ≤ a0 → Q (some (.inl 0)) w) ∧ (¬ ((w 144 5) ≤ a0) → Q (some (.inl 1)) w))))) : Gw zs 0 m_Cho_hasMonk 0 [some (.inr (.inl (some 144))), some (.inl a0)] [] w Q := by
  refine gw_iload_n k_Cho_hasMonk f_Cho_hasMonk_0 rfl ?_
  refine gw_if_lt (t := 16) k_Cho_hasMonk f_Cho_hasMonk_1 rfl (fun c1 => ?_) (fun c1 => ?_)
  · have h := h.1 c1
    refine gw_iconst k_Cho_hasMonk f_Cho_hasMonk_16 qc_0 ?_
    exact gw_zret k_Cho_hasMonk f_Cho_hasMonk_17 rfl (Or.inl rfl) h
  · have h := h.2 c1
    refine gw_iload_n k_Cho_hasMonk f_Cho_hasMonk_4 rfl ?_
    refine gw_aload_n k_Cho_hasMonk f_Cho_hasMonk_5 rfl ?_
    refine gw_getI k_Cho_hasMonk f_Cho_hasMonk_6 l_fldT_2_27 hc144 rfl ?_
    refine gw_icmp_ge (t := 16) k_Cho_hasMonk f_Cho_hasMonk_9 rfl (fun c2 => ?_) (fun c2 => ?_)
    · have h := h.1 c2
      refine gw_iconst k_Cho_hasMonk f_Cho_hasMonk_16 qc_0 ?_
      exact gw_zret k_Cho_hasMonk f_Cho_hasMonk_17 rfl (Or.inl rfl) h
    · have h := h.2 c2
      refine gw_iconst k_Cho_hasMonk f_Cho_hasMonk_12 qc_1 ?_
      refine gw_goto (t := 17) k_Cho_hasMonk f_Cho_hasMonk_13 rfl ?_
      exact gw_zret k_Cho_hasMonk f_Cho_hasMonk_17 rfl (Or.inr rfl) h
theorem ev_Cho_hasMonk {zs : List Int32} {a0 : Int32} {w : Wd} {Q : Option AV → Wd → Prop} (h : Q (some (.inl (f_Cho_hasMonk w a0))) w) : Ew zs 0 m_Cho_hasMonk [.inr (.inl (some 144)), .inl a0] w Q := by
  refine ew_of k_Cho_hasMonk rfl (sg_Cho_hasMonk_0 ?_)
  refine ⟨fun c1 => ?_, fun c1 => ?_⟩
  ·
    rw [show f_Cho_hasMonk w a0 = 0 from by unfold f_Cho_hasMonk; rw [if_pos c1]] at h
    exact h
  ·
    refine ⟨fun c2 => ?_, fun c2 => ?_⟩
    ·
      rw [show f_Cho_hasMonk w a0 = 0 from by unfold f_Cho_hasMonk; rw [if_neg c1, if_pos c2]] at h
      exact h
    ·
      rw [show f_Cho_hasMonk w a0 = 1 from by unfold f_Cho_hasMonk; rw [if_neg c1, if_neg c2]] at h
      exact h
theorem fb_Cho_hasMonk {w : Wd} {a0 : Int32} : f_Cho_hasMonk w a0 = 0 ∨ f_Cho_hasMonk w a0 = 1 := by
  unfold f_Cho_hasMonk
  exact (if01 (Or.inl rfl) (if01 (Or.inl rfl) (Or.inr rfl)))
def f_Cho_sendAway (w : Wd) (a0 : Int32) (a1 : Int32) (a2 : Int32) (a3 : Int32) : Int32 := if 60 ≤ (w 144 6) then (-1) else if (f_Cho_hasMonk w a0) = 0 then (-1) else if (f_Day_isYear a1) = 0 then (-1) else if a2 < 0 then (-1) else if (f_Bk_within a3 a2 ((f_Day_lengthOf a1) - 1)) = 0 then (-1) else ((w 144 6) + 1)
def g_Cho_sendAway (w : Wd) (a0 : Int32) (a1 : Int32) (a2 : Int32) (a3 : Int32) : Wd := if 60 ≤ (w 144 6) then w else if (f_Cho_hasMonk w a0) = 0 then w else if (f_Day_isYear a1) = 0 then w else if a2 < 0 then w else if (f_Bk_within a3 a2 ((f_Day_lengthOf a1) - 1)) = 0 then w else wr (g_put (g_put (g_put (g_put w 146 60 (w 144 6) a0) 147 60 (w 144 6) a1) 148 60 (w 144 6) a2) 149 60 (w 144 6) a3) 144 6 ((w 144 6) + 1)
theorem sg_Cho_sendAway_0 {zs : List Int32} {a0 a1 a2 a3 : Int32} {w : Wd} {Q : Option AV → Wd → Prop} (h : ((60 ≤ (w 144 6) → Q (some (.inl (-1))) w) ∧ (¬ (60 ≤ (w 144 6)) → (((f_Cho_hasMonk w a0) = 0 → Q (some (.inl (-1))) w) ∧ (¬ ((f_Cho_hasMonk w a0) = 0) → (((f_Day_isYear a1) = 0 → Q (some (.inl (-1))) w) ∧ (¬ ((f_Day_isYear a1) = 0) → ((a2 < 0 → Q (some (.inl (-1))) w) ∧ (¬ (a2 < 0) → (((f_Bk_within a3 a2 ((f_Day_lengthOf a1) - 1)) = 0 → Q (some (.inl (-1))) w) ∧ (¬ ((f_Bk_within a3 a2 ((f_Day_lengthOf a1) - 1)) = 0) → Q (some (.inl ((w 144 6) + 1))) (wr (g_put (g_put (g_put (g_put w 146 60 (w 144 6) a0) 147 60 (w 144 6) a1) 148 60 (w 144 6) a2) 149 60 (w 144 6) a3) 144 6 ((w 144 6) + 1))))))))))))) : Gw zs 2 m_Cho_sendAway 0 [some (.inr (.inl (some 144))), some (.inl a0), some (.inl a1), some (.inl a2), some (.inl a3)] [] w Q := by
  refine gw_aload_n k_Cho_sendAway f_Cho_sendAway_0 rfl ?_
  refine gw_getI k_Cho_sendAway f_Cho_sendAway_1 l_fldT_2_39 hc144 rfl ?_
  refine gw_bipush k_Cho_sendAway f_Cho_sendAway_4 qb_60 ?_
  refine gw_icmp_ge (t := 24) k_Cho_sendAway f_Cho_sendAway_6 rfl (fun c1 => ?_) (fun c1 => ?_)
  · have h := h.1 c1
    refine gw_iconst k_Cho_sendAway f_Cho_sendAway_24 qc_m1 ?_
    exact gw_iret k_Cho_sendAway f_Cho_sendAway_25 rfl h
  · have h := h.2 c1
    refine gw_aload_n k_Cho_sendAway f_Cho_sendAway_9 rfl ?_
    refine gw_iload_n k_Cho_sendAway f_Cho_sendAway_10 rfl ?_
    refine gw_virtual [.inl a0] k_Cho_sendAway f_Cho_sendAway_11 l_invT_2_42 k_Cho_hasMonk hc144 rfl rfl rfl (by exact Nat.le_of_ble_eq_true rfl) (dc := 0) (by decide) ?_ rfl
    refine ev_Cho_hasMonk ?_
    show Gw zs 2 m_Cho_sendAway 14 [some (.inr (.inl (some 144))), some (.inl a0), some (.inl a1), some (.inl a2), some (.inl a3)] [.inl (f_Cho_hasMonk w a0)] w _
    refine gw_if_eq (t := 24) k_Cho_sendAway f_Cho_sendAway_14 rfl (fun c2 => ?_) (fun c2 => ?_)
    · have h := h.1 c2
      refine gw_iconst k_Cho_sendAway f_Cho_sendAway_24 qc_m1 ?_
      exact gw_iret k_Cho_sendAway f_Cho_sendAway_25 rfl h
    · have h := h.2 c2
      refine gw_iload_n k_Cho_sendAway f_Cho_sendAway_17 rfl ?_
      refine gw_static [.inl a1] k_Cho_sendAway f_Cho_sendAway_18 l_invT_2_46 (by decide) k_Day_isYear rfl (by exact Nat.le_of_ble_eq_true rfl) (dc := 1) (by decide) ?_ rfl
      refine ev_Day_isYear ?_
      show Gw zs 2 m_Cho_sendAway 21 [some (.inr (.inl (some 144))), some (.inl a0), some (.inl a1), some (.inl a2), some (.inl a3)] [.inl (f_Day_isYear a1)] w _
      refine gw_if_ne (t := 26) k_Cho_sendAway f_Cho_sendAway_21 rfl (fun c3 => ?_) (fun c3 => ?_)
      · have h := h.2 c3
        refine gw_iload_n k_Cho_sendAway f_Cho_sendAway_26 rfl ?_
        refine gw_if_lt (t := 45) k_Cho_sendAway f_Cho_sendAway_27 rfl (fun c4 => ?_) (fun c4 => ?_)
        · have h := h.1 c4
          refine gw_iconst k_Cho_sendAway f_Cho_sendAway_45 qc_m1 ?_
          exact gw_iret k_Cho_sendAway f_Cho_sendAway_46 rfl h
        · have h := h.2 c4
          refine gw_iload k_Cho_sendAway f_Cho_sendAway_30 rfl ?_
          refine gw_iload_n k_Cho_sendAway f_Cho_sendAway_32 rfl ?_
          refine gw_iload_n k_Cho_sendAway f_Cho_sendAway_33 rfl ?_
          refine gw_static [.inl a1] k_Cho_sendAway f_Cho_sendAway_34 l_invT_2_51 (by decide) k_Day_lengthOf rfl (by exact Nat.le_of_ble_eq_true rfl) (dc := 1) (by decide) ?_ rfl
          refine ev_Day_lengthOf ?_
          show Gw zs 2 m_Cho_sendAway 37 [some (.inr (.inl (some 144))), some (.inl a0), some (.inl a1), some (.inl a2), some (.inl a3)] [.inl (f_Day_lengthOf a1), .inl a2, .inl a3] w _
          refine gw_iconst k_Cho_sendAway f_Cho_sendAway_37 qc_1 ?_
          refine gw_isub k_Cho_sendAway f_Cho_sendAway_38 ?_
          refine gw_static [.inl a3, .inl a2, .inl ((f_Day_lengthOf a1) - 1)] k_Cho_sendAway f_Cho_sendAway_39 l_invT_2_31 (by decide) k_Bk_within rfl (by exact Nat.le_of_ble_eq_true rfl) (dc := 0) (by decide) ?_ rfl
          refine ev_Bk_within ?_
          show Gw zs 2 m_Cho_sendAway 42 [some (.inr (.inl (some 144))), some (.inl a0), some (.inl a1), some (.inl a2), some (.inl a3)] [.inl (f_Bk_within a3 a2 ((f_Day_lengthOf a1) - 1))] w _
          refine gw_if_ne (t := 47) k_Cho_sendAway f_Cho_sendAway_42 rfl (fun c5 => ?_) (fun c5 => ?_)
          · have h := h.2 c5
            refine gw_aload_n k_Cho_sendAway f_Cho_sendAway_47 rfl ?_
            refine gw_getR k_Cho_sendAway f_Cho_sendAway_48 l_fldT_2_15 hc144 rfl ?_
            refine gw_aload_n k_Cho_sendAway f_Cho_sendAway_51 rfl ?_
            refine gw_getI k_Cho_sendAway f_Cho_sendAway_52 l_fldT_2_39 hc144 rfl ?_
            refine gw_iload_n k_Cho_sendAway f_Cho_sendAway_55 rfl ?_
            refine gw_static [.inr (.inl (some 146)), .inl (w 144 6), .inl a0] k_Cho_sendAway f_Cho_sendAway_56 l_invT_2_35 (by decide) k_Bk_put rfl (by exact Nat.le_of_ble_eq_true rfl) (dc := 0) (by decide) ?_ rfl
            refine ev_put hc146 (by decide) ?_
            show Gw zs 2 m_Cho_sendAway 59 [some (.inr (.inl (some 144))), some (.inl a0), some (.inl a1), some (.inl a2), some (.inl a3)] [] (g_put w 146 60 (w 144 6) a0) _
            refine gw_aload_n k_Cho_sendAway f_Cho_sendAway_59 rfl ?_
            refine gw_getR k_Cho_sendAway f_Cho_sendAway_60 l_fldT_2_18 hc144 rfl ?_
            refine gw_aload_n k_Cho_sendAway f_Cho_sendAway_63 rfl ?_
            refine gw_getI k_Cho_sendAway f_Cho_sendAway_64 l_fldT_2_39 hc144 rfl ?_
            rw [show (g_put w 146 60 (w 144 6) a0) 144 6 = w 144 6 from g_put_ne (by decide)]
            refine gw_iload_n k_Cho_sendAway f_Cho_sendAway_67 rfl ?_
            refine gw_static [.inr (.inl (some 147)), .inl (w 144 6), .inl a1] k_Cho_sendAway f_Cho_sendAway_68 l_invT_2_35 (by decide) k_Bk_put rfl (by exact Nat.le_of_ble_eq_true rfl) (dc := 0) (by decide) ?_ rfl
            refine ev_put hc147 (by decide) ?_
            show Gw zs 2 m_Cho_sendAway 71 [some (.inr (.inl (some 144))), some (.inl a0), some (.inl a1), some (.inl a2), some (.inl a3)] [] (g_put (g_put w 146 60 (w 144 6) a0) 147 60 (w 144 6) a1) _
            refine gw_aload_n k_Cho_sendAway f_Cho_sendAway_71 rfl ?_
            refine gw_getR k_Cho_sendAway f_Cho_sendAway_72 l_fldT_2_21 hc144 rfl ?_
            refine gw_aload_n k_Cho_sendAway f_Cho_sendAway_75 rfl ?_
            refine gw_getI k_Cho_sendAway f_Cho_sendAway_76 l_fldT_2_39 hc144 rfl ?_
            rw [show (g_put (g_put w 146 60 (w 144 6) a0) 147 60 (w 144 6) a1) 144 6 = w 144 6 from (g_put_ne (by decide)).trans (g_put_ne (by decide))]
            refine gw_iload_n k_Cho_sendAway f_Cho_sendAway_79 rfl ?_
            refine gw_static [.inr (.inl (some 148)), .inl (w 144 6), .inl a2] k_Cho_sendAway f_Cho_sendAway_80 l_invT_2_35 (by decide) k_Bk_put rfl (by exact Nat.le_of_ble_eq_true rfl) (dc := 0) (by decide) ?_ rfl
            refine ev_put hc148 (by decide) ?_
            show Gw zs 2 m_Cho_sendAway 83 [some (.inr (.inl (some 144))), some (.inl a0), some (.inl a1), some (.inl a2), some (.inl a3)] [] (g_put (g_put (g_put w 146 60 (w 144 6) a0) 147 60 (w 144 6) a1) 148 60 (w 144 6) a2) _
            refine gw_aload_n k_Cho_sendAway f_Cho_sendAway_83 rfl ?_
            refine gw_getR k_Cho_sendAway f_Cho_sendAway_84 l_fldT_2_24 hc144 rfl ?_
            refine gw_aload_n k_Cho_sendAway f_Cho_sendAway_87 rfl ?_
            refine gw_getI k_Cho_sendAway f_Cho_sendAway_88 l_fldT_2_39 hc144 rfl ?_
            rw [show (g_put (g_put (g_put w 146 60 (w 144 6) a0) 147 60 (w 144 6) a1) 148 60 (w 144 6) a2) 144 6 = w 144 6 from (g_put_ne (by decide)).trans ((g_put_ne (by decide)).trans (g_put_ne (by decide)))]
            refine gw_iload k_Cho_sendAway f_Cho_sendAway_91 rfl ?_
            refine gw_static [.inr (.inl (some 149)), .inl (w 144 6), .inl a3] k_Cho_sendAway f_Cho_sendAway_93 l_invT_2_35 (by decide) k_Bk_put rfl (by exact Nat.le_of_ble_eq_true rfl) (dc := 0) (by decide) ?_ rfl
            refine ev_put hc149 (by decide) ?_
            show Gw zs 2 m_Cho_sendAway 96 [some (.inr (.inl (some 144))), some (.inl a0), some (.inl a1), some (.inl a2), some (.inl a3)] [] (g_put (g_put (g_put (g_put w 146 60 (w 144 6) a0) 147 60 (w 144 6) a1) 148 60 (w 144 6) a2) 149 60 (w 144 6) a3) _
            refine gw_aload_n k_Cho_sendAway f_Cho_sendAway_96 rfl ?_
            refine gw_dup k_Cho_sendAway f_Cho_sendAway_97 ?_
            refine gw_getI k_Cho_sendAway f_Cho_sendAway_98 l_fldT_2_39 hc144 rfl ?_
            rw [show (g_put (g_put (g_put (g_put w 146 60 (w 144 6) a0) 147 60 (w 144 6) a1) 148 60 (w 144 6) a2) 149 60 (w 144 6) a3) 144 6 = w 144 6 from (g_put_ne (by decide)).trans ((g_put_ne (by decide)).trans ((g_put_ne (by decide)).trans (g_put_ne (by decide))))]
            refine gw_iconst k_Cho_sendAway f_Cho_sendAway_101 qc_1 ?_
            refine gw_iadd k_Cho_sendAway f_Cho_sendAway_102 ?_
            refine gw_put k_Cho_sendAway f_Cho_sendAway_103 l_fldT_2_39 hc144 rfl rfl rfl rfl rfl ?_
            refine gw_aload_n k_Cho_sendAway f_Cho_sendAway_106 rfl ?_
            refine gw_getI k_Cho_sendAway f_Cho_sendAway_107 l_fldT_2_39 hc144 rfl ?_
            rw [show (wr (g_put (g_put (g_put (g_put w 146 60 (w 144 6) a0) 147 60 (w 144 6) a1) 148 60 (w 144 6) a2) 149 60 (w 144 6) a3) 144 6 ((w 144 6) + 1)) 144 6 = (w 144 6) + 1 from wr_eq]
            exact gw_iret k_Cho_sendAway f_Cho_sendAway_110 rfl h
          · have c5 := Decidable.not_not.mp c5
            have h := h.1 c5
            refine gw_iconst k_Cho_sendAway f_Cho_sendAway_45 qc_m1 ?_
            exact gw_iret k_Cho_sendAway f_Cho_sendAway_46 rfl h
      · have c3 := Decidable.not_not.mp c3
        have h := h.1 c3
        refine gw_iconst k_Cho_sendAway f_Cho_sendAway_24 qc_m1 ?_
        exact gw_iret k_Cho_sendAway f_Cho_sendAway_25 rfl h
theorem ev_Cho_sendAway {zs : List Int32} {a0 a1 a2 a3 : Int32} {w : Wd} {Q : Option AV → Wd → Prop} (h : Q (some (.inl (f_Cho_sendAway w a0 a1 a2 a3))) (g_Cho_sendAway w a0 a1 a2 a3)) : Ew zs 2 m_Cho_sendAway [.inr (.inl (some 144)), .inl a0, .inl a1, .inl a2, .inl a3] w Q := by
  refine ew_of k_Cho_sendAway rfl (sg_Cho_sendAway_0 ?_)
  refine ⟨fun c1 => ?_, fun c1 => ?_⟩
  ·
    rw [show f_Cho_sendAway w a0 a1 a2 a3 = (-1) from by unfold f_Cho_sendAway; rw [if_pos c1]] at h
    rw [show g_Cho_sendAway w a0 a1 a2 a3 = w from by unfold g_Cho_sendAway; rw [if_pos c1]] at h
    exact h
  ·
    refine ⟨fun c2 => ?_, fun c2 => ?_⟩
    ·
      rw [show f_Cho_sendAway w a0 a1 a2 a3 = (-1) from by unfold f_Cho_sendAway; rw [if_neg c1, if_pos c2]] at h
      rw [show g_Cho_sendAway w a0 a1 a2 a3 = w from by unfold g_Cho_sendAway; rw [if_neg c1, if_pos c2]] at h
      exact h
    ·
      refine ⟨fun c3 => ?_, fun c3 => ?_⟩
      ·
        rw [show f_Cho_sendAway w a0 a1 a2 a3 = (-1) from by unfold f_Cho_sendAway; rw [if_neg c1, if_neg c2, if_pos c3]] at h
        rw [show g_Cho_sendAway w a0 a1 a2 a3 = w from by unfold g_Cho_sendAway; rw [if_neg c1, if_neg c2, if_pos c3]] at h
        exact h
      ·
        refine ⟨fun c4 => ?_, fun c4 => ?_⟩
        ·
          rw [show f_Cho_sendAway w a0 a1 a2 a3 = (-1) from by unfold f_Cho_sendAway; rw [if_neg c1, if_neg c2, if_neg c3, if_pos c4]] at h
          rw [show g_Cho_sendAway w a0 a1 a2 a3 = w from by unfold g_Cho_sendAway; rw [if_neg c1, if_neg c2, if_neg c3, if_pos c4]] at h
          exact h
        ·
          refine ⟨fun c5 => ?_, fun c5 => ?_⟩
          ·
            rw [show f_Cho_sendAway w a0 a1 a2 a3 = (-1) from by unfold f_Cho_sendAway; rw [if_neg c1, if_neg c2, if_neg c3, if_neg c4, if_pos c5]] at h
            rw [show g_Cho_sendAway w a0 a1 a2 a3 = w from by unfold g_Cho_sendAway; rw [if_neg c1, if_neg c2, if_neg c3, if_neg c4, if_pos c5]] at h
            exact h
          ·
            rw [show f_Cho_sendAway w a0 a1 a2 a3 = ((w 144 6) + 1) from by unfold f_Cho_sendAway; rw [if_neg c1, if_neg c2, if_neg c3, if_neg c4, if_neg c5]] at h
            rw [show g_Cho_sendAway w a0 a1 a2 a3 = (wr (g_put (g_put (g_put (g_put w 146 60 (w 144 6) a0) 147 60 (w 144 6) a1) 148 60 (w 144 6) a2) 149 60 (w 144 6) a3) 144 6 ((w 144 6) + 1)) from by unfold g_Cho_sendAway; rw [if_neg c1, if_neg c2, if_neg c3, if_neg c4, if_neg c5]] at h
            exact h
theorem gn_Cho_sendAway {w : Wd} {a0 : Int32} {a1 : Int32} {a2 : Int32} {a3 : Int32} {c k : Nat} (h : c ∉ [144, 146, 147, 148, 149]) : g_Cho_sendAway w a0 a1 a2 a3 c k = w c k := by
  simp only [List.mem_cons, List.not_mem_nil, or_false, not_or] at h
  unfold g_Cho_sendAway
  repeat' split
  all_goals simp [wr, g_put_ne, h]
def f_Bk_absence (w : Wd) (a0 : Int32) (a1 : Int32) (a2 : Int32) (a3 : Int32) : Int32 := (f_Cho_sendAway w a0 a1 a2 a3)
def g_Bk_absence (w : Wd) (a0 : Int32) (a1 : Int32) (a2 : Int32) (a3 : Int32) : Wd := g_Cho_sendAway w a0 a1 a2 a3
theorem sg_Bk_absence_0 {zs : List Int32} {a0 a1 a2 a3 : Int32} {w : Wd} {Q : Option AV → Wd → Prop} (h : Q (some (.inl (f_Cho_sendAway w a0 a1 a2 a3))) (g_Cho_sendAway w a0 a1 a2 a3)) : Gw zs 3 m_Bk_absence 0 [some (.inr (.inl (some 0))), some (.inl a0), some (.inl a1), some (.inl a2), some (.inl a3)] [] w Q := by
  refine gw_aload_n k_Bk_absence f_Bk_absence_0 rfl ?_
  refine gw_getR k_Bk_absence f_Bk_absence_1 l_fldT_10_56 hc0 rfl ?_
  refine gw_iload_n k_Bk_absence f_Bk_absence_4 rfl ?_
  refine gw_iload_n k_Bk_absence f_Bk_absence_5 rfl ?_
  refine gw_iload_n k_Bk_absence f_Bk_absence_6 rfl ?_
  refine gw_iload k_Bk_absence f_Bk_absence_7 rfl ?_
  refine gw_virtual [.inl a0, .inl a1, .inl a2, .inl a3] k_Bk_absence f_Bk_absence_9 l_invT_10_230 k_Cho_sendAway hc144 rfl rfl rfl (by exact Nat.le_of_ble_eq_true rfl) (dc := 2) (by decide) ?_ rfl
  refine ev_Cho_sendAway ?_
  show Gw zs 3 m_Bk_absence 12 [some (.inr (.inl (some 0))), some (.inl a0), some (.inl a1), some (.inl a2), some (.inl a3)] [.inl (f_Cho_sendAway w a0 a1 a2 a3)] (g_Cho_sendAway w a0 a1 a2 a3) _
  exact gw_iret k_Bk_absence f_Bk_absence_12 rfl h
theorem ev_Bk_absence {zs : List Int32} {a0 a1 a2 a3 : Int32} {w : Wd} {Q : Option AV → Wd → Prop} (h : Q (some (.inl (f_Bk_absence w a0 a1 a2 a3))) (g_Bk_absence w a0 a1 a2 a3)) : Ew zs 3 m_Bk_absence [.inr (.inl (some 0)), .inl a0, .inl a1, .inl a2, .inl a3] w Q := by
  refine ew_of k_Bk_absence rfl (sg_Bk_absence_0 ?_)
  rw [show f_Bk_absence w a0 a1 a2 a3 = (f_Cho_sendAway w a0 a1 a2 a3) from by unfold f_Bk_absence; rfl] at h
  rw [show g_Bk_absence w a0 a1 a2 a3 = (g_Cho_sendAway w a0 a1 a2 a3) from by unfold g_Bk_absence; rfl] at h
  exact h
theorem gn_Bk_absence {w : Wd} {a0 : Int32} {a1 : Int32} {a2 : Int32} {a3 : Int32} {c k : Nat} (h : c ∉ [144, 146, 147, 148, 149]) : g_Bk_absence w a0 a1 a2 a3 c k = w c k := by
  simp only [List.mem_cons, List.not_mem_nil, or_false, not_or] at h
  unfold g_Bk_absence
  repeat' split
  all_goals simp [wr, gn_Cho_sendAway, h]
def f_Alm_yearMadeFor (w : Wd)  : Int32 := (w 16 7)
theorem sg_Alm_yearMadeFor_0 {zs : List Int32} {w : Wd} {Q : Option AV → Wd → Prop} (h : Q (some (.inl (w 16 7))) w) : Gw zs 0 m_Alm_yearMadeFor 0 [some (.inr (.inl (some 16)))] [] w Q := by
  refine gw_aload_n k_Alm_yearMadeFor f_Alm_yearMadeFor_0 rfl ?_
  refine gw_getI k_Alm_yearMadeFor f_Alm_yearMadeFor_1 l_fldT_0_27 hc16 rfl ?_
  exact gw_iret k_Alm_yearMadeFor f_Alm_yearMadeFor_4 rfl h
theorem ev_Alm_yearMadeFor {zs : List Int32} {w : Wd} {Q : Option AV → Wd → Prop} (h : Q (some (.inl (f_Alm_yearMadeFor w))) w) : Ew zs 0 m_Alm_yearMadeFor [.inr (.inl (some 16))] w Q := by
  refine ew_of k_Alm_yearMadeFor rfl (sg_Alm_yearMadeFor_0 ?_)
  rw [show f_Alm_yearMadeFor w = (w 16 7) from by unfold f_Alm_yearMadeFor; rfl] at h
  exact h
def f_Ros_manySeats (a0 : Int32) (a1 : Int32) : Int32 := if a0 = 0 then 1 else if a0 = 1 then if a1 < 7 then if a1 < 4 then 1 else 2 else 4 else if a0 = 2 then if a1 < 6 then if a1 < 3 then 1 else 3 else 6 else 0
theorem sg_Ros_manySeats_0 {zs : List Int32} {a0 a1 : Int32} {w : Wd} {Q : Option AV → Wd → Prop} (h : ((a0 = 0 → Q (some (.inl 1)) w) ∧ (a0 = 1 → ((a1 < 7 → ((a1 < 4 → Q (some (.inl 1)) w) ∧ (¬ (a1 < 4) → Q (some (.inl 2)) w))) ∧ (¬ (a1 < 7) → Q (some (.inl 4)) w))) ∧ (a0 = 2 → ((a1 < 6 → ((a1 < 3 → Q (some (.inl 1)) w) ∧ (¬ (a1 < 3) → Q (some (.inl 3)) w))) ∧ (¬ (a1 < 6) → Q (some (.inl 6)) w))) ∧ (¬ a0 = 0 → ¬ a0 = 1 → ¬ a0 = 2 → Q (some (.inl 0)) w))) : Gw zs 0 m_Ros_manySeats 0 [some (.inl a0), some (.inl a1)] [] w Q := by
  refine gw_iload_n k_Ros_manySeats f_Ros_manySeats_0 rfl ?_
  refine gw_tsw k_Ros_manySeats f_Ros_manySeats_1 (by decide) (by decide) (fun q hq hx => ?_) (fun hx => ?_)
  · match q, hq, hx with
    | 0, hq, hx =>
      have c1 : a0 = 0 := hx.trans (by decide)
      have h := h.1 c1
      refine ⟨_, 28, rfl, rfl, ?_⟩
      refine gw_iconst k_Ros_manySeats f_Ros_manySeats_28 qc_1 ?_
      exact gw_iret k_Ros_manySeats f_Ros_manySeats_29 rfl h
    | 1, hq, hx =>
      have c2 : a0 = 1 := hx.trans (by decide)
      have h := h.2.1 c2
      refine ⟨_, 30, rfl, rfl, ?_⟩
      refine gw_iload_n k_Ros_manySeats f_Ros_manySeats_30 rfl ?_
      refine gw_bipush k_Ros_manySeats f_Ros_manySeats_31 qb_7 ?_
      refine gw_icmp_lt (t := 40) k_Ros_manySeats f_Ros_manySeats_33 rfl (fun c3 => ?_) (fun c3 => ?_)
      · have h := h.1 c3
        refine gw_iload_n k_Ros_manySeats f_Ros_manySeats_40 rfl ?_
        refine gw_iconst k_Ros_manySeats f_Ros_manySeats_41 qc_4 ?_
        refine gw_icmp_lt (t := 49) k_Ros_manySeats f_Ros_manySeats_42 rfl (fun c4 => ?_) (fun c4 => ?_)
        · have h := h.1 c4
          refine gw_iconst k_Ros_manySeats f_Ros_manySeats_49 qc_1 ?_
          exact gw_iret k_Ros_manySeats f_Ros_manySeats_50 rfl h
        · have h := h.2 c4
          refine gw_iconst k_Ros_manySeats f_Ros_manySeats_45 qc_2 ?_
          refine gw_goto (t := 50) k_Ros_manySeats f_Ros_manySeats_46 rfl ?_
          exact gw_iret k_Ros_manySeats f_Ros_manySeats_50 rfl h
      · have h := h.2 c3
        refine gw_iconst k_Ros_manySeats f_Ros_manySeats_36 qc_4 ?_
        refine gw_goto (t := 50) k_Ros_manySeats f_Ros_manySeats_37 rfl ?_
        exact gw_iret k_Ros_manySeats f_Ros_manySeats_50 rfl h
    | 2, hq, hx =>
      have c5 : a0 = 2 := hx.trans (by decide)
      have h := h.2.2.1 c5
      refine ⟨_, 51, rfl, rfl, ?_⟩
      refine gw_iload_n k_Ros_manySeats f_Ros_manySeats_51 rfl ?_
      refine gw_bipush k_Ros_manySeats f_Ros_manySeats_52 qb_6 ?_
      refine gw_icmp_lt (t := 62) k_Ros_manySeats f_Ros_manySeats_54 rfl (fun c6 => ?_) (fun c6 => ?_)
      · have h := h.1 c6
        refine gw_iload_n k_Ros_manySeats f_Ros_manySeats_62 rfl ?_
        refine gw_iconst k_Ros_manySeats f_Ros_manySeats_63 qc_3 ?_
        refine gw_icmp_lt (t := 71) k_Ros_manySeats f_Ros_manySeats_64 rfl (fun c7 => ?_) (fun c7 => ?_)
        · have h := h.1 c7
          refine gw_iconst k_Ros_manySeats f_Ros_manySeats_71 qc_1 ?_
          exact gw_iret k_Ros_manySeats f_Ros_manySeats_72 rfl h
        · have h := h.2 c7
          refine gw_iconst k_Ros_manySeats f_Ros_manySeats_67 qc_3 ?_
          refine gw_goto (t := 72) k_Ros_manySeats f_Ros_manySeats_68 rfl ?_
          exact gw_iret k_Ros_manySeats f_Ros_manySeats_72 rfl h
      · have h := h.2 c6
        refine gw_bipush k_Ros_manySeats f_Ros_manySeats_57 qb_6 ?_
        refine gw_goto (t := 72) k_Ros_manySeats f_Ros_manySeats_59 rfl ?_
        exact gw_iret k_Ros_manySeats f_Ros_manySeats_72 rfl h
    | q + 3, hq, hx => exact absurd hq (by show ¬ (q + 3 < 3); omega)
  ·
    have c8 : ¬ a0 = 0 := fun c => hx 0 (by decide) (c.trans (by decide))
    have c9 : ¬ a0 = 1 := fun c => hx 1 (by decide) (c.trans (by decide))
    have c10 : ¬ a0 = 2 := fun c => hx 2 (by decide) (c.trans (by decide))
    have h := h.2.2.2 c8 c9 c10
    refine ⟨73, rfl, ?_⟩
    refine gw_iconst k_Ros_manySeats f_Ros_manySeats_73 qc_0 ?_
    exact gw_iret k_Ros_manySeats f_Ros_manySeats_74 rfl h
theorem ev_Ros_manySeats {zs : List Int32} {a0 a1 : Int32} {w : Wd} {Q : Option AV → Wd → Prop} (h : Q (some (.inl (f_Ros_manySeats a0 a1))) w) : Ew zs 0 m_Ros_manySeats [.inl a0, .inl a1] w Q := by
  refine ew_of k_Ros_manySeats rfl (sg_Ros_manySeats_0 ?_)
  refine ⟨fun c0_1 => ?_, fun c1_1 => ?_, fun c2_1 => ?_, fun c0_1 c1_1 c2_1 => ?_⟩
  ·
    rw [show f_Ros_manySeats a0 a1 = 1 from by unfold f_Ros_manySeats; rw [if_pos c0_1]] at h
    exact h
  ·
    refine ⟨fun c3 => ?_, fun c3 => ?_⟩
    ·
      refine ⟨fun c4 => ?_, fun c4 => ?_⟩
      ·
        rw [show f_Ros_manySeats a0 a1 = 1 from by unfold f_Ros_manySeats; rw [if_neg (by rw [c1_1]; decide), if_pos c1_1, if_pos c3, if_pos c4]] at h
        exact h
      ·
        rw [show f_Ros_manySeats a0 a1 = 2 from by unfold f_Ros_manySeats; rw [if_neg (by rw [c1_1]; decide), if_pos c1_1, if_pos c3, if_neg c4]] at h
        exact h
    ·
      rw [show f_Ros_manySeats a0 a1 = 4 from by unfold f_Ros_manySeats; rw [if_neg (by rw [c1_1]; decide), if_pos c1_1, if_neg c3]] at h
      exact h
  ·
    refine ⟨fun c6 => ?_, fun c6 => ?_⟩
    ·
      refine ⟨fun c7 => ?_, fun c7 => ?_⟩
      ·
        rw [show f_Ros_manySeats a0 a1 = 1 from by unfold f_Ros_manySeats; rw [if_neg (by rw [c2_1]; decide), if_neg (by rw [c2_1]; decide), if_pos c2_1, if_pos c6, if_pos c7]] at h
        exact h
      ·
        rw [show f_Ros_manySeats a0 a1 = 3 from by unfold f_Ros_manySeats; rw [if_neg (by rw [c2_1]; decide), if_neg (by rw [c2_1]; decide), if_pos c2_1, if_pos c6, if_neg c7]] at h
        exact h
    ·
      rw [show f_Ros_manySeats a0 a1 = 6 from by unfold f_Ros_manySeats; rw [if_neg (by rw [c2_1]; decide), if_neg (by rw [c2_1]; decide), if_pos c2_1, if_neg c6]] at h
      exact h
  ·
    rw [show f_Ros_manySeats a0 a1 = 0 from by unfold f_Ros_manySeats; rw [if_neg c0_1, if_neg c1_1, if_neg c2_1]] at h
    exact h
def f_Cho_count (w : Wd)  : Int32 := (w 144 5)
theorem sg_Cho_count_0 {zs : List Int32} {w : Wd} {Q : Option AV → Wd → Prop} (h : Q (some (.inl (w 144 5))) w) : Gw zs 0 m_Cho_count 0 [some (.inr (.inl (some 144)))] [] w Q := by
  refine gw_aload_n k_Cho_count f_Cho_count_0 rfl ?_
  refine gw_getI k_Cho_count f_Cho_count_1 l_fldT_2_27 hc144 rfl ?_
  exact gw_iret k_Cho_count f_Cho_count_4 rfl h
theorem ev_Cho_count {zs : List Int32} {w : Wd} {Q : Option AV → Wd → Prop} (h : Q (some (.inl (f_Cho_count w))) w) : Ew zs 0 m_Cho_count [.inr (.inl (some 144))] w Q := by
  refine ew_of k_Cho_count rfl (sg_Cho_count_0 ?_)
  rw [show f_Cho_count w = (w 144 5) from by unfold f_Cho_count; rfl] at h
  exact h
def f_Cho_canDo (w : Wd) (a0 : Int32) (a1 : Int32) : Int32 := if (f_Cho_hasMonk w a0) = 0 then 0 else if ((f_at w 145 24 a0) &&& (1 <<< (a1 &&& 31))) = 0 then 0 else 1
theorem sg_Cho_canDo_0 {zs : List Int32} {a0 a1 : Int32} {w : Wd} {Q : Option AV → Wd → Prop} (h : (((f_Cho_hasMonk w a0) = 0 → Q (some (.inl 0)) w) ∧ (¬ ((f_Cho_hasMonk w a0) = 0) → ((((f_at w 145 24 a0) &&& (1 <<< (a1 &&& 31))) = 0 → Q (some (.inl 0)) w) ∧ (¬ (((f_at w 145 24 a0) &&& (1 <<< (a1 &&& 31))) = 0) → Q (some (.inl 1)) w))))) : Gw zs 1 m_Cho_canDo 0 [some (.inr (.inl (some 144))), some (.inl a0), some (.inl a1)] [] w Q := by
  refine gw_aload_n k_Cho_canDo f_Cho_canDo_0 rfl ?_
  refine gw_iload_n k_Cho_canDo f_Cho_canDo_1 rfl ?_
  refine gw_virtual [.inl a0] k_Cho_canDo f_Cho_canDo_2 l_invT_2_42 k_Cho_hasMonk hc144 rfl rfl rfl (by exact Nat.le_of_ble_eq_true rfl) (dc := 0) (by decide) ?_ rfl
  refine ev_Cho_hasMonk ?_
  show Gw zs 1 m_Cho_canDo 5 [some (.inr (.inl (some 144))), some (.inl a0), some (.inl a1)] [.inl (f_Cho_hasMonk w a0)] w _
  refine gw_if_eq (t := 27) k_Cho_canDo f_Cho_canDo_5 rfl (fun c1 => ?_) (fun c1 => ?_)
  · have h := h.1 c1
    refine gw_iconst k_Cho_canDo f_Cho_canDo_27 qc_0 ?_
    exact gw_zret k_Cho_canDo f_Cho_canDo_28 rfl (Or.inl rfl) h
  · have h := h.2 c1
    refine gw_aload_n k_Cho_canDo f_Cho_canDo_8 rfl ?_
    refine gw_getR k_Cho_canDo f_Cho_canDo_9 l_fldT_2_11 hc144 rfl ?_
    refine gw_iload_n k_Cho_canDo f_Cho_canDo_12 rfl ?_
    refine gw_static [.inr (.inl (some 145)), .inl a0] k_Cho_canDo f_Cho_canDo_13 l_invT_2_55 (by decide) k_Bk_at rfl (by exact Nat.le_of_ble_eq_true rfl) (dc := 0) (by decide) ?_ rfl
    refine ev_at hc145 (by decide) ?_
    show Gw zs 1 m_Cho_canDo 16 [some (.inr (.inl (some 144))), some (.inl a0), some (.inl a1)] [.inl (f_at w 145 24 a0)] w _
    refine gw_iconst k_Cho_canDo f_Cho_canDo_16 qc_1 ?_
    refine gw_iload_n k_Cho_canDo f_Cho_canDo_17 rfl ?_
    refine gw_ishl k_Cho_canDo f_Cho_canDo_18 ?_
    refine gw_iand k_Cho_canDo f_Cho_canDo_19 ?_
    refine gw_if_eq (t := 27) k_Cho_canDo f_Cho_canDo_20 rfl (fun c2 => ?_) (fun c2 => ?_)
    · have h := h.1 c2
      refine gw_iconst k_Cho_canDo f_Cho_canDo_27 qc_0 ?_
      exact gw_zret k_Cho_canDo f_Cho_canDo_28 rfl (Or.inl rfl) h
    · have h := h.2 c2
      refine gw_iconst k_Cho_canDo f_Cho_canDo_23 qc_1 ?_
      refine gw_goto (t := 28) k_Cho_canDo f_Cho_canDo_24 rfl ?_
      exact gw_zret k_Cho_canDo f_Cho_canDo_28 rfl (Or.inr rfl) h
theorem ev_Cho_canDo {zs : List Int32} {a0 a1 : Int32} {w : Wd} {Q : Option AV → Wd → Prop} (h : Q (some (.inl (f_Cho_canDo w a0 a1))) w) : Ew zs 1 m_Cho_canDo [.inr (.inl (some 144)), .inl a0, .inl a1] w Q := by
  refine ew_of k_Cho_canDo rfl (sg_Cho_canDo_0 ?_)
  refine ⟨fun c1 => ?_, fun c1 => ?_⟩
  ·
    rw [show f_Cho_canDo w a0 a1 = 0 from by unfold f_Cho_canDo; rw [if_pos c1]] at h
    exact h
  ·
    refine ⟨fun c2 => ?_, fun c2 => ?_⟩
    ·
      rw [show f_Cho_canDo w a0 a1 = 0 from by unfold f_Cho_canDo; rw [if_neg c1, if_pos c2]] at h
      exact h
    ·
      rw [show f_Cho_canDo w a0 a1 = 1 from by unfold f_Cho_canDo; rw [if_neg c1, if_neg c2]] at h
      exact h
theorem fb_Cho_canDo {w : Wd} {a0 : Int32} {a1 : Int32} : f_Cho_canDo w a0 a1 = 0 ∨ f_Cho_canDo w a0 a1 = 1 := by
  unfold f_Cho_canDo
  exact (if01 (Or.inl rfl) (if01 (Or.inl rfl) (Or.inr rfl)))
def f_Ros_isAhead (w : Wd) (a0 : Int32) (a1 : Int32) (a2 : Int32) : Int32 := if (f_at w 153 72 ((a0 * 3) + a2)) = (f_at w 153 72 ((a1 * 3) + a2)) then if (f_at w 154 72 ((a1 * 3) + a2)) ≤ (f_at w 154 72 ((a0 * 3) + a2)) then 0 else 1 else if (f_at w 153 72 ((a1 * 3) + a2)) ≤ (f_at w 153 72 ((a0 * 3) + a2)) then 0 else 1
theorem sg_Ros_isAhead_0 {zs : List Int32} {a0 a1 a2 : Int32} {w : Wd} {Q : Option AV → Wd → Prop} (h : (((f_at w 153 72 ((a0 * 3) + a2)) = (f_at w 153 72 ((a1 * 3) + a2)) → (((f_at w 154 72 ((a1 * 3) + a2)) ≤ (f_at w 154 72 ((a0 * 3) + a2)) → Q (some (.inl 0)) w) ∧ (¬ ((f_at w 154 72 ((a1 * 3) + a2)) ≤ (f_at w 154 72 ((a0 * 3) + a2))) → Q (some (.inl 1)) w))) ∧ (¬ ((f_at w 153 72 ((a0 * 3) + a2)) = (f_at w 153 72 ((a1 * 3) + a2))) → (((f_at w 153 72 ((a1 * 3) + a2)) ≤ (f_at w 153 72 ((a0 * 3) + a2)) → Q (some (.inl 0)) w) ∧ (¬ ((f_at w 153 72 ((a1 * 3) + a2)) ≤ (f_at w 153 72 ((a0 * 3) + a2))) → Q (some (.inl 1)) w))))) : Gw zs 1 m_Ros_isAhead 0 [some (.inr (.inl (some 150))), some (.inl a0), some (.inl a1), some (.inl a2), none, none] [] w Q := by
  refine gw_iload_n k_Ros_isAhead f_Ros_isAhead_0 rfl ?_
  refine gw_iconst k_Ros_isAhead f_Ros_isAhead_1 qc_3 ?_
  refine gw_imul k_Ros_isAhead f_Ros_isAhead_2 ?_
  refine gw_iload_n k_Ros_isAhead f_Ros_isAhead_3 rfl ?_
  refine gw_iadd k_Ros_isAhead f_Ros_isAhead_4 ?_
  refine gw_istore [some (.inr (.inl (some 150))), some (.inl a0), some (.inl a1), some (.inl a2), some (.inl ((a0 * 3) + a2)), none] k_Ros_isAhead f_Ros_isAhead_5 (Nat.le_of_ble_eq_true rfl) rfl ?_
  refine gw_iload_n k_Ros_isAhead f_Ros_isAhead_7 rfl ?_
  refine gw_iconst k_Ros_isAhead f_Ros_isAhead_8 qc_3 ?_
  refine gw_imul k_Ros_isAhead f_Ros_isAhead_9 ?_
  refine gw_iload_n k_Ros_isAhead f_Ros_isAhead_10 rfl ?_
  refine gw_iadd k_Ros_isAhead f_Ros_isAhead_11 ?_
  refine gw_istore [some (.inr (.inl (some 150))), some (.inl a0), some (.inl a1), some (.inl a2), some (.inl ((a0 * 3) + a2)), some (.inl ((a1 * 3) + a2))] k_Ros_isAhead f_Ros_isAhead_12 (Nat.le_of_ble_eq_true rfl) rfl ?_
  refine gw_aload_n k_Ros_isAhead f_Ros_isAhead_14 rfl ?_
  refine gw_getR k_Ros_isAhead f_Ros_isAhead_15 l_fldT_6_20 hc150 rfl ?_
  refine gw_iload k_Ros_isAhead f_Ros_isAhead_18 rfl ?_
  refine gw_static [.inr (.inl (some 153)), .inl ((a0 * 3) + a2)] k_Ros_isAhead f_Ros_isAhead_20 l_invT_6_57 (by decide) k_Bk_at rfl (by exact Nat.le_of_ble_eq_true rfl) (dc := 0) (by decide) ?_ rfl
  refine ev_at hc153 (by decide) ?_
  show Gw zs 1 m_Ros_isAhead 23 [some (.inr (.inl (some 150))), some (.inl a0), some (.inl a1), some (.inl a2), some (.inl ((a0 * 3) + a2)), some (.inl ((a1 * 3) + a2))] [.inl (f_at w 153 72 ((a0 * 3) + a2))] w _
  refine gw_aload_n k_Ros_isAhead f_Ros_isAhead_23 rfl ?_
  refine gw_getR k_Ros_isAhead f_Ros_isAhead_24 l_fldT_6_20 hc150 rfl ?_
  refine gw_iload k_Ros_isAhead f_Ros_isAhead_27 rfl ?_
  refine gw_static [.inr (.inl (some 153)), .inl ((a1 * 3) + a2)] k_Ros_isAhead f_Ros_isAhead_29 l_invT_6_57 (by decide) k_Bk_at rfl (by exact Nat.le_of_ble_eq_true rfl) (dc := 0) (by decide) ?_ rfl
  refine ev_at hc153 (by decide) ?_
  show Gw zs 1 m_Ros_isAhead 32 [some (.inr (.inl (some 150))), some (.inl a0), some (.inl a1), some (.inl a2), some (.inl ((a0 * 3) + a2)), some (.inl ((a1 * 3) + a2))] [.inl (f_at w 153 72 ((a1 * 3) + a2)), .inl (f_at w 153 72 ((a0 * 3) + a2))] w _
  refine gw_icmp_eq (t := 62) k_Ros_isAhead f_Ros_isAhead_32 rfl (fun c1 => ?_) (fun c1 => ?_)
  · have h := h.1 c1
    refine gw_aload_n k_Ros_isAhead f_Ros_isAhead_62 rfl ?_
    refine gw_getR k_Ros_isAhead f_Ros_isAhead_63 l_fldT_6_23 hc150 rfl ?_
    refine gw_iload k_Ros_isAhead f_Ros_isAhead_66 rfl ?_
    refine gw_static [.inr (.inl (some 154)), .inl ((a0 * 3) + a2)] k_Ros_isAhead f_Ros_isAhead_68 l_invT_6_57 (by decide) k_Bk_at rfl (by exact Nat.le_of_ble_eq_true rfl) (dc := 0) (by decide) ?_ rfl
    refine ev_at hc154 (by decide) ?_
    show Gw zs 1 m_Ros_isAhead 71 [some (.inr (.inl (some 150))), some (.inl a0), some (.inl a1), some (.inl a2), some (.inl ((a0 * 3) + a2)), some (.inl ((a1 * 3) + a2))] [.inl (f_at w 154 72 ((a0 * 3) + a2))] w _
    refine gw_aload_n k_Ros_isAhead f_Ros_isAhead_71 rfl ?_
    refine gw_getR k_Ros_isAhead f_Ros_isAhead_72 l_fldT_6_23 hc150 rfl ?_
    refine gw_iload k_Ros_isAhead f_Ros_isAhead_75 rfl ?_
    refine gw_static [.inr (.inl (some 154)), .inl ((a1 * 3) + a2)] k_Ros_isAhead f_Ros_isAhead_77 l_invT_6_57 (by decide) k_Bk_at rfl (by exact Nat.le_of_ble_eq_true rfl) (dc := 0) (by decide) ?_ rfl
    refine ev_at hc154 (by decide) ?_
    show Gw zs 1 m_Ros_isAhead 80 [some (.inr (.inl (some 150))), some (.inl a0), some (.inl a1), some (.inl a2), some (.inl ((a0 * 3) + a2)), some (.inl ((a1 * 3) + a2))] [.inl (f_at w 154 72 ((a1 * 3) + a2)), .inl (f_at w 154 72 ((a0 * 3) + a2))] w _
    refine gw_icmp_ge (t := 87) k_Ros_isAhead f_Ros_isAhead_80 rfl (fun c2 => ?_) (fun c2 => ?_)
    · have h := h.1 c2
      refine gw_iconst k_Ros_isAhead f_Ros_isAhead_87 qc_0 ?_
      exact gw_zret k_Ros_isAhead f_Ros_isAhead_88 rfl (Or.inl rfl) h
    · have h := h.2 c2
      refine gw_iconst k_Ros_isAhead f_Ros_isAhead_83 qc_1 ?_
      refine gw_goto (t := 88) k_Ros_isAhead f_Ros_isAhead_84 rfl ?_
      exact gw_zret k_Ros_isAhead f_Ros_isAhead_88 rfl (Or.inr rfl) h
  · have h := h.2 c1
    refine gw_aload_n k_Ros_isAhead f_Ros_isAhead_35 rfl ?_
    refine gw_getR k_Ros_isAhead f_Ros_isAhead_36 l_fldT_6_20 hc150 rfl ?_
    refine gw_iload k_Ros_isAhead f_Ros_isAhead_39 rfl ?_
    refine gw_static [.inr (.inl (some 153)), .inl ((a0 * 3) + a2)] k_Ros_isAhead f_Ros_isAhead_41 l_invT_6_57 (by decide) k_Bk_at rfl (by exact Nat.le_of_ble_eq_true rfl) (dc := 0) (by decide) ?_ rfl
    refine ev_at hc153 (by decide) ?_
    show Gw zs 1 m_Ros_isAhead 44 [some (.inr (.inl (some 150))), some (.inl a0), some (.inl a1), some (.inl a2), some (.inl ((a0 * 3) + a2)), some (.inl ((a1 * 3) + a2))] [.inl (f_at w 153 72 ((a0 * 3) + a2))] w _
    refine gw_aload_n k_Ros_isAhead f_Ros_isAhead_44 rfl ?_
    refine gw_getR k_Ros_isAhead f_Ros_isAhead_45 l_fldT_6_20 hc150 rfl ?_
    refine gw_iload k_Ros_isAhead f_Ros_isAhead_48 rfl ?_
    refine gw_static [.inr (.inl (some 153)), .inl ((a1 * 3) + a2)] k_Ros_isAhead f_Ros_isAhead_50 l_invT_6_57 (by decide) k_Bk_at rfl (by exact Nat.le_of_ble_eq_true rfl) (dc := 0) (by decide) ?_ rfl
    refine ev_at hc153 (by decide) ?_
    show Gw zs 1 m_Ros_isAhead 53 [some (.inr (.inl (some 150))), some (.inl a0), some (.inl a1), some (.inl a2), some (.inl ((a0 * 3) + a2)), some (.inl ((a1 * 3) + a2))] [.inl (f_at w 153 72 ((a1 * 3) + a2)), .inl (f_at w 153 72 ((a0 * 3) + a2))] w _
    refine gw_icmp_ge (t := 60) k_Ros_isAhead f_Ros_isAhead_53 rfl (fun c3 => ?_) (fun c3 => ?_)
    · have h := h.1 c3
      refine gw_iconst k_Ros_isAhead f_Ros_isAhead_60 qc_0 ?_
      exact gw_zret k_Ros_isAhead f_Ros_isAhead_61 rfl (Or.inl rfl) h
    · have h := h.2 c3
      refine gw_iconst k_Ros_isAhead f_Ros_isAhead_56 qc_1 ?_
      refine gw_goto (t := 61) k_Ros_isAhead f_Ros_isAhead_57 rfl ?_
      exact gw_zret k_Ros_isAhead f_Ros_isAhead_61 rfl (Or.inr rfl) h
theorem ev_Ros_isAhead {zs : List Int32} {a0 a1 a2 : Int32} {w : Wd} {Q : Option AV → Wd → Prop} (h : Q (some (.inl (f_Ros_isAhead w a0 a1 a2))) w) : Ew zs 1 m_Ros_isAhead [.inr (.inl (some 150)), .inl a0, .inl a1, .inl a2] w Q := by
  refine ew_of k_Ros_isAhead rfl (sg_Ros_isAhead_0 ?_)
  refine ⟨fun c1 => ?_, fun c1 => ?_⟩
  ·
    refine ⟨fun c2 => ?_, fun c2 => ?_⟩
    ·
      rw [show f_Ros_isAhead w a0 a1 a2 = 0 from by unfold f_Ros_isAhead; rw [if_pos c1, if_pos c2]] at h
      exact h
    ·
      rw [show f_Ros_isAhead w a0 a1 a2 = 1 from by unfold f_Ros_isAhead; rw [if_pos c1, if_neg c2]] at h
      exact h
  ·
    refine ⟨fun c3 => ?_, fun c3 => ?_⟩
    ·
      rw [show f_Ros_isAhead w a0 a1 a2 = 0 from by unfold f_Ros_isAhead; rw [if_neg c1, if_pos c3]] at h
      exact h
    ·
      rw [show f_Ros_isAhead w a0 a1 a2 = 1 from by unfold f_Ros_isAhead; rw [if_neg c1, if_neg c3]] at h
      exact h
theorem fb_Ros_isAhead {w : Wd} {a0 : Int32} {a1 : Int32} {a2 : Int32} : f_Ros_isAhead w a0 a1 a2 = 0 ∨ f_Ros_isAhead w a0 a1 a2 = 1 := by
  unfold f_Ros_isAhead
  exact (if01 (if01 (Or.inl rfl) (Or.inr rfl)) (if01 (Or.inl rfl) (Or.inr rfl)))
def f_Ros_seatOf (a0 : Int32) (a1 : Int32) (a2 : Int32) : Int32 := if a1 = 0 then (((a0 * 11) + 0) + a2) else if a1 = 1 then (((a0 * 11) + 1) + a2) else (((a0 * 11) + 5) + a2)
theorem sg_Ros_seatOf_0 {zs : List Int32} {a0 a1 a2 : Int32} {w : Wd} {Q : Option AV → Wd → Prop} (h : ((a1 = 0 → Q (some (.inl (((a0 * 11) + 0) + a2))) w) ∧ (¬ (a1 = 0) → ((a1 = 1 → Q (some (.inl (((a0 * 11) + 1) + a2))) w) ∧ (¬ (a1 = 1) → Q (some (.inl (((a0 * 11) + 5) + a2))) w))))) : Gw zs 0 m_Ros_seatOf 0 [some (.inl a0), some (.inl a1), some (.inl a2), none] [] w Q := by
  refine gw_iload_n k_Ros_seatOf f_Ros_seatOf_0 rfl ?_
  refine gw_if_ne (t := 8) k_Ros_seatOf f_Ros_seatOf_1 rfl (fun c1 => ?_) (fun c1 => ?_)
  · have h := h.2 c1
    refine gw_iload_n k_Ros_seatOf f_Ros_seatOf_8 rfl ?_
    refine gw_iconst k_Ros_seatOf f_Ros_seatOf_9 qc_1 ?_
    refine gw_icmp_ne (t := 17) k_Ros_seatOf f_Ros_seatOf_10 rfl (fun c2 => ?_) (fun c2 => ?_)
    · have h := h.2 c2
      refine gw_iconst k_Ros_seatOf f_Ros_seatOf_17 qc_5 ?_
      refine gw_istore_n [some (.inl a0), some (.inl a1), some (.inl a2), some (.inl 5)] k_Ros_seatOf f_Ros_seatOf_18 (Nat.le_of_ble_eq_true rfl) rfl ?_
      refine gw_iload_n k_Ros_seatOf f_Ros_seatOf_19 rfl ?_
      refine gw_bipush k_Ros_seatOf f_Ros_seatOf_20 qb_11 ?_
      refine gw_imul k_Ros_seatOf f_Ros_seatOf_22 ?_
      refine gw_iload_n k_Ros_seatOf f_Ros_seatOf_23 rfl ?_
      refine gw_iadd k_Ros_seatOf f_Ros_seatOf_24 ?_
      refine gw_iload_n k_Ros_seatOf f_Ros_seatOf_25 rfl ?_
      refine gw_iadd k_Ros_seatOf f_Ros_seatOf_26 ?_
      exact gw_iret k_Ros_seatOf f_Ros_seatOf_27 rfl h
    · have c2 := Decidable.not_not.mp c2
      have h := h.1 c2
      refine gw_iconst k_Ros_seatOf f_Ros_seatOf_13 qc_1 ?_
      refine gw_goto (t := 18) k_Ros_seatOf f_Ros_seatOf_14 rfl ?_
      refine gw_istore_n [some (.inl a0), some (.inl a1), some (.inl a2), some (.inl 1)] k_Ros_seatOf f_Ros_seatOf_18 (Nat.le_of_ble_eq_true rfl) rfl ?_
      refine gw_iload_n k_Ros_seatOf f_Ros_seatOf_19 rfl ?_
      refine gw_bipush k_Ros_seatOf f_Ros_seatOf_20 qb_11 ?_
      refine gw_imul k_Ros_seatOf f_Ros_seatOf_22 ?_
      refine gw_iload_n k_Ros_seatOf f_Ros_seatOf_23 rfl ?_
      refine gw_iadd k_Ros_seatOf f_Ros_seatOf_24 ?_
      refine gw_iload_n k_Ros_seatOf f_Ros_seatOf_25 rfl ?_
      refine gw_iadd k_Ros_seatOf f_Ros_seatOf_26 ?_
      exact gw_iret k_Ros_seatOf f_Ros_seatOf_27 rfl h
  · have c1 := Decidable.not_not.mp c1
    have h := h.1 c1
    refine gw_iconst k_Ros_seatOf f_Ros_seatOf_4 qc_0 ?_
    refine gw_goto (t := 18) k_Ros_seatOf f_Ros_seatOf_5 rfl ?_
    refine gw_istore_n [some (.inl a0), some (.inl a1), some (.inl a2), some (.inl 0)] k_Ros_seatOf f_Ros_seatOf_18 (Nat.le_of_ble_eq_true rfl) rfl ?_
    refine gw_iload_n k_Ros_seatOf f_Ros_seatOf_19 rfl ?_
    refine gw_bipush k_Ros_seatOf f_Ros_seatOf_20 qb_11 ?_
    refine gw_imul k_Ros_seatOf f_Ros_seatOf_22 ?_
    refine gw_iload_n k_Ros_seatOf f_Ros_seatOf_23 rfl ?_
    refine gw_iadd k_Ros_seatOf f_Ros_seatOf_24 ?_
    refine gw_iload_n k_Ros_seatOf f_Ros_seatOf_25 rfl ?_
    refine gw_iadd k_Ros_seatOf f_Ros_seatOf_26 ?_
    exact gw_iret k_Ros_seatOf f_Ros_seatOf_27 rfl h
theorem ev_Ros_seatOf {zs : List Int32} {a0 a1 a2 : Int32} {w : Wd} {Q : Option AV → Wd → Prop} (h : Q (some (.inl (f_Ros_seatOf a0 a1 a2))) w) : Ew zs 0 m_Ros_seatOf [.inl a0, .inl a1, .inl a2] w Q := by
  refine ew_of k_Ros_seatOf rfl (sg_Ros_seatOf_0 ?_)
  refine ⟨fun c1 => ?_, fun c1 => ?_⟩
  ·
    rw [show f_Ros_seatOf a0 a1 a2 = (((a0 * 11) + 0) + a2) from by unfold f_Ros_seatOf; rw [if_pos c1]] at h
    exact h
  ·
    refine ⟨fun c2 => ?_, fun c2 => ?_⟩
    ·
      rw [show f_Ros_seatOf a0 a1 a2 = (((a0 * 11) + 1) + a2) from by unfold f_Ros_seatOf; rw [if_neg c1, if_pos c2]] at h
      exact h
    ·
      rw [show f_Ros_seatOf a0 a1 a2 = (((a0 * 11) + 5) + a2) from by unfold f_Ros_seatOf; rw [if_neg c1, if_neg c2]] at h
      exact h
def g_Ros_enter (w : Wd) (a0 : Int32) (a1 : Int32) (a2 : Int32) : Wd := g_put (g_put w 153 72 ((a0 * 3) + a1) ((f_at w 153 72 ((a0 * 3) + a1)) + 1)) 154 72 ((a0 * 3) + a1) a2
theorem sg_Ros_enter_0 {zs : List Int32} {a0 a1 a2 : Int32} {w : Wd} {Q : Option AV → Wd → Prop} (h : Q (none) (g_put (g_put w 153 72 ((a0 * 3) + a1) ((f_at w 153 72 ((a0 * 3) + a1)) + 1)) 154 72 ((a0 * 3) + a1) a2)) : Gw zs 1 m_Ros_enter 0 [some (.inr (.inl (some 150))), some (.inl a0), some (.inl a1), some (.inl a2), none] [] w Q := by
  refine gw_iload_n k_Ros_enter f_Ros_enter_0 rfl ?_
  refine gw_iconst k_Ros_enter f_Ros_enter_1 qc_3 ?_
  refine gw_imul k_Ros_enter f_Ros_enter_2 ?_
  refine gw_iload_n k_Ros_enter f_Ros_enter_3 rfl ?_
  refine gw_iadd k_Ros_enter f_Ros_enter_4 ?_
  refine gw_istore [some (.inr (.inl (some 150))), some (.inl a0), some (.inl a1), some (.inl a2), some (.inl ((a0 * 3) + a1))] k_Ros_enter f_Ros_enter_5 (Nat.le_of_ble_eq_true rfl) rfl ?_
  refine gw_aload_n k_Ros_enter f_Ros_enter_7 rfl ?_
  refine gw_getR k_Ros_enter f_Ros_enter_8 l_fldT_6_20 hc150 rfl ?_
  refine gw_iload k_Ros_enter f_Ros_enter_11 rfl ?_
  refine gw_aload_n k_Ros_enter f_Ros_enter_13 rfl ?_
  refine gw_getR k_Ros_enter f_Ros_enter_14 l_fldT_6_20 hc150 rfl ?_
  refine gw_iload k_Ros_enter f_Ros_enter_17 rfl ?_
  refine gw_static [.inr (.inl (some 153)), .inl ((a0 * 3) + a1)] k_Ros_enter f_Ros_enter_19 l_invT_6_57 (by decide) k_Bk_at rfl (by exact Nat.le_of_ble_eq_true rfl) (dc := 0) (by decide) ?_ rfl
  refine ev_at hc153 (by decide) ?_
  show Gw zs 1 m_Ros_enter 22 [some (.inr (.inl (some 150))), some (.inl a0), some (.inl a1), some (.inl a2), some (.inl ((a0 * 3) + a1))] [.inl (f_at w 153 72 ((a0 * 3) + a1)), .inl ((a0 * 3) + a1), .inr (.inl (some 153))] w _
  refine gw_iconst k_Ros_enter f_Ros_enter_22 qc_1 ?_
  refine gw_iadd k_Ros_enter f_Ros_enter_23 ?_
  refine gw_static [.inr (.inl (some 153)), .inl ((a0 * 3) + a1), .inl ((f_at w 153 72 ((a0 * 3) + a1)) + 1)] k_Ros_enter f_Ros_enter_24 l_invT_6_42 (by decide) k_Bk_put rfl (by exact Nat.le_of_ble_eq_true rfl) (dc := 0) (by decide) ?_ rfl
  refine ev_put hc153 (by decide) ?_
  show Gw zs 1 m_Ros_enter 27 [some (.inr (.inl (some 150))), some (.inl a0), some (.inl a1), some (.inl a2), some (.inl ((a0 * 3) + a1))] [] (g_put w 153 72 ((a0 * 3) + a1) ((f_at w 153 72 ((a0 * 3) + a1)) + 1)) _
  refine gw_aload_n k_Ros_enter f_Ros_enter_27 rfl ?_
  refine gw_getR k_Ros_enter f_Ros_enter_28 l_fldT_6_23 hc150 rfl ?_
  refine gw_iload k_Ros_enter f_Ros_enter_31 rfl ?_
  refine gw_iload_n k_Ros_enter f_Ros_enter_33 rfl ?_
  refine gw_static [.inr (.inl (some 154)), .inl ((a0 * 3) + a1), .inl a2] k_Ros_enter f_Ros_enter_34 l_invT_6_42 (by decide) k_Bk_put rfl (by exact Nat.le_of_ble_eq_true rfl) (dc := 0) (by decide) ?_ rfl
  refine ev_put hc154 (by decide) ?_
  show Gw zs 1 m_Ros_enter 37 [some (.inr (.inl (some 150))), some (.inl a0), some (.inl a1), some (.inl a2), some (.inl ((a0 * 3) + a1))] [] (g_put (g_put w 153 72 ((a0 * 3) + a1) ((f_at w 153 72 ((a0 * 3) + a1)) + 1)) 154 72 ((a0 * 3) + a1) a2) _
  exact gw_vret k_Ros_enter f_Ros_enter_37 rfl h
theorem ev_Ros_enter {zs : List Int32} {a0 a1 a2 : Int32} {w : Wd} {Q : Option AV → Wd → Prop} (h : Q (none) (g_Ros_enter w a0 a1 a2)) : Ew zs 1 m_Ros_enter [.inr (.inl (some 150)), .inl a0, .inl a1, .inl a2] w Q := by
  refine ew_of k_Ros_enter rfl (sg_Ros_enter_0 ?_)
  rw [show g_Ros_enter w a0 a1 a2 = (g_put (g_put w 153 72 ((a0 * 3) + a1) ((f_at w 153 72 ((a0 * 3) + a1)) + 1)) 154 72 ((a0 * 3) + a1) a2) from by unfold g_Ros_enter; rfl] at h
  exact h
theorem gn_Ros_enter {w : Wd} {a0 : Int32} {a1 : Int32} {a2 : Int32} {c k : Nat} (h : c ∉ [153, 154]) : g_Ros_enter w a0 a1 a2 c k = w c k := by
  simp only [List.mem_cons, List.not_mem_nil, or_false, not_or] at h
  unfold g_Ros_enter
  repeat' split
  all_goals simp [wr, g_put_ne, h]
def f_Ros_monkAt (w : Wd) (a0 : Int32) (a1 : Int32) (a2 : Int32) : Int32 := if a0 < 0 then (-1) else if (w 150 4) ≤ a0 then (-1) else if a2 < 0 then (-1) else if a2 < (f_Ros_manySeats a1 (f_at w 152 60 a0)) then (f_at w 151 660 (f_Ros_seatOf a0 a1 a2)) else (-1)
theorem sg_Ros_monkAt_0 {zs : List Int32} {a0 a1 a2 : Int32} {w : Wd} {Q : Option AV → Wd → Prop} (h : ((a0 < 0 → Q (some (.inl (-1))) w) ∧ (¬ (a0 < 0) → (((w 150 4) ≤ a0 → Q (some (.inl (-1))) w) ∧ (¬ ((w 150 4) ≤ a0) → ((a2 < 0 → Q (some (.inl (-1))) w) ∧ (¬ (a2 < 0) → ((a2 < (f_Ros_manySeats a1 (f_at w 152 60 a0)) → Q (some (.inl (f_at w 151 660 (f_Ros_seatOf a0 a1 a2)))) w) ∧ (¬ (a2 < (f_Ros_manySeats a1 (f_at w 152 60 a0))) → Q (some (.inl (-1))) w))))))))) : Gw zs 1 m_Ros_monkAt 0 [some (.inr (.inl (some 150))), some (.inl a0), some (.inl a1), some (.inl a2)] [] w Q := by
  refine gw_iload_n k_Ros_monkAt f_Ros_monkAt_0 rfl ?_
  refine gw_if_lt (t := 32) k_Ros_monkAt f_Ros_monkAt_1 rfl (fun c1 => ?_) (fun c1 => ?_)
  · have h := h.1 c1
    refine gw_iconst k_Ros_monkAt f_Ros_monkAt_32 qc_m1 ?_
    exact gw_iret k_Ros_monkAt f_Ros_monkAt_33 rfl h
  · have h := h.2 c1
    refine gw_iload_n k_Ros_monkAt f_Ros_monkAt_4 rfl ?_
    refine gw_aload_n k_Ros_monkAt f_Ros_monkAt_5 rfl ?_
    refine gw_getI k_Ros_monkAt f_Ros_monkAt_6 l_fldT_6_32 hc150 rfl ?_
    refine gw_icmp_ge (t := 32) k_Ros_monkAt f_Ros_monkAt_9 rfl (fun c2 => ?_) (fun c2 => ?_)
    · have h := h.1 c2
      refine gw_iconst k_Ros_monkAt f_Ros_monkAt_32 qc_m1 ?_
      exact gw_iret k_Ros_monkAt f_Ros_monkAt_33 rfl h
    · have h := h.2 c2
      refine gw_iload_n k_Ros_monkAt f_Ros_monkAt_12 rfl ?_
      refine gw_if_lt (t := 32) k_Ros_monkAt f_Ros_monkAt_13 rfl (fun c3 => ?_) (fun c3 => ?_)
      · have h := h.1 c3
        refine gw_iconst k_Ros_monkAt f_Ros_monkAt_32 qc_m1 ?_
        exact gw_iret k_Ros_monkAt f_Ros_monkAt_33 rfl h
      · have h := h.2 c3
        refine gw_iload_n k_Ros_monkAt f_Ros_monkAt_16 rfl ?_
        refine gw_iload_n k_Ros_monkAt f_Ros_monkAt_17 rfl ?_
        refine gw_aload_n k_Ros_monkAt f_Ros_monkAt_18 rfl ?_
        refine gw_getR k_Ros_monkAt f_Ros_monkAt_19 l_fldT_6_15 hc150 rfl ?_
        refine gw_iload_n k_Ros_monkAt f_Ros_monkAt_22 rfl ?_
        refine gw_static [.inr (.inl (some 152)), .inl a0] k_Ros_monkAt f_Ros_monkAt_23 l_invT_6_57 (by decide) k_Bk_at rfl (by exact Nat.le_of_ble_eq_true rfl) (dc := 0) (by decide) ?_ rfl
        refine ev_at hc152 (by decide) ?_
        show Gw zs 1 m_Ros_monkAt 26 [some (.inr (.inl (some 150))), some (.inl a0), some (.inl a1), some (.inl a2)] [.inl (f_at w 152 60 a0), .inl a1, .inl a2] w _
        refine gw_static [.inl a1, .inl (f_at w 152 60 a0)] k_Ros_monkAt f_Ros_monkAt_26 l_invT_6_61 (by decide) k_Ros_manySeats rfl (by exact Nat.le_of_ble_eq_true rfl) (dc := 0) (by decide) ?_ rfl
        refine ev_Ros_manySeats ?_
        show Gw zs 1 m_Ros_monkAt 29 [some (.inr (.inl (some 150))), some (.inl a0), some (.inl a1), some (.inl a2)] [.inl (f_Ros_manySeats a1 (f_at w 152 60 a0)), .inl a2] w _
        refine gw_icmp_lt (t := 34) k_Ros_monkAt f_Ros_monkAt_29 rfl (fun c4 => ?_) (fun c4 => ?_)
        · have h := h.1 c4
          refine gw_aload_n k_Ros_monkAt f_Ros_monkAt_34 rfl ?_
          refine gw_getR k_Ros_monkAt f_Ros_monkAt_35 l_fldT_6_11 hc150 rfl ?_
          refine gw_iload_n k_Ros_monkAt f_Ros_monkAt_38 rfl ?_
          refine gw_iload_n k_Ros_monkAt f_Ros_monkAt_39 rfl ?_
          refine gw_iload_n k_Ros_monkAt f_Ros_monkAt_40 rfl ?_
          refine gw_static [.inl a0, .inl a1, .inl a2] k_Ros_monkAt f_Ros_monkAt_41 l_invT_6_67 (by decide) k_Ros_seatOf rfl (by exact Nat.le_of_ble_eq_true rfl) (dc := 0) (by decide) ?_ rfl
          refine ev_Ros_seatOf ?_
          show Gw zs 1 m_Ros_monkAt 44 [some (.inr (.inl (some 150))), some (.inl a0), some (.inl a1), some (.inl a2)] [.inl (f_Ros_seatOf a0 a1 a2), .inr (.inl (some 151))] w _
          refine gw_static [.inr (.inl (some 151)), .inl (f_Ros_seatOf a0 a1 a2)] k_Ros_monkAt f_Ros_monkAt_44 l_invT_6_57 (by decide) k_Bk_at rfl (by exact Nat.le_of_ble_eq_true rfl) (dc := 0) (by decide) ?_ rfl
          refine ev_at hc151 (by decide) ?_
          show Gw zs 1 m_Ros_monkAt 47 [some (.inr (.inl (some 150))), some (.inl a0), some (.inl a1), some (.inl a2)] [.inl (f_at w 151 660 (f_Ros_seatOf a0 a1 a2))] w _
          exact gw_iret k_Ros_monkAt f_Ros_monkAt_47 rfl h
        · have h := h.2 c4
          refine gw_iconst k_Ros_monkAt f_Ros_monkAt_32 qc_m1 ?_
          exact gw_iret k_Ros_monkAt f_Ros_monkAt_33 rfl h
theorem ev_Ros_monkAt {zs : List Int32} {a0 a1 a2 : Int32} {w : Wd} {Q : Option AV → Wd → Prop} (h : Q (some (.inl (f_Ros_monkAt w a0 a1 a2))) w) : Ew zs 1 m_Ros_monkAt [.inr (.inl (some 150)), .inl a0, .inl a1, .inl a2] w Q := by
  refine ew_of k_Ros_monkAt rfl (sg_Ros_monkAt_0 ?_)
  refine ⟨fun c1 => ?_, fun c1 => ?_⟩
  ·
    rw [show f_Ros_monkAt w a0 a1 a2 = (-1) from by unfold f_Ros_monkAt; rw [if_pos c1]] at h
    exact h
  ·
    refine ⟨fun c2 => ?_, fun c2 => ?_⟩
    ·
      rw [show f_Ros_monkAt w a0 a1 a2 = (-1) from by unfold f_Ros_monkAt; rw [if_neg c1, if_pos c2]] at h
      exact h
    ·
      refine ⟨fun c3 => ?_, fun c3 => ?_⟩
      ·
        rw [show f_Ros_monkAt w a0 a1 a2 = (-1) from by unfold f_Ros_monkAt; rw [if_neg c1, if_neg c2, if_pos c3]] at h
        exact h
      ·
        refine ⟨fun c4 => ?_, fun c4 => ?_⟩
        ·
          rw [show f_Ros_monkAt w a0 a1 a2 = (f_at w 151 660 (f_Ros_seatOf a0 a1 a2)) from by unfold f_Ros_monkAt; rw [if_neg c1, if_neg c2, if_neg c3, if_pos c4]] at h
          exact h
        ·
          rw [show f_Ros_monkAt w a0 a1 a2 = (-1) from by unfold f_Ros_monkAt; rw [if_neg c1, if_neg c2, if_neg c3, if_neg c4]] at h
          exact h
def f_Bk_turn (w : Wd) (a0 : Int32) (a1 : Int32) (a2 : Int32) : Int32 := (f_Ros_monkAt w a0 a1 a2)
theorem sg_Bk_turn_0 {zs : List Int32} {a0 a1 a2 : Int32} {w : Wd} {Q : Option AV → Wd → Prop} (h : Q (some (.inl (f_Ros_monkAt w a0 a1 a2))) w) : Gw zs 2 m_Bk_turn 0 [some (.inr (.inl (some 0))), some (.inl a0), some (.inl a1), some (.inl a2)] [] w Q := by
  refine gw_aload_n k_Bk_turn f_Bk_turn_0 rfl ?_
  refine gw_getR k_Bk_turn f_Bk_turn_1 l_fldT_10_63 hc0 rfl ?_
  refine gw_iload_n k_Bk_turn f_Bk_turn_4 rfl ?_
  refine gw_iload_n k_Bk_turn f_Bk_turn_5 rfl ?_
  refine gw_iload_n k_Bk_turn f_Bk_turn_6 rfl ?_
  refine gw_virtual [.inl a0, .inl a1, .inl a2] k_Bk_turn f_Bk_turn_7 l_invT_10_237 k_Ros_monkAt hc150 rfl rfl rfl (by exact Nat.le_of_ble_eq_true rfl) (dc := 1) (by decide) ?_ rfl
  refine ev_Ros_monkAt ?_
  show Gw zs 2 m_Bk_turn 10 [some (.inr (.inl (some 0))), some (.inl a0), some (.inl a1), some (.inl a2)] [.inl (f_Ros_monkAt w a0 a1 a2)] w _
  exact gw_iret k_Bk_turn f_Bk_turn_10 rfl h
theorem ev_Bk_turn {zs : List Int32} {a0 a1 a2 : Int32} {w : Wd} {Q : Option AV → Wd → Prop} (h : Q (some (.inl (f_Bk_turn w a0 a1 a2))) w) : Ew zs 2 m_Bk_turn [.inr (.inl (some 0)), .inl a0, .inl a1, .inl a2] w Q := by
  refine ew_of k_Bk_turn rfl (sg_Bk_turn_0 ?_)
  rw [show f_Bk_turn w a0 a1 a2 = (f_Ros_monkAt w a0 a1 a2) from by unfold f_Bk_turn; rfl] at h
  exact h
def f_Ros_timesOf (w : Wd) (a0 : Int32) (a1 : Int32) : Int32 := if (w 150 4) = 0 then (-1) else if (f_Bk_within a1 0 2) = 0 then (-1) else (f_at w 153 72 ((a0 * 3) + a1))
theorem sg_Ros_timesOf_0 {zs : List Int32} {a0 a1 : Int32} {w : Wd} {Q : Option AV → Wd → Prop} (h : (((w 150 4) = 0 → Q (some (.inl (-1))) w) ∧ (¬ ((w 150 4) = 0) → (((f_Bk_within a1 0 2) = 0 → Q (some (.inl (-1))) w) ∧ (¬ ((f_Bk_within a1 0 2) = 0) → Q (some (.inl (f_at w 153 72 ((a0 * 3) + a1)))) w))))) : Gw zs 1 m_Ros_timesOf 0 [some (.inr (.inl (some 150))), some (.inl a0), some (.inl a1)] [] w Q := by
  refine gw_aload_n k_Ros_timesOf f_Ros_timesOf_0 rfl ?_
  refine gw_getI k_Ros_timesOf f_Ros_timesOf_1 l_fldT_6_32 hc150 rfl ?_
  refine gw_if_eq (t := 16) k_Ros_timesOf f_Ros_timesOf_4 rfl (fun c1 => ?_) (fun c1 => ?_)
  · have h := h.1 c1
    refine gw_iconst k_Ros_timesOf f_Ros_timesOf_16 qc_m1 ?_
    exact gw_iret k_Ros_timesOf f_Ros_timesOf_17 rfl h
  · have h := h.2 c1
    refine gw_iload_n k_Ros_timesOf f_Ros_timesOf_7 rfl ?_
    refine gw_iconst k_Ros_timesOf f_Ros_timesOf_8 qc_0 ?_
    refine gw_iconst k_Ros_timesOf f_Ros_timesOf_9 qc_2 ?_
    refine gw_static [.inl a1, .inl 0, .inl 2] k_Ros_timesOf f_Ros_timesOf_10 l_invT_6_86 (by decide) k_Bk_within rfl (by exact Nat.le_of_ble_eq_true rfl) (dc := 0) (by decide) ?_ rfl
    refine ev_Bk_within ?_
    show Gw zs 1 m_Ros_timesOf 13 [some (.inr (.inl (some 150))), some (.inl a0), some (.inl a1)] [.inl (f_Bk_within a1 0 2)] w _
    refine gw_if_ne (t := 18) k_Ros_timesOf f_Ros_timesOf_13 rfl (fun c2 => ?_) (fun c2 => ?_)
    · have h := h.2 c2
      refine gw_aload_n k_Ros_timesOf f_Ros_timesOf_18 rfl ?_
      refine gw_getR k_Ros_timesOf f_Ros_timesOf_19 l_fldT_6_20 hc150 rfl ?_
      refine gw_iload_n k_Ros_timesOf f_Ros_timesOf_22 rfl ?_
      refine gw_iconst k_Ros_timesOf f_Ros_timesOf_23 qc_3 ?_
      refine gw_imul k_Ros_timesOf f_Ros_timesOf_24 ?_
      refine gw_iload_n k_Ros_timesOf f_Ros_timesOf_25 rfl ?_
      refine gw_iadd k_Ros_timesOf f_Ros_timesOf_26 ?_
      refine gw_static [.inr (.inl (some 153)), .inl ((a0 * 3) + a1)] k_Ros_timesOf f_Ros_timesOf_27 l_invT_6_57 (by decide) k_Bk_at rfl (by exact Nat.le_of_ble_eq_true rfl) (dc := 0) (by decide) ?_ rfl
      refine ev_at hc153 (by decide) ?_
      show Gw zs 1 m_Ros_timesOf 30 [some (.inr (.inl (some 150))), some (.inl a0), some (.inl a1)] [.inl (f_at w 153 72 ((a0 * 3) + a1))] w _
      exact gw_iret k_Ros_timesOf f_Ros_timesOf_30 rfl h
    · have c2 := Decidable.not_not.mp c2
      have h := h.1 c2
      refine gw_iconst k_Ros_timesOf f_Ros_timesOf_16 qc_m1 ?_
      exact gw_iret k_Ros_timesOf f_Ros_timesOf_17 rfl h
theorem ev_Ros_timesOf {zs : List Int32} {a0 a1 : Int32} {w : Wd} {Q : Option AV → Wd → Prop} (h : Q (some (.inl (f_Ros_timesOf w a0 a1))) w) : Ew zs 1 m_Ros_timesOf [.inr (.inl (some 150)), .inl a0, .inl a1] w Q := by
  refine ew_of k_Ros_timesOf rfl (sg_Ros_timesOf_0 ?_)
  refine ⟨fun c1 => ?_, fun c1 => ?_⟩
  ·
    rw [show f_Ros_timesOf w a0 a1 = (-1) from by unfold f_Ros_timesOf; rw [if_pos c1]] at h
    exact h
  ·
    refine ⟨fun c2 => ?_, fun c2 => ?_⟩
    ·
      rw [show f_Ros_timesOf w a0 a1 = (-1) from by unfold f_Ros_timesOf; rw [if_neg c1, if_pos c2]] at h
      exact h
    ·
      rw [show f_Ros_timesOf w a0 a1 = (f_at w 153 72 ((a0 * 3) + a1)) from by unfold f_Ros_timesOf; rw [if_neg c1, if_neg c2]] at h
      exact h
def f_Bk_had (w : Wd) (a0 : Int32) (a1 : Int32) : Int32 := if (f_Cho_hasMonk w a0) = 0 then (-1) else (f_Ros_timesOf w a0 a1)
theorem sg_Bk_had_0 {zs : List Int32} {a0 a1 : Int32} {w : Wd} {Q : Option AV → Wd → Prop} (h : (((f_Cho_hasMonk w a0) = 0 → Q (some (.inl (-1))) w) ∧ (¬ ((f_Cho_hasMonk w a0) = 0) → Q (some (.inl (f_Ros_timesOf w a0 a1))) w))) : Gw zs 2 m_Bk_had 0 [some (.inr (.inl (some 0))), some (.inl a0), some (.inl a1)] [] w Q := by
  refine gw_aload_n k_Bk_had f_Bk_had_0 rfl ?_
  refine gw_getR k_Bk_had f_Bk_had_1 l_fldT_10_56 hc0 rfl ?_
  refine gw_iload_n k_Bk_had f_Bk_had_4 rfl ?_
  refine gw_virtual [.inl a0] k_Bk_had f_Bk_had_5 l_invT_10_240 k_Cho_hasMonk hc144 rfl rfl rfl (by exact Nat.le_of_ble_eq_true rfl) (dc := 0) (by decide) ?_ rfl
  refine ev_Cho_hasMonk ?_
  show Gw zs 2 m_Bk_had 8 [some (.inr (.inl (some 0))), some (.inl a0), some (.inl a1)] [.inl (f_Cho_hasMonk w a0)] w _
  refine gw_if_eq (t := 23) k_Bk_had f_Bk_had_8 rfl (fun c1 => ?_) (fun c1 => ?_)
  · have h := h.1 c1
    refine gw_iconst k_Bk_had f_Bk_had_23 qc_m1 ?_
    exact gw_iret k_Bk_had f_Bk_had_24 rfl h
  · have h := h.2 c1
    refine gw_aload_n k_Bk_had f_Bk_had_11 rfl ?_
    refine gw_getR k_Bk_had f_Bk_had_12 l_fldT_10_63 hc0 rfl ?_
    refine gw_iload_n k_Bk_had f_Bk_had_15 rfl ?_
    refine gw_iload_n k_Bk_had f_Bk_had_16 rfl ?_
    refine gw_virtual [.inl a0, .inl a1] k_Bk_had f_Bk_had_17 l_invT_10_243 k_Ros_timesOf hc150 rfl rfl rfl (by exact Nat.le_of_ble_eq_true rfl) (dc := 1) (by decide) ?_ rfl
    refine ev_Ros_timesOf ?_
    show Gw zs 2 m_Bk_had 20 [some (.inr (.inl (some 0))), some (.inl a0), some (.inl a1)] [.inl (f_Ros_timesOf w a0 a1)] w _
    refine gw_goto (t := 24) k_Bk_had f_Bk_had_20 rfl ?_
    exact gw_iret k_Bk_had f_Bk_had_24 rfl h
theorem ev_Bk_had {zs : List Int32} {a0 a1 : Int32} {w : Wd} {Q : Option AV → Wd → Prop} (h : Q (some (.inl (f_Bk_had w a0 a1))) w) : Ew zs 2 m_Bk_had [.inr (.inl (some 0)), .inl a0, .inl a1] w Q := by
  refine ew_of k_Bk_had rfl (sg_Bk_had_0 ?_)
  refine ⟨fun c1 => ?_, fun c1 => ?_⟩
  ·
    rw [show f_Bk_had w a0 a1 = (-1) from by unfold f_Bk_had; rw [if_pos c1]] at h
    exact h
  ·
    rw [show f_Bk_had w a0 a1 = (f_Ros_timesOf w a0 a1) from by unfold f_Bk_had; rw [if_neg c1]] at h
    exact h
def f_Md_in (a0 : Int32) (a1 : Int32) (a2 : Int32) : Int32 := if a0 < a1 then 0 else if a2 < a0 then 0 else 1
theorem sg_Md_in_0 {zs : List Int32} {a0 a1 a2 : Int32} {w : Wd} {Q : Option AV → Wd → Prop} (h : ((a0 < a1 → Q (some (.inl 0)) w) ∧ (¬ (a0 < a1) → ((a2 < a0 → Q (some (.inl 0)) w) ∧ (¬ (a2 < a0) → Q (some (.inl 1)) w))))) : Gw zs 0 m_Md_in 0 [some (.inl a0), some (.inl a1), some (.inl a2)] [] w Q := by
  refine gw_iload_n k_Md_in f_Md_in_0 rfl ?_
  refine gw_iload_n k_Md_in f_Md_in_1 rfl ?_
  refine gw_icmp_lt (t := 14) k_Md_in f_Md_in_2 rfl (fun c1 => ?_) (fun c1 => ?_)
  · have h := h.1 c1
    refine gw_iconst k_Md_in f_Md_in_14 qc_0 ?_
    exact gw_zret k_Md_in f_Md_in_15 rfl (Or.inl rfl) h
  · have h := h.2 c1
    refine gw_iload_n k_Md_in f_Md_in_5 rfl ?_
    refine gw_iload_n k_Md_in f_Md_in_6 rfl ?_
    refine gw_icmp_gt (t := 14) k_Md_in f_Md_in_7 rfl (fun c2 => ?_) (fun c2 => ?_)
    · have h := h.1 c2
      refine gw_iconst k_Md_in f_Md_in_14 qc_0 ?_
      exact gw_zret k_Md_in f_Md_in_15 rfl (Or.inl rfl) h
    · have h := h.2 c2
      refine gw_iconst k_Md_in f_Md_in_10 qc_1 ?_
      refine gw_goto (t := 15) k_Md_in f_Md_in_11 rfl ?_
      exact gw_zret k_Md_in f_Md_in_15 rfl (Or.inr rfl) h
theorem ev_Md_in {zs : List Int32} {a0 a1 a2 : Int32} {w : Wd} {Q : Option AV → Wd → Prop} (h : Q (some (.inl (f_Md_in a0 a1 a2))) w) : Ew zs 0 m_Md_in [.inl a0, .inl a1, .inl a2] w Q := by
  refine ew_of k_Md_in rfl (sg_Md_in_0 ?_)
  refine ⟨fun c1 => ?_, fun c1 => ?_⟩
  ·
    rw [show f_Md_in a0 a1 a2 = 0 from by unfold f_Md_in; rw [if_pos c1]] at h
    exact h
  ·
    refine ⟨fun c2 => ?_, fun c2 => ?_⟩
    ·
      rw [show f_Md_in a0 a1 a2 = 0 from by unfold f_Md_in; rw [if_neg c1, if_pos c2]] at h
      exact h
    ·
      rw [show f_Md_in a0 a1 a2 = 1 from by unfold f_Md_in; rw [if_neg c1, if_neg c2]] at h
      exact h
theorem fb_Md_in {a0 : Int32} {a1 : Int32} {a2 : Int32} : f_Md_in a0 a1 a2 = 0 ∨ f_Md_in a0 a1 a2 = 1 := by
  unfold f_Md_in
  exact (if01 (Or.inl rfl) (if01 (Or.inl rfl) (Or.inr rfl)))
def f_Md_isYear (a0 : Int32) : Int32 := (f_Md_in a0 1900 2199)
theorem sg_Md_isYear_0 {zs : List Int32} {a0 : Int32} {w : Wd} {Q : Option AV → Wd → Prop} (h : Q (some (.inl (f_Md_in a0 1900 2199))) w) : Gw zs 1 m_Md_isYear 0 [some (.inl a0)] [] w Q := by
  refine gw_iload_n k_Md_isYear f_Md_isYear_0 rfl ?_
  refine gw_sipush k_Md_isYear f_Md_isYear_1 qs_1900 ?_
  refine gw_sipush k_Md_isYear f_Md_isYear_4 qs_2199 ?_
  refine gw_static [.inl a0, .inl 1900, .inl 2199] k_Md_isYear f_Md_isYear_7 l_invT_11_1 (by decide) k_Md_in rfl (by exact Nat.le_of_ble_eq_true rfl) (dc := 0) (by decide) ?_ rfl
  refine ev_Md_in ?_
  show Gw zs 1 m_Md_isYear 10 [some (.inl a0)] [.inl (f_Md_in a0 1900 2199)] w _
  exact gw_zret k_Md_isYear f_Md_isYear_10 rfl (fb_Md_in ..) h
theorem ev_Md_isYear {zs : List Int32} {a0 : Int32} {w : Wd} {Q : Option AV → Wd → Prop} (h : Q (some (.inl (f_Md_isYear a0))) w) : Ew zs 1 m_Md_isYear [.inl a0] w Q := by
  refine ew_of k_Md_isYear rfl (sg_Md_isYear_0 ?_)
  rw [show f_Md_isYear a0 = (f_Md_in a0 1900 2199) from by unfold f_Md_isYear; rfl] at h
  exact h
theorem fb_Md_isYear {a0 : Int32} : f_Md_isYear a0 = 0 ∨ f_Md_isYear a0 = 1 := by
  unfold f_Md_isYear
  exact (fb_Md_in ..)
def f_Md_isLeap (a0 : Int32) : Int32 := if (a0 - a0 / 4 * 4) = 0 then if (a0 - a0 / 100 * 100) = 0 then if (a0 - a0 / 400 * 400) = 0 then 1 else 0 else 1 else 0
theorem sg_Md_isLeap_0 {zs : List Int32} {a0 : Int32} {w : Wd} {Q : Option AV → Wd → Prop} (h : (((a0 - a0 / 4 * 4) = 0 → (((a0 - a0 / 100 * 100) = 0 → (((a0 - a0 / 400 * 400) = 0 → Q (some (.inl 1)) w) ∧ (¬ ((a0 - a0 / 400 * 400) = 0) → Q (some (.inl 0)) w))) ∧ (¬ ((a0 - a0 / 100 * 100) = 0) → Q (some (.inl 1)) w))) ∧ (¬ ((a0 - a0 / 4 * 4) = 0) → Q (some (.inl 0)) w))) : Gw zs 0 m_Md_isLeap 0 [some (.inl a0)] [] w Q := by
  refine gw_iload_n k_Md_isLeap f_Md_isLeap_0 rfl ?_
  refine gw_iconst k_Md_isLeap f_Md_isLeap_1 qc_4 ?_
  refine gw_irem k_Md_isLeap f_Md_isLeap_2 (by decide) ?_
  refine gw_if_ne (t := 25) k_Md_isLeap f_Md_isLeap_3 rfl (fun c1 => ?_) (fun c1 => ?_)
  · have h := h.2 c1
    refine gw_iconst k_Md_isLeap f_Md_isLeap_25 qc_0 ?_
    exact gw_zret k_Md_isLeap f_Md_isLeap_26 rfl (Or.inl rfl) h
  · have c1 := Decidable.not_not.mp c1
    have h := h.1 c1
    refine gw_iload_n k_Md_isLeap f_Md_isLeap_6 rfl ?_
    refine gw_bipush k_Md_isLeap f_Md_isLeap_7 qb_100 ?_
    refine gw_irem k_Md_isLeap f_Md_isLeap_9 (by decide) ?_
    refine gw_if_ne (t := 21) k_Md_isLeap f_Md_isLeap_10 rfl (fun c2 => ?_) (fun c2 => ?_)
    · have h := h.2 c2
      refine gw_iconst k_Md_isLeap f_Md_isLeap_21 qc_1 ?_
      refine gw_goto (t := 26) k_Md_isLeap f_Md_isLeap_22 rfl ?_
      exact gw_zret k_Md_isLeap f_Md_isLeap_26 rfl (Or.inr rfl) h
    · have c2 := Decidable.not_not.mp c2
      have h := h.1 c2
      refine gw_iload_n k_Md_isLeap f_Md_isLeap_13 rfl ?_
      refine gw_sipush k_Md_isLeap f_Md_isLeap_14 qs_400 ?_
      refine gw_irem k_Md_isLeap f_Md_isLeap_17 (by decide) ?_
      refine gw_if_ne (t := 25) k_Md_isLeap f_Md_isLeap_18 rfl (fun c3 => ?_) (fun c3 => ?_)
      · have h := h.2 c3
        refine gw_iconst k_Md_isLeap f_Md_isLeap_25 qc_0 ?_
        exact gw_zret k_Md_isLeap f_Md_isLeap_26 rfl (Or.inl rfl) h
      · have c3 := Decidable.not_not.mp c3
        have h := h.1 c3
        refine gw_iconst k_Md_isLeap f_Md_isLeap_21 qc_1 ?_
        refine gw_goto (t := 26) k_Md_isLeap f_Md_isLeap_22 rfl ?_
        exact gw_zret k_Md_isLeap f_Md_isLeap_26 rfl (Or.inr rfl) h
theorem ev_Md_isLeap {zs : List Int32} {a0 : Int32} {w : Wd} {Q : Option AV → Wd → Prop} (h : Q (some (.inl (f_Md_isLeap a0))) w) : Ew zs 0 m_Md_isLeap [.inl a0] w Q := by
  refine ew_of k_Md_isLeap rfl (sg_Md_isLeap_0 ?_)
  refine ⟨fun c1 => ?_, fun c1 => ?_⟩
  ·
    refine ⟨fun c2 => ?_, fun c2 => ?_⟩
    ·
      refine ⟨fun c3 => ?_, fun c3 => ?_⟩
      ·
        rw [show f_Md_isLeap a0 = 1 from by unfold f_Md_isLeap; rw [if_pos c1, if_pos c2, if_pos c3]] at h
        exact h
      ·
        rw [show f_Md_isLeap a0 = 0 from by unfold f_Md_isLeap; rw [if_pos c1, if_pos c2, if_neg c3]] at h
        exact h
    ·
      rw [show f_Md_isLeap a0 = 1 from by unfold f_Md_isLeap; rw [if_pos c1, if_neg c2]] at h
      exact h
  ·
    rw [show f_Md_isLeap a0 = 0 from by unfold f_Md_isLeap; rw [if_neg c1]] at h
    exact h
theorem fb_Md_isLeap {a0 : Int32} : f_Md_isLeap a0 = 0 ∨ f_Md_isLeap a0 = 1 := by
  unfold f_Md_isLeap
  exact (if01 (if01 (if01 (Or.inr rfl) (Or.inl rfl)) (Or.inr rfl)) (Or.inl rfl))
def f_Md_daysOf (a0 : Int32) : Int32 := if (f_Md_isLeap a0) = 0 then 365 else 366
theorem sg_Md_daysOf_0 {zs : List Int32} {a0 : Int32} {w : Wd} {Q : Option AV → Wd → Prop} (h : (((f_Md_isLeap a0) = 0 → Q (some (.inl 365)) w) ∧ (¬ ((f_Md_isLeap a0) = 0) → Q (some (.inl 366)) w))) : Gw zs 1 m_Md_daysOf 0 [some (.inl a0)] [] w Q := by
  refine gw_iload_n k_Md_daysOf f_Md_daysOf_0 rfl ?_
  refine gw_static [.inl a0] k_Md_daysOf f_Md_daysOf_1 l_invT_11_7 (by decide) k_Md_isLeap rfl (by exact Nat.le_of_ble_eq_true rfl) (dc := 0) (by decide) ?_ rfl
  refine ev_Md_isLeap ?_
  show Gw zs 1 m_Md_daysOf 4 [some (.inl a0)] [.inl (f_Md_isLeap a0)] w _
  refine gw_if_eq (t := 13) k_Md_daysOf f_Md_daysOf_4 rfl (fun c1 => ?_) (fun c1 => ?_)
  · have h := h.1 c1
    refine gw_sipush k_Md_daysOf f_Md_daysOf_13 qs_365 ?_
    exact gw_iret k_Md_daysOf f_Md_daysOf_16 rfl h
  · have h := h.2 c1
    refine gw_sipush k_Md_daysOf f_Md_daysOf_7 qs_366 ?_
    refine gw_goto (t := 16) k_Md_daysOf f_Md_daysOf_10 rfl ?_
    exact gw_iret k_Md_daysOf f_Md_daysOf_16 rfl h
theorem ev_Md_daysOf {zs : List Int32} {a0 : Int32} {w : Wd} {Q : Option AV → Wd → Prop} (h : Q (some (.inl (f_Md_daysOf a0))) w) : Ew zs 1 m_Md_daysOf [.inl a0] w Q := by
  refine ew_of k_Md_daysOf rfl (sg_Md_daysOf_0 ?_)
  refine ⟨fun c1 => ?_, fun c1 => ?_⟩
  ·
    rw [show f_Md_daysOf a0 = 365 from by unfold f_Md_daysOf; rw [if_pos c1]] at h
    exact h
  ·
    rw [show f_Md_daysOf a0 = 366 from by unfold f_Md_daysOf; rw [if_neg c1]] at h
    exact h
def f_Md_daysIn (a0 : Int32) (a1 : Int32) : Int32 := if a1 = 2 then if (f_Md_isLeap a0) = 0 then 28 else 29 else if a1 = 4 then 30 else if a1 = 6 then 30 else if a1 = 9 then 30 else if a1 = 11 then 30 else 31
theorem sg_Md_daysIn_0 {zs : List Int32} {a0 a1 : Int32} {w : Wd} {Q : Option AV → Wd → Prop} (h : ((a1 = 2 → (((f_Md_isLeap a0) = 0 → Q (some (.inl 28)) w) ∧ (¬ ((f_Md_isLeap a0) = 0) → Q (some (.inl 29)) w))) ∧ (¬ (a1 = 2) → ((a1 = 4 → Q (some (.inl 30)) w) ∧ (¬ (a1 = 4) → ((a1 = 6 → Q (some (.inl 30)) w) ∧ (¬ (a1 = 6) → ((a1 = 9 → Q (some (.inl 30)) w) ∧ (¬ (a1 = 9) → ((a1 = 11 → Q (some (.inl 30)) w) ∧ (¬ (a1 = 11) → Q (some (.inl 31)) w))))))))))) : Gw zs 1 m_Md_daysIn 0 [some (.inl a0), some (.inl a1)] [] w Q := by
  refine gw_iload_n k_Md_daysIn f_Md_daysIn_0 rfl ?_
  refine gw_iconst k_Md_daysIn f_Md_daysIn_1 qc_2 ?_
  refine gw_icmp_ne (t := 22) k_Md_daysIn f_Md_daysIn_2 rfl (fun c1 => ?_) (fun c1 => ?_)
  · have h := h.2 c1
    refine gw_iload_n k_Md_daysIn f_Md_daysIn_22 rfl ?_
    refine gw_iconst k_Md_daysIn f_Md_daysIn_23 qc_4 ?_
    refine gw_icmp_eq (t := 45) k_Md_daysIn f_Md_daysIn_24 rfl (fun c2 => ?_) (fun c2 => ?_)
    · have h := h.1 c2
      refine gw_bipush k_Md_daysIn f_Md_daysIn_45 qb_30 ?_
      refine gw_goto (t := 52) k_Md_daysIn f_Md_daysIn_47 rfl ?_
      exact gw_iret k_Md_daysIn f_Md_daysIn_52 rfl h
    · have h := h.2 c2
      refine gw_iload_n k_Md_daysIn f_Md_daysIn_27 rfl ?_
      refine gw_bipush k_Md_daysIn f_Md_daysIn_28 qb_6 ?_
      refine gw_icmp_eq (t := 45) k_Md_daysIn f_Md_daysIn_30 rfl (fun c3 => ?_) (fun c3 => ?_)
      · have h := h.1 c3
        refine gw_bipush k_Md_daysIn f_Md_daysIn_45 qb_30 ?_
        refine gw_goto (t := 52) k_Md_daysIn f_Md_daysIn_47 rfl ?_
        exact gw_iret k_Md_daysIn f_Md_daysIn_52 rfl h
      · have h := h.2 c3
        refine gw_iload_n k_Md_daysIn f_Md_daysIn_33 rfl ?_
        refine gw_bipush k_Md_daysIn f_Md_daysIn_34 qb_9 ?_
        refine gw_icmp_eq (t := 45) k_Md_daysIn f_Md_daysIn_36 rfl (fun c4 => ?_) (fun c4 => ?_)
        · have h := h.1 c4
          refine gw_bipush k_Md_daysIn f_Md_daysIn_45 qb_30 ?_
          refine gw_goto (t := 52) k_Md_daysIn f_Md_daysIn_47 rfl ?_
          exact gw_iret k_Md_daysIn f_Md_daysIn_52 rfl h
        · have h := h.2 c4
          refine gw_iload_n k_Md_daysIn f_Md_daysIn_39 rfl ?_
          refine gw_bipush k_Md_daysIn f_Md_daysIn_40 qb_11 ?_
          refine gw_icmp_ne (t := 50) k_Md_daysIn f_Md_daysIn_42 rfl (fun c5 => ?_) (fun c5 => ?_)
          · have h := h.2 c5
            refine gw_bipush k_Md_daysIn f_Md_daysIn_50 qb_31 ?_
            exact gw_iret k_Md_daysIn f_Md_daysIn_52 rfl h
          · have c5 := Decidable.not_not.mp c5
            have h := h.1 c5
            refine gw_bipush k_Md_daysIn f_Md_daysIn_45 qb_30 ?_
            refine gw_goto (t := 52) k_Md_daysIn f_Md_daysIn_47 rfl ?_
            exact gw_iret k_Md_daysIn f_Md_daysIn_52 rfl h
  · have c1 := Decidable.not_not.mp c1
    have h := h.1 c1
    refine gw_iload_n k_Md_daysIn f_Md_daysIn_5 rfl ?_
    refine gw_static [.inl a0] k_Md_daysIn f_Md_daysIn_6 l_invT_11_7 (by decide) k_Md_isLeap rfl (by exact Nat.le_of_ble_eq_true rfl) (dc := 0) (by decide) ?_ rfl
    refine ev_Md_isLeap ?_
    show Gw zs 1 m_Md_daysIn 9 [some (.inl a0), some (.inl a1)] [.inl (f_Md_isLeap a0)] w _
    refine gw_if_eq (t := 17) k_Md_daysIn f_Md_daysIn_9 rfl (fun c6 => ?_) (fun c6 => ?_)
    · have h := h.1 c6
      refine gw_bipush k_Md_daysIn f_Md_daysIn_17 qb_28 ?_
      refine gw_goto (t := 52) k_Md_daysIn f_Md_daysIn_19 rfl ?_
      exact gw_iret k_Md_daysIn f_Md_daysIn_52 rfl h
    · have h := h.2 c6
      refine gw_bipush k_Md_daysIn f_Md_daysIn_12 qb_29 ?_
      refine gw_goto (t := 52) k_Md_daysIn f_Md_daysIn_14 rfl ?_
      exact gw_iret k_Md_daysIn f_Md_daysIn_52 rfl h
theorem ev_Md_daysIn {zs : List Int32} {a0 a1 : Int32} {w : Wd} {Q : Option AV → Wd → Prop} (h : Q (some (.inl (f_Md_daysIn a0 a1))) w) : Ew zs 1 m_Md_daysIn [.inl a0, .inl a1] w Q := by
  refine ew_of k_Md_daysIn rfl (sg_Md_daysIn_0 ?_)
  refine ⟨fun c1 => ?_, fun c1 => ?_⟩
  ·
    refine ⟨fun c6 => ?_, fun c6 => ?_⟩
    ·
      rw [show f_Md_daysIn a0 a1 = 28 from by unfold f_Md_daysIn; rw [if_pos c1, if_pos c6]] at h
      exact h
    ·
      rw [show f_Md_daysIn a0 a1 = 29 from by unfold f_Md_daysIn; rw [if_pos c1, if_neg c6]] at h
      exact h
  ·
    refine ⟨fun c2 => ?_, fun c2 => ?_⟩
    ·
      rw [show f_Md_daysIn a0 a1 = 30 from by unfold f_Md_daysIn; rw [if_neg c1, if_pos c2]] at h
      exact h
    ·
      refine ⟨fun c3 => ?_, fun c3 => ?_⟩
      ·
        rw [show f_Md_daysIn a0 a1 = 30 from by unfold f_Md_daysIn; rw [if_neg c1, if_neg c2, if_pos c3]] at h
        exact h
      ·
        refine ⟨fun c4 => ?_, fun c4 => ?_⟩
        ·
          rw [show f_Md_daysIn a0 a1 = 30 from by unfold f_Md_daysIn; rw [if_neg c1, if_neg c2, if_neg c3, if_pos c4]] at h
          exact h
        ·
          refine ⟨fun c5 => ?_, fun c5 => ?_⟩
          ·
            rw [show f_Md_daysIn a0 a1 = 30 from by unfold f_Md_daysIn; rw [if_neg c1, if_neg c2, if_neg c3, if_neg c4, if_pos c5]] at h
            exact h
          ·
            rw [show f_Md_daysIn a0 a1 = 31 from by unfold f_Md_daysIn; rw [if_neg c1, if_neg c2, if_neg c3, if_neg c4, if_neg c5]] at h
            exact h
def f_Md_isDate (a0 : Int32) : Int32 := if a0 ≤ 0 then 0 else if (f_Md_in (a0 / 100) 1 12) = 0 then 0 else if (f_Md_in (a0 - a0 / 100 * 100) 1 31) = 0 then 0 else 1
theorem sg_Md_isDate_0 {zs : List Int32} {a0 : Int32} {w : Wd} {Q : Option AV → Wd → Prop} (h : ((a0 ≤ 0 → Q (some (.inl 0)) w) ∧ (¬ (a0 ≤ 0) → (((f_Md_in (a0 / 100) 1 12) = 0 → Q (some (.inl 0)) w) ∧ (¬ ((f_Md_in (a0 / 100) 1 12) = 0) → (((f_Md_in (a0 - a0 / 100 * 100) 1 31) = 0 → Q (some (.inl 0)) w) ∧ (¬ ((f_Md_in (a0 - a0 / 100 * 100) 1 31) = 0) → Q (some (.inl 1)) w))))))) : Gw zs 1 m_Md_isDate 0 [some (.inl a0)] [] w Q := by
  refine gw_iload_n k_Md_isDate f_Md_isDate_0 rfl ?_
  refine gw_if_le (t := 34) k_Md_isDate f_Md_isDate_1 rfl (fun c1 => ?_) (fun c1 => ?_)
  · have h := h.1 c1
    refine gw_iconst k_Md_isDate f_Md_isDate_34 qc_0 ?_
    exact gw_zret k_Md_isDate f_Md_isDate_35 rfl (Or.inl rfl) h
  · have h := h.2 c1
    refine gw_iload_n k_Md_isDate f_Md_isDate_4 rfl ?_
    refine gw_bipush k_Md_isDate f_Md_isDate_5 qb_100 ?_
    refine gw_idiv k_Md_isDate f_Md_isDate_7 (by decide) ?_
    refine gw_iconst k_Md_isDate f_Md_isDate_8 qc_1 ?_
    refine gw_bipush k_Md_isDate f_Md_isDate_9 qb_12 ?_
    refine gw_static [.inl (a0 / 100), .inl 1, .inl 12] k_Md_isDate f_Md_isDate_11 l_invT_11_1 (by decide) k_Md_in rfl (by exact Nat.le_of_ble_eq_true rfl) (dc := 0) (by decide) ?_ rfl
    refine ev_Md_in ?_
    show Gw zs 1 m_Md_isDate 14 [some (.inl a0)] [.inl (f_Md_in (a0 / 100) 1 12)] w _
    refine gw_if_eq (t := 34) k_Md_isDate f_Md_isDate_14 rfl (fun c2 => ?_) (fun c2 => ?_)
    · have h := h.1 c2
      refine gw_iconst k_Md_isDate f_Md_isDate_34 qc_0 ?_
      exact gw_zret k_Md_isDate f_Md_isDate_35 rfl (Or.inl rfl) h
    · have h := h.2 c2
      refine gw_iload_n k_Md_isDate f_Md_isDate_17 rfl ?_
      refine gw_bipush k_Md_isDate f_Md_isDate_18 qb_100 ?_
      refine gw_irem k_Md_isDate f_Md_isDate_20 (by decide) ?_
      refine gw_iconst k_Md_isDate f_Md_isDate_21 qc_1 ?_
      refine gw_bipush k_Md_isDate f_Md_isDate_22 qb_31 ?_
      refine gw_static [.inl (a0 - a0 / 100 * 100), .inl 1, .inl 31] k_Md_isDate f_Md_isDate_24 l_invT_11_1 (by decide) k_Md_in rfl (by exact Nat.le_of_ble_eq_true rfl) (dc := 0) (by decide) ?_ rfl
      refine ev_Md_in ?_
      show Gw zs 1 m_Md_isDate 27 [some (.inl a0)] [.inl (f_Md_in (a0 - a0 / 100 * 100) 1 31)] w _
      refine gw_if_eq (t := 34) k_Md_isDate f_Md_isDate_27 rfl (fun c3 => ?_) (fun c3 => ?_)
      · have h := h.1 c3
        refine gw_iconst k_Md_isDate f_Md_isDate_34 qc_0 ?_
        exact gw_zret k_Md_isDate f_Md_isDate_35 rfl (Or.inl rfl) h
      · have h := h.2 c3
        refine gw_iconst k_Md_isDate f_Md_isDate_30 qc_1 ?_
        refine gw_goto (t := 35) k_Md_isDate f_Md_isDate_31 rfl ?_
        exact gw_zret k_Md_isDate f_Md_isDate_35 rfl (Or.inr rfl) h
theorem ev_Md_isDate {zs : List Int32} {a0 : Int32} {w : Wd} {Q : Option AV → Wd → Prop} (h : Q (some (.inl (f_Md_isDate a0))) w) : Ew zs 1 m_Md_isDate [.inl a0] w Q := by
  refine ew_of k_Md_isDate rfl (sg_Md_isDate_0 ?_)
  refine ⟨fun c1 => ?_, fun c1 => ?_⟩
  ·
    rw [show f_Md_isDate a0 = 0 from by unfold f_Md_isDate; rw [if_pos c1]] at h
    exact h
  ·
    refine ⟨fun c2 => ?_, fun c2 => ?_⟩
    ·
      rw [show f_Md_isDate a0 = 0 from by unfold f_Md_isDate; rw [if_neg c1, if_pos c2]] at h
      exact h
    ·
      refine ⟨fun c3 => ?_, fun c3 => ?_⟩
      ·
        rw [show f_Md_isDate a0 = 0 from by unfold f_Md_isDate; rw [if_neg c1, if_neg c2, if_pos c3]] at h
        exact h
      ·
        rw [show f_Md_isDate a0 = 1 from by unfold f_Md_isDate; rw [if_neg c1, if_neg c2, if_neg c3]] at h
        exact h
theorem fb_Md_isDate {a0 : Int32} : f_Md_isDate a0 = 0 ∨ f_Md_isDate a0 = 1 := by
  unfold f_Md_isDate
  exact (if01 (Or.inl rfl) (if01 (Or.inl rfl) (if01 (Or.inl rfl) (Or.inr rfl))))
def f_Md_isTold (a0 : Int32) (a1 : Int32) : Int32 := if a0 = 0 then if a1 ≤ 0 then 0 else if (f_Md_in (a1 / 100) 1 12) = 0 then 0 else if (f_Md_in (a1 - a1 / 100 * 100) 1 (f_Md_daysIn 2000 (a1 / 100))) = 0 then 0 else 1 else if a0 = 1 then (f_Md_in a1 (-120) 250) else if a0 = 2 then if a1 ≤ 0 then 0 else if (f_Md_in (a1 / 100) 1 12) = 0 then 0 else if (f_Md_in ((a1 / 10) - (a1 / 10) / 10 * 10) 0 6) = 0 then 0 else if (f_Md_in (a1 - a1 / 10 * 10) 1 5) = 0 then 0 else 1 else 0
theorem sg_Md_isTold_0 {zs : List Int32} {a0 a1 : Int32} {w : Wd} {Q : Option AV → Wd → Prop} (h : ((a0 = 0 → ((a1 ≤ 0 → Q (some (.inl 0)) w) ∧ (¬ (a1 ≤ 0) → (((f_Md_in (a1 / 100) 1 12) = 0 → Q (some (.inl 0)) w) ∧ (¬ ((f_Md_in (a1 / 100) 1 12) = 0) → (((f_Md_in (a1 - a1 / 100 * 100) 1 (f_Md_daysIn 2000 (a1 / 100))) = 0 → Q (some (.inl 0)) w) ∧ (¬ ((f_Md_in (a1 - a1 / 100 * 100) 1 (f_Md_daysIn 2000 (a1 / 100))) = 0) → Q (some (.inl 1)) w))))))) ∧ (¬ (a0 = 0) → ((a0 = 1 → Q (some (.inl (f_Md_in a1 (-120) 250))) w) ∧ (¬ (a0 = 1) → ((a0 = 2 → ((a1 ≤ 0 → Q (some (.inl 0)) w) ∧ (¬ (a1 ≤ 0) → (((f_Md_in (a1 / 100) 1 12) = 0 → Q (some (.inl 0)) w) ∧ (¬ ((f_Md_in (a1 / 100) 1 12) = 0) → (((f_Md_in ((a1 / 10) - (a1 / 10) / 10 * 10) 0 6) = 0 → Q (some (.inl 0)) w) ∧ (¬ ((f_Md_in ((a1 / 10) - (a1 / 10) / 10 * 10) 0 6) = 0) → (((f_Md_in (a1 - a1 / 10 * 10) 1 5) = 0 → Q (some (.inl 0)) w) ∧ (¬ ((f_Md_in (a1 - a1 / 10 * 10) 1 5) = 0) → Q (some (.inl 1)) w))))))))) ∧ (¬ (a0 = 2) → Q (some (.inl 0)) w))))))) : Gw zs 2 m_Md_isTold 0 [some (.inl a0), some (.inl a1)] [] w Q := by
  refine gw_iload_n k_Md_isTold f_Md_isTold_0 rfl ?_
  refine gw_if_ne (t := 48) k_Md_isTold f_Md_isTold_1 rfl (fun c1 => ?_) (fun c1 => ?_)
  · have h := h.2 c1
    refine gw_iload_n k_Md_isTold f_Md_isTold_48 rfl ?_
    refine gw_iconst k_Md_isTold f_Md_isTold_49 qc_1 ?_
    refine gw_icmp_ne (t := 63) k_Md_isTold f_Md_isTold_50 rfl (fun c2 => ?_) (fun c2 => ?_)
    · have h := h.2 c2
      refine gw_iload_n k_Md_isTold f_Md_isTold_63 rfl ?_
      refine gw_iconst k_Md_isTold f_Md_isTold_64 qc_2 ?_
      refine gw_icmp_ne (t := 117) k_Md_isTold f_Md_isTold_65 rfl (fun c3 => ?_) (fun c3 => ?_)
      · have h := h.2 c3
        refine gw_iconst k_Md_isTold f_Md_isTold_117 qc_0 ?_
        exact gw_zret k_Md_isTold f_Md_isTold_118 rfl (Or.inl rfl) h
      · have c3 := Decidable.not_not.mp c3
        have h := h.1 c3
        refine gw_iload_n k_Md_isTold f_Md_isTold_68 rfl ?_
        refine gw_if_le (t := 117) k_Md_isTold f_Md_isTold_69 rfl (fun c4 => ?_) (fun c4 => ?_)
        · have h := h.1 c4
          refine gw_iconst k_Md_isTold f_Md_isTold_117 qc_0 ?_
          exact gw_zret k_Md_isTold f_Md_isTold_118 rfl (Or.inl rfl) h
        · have h := h.2 c4
          refine gw_iload_n k_Md_isTold f_Md_isTold_72 rfl ?_
          refine gw_bipush k_Md_isTold f_Md_isTold_73 qb_100 ?_
          refine gw_idiv k_Md_isTold f_Md_isTold_75 (by decide) ?_
          refine gw_iconst k_Md_isTold f_Md_isTold_76 qc_1 ?_
          refine gw_bipush k_Md_isTold f_Md_isTold_77 qb_12 ?_
          refine gw_static [.inl (a1 / 100), .inl 1, .inl 12] k_Md_isTold f_Md_isTold_79 l_invT_11_1 (by decide) k_Md_in rfl (by exact Nat.le_of_ble_eq_true rfl) (dc := 0) (by decide) ?_ rfl
          refine ev_Md_in ?_
          show Gw zs 2 m_Md_isTold 82 [some (.inl a0), some (.inl a1)] [.inl (f_Md_in (a1 / 100) 1 12)] w _
          refine gw_if_eq (t := 117) k_Md_isTold f_Md_isTold_82 rfl (fun c5 => ?_) (fun c5 => ?_)
          · have h := h.1 c5
            refine gw_iconst k_Md_isTold f_Md_isTold_117 qc_0 ?_
            exact gw_zret k_Md_isTold f_Md_isTold_118 rfl (Or.inl rfl) h
          · have h := h.2 c5
            refine gw_iload_n k_Md_isTold f_Md_isTold_85 rfl ?_
            refine gw_bipush k_Md_isTold f_Md_isTold_86 qb_10 ?_
            refine gw_idiv k_Md_isTold f_Md_isTold_88 (by decide) ?_
            refine gw_bipush k_Md_isTold f_Md_isTold_89 qb_10 ?_
            refine gw_irem k_Md_isTold f_Md_isTold_91 (by decide) ?_
            refine gw_iconst k_Md_isTold f_Md_isTold_92 qc_0 ?_
            refine gw_bipush k_Md_isTold f_Md_isTold_93 qb_6 ?_
            refine gw_static [.inl ((a1 / 10) - (a1 / 10) / 10 * 10), .inl 0, .inl 6] k_Md_isTold f_Md_isTold_95 l_invT_11_1 (by decide) k_Md_in rfl (by exact Nat.le_of_ble_eq_true rfl) (dc := 0) (by decide) ?_ rfl
            refine ev_Md_in ?_
            show Gw zs 2 m_Md_isTold 98 [some (.inl a0), some (.inl a1)] [.inl (f_Md_in ((a1 / 10) - (a1 / 10) / 10 * 10) 0 6)] w _
            refine gw_if_eq (t := 117) k_Md_isTold f_Md_isTold_98 rfl (fun c6 => ?_) (fun c6 => ?_)
            · have h := h.1 c6
              refine gw_iconst k_Md_isTold f_Md_isTold_117 qc_0 ?_
              exact gw_zret k_Md_isTold f_Md_isTold_118 rfl (Or.inl rfl) h
            · have h := h.2 c6
              refine gw_iload_n k_Md_isTold f_Md_isTold_101 rfl ?_
              refine gw_bipush k_Md_isTold f_Md_isTold_102 qb_10 ?_
              refine gw_irem k_Md_isTold f_Md_isTold_104 (by decide) ?_
              refine gw_iconst k_Md_isTold f_Md_isTold_105 qc_1 ?_
              refine gw_iconst k_Md_isTold f_Md_isTold_106 qc_5 ?_
              refine gw_static [.inl (a1 - a1 / 10 * 10), .inl 1, .inl 5] k_Md_isTold f_Md_isTold_107 l_invT_11_1 (by decide) k_Md_in rfl (by exact Nat.le_of_ble_eq_true rfl) (dc := 0) (by decide) ?_ rfl
              refine ev_Md_in ?_
              show Gw zs 2 m_Md_isTold 110 [some (.inl a0), some (.inl a1)] [.inl (f_Md_in (a1 - a1 / 10 * 10) 1 5)] w _
              refine gw_if_eq (t := 117) k_Md_isTold f_Md_isTold_110 rfl (fun c7 => ?_) (fun c7 => ?_)
              · have h := h.1 c7
                refine gw_iconst k_Md_isTold f_Md_isTold_117 qc_0 ?_
                exact gw_zret k_Md_isTold f_Md_isTold_118 rfl (Or.inl rfl) h
              · have h := h.2 c7
                refine gw_iconst k_Md_isTold f_Md_isTold_113 qc_1 ?_
                refine gw_goto (t := 118) k_Md_isTold f_Md_isTold_114 rfl ?_
                exact gw_zret k_Md_isTold f_Md_isTold_118 rfl (Or.inr rfl) h
    · have c2 := Decidable.not_not.mp c2
      have h := h.1 c2
      refine gw_iload_n k_Md_isTold f_Md_isTold_53 rfl ?_
      refine gw_bipush k_Md_isTold f_Md_isTold_54 qb_m120 ?_
      refine gw_sipush k_Md_isTold f_Md_isTold_56 qs_250 ?_
      refine gw_static [.inl a1, .inl (-120), .inl 250] k_Md_isTold f_Md_isTold_59 l_invT_11_1 (by decide) k_Md_in rfl (by exact Nat.le_of_ble_eq_true rfl) (dc := 0) (by decide) ?_ rfl
      refine ev_Md_in ?_
      show Gw zs 2 m_Md_isTold 62 [some (.inl a0), some (.inl a1)] [.inl (f_Md_in a1 (-120) 250)] w _
      exact gw_zret k_Md_isTold f_Md_isTold_62 rfl (fb_Md_in ..) h
  · have c1 := Decidable.not_not.mp c1
    have h := h.1 c1
    refine gw_iload_n k_Md_isTold f_Md_isTold_4 rfl ?_
    refine gw_if_le (t := 46) k_Md_isTold f_Md_isTold_5 rfl (fun c8 => ?_) (fun c8 => ?_)
    · have h := h.1 c8
      refine gw_iconst k_Md_isTold f_Md_isTold_46 qc_0 ?_
      exact gw_zret k_Md_isTold f_Md_isTold_47 rfl (Or.inl rfl) h
    · have h := h.2 c8
      refine gw_iload_n k_Md_isTold f_Md_isTold_8 rfl ?_
      refine gw_bipush k_Md_isTold f_Md_isTold_9 qb_100 ?_
      refine gw_idiv k_Md_isTold f_Md_isTold_11 (by decide) ?_
      refine gw_iconst k_Md_isTold f_Md_isTold_12 qc_1 ?_
      refine gw_bipush k_Md_isTold f_Md_isTold_13 qb_12 ?_
      refine gw_static [.inl (a1 / 100), .inl 1, .inl 12] k_Md_isTold f_Md_isTold_15 l_invT_11_1 (by decide) k_Md_in rfl (by exact Nat.le_of_ble_eq_true rfl) (dc := 0) (by decide) ?_ rfl
      refine ev_Md_in ?_
      show Gw zs 2 m_Md_isTold 18 [some (.inl a0), some (.inl a1)] [.inl (f_Md_in (a1 / 100) 1 12)] w _
      refine gw_if_eq (t := 46) k_Md_isTold f_Md_isTold_18 rfl (fun c9 => ?_) (fun c9 => ?_)
      · have h := h.1 c9
        refine gw_iconst k_Md_isTold f_Md_isTold_46 qc_0 ?_
        exact gw_zret k_Md_isTold f_Md_isTold_47 rfl (Or.inl rfl) h
      · have h := h.2 c9
        refine gw_iload_n k_Md_isTold f_Md_isTold_21 rfl ?_
        refine gw_bipush k_Md_isTold f_Md_isTold_22 qb_100 ?_
        refine gw_irem k_Md_isTold f_Md_isTold_24 (by decide) ?_
        refine gw_iconst k_Md_isTold f_Md_isTold_25 qc_1 ?_
        refine gw_sipush k_Md_isTold f_Md_isTold_26 qs_2000 ?_
        refine gw_iload_n k_Md_isTold f_Md_isTold_29 rfl ?_
        refine gw_bipush k_Md_isTold f_Md_isTold_30 qb_100 ?_
        refine gw_idiv k_Md_isTold f_Md_isTold_32 (by decide) ?_
        refine gw_static [.inl 2000, .inl (a1 / 100)] k_Md_isTold f_Md_isTold_33 l_invT_11_11 (by decide) k_Md_daysIn rfl (by exact Nat.le_of_ble_eq_true rfl) (dc := 1) (by decide) ?_ rfl
        refine ev_Md_daysIn ?_
        show Gw zs 2 m_Md_isTold 36 [some (.inl a0), some (.inl a1)] [.inl (f_Md_daysIn 2000 (a1 / 100)), .inl 1, .inl (a1 - a1 / 100 * 100)] w _
        refine gw_static [.inl (a1 - a1 / 100 * 100), .inl 1, .inl (f_Md_daysIn 2000 (a1 / 100))] k_Md_isTold f_Md_isTold_36 l_invT_11_1 (by decide) k_Md_in rfl (by exact Nat.le_of_ble_eq_true rfl) (dc := 0) (by decide) ?_ rfl
        refine ev_Md_in ?_
        show Gw zs 2 m_Md_isTold 39 [some (.inl a0), some (.inl a1)] [.inl (f_Md_in (a1 - a1 / 100 * 100) 1 (f_Md_daysIn 2000 (a1 / 100)))] w _
        refine gw_if_eq (t := 46) k_Md_isTold f_Md_isTold_39 rfl (fun c10 => ?_) (fun c10 => ?_)
        · have h := h.1 c10
          refine gw_iconst k_Md_isTold f_Md_isTold_46 qc_0 ?_
          exact gw_zret k_Md_isTold f_Md_isTold_47 rfl (Or.inl rfl) h
        · have h := h.2 c10
          refine gw_iconst k_Md_isTold f_Md_isTold_42 qc_1 ?_
          refine gw_goto (t := 47) k_Md_isTold f_Md_isTold_43 rfl ?_
          exact gw_zret k_Md_isTold f_Md_isTold_47 rfl (Or.inr rfl) h
theorem ev_Md_isTold {zs : List Int32} {a0 a1 : Int32} {w : Wd} {Q : Option AV → Wd → Prop} (h : Q (some (.inl (f_Md_isTold a0 a1))) w) : Ew zs 2 m_Md_isTold [.inl a0, .inl a1] w Q := by
  refine ew_of k_Md_isTold rfl (sg_Md_isTold_0 ?_)
  refine ⟨fun c1 => ?_, fun c1 => ?_⟩
  ·
    refine ⟨fun c8 => ?_, fun c8 => ?_⟩
    ·
      rw [show f_Md_isTold a0 a1 = 0 from by unfold f_Md_isTold; rw [if_pos c1, if_pos c8]] at h
      exact h
    ·
      refine ⟨fun c9 => ?_, fun c9 => ?_⟩
      ·
        rw [show f_Md_isTold a0 a1 = 0 from by unfold f_Md_isTold; rw [if_pos c1, if_neg c8, if_pos c9]] at h
        exact h
      ·
        refine ⟨fun c10 => ?_, fun c10 => ?_⟩
        ·
          rw [show f_Md_isTold a0 a1 = 0 from by unfold f_Md_isTold; rw [if_pos c1, if_neg c8, if_neg c9, if_pos c10]] at h
          exact h
        ·
          rw [show f_Md_isTold a0 a1 = 1 from by unfold f_Md_isTold; rw [if_pos c1, if_neg c8, if_neg c9, if_neg c10]] at h
          exact h
  ·
    refine ⟨fun c2 => ?_, fun c2 => ?_⟩
    ·
      rw [show f_Md_isTold a0 a1 = (f_Md_in a1 (-120) 250) from by unfold f_Md_isTold; rw [if_neg c1, if_pos c2]] at h
      exact h
    ·
      refine ⟨fun c3 => ?_, fun c3 => ?_⟩
      ·
        refine ⟨fun c4 => ?_, fun c4 => ?_⟩
        ·
          rw [show f_Md_isTold a0 a1 = 0 from by unfold f_Md_isTold; rw [if_neg c1, if_neg c2, if_pos c3, if_pos c4]] at h
          exact h
        ·
          refine ⟨fun c5 => ?_, fun c5 => ?_⟩
          ·
            rw [show f_Md_isTold a0 a1 = 0 from by unfold f_Md_isTold; rw [if_neg c1, if_neg c2, if_pos c3, if_neg c4, if_pos c5]] at h
            exact h
          ·
            refine ⟨fun c6 => ?_, fun c6 => ?_⟩
            ·
              rw [show f_Md_isTold a0 a1 = 0 from by unfold f_Md_isTold; rw [if_neg c1, if_neg c2, if_pos c3, if_neg c4, if_neg c5, if_pos c6]] at h
              exact h
            ·
              refine ⟨fun c7 => ?_, fun c7 => ?_⟩
              ·
                rw [show f_Md_isTold a0 a1 = 0 from by unfold f_Md_isTold; rw [if_neg c1, if_neg c2, if_pos c3, if_neg c4, if_neg c5, if_neg c6, if_pos c7]] at h
                exact h
              ·
                rw [show f_Md_isTold a0 a1 = 1 from by unfold f_Md_isTold; rw [if_neg c1, if_neg c2, if_pos c3, if_neg c4, if_neg c5, if_neg c6, if_neg c7]] at h
                exact h
      ·
        rw [show f_Md_isTold a0 a1 = 0 from by unfold f_Md_isTold; rw [if_neg c1, if_neg c2, if_neg c3]] at h
        exact h
theorem fb_Md_isTold {a0 : Int32} {a1 : Int32} : f_Md_isTold a0 a1 = 0 ∨ f_Md_isTold a0 a1 = 1 := by
  unfold f_Md_isTold
  exact (if01 (if01 (Or.inl rfl) (if01 (Or.inl rfl) (if01 (Or.inl rfl) (Or.inr rfl)))) (if01 (fb_Md_in ..) (if01 (if01 (Or.inl rfl) (if01 (Or.inl rfl) (if01 (Or.inl rfl) (if01 (Or.inl rfl) (Or.inr rfl))))) (Or.inl rfl))))
def f_Md_isDay (a0 : Int32) (a1 : Int32) : Int32 := if (f_Md_isYear a0) = 0 then 0 else if (f_Md_in a1 0 ((f_Md_daysOf a0) - 1)) = 0 then 0 else 1
theorem sg_Md_isDay_0 {zs : List Int32} {a0 a1 : Int32} {w : Wd} {Q : Option AV → Wd → Prop} (h : (((f_Md_isYear a0) = 0 → Q (some (.inl 0)) w) ∧ (¬ ((f_Md_isYear a0) = 0) → (((f_Md_in a1 0 ((f_Md_daysOf a0) - 1)) = 0 → Q (some (.inl 0)) w) ∧ (¬ ((f_Md_in a1 0 ((f_Md_daysOf a0) - 1)) = 0) → Q (some (.inl 1)) w))))) : Gw zs 2 m_Md_isDay 0 [some (.inl a0), some (.inl a1)] [] w Q := by
  refine gw_iload_n k_Md_isDay f_Md_isDay_0 rfl ?_
  refine gw_static [.inl a0] k_Md_isDay f_Md_isDay_1 l_invT_11_23 (by decide) k_Md_isYear rfl (by exact Nat.le_of_ble_eq_true rfl) (dc := 1) (by decide) ?_ rfl
  refine ev_Md_isYear ?_
  show Gw zs 2 m_Md_isDay 4 [some (.inl a0), some (.inl a1)] [.inl (f_Md_isYear a0)] w _
  refine gw_if_eq (t := 25) k_Md_isDay f_Md_isDay_4 rfl (fun c1 => ?_) (fun c1 => ?_)
  · have h := h.1 c1
    refine gw_iconst k_Md_isDay f_Md_isDay_25 qc_0 ?_
    exact gw_zret k_Md_isDay f_Md_isDay_26 rfl (Or.inl rfl) h
  · have h := h.2 c1
    refine gw_iload_n k_Md_isDay f_Md_isDay_7 rfl ?_
    refine gw_iconst k_Md_isDay f_Md_isDay_8 qc_0 ?_
    refine gw_iload_n k_Md_isDay f_Md_isDay_9 rfl ?_
    refine gw_static [.inl a0] k_Md_isDay f_Md_isDay_10 l_invT_11_15 (by decide) k_Md_daysOf rfl (by exact Nat.le_of_ble_eq_true rfl) (dc := 1) (by decide) ?_ rfl
    refine ev_Md_daysOf ?_
    show Gw zs 2 m_Md_isDay 13 [some (.inl a0), some (.inl a1)] [.inl (f_Md_daysOf a0), .inl 0, .inl a1] w _
    refine gw_iconst k_Md_isDay f_Md_isDay_13 qc_1 ?_
    refine gw_isub k_Md_isDay f_Md_isDay_14 ?_
    refine gw_static [.inl a1, .inl 0, .inl ((f_Md_daysOf a0) - 1)] k_Md_isDay f_Md_isDay_15 l_invT_11_1 (by decide) k_Md_in rfl (by exact Nat.le_of_ble_eq_true rfl) (dc := 0) (by decide) ?_ rfl
    refine ev_Md_in ?_
    show Gw zs 2 m_Md_isDay 18 [some (.inl a0), some (.inl a1)] [.inl (f_Md_in a1 0 ((f_Md_daysOf a0) - 1))] w _
    refine gw_if_eq (t := 25) k_Md_isDay f_Md_isDay_18 rfl (fun c2 => ?_) (fun c2 => ?_)
    · have h := h.1 c2
      refine gw_iconst k_Md_isDay f_Md_isDay_25 qc_0 ?_
      exact gw_zret k_Md_isDay f_Md_isDay_26 rfl (Or.inl rfl) h
    · have h := h.2 c2
      refine gw_iconst k_Md_isDay f_Md_isDay_21 qc_1 ?_
      refine gw_goto (t := 26) k_Md_isDay f_Md_isDay_22 rfl ?_
      exact gw_zret k_Md_isDay f_Md_isDay_26 rfl (Or.inr rfl) h
theorem ev_Md_isDay {zs : List Int32} {a0 a1 : Int32} {w : Wd} {Q : Option AV → Wd → Prop} (h : Q (some (.inl (f_Md_isDay a0 a1))) w) : Ew zs 2 m_Md_isDay [.inl a0, .inl a1] w Q := by
  refine ew_of k_Md_isDay rfl (sg_Md_isDay_0 ?_)
  refine ⟨fun c1 => ?_, fun c1 => ?_⟩
  ·
    rw [show f_Md_isDay a0 a1 = 0 from by unfold f_Md_isDay; rw [if_pos c1]] at h
    exact h
  ·
    refine ⟨fun c2 => ?_, fun c2 => ?_⟩
    ·
      rw [show f_Md_isDay a0 a1 = 0 from by unfold f_Md_isDay; rw [if_neg c1, if_pos c2]] at h
      exact h
    ·
      rw [show f_Md_isDay a0 a1 = 1 from by unfold f_Md_isDay; rw [if_neg c1, if_neg c2]] at h
      exact h
theorem fb_Md_isDay {a0 : Int32} {a1 : Int32} : f_Md_isDay a0 a1 = 0 ∨ f_Md_isDay a0 a1 = 1 := by
  unfold f_Md_isDay
  exact (if01 (Or.inl rfl) (if01 (Or.inl rfl) (Or.inr rfl)))
def f_Md_place (a0 : Int32) : Int32 := if a0 = 2 then 0 else if a0 = 3 then 1 else if a0 = 1 then 2 else if a0 = 4 then 3 else 4
theorem sg_Md_place_0 {zs : List Int32} {a0 : Int32} {w : Wd} {Q : Option AV → Wd → Prop} (h : ((a0 = 2 → Q (some (.inl 0)) w) ∧ (¬ (a0 = 2) → ((a0 = 3 → Q (some (.inl 1)) w) ∧ (¬ (a0 = 3) → ((a0 = 1 → Q (some (.inl 2)) w) ∧ (¬ (a0 = 1) → ((a0 = 4 → Q (some (.inl 3)) w) ∧ (¬ (a0 = 4) → Q (some (.inl 4)) w))))))))) : Gw zs 0 m_Md_place 0 [some (.inl a0)] [] w Q := by
  refine gw_iload_n k_Md_place f_Md_place_0 rfl ?_
  refine gw_iconst k_Md_place f_Md_place_1 qc_2 ?_
  refine gw_icmp_ne (t := 9) k_Md_place f_Md_place_2 rfl (fun c1 => ?_) (fun c1 => ?_)
  · have h := h.2 c1
    refine gw_iload_n k_Md_place f_Md_place_9 rfl ?_
    refine gw_iconst k_Md_place f_Md_place_10 qc_3 ?_
    refine gw_icmp_ne (t := 18) k_Md_place f_Md_place_11 rfl (fun c2 => ?_) (fun c2 => ?_)
    · have h := h.2 c2
      refine gw_iload_n k_Md_place f_Md_place_18 rfl ?_
      refine gw_iconst k_Md_place f_Md_place_19 qc_1 ?_
      refine gw_icmp_ne (t := 27) k_Md_place f_Md_place_20 rfl (fun c3 => ?_) (fun c3 => ?_)
      · have h := h.2 c3
        refine gw_iload_n k_Md_place f_Md_place_27 rfl ?_
        refine gw_iconst k_Md_place f_Md_place_28 qc_4 ?_
        refine gw_icmp_ne (t := 36) k_Md_place f_Md_place_29 rfl (fun c4 => ?_) (fun c4 => ?_)
        · have h := h.2 c4
          refine gw_iconst k_Md_place f_Md_place_36 qc_4 ?_
          exact gw_iret k_Md_place f_Md_place_37 rfl h
        · have c4 := Decidable.not_not.mp c4
          have h := h.1 c4
          refine gw_iconst k_Md_place f_Md_place_32 qc_3 ?_
          refine gw_goto (t := 37) k_Md_place f_Md_place_33 rfl ?_
          exact gw_iret k_Md_place f_Md_place_37 rfl h
      · have c3 := Decidable.not_not.mp c3
        have h := h.1 c3
        refine gw_iconst k_Md_place f_Md_place_23 qc_2 ?_
        refine gw_goto (t := 37) k_Md_place f_Md_place_24 rfl ?_
        exact gw_iret k_Md_place f_Md_place_37 rfl h
    · have c2 := Decidable.not_not.mp c2
      have h := h.1 c2
      refine gw_iconst k_Md_place f_Md_place_14 qc_1 ?_
      refine gw_goto (t := 37) k_Md_place f_Md_place_15 rfl ?_
      exact gw_iret k_Md_place f_Md_place_37 rfl h
  · have c1 := Decidable.not_not.mp c1
    have h := h.1 c1
    refine gw_iconst k_Md_place f_Md_place_5 qc_0 ?_
    refine gw_goto (t := 37) k_Md_place f_Md_place_6 rfl ?_
    exact gw_iret k_Md_place f_Md_place_37 rfl h
theorem ev_Md_place {zs : List Int32} {a0 : Int32} {w : Wd} {Q : Option AV → Wd → Prop} (h : Q (some (.inl (f_Md_place a0))) w) : Ew zs 0 m_Md_place [.inl a0] w Q := by
  refine ew_of k_Md_place rfl (sg_Md_place_0 ?_)
  refine ⟨fun c1 => ?_, fun c1 => ?_⟩
  ·
    rw [show f_Md_place a0 = 0 from by unfold f_Md_place; rw [if_pos c1]] at h
    exact h
  ·
    refine ⟨fun c2 => ?_, fun c2 => ?_⟩
    ·
      rw [show f_Md_place a0 = 1 from by unfold f_Md_place; rw [if_neg c1, if_pos c2]] at h
      exact h
    ·
      refine ⟨fun c3 => ?_, fun c3 => ?_⟩
      ·
        rw [show f_Md_place a0 = 2 from by unfold f_Md_place; rw [if_neg c1, if_neg c2, if_pos c3]] at h
        exact h
      ·
        refine ⟨fun c4 => ?_, fun c4 => ?_⟩
        ·
          rw [show f_Md_place a0 = 3 from by unfold f_Md_place; rw [if_neg c1, if_neg c2, if_neg c3, if_pos c4]] at h
          exact h
        ·
          rw [show f_Md_place a0 = 4 from by unfold f_Md_place; rw [if_neg c1, if_neg c2, if_neg c3, if_neg c4]] at h
          exact h
def f_Md_limit (w : Wd) (a0 : Int32) : Int32 := if (f_Md_in a0 1 10) = 0 then (-1) else (w 155 37)
def g_Md_limit (w : Wd) (a0 : Int32) : Wd := if (f_Md_in a0 1 10) = 0 then w else wr w 155 37 a0
theorem sg_Md_limit_0 {zs : List Int32} {a0 : Int32} {w : Wd} {Q : Option AV → Wd → Prop} (h : (((f_Md_in a0 1 10) = 0 → Q (some (.inl (-1))) w) ∧ (¬ ((f_Md_in a0 1 10) = 0) → Q (some (.inl (w 155 37))) (wr w 155 37 a0)))) : Gw zs 1 m_Md_limit 0 [some (.inr (.inl (some 155))), some (.inl a0), none] [] w Q := by
  refine gw_iload_n k_Md_limit f_Md_limit_0 rfl ?_
  refine gw_iconst k_Md_limit f_Md_limit_1 qc_1 ?_
  refine gw_bipush k_Md_limit f_Md_limit_2 qb_10 ?_
  refine gw_static [.inl a0, .inl 1, .inl 10] k_Md_limit f_Md_limit_4 l_invT_11_1 (by decide) k_Md_in rfl (by exact Nat.le_of_ble_eq_true rfl) (dc := 0) (by decide) ?_ rfl
  refine ev_Md_in ?_
  show Gw zs 1 m_Md_limit 7 [some (.inr (.inl (some 155))), some (.inl a0), none] [.inl (f_Md_in a0 1 10)] w _
  refine gw_if_ne (t := 12) k_Md_limit f_Md_limit_7 rfl (fun c1 => ?_) (fun c1 => ?_)
  · have h := h.2 c1
    refine gw_aload_n k_Md_limit f_Md_limit_12 rfl ?_
    refine gw_getI k_Md_limit f_Md_limit_13 l_fldT_11_213 hc155 rfl ?_
    refine gw_istore_n [some (.inr (.inl (some 155))), some (.inl a0), some (.inl (w 155 37))] k_Md_limit f_Md_limit_16 (Nat.le_of_ble_eq_true rfl) rfl ?_
    refine gw_aload_n k_Md_limit f_Md_limit_17 rfl ?_
    refine gw_iload_n k_Md_limit f_Md_limit_18 rfl ?_
    refine gw_put k_Md_limit f_Md_limit_19 l_fldT_11_213 hc155 rfl rfl rfl rfl rfl ?_
    refine gw_iload_n k_Md_limit f_Md_limit_22 rfl ?_
    exact gw_iret k_Md_limit f_Md_limit_23 rfl h
  · have c1 := Decidable.not_not.mp c1
    have h := h.1 c1
    refine gw_iconst k_Md_limit f_Md_limit_10 qc_m1 ?_
    exact gw_iret k_Md_limit f_Md_limit_11 rfl h
theorem ev_Md_limit {zs : List Int32} {a0 : Int32} {w : Wd} {Q : Option AV → Wd → Prop} (h : Q (some (.inl (f_Md_limit w a0))) (g_Md_limit w a0)) : Ew zs 1 m_Md_limit [.inr (.inl (some 155)), .inl a0] w Q := by
  refine ew_of k_Md_limit rfl (sg_Md_limit_0 ?_)
  refine ⟨fun c1 => ?_, fun c1 => ?_⟩
  ·
    rw [show f_Md_limit w a0 = (-1) from by unfold f_Md_limit; rw [if_pos c1]] at h
    rw [show g_Md_limit w a0 = w from by unfold g_Md_limit; rw [if_pos c1]] at h
    exact h
  ·
    rw [show f_Md_limit w a0 = (w 155 37) from by unfold f_Md_limit; rw [if_neg c1]] at h
    rw [show g_Md_limit w a0 = (wr w 155 37 a0) from by unfold g_Md_limit; rw [if_neg c1]] at h
    exact h
theorem gn_Md_limit {w : Wd} {a0 : Int32} {c k : Nat} (h : c ∉ [155]) : g_Md_limit w a0 c k = w c k := by
  simp only [List.mem_cons, List.not_mem_nil, or_false, not_or] at h
  unfold g_Md_limit
  repeat' split
  all_goals simp [wr, h]
def f_Md_isNote (a0 : Int32) : Int32 := (f_Md_in a0 0 30)
theorem sg_Md_isNote_0 {zs : List Int32} {a0 : Int32} {w : Wd} {Q : Option AV → Wd → Prop} (h : Q (some (.inl (f_Md_in a0 0 30))) w) : Gw zs 1 m_Md_isNote 0 [some (.inl a0)] [] w Q := by
  refine gw_iload_n k_Md_isNote f_Md_isNote_0 rfl ?_
  refine gw_iconst k_Md_isNote f_Md_isNote_1 qc_0 ?_
  refine gw_bipush k_Md_isNote f_Md_isNote_2 qb_30 ?_
  refine gw_static [.inl a0, .inl 0, .inl 30] k_Md_isNote f_Md_isNote_4 l_invT_11_1 (by decide) k_Md_in rfl (by exact Nat.le_of_ble_eq_true rfl) (dc := 0) (by decide) ?_ rfl
  refine ev_Md_in ?_
  show Gw zs 1 m_Md_isNote 7 [some (.inl a0)] [.inl (f_Md_in a0 0 30)] w _
  exact gw_zret k_Md_isNote f_Md_isNote_7 rfl (fb_Md_in ..) h
theorem ev_Md_isNote {zs : List Int32} {a0 : Int32} {w : Wd} {Q : Option AV → Wd → Prop} (h : Q (some (.inl (f_Md_isNote a0))) w) : Ew zs 1 m_Md_isNote [.inl a0] w Q := by
  refine ew_of k_Md_isNote rfl (sg_Md_isNote_0 ?_)
  rw [show f_Md_isNote a0 = (f_Md_in a0 0 30) from by unfold f_Md_isNote; rfl] at h
  exact h
theorem fb_Md_isNote {a0 : Int32} : f_Md_isNote a0 = 0 ∨ f_Md_isNote a0 = 1 := by
  unfold f_Md_isNote
  exact (fb_Md_in ..)
def f_Md_lastBut (a0 : Int32) : Int32 := if a0 ≤ 2 then 0 else (a0 - 3)
theorem sg_Md_lastBut_0 {zs : List Int32} {a0 : Int32} {w : Wd} {Q : Option AV → Wd → Prop} (h : ((a0 ≤ 2 → Q (some (.inl 0)) w) ∧ (¬ (a0 ≤ 2) → Q (some (.inl (a0 - 3))) w))) : Gw zs 0 m_Md_lastBut 0 [some (.inl a0)] [] w Q := by
  refine gw_iload_n k_Md_lastBut f_Md_lastBut_0 rfl ?_
  refine gw_iconst k_Md_lastBut f_Md_lastBut_1 qc_2 ?_
  refine gw_icmp_le (t := 11) k_Md_lastBut f_Md_lastBut_2 rfl (fun c1 => ?_) (fun c1 => ?_)
  · have h := h.1 c1
    refine gw_iconst k_Md_lastBut f_Md_lastBut_11 qc_0 ?_
    exact gw_iret k_Md_lastBut f_Md_lastBut_12 rfl h
  · have h := h.2 c1
    refine gw_iload_n k_Md_lastBut f_Md_lastBut_5 rfl ?_
    refine gw_iconst k_Md_lastBut f_Md_lastBut_6 qc_3 ?_
    refine gw_isub k_Md_lastBut f_Md_lastBut_7 ?_
    refine gw_goto (t := 12) k_Md_lastBut f_Md_lastBut_8 rfl ?_
    exact gw_iret k_Md_lastBut f_Md_lastBut_12 rfl h
theorem ev_Md_lastBut {zs : List Int32} {a0 : Int32} {w : Wd} {Q : Option AV → Wd → Prop} (h : Q (some (.inl (f_Md_lastBut a0))) w) : Ew zs 0 m_Md_lastBut [.inl a0] w Q := by
  refine ew_of k_Md_lastBut rfl (sg_Md_lastBut_0 ?_)
  refine ⟨fun c1 => ?_, fun c1 => ?_⟩
  ·
    rw [show f_Md_lastBut a0 = 0 from by unfold f_Md_lastBut; rw [if_pos c1]] at h
    exact h
  ·
    rw [show f_Md_lastBut a0 = (a0 - 3) from by unfold f_Md_lastBut; rw [if_neg c1]] at h
    exact h
def f_Md_placeOf (a0 : Int32) : Int32 := if a0 = 0 then 0 else if a0 = 1 then 1 else 5
theorem sg_Md_placeOf_0 {zs : List Int32} {a0 : Int32} {w : Wd} {Q : Option AV → Wd → Prop} (h : ((a0 = 0 → Q (some (.inl 0)) w) ∧ (¬ (a0 = 0) → ((a0 = 1 → Q (some (.inl 1)) w) ∧ (¬ (a0 = 1) → Q (some (.inl 5)) w))))) : Gw zs 0 m_Md_placeOf 0 [some (.inl a0)] [] w Q := by
  refine gw_iload_n k_Md_placeOf f_Md_placeOf_0 rfl ?_
  refine gw_if_ne (t := 8) k_Md_placeOf f_Md_placeOf_1 rfl (fun c1 => ?_) (fun c1 => ?_)
  · have h := h.2 c1
    refine gw_iload_n k_Md_placeOf f_Md_placeOf_8 rfl ?_
    refine gw_iconst k_Md_placeOf f_Md_placeOf_9 qc_1 ?_
    refine gw_icmp_ne (t := 17) k_Md_placeOf f_Md_placeOf_10 rfl (fun c2 => ?_) (fun c2 => ?_)
    · have h := h.2 c2
      refine gw_iconst k_Md_placeOf f_Md_placeOf_17 qc_5 ?_
      exact gw_iret k_Md_placeOf f_Md_placeOf_18 rfl h
    · have c2 := Decidable.not_not.mp c2
      have h := h.1 c2
      refine gw_iconst k_Md_placeOf f_Md_placeOf_13 qc_1 ?_
      refine gw_goto (t := 18) k_Md_placeOf f_Md_placeOf_14 rfl ?_
      exact gw_iret k_Md_placeOf f_Md_placeOf_18 rfl h
  · have c1 := Decidable.not_not.mp c1
    have h := h.1 c1
    refine gw_iconst k_Md_placeOf f_Md_placeOf_4 qc_0 ?_
    refine gw_goto (t := 18) k_Md_placeOf f_Md_placeOf_5 rfl ?_
    exact gw_iret k_Md_placeOf f_Md_placeOf_18 rfl h
theorem ev_Md_placeOf {zs : List Int32} {a0 : Int32} {w : Wd} {Q : Option AV → Wd → Prop} (h : Q (some (.inl (f_Md_placeOf a0))) w) : Ew zs 0 m_Md_placeOf [.inl a0] w Q := by
  refine ew_of k_Md_placeOf rfl (sg_Md_placeOf_0 ?_)
  refine ⟨fun c1 => ?_, fun c1 => ?_⟩
  ·
    rw [show f_Md_placeOf a0 = 0 from by unfold f_Md_placeOf; rw [if_pos c1]] at h
    exact h
  ·
    refine ⟨fun c2 => ?_, fun c2 => ?_⟩
    ·
      rw [show f_Md_placeOf a0 = 1 from by unfold f_Md_placeOf; rw [if_neg c1, if_pos c2]] at h
      exact h
    ·
      rw [show f_Md_placeOf a0 = 5 from by unfold f_Md_placeOf; rw [if_neg c1, if_neg c2]] at h
      exact h
