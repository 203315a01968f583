/-! The constructors put together -/
theorem ctPr : Gh [] 7 m_Psa_init zB25 (none, zB25.2.2.2) := gh_ret (r := r_Psa_init) (i := .return_) rfl (by decide +kernel) rfl
theorem ctP : Gh [] 7 m_Psa_init zB0 (none, zB25.2.2.2) := gh_txs (eqS_eq kzB1) (gh_txs (eqS_eq kzB2) (gh_txs (eqS_eq kzB3) (gh_txs (eqS_eq kzB4) (gh_txs (eqS_eq kzB5) (gh_txs (eqS_eq kzB6) (gh_txs (eqS_eq kzB7) (gh_txs (eqS_eq kzB8) (gh_txs (eqS_eq kzB9) (gh_txs (eqS_eq kzB10) (gh_txs (eqS_eq kzB11) (gh_txs (eqS_eq kzB12) (gh_txs (eqS_eq kzB13) (gh_txs (eqS_eq kzB14) (gh_txs (eqS_eq kzB15) (gh_txs (eqS_eq kzB16) (gh_txs (eqS_eq kzB17) (gh_txs (eqS_eq kzB18) (gh_txs (eqS_eq kzB19) (gh_txs (eqS_eq kzB20) (gh_txs (eqS_eq kzB21) (gh_txs (eqS_eq kzB22) (gh_txs (eqS_eq kzB23) (gh_txs (eqS_eq kzB24) (gh_txs (eqS_eq kzB25) (ctPr)))))))))))))))))))))))))
theorem ctCr : Gh [] 8 m_Bk_init zC7 (none, zC7.2.2.2) := gh_ret (r := r_Bk_init) (i := .return_) rfl (by decide +kernel) rfl
theorem ctC : Gh [] 8 m_Bk_init zC0 (none, hxB) := by
  rw [← eC.1]
  exact gh_txs (eqS_eq kzC1) (gh_txs (eqS_eq kzC2) (gh_txs (eqS_eq kzC3) (gh_txs (eqS_eq kzC4) (gh_txs (eqS_eq kzC5) (gh_txs (eqS_eq kzC6) (gh_txs (eqS_eq kzC7) (ctCr)))))))
theorem ctPs : stp [] 8 r_Bk_init (.invokespecial 34) zA1.1 zA1.2.1 zA1.2.2.1 zA1.2.2.2 = some (.inr (.inl (m_Psa_init, [.inr (.inl (some 22))], zC0.1, zC0.2.1, zC0.2.2.1, zA1.2.2.2))) := rfl
theorem ctPe : ent r_Psa_init [.inr (.inl (some 22))] zA1.2.2.2 = zB0 := rfl
theorem ctPf : (zC0.1, zC0.2.1, (none : Option AV).toList ++ zC0.2.2.1, zB25.2.2.2) = zC0 := rfl
theorem ctA : Gh [] 8 m_Bk_init zA1 (none, hxB) := by
  refine gh_call (r := r_Bk_init) (i := .invokespecial 34) (r' := r_Psa_init) rfl (by decide +kernel) ctPs rfl (v := none) (h1 := zB25.2.2.2) ?_ ?_
  · rw [ctPe]
    exact ctP
  · rw [ctPf]
    exact ctC
theorem ctB : Gh [] 8 m_Bk_init zA0 (none, hxB) := gh_txs (eqS_eq kzA1) (ctA)
