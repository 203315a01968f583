/-! Tones and verses: pairs of calls -/
theorem off_PT {w w' : Wd} {P : Nat → Nat → Prop} (h : ∀ c k, ¬ P c k → w' c k = w c k) (hp : ∀ c k, P c k → PT c k) : ∀ c k, ¬ PT c k → w' c k = w c k := fun c k q => h c k (fun z => q (hp c k z))
theorem par_tenor {zs : List Int32} (a0 a1 : Int32) : Par zs 3 m_Bk_tenor 2 m_Md_tenor [.inl a0, .inl a1] RT PT := by
  intro w hR
  refine ev_Bk_tenor ?_
  refine ⟨_, rfl, ?_⟩
  refine ew_of k_Md_tenor rfl (sg_Md_tenor_0 ?_)
  rcases ix_c a0 (n := 9) (m := 9) rfl (by omega) with h | ⟨t, ht, rfl⟩
  · have e0 : f_Md_in a0 0 8 = 0 := in_out (h := 8) rfl (by omega) h
    refine ⟨fun _ => ?_, fun c => absurd e0 c⟩
    rw [f_Bk_tenor, if_out h, g_Bk_tenor, if_out h]
    exact ⟨rfl, hR, off_rf⟩
  · have e0 : f_Md_in (nI t) 0 8 = 1 := in_in (l := 0) (h := 8) rfl rfl (by omega) (by omega) (by omega)
    rw [f_Bk_tenor, if_inn (m := 9) (n := 9) rfl ht (by omega), g_Bk_tenor, if_inn (m := 9) (n := 9) rfl ht (by omega), nI_clampN (by omega)]
    refine ⟨fun c => absurd (e0.symm.trans c) one_ne, fun _ => ⟨fun hn => ?_, fun hn => ⟨vinN ht (by omega), ?_⟩⟩⟩
    · have hn2 : f_Ton_isNote a1 = 0 := hn
      rw [f_Ton_setTenor, if_pos hn2, g_Ton_setTenor, if_pos hn2]
      exact ⟨rfl, hR, off_rf⟩
    · have hn2 : ¬ f_Ton_isNote a1 = 0 := hn
      rw [f_Ton_setTenor, if_neg hn2, g_Ton_setTenor, if_neg hn2]
      have off : ∀ c k, ¬ PTe t c k → wr (wr w (31 + 8 * t) 4 a1) 189 t a1 c k = w c k := off_wr (off_wr off_rf (Or.inl ⟨rfl, rfl⟩)) (Or.inr ⟨rfl, rfl⟩)
      refine ⟨rfl, RT_Te hR ht off ?_, off_PT off (fun c k q => by unfold PTe at q; unfold PT; omega)⟩
      unfold Te
      rw [wr_nc (by omega), wr_eq, wr_eq]
theorem par_accents {zs : List Int32} (a0 a1 a2 : Int32) : Par zs 2 m_Bk_accents 1 m_Md_accents [.inl a0, .inl a1, .inl a2] RT PT := by
  intro w hR
  refine ev_Bk_accents ?_
  refine ⟨_, rfl, ?_⟩
  refine ew_of k_Md_accents rfl (sg_Md_accents_0 ?_)
  rcases ix_c a0 (n := 9) (m := 9) rfl (by omega) with h | ⟨t, ht, rfl⟩
  · have e0 : f_Md_in a0 0 8 = 0 := in_out (h := 8) rfl (by omega) h
    refine ⟨fun _ => ?_, fun c => absurd e0 c⟩
    rw [f_Bk_accents, if_out h, g_Bk_accents, if_out h]
    exact ⟨rfl, hR, off_rf⟩
  · have e0 : f_Md_in (nI t) 0 8 = 1 := in_in (l := 0) (h := 8) rfl rfl (by omega) (by omega) (by omega)
    rw [f_Bk_accents, if_inn (m := 9) (n := 9) rfl ht (by omega), g_Bk_accents, if_inn (m := 9) (n := 9) rfl ht (by omega), nI_clampN (by omega)]
    refine ⟨fun c => absurd (e0.symm.trans c) one_ne, fun _ => ?_⟩
    rcases ix_c a1 (n := 2) (m := 2) rfl (by omega) with h | ⟨q, hq, rfl⟩
    · have e1 : f_Md_in a1 0 1 = 0 := in_out (h := 1) rfl (by omega) h
      refine ⟨fun _ => ?_, fun c => absurd e1 c⟩
      have n0 : ¬ a1 = 0 := fun c => by rw [c] at e1; exact one_ne ((in_in (t := 0) (l := 0) (h := 1) rfl rfl (by omega) (by omega) (by omega)).symm.trans e1)
      have n1 : ¬ a1 = 1 := fun c => by rw [c] at e1; exact one_ne ((in_in (t := 1) (l := 0) (h := 1) rfl rfl (by omega) (by omega) (by omega)).symm.trans e1)
      rw [if_neg n0, if_neg n1, if_neg n0, if_neg n1]
      exact ⟨rfl, hR, off_rf⟩
    · have e1 : f_Md_in (nI q) 0 1 = 1 := in_in (l := 0) (h := 1) rfl rfl (by omega) (by omega) (by omega)
      refine ⟨fun c => absurd (e1.symm.trans c) one_ne, fun _ => ?_⟩
      have eb : (if nI q = 0 then f_Cad_setMany (31 + 8 * t + 2) a2 else if nI q = 1 then f_Cad_setMany (31 + 8 * t + 5) a2 else -1) = f_Cad_setMany (33 + 8 * t + 3 * q) a2 := by
        rcases (show q = 0 ∨ q = 1 by omega) with rfl | rfl
        · rw [if_pos (by rfl)]; congr 1; omega
        · rw [if_neg (by decide), if_pos (by rfl)]; congr 1; omega
      have ec : (if nI q = 0 then g_Cad_setMany w (31 + 8 * t + 2) a2 else if nI q = 1 then g_Cad_setMany w (31 + 8 * t + 5) a2 else w) = g_Cad_setMany w (33 + 8 * t + 3 * q) a2 := by
        rcases (show q = 0 ∨ q = 1 by omega) with rfl | rfl
        · rw [if_pos (by rfl)]; congr 1; omega
        · rw [if_neg (by decide), if_pos (by rfl)]; congr 1; omega
      rw [eb, ec]
      have ei : (2 * nI t + nI q : Int32) = nI (2 * t + q) := by
        rw [show (2 : Int32) = nI 2 from rfl, pk_mul, nI_add]
      rw [ei, nI_clampN (by omega)]
      have hv : vp_in (nI (2 * t + q)) 18 := vinN (by omega) (by omega)
      refine ⟨fun hn => ?_, fun hn => ?_⟩
      · have hn2 : f_Bk_within a2 1 2 = 0 := hn
        rw [f_Cad_setMany, if_pos hn2, g_Cad_setMany, if_pos hn2]
        exact ⟨rfl, hR, off_rf⟩
      · have hn2 : ¬ f_Bk_within a2 1 2 = 0 := hn
        rw [f_Cad_setMany, if_neg hn2, g_Cad_setMany, if_neg hn2]
        have off : ∀ x c k, ¬ PCm t q c k → wr (wr w (33 + 8 * t + 3 * q) 3 a2) 192 (2 * t + q) x c k = w c k := fun x => off_wr (off_wr off_rf (Or.inl ⟨rfl, rfl⟩)) (Or.inr ⟨rfl, rfl⟩)
        have hin : a2 = 1 ∨ a2 = 2 := by
          rcases in_c (v := a2) (lo := 1) (hi := 2) 1 2 rfl rfl (by omega) (by omega) with ⟨z, -⟩ | ⟨u, u1, u2, rfl, -⟩
          · exact absurd z hn
          · rcases (show u = 1 ∨ u = 2 by omega) with rfl | rfl
            · exact Or.inl rfl
            · exact Or.inr rfl
        refine ⟨fun c2 => ⟨hv, rfl, RT_Cm hR ht hq (off _) ?_, off_PT (off _) (fun c k z => by unfold PCm at z; unfold PT; omega)⟩, fun c2 => ⟨hv, rfl, RT_Cm hR ht hq (off _) ?_, off_PT (off _) (fun c k z => by unfold PCm at z; unfold PT; omega)⟩⟩
        · refine Or.inr ⟨?_, ?_⟩
          · rw [wr_nc (by omega), wr_eq]; exact c2
          · rw [wr_eq]; rfl
        · refine Or.inl ⟨?_, ?_⟩
          · rw [wr_nc (by omega), wr_eq]; exact hin.resolve_right c2
          · rw [wr_eq]; rfl
