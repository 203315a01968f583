/-! Tones and verses: more pairs -/
theorem m1_nI {n : Nat} (h : n < 2147483648) : ¬ nI n = -1 := fun q => by
  have := congrArg Int32.toInt q
  rw [nI_toInt h] at this
  have e : (-1 : Int32).toInt = -1 := rfl
  omega
theorem note_in {a : Int32} (h : ¬ f_Md_isNote a = 0) : ¬ a = -1 := by
  rcases in_c (v := a) (lo := 0) (hi := 30) 0 30 rfl rfl (by omega) (by omega) with ⟨e, -⟩ | ⟨t, -, ht, rfl, -⟩
  · exact absurd e h
  · exact m1_nI (by omega)
theorem cad_add {w : Wd} {b n : Nat} {a : Int32} (hb : w b 2 = nI n) (hn : n < 3) : f_Cad_addBefore w b a = nI (n + 1) ∧ g_Cad_addBefore w b a = wr (wr w (b + 1) n a) b 2 (nI (n + 1)) := by
  have h3 : nI n < 3 := nI_lt (b := 3) hn (by omega)
  have e : wr w (b + 1) n a b 2 = nI n := by rw [wr_nc (by omega)]; exact hb
  unfold f_Cad_addBefore g_Cad_addBefore
  rw [hb, if_pos h3, if_pos h3, g_put_in hn (by omega), e, nI_1]
  exact ⟨rfl, rfl⟩
theorem cad_full {w : Wd} {b : Nat} {a : Int32} (hb : w b 2 = nI 3) : f_Cad_addBefore w b a = -1 ∧ g_Cad_addBefore w b a = w := by
  have h3 : ¬ nI 3 < 3 := by decide
  unfold f_Cad_addBefore g_Cad_addBefore
  rw [hb, if_neg h3, if_neg h3]
  exact ⟨rfl, rfl⟩
theorem ton_add {w : Wd} {b n : Nat} {a : Int32} (hb : w b 3 = nI n) (hn : n < 4) : f_Ton_addIntonation w b a = nI (n + 1) ∧ g_Ton_addIntonation w b a = wr (wr w (b + 1) n a) b 3 (nI (n + 1)) := by
  have h3 : nI n < 4 := nI_lt (b := 4) hn (by omega)
  have e : wr w (b + 1) n a b 3 = nI n := by rw [wr_nc (by omega)]; exact hb
  unfold f_Ton_addIntonation g_Ton_addIntonation
  rw [hb, if_pos h3, if_pos h3, g_put_in hn (by omega), e, nI_1]
  exact ⟨rfl, rfl⟩
theorem ton_full {w : Wd} {b : Nat} {a : Int32} (hb : w b 3 = nI 4) : f_Ton_addIntonation w b a = -1 ∧ g_Ton_addIntonation w b a = w := by
  have h3 : ¬ nI 4 < 4 := by decide
  unfold f_Ton_addIntonation g_Ton_addIntonation
  rw [hb, if_neg h3, if_neg h3]
  exact ⟨rfl, rfl⟩
set_option maxHeartbeats 1000000 in
theorem par_note {zs : List Int32} (a0 a1 a2 : Int32) : Par zs 3 m_Bk_note 2 m_Md_note [.inl a0, .inl a1, .inl a2] RT PT := by
  intro w hR
  refine ev_Bk_note ?_
  refine ⟨_, rfl, ?_⟩
  refine ew_of k_Md_note rfl (sg_Md_note_0 ?_)
  rcases ix_c a0 (n := 9) (m := 9) rfl (by omega) with h | ⟨t, ht, rfl⟩
  · have e0 : f_Md_in a0 0 8 = 0 := in_out (h := 8) rfl (by omega) h
    refine ⟨fun _ => ?_, fun c => absurd e0 c⟩
    rw [f_Bk_note, if_out h, g_Bk_note, if_out h]
    exact ⟨rfl, hR, off_rf⟩
  · have e0 : f_Md_in (nI t) 0 8 = 1 := in_in (l := 0) (h := 8) rfl rfl (by omega) (by omega) (by omega)
    rw [f_Bk_note, if_inn (m := 9) (n := 9) rfl ht (by omega), g_Bk_note, if_inn (m := 9) (n := 9) rfl ht (by omega), nI_clampN (by omega)]
    refine ⟨fun c => absurd (e0.symm.trans c) one_ne, fun _ => ?_⟩
    obtain ⟨hTe, hTi, hC⟩ := hR t ht
    rcases ix_c a1 (n := 3) (m := 3) rfl (by omega) with h | ⟨q, hq, rfl⟩
    · have e1 : f_Md_in a1 0 2 = 0 := in_out (h := 2) rfl (by omega) h
      refine ⟨fun _ => ?_, fun c => absurd e1 c⟩
      have n0 : ¬ a1 = 0 := fun c => by rw [c] at h; revert h; decide
      have n1 : ¬ a1 = 1 := fun c => by rw [c] at h; revert h; decide
      have n2 : ¬ a1 = 2 := fun c => by rw [c] at h; revert h; decide
      have ef : f_Ton_addNote w (31 + 8 * t) a1 a2 = -1 := by
        unfold f_Ton_addNote
        rw [if_neg n0, if_neg n1, if_neg n2]
        split <;> rfl
      have eg : g_Ton_addNote w (31 + 8 * t) a1 a2 = w := by
        unfold g_Ton_addNote
        rw [if_neg n0, if_neg n1, if_neg n2]
        split <;> rfl
      rw [ef, eg]
      exact ⟨rfl, hR, off_rf⟩
    · have e1 : f_Md_in (nI q) 0 2 = 1 := in_in (l := 0) (h := 2) rfl rfl (by omega) (by omega) (by omega)
      refine ⟨fun c => absurd (e1.symm.trans c) one_ne, fun _ => ?_⟩
      by_cases hn : f_Md_isNote a2 = 0
      · have hn2 : f_Ton_isNote a2 = 0 := hn
        refine ⟨fun _ => ?_, fun c => absurd hn c⟩
        rw [f_Ton_addNote, if_pos hn2, g_Ton_addNote, if_pos hn2]
        exact ⟨rfl, hR, off_rf⟩
      · have hn2 : ¬ f_Ton_isNote a2 = 0 := hn
        refine ⟨fun c => absurd c hn, fun _ => ?_⟩
        have ei : (3 * nI t + nI q : Int32) = nI (3 * t + q) := by
          rw [show (3 : Int32) = nI 3 from rfl, pk_mul, nI_add]
        rw [ei, nI_clampN (by omega)]
        have hv : vp_in (nI (3 * t + q)) 27 := vinN (by omega) (by omega)
        have eix : ∀ n, (4 * nI (3 * t + q) + nI n : Int32) = nI (4 * (3 * t + q) + n) := fun n => by
          rw [show (4 : Int32) = nI 4 from rfl, pk_mul, nI_add]
        rw [f_Ton_addNote, if_neg hn2, g_Ton_addNote, if_neg hn2]
        rcases (show q = 0 ∨ q = 1 ∨ q = 2 by omega) with rfl | hq2
        · -- intonation
          obtain ⟨n, hn4, h1, h2, h3⟩ := hTi
          rw [if_pos (by rfl), if_pos (by rfl)]
          refine ⟨hv, fun _ => ?_, fun c => absurd rfl c⟩
          by_cases hf : n = 4
          · subst hf
            obtain ⟨q1, q2⟩ := ton_full (a := a2) h1
            rw [q1, q2]
            refine ⟨fun _ => ⟨rfl, hR, off_rf⟩, fun c => absurd ?_ c⟩
            exact h2
          · obtain ⟨q1, q2⟩ := ton_add (a := a2) h1 (by omega)
            rw [q1, q2]
            have r1 : wr (wr w (31 + 8 * t + 1) n a2) (31 + 8 * t) 3 (nI (n + 1)) 190 (3 * t + 0) = nI n := by
              rw [wr_nc (by omega), wr_nc (by omega)]; exact h2
            rw [r1]
            refine ⟨fun c => absurd c (nI_ne (b := 4) (by omega) (by omega) (by omega)), fun _ => ⟨hv, ?_⟩⟩
            rw [eix, nI_clampN (by omega), nI_1]
            have off : ∀ c k, ¬ PTi t c k → wr (wr (wr (wr w (31 + 8 * t + 1) n a2) (31 + 8 * t) 3 (nI (n + 1))) 191 (4 * (3 * t + 0) + n) a2) 190 (3 * t + 0) (nI (n + 1)) c k = w c k := off_wr (off_wr (off_wr (off_wr off_rf (by unfold PTi; omega)) (by unfold PTi; omega)) (by unfold PTi; omega)) (by unfold PTi; omega)
            refine ⟨vinN (by omega) (by omega), hv, hv, hv, rfl, RT_Ti hR ht off ?_, off_PT off (fun c k z => by unfold PTi at z; unfold PT; omega)⟩
            refine ⟨n + 1, by omega, ?_, ?_, fun j hj => ?_⟩
            · rw [wr_nc (by omega), wr_nc (by omega), wr_eq]
            · exact wr_eq
            · by_cases hjn : j = n
              · subst hjn
                rw [wr_nc (by omega), wr_nc (by omega), wr_nc (by omega), show 32 + 8 * t = 31 + 8 * t + 1 by omega, wr_eq, wr_nc (c' := 191) (by omega), show 12 * t + j = 4 * (3 * t + 0) + j by omega, wr_eq]
              · rw [wr_nc (by omega), wr_nc (by omega), wr_nc (by omega), wr_nk hjn, wr_nc (by omega), wr_nk (by omega), wr_nc (by omega), wr_nc (by omega)]
                exact h3 j (by omega)
        · -- ahead of a cadence's accents
          obtain ⟨p, hp, rfl⟩ : ∃ p, p < 2 ∧ q = 1 + p := ⟨q - 1, by omega, by omega⟩
          obtain ⟨⟨n, hn3, h1, h2, h3⟩, -, -⟩ := hC p hp
          have n0 : ¬ nI (1 + p) = 0 := nI_ne (b := 0) (by omega) (by omega) (by omega)
          have eb : (if nI (1 + p) = 1 then f_Cad_addBefore w (31 + 8 * t + 2) a2 else if nI (1 + p) = 2 then f_Cad_addBefore w (31 + 8 * t + 5) a2 else -1) = f_Cad_addBefore w (33 + 8 * t + 3 * p) a2 := by
            rcases (show p = 0 ∨ p = 1 by omega) with rfl | rfl
            · rw [if_pos (by rfl)]; congr 1; omega
            · rw [if_neg (by decide), if_pos (by rfl)]; congr 1; omega
          have ec : (if nI (1 + p) = 1 then g_Cad_addBefore w (31 + 8 * t + 2) a2 else if nI (1 + p) = 2 then g_Cad_addBefore w (31 + 8 * t + 5) a2 else w) = g_Cad_addBefore w (33 + 8 * t + 3 * p) a2 := by
            rcases (show p = 0 ∨ p = 1 by omega) with rfl | rfl
            · rw [if_pos (by rfl)]; congr 1; omega
            · rw [if_neg (by decide), if_pos (by rfl)]; congr 1; omega
          rw [if_neg n0, if_neg n0, eb, ec]
          refine ⟨hv, fun c => absurd c n0, fun _ => ?_⟩
          rw [show 3 * t + (1 + p) = 3 * t + 1 + p by omega] at hv eix ⊢
          by_cases hf : n = 3
          · subst hf
            obtain ⟨q1, q2⟩ := cad_full (a := a2) h1
            rw [q1, q2]
            exact ⟨fun _ => ⟨rfl, hR, off_rf⟩, fun c => absurd h2 c⟩
          · obtain ⟨q1, q2⟩ := cad_add (a := a2) h1 (by omega)
            rw [q1, q2]
            have r1 : wr (wr w (33 + 8 * t + 3 * p + 1) n a2) (33 + 8 * t + 3 * p) 2 (nI (n + 1)) 190 (3 * t + 1 + p) = nI n := by
              rw [wr_nc (by omega), wr_nc (by omega)]; exact h2
            rw [r1]
            refine ⟨fun c => absurd c (nI_ne (b := 3) (by omega) (by omega) (by omega)), fun _ => ⟨hv, ?_⟩⟩
            rw [eix, nI_clampN (by omega), nI_1]
            have off : ∀ c k, ¬ PCb t p c k → wr (wr (wr (wr w (33 + 8 * t + 3 * p + 1) n a2) (33 + 8 * t + 3 * p) 2 (nI (n + 1))) 191 (4 * (3 * t + 1 + p) + n) a2) 190 (3 * t + 1 + p) (nI (n + 1)) c k = w c k := off_wr (off_wr (off_wr (off_wr off_rf (by unfold PCb; omega)) (by unfold PCb; omega)) (by unfold PCb; omega)) (by unfold PCb; omega)
            refine ⟨vinN (by omega) (by omega), hv, hv, hv, rfl, RT_Cb hR ht hp off ?_, off_PT off (fun c k z => by unfold PCb at z; unfold PT; omega)⟩
            refine ⟨n + 1, by omega, ?_, ?_, fun j hj => ?_⟩
            · rw [wr_nc (by omega), wr_nc (by omega), wr_eq]
            · exact wr_eq
            · by_cases hjn : j = n
              · subst hjn
                rw [wr_nc (by omega), wr_nc (by omega), wr_nc (by omega), show 34 + 8 * t + 3 * p = 33 + 8 * t + 3 * p + 1 by omega, wr_eq, wr_nc (c' := 191) (by omega), show 12 * t + 4 + 4 * p + j = 4 * (3 * t + 1 + p) + j by omega, wr_eq]
                exact ⟨rfl, note_in hn⟩
              · rw [wr_nc (by omega), wr_nc (by omega), wr_nc (by omega), wr_nk hjn, wr_nc (by omega), wr_nk (by omega), wr_nc (by omega), wr_nc (by omega)]
                exact h3 j (by omega)
