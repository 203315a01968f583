/-! Accents' notes, syllables, parts -/
theorem pick2 {α : Type} {q : Nat} {x y z : α} (h : q < 2) : (if nI q = 0 then x else if nI q = 1 then y else z) = if q = 0 then x else y := by
  rcases (show q = 0 ∨ q = 1 by omega) with rfl | rfl
  · rw [if_pos (by rfl), if_pos rfl]
  · rw [if_neg (by decide), if_pos (by rfl), if_neg (by decide)]
set_option maxHeartbeats 1000000 in
theorem par_accent {zs : List Int32} (a0 a1 a2 a3 a4 a5 : Int32) : Par zs 3 m_Bk_accent 2 m_Md_accent [.inl a0, .inl a1, .inl a2, .inl a3, .inl a4, .inl a5] RT PT := by
  intro w hR
  refine ev_Bk_accent ?_
  refine ⟨_, rfl, ?_⟩
  refine ew_of k_Md_accent rfl (sg_Md_accent_0 ?_)
  rcases ix_c a0 (n := 9) (m := 9) rfl (by omega) with h | ⟨t, ht, rfl⟩
  · have e0 : f_Md_in a0 0 8 = 0 := in_out (h := 8) rfl (by omega) h
    refine ⟨fun _ => ?_, fun c => absurd e0 c⟩
    rw [f_Bk_accent, if_out h, g_Bk_accent, if_out h]
    exact ⟨rfl, hR, off_rf⟩
  · have e0 : f_Md_in (nI t) 0 8 = 1 := in_in (l := 0) (h := 8) rfl rfl (by omega) (by omega) (by omega)
    rw [f_Bk_accent, if_inn (m := 9) (n := 9) rfl ht (by omega), g_Bk_accent, if_inn (m := 9) (n := 9) rfl ht (by omega), nI_clampN (by omega)]
    refine ⟨fun c => absurd (e0.symm.trans c) one_ne, fun _ => ?_⟩
    rcases ix_c a1 (n := 2) (m := 2) rfl (by omega) with h | ⟨q, hq, rfl⟩
    · have e1 : f_Md_in a1 0 1 = 0 := in_out (h := 1) rfl (by omega) h
      refine ⟨fun _ => ?_, fun c => absurd e1 c⟩
      have n0 : ¬ a1 = 0 := fun c => by rw [c] at h; revert h; decide
      have n1 : ¬ a1 = 1 := fun c => by rw [c] at h; revert h; decide
      rw [if_neg n0, if_neg n1, if_neg n0, if_neg n1]
      exact ⟨rfl, hR, off_rf⟩
    · have e1 : f_Md_in (nI q) 0 1 = 1 := in_in (l := 0) (h := 1) rfl rfl (by omega) (by omega) (by omega)
      refine ⟨fun c => absurd (e1.symm.trans c) one_ne, fun _ => ?_⟩
      have eb : (if nI q = 0 then f_Cad_setAccent (31 + 8 * t + 2) a2 a3 a4 a5 else if nI q = 1 then f_Cad_setAccent (31 + 8 * t + 5) a2 a3 a4 a5 else -1) = f_Cad_setAccent (33 + 8 * t + 3 * q) a2 a3 a4 a5 := by
        rw [pick2 hq]
        rcases (show q = 0 ∨ q = 1 by omega) with rfl | rfl
        · rw [if_pos rfl]; congr 1; omega
        · rw [if_neg (by decide)]; congr 1; omega
      have ec : (if nI q = 0 then g_Cad_setAccent w (31 + 8 * t + 2) a2 a3 a4 a5 else if nI q = 1 then g_Cad_setAccent w (31 + 8 * t + 5) a2 a3 a4 a5 else w) = g_Cad_setAccent w (33 + 8 * t + 3 * q) a2 a3 a4 a5 := by
        rw [pick2 hq]
        rcases (show q = 0 ∨ q = 1 by omega) with rfl | rfl
        · rw [if_pos rfl]; congr 1; omega
        · rw [if_neg (by decide)]; congr 1; omega
      rw [eb, ec]
      unfold f_Cad_setAccent g_Cad_setAccent
      rw [show f_Bk_within = f_Md_in from rfl, show f_Ton_isNote = f_Md_isNote from rfl]
      rcases ix_c a2 (n := 2) (m := 2) rfl (by omega) with h | ⟨u, hu, rfl⟩
      · have e2 : f_Md_in a2 0 1 = 0 := in_out (h := 1) rfl (by omega) h
        refine ⟨fun _ => ?_, fun c => absurd e2 c⟩
        rw [if_pos e2, if_pos e2]
        exact ⟨rfl, hR, off_rf⟩
      · have e2 : f_Md_in (nI u) 0 1 = 1 := in_in (l := 0) (h := 1) rfl rfl (by omega) (by omega) (by omega)
        have e2n : ¬ f_Md_in (nI u) 0 1 = 0 := fun c => one_ne (e2.symm.trans c)
        rw [if_neg e2n, if_neg e2n]
        refine ⟨fun c => absurd c e2n, fun _ => ?_⟩
        by_cases n3 : f_Md_isNote a3 = 0
        · rw [if_pos n3, if_pos n3]
          exact ⟨fun _ => ⟨rfl, hR, off_rf⟩, fun c => absurd n3 c⟩
        rw [if_neg n3, if_neg n3]
        refine ⟨fun c => absurd c n3, fun _ => ?_⟩
        by_cases n4 : f_Md_isNote a4 = 0
        · rw [if_pos n4, if_pos n4]
          exact ⟨fun _ => ⟨rfl, hR, off_rf⟩, fun c => absurd n4 c⟩
        rw [if_neg n4, if_neg n4]
        refine ⟨fun c => absurd c n4, fun _ => ?_⟩
        by_cases n5 : f_Md_isNote a5 = 0
        · rw [if_pos n5, if_pos n5]
          exact ⟨fun _ => ⟨rfl, hR, off_rf⟩, fun c => absurd n5 c⟩
        rw [if_neg n5, if_neg n5]
        refine ⟨fun c => absurd c n5, fun _ => ?_⟩
        have i0 : (nI u * 3 : Int32) = nI (u * 3) := pk_mul u 3
        have ir : (3 * (4 * nI t + 2 * nI q + nI u) : Int32) = nI (3 * (4 * t + 2 * q + u)) := by
          rw [show (3 : Int32) = nI 3 from rfl, show (4 : Int32) = nI 4 from rfl, show (2 : Int32) = nI 2 from rfl, pk_mul, pk_mul, nI_add, nI_add, pk_mul]
        have p1 : ∀ n, (nI n + 1 : Int32) = nI (n + 1) := fun n => nI_1 n
        have p2 : ∀ n, (nI n + 2 : Int32) = nI (n + 2) := fun n => nI_add n 2
        rw [i0, ir, p1, p1, p2, p2, g_put_in (by omega) (by omega), g_put_in (by omega) (by omega), g_put_in (by omega) (by omega), nI_clampN (by omega), nI_clampN (by omega), nI_clampN (by omega)]
        have off : ∀ c k, ¬ PCa t q c k → wr (wr (wr (wr (wr (wr w (33 + 8 * t + 3 * q + 2) (u * 3) a3) (33 + 8 * t + 3 * q + 2) (u * 3 + 1) a4) (33 + 8 * t + 3 * q + 2) (u * 3 + 2) a5) 193 (3 * (4 * t + 2 * q + u)) a3) 193 (3 * (4 * t + 2 * q + u) + 1) a4) 193 (3 * (4 * t + 2 * q + u) + 2) a5 c k = w c k := off_wr (off_wr (off_wr (off_wr (off_wr (off_wr off_rf (by unfold PCa; omega)) (by unfold PCa; omega)) (by unfold PCa; omega)) (by unfold PCa; omega)) (by unfold PCa; omega)) (by unfold PCa; omega)
        refine ⟨vinN (by omega) (by omega), vinN (by omega) (by omega), vinN (by omega) (by omega), rfl, RT_Ca hR ht hq off ?_, off_PT off (fun c k z => by unfold PCa at z; unfold PT; omega)⟩
        intro j hj
        have hc : 35 + 8 * t + 3 * q = 33 + 8 * t + 3 * q + 2 := by omega
        obtain ⟨-, -, hC⟩ := hR t ht
        obtain ⟨-, -, hA⟩ := hC q hq
        have hold := hA j hj
        rw [hc] at hold ⊢
        rw [wr_nc (by omega), wr_nc (by omega), wr_nc (by omega)]
        by_cases j2 : j = u * 3 + 2
        · subst j2
          rw [wr_eq, show 12 * t + 6 * q + (u * 3 + 2) = 3 * (4 * t + 2 * q + u) + 2 by omega, wr_eq]
        · rw [wr_nk j2, wr_nk (c := 193) (by omega)]
          by_cases j1 : j = u * 3 + 1
          · subst j1
            rw [wr_eq, show 12 * t + 6 * q + (u * 3 + 1) = 3 * (4 * t + 2 * q + u) + 1 by omega, wr_eq]
          · rw [wr_nk j1, wr_nk (c := 193) (by omega)]
            by_cases j0 : j = u * 3
            · subst j0
              rw [wr_eq, show 12 * t + 6 * q + u * 3 = 3 * (4 * t + 2 * q + u) by omega, wr_eq]
            · rw [wr_nk j0, wr_nk (c := 193) (by omega), wr_nc (by omega), wr_nc (by omega), wr_nc (by omega)]
              exact hold
theorem off_PV {w w' : Wd} {P : Nat → Nat → Prop} (h : ∀ c k, ¬ P c k → w' c k = w c k) (hp : ∀ c k, P c k → PV c k) : ∀ c k, ¬ PV c k → w' c k = w c k := fun c k q => h c k (fun z => q (hp c k z))
theorem par_part {zs : List Int32} (a0 : Int32) : Par zs 1 m_Bk_part 1 m_Md_part [.inl a0] RV PV := by
  intro w hR
  refine ev_Bk_part ?_
  refine ⟨_, rfl, ?_⟩
  refine ew_of k_Md_part rfl (sg_Md_part_0 ?_)
  rcases ix_c a0 (n := 20) (m := 20) rfl (by omega) with h | ⟨v, hv, rfl⟩
  · have e0 : f_Md_in a0 0 19 = 0 := in_out (h := 19) rfl (by omega) h
    refine ⟨fun _ => ?_, fun c => absurd e0 c⟩
    rw [f_Bk_part, if_out h, g_Bk_part, if_out h]
    exact ⟨rfl, hR, off_rf⟩
  · have e0 : f_Md_in (nI v) 0 19 = 1 := in_in (l := 0) (h := 19) rfl rfl (by omega) (by omega) (by omega)
    obtain ⟨n, m, hn, hm, h1, h2, h3, h4, h5⟩ := hR v hv
    rw [f_Bk_part, if_inn (m := 20) (n := 20) rfl hv (by omega), g_Bk_part, if_inn (m := 20) (n := 20) rfl hv (by omega), nI_clampN (by omega)]
    have hvi : vp_in (nI v) 20 := vinN hv (by omega)
    refine ⟨fun c => absurd (e0.symm.trans c) one_ne, fun _ => ⟨hvi, ?_⟩⟩
    unfold f_Ver_cutHere g_Ver_cutHere
    rw [h1, h3]
    by_cases n0 : n = 0
    · subst n0
      rw [if_pos (by rfl), if_pos (by rfl)]
      exact ⟨fun _ => ⟨rfl, hR, off_rf⟩, fun c => absurd h2 c⟩
    · have hn0 : ¬ nI n = 0 := nI_ne (b := 0) (by omega) (by omega) n0
      rw [if_neg hn0, if_neg hn0]
      by_cases m0 : m = 0
      · subst m0
        rw [if_pos (by decide), if_pos (by decide)]
        have r1 : ∀ k, wr w (104 + 2 * v) 2 (nI n) 194 k = w 194 k := fun k => wr_nc (by omega)
        have r2 : ∀ k, wr w (104 + 2 * v) 2 (nI n) 196 k = w 196 k := fun k => wr_nc (by omega)
        rw [r1, h2, r2, h4]
        refine ⟨fun c => absurd c hn0, fun _ => ⟨hvi, fun _ => ⟨hvi, hvi, hvi, rfl, ?_⟩, fun c => absurd (by decide) c⟩⟩
        have off : ∀ c k, ¬ PVv v c k → wr (wr w (104 + 2 * v) 2 (nI n)) 196 v (nI n) c k = w c k := off_wr (off_wr off_rf (by unfold PVv; omega)) (by unfold PVv; omega)
        refine ⟨RV_Vv hR hv off ⟨n, n, hn, Nat.le_refl n, ?_, ?_, ?_, ?_, fun j hj => ?_⟩, off_PV off (fun c k z => by unfold PVv at z; unfold PV; omega)⟩
        · rw [wr_nc (by omega), wr_nk (by omega)]; exact h1
        · rw [wr_nc (by omega), wr_nc (by omega)]; exact h2
        · rw [wr_nc (by omega), wr_eq]
        · exact wr_eq
        · rw [wr_nc (by omega), wr_nc (by omega), wr_nc (by omega), wr_nc (by omega)]; exact h5 j hj
      · have hm0 : ¬ nI m ≤ 0 := nI_nle (by omega) (by omega)
        rw [if_neg hm0, if_neg hm0, h2, h4]
        exact ⟨fun c => absurd c hn0, fun _ => ⟨hvi, fun c => absurd c hm0, fun _ => ⟨rfl, hR, off_rf⟩⟩⟩
theorem par_syllable {zs : List Int32} (a0 a1 : Int32) (ha : a1 = 0 ∨ a1 = 1) : Par zs 1 m_Bk_syllable 1 m_Md_syllable [.inl a0, .inl a1] RV PV := by
  intro w hR
  refine ew_of k_Bk_syllable rfl (sg_Bk_syllable_0 ?_)
  rcases ix_c a0 (n := 20) (m := 20) rfl (by omega) with h | ⟨v, hv, rfl⟩
  · have e0 : f_Md_in a0 0 19 = 0 := in_out (h := 19) rfl (by omega) h
    have fin : ∃ r : Int32, (some (.inl (-1)) : Option AV) = some (.inl r) ∧ Ew zs 1 m_Md_syllable [.inr (.inl (some 155)), .inl a0, .inl a1] w (fun v2 w2 => v2 = some (.inl r) ∧ RV w2 ∧ ∀ c k, ¬ PV c k → w2 c k = w c k) := ⟨_, rfl, ew_of k_Md_syllable rfl (sg_Md_syllable_0 ⟨fun _ => ⟨rfl, hR, off_rf⟩, fun c => absurd e0 c⟩)⟩
    exact ⟨fun _ => fin, fun c1 => ⟨fun _ => fin, fun c2 => absurd (h.resolve_left c1) c2⟩⟩
  · have e0 : f_Md_in (nI v) 0 19 = 1 := in_in (l := 0) (h := 19) rfl rfl (by omega) (by omega) (by omega)
    obtain ⟨n, m, hn, hm, h1, h2, h3, h4, h5⟩ := hR v hv
    have hvi : vp_in (nI v) 20 := vinN hv (by omega)
    refine ⟨fun c => absurd c (nI_pos (by omega)), fun _ => ⟨fun c => absurd c (nI_ge (a := v) (b := 20) hv (by omega)), fun _ => ?_⟩⟩
    rw [nI_clampN (by omega)]
    refine ew_of k_Ver_addSyllable rfl (sg_Ver_addSyllable_0 (ver_is hv) ?_)
    rw [h1]
    refine ⟨fun c => absurd c (nI_pos (by omega)), fun _ => ?_⟩
    by_cases n6 : n = 60
    · subst n6
      refine ⟨fun c => absurd c (by decide), fun _ => ⟨_, rfl, _, rfl, ew_of k_Md_syllable rfl (sg_Md_syllable_0 ⟨fun c => absurd (e0.symm.trans c) one_ne, fun _ => ⟨hvi, fun _ => ⟨rfl, hR, off_rf⟩, fun c => absurd ?_ c⟩⟩)⟩⟩
      rw [nI_clampN (by omega)]
      exact h2
    · refine ⟨fun _ => ⟨vinN (by omega) (by omega), ?_⟩, fun c => absurd (nI_lt (b := 60) (by omega) (by omega)) c⟩
      have ea : a1 &&& 1 = a1 := and1 ha
      rw [nI_clampN (by omega), ea, wr_nc (c := 104 + 2 * v + 1) (c' := 104 + 2 * v) (by omega), h1, nI_1]
      refine ⟨_, rfl, _, rfl, ew_of k_Md_syllable rfl (sg_Md_syllable_0 ?_)⟩
      rw [nI_clampN (by omega)]
      have r1 : wr (wr w (104 + 2 * v + 1) n a1) (104 + 2 * v) 1 (nI (n + 1)) 194 v = nI n := by rw [wr_nc (by omega), wr_nc (by omega)]; exact h2
      have ei : (60 * nI v + nI n : Int32) = nI (60 * v + n) := by rw [show (60 : Int32) = nI 60 from rfl, pk_mul, nI_add]
      rw [r1, ei, nI_clampN (by omega), ea, nI_1]
      refine ⟨fun c => absurd (e0.symm.trans c) one_ne, fun _ => ⟨hvi, fun c => absurd c (nI_ne (b := 60) (by omega) (by omega) n6), fun _ => ⟨hvi, vinN (by omega) (by omega), hvi, hvi, hvi, rfl, ?_⟩⟩⟩
      have off : ∀ c k, ¬ PVv v c k → wr (wr (wr (wr w (104 + 2 * v + 1) n a1) (104 + 2 * v) 1 (nI (n + 1))) 195 (60 * v + n) a1) 194 v (nI (n + 1)) c k = w c k := off_wr (off_wr (off_wr (off_wr off_rf (by unfold PVv; omega)) (by unfold PVv; omega)) (by unfold PVv; omega)) (by unfold PVv; omega)
      refine ⟨RV_Vv hR hv off ⟨n + 1, m, by omega, by omega, ?_, ?_, ?_, ?_, fun j hj => ?_⟩, off_PV off (fun c k z => by unfold PVv at z; unfold PV; omega)⟩
      · rw [wr_nc (by omega), wr_nc (by omega), wr_eq]
      · exact wr_eq
      · rw [wr_nc (by omega), wr_nc (by omega), wr_nk (by omega), wr_nc (by omega)]; exact h3
      · rw [wr_nc (by omega), wr_nc (by omega), wr_nc (by omega), wr_nc (by omega)]; exact h4
      · by_cases hjn : j = n
        · subst hjn
          rw [wr_nc (by omega), wr_nc (by omega), wr_nc (by omega), show 105 + 2 * v = 104 + 2 * v + 1 by omega, wr_eq, wr_nc (c' := 195) (by omega), wr_eq]
          exact ⟨rfl, ha⟩
        · rw [wr_nc (by omega), wr_nc (by omega), wr_nc (by omega), wr_nk hjn, wr_nc (by omega), wr_nk (by omega), wr_nc (by omega), wr_nc (by omega)]
          exact h5 j (by omega)
