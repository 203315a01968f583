/-! The almanac: the feasts' fates; the whole year -/
theorem ew_fate {zs : List Int32} {w : Wd} {i f : Nat} {y : YT} {Q : Option AV → Wd → Prop} (hb : AB w i y) (h18 : ∀ d, d < y.N → w 18 d = nI (offF y d)) (h19 : ∀ d, d < y.N → ∀ t, t < 3 → w 19 (3 * d + t) = oI (tpF y d t)) (hf : f < y.nF) (hw : ∀ o, y.own f = some o → ¬ y.wy f = 2) (h : Q (some (.inl (fateF y f))) w) : Ew zs 3 m_Alm_fateOnOwnDay [.inr (.inl (some 16)), .inl (nI f)] w Q := by
  have hy := AB_ok hb
  have hN := hy.2.2.1
  obtain ⟨e1, e2, e3, e4, e5, y2, r2, r1, f60, fo⟩ := AB_f hb hf
  have ef : fateF y f = match y.own f with
    | none => -5
    | some o => if y.wy f = 2 then mvI (mvF y f) else if offF y o = cod 2 (y.rk f) f then nI o else if tpF y o 0 = cod 2 (y.rk f) f ∨ tpF y o 1 = cod 2 (y.rk f) f ∨ tpF y o 2 = cod 2 (y.rk f) f then -2 else -3 := rfl
  refine ew_of k_Alm_fateOnOwnDay rfl (sg_Alm_fateOnOwnDay_0 ?_)
  rw [e3, e5]
  cases ho : y.own f with
  | none =>
    rw [ho] at ef
    refine ⟨fun _ => ?_, fun c => absurd rfl c⟩
    rw [ef] at h
    exact h
  | some o =>
    rw [ho] at ef
    have ef2 : fateF y f = if y.wy f = 2 then mvI (mvF y f) else if offF y o = cod 2 (y.rk f) f then nI o else if tpF y o 0 = cod 2 (y.rk f) f ∨ tpF y o 1 = cod 2 (y.rk f) f ∨ tpF y o 2 = cod 2 (y.rk f) f then -2 else -3 := ef
    have hoN := fo o ho
    rw [if_neg (hw o ho)] at ef2
    have n1 : ¬ oO (some o) = -1 := m1_nI (n := o) (by omega)
    refine ⟨fun c => absurd c n1, fun _ => ?_⟩
    rw [show oO (some o) = nI o from rfl, f_at_in (by omega) (by omega), h18 o hoN]
    have c1 := cOK_lt ((MI_it hy y.nF).1 o hoN)
    have c2 := cOK_lt (cOK_feast hy hf)
    have c3 := cOK_pos (cOK_feast hy hf)
    have c1' : offF y o < 10000 := c1
    refine ⟨fun c => ?_, fun c => ?_⟩
    · have q := (nI_eq (by omega) (by omega)).mp c
      rw [ef2, if_pos q] at h
      exact h
    · have q : ¬ offF y o = cod 2 (y.rk f) f := fun z => c (by rw [z])
      rw [ef2, if_neg q] at h
      have tl : ∀ t, tpF y o t < 100000 := fun t => Nat.lt_trans tpB_lt (by omega)
      have ix : ∀ t, (nI o * 3 + nI t : Int32) = nI (3 * o + t) := fun t => by
        rw [show (3 : Int32) = nI 3 from rfl, pk_mul, nI_add]
        congr 1; omega
      have same : ∀ t, oI (tpF y o t) = nI (cod 2 (y.rk f) f) ↔ tpF y o t = cod 2 (y.rk f) f := fun t => by
        rw [← oI_pos c3]
        exact ⟨fun z => oI_inj (tl t) (by omega) z, fun z => by rw [z]⟩
      have g := up_loop (fun t => (∀ s, s < t → ¬ tpF y o s = cod 2 (y.rk f) f) → Gw zs 3 m_Alm_fateOnOwnDay 40 [some (.inr (.inl (some 16))), some (.inl (nI f)), some (.inl (nI o)), some (.inl (nI (cod 2 (y.rk f) f))), some (.inl (nI t))] [] w Q) 0 3 (by omega) ?_ ?_
      · exact g (fun s hs => by omega)
      · intro hs
        refine sg_Alm_fateOnOwnDay_40 ⟨fun _ => ?_, fun z => absurd (nI_le (a := 3) (b := 3) (by omega) (by omega)) z⟩
        rw [if_neg (by
          have s0 := hs 0 (by omega)
          have s1 := hs 1 (by omega)
          have s2 := hs 2 (by omega)
          rintro (z | z | z)
          · exact s0 z
          · exact s1 z
          · exact s2 z)] at h
        exact h
      · intro t _ ht ih hs
        refine sg_Alm_fateOnOwnDay_40 ⟨fun z => absurd z (nI_gle (a := 3) (b := t) (by omega) (by omega)), fun _ => ?_⟩
        rw [ix, f_at_in (by omega) (by omega), h19 o hoN t ht, nI_1]
        refine ⟨fun z => ?_, fun z => ih (fun s hs2 => ?_)⟩
        · have z2 := (same t).mp z
          rw [if_pos (by
            rcases (show t = 0 ∨ t = 1 ∨ t = 2 by omega) with rfl | rfl | rfl
            · exact Or.inl z2
            · exact Or.inr (Or.inl z2)
            · exact Or.inr (Or.inr z2))] at h
          exact h
        · by_cases e : s = t
          · subst e; exact fun q => z ((same s).mpr q)
          · exact hs s (by omega)
theorem ew_settle {zs : List Int32} {b : Wd} {i : Nat} {y : YT} {Q : Option AV → Wd → Prop} (hb : AB b i y) (h18 : ∀ d, d < y.N → b 18 d = nI (offF y d)) (h19 : ∀ d, d < y.N → ∀ t, t < 3 → b 19 (3 * d + t) = oI (tpF y d t)) (h21 : ∀ f, f < y.nF → b 21 f = mvI (mvF y f)) (h : ∀ w', (∀ c k, c ≠ 21 → w' c k = b c k) → (∀ f, f < y.nF → w' 21 f = fateF y f) → Q none w') : Ew zs 4 m_Alm_settleFates [.inr (.inl (some 16))] b Q := by
  have hy := AB_ok hb
  have h60 := hy.2.2.2.1
  refine ew_of k_Alm_settleFates rfl (sg_Alm_settleFates_0 ?_)
  have g := up_loop (fun f => ∀ w, (∀ c k, c ≠ 21 → w c k = b c k) → (∀ g, g < f → w 21 g = fateF y g) → (∀ g, f ≤ g → g < y.nF → w 21 g = mvI (mvF y g)) → Gw zs 4 m_Alm_settleFates 2 [some (.inr (.inl (some 16))), some (.inl (nI f))] [] w Q) 0 y.nF (by omega) ?_ ?_
  · exact g b (fun _ _ _ => rfl) (fun g hg => by omega) (fun g _ hg => h21 g hg)
  · intro w a1 a2 _
    have hbw : AB w i y := AB_cg (fun c k _ _ h3 => a1 c k h3) hb
    refine sg_Alm_settleFates_2 ?_
    rw [AB_n hbw]
    exact ⟨fun _ => h w a1 a2, fun c => absurd (nI_le (Nat.le_refl _) (by omega)) c⟩
  · intro f _ hf ih w a1 a2 a3
    have hbw : AB w i y := AB_cg (fun c k _ _ h3 => a1 c k h3) hb
    obtain ⟨e1, e2, e3, e4, e5, y2, r2, r1, f60, fo⟩ := AB_f hbw hf
    have put : (∀ o, y.own f = some o → ¬ y.wy f = 2) → Ew zs 3 m_Alm_fateOnOwnDay [.inr (.inl (some 16)), .inl (nI f)] w (fun v w7 => ∃ r6 : Int32, v = some (.inl r6) ∧ Gw zs 4 m_Alm_settleFates 2 [some (.inr (.inl (some 16))), some (.inl (nI (f + 1)))] [] (g_put w7 21 60 (nI f) r6) Q) := by
      intro hw
      refine ew_fate hbw (fun d hd => (a1 _ _ (by omega)).trans (h18 d hd)) (fun d hd t ht => (a1 _ _ (by omega)).trans (h19 d hd t ht)) hf hw ⟨_, rfl, ?_⟩
      rw [g_put_in (by omega) (by omega)]
      refine ih _ (fun c k hc => by rw [wr_nc hc]; exact a1 c k hc) (fun g hg => ?_) (fun g hg1 hg2 => ?_)
      · by_cases q : g = f
        · subst q; rw [wr_eq]
        · rw [wr_nk q]; exact a2 g (by omega)
      · rw [wr_nk (by omega)]; exact a3 g (by omega) hg2
    refine sg_Alm_settleFates_2 ?_
    rw [AB_n hbw, e1, e3, nI_1]
    refine ⟨fun c => absurd c (nI_gle hf (by omega)), fun _ => ⟨fun c => ⟨fun c2 => ?_, fun c2 => ?_⟩, fun c => ?_⟩⟩
    · refine put (fun o ho => ?_)
      rw [ho] at c2
      exact absurd c2 (m1_nI (n := o) (by have := fo o ho; have := hy.2.2.1; omega))
    · refine ih w a1 (fun g hg => ?_) (fun g hg1 hg2 => a3 g (by omega) hg2)
      by_cases q : g = f
      · subst q
        have cw : y.wy g = 2 := (nI_eq (by omega) (by omega)).mp (show nI (y.wy g) = nI 2 from c)
        rw [a3 g (Nat.le_refl _) hf]
        show _ = match y.own g with
          | none => -5
          | some o => if y.wy g = 2 then mvI (mvF y g) else if offF y o = cod 2 (y.rk g) g then nI o else if tpF y o 0 = cod 2 (y.rk g) g ∨ tpF y o 1 = cod 2 (y.rk g) g ∨ tpF y o 2 = cod 2 (y.rk g) g then -2 else -3
        cases ho : y.own g with
        | none => rw [ho] at c2; exact absurd rfl c2
        | some o =>
          show _ = if y.wy g = 2 then mvI (mvF y g) else _
          rw [if_pos cw]
      · exact a2 g (by omega)
    · exact put (fun o _ z => c (by rw [z]; rfl))
/-- the almanac of a year -/
def CYr (w : Wd) (i : Nat) (y : YT) : Prop := AB w i y ∧ (∀ d, d < y.N → w 18 d = nI (offF y d)) ∧ (∀ d, d < y.N → ∀ t, t < 3 → w 19 (3 * d + t) = oI (tpF y d t)) ∧ ∀ f, f < y.nF → w 21 f = fateF y f
theorem ew_build {zs : List Int32} {w : Wd} {i : Nat} {Q : Option AV → Wd → Prop} (hR : RS w) (hi : i < 300) (h : ∀ w', (∀ c k, ¬ (16 ≤ c ∧ c ≤ 21) → w' c k = w c k) → w' 16 7 = nI (1900 + i) → CYr w' i (yv w i) → Q none w') : Ew zs 5 m_Alm_build [.inr (.inl (some 16)), .inl (nI (1900 + i))] w Q := by
  have hy := yv_ok hR hi
  have hN := hy.2.2.1
  have hN1 := hy.2.1
  have h60 := hy.2.2.2.1
  obtain ⟨eN, -, -⟩ := yrN_is i
  obtain ⟨eW, -⟩ := yrW_is hi
  obtain ⟨n, n1, n2, n3, n4, n5⟩ := yv_nS hR
  refine ew_of k_Alm_build rfl (sg_Alm_build_0 ?_)
  rw [len_eq, eN, eW]
  have c0 : ∀ c k, c ≠ 16 → wr (wr (wr w 16 7 (nI (1900 + i))) 16 8 (nI (yrN i))) 16 9 (nI (yrW i)) c k = w c k := fun c k hc => by rw [wr_nc hc, wr_nc hc, wr_nc hc]
  have d7 : wr (wr (wr w 16 7 (nI (1900 + i))) 16 8 (nI (yrN i))) 16 9 (nI (yrW i)) 16 7 = nI (1900 + i) := by rw [wr_nk (by omega), wr_nk (by omega), wr_eq]
  have d8 : wr (wr (wr w 16 7 (nI (1900 + i))) 16 8 (nI (yrN i))) 16 9 (nI (yrW i)) 16 8 = nI (yv w i).N := by rw [wr_nk (by omega), wr_eq]; rfl
  have d9 : wr (wr (wr w 16 7 (nI (1900 + i))) 16 8 (nI (yrN i))) 16 9 (nI (yrW i)) 16 9 = nI (yv w i).f0 := by rw [wr_eq]; rfl
  generalize wr (wr (wr w 16 7 (nI (1900 + i))) 16 8 (nI (yrN i))) 16 9 (nI (yrW i)) = w0 at c0 d7 d8 d9 ⊢
  refine ew_layOut (n := n) (N := (yv w i).N) n1 ((c0 _ _ (by omega)).trans n2) hi (by omega) hN d8 (fun k hk => ?_) (fun w1 a1 a2 => ⟨rfl, ?_⟩)
  · rw [c0 2 k (by omega), c0 3 k (by omega), c0 4 k (by omega), c0 5 k (by omega), c0 6 k (by omega), c0 7 k (by omega), c0 156 k (by omega), c0 157 k (by omega), c0 158 k (by omega), c0 159 k (by omega), c0 160 k (by omega), c0 161 k (by omega)]
    exact n5 k hk
  have o0 : OYr w0 w := fun c k q => c0 c k (by omega)
  have s17 : ∀ d, d < (yv w i).N → w1 17 d = (yv w i).so d := fun d hd => by
    rw [a2 d hd, pIn_cg o0 i]
    show _ = lastS (fun k => pIn w i k d) (w 155 0).toNatClampNeg
    rw [n4]
  have d1 : ∀ c k, c ≠ 16 → c ≠ 17 → w1 c k = w c k := fun c k h1 h2 => (a1 c k h2).trans (c0 c k h1)
  -- from the last stretch backwards
  have last : ∀ w2, (∀ c k, c ≠ 18 → c ≠ 19 → c ≠ 20 → w2 c k = w1 c k) → (∀ f, f < (yv w i).nF → w2 20 f = oO ((yv w i).own f)) → (∀ d, d < 366 → w2 18 d = -1) → (∀ k, k < 1098 → w2 19 k = -1) → Ew zs 4 m_Alm_considerAll [.inr (.inl (some 16)), .inl 1] w2 (fun v w2 => v = none ∧ Ew zs 4 m_Alm_moveFeasts [.inr (.inl (some 16))] w2 (fun v w3 => v = none ∧ Ew zs 4 m_Alm_considerAll [.inr (.inl (some 16)), .inl 0] w3 (fun v w4 => v = none ∧ Ew zs 4 m_Alm_settleFates [.inr (.inl (some 16))] w4 (fun v w5 => v = none ∧ Q (none) w5)))) := by
    intro w2 b1 b2 b3 b4
    have o2 : OYr w2 w := fun c k q => (b1 c k (by omega) (by omega) (by omega)).trans (d1 c k (by omega) (by omega))
    have hb : AB w2 i (yv w i) := ⟨RS_yr o2 hR, hi, (yv_cg o2 i).symm, by rw [b1 _ _ (by omega) (by omega) (by omega), a1 _ _ (by omega)]; exact d8, by rw [b1 _ _ (by omega) (by omega) (by omega), a1 _ _ (by omega)]; exact d9, fun d hd => by rw [b1 _ _ (by omega) (by omega) (by omega)]; exact s17 d hd, b2⟩
    refine ew_choose hb (fun d hd => b3 d (by omega)) (fun w3 e1 e2 => ⟨rfl, ?_⟩)
    have hb3 : AB w3 i (yv w i) := AB_cg (fun c k h1 _ _ => e1 c k h1) hb
    have e2' : ∀ d, d < (yv w i).N → w3 18 d = nI (off0 (yv w i) d) := fun d hd => by
      rw [e2 d hd]
      exact oI_pos (cOK_pos (off0_ok hy hd))
    refine ew_moveFeasts hb3 e2' (fun w4 hC => ⟨rfl, ?_⟩)
    have hb4 : AB w4 i (yv w i) := CM_AB hb3 hC
    obtain ⟨g1, g2, g3⟩ := hC
    have okF : ∀ d, d < (yv w i).N → cOK (yv w i) (offF (yv w i) d) := fun d hd => (MI_it hy _).1 d hd
    refine ew_others hb4 (off := offF (yv w i)) (fun d hd => ⟨g2 d hd, by have := cOK_lt (okF d hd); omega⟩) (fun d hd t ht => ?_) (fun w5 k1 k2 => ⟨rfl, ?_⟩)
    · rw [g1 _ _ (by omega) (by omega), e1 _ _ (by omega)]
      exact b4 _ (by omega)
    have hb5 : AB w5 i (yv w i) := AB_cg (fun c k _ h2 _ => k1 c k h2) hb4
    refine ew_settle hb5 (fun d hd => (k1 _ _ (by omega)).trans (g2 d hd)) k2 (fun f hf => (k1 _ _ (by omega)).trans (g3 f hf)) (fun w6 m1 m2 => ⟨rfl, h w6 (fun c k hc => ?_) ?_ ⟨AB_cg (fun c k _ _ h3 => m1 c k h3) hb5, fun d hd => ?_, fun d hd t ht => ?_, m2⟩⟩)
    · rw [m1 _ _ (by omega), k1 _ _ (by omega), g1 _ _ (by omega) (by omega), e1 _ _ (by omega), b1 _ _ (by omega) (by omega) (by omega)]
      exact d1 c k (by omega) (by omega)
    · rw [m1 _ _ (by omega), k1 _ _ (by omega), g1 _ _ (by omega) (by omega), e1 _ _ (by omega), b1 _ _ (by omega) (by omega) (by omega), a1 _ _ (by omega)]
      exact d7
    · rw [m1 _ _ (by omega), k1 _ _ (by omega)]
      exact g2 d hd
    · rw [m1 _ _ (by omega)]
      exact k2 d hd t ht
  have oth := up_loop (fun t => ∀ w2 o1, (∀ c k, c ≠ 18 → c ≠ 19 → c ≠ 20 → w2 c k = w1 c k) → (∀ f, f < (yv w i).nF → w2 20 f = oO ((yv w i).own f)) → (∀ d, d < 366 → w2 18 d = -1) → (∀ k, k < t → w2 19 k = -1) → Gw zs 5 m_Alm_build 88 [some (.inr (.inl (some 16))), o1, some (.inl (nI t))] [] w2 Q) 0 1098 (by omega) ?_ ?_
  · have off := up_loop (fun t => ∀ w2 o1, (∀ c k, c ≠ 18 → c ≠ 20 → w2 c k = w1 c k) → (∀ f, f < (yv w i).nF → w2 20 f = oO ((yv w i).own f)) → (∀ d, d < t → w2 18 d = -1) → Gw zs 5 m_Alm_build 64 [some (.inr (.inl (some 16))), o1, some (.inl (nI t))] [] w2 Q) 0 366 (by omega) ?_ ?_
    · have own := up_loop (fun f => ∀ w2, (∀ c k, c ≠ 20 → w2 c k = w1 c k) → (∀ g, g < f → w2 20 g = oO ((yv w i).own g)) → Gw zs 5 m_Alm_build 28 [some (.inr (.inl (some 16))), some (.inl (nI (1900 + i))), some (.inl (nI f))] [] w2 Q) 0 (yv w i).nF (by omega) ?_ ?_
      · exact own w1 (fun _ _ _ => rfl) (fun g hg => by omega)
      · intro w2 b1 b2
        refine sg_Alm_build_28 ?_
        have en : f_Fea_count w2 = nI (yv w i).nF := (b1 8 7 (by omega)).trans ((d1 8 7 (by omega) (by omega)).trans (yv_nF hR i).2.1)
        rw [en]
        exact ⟨fun _ => off w2 _ (fun c k _ h2 => b1 c k h2) b2 (fun d hd => by omega), fun c => absurd (nI_le (Nat.le_refl _) (by omega)) c⟩
      · intro f _ hf ih w2 b1 b2
        refine sg_Alm_build_28 ?_
        have en : f_Fea_count w2 = nI (yv w i).nF := (b1 8 7 (by omega)).trans ((d1 8 7 (by omega) (by omega)).trans (yv_nF hR i).2.1)
        obtain ⟨⟨f1, -⟩, -, -, -, -, -, -, f9, f10, -⟩ := yv_feast hR hi hf
        rw [en, dayIn_nI (by omega), b1 9 f (by omega), b1 10 f (by omega), d1 9 f (by omega) (by omega), d1 10 f (by omega) (by omega), f9, f10, f1, g_put_in (by omega) (by omega), nI_1]
        refine ⟨fun c => absurd c (nI_gle hf (by omega)), fun _ => ih _ (fun c k hc => by rw [wr_nc hc]; exact b1 c k hc) (fun g hg => ?_)⟩
        by_cases q : g = f
        · subst q; rw [wr_eq]
        · rw [wr_nk q]; exact b2 g (by omega)
    · intro w2 o1 b1 b2 b3
      exact sg_Alm_build_64 ⟨fun _ => oth w2 _ (fun c k h1 _ h3 => b1 c k h1 h3) b2 b3 (fun k hk => by omega), fun c => absurd (nI_le (a := 366) (b := 366) (by omega) (by omega)) c⟩
    · intro t _ ht ih w2 o1 b1 b2 b3
      refine sg_Alm_build_64 ⟨fun c => absurd c (nI_gle (a := 366) (b := t) (by omega) (by omega)), fun _ => ⟨vinN ht (by omega), ?_⟩⟩
      rw [nI_clampN (by omega), nI_1]
      refine ih _ _ (fun c k h1 h2 => by rw [wr_nc h1]; exact b1 c k h1 h2) (fun f hf => by rw [wr_nc (by omega)]; exact b2 f hf) (fun d hd => ?_)
      by_cases q : d = t
      · subst q; rw [wr_eq]
      · rw [wr_nk q]; exact b3 d (by omega)
  · intro w2 o1 b1 b2 b3 b4
    exact sg_Alm_build_88 ⟨fun _ => last w2 b1 b2 b3 b4, fun c => absurd (nI_le (a := 1098) (b := 1098) (by omega) (by omega)) c⟩
  · intro t _ ht ih w2 o1 b1 b2 b3 b4
    refine sg_Alm_build_88 ⟨fun c => absurd c (nI_gle (a := 1098) (b := t) (by omega) (by omega)), fun _ => ⟨vinN ht (by omega), ?_⟩⟩
    rw [nI_clampN (by omega), nI_1]
    refine ih _ _ (fun c k h1 h2 h3 => by rw [wr_nc h2]; exact b1 c k h1 h2 h3) (fun f hf => by rw [wr_nc (by omega)]; exact b2 f hf) (fun d hd => by rw [wr_nc (by omega)]; exact b3 d hd) (fun k hk => ?_)
    by_cases q : k = t
    · subst q; rw [wr_eq]
    · rw [wr_nk q]; exact b4 k (by omega)
