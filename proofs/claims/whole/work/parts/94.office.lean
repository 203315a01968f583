/-! Both books' years as they are kept between calls -/
def AY (w : Wd) : Prop := (w 16 7 = -1 ∨ ∃ i, i < 300 ∧ w 16 7 = nI (1900 + i) ∧ CYr w i (yv w i)) ∧ (w 155 15 = 0 ∨ ∃ i, i < 300 ∧ w 155 15 = nI (1900 + i) ∧ MYr w i (yv w i))
theorem AY_ok : AOK AY := fun _ h1 h2 => ⟨Or.inl h1, Or.inl h2⟩
def GU (w : Wd) : Prop := RS w ∧ AY w
theorem AB_cg2 {w w' : Wd} {i : Nat} {y : YT} (o : OYr w' w) (e : ∀ c k, 16 ≤ c → c ≤ 21 → w' c k = w c k) (h : AB w i y) : AB w' i y := by
  obtain ⟨h1, h2, h3, h4, h5, h6, h7⟩ := h
  exact ⟨RS_yr o h1, h2, by rw [yv_cg o]; exact h3, (e _ _ (by omega) (by omega)).trans h4, (e _ _ (by omega) (by omega)).trans h5, fun d hd => (e _ _ (by omega) (by omega)).trans (h6 d hd), fun f hf => (e _ _ (by omega) (by omega)).trans (h7 f hf)⟩
theorem CYr_cg {w w' : Wd} {i : Nat} {y : YT} (o : OYr w' w) (e : ∀ c k, 16 ≤ c → c ≤ 21 → w' c k = w c k) (h : CYr w i y) : CYr w' i y := by
  obtain ⟨h1, h2, h3, h4⟩ := h
  exact ⟨AB_cg2 o e h1, fun d hd => (e _ _ (by omega) (by omega)).trans (h2 d hd), fun d hd t ht => (e _ _ (by omega) (by omega)).trans (h3 d hd t ht), fun f hf => (e _ _ (by omega) (by omega)).trans (h4 f hf)⟩
theorem MYr_cg {w w' : Wd} {i : Nat} {y : YT} (o : OYr w' w) (e1 : w' 155 28 = w 155 28) (e2 : w' 155 29 = w 155 29) (e3 : ∀ c k, 169 ≤ c → c ≤ 174 → w' c k = w c k) (h : MYr w i y) : MYr w' i y := by
  obtain ⟨h1, h2, h3⟩ := h
  exact ⟨MY_cg o e1 e2 (fun k => e3 _ _ (by omega) (by omega)) h1, fun d hd => RO_cg (fun c q1 q2 => e3 _ _ (by omega) (by omega)) (h2 d hd), fun f hf => (e3 _ _ (by omega) (by omega)).trans (h3 f hf)⟩
def stC (w w' : Wd) (i : Nat) : Prop := (∀ c k, ¬ (16 ≤ c ∧ c ≤ 21) → w' c k = w c k) ∧ w' 16 7 = nI (1900 + i) ∧ CYr w' i (yv w i)
def stR (w w' : Wd) (i : Nat) : Prop := (∀ c k, ¬ PRk c k → ¬ PCo c k → w' c k = w c k) ∧ w' 155 15 = nI (1900 + i) ∧ MYr w' i (yv w i)
theorem stC_yr {w w' : Wd} {i : Nat} (h : stC w w' i) : OYr w' w := fun c k q => h.1 c k (by omega)
theorem stR_yr {w w' : Wd} {i : Nat} (h : stR w w' i) : OYr w' w := fun c k q => h.1 c k (by unfold PRk; omega) (by unfold PCo; omega)
theorem GU_C {w w' : Wd} {i : Nat} (hi : i < 300) (hG : GU w) (h : stC w w' i) : GU w' := by
  have o := stC_yr h
  obtain ⟨h1, h2, h3⟩ := h
  obtain ⟨g1, -, g3⟩ := hG
  refine ⟨RS_yr o g1, Or.inr ⟨i, hi, h2, by rw [yv_cg o]; exact h3⟩, ?_⟩
  rcases g3 with q | ⟨j, j1, j2, j3⟩
  · left; rw [h1 _ _ (by omega)]; exact q
  · right
    exact ⟨j, j1, (h1 _ _ (by omega)).trans j2, by rw [yv_cg o]; exact MYr_cg o (h1 _ _ (by omega)) (h1 _ _ (by omega)) (fun c k q1 q2 => h1 _ _ (by omega)) j3⟩
theorem GU_R {w w' : Wd} {i : Nat} (hi : i < 300) (hG : GU w) (h : stR w w' i) : GU w' := by
  have o := stR_yr h
  obtain ⟨h1, h2, h3⟩ := h
  obtain ⟨g1, g2, -⟩ := hG
  refine ⟨RS_yr o g1, ?_, Or.inr ⟨i, hi, h2, by rw [yv_cg o]; exact h3⟩⟩
  rcases g2 with q | ⟨j, j1, j2, j3⟩
  · left; rw [h1 _ _ (by unfold PRk; omega) (by unfold PCo; omega)]; exact q
  · right
    exact ⟨j, j1, (h1 _ _ (by unfold PRk; omega) (by unfold PCo; omega)).trans j2, by rw [yv_cg o]; exact CYr_cg o (fun c k q1 q2 => h1 _ _ (by unfold PRk; omega) (by unfold PCo; omega)) j3⟩
theorem day_c (a b : Int32) : f_Md_isDay a b = 0 ∨ ∃ i d, i < 300 ∧ a = nI (1900 + i) ∧ d < yrN i ∧ b = nI d ∧ f_Md_isDay a b = 1 := by
  unfold f_Md_isDay
  rcases year_c a with e | ⟨i, hi, rfl, e⟩
  · rw [if_pos e]; exact Or.inl rfl
  · rw [if_neg (show ¬ f_Md_isYear (nI (1900 + i)) = 0 from fun c => one_ne (e.symm.trans c))]
    obtain ⟨eN, N1, N2⟩ := yrN_is i
    rw [eN]
    rcases in_cnt b (n := yrN i) (by omega) with ⟨e2, _⟩ | ⟨d, d1, rfl, e2⟩
    · rw [if_pos e2]; exact Or.inl rfl
    · rw [if_neg (in_n0 e2)]; exact Or.inr ⟨i, d, hi, rfl, d1, rfl, rfl⟩
theorem sC_rf {w : Wd} {i : Nat} (hG : GU w) (h : w 16 7 = nI (1900 + i)) (hi : i < 300) : stC w w i := by
  refine ⟨fun _ _ _ => rfl, h, ?_⟩
  rcases hG.2.1 with q | ⟨j, j1, j2, j3⟩
  · exact absurd (h.symm.trans q) (m1_nI (by omega))
  · have : 1900 + i = 1900 + j := (nI_eq (by omega) (by omega)).mp (h.symm.trans j2)
    have e : i = j := by omega
    subst e
    exact j3
theorem ew_open {zs : List Int32} {w : Wd} {a : Int32} {Q : Option AV → Wd → Prop} (hG : GU w) (h0 : f_Md_isYear a = 0 → Q (some (.inl 0)) w) (h1 : ∀ i, i < 300 → a = nI (1900 + i) → f_Md_isYear a = 1 → ∀ w', stC w w' i → Q (some (.inl 1)) w') : Ew zs 6 m_Alm_open [.inr (.inl (some 16)), .inl a] w Q := by
  refine ew_of k_Alm_open rfl (sg_Alm_open_0 ?_)
  rw [year_eq]
  rcases year_c a with e | ⟨i, hi, rfl, e⟩
  · exact ⟨fun _ => h0 e, fun c => absurd e c⟩
  · refine ⟨fun c => absurd c (in_n0 e), fun _ => ⟨fun c => h1 i hi rfl e w (sC_rf hG c hi), fun _ => ?_⟩⟩
    exact ew_build hG.1 hi (fun w' b1 b2 b3 => ⟨rfl, h1 i hi rfl e w' ⟨b1, b2, b3⟩⟩)
theorem ew_openAt {zs : List Int32} {w : Wd} {a b : Int32} {Q : Option AV → Wd → Prop} (hG : GU w) (h0 : f_Md_isDay a b = 0 → Q (some (.inl 0)) w) (h1 : ∀ i d, i < 300 → a = nI (1900 + i) → d < yrN i → b = nI d → f_Md_isDay a b = 1 → ∀ w', stC w w' i → Q (some (.inl 1)) w') : Ew zs 6 m_Alm_openAt [.inr (.inl (some 16)), .inl a, .inl b] w Q := by
  refine ew_of k_Alm_openAt rfl (sg_Alm_openAt_0 ?_)
  rw [year_eq, show f_Bk_within = f_Md_in from rfl, len_eq]
  have ed : f_Md_isDay a b = if f_Md_isYear a = 0 then 0 else if f_Md_in b 0 (f_Md_daysOf a - 1) = 0 then 0 else 1 := rfl
  rcases day_c a b with e | ⟨i, d, hi, rfl, hd, rfl, e⟩
  · rw [e] at ed
    refine ⟨fun c => h0 e, fun c => ⟨fun c2 => h0 e, fun c2 => ?_⟩⟩
    rw [if_neg c, if_neg c2] at ed
    exact absurd ed.symm one_ne
  · rw [e] at ed
    refine ⟨fun c => ?_, fun c => ⟨fun c2 => ?_, fun c2 => ⟨fun c3 => h1 i d hi rfl hd rfl e w (sC_rf hG c3 hi), fun _ => ?_⟩⟩⟩
    · rw [if_pos c] at ed; exact absurd ed one_ne
    · rw [if_neg c, if_pos c2] at ed; exact absurd ed one_ne
    · exact ew_build hG.1 hi (fun w' b1 b2 b3 => ⟨rfl, h1 i d hi rfl hd rfl e w' ⟨b1, b2, b3⟩⟩)
theorem ew_reck {zs : List Int32} {w : Wd} {i : Nat} {Q : Option AV → Wd → Prop} (hG : GU w) (hi : i < 300) (h : ∀ w', stR w w' i → Q none w') : Ew zs 5 m_Md_reckon [.inr (.inl (some 155)), .inl (nI (1900 + i))] w Q := by
  refine ew_reckon hG.1 hi (fun c => ?_) (fun w' b1 b2 b3 => h w' ⟨fun c k q _ => b1 c k q, b2, b3⟩)
  rcases hG.2.2 with q | ⟨j, j1, j2, j3⟩
  · exact absurd (c.symm.trans q) (nI_ne (b := 0) (by omega) (by omega) (by omega))
  · have : 1900 + i = 1900 + j := (nI_eq (by omega) (by omega)).mp (c.symm.trans j2)
    have e : i = j := by omega
    subst e
    exact j3
/-- how many are commemorated -/
def nCo (y : YT) (d : Nat) : Nat := if tpF y d 0 = 0 then 0 else if tpF y d 1 = 0 then 1 else if tpF y d 2 = 0 then 2 else 3
theorem nCo_eq {y : YT} {d p : Nat} (hp : p ≤ 3) (h1 : ∀ t, t < p → tpF y d t ≠ 0) (h2 : ∀ t, p ≤ t → t < 3 → tpF y d t = 0) : nCo y d = p := by
  unfold nCo
  rcases (show p = 0 ∨ p = 1 ∨ p = 2 ∨ p = 3 by omega) with rfl | rfl | rfl | rfl
  · rw [if_pos (h2 0 (by omega) (by omega))]
  · rw [if_neg (h1 0 (by omega)), if_pos (h2 1 (by omega) (by omega))]
  · rw [if_neg (h1 0 (by omega)), if_neg (h1 1 (by omega)), if_pos (h2 2 (by omega) (by omega))]
  · rw [if_neg (h1 0 (by omega)), if_neg (h1 1 (by omega)), if_neg (h1 2 (by omega))]
theorem tpF_z {y : YT} {d : Nat} : (tpF y d 0 = 0 → tpF y d 1 = 0) ∧ (tpF y d 1 = 0 → tpF y d 2 = 0) := ⟨fun h => tpF_0 h 1, fun h => tpF_0 h 1⟩
def ofV (y : YT) (d : Nat) (a : Int32) : Int32 := if a = 0 then nI (dkC (offF y d)) else if a = 1 then fI (dkC (offF y d)) (dgC (offF y d)) else if a = 2 then nI (drC (offF y d)) else if a = 3 then colO y d (offF y d) else if a = 4 then nI (nCo y d) else if a = 5 then (if dkC (offF y d) = 2 then oO (y.own (dgC (offF y d))) else nI d) else -1
theorem fI_m1 {k g : Nat} (hg : g < 1000) : fI k g = -1 ↔ k ≤ 1 := by
  unfold fI
  by_cases c : k ≤ 1
  · rw [if_pos c]; exact ⟨fun _ => c, fun _ => rfl⟩
  · rw [if_neg c]; exact ⟨fun q => absurd q (m1_nI (by omega)), fun q => absurd q c⟩
theorem dgC_lt (c : Nat) : dgC c < 64 := by unfold dgC; omega
theorem ew_commOn {zs : List Int32} {w : Wd} {i d : Nat} {y : YT} {Q : Option AV → Wd → Prop} (hC : CYr w i y) (hd : d < y.N) (h : Q (some (.inl (nI (nCo y d)))) w) : Ew zs 1 m_Alm_commemoratedOn [.inr (.inl (some 16)), .inl (nI d)] w Q := by
  obtain ⟨hb, h18, h19, h21⟩ := hC
  have hN := (AB_ok hb).2.2.1
  have ix : ∀ t, (nI d * 3 + nI t : Int32) = nI (3 * d + t) := fun t => by
    rw [show (3 : Int32) = nI 3 from rfl, pk_mul, nI_add]
    congr 1; omega
  have tl : ∀ t, tpF y d t < 100000 := fun t => Nat.lt_trans tpB_lt (by omega)
  refine ew_of k_Alm_commemoratedOn rfl (sg_Alm_commemoratedOn_0 ?_)
  have stp : ∀ t n m, t < 3 → m = n + (if tpF y d t = 0 then 0 else 1) → Gw zs 1 m_Alm_commemoratedOn 4 [some (.inr (.inl (some 16))), some (.inl (nI d)), some (.inl (nI m)), some (.inl (nI (t + 1)))] [] w Q → Gw zs 1 m_Alm_commemoratedOn 4 [some (.inr (.inl (some 16))), some (.inl (nI d)), some (.inl (nI n)), some (.inl (nI t))] [] w Q := by
    intro t n m ht hm g
    refine sg_Alm_commemoratedOn_4 ⟨fun c => absurd c (nI_gle (a := 3) (b := t) (by omega) (by omega)), fun _ => ?_⟩
    rw [ix, f_at_in (by omega) (by omega), h19 d hd t ht, nI_1, nI_1]
    refine ⟨fun c => ?_, fun c => ?_⟩
    · rw [if_pos ((oI_m1 (tl t)).mp c), Nat.add_zero] at hm
      subst hm
      exact g
    · rw [if_neg (fun q => c ((oI_m1 (tl t)).mpr q))] at hm
      subst hm
      exact g
  obtain ⟨z1, z2⟩ := tpF_z (y := y) (d := d)
  refine stp 0 0 _ (by omega) rfl (stp 1 _ _ (by omega) rfl (stp 2 _ _ (by omega) rfl (sg_Alm_commemoratedOn_4 ⟨fun _ => ?_, fun c => absurd (nI_le (a := 3) (b := 3) (by omega) (by omega)) c⟩)))
  have e : nCo y d = 0 + (if tpF y d 0 = 0 then 0 else 1) + (if tpF y d 1 = 0 then 0 else 1) + (if tpF y d 2 = 0 then 0 else 1) := by
    unfold nCo
    by_cases c0 : tpF y d 0 = 0
    · rw [if_pos c0, if_pos c0, if_pos (z1 c0), if_pos (z2 (z1 c0))]
    · rw [if_neg c0, if_neg c0]
      by_cases c1 : tpF y d 1 = 0
      · rw [if_pos c1, if_pos c1, if_pos (z2 c1)]
      · rw [if_neg c1, if_neg c1]
        by_cases c2 : tpF y d 2 = 0
        · rw [if_pos c2, if_pos c2]
        · rw [if_neg c2, if_neg c2]
  rw [← e]
  exact h
theorem ew_officeOn {zs : List Int32} {w : Wd} {i d : Nat} {y : YT} {a : Int32} {Q : Option AV → Wd → Prop} (hC : CYr w i y) (hd : d < y.N) (h : Q (some (.inl (ofV y d a))) w) : Ew zs 3 m_Alm_officeOn [.inr (.inl (some 16)), .inl (nI d), .inl a] w Q := by
  have hC0 := hC
  obtain ⟨hb, h18, h19, h21⟩ := hC
  have hy := AB_ok hb
  have hN := hy.2.2.1
  have h60 := hy.2.2.2.1
  have hok := okF hy hd
  obtain ⟨k1, k2, k3, k4, k5, k6, k7⟩ := cOK_dk hok
  have g64 := dgC_lt (offF y d)
  refine ew_of k_Alm_officeOn rfl (sg_Alm_officeOn_0 ?_)
  rw [f_at_in (by omega) (by omega), h18 d hd]
  unfold ofV at h
  refine ⟨fun c => ?_, fun c => ?_, fun c => ?_, fun c3 c4 c5 => ?_⟩
  · subst c
    rw [if_neg (by decide), if_neg (by decide), if_neg (by decide), if_pos rfl] at h
    have e : f_Alm_colourIn w (nI (offF y d)) (nI d) = colO y d (offF y d) := by
      unfold f_Alm_colourIn colO
      rw [k7]
      by_cases q : dkC (offF y d) ≤ 1
      · rw [if_pos ((fI_m1 (by omega)).mpr q), if_pos q, f_at_in (by omega) (by omega), hb.2.2.2.2.2.1 d hd]
        rw [hb.2.2.1]
        rfl
      · rw [if_neg (fun z => q ((fI_m1 (by omega)).mp z)), if_neg q]
        unfold fI
        rw [if_neg q]
        exact (AB_f hb (k3 (by omega))).2.2.2.1
    rw [e]
    exact h
  · subst c
    rw [if_neg (by decide), if_neg (by decide), if_neg (by decide), if_neg (by decide), if_pos rfl] at h
    exact ew_commOn hC0 hd ⟨_, rfl, h⟩
  · subst c
    rw [if_neg (by decide), if_neg (by decide), if_neg (by decide), if_neg (by decide), if_neg (by decide), if_pos rfl] at h
    rw [k5, k7]
    refine ⟨fun q => ?_, fun q => ?_⟩
    · have e : dkC (offF y d) = 2 := (nI_eq (by omega) (by omega)).mp (show nI (dkC (offF y d)) = nI 2 from q)
      rw [if_pos e] at h
      unfold fI
      rw [if_neg (by omega), (AB_f hb (k3 (by omega))).2.2.1]
      exact h
    · rw [if_neg (fun z => q (by rw [z]; rfl))] at h
      exact h
  · unfold f_Alm_partOf
    rw [k5, k6, k7]
    by_cases c0 : a = 0
    · rw [if_pos c0] at h ⊢; exact h
    rw [if_neg c0] at h ⊢
    by_cases c1 : a = 1
    · rw [if_pos c1] at h ⊢; exact h
    rw [if_neg c1] at h ⊢
    by_cases c2 : a = 2
    · rw [if_pos c2] at h ⊢; exact h
    rw [if_neg c2] at h ⊢
    rw [if_neg c3, if_neg c4, if_neg c5] at h
    exact h
