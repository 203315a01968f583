/-! The plain program's year, all of it -/
def PRk (c k : Nat) : Prop := (169 ≤ c ∧ c ≤ 179) ∨ (c = 155 ∧ (k = 15 ∨ k = 22 ∨ k = 28 ∨ k = 29))
def MYr (w : Wd) (i : Nat) (y : YT) : Prop := MY w i y ∧ MM w y (offF y, mvF y)
theorem mv0_R (y : YT) (f : Nat) : mR (y.own f) (mv0 y f) = -1 := by
  have e : mv0 y f = match y.own f with | none => none | some o => if off0 y o = cod 2 (y.rk f) f then some (some o) else none := rfl
  cases ho : y.own f with
  | none => rw [ho] at e; rw [e]; rfl
  | some o =>
    rw [ho] at e
    have e2 : mv0 y f = if off0 y o = cod 2 (y.rk f) f then some (some o) else none := e
    rw [e2]
    by_cases c : off0 y o = cod 2 (y.rk f) f
    · rw [if_pos c]
      show (if (some o : Option Nat) = some o then (-1 : Int32) else nI o) = -1
      rw [if_pos rfl]
    · rw [if_neg c]; rfl
theorem ew_allmoves {zs : List Int32} {b : Wd} {i : Nat} {y : YT} {o3 o4 : Option AV} {Q : Option AV → Wd → Prop} (hb : MY b i y) (h : ∀ w', (∀ c k, ¬ (170 ≤ c ∧ c ≤ 174) → w' c k = b c k) → MM w' y (offF y, mvF y) → Q none w') : ∀ k, k ≤ y.nF → ∀ w, (∀ c k, ¬ (170 ≤ c ∧ c ≤ 174) → w c k = b c k) → MM w y (itM y k) → Gw zs 5 m_Md_reckon 168 [some (.inr (.inl (some 155))), some (.inl (nI (1900 + i))), some (.inl (oO (nxM y (itM y k).mv y.nF))), o3, o4] [] w Q := by
  have hy := MY_ok hb
  have h60 := hy.2.2.2.1
  intro k hk
  refine up_loop (fun k => ∀ w, (∀ c k, ¬ (170 ≤ c ∧ c ≤ 174) → w c k = b c k) → MM w y (itM y k) → Gw zs 5 m_Md_reckon 168 [some (.inr (.inl (some 155))), some (.inl (nI (1900 + i))), some (.inl (oO (nxM y (itM y k).mv y.nF))), o3, o4] [] w Q) k y.nF hk ?_ ?_
  · intro w a1 a2
    rw [it_end y]
    exact sg_Md_reckon_168 ⟨fun _ => h w a1 a2, fun c => absurd rfl c⟩
  · intro k _ hk ih w a1 a2
    cases hn : nxM y (itM y k).mv y.nF with
    | none =>
      have e := it_fin (Nat.le_of_lt hk) hn
      rw [e] at a2
      exact sg_Md_reckon_168 ⟨fun _ => h w a1 a2, fun c => absurd rfl c⟩
    | some f =>
      obtain ⟨f1, f2⟩ := nxM_some hn
      obtain ⟨u1, ⟨o, u2⟩, u3⟩ := due_c.mp f2
      have n1 : ¬ oO (some f) = -1 := m1_nI (n := f) (by omega)
      have es : itM y (k + 1) = pstM y (itM y k) f (plM y (itM y k).off f) := stM_some hn
      have hbw : MY w i y := MY_cg (fun c k' q => a1 c k' (by omega)) (a1 _ _ (by omega)) (a1 _ _ (by omega)) (fun k' => a1 _ _ (by omega)) hb
      refine sg_Md_reckon_168 ⟨fun c => absurd c n1, fun _ => ?_⟩
      rw [show oO (some f) = nI f from rfl]
      refine ew_moves hbw a2 (MI_it hy k) f1 u2 (fun w2 b1 b2 => ⟨rfl, ?_⟩)
      have c1 : ∀ c k', ¬ (170 ≤ c ∧ c ≤ 174) → w2 c k' = b c k' := fun c k' q => (b1 c k' q).trans (a1 c k' q)
      have hbw2 : MY w2 i y := MY_cg (fun c k' q => c1 c k' (by omega)) (c1 _ _ (by omega)) (c1 _ _ (by omega)) (fun k' => c1 _ _ (by omega)) hb
      rw [← es] at b2
      exact ew_nextMoved hbw2 b2 (MI_it hy (k + 1)) ⟨_, rfl, ih w2 c1 b2⟩
theorem ew_days {zs : List Int32} {b : Wd} {i : Nat} {y : YT} {o3 o4 : Option AV} {Q : Option AV → Wd → Prop} (hb : MY b i y) (h170 : ∀ f, f < y.nF → b 170 f = -1) (h : ∀ w', (∀ c k, ¬ (170 ≤ c ∧ c ≤ 179) → ¬ (c = 155 ∧ k = 22) → w' c k = b c k) → MM w' y (offF y, mvF y) → Q none w') : Gw zs 5 m_Md_reckon 77 [some (.inr (.inl (some 155))), some (.inl (nI (1900 + i))), some (.inl (nI 0)), o3, o4] [] b Q := by
  have hy := MY_ok hb
  have h60 := hy.2.2.2.1
  have hN := hy.2.2.1
  have eN : f_Md_daysOf (nI (1900 + i)) = nI y.N := by rw [(yrN_is i).1, hb.2.2.1]; rfl
  have g := up_loop (fun d => ∀ w o3 o4, (∀ c k, ¬ (171 ≤ c ∧ c ≤ 179) → ¬ (c = 155 ∧ k = 22) → w c k = b c k) → (∀ e, e < d → RO w y e (off0 y e)) → Gw zs 5 m_Md_reckon 77 [some (.inr (.inl (some 155))), some (.inl (nI (1900 + i))), some (.inl (nI d)), o3, o4] [] w Q) 0 y.N (by omega) ?_ ?_
  · exact g b _ _ (fun _ _ _ _ => rfl) (fun e he => by omega)
  · intro w o3 o4 a1 a2
    have hbw : MY w i y := MY_cg (fun c k' q => a1 c k' (by omega) (by omega)) (a1 _ _ (by omega) (by omega)) (a1 _ _ (by omega) (by omega)) (fun k' => a1 _ _ (by omega) (by omega)) hb
    have hM : MM w y (itM y 0) := ⟨a2, fun f hf => by
      rw [a1 170 f (by omega) (by omega), h170 f hf]
      exact (mv0_R y f).symm⟩
    refine sg_Md_reckon_77 ?_
    rw [eN]
    refine ⟨fun _ => ?_, fun c => absurd (nI_le (Nat.le_refl _) (by omega)) c⟩
    refine ew_nextMoved hbw hM (MI_it hy 0) ⟨_, rfl, ?_⟩
    exact ew_allmoves hbw (fun w' b1 b2 => h w' (fun c k q1 q2 => (b1 c k (by omega)).trans (a1 c k (by omega) q2)) b2) 0 (Nat.zero_le _) w (fun _ _ _ => rfl) hM
  · intro d _ hd ih w o3 o4 a1 a2
    have hbw : MY w i y := MY_cg (fun c k' q => a1 c k' (by omega) (by omega)) (a1 _ _ (by omega) (by omega)) (a1 _ _ (by omega) (by omega)) (fun k' => a1 _ _ (by omega) (by omega)) hb
    refine sg_Md_reckon_77 ?_
    rw [eN]
    refine ⟨fun c => absurd c (nI_gle hd (by omega)), fun _ => ?_⟩
    refine ew_gath hbw hd (fun w2 b1 b2 b3 => ⟨rfl, ?_⟩)
    refine ew_best (i := i) hy hd b2 b3 (fun w3 p3 p4 c1 c2 => ih w3 p3 p4 (fun c k q1 q2 => ?_) (fun e he => ?_))
    · rw [c1 _ _ (by omega), b1 _ _ (by omega) q2]
      exact a1 c k q1 q2
    · by_cases q : e = d
      · subst q; exact c2
      · exact RO_cg (fun c h1 h2 => by rw [c1 _ _ (by omega), b1 _ _ (by omega) (by omega)]) (a2 e (by omega))
theorem ew_reckon {zs : List Int32} {w : Wd} {i : Nat} {Q : Option AV → Wd → Prop} (hR : RS w) (hi : i < 300) (hc : w 155 15 = nI (1900 + i) → MYr w i (yv w i)) (h : ∀ w', (∀ c k, ¬ PRk c k → w' c k = w c k) → w' 155 15 = nI (1900 + i) → MYr w' i (yv w i) → Q none w') : Ew zs 5 m_Md_reckon [.inr (.inl (some 155)), .inl (nI (1900 + i))] w Q := by
  have hy := yv_ok hR hi
  have h60 := hy.2.2.2.1
  obtain ⟨eW, -⟩ := yrW_is hi
  refine ew_of k_Md_reckon rfl (sg_Md_reckon_0 ⟨fun c => h w (fun _ _ _ => rfl) c (hc c), fun _ => ?_⟩)
  refine ew_measter hi ⟨_, rfl, ?_⟩
  refine ew_mfw hi ⟨_, rfl, ?_⟩
  rw [eW]
  have c0 : ∀ c k, ¬ (c = 155 ∧ (k = 15 ∨ k = 28 ∨ k = 29)) → wr (wr (wr w 155 15 (nI (1900 + i))) 155 28 (f_Day_easter (nI (1900 + i)))) 155 29 (nI (yrW i)) c k = w c k := fun c k hq => by
    unfold wr
    rw [if_neg (by omega), if_neg (by omega), if_neg (by omega)]
  have d15 : wr (wr (wr w 155 15 (nI (1900 + i))) 155 28 (f_Day_easter (nI (1900 + i)))) 155 29 (nI (yrW i)) 155 15 = nI (1900 + i) := by rw [wr_nk (by omega), wr_nk (by omega), wr_eq]
  have d28 : wr (wr (wr w 155 15 (nI (1900 + i))) 155 28 (f_Day_easter (nI (1900 + i)))) 155 29 (nI (yrW i)) 155 28 = f_Day_easter (nI (1900 + i)) := by rw [wr_nk (by omega), wr_eq]
  have d29 : wr (wr (wr w 155 15 (nI (1900 + i))) 155 28 (f_Day_easter (nI (1900 + i)))) 155 29 (nI (yrW i)) 155 29 = nI (yv w i).f0 := by rw [wr_eq]; rfl
  generalize wr (wr (wr w 155 15 (nI (1900 + i))) 155 28 (f_Day_easter (nI (1900 + i)))) 155 29 (nI (yrW i)) = a at c0 d15 d28 d29 ⊢
  have g := up_loop (fun f => ∀ w', (∀ c k, c ≠ 169 → c ≠ 170 → w' c k = a c k) → (∀ g, g < f → w' 169 g = oO ((yv w i).own g) ∧ w' 170 g = -1) → Gw zs 5 m_Md_reckon 32 [some (.inr (.inl (some 155))), some (.inl (nI (1900 + i))), some (.inl (nI f)), none, none] [] w' Q) 0 (yv w i).nF (by omega) ?_ ?_
  · exact g a (fun _ _ _ _ => rfl) (fun g hg => by omega)
  · intro w' a1 a2
    have o : OYr w' w := fun c k q => (a1 c k (by omega) (by omega)).trans (c0 c k (by omega))
    have hb : MY w' i (yv w i) := ⟨RS_yr o hR, hi, (yv_cg o i).symm, (a1 _ _ (by omega) (by omega)).trans d28, (a1 _ _ (by omega) (by omega)).trans d29, fun f hf => (a2 f hf).1⟩
    refine sg_Md_reckon_32 ?_
    rw [MY_n hb]
    refine ⟨fun _ => ?_, fun c => absurd (nI_le (Nat.le_refl _) (by omega)) c⟩
    refine ew_days hb (fun f hf => (a2 f hf).2) (fun w2 b1 b2 => h w2 (fun c k hq => ?_) ?_ ⟨MY_cg (fun c k q => b1 c k (by omega) (by omega)) (b1 _ _ (by omega) (by omega)) (b1 _ _ (by omega) (by omega)) (fun k => b1 _ _ (by omega) (by omega)) hb, b2⟩)
    · unfold PRk at hq
      rw [b1 c k (by omega) (by omega), a1 c k (by omega) (by omega)]
      exact c0 c k (by omega)
    · rw [b1 _ _ (by omega) (by omega), a1 _ _ (by omega) (by omega)]
      exact d15
  · intro f _ hf ih w' a1 a2
    have o : OYr w' w := fun c k q => (a1 c k (by omega) (by omega)).trans (c0 c k (by omega))
    obtain ⟨⟨f1, -⟩, -, -, -, -, -, ft, -⟩ := yv_feast hR hi hf
    have v := vinN (i := f) (n := 60) (by omega) (by omega)
    have e1 : w' 155 1 = nI (yv w i).nF := (o 155 1 (by omega)).trans (yv_nF hR i).1
    refine sg_Md_reckon_32 ?_
    rw [e1, nI_clampN (by omega), o 162 f (by omega), o 163 f (by omega), nI_1]
    refine ⟨fun c => absurd c (nI_gle hf (by omega)), fun _ => ⟨v, v, ew_feastDay hi ft ⟨_, rfl, v, v, ?_⟩⟩⟩
    rw [f1]
    refine ih _ (fun c k h1 h2 => by rw [wr_nc h2, wr_nc h1]; exact a1 c k h1 h2) (fun g hg => ?_)
    by_cases q : g = f
    · subst q
      rw [wr_nc (by omega), wr_eq, wr_eq]
      exact ⟨rfl, rfl⟩
    · rw [wr_nc (by omega), wr_nk q, wr_nk q]
      exact a2 g (by omega)
