/-! Rosters: the choir's own -/
def chI (o : Option Nat) : Int32 := match o with | none => -2 | some m => nI m
/-- the lists of the choir's roster -/
def XC (b w : Wd) (s : ST5) : Prop := (∀ c k, c ≠ 151 → c ≠ 153 → c ≠ 154 → w c k = b c k) ∧ (∀ j, j < 72 → w 153 j = s.of j) ∧ (∀ j, j < 72 → w 154 j = s.la j) ∧ ∀ x, x < 660 → ∀ v, s.se x = some v → w 151 x = v
/-- the choir's monks -/
def MC5 (w : Wd) (p : PT5) : Prop := w 144 5 = nI p.nM ∧ p.nM ≤ 24 ∧ ∀ m, m < p.nM → ∀ r, r < 3 → tbI (w 145 m) r = p.can m r
theorem i32_le {a b : Int32} : ¬ a < b ↔ b ≤ a := by
  rw [Int32.lt_iff_toInt_lt, Int32.le_iff_toInt_le]
  omega
theorem ah_eq {w : Wd} {s : ST5} {r m b : Nat} (hm : 3 * m + r < 72) (hb : 3 * b + r < 72) (h1 : ∀ j, j < 72 → w 153 j = s.of j) (h2 : ∀ j, j < 72 → w 154 j = s.la j) : f_Ros_isAhead w (nI m) (nI b) (nI r) = if ah5 s r m b = true then 1 else 0 := by
  have e : ∀ x, (nI x * 3 + nI r : Int32) = nI (3 * x + r) := fun x => by
    rw [show (3 : Int32) = nI 3 from rfl, pk_mul, nI_add]
    congr 1; omega
  unfold f_Ros_isAhead ah5
  rw [e, e, f_at_in (by omega) (by omega), f_at_in (by omega) (by omega), f_at_in (by omega) (by omega), f_at_in (by omega) (by omega), h1 _ hm, h1 _ hb, h2 _ hm, h2 _ hb]
  by_cases c : s.of (3 * m + r) = s.of (3 * b + r)
  · rw [if_pos c]
    by_cases c2 : s.la (3 * b + r) ≤ s.la (3 * m + r)
    · rw [if_pos c2, if_neg (by
        rw [decide_eq_true_iff]
        rintro (z | z)
        · rw [c] at z; exact i32_le.mpr (Int32.le_refl _) z
        · exact i32_le.mpr c2 z.2)]
    · rw [if_neg c2, if_pos (by
        rw [decide_eq_true_iff]
        right
        refine ⟨c, ?_⟩
        by_cases z : s.la (3 * m + r) < s.la (3 * b + r)
        · exact z
        · exact absurd (i32_le.mp z) c2)]
  · rw [if_neg c]
    by_cases c2 : s.of (3 * b + r) ≤ s.of (3 * m + r)
    · rw [if_pos c2, if_neg (by
        rw [decide_eq_true_iff]
        rintro (z | z)
        · exact i32_le.mpr c2 z
        · exact c z.1)]
    · rw [if_neg c2, if_pos (by
        rw [decide_eq_true_iff]
        left
        by_cases z : s.of (3 * m + r) < s.of (3 * b + r)
        · exact z
        · exact absurd (i32_le.mp z) c2)]
theorem ew_nextMonk {zs : List Int32} {w : Wd} {p : PT5} {s : ST5} {k r : Nat} {x : Int32} {Q : Option AV → Wd → Prop} (hp : MC5 w p) (h1 : ∀ j, j < 72 → w 153 j = s.of j) (h2 : ∀ j, j < 72 → w 154 j = s.la j) (hr : r < 3) (hx : ∀ m, m < 24 → (tbI x m = true ↔ (p.gone k m = true ∨ s.tk m = true))) (h : Q (some (.inl (chI (ch5 p s k r p.nM)))) w) : Ew zs 2 m_Ros_nextMonk [.inr (.inl (some 150)), .inr (.inl (some 144)), .inl (nI r), .inl x] w Q := by
  obtain ⟨hM, hM2, hcan⟩ := hp
  refine ew_of k_Ros_nextMonk rfl (sg_Ros_nextMonk_0 ?_)
  have g := up_loop (fun m => ∀ o6, Gw zs 2 m_Ros_nextMonk 7 [some (.inr (.inl (some 150))), some (.inr (.inl (some 144))), some (.inl (nI r)), some (.inl x), some (.inl (chI (ch5 p s k r m))), some (.inl (nI m)), o6] [] w Q) 0 p.nM (by omega) ?_ ?_
  · exact g none
  · intro o6
    refine sg_Ros_nextMonk_7 ?_
    rw [show f_Cho_count w = nI p.nM from hM]
    exact ⟨fun _ => h, fun c => absurd (nI_le (Nat.le_refl _) (by omega)) c⟩
  · intro m _ hm ih o6
    have skip : ¬ el5 p s k r m = true → ∀ o6, Gw zs 2 m_Ros_nextMonk 7 [some (.inr (.inl (some 150))), some (.inr (.inl (some 144))), some (.inl (nI r)), some (.inl x), some (.inl (chI (ch5 p s k r m))), some (.inl (nI (m + 1))), o6] [] w Q := by
      intro q o6
      have g := ih o6
      simp only [ch5] at g
      rw [if_neg q] at g
      exact g
    have hel : el5 p s k r m = true ↔ (p.can m r = true ∧ ¬ s.tk m = true ∧ ¬ p.gone k m = true) := by
      unfold el5
      rw [Bool.and_eq_true, Bool.and_eq_true, Bool.not_eq_true', Bool.not_eq_true', Bool.not_eq_true, Bool.not_eq_true]
    have ecan : f_Cho_canDo w (nI m) (nI r) = if p.can m r = true then 1 else 0 := by
      unfold f_Cho_canDo f_Cho_hasMonk
      rw [hM, if_inn (m := nI p.nM) (n := p.nM) rfl hm (by omega), if_neg one_ne, f_at_in (by omega) (by omega)]
      have e1 := tb_and (w 145 m) (m := r) (by omega)
      rw [hcan m hm r hr] at e1
      by_cases q : p.can m r = true
      · rw [if_neg (fun z => e1.mp z q), if_pos q]
      · rw [if_pos (e1.mpr q), if_neg q]
    refine sg_Ros_nextMonk_7 ?_
    rw [show f_Cho_count w = nI p.nM from hM, ecan, nI_1]
    refine ⟨fun c => absurd c (nI_gle hm (by omega)), fun _ => ⟨fun c => ⟨fun c2 => skip (fun q => ?_) _, fun c2 => ?_⟩, fun c => skip (fun q => ?_) _⟩⟩
    · rw [if_pos (hel.mp q).1] at c2
      exact one_ne c2
    · have nb := (tb_and x (m := m) (by omega)).mp c
      have nb2 : ¬ (p.gone k m = true ∨ s.tk m = true) := fun z => nb ((hx m (by omega)).mpr z)
      have hc : p.can m r = true := by
        by_cases q : p.can m r = true
        · exact q
        · rw [if_neg q] at c2; exact absurd rfl c2
      have he : el5 p s k r m = true := hel.mpr ⟨hc, fun z => nb2 (Or.inr z), fun z => nb2 (Or.inl z)⟩
      have g := ih (some (.inl 1))
      simp only [ch5] at g
      rw [if_pos he] at g
      cases hn : ch5 p s k r m with
      | none =>
        rw [hn] at g
        exact ⟨fun _ => g, fun z => absurd rfl z⟩
      | some b =>
        rw [hn] at g
        have hb := ch5_lt hn
        have n2 : ¬ chI (some b) = -2 := fun z => by
          have z2 : nI b = -2 := z
          have := congrArg Int32.toInt z2
          rw [nI_toInt (by omega)] at this
          have e2 : (-2 : Int32).toInt = -2 := rfl
          omega
        refine ⟨fun z => absurd z n2, fun _ => ?_⟩
        rw [show chI (some b) = nI b from rfl, ah_eq (by omega) (by omega) h1 h2]
        by_cases q : ah5 s r m b = true
        · simp only [if_pos q] at g
          rw [if_pos q]
          exact ⟨fun z => absurd z one_ne, fun _ => g⟩
        · simp only [if_neg q] at g
          rw [if_neg q]
          exact ⟨fun _ => g, fun z => absurd rfl z⟩
    · have nb : ¬ tbI x m = true := fun z => by
        rcases (hx m (by omega)).mp z with z2 | z2
        · exact (hel.mp q).2.2 z2
        · exact (hel.mp q).2.1 z2
      exact c ((tb_and x (m := m) (by omega)).mpr nb)
theorem op5_p (s : ST5) (k r i : Nat) (c : Option Nat) : (pt5 s k r i c).op = s.op + (match c with | none => 1 | some _ => 0) := by
  cases c with
  | none => rfl
  | some m => rfl
theorem ew_fillDay {zs : List Int32} {b w : Wd} {p : PT5} {s : ST5} {k : Nat} {x : Int32} {Q : Option AV → Wd → Prop} (hp : MC5 b p) (hk : k < 60) (hn : ∀ r, r < 3 → f_Ros_manySeats (nI r) (b 152 k) = nI (p.nS k r) ∧ plc r + p.nS k r ≤ 11) (hX : XC b w s) (hx : ∀ m, m < 24 → (tbI x m = true ↔ (p.gone k m = true ∨ s.tk m = true))) (h : ∀ w' o, XC b w' (sR5 p k s 3) → (sR5 p k s 3).op = s.op + o → Q (some (.inl (nI o))) w') : Ew zs 3 m_Ros_fillDay [.inr (.inl (some 150)), .inr (.inl (some 144)), .inl (nI k), .inl x] w Q := by
  refine ew_of k_Ros_fillDay rfl (sg_Ros_fillDay_0 ?_)
  have roles := up_loop (fun r => ∀ w x o o3 o7 o8 o9, XC b w (sR5 p k s r) → (∀ m, m < 24 → (tbI x m = true ↔ (p.gone k m = true ∨ (sR5 p k s r).tk m = true))) → (sR5 p k s r).op = s.op + o → Gw zs 3 m_Ros_fillDay 9 [some (.inr (.inl (some 150))), some (.inr (.inl (some 144))), some (.inl (nI k)), o3, some (.inl x), some (.inl (nI o)), some (.inl (nI r)), o7, o8, o9] [] w Q) 0 3 (by omega) ?_ ?_
  · exact roles w x 0 _ _ _ _ hX hx rfl
  · intro w x o o3 o7 o8 o9 a1 a2 a3
    exact sg_Ros_fillDay_9 ⟨fun _ => h w o a1 a3, fun c => absurd (nI_le (a := 3) (b := 3) (by omega) (by omega)) c⟩
  · intro r _ hr ih w x o o3 o7 o8 o9 a1 a2 a3
    obtain ⟨n1, n2⟩ := hn r hr
    have e152 : f_at w 152 60 (nI k) = b 152 k := by
      rw [f_at_in (by omega) (by omega)]
      exact a1.1 _ _ (by omega) (by omega) (by omega)
    refine sg_Ros_fillDay_9 ⟨fun c => absurd c (nI_gle (a := 3) (b := r) (by omega) (by omega)), fun _ => ?_⟩
    rw [e152, n1]
    have seats := up_loop (fun i => ∀ w x o o9, XC b w (sI5 p k r (sR5 p k s r) i) → (∀ m, m < 24 → (tbI x m = true ↔ (p.gone k m = true ∨ (sI5 p k r (sR5 p k s r) i).tk m = true))) → (sI5 p k r (sR5 p k s r) i).op = s.op + o → Gw zs 3 m_Ros_fillDay 33 [some (.inr (.inl (some 150))), some (.inr (.inl (some 144))), some (.inl (nI k)), o3, some (.inl x), some (.inl (nI o)), some (.inl (nI r)), some (.inl (nI (p.nS k r))), some (.inl (nI i)), o9] [] w Q) 0 (p.nS k r) (by omega) ?_ ?_
    · exact seats w x o _ a1 a2 a3
    · intro w x o o9 b1 b2 b3
      refine sg_Ros_fillDay_33 ⟨fun _ => ?_, fun c => absurd (nI_le (Nat.le_refl _) (by omega)) c⟩
      rw [nI_1]
      exact ih w x o _ _ _ _ b1 b2 b3
    · intro i _ hi ih2 w x o o9 b1 b2 b3
      have hpw : MC5 w p := by
        obtain ⟨q1, q2, q3⟩ := hp
        exact ⟨(b1.1 _ _ (by omega) (by omega) (by omega)).trans q1, q2, fun m hm r hr => by rw [b1.1 _ _ (by omega) (by omega) (by omega)]; exact q3 m hm r hr⟩
      obtain ⟨x1, x2, x3, x4⟩ := b1
      have seat : ∀ v, g_put w 151 660 (f_Ros_seatOf (nI k) (nI r) (nI i)) v = wr w 151 (11 * k + plc r + i) v := fun v => by
        rw [seat_nI hr, g_put_in (by omega) (by omega)]
      have es : sI5 p k r (sR5 p k s r) (i + 1) = pt5 (sI5 p k r (sR5 p k s r) i) k r i (ch5 p (sI5 p k r (sR5 p k s r) i) k r p.nM) := rfl
      refine sg_Ros_fillDay_33 ⟨fun c => absurd c (nI_gle hi (by omega)), fun _ => ?_⟩
      refine ew_nextMonk hpw x2 x3 hr b2 ⟨_, rfl, ?_⟩
      rw [seat, nI_1, nI_1]
      cases hc : ch5 p (sI5 p k r (sR5 p k s r) i) k r p.nM with
      | none =>
        rw [hc] at es
        refine ⟨fun _ => ih2 _ x (o + 1) _ ?_ ?_ ?_, fun z => absurd rfl z⟩
        · rw [es]
          refine ⟨fun c k' q1 q2 q3 => by rw [wr_nc q1]; exact x1 c k' q1 q2 q3, fun j hj => by rw [wr_nc (by omega)]; exact x2 j hj, fun j hj => by rw [wr_nc (by omega)]; exact x3 j hj, fun z hz v hv => ?_⟩
          have hv2 : upM (sI5 p k r (sR5 p k s r) i).se (11 * k + plc r + i) (some (-2)) z = some v := hv
          by_cases q : z = 11 * k + plc r + i
          · subst q; rw [upM_eq] at hv2; cases hv2; rw [wr_eq]; rfl
          · rw [upM_ne q] at hv2; rw [wr_nk q]; exact x4 z hz v hv2
        · rw [es]; exact b2
        · rw [es, op5_p, b3]; rfl
      | some m =>
        rw [hc] at es
        have hm := ch5_lt hc
        have hM2 := hp.2.1
        have n2' : ¬ chI (some m) = -2 := fun z => by
          have z2 : nI m = -2 := z
          have := congrArg Int32.toInt z2
          rw [nI_toInt (by omega)] at this
          have e2 : (-2 : Int32).toInt = -2 := rfl
          omega
        have e3 : (nI m * 3 + nI r : Int32) = nI (3 * m + r) := by
          rw [show (3 : Int32) = nI 3 from rfl, pk_mul, nI_add]
          congr 1; omega
        have ent : g_Ros_enter (wr w 151 (11 * k + plc r + i) (nI m)) (nI m) (nI r) (nI k) = wr (wr (wr w 151 (11 * k + plc r + i) (nI m)) 153 (3 * m + r) ((sI5 p k r (sR5 p k s r) i).of (3 * m + r) + 1)) 154 (3 * m + r) (nI k) := by
          unfold g_Ros_enter
          rw [e3, f_at_in (by omega) (by omega), g_put_in (by omega) (by omega), g_put_in (by omega) (by omega), wr_nc (c' := 153) (by omega), x2 _ (by omega)]
        refine ⟨fun z => absurd z n2', fun _ => ?_⟩
        rw [show chI (some m) = nI m from rfl, ent]
        refine ih2 _ _ o _ ?_ ?_ ?_
        · rw [es]
          refine ⟨fun c k' q1 q2 q3 => by rw [wr_nc q3, wr_nc q2, wr_nc q1]; exact x1 c k' q1 q2 q3, fun j hj => ?_, fun j hj => ?_, fun z hz v hv => ?_⟩
          · show _ = upM (sI5 p k r (sR5 p k s r) i).of (3 * m + r) ((sI5 p k r (sR5 p k s r) i).of (3 * m + r) + 1) j
            rw [wr_nc (by omega)]
            by_cases q : j = 3 * m + r
            · subst q; rw [wr_eq, upM_eq]
            · rw [wr_nk q, upM_ne q, wr_nc (by omega)]; exact x2 j hj
          · show _ = upM (sI5 p k r (sR5 p k s r) i).la (3 * m + r) (nI k) j
            by_cases q : j = 3 * m + r
            · subst q; rw [wr_eq, upM_eq]
            · rw [wr_nk q, upM_ne q, wr_nc (by omega), wr_nc (by omega)]; exact x3 j hj
          · have hv2 : upM (sI5 p k r (sR5 p k s r) i).se (11 * k + plc r + i) (some (nI m)) z = some v := hv
            rw [wr_nc (by omega), wr_nc (by omega)]
            by_cases q : z = 11 * k + plc r + i
            · subst q; rw [upM_eq] at hv2; cases hv2; rw [wr_eq]
            · rw [upM_ne q] at hv2; rw [wr_nk q]; exact x4 z hz v hv2
        · intro m' hm'
          rw [es, tb_or x (by omega) (by omega), b2 m' hm']
          show (_ ∨ m' = m) ↔ (_ ∨ upM (sI5 p k r (sR5 p k s r) i).tk m true m' = true)
          by_cases q : m' = m
          · subst q; rw [upM_eq]; exact ⟨fun _ => Or.inr rfl, fun _ => Or.inr rfl⟩
          · rw [upM_ne q]; exact ⟨fun z => z.elim id (fun z => absurd z q), Or.inl⟩
        · rw [es, op5_p, b3]; rfl
