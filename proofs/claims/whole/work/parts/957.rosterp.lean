/-! Rosters: the plain program's days -/
def XR (b w : Wd) (s : ST5) : Prop := (∀ c k, c ≠ 203 → c ≠ 204 → c ≠ 205 → w c k = b c k) ∧ (∀ j, j < 72 → w 204 j = s.of j) ∧ (∀ j, j < 72 → w 205 j = s.la j) ∧ ∀ x, x < 660 → ∀ v, s.se x = some v → w 203 x = v
theorem ew_mday {zs : List Int32} {b : Wd} {p : PT5} {s : ST5} {k nA A : Nat} {yr x3 : Int32} {o6 : Option AV} {Q : Option AV → Wd → Prop} (hp : MR5 b p) (hA : b 155 53 = nI nA) (hA2 : nA ≤ 60) (hk : k < 60) (hg : ∀ m, p.gone k m = awM b yr (nI (A + k)) m nA) (hn : ∀ r, r < 3 → b 202 (3 * k + r) = nI (p.nS k r) ∧ plc r + p.nS k r ≤ 11)
    (h : ∀ w' o7 o8 o9 o10, XR b w' (sR5 p k s 3) → Gw zs 6 m_Md_roster 78 [some (.inr (.inl (some 155))), some (.inl yr), some (.inl (nI A)), some (.inl x3), some (.inl (nI (sR5 p k s 3).op)), some (.inl (nI (k + 1))), o6, o7, o8, o9, o10] [] w' Q) :
    ∀ w o9 o10, XR b w s → (∀ m, m < 24 → (tbI 0 m = true ↔ s.tk m = true)) → Gw zs 6 m_Md_roster 178 [some (.inr (.inl (some 155))), some (.inl yr), some (.inl (nI A)), some (.inl x3), some (.inl (nI s.op)), some (.inl (nI k)), o6, some (.inl 0), some (.inl 0), o9, o10] [] w Q := by
  have roles := up_loop (fun r => ∀ w x o9 o10, XR b w (sR5 p k s r) → (∀ m, m < 24 → (tbI x m = true ↔ (sR5 p k s r).tk m = true)) → Gw zs 6 m_Md_roster 178 [some (.inr (.inl (some 155))), some (.inl yr), some (.inl (nI A)), some (.inl x3), some (.inl (nI (sR5 p k s r).op)), some (.inl (nI k)), o6, some (.inl x), some (.inl (nI r)), o9, o10] [] w Q) 0 3 (by omega) ?_ ?_
  · intro w o9 o10 hX hx
    exact roles w 0 o9 o10 hX hx
  · intro w x o9 o10 a1 a2
    refine sg_Md_roster_178 ⟨fun _ => ?_, fun c => absurd (nI_le (a := 3) (b := 3) (by omega) (by omega)) c⟩
    rw [nI_1]
    exact h w _ _ _ _ a1
  · intro r _ hr ih w x o9 o10 a1 a2
    obtain ⟨n1, n2⟩ := hn r hr
    have e3 : ∀ z : Nat, (3 * nI z + nI r : Int32) = nI (3 * z + r) := fun z => by
      rw [show (3 : Int32) = nI 3 from rfl, pk_mul, nI_add]
    have vr := vinN (i := 3 * k + r) (n := 180) (by omega) (by omega)
    refine sg_Md_roster_178 ⟨fun c => absurd c (nI_gle (a := 3) (b := r) (by omega) (by omega)), fun _ => ?_⟩
    have seats := up_loop (fun i => ∀ w x o10, XR b w (sI5 p k r (sR5 p k s r) i) → (∀ m, m < 24 → (tbI x m = true ↔ (sI5 p k r (sR5 p k s r) i).tk m = true)) → Gw zs 6 m_Md_roster 187 [some (.inr (.inl (some 155))), some (.inl yr), some (.inl (nI A)), some (.inl x3), some (.inl (nI (sI5 p k r (sR5 p k s r) i).op)), some (.inl (nI k)), o6, some (.inl x), some (.inl (nI r)), some (.inl (nI i)), o10] [] w Q) 0 (p.nS k r) (by omega) ?_ ?_
    · exact seats w x o10 a1 a2
    · intro w x o10 b1 b2
      refine sg_Md_roster_187 ?_
      rw [e3, nI_clampN (by omega), b1.1 202 _ (by omega) (by omega) (by omega), n1, nI_1]
      exact ⟨vr, fun _ => ih w x _ _ b1 b2, fun c => absurd (nI_le (Nat.le_refl _) (by omega)) c⟩
    · intro i _ hi ih2 w x o10 b1 b2
      have hpw : MR5 w p := by
        obtain ⟨q1, q2, q3⟩ := hp
        exact ⟨(b1.1 _ _ (by omega) (by omega) (by omega)).trans q1, q2, fun m hm r hr => by rw [b1.1 _ _ (by omega) (by omega) (by omega)]; exact q3 m hm r hr⟩
      have hgw : ∀ m, p.gone k m = awM w yr (nI (A + k)) m nA := fun m => by
        rw [hg, awM_cg (fun k => b1.1 _ _ (by omega) (by omega) (by omega)) (fun k => b1.1 _ _ (by omega) (by omega) (by omega)) (fun k => b1.1 _ _ (by omega) (by omega) (by omega)) (fun k => b1.1 _ _ (by omega) (by omega) (by omega))]
      have hAw : w 155 53 = nI nA := (b1.1 _ _ (by omega) (by omega) (by omega)).trans hA
      have e202 : w 202 (3 * k + r) = nI (p.nS k r) := (b1.1 _ _ (by omega) (by omega) (by omega)).trans n1
      obtain ⟨x1, x2, x3', x4⟩ := b1
      have es : sI5 p k r (sR5 p k s r) (i + 1) = pt5 (sI5 p k r (sR5 p k s r) i) k r i (ch5 p (sI5 p k r (sR5 p k s r) i) k r p.nM) := rfl
      have e11 : (11 * nI k + f_Md_placeOf (nI r) + nI i : Int32) = nI (11 * k + plc r + i) := by
        rw [plc_nI hr, show (11 : Int32) = nI 11 from rfl, pk_mul, nI_add, nI_add]
      have vs := vinN (i := 11 * k + plc r + i) (n := 660) (by omega) (by omega)
      refine sg_Md_roster_187 ?_
      rw [e3, nI_clampN (by omega), e202, nI_1, e11, nI_add]
      refine ⟨vr, fun c => absurd c (nI_gle hi (by omega)), fun _ => ?_⟩
      refine ew_chosen hpw hAw hA2 hgw x2 x3' hr b2 ⟨_, rfl, ?_⟩
      rw [nI_clampN (n := 11 * k + plc r + i) (by omega), Int32.add_zero, nI_1 (sI5 p k r (sR5 p k s r) i).op, nI_1 i]
      cases hc : ch5 p (sI5 p k r (sR5 p k s r) i) k r p.nM with
      | none =>
        rw [hc] at es
        refine ⟨fun _ => ⟨vs, ?_⟩, fun z => absurd rfl z⟩
        have eop : (sI5 p k r (sR5 p k s r) (i + 1)).op = (sI5 p k r (sR5 p k s r) i).op + 1 := by rw [es]; rfl
        have g := ih2 (wr w 203 (11 * k + plc r + i) (-2)) x (some (.inl (oO none))) ?_ ?_
        · rw [eop] at g
          exact g
        · rw [es]
          refine ⟨fun c k' q1 q2 q3 => by rw [wr_nc q1]; exact x1 c k' q1 q2 q3, fun j hj => by rw [wr_nc (by omega)]; exact x2 j hj, fun j hj => by rw [wr_nc (by omega)]; exact x3' j hj, fun z hz v hv => ?_⟩
          have hv2 : upM (sI5 p k r (sR5 p k s r) i).se (11 * k + plc r + i) (some (-2)) z = some v := hv
          by_cases q : z = 11 * k + plc r + i
          · subst q; rw [upM_eq] at hv2; cases hv2; rw [wr_eq]
          · rw [upM_ne q] at hv2; rw [wr_nk q]; exact x4 z hz v hv2
        · rw [es]; exact b2
      | some m =>
        rw [hc] at es
        have hm := ch5_lt hc
        have hM2 := hp.2.1
        have v72 := vinN (i := 3 * m + r) (n := 72) (by omega) (by omega)
        refine ⟨fun z => absurd z (m1_nI (n := m) (by omega)), fun _ => ?_⟩
        rw [show oO (some m) = nI m from rfl, e3, nI_clampN (by omega), x2 _ (by omega)]
        refine ⟨vs, v72, v72, v72, ?_⟩
        have eop : (sI5 p k r (sR5 p k s r) (i + 1)).op = (sI5 p k r (sR5 p k s r) i).op := by rw [es]; rfl
        have g := ih2 (wr (wr (wr w 203 (11 * k + plc r + i) (nI m)) 204 (3 * m + r) ((sI5 p k r (sR5 p k s r) i).of (3 * m + r) + 1)) 205 (3 * m + r) (nI k)) (x ||| ((1 : Int32) <<< (nI m &&& 31))) (some (.inl (nI m))) ?_ ?_
        · rw [eop] at g
          exact g
        · rw [es]
          refine ⟨fun c k' q1 q2 q3 => by rw [wr_nc q3, wr_nc q2, wr_nc q1]; exact x1 c k' q1 q2 q3, fun j hj => ?_, fun j hj => ?_, fun z hz v hv => ?_⟩
          · show _ = upM (sI5 p k r (sR5 p k s r) i).of (3 * m + r) ((sI5 p k r (sR5 p k s r) i).of (3 * m + r) + 1) j
            rw [wr_nc (by omega)]
            by_cases q : j = 3 * m + r
            · subst q; rw [wr_eq, upM_eq]
            · rw [wr_nk q, upM_ne q, wr_nc (by omega)]; exact x2 j hj
          · show _ = upM (sI5 p k r (sR5 p k s r) i).la (3 * m + r) (nI k) j
            by_cases q : j = 3 * m + r
            · subst q; rw [wr_eq, upM_eq]
            · rw [wr_nk q, upM_ne q, wr_nc (by omega), wr_nc (by omega)]; exact x3' j hj
          · have hv2 : upM (sI5 p k r (sR5 p k s r) i).se (11 * k + plc r + i) (some (nI m)) z = some v := hv
            rw [wr_nc (by omega), wr_nc (by omega)]
            by_cases q : z = 11 * k + plc r + i
            · subst q; rw [upM_eq] at hv2; cases hv2; rw [wr_eq]
            · rw [upM_ne q] at hv2; rw [wr_nk q]; exact x4 z hz v hv2
        · intro m' hm'
          rw [es, tb_or x (by omega) (by omega), b2 m' hm']
          show (_ ∨ m' = m) ↔ upM (sI5 p k r (sR5 p k s r) i).tk m true m' = true
          by_cases q : m' = m
          · subst q; rw [upM_eq]; exact ⟨fun _ => rfl, fun _ => Or.inr rfl⟩
          · rw [upM_ne q]; exact ⟨fun z => z.elim id (fun z => absurd z q), Or.inl⟩
theorem ew_mros {zs : List Int32} {b : Wd} {i A n nA : Nat} {y : YT} {p : PT5} {Q : Option AV → Wd → Prop} (hy : Yok y) (hO : ∀ d, d < y.N → RO b y d (offF y d)) (hp : MR5 b p) (hA : b 155 53 = nI nA) (hA2 : nA ≤ 60) (hn2 : n ≤ 60) (hAn : A + n ≤ y.N) (hg : ∀ k m, p.gone k m = awM b (nI (1900 + i)) (nI (A + k)) m nA) (hs : ∀ k r, p.nS k r = nSt (drC (offF y (A + k))) r)
    (h : ∀ w', (∀ c k, ¬ (202 ≤ c ∧ c ≤ 205) → w' c k = b c k) → (∀ k, k < n → ∀ r, r < 3 → w' 202 (3 * k + r) = nI (p.nS k r)) → (∀ j, j < 72 → w' 204 j = (sK5 p n).of j) → (∀ j, j < 72 → w' 205 j = (sK5 p n).la j) → (∀ x, x < 660 → ∀ v, (sK5 p n).se x = some v → w' 203 x = v) → Q (some (.inl (nI (sK5 p n).op))) w') : Gw zs 6 m_Md_roster 43 [some (.inr (.inl (some 155))), some (.inl (nI (1900 + i))), some (.inl (nI A)), some (.inl (nI n)), some (.inl 0), none, none, none, none, none, none] [] b Q := by
  have hN := hy.2.2.1
  have days := up_loop (fun k => ∀ W o6 o7 o8 o9 o10, (∀ c k', ¬ (202 ≤ c ∧ c ≤ 205) → W c k' = b c k') → (∀ k', k' < k → ∀ r, r < 3 → W 202 (3 * k' + r) = nI (p.nS k' r)) → (∀ j, j < 72 → W 204 j = (sK5 p k).of j) → (∀ j, j < 72 → W 205 j = (sK5 p k).la j) → (∀ x, x < 660 → ∀ v, (sK5 p k).se x = some v → W 203 x = v) → Gw zs 6 m_Md_roster 78 [some (.inr (.inl (some 155))), some (.inl (nI (1900 + i))), some (.inl (nI A)), some (.inl (nI n)), some (.inl (nI (sK5 p k).op)), some (.inl (nI k)), o6, o7, o8, o9, o10] [] W Q) 0 n (by omega) ?_ ?_
  · have zero := up_loop (fun t => ∀ W, (∀ c k', ¬ (202 ≤ c ∧ c ≤ 205) → W c k' = b c k') → (∀ j, j < t → W 204 j = 0 ∧ W 205 j = -1) → Gw zs 6 m_Md_roster 43 [some (.inr (.inl (some 155))), some (.inl (nI (1900 + i))), some (.inl (nI A)), some (.inl (nI n)), some (.inl (nI t)), none, none, none, none, none, none] [] W Q) 0 72 (by omega) ?_ ?_
    · exact zero b (fun _ _ _ => rfl) (fun j hj => by omega)
    · intro W a1 a2
      exact sg_Md_roster_43 ⟨fun _ => days W _ _ _ _ _ a1 (fun k' hk' => by omega) (fun j hj => (a2 j hj).1) (fun j hj => (a2 j hj).2) (fun x hx v hv => by cases hv), fun c => absurd (nI_le (a := 72) (b := 72) (by omega) (by omega)) c⟩
    · intro t _ ht ih W a1 a2
      have v := vinN (i := t) (n := 72) ht (by omega)
      refine sg_Md_roster_43 ⟨fun c => absurd c (nI_gle (a := 72) (b := t) (by omega) (by omega)), fun _ => ⟨v, v, ?_⟩⟩
      rw [nI_clampN (by omega), nI_1]
      refine ih _ (fun c k' q => by rw [wr_nc (by omega), wr_nc (by omega)]; exact a1 c k' q) (fun j hj => ?_)
      by_cases q : j = t
      · subst q; rw [wr_nc (by omega), wr_eq, wr_eq]; exact ⟨rfl, rfl⟩
      · rw [wr_nc (by omega), wr_nk q, wr_nk q]; exact a2 j (by omega)
  · intro W o6 o7 o8 o9 o10 a1 a2 a3 a4 a5
    exact sg_Md_roster_78 ⟨fun _ => h W a1 a2 a3 a4 a5, fun c => absurd (nI_le (Nat.le_refl _) (by omega)) c⟩
  · intro k _ hk ih W o6 o7 o8 o9 o10 a1 a2 a3 a4 a5
    have hdN : A + k < y.N := by omega
    have r9 := (cOK_dk (okF hy hdN)).2.1
    have e173 : W 173 (A + k) = nI (drC (offF y (A + k))) := (a1 _ _ (by omega)).trans (hO _ hdN).2.2.1
    have hs1 := hs k 1
    have hs2 := hs k 2
    have hs0 := hs k 0
    generalize drC (offF y (A + k)) = R at r9 e173 hs0 hs1 hs2
    have go : ∀ (c1 c2 : Int32) o9 o10, c1 = nI (nSt R 1) → c2 = nI (nSt R 2) → Gw zs 6 m_Md_roster 178 [some (.inr (.inl (some 155))), some (.inl (nI (1900 + i))), some (.inl (nI A)), some (.inl (nI n)), some (.inl (nI (sK5 p k).op)), some (.inl (nI k)), some (.inl (nI R)), some (.inl 0), some (.inl 0), o9, o10] [] (wr (wr (wr W 202 (3 * k) 1) 202 (3 * k + 1) c1) 202 (3 * k + 2) c2) Q := by
      intro c1 c2 o9 o10 h1 h2
      subst h1; subst h2
      have b1 : ∀ c k', ¬ (202 ≤ c ∧ c ≤ 205) → wr (wr (wr W 202 (3 * k) 1) 202 (3 * k + 1) (nI (nSt R 1))) 202 (3 * k + 2) (nI (nSt R 2)) c k' = b c k' := fun c k' q => by
        rw [wr_nc (by omega), wr_nc (by omega), wr_nc (by omega)]; exact a1 c k' q
      have b2 : ∀ k', k' < k + 1 → ∀ r, r < 3 → wr (wr (wr W 202 (3 * k) 1) 202 (3 * k + 1) (nI (nSt R 1))) 202 (3 * k + 2) (nI (nSt R 2)) 202 (3 * k' + r) = nI (p.nS k' r) := fun k' hk' r hr => by
        by_cases q : k' = k
        · subst q
          rcases (show r = 0 ∨ r = 1 ∨ r = 2 by omega) with rfl | rfl | rfl
          · rw [wr_nk (by omega), wr_nk (by omega), Nat.add_zero, wr_eq, hs0]; rfl
          · rw [wr_nk (by omega), wr_eq, hs1]
          · rw [wr_eq, hs2]
        · rw [wr_nk (by omega), wr_nk (by omega), wr_nk (by omega)]; exact a2 k' (by omega) r hr
      have b3 : ∀ c k', c ≠ 202 → wr (wr (wr W 202 (3 * k) 1) 202 (3 * k + 1) (nI (nSt R 1))) 202 (3 * k + 2) (nI (nSt R 2)) c k' = W c k' := fun c k' q => by
        rw [wr_nc q, wr_nc q, wr_nc q]
      generalize wr (wr (wr W 202 (3 * k) 1) 202 (3 * k + 1) (nI (nSt R 1))) 202 (3 * k + 2) (nI (nSt R 2)) = W1 at b1 b2 b3 ⊢
      have hp1 : MR5 W1 p := by
        obtain ⟨q1, q2, q3⟩ := hp
        exact ⟨(b1 _ _ (by omega)).trans q1, q2, fun m hm r hr => by rw [b1 _ _ (by omega)]; exact q3 m hm r hr⟩
      have hg1 : ∀ m, p.gone k m = awM W1 (nI (1900 + i)) (nI (A + k)) m nA := fun m => by
        rw [hg, awM_cg (fun k => b1 _ _ (by omega)) (fun k => b1 _ _ (by omega)) (fun k => b1 _ _ (by omega)) (fun k => b1 _ _ (by omega))]
      refine ew_mday (s := cl5 (sK5 p k)) hp1 ((b1 _ _ (by omega)).trans hA) hA2 (by omega) hg1 (fun r hr => ⟨b2 k (by omega) r hr, ?_⟩) (fun w' p7 p8 p9 p10 hX => ?_) W1 o9 o10 ⟨fun _ _ _ _ _ => rfl, fun j hj => (b3 _ _ (by omega)).trans (a3 j hj), fun j hj => (b3 _ _ (by omega)).trans (a4 j hj), fun x hx v hv => (b3 _ _ (by omega)).trans (a5 x hx v hv)⟩ (fun m _ => by rw [tb_0]; exact Iff.rfl)
      · have z := (nSt_is R (by omega) r hr).2.2
        rcases (show r = 0 ∨ r = 1 ∨ r = 2 by omega) with rfl | rfl | rfl
        · rw [hs0]; exact z
        · rw [hs1]; exact z
        · rw [hs2]; exact z
      · have es : sK5 p (k + 1) = sR5 p k (cl5 (sK5 p k)) 3 := rfl
        rw [← es] at hX ⊢
        obtain ⟨x1, x2, x3, x4⟩ := hX
        exact ih w' _ _ _ _ _ (fun c k' q => (x1 c k' (by omega) (by omega) (by omega)).trans (b1 c k' q)) (fun k' hk' r hr => (x1 _ _ (by omega) (by omega) (by omega)).trans (b2 k' hk' r hr)) x2 x3 x4
    have e3 : (3 * nI k : Int32) = nI (3 * k) := by rw [show (3 : Int32) = nI 3 from rfl, pk_mul]
    have e31 : (nI (3 * k) + 1 : Int32) = nI (3 * k + 1) := nI_1 _
    have e32 : (nI (3 * k) + 2 : Int32) = nI (3 * k + 2) := nI_add _ 2
    have vd := vinN (i := A + k) (n := 366) (by omega) (by omega)
    have v0 := vinN (i := 3 * k) (n := 180) (by omega) (by omega)
    have v1 := vinN (i := 3 * k + 1) (n := 180) (by omega) (by omega)
    have v2 := vinN (i := 3 * k + 2) (n := 180) (by omega) (by omega)
    refine sg_Md_roster_78 ?_
    rw [nI_add, nI_clampN (n := A + k) (by omega), e173, e3, e31, e32, nI_clampN (n := 3 * k) (by omega), nI_clampN (n := 3 * k + 1) (by omega), nI_clampN (n := 3 * k + 2) (by omega)]
    have l7 : nI R < 7 ↔ R < 7 := nI_ltI (b := 7) (by omega) (by omega)
    have l4 : nI R < 4 ↔ R < 4 := nI_ltI (b := 4) (by omega) (by omega)
    have l6 : nI R < 6 ↔ R < 6 := nI_ltI (b := 6) (by omega) (by omega)
    have l3 : nI R < 3 ↔ R < 3 := nI_ltI (b := 3) (by omega) (by omega)
    rw [l7, l4, l6, l3]
    have s1a : R < 7 → R < 4 → (1 : Int32) = nI (nSt R 1) := fun q1 q2 => by
      show (1 : Int32) = nI (if R < 7 then (if R < 4 then 1 else 2) else 4)
      rw [if_pos q1, if_pos q2]; rfl
    have s1b : R < 7 → ¬ R < 4 → (2 : Int32) = nI (nSt R 1) := fun q1 q2 => by
      show (2 : Int32) = nI (if R < 7 then (if R < 4 then 1 else 2) else 4)
      rw [if_pos q1, if_neg q2]; rfl
    have s1c : ¬ R < 7 → (4 : Int32) = nI (nSt R 1) := fun q1 => by
      show (4 : Int32) = nI (if R < 7 then (if R < 4 then 1 else 2) else 4)
      rw [if_neg q1]; rfl
    have s2a : R < 6 → R < 3 → (1 : Int32) = nI (nSt R 2) := fun q1 q2 => by
      show (1 : Int32) = nI (if R < 6 then (if R < 3 then 1 else 3) else 6)
      rw [if_pos q1, if_pos q2]; rfl
    have s2b : R < 6 → ¬ R < 3 → (3 : Int32) = nI (nSt R 2) := fun q1 q2 => by
      show (3 : Int32) = nI (if R < 6 then (if R < 3 then 1 else 3) else 6)
      rw [if_pos q1, if_neg q2]; rfl
    have s2c : ¬ R < 6 → (6 : Int32) = nI (nSt R 2) := fun q1 => by
      show (6 : Int32) = nI (if R < 6 then (if R < 3 then 1 else 3) else 6)
      rw [if_neg q1]; rfl
    refine ⟨fun c => absurd c (nI_gle hk (by omega)), fun _ => ⟨vd, v0, fun q7 => ⟨fun q4 => ⟨v1, fun q6 => ⟨fun q3 => ⟨v2, go _ _ _ _ (s1a q7 q4) (s2a q6 q3)⟩, fun q3 => ⟨v2, go _ _ _ _ (s1a q7 q4) (s2b q6 q3)⟩⟩, fun q6 => ⟨v2, go _ _ _ _ (s1a q7 q4) (s2c q6)⟩⟩, fun q4 => ⟨v1, fun q6 => ⟨fun q3 => ⟨v2, go _ _ _ _ (s1b q7 q4) (s2a q6 q3)⟩, fun q3 => ⟨v2, go _ _ _ _ (s1b q7 q4) (s2b q6 q3)⟩⟩, fun q6 => ⟨v2, go _ _ _ _ (s1b q7 q4) (s2c q6)⟩⟩⟩, fun q7 => ⟨v1, fun q6 => ⟨fun q3 => ⟨v2, go _ _ _ _ (s1c q7) (s2a q6 q3)⟩, fun q3 => ⟨v2, go _ _ _ _ (s1c q7) (s2b q6 q3)⟩⟩, fun q6 => ⟨v2, go _ _ _ _ (s1c q7) (s2c q6)⟩⟩⟩⟩
