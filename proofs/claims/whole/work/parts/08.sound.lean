/-! The small machine's runs, by induction -/
/-- which instruction returns this -/
def retk (i : Instr) (rt : Option FieldType) (v : Option AV) : Prop := match v with
  | none => i = .return_ ∧ rt = none
  | some (.inl x) => i = .ireturn ∧ (rt = some .int ∨ (rt = some .boolean ∧ (x = 0 ∨ x = 1)))
  | some (.inr (.inl _)) => i = .areturn ∧ ∃ C, rt = some (.object C)
  | some (.inr (.inr _)) => False
theorem st3_ret {d K : Nat} {rt : Option FieldType} {i : Instr} {pc : Nat} {L : AL} {S : List AV} {h : AH} {v : Option AV} {h' : AH} (e : st3 d K rt i pc L S h = some (.inr (.inr (v, h')))) : h' = h ∧ S = v.toList ∧ retk i rt v := by
  unfold st3 at e
  split at e
  · repeat' split at e
    all_goals first
      | cases e
      | (unfold call at e; split at e <;> cases e)
  · repeat' split at e
    all_goals first
      | cases e
      | (unfold call at e; split at e <;> cases e)
  · repeat' split at e
    all_goals first
      | cases e
      | (unfold call at e; split at e <;> cases e)
  · split at e
    · cases e
      exact ⟨rfl, rfl, rfl, Or.inl rfl⟩
    · split at e
      · rename_i hx
        cases e
        exact ⟨rfl, rfl, rfl, Or.inr ⟨rfl, hx⟩⟩
      · cases e
    · cases e
  · split at e
    · rename_i C
      cases e
      exact ⟨rfl, rfl, rfl, C, rfl⟩
    · cases e
  · split at e
    · cases e
      exact ⟨rfl, rfl, rfl, rfl⟩
    · cases e
  · cases e
theorem call_na {pc j na k : Nat} {L : AL} {S as : List AV} {h : AH} {s' : AS} (e : call pc L S h j na = some (.inr (.inl (k, as, s')))) : k = j ∧ as.length = na := by
  unfold call at e
  split at e
  · rename_i hna
    simp only [Option.some.injEq, Sum.inr.injEq, Sum.inl.injEq, Prod.mk.injEq] at e
    obtain ⟨h1, h2, -⟩ := e
    subst h1; subst h2
    refine ⟨rfl, ?_⟩
    simp
    omega
  · cases e
theorem na_le {K x j kd po k pc : Nat} {L : AL} {S as : List AV} {h : AH} {s' : AS} {r r' : MR} (hlk : lk invT K x = some (j, kd, po)) (hr : mrec j = some r) (e : call pc L S h j r.2.2.2.2.2.1 = some (.inr (.inl (k, as, s')))) (hr' : mrec k = some r') : as.length ≤ r'.2.2.1 := by
  obtain ⟨rfl, h2⟩ := call_na e
  rw [hr] at hr'
  cases hr'
  rw [h2]
  exact (ckm_all (mrec_ok hr (inv_no hlk)).1).2.2.2.2.2.2.2.1
theorem st3_na {d K : Nat} {rt : Option FieldType} {i : Instr} {pc k : Nat} {L : AL} {S as : List AV} {h : AH} {s' : AS} {r' : MR} (e : st3 d K rt i pc L S h = some (.inr (.inl (k, as, s')))) (hr' : mrec k = some r') : as.length ≤ r'.2.2.1 := by
  unfold st3 at e
  repeat' split at e
  all_goals first
    | exact na_le (by assumption) (by assumption) e hr'
    | cases e
section SD5
variable {p : Program} {l : Launch} {e : Env} {R : Room} {s : State} {m : MethodId} {args : Array Value} {below : List Frame} {meth : Method} {c : Code} {H : Heap} {locs : List Loc} {cells slots : Nat} {Q : State → Prop}
variable {D : va_G} {aC : FieldType → ClassId} {b : Nat} {ra : Nat → Nat} {ro : List (List Int32)} {cc : ByteArray} {pc : Nat} {L : AL} {S : List AV} {h : AH} {ls : Array Slot} {i : Instr} {x : AR}
set_option maxHeartbeats 4000000 in
/-- calls that the small machine makes in one step: Math.max, Math.min, Object's constructor -/
theorem sd3n {K d : Nat} {n : String} {rt : Option FieldType} {pc' : Nat} {L' : AL} {S' : List AV} {h' : AH} (hx : p.tables.exec = Jvm.exec) (hb : c.code = cc) (hml : c.maxLocals = L.length) (hn : kN[K]? = some n) (hown : s.vm.findClass n = some m.cls) (hts : ∀ w ∈ gw, w.before args s = true)
    (hl : LR b ra L ls) (hd : ∀ n, (kind i).2 = n → n ≠ 0 → decode cc pc = .ok (i, n)) (he : st3 d K rt i pc L S h = some (.inl (pc', L', S', h')))
    (hroom : cells ≤ R.cells ∧ slots ≤ R.slots) (hR : d ≤ R.frames ∧ 40 * d ≤ R.locals)
    (k : L' = L → h' = h → W p l e R s m args below meth c H locs cells slots Q (F0 m pc' ls (S'.map (cv b ra)))) :
    W p l e R s m args below meth c H locs cells slots Q (F0 m pc ls (S.map (cv b ra))) := by
  unfold st3 at he
  split at he
  · rename_i x0
    split at he
    · rename_i j0 kd po hlk
      split at he
      · rename_i hkd
        split at he
        · rename_i y x S0
          split at he
          · rename_i hc
            cases he
            have hs : ((S0.map (cv b ra)).map fun v => v.category).sum + 13 ≤ R.locals := by rw [cv_sum]; omega
            rcases hkd with rfl | rfl
            · exact va_mmax hx hb (by rw [hml]; exact hl.1.symm) hown (hts _ (inv_math.1 hlk hn)) (hts _ (ckw_in ck_math.1)) (hts _ (ini_ok (K := 13) rfl)) (hts _ (ckw_in ck_math.2.2.1)) (by omega) hs hroom.1 hroom.2 (hd 3 rfl (by decide)) (k rfl rfl)
            · exact va_mmin hx hb (by rw [hml]; exact hl.1.symm) hown (hts _ (inv_math.2 hlk hn)) (hts _ (ckw_in ck_math.2.1)) (hts _ (ini_ok (K := 13) rfl)) (hts _ (ckw_in ck_math.2.2.2)) (by omega) hs hroom.1 hroom.2 (hd 3 rfl (by decide)) (k rfl rfl)
          · cases he
        · cases he
      · split at he
        · split at he
          · unfold call at he
            split at he <;> cases he
          · cases he
        · cases he
    · cases he
  · repeat' split at he
    all_goals first
      | cases he
      | (unfold call at he; split at he <;> cases he)
  · rename_i x0
    split at he
    · rename_i po hlk
      split at he
      · rename_i a S0
        split at he
        · rename_i hc
          cases he
          refine W.objInit (a := b + a) (rest := S'.map (cv b ra)) hx hb hown (hts _ (ob_ok hlk hn)) (hts _ (ckw_in ck_obj.1)) (hts _ (ckw_in ck_obj.2)) rfl (by rw [hml]; exact hl.1) rfl (hd 3 rfl (by decide)) (by omega) ?_ (k rfl rfl)
          rw [cv_sum]
          show 2 * 0 + _ + 12 ≤ _
          omega
        · cases he
      · cases he
    · repeat' split at he
      all_goals first
        | cases he
        | (unfold call at he; split at he <;> cases he)
  · repeat' split at he
    all_goals cases he
  · repeat' split at he
    all_goals cases he
  · repeat' split at he
    all_goals cases he
  · cases he
/-- the small machine's frame, where the real one stands: what comes behind its end comes behind the real one's -/
def Sn (ro : List (List Int32)) (f : Nat) : Prop := ∀ (d j : Nat) (pc : Nat) (L : AL) (S : List AV) (h : AH) (v : Option AV) (h' : AH) (r : MR), run ro f d j (pc, L, S, h) = some (v, h') → mrec j = some r → kN[r.2.2.2.2.1]? = some r.1.cls → tyO h → L.length = r.2.2.1 →
  ∀ {p : Program} {l : Launch} {e : Env} {R : Room} {s : State} {m : MethodId} {args : Array Value} {below : List Frame} {meth : Method} {c : Code} {H : Heap} {locs : List Loc} {Q : State → Prop} {D : va_G} {aC : FieldType → ClassId} {b : Nat} {ra : Nat → Nat} {ls : Array Slot} (n0 s0 : Nat),
  p.tables.exec = Jvm.exec → c.code = r.2.1 → c.maxLocals = r.2.2.1 → s.vm.findClass r.1.cls = some m.cls → (r.1.name = "<init>" → meth.name = "<init>") → (∀ w ∈ gw, w.before args s = true) → GK D aC b ra ro s → va_S (Ao b) s.heap H locs → HR D aC b ra h H → LR b ra L ls →
  (d ≤ R.frames ∧ 40 * d ≤ R.locals ∧ h'.length - n0 ≤ R.cells ∧ slz h' - s0 ≤ R.slots ∧ n0 ≤ h.length ∧ s0 ≤ slz h) →
  (∀ (H1 : Heap) (locs1 : List Loc) (ls1 : Array Slot) (pc1 : Nat) (i : Instr), retk i r.2.2.2.1 v → decode r.2.1 pc1 = .ok (i, 1) → HR D aC b ra h' H1 → va_S (Ao b) s.heap H1 locs1 → W p l e R s m args below meth c H1 locs1 (h'.length - n0) (slz h' - s0) Q (F0 m pc1 ls1 (v.toList.map (cv b ra)))) →
  W p l e R s m args below meth c H locs (h.length - n0) (slz h - s0) Q (F0 m pc ls (S.map (cv b ra)))
theorem lvl_args (as : List AV) : ∀ (k n : Nat) (q : Nat × Value) (v : AV), (as.map some ++ List.replicate n none)[q.1]? = some (some v) → q.2 = cv b ra v → (k + q.1, q.2) ∈ lv_args k (as.map (cv b ra)) := by
  induction as with
  | nil =>
    intro k n q v h1 h2
    simp [List.getElem?_replicate] at h1
  | cons a as ih =>
    intro k n q v h1 h2
    obtain ⟨q1, q2⟩ := q
    cases q1 with
    | zero =>
      simp at h1
      subst h1
      simp only at h2
      simp [lv_args, h2]
    | succ q1 =>
      have h1' : (as.map some ++ List.replicate n none)[q1]? = some (some v) := by simpa using h1
      have h3 := ih (k + 1) n (q1, q2) v h1' h2
      simp only [List.map_cons, lv_args]
      rw [if_neg (by rw [cv_cat]; decide)]
      refine List.mem_cons_of_mem _ ?_
      rw [show k + (q1 + 1) = k + 1 + q1 by omega]
      exact h3
theorem lg_len (as : List AV) : (lg_sl (as.map (cv b ra))).length = as.length := by
  induction as with
  | nil => rfl
  | cons a as ih =>
    simp only [lg_sl, List.map_cons, List.flatMap_cons, List.length_append, List.length_cons] at ih ⊢
    rw [if_neg (by rw [cv_cat]; decide), ih]
    simp
    omega
set_option maxHeartbeats 4000000 in
theorem sn_ct {f : Nat} (ih : Sn ro f) {d j : Nat} {as : List AV} {v : Option AV} {h' : AH} {r : MR} (hr : mrec j = some r) (hj : j ≠ 247) (hrun : run ro f d j (ent r as h) = some (v, h')) (hty : tyO h) (hna : as.length ≤ r.2.2.1) : Ct l D aC b ra ro r d as h v h' := by
  obtain ⟨q1, q2⟩ := mrec_ok hr hj
  obtain ⟨m1, m2, m3, m4, m5, m6, m7, m8, m9⟩ := ckm_all q1
  refine Met.ofW (cc := r.2.1) (maxL := r.2.2.1) (ret := r.2.2.2.1) m3 rfl ?_
  intro p e s m args below meth c s₁ B hml hv
  obtain ⟨rfl, hH, hG⟩ := hv
  have hx := B.exec
  have hb := B.bytes
  have hrt := B.returns
  have hts0 := atoms_spec (ws := Cond.code r.1 r.2.1 r.2.2.1 r.2.2.2.1 :: gw) B.pre
  have hts : ∀ w ∈ gw, w.before (as.map (cv b ra)).toArray s = true := fun w hw => hts0 w (List.mem_cons_of_mem _ hw)
  have hown : s.vm.findClass r.1.cls = some m.cls := findClass_of_methodNamed B.named
  have hlocks := B.notSynchronized
  have hin : r.1.name = "<init>" → meth.name = "<init>" := fun q => (name_of_methodNamed B.named B.method).1.trans q
  have hle := run_h ro _ _ _ _ _ hrun
  rw [lg_entry_eq]
  have hl := lv_entry (as.map (cv b ra)) (n := r.2.2.1) (by rw [lg_len]; exact hna)
  generalize (lg_sl (as.map (cv b ra)) ++ List.replicate (r.2.2.1 - (lg_sl (as.map (cv b ra))).length) Slot.unset).toArray = ls at hl ⊢
  have hLl : (as.map some ++ List.replicate (r.2.2.1 - as.length) none : AL).length = r.2.2.1 := by simp; omega
  have hl2 : LR b ra (as.map some ++ List.replicate (r.2.2.1 - as.length) none) ls := by
    refine ⟨by rw [hLl]; exact hl.1, hl.2.1, fun q hq => hl.2.2 q ?_⟩
    obtain ⟨v, h1, h2⟩ := lvl_mem.mp hq
    have := lvl_args (b := b) (ra := ra) as 0 _ q v h1 h2
    rw [Nat.zero_add] at this
    exact this
  have hS : va_S (Ao b) s.heap s.heap [] := va_S.rf
  have key := ih d j 0 _ [] h v h' r hrun hr m7 hty hLl (p := p) (l := l) (e := e) (R := { frames := d, cells := h'.length - h.length, slots := slz h' - slz h, locals := 40 * d }) (s := s) (m := m) (args := (as.map (cv b ra)).toArray) (below := below) (meth := meth) (c := c) (H := s.heap) (locs := []) (Q := MQ below (fun _ st oc t => oc = .returned (v.map (cv b ra)) ∧ HR D aC b ra h' t.heap ∧ va_F (Ao b) st t) (as.map (cv b ra)).toArray s (h'.length - h.length) (slz h' - slz h) (Ao b)) (D := D) (aC := aC) (b := b) (ra := ra) (ls := ls) h.length (slz h) hx hb hml hown hin hts hG hS hH hl2 ⟨Nat.le_refl _, Nat.le_refl _, Nat.le_refl _, Nat.le_refl _, Nat.le_refl _, Nat.le_refl _⟩ ?_
  · rw [Nat.sub_self, Nat.sub_self] at key
    exact key
  · intro H1 locs1 ls1 pc1 i hk hdg hH1 hS1
    have hq : ∀ t : State, t.heap = H1 → s.WarmedH t.vm → (Outcome.returned (v.map (cv b ra)) = .returned (v.map (cv b ra)) ∧ HR D aC b ra h' t.heap ∧ va_F (Ao b) s t) := fun t ht hW => ⟨rfl, by rw [ht]; exact hH1, hS1.F ht⟩
    rcases v with _ | (x | (o | j0))
    · obtain ⟨rfl, h2⟩ := hk
      exact W.vret hx hb (hrt.trans h2) hq hS1.2.2 hdg
    · obtain ⟨rfl, h2⟩ := hk
      rcases h2 with h2 | ⟨h2, h3⟩
      · exact W.iret (v := x) hx hb (hrt.trans h2) hq hS1.2.2 hdg
      · exact W.zret (v := x) hx hb (hrt.trans h2) (by rcases h3 with rfl | rfl <;> rfl) hq hS1.2.2 hdg
    · obtain ⟨rfl, C, h2⟩ := hk
      exact W.aret (v := cv b ra (.inr (.inl o))) hx hb (hrt.trans h2) (Or.inl ⟨C, rfl⟩) (by cases o <;> first | exact Or.inl rfl | exact Or.inr ⟨_, rfl⟩) hq hS1.2.2 hdg
    · exact hk.elim
set_option maxHeartbeats 4000000 in
theorem snd_all (ro : List (List Int32)) : ∀ f, Sn ro f := by
  intro f
  induction f with
  | zero =>
    intro d j pc L S h v h' r hrun
    simp [run] at hrun
  | succ f ih =>
    intro d j pc L S h v h' r hrun hr hkn hty hLl p l e R s m args below meth c H locs Q D aC b ra ls n0 s0 hx hb hml hown hin hts hG hS hH hl hR hret
    obtain ⟨hR1, hR2, hR3, hR4, hR5, hR6⟩ := hR
    have hall := run_h ro _ _ _ _ _ hrun
    rw [run, hr] at hrun
    dsimp only at hrun
    cases hi : fch r.2.1 pc with
    | none => rw [hi] at hrun; cases hrun
    | some i =>
      rw [hi] at hrun
      dsimp only at hrun
      obtain ⟨n, hdec, hlen⟩ : ∃ n, decode r.2.1 pc = .ok (i, n) ∧ ((kind i).2 = 0 ∨ (kind i).2 = n) := by
        unfold fch at hi
        split at hi
        · rename_i i' n' hd'
          split at hi
          · cases hi
            exact ⟨n', hd', by assumption⟩
          · cases hi
        · cases hi
      have hd : ∀ n, (kind i).2 = n → n ≠ 0 → decode r.2.1 pc = .ok (i, n) := by
        intro n' h1 h2
        rcases hlen with h3 | h3
        · exact absurd (h1.symm.trans h3) h2
        · rw [hdec, ← h3, h1]
      have hd0 : ∃ n, decode r.2.1 pc = .ok (i, n) := ⟨n, hdec⟩
      cases hs : stp ro d r i pc L S h with
      | none => rw [hs] at hrun; cases hrun
      | some x =>
        rw [hs] at hrun
        have hsh := stp_h hs
        rcases x with ⟨pc', L', S', h1⟩ | ⟨k, as, pc', L', S', h1⟩ | o
        · -- a step
          dsimp only at hrun
          have hrest := run_h ro _ _ _ _ _ hrun
          have hsh : hle h h1 := hsh
          have hrest : hle h1 h' := hrest
          unfold stp at hs
          split at hs
          · refine sd1 hx hb hl hd hd0 hs (fun pc2 L2 S2 ls2 e1 e2 e3 => ?_)
            cases e1
            exact ih d j _ _ _ _ v h' r hrun hr hkn hty (e2.trans hLl) n0 s0 hx hb hml hown hin hts hG hS hH e3 ⟨hR1, hR2, hR3, hR4, hR5, hR6⟩ hret
          · split at hs
            · refine sd2 hx hb hkn hown (fun q => hin (of_decide_eq_true q)) hts hG hS hH hty hl hd hs ?_ (fun pc2 L2 S2 h2 H1 locs1 ls2 e1 e2 e3 e4 e5 e6 => ?_)
              · show h.length - n0 + (h1.length - h.length) ≤ R.cells ∧ slz h - s0 + (slz h1 - slz h) ≤ R.slots
                have := hsh.1; have := hsh.2; have := hrest.1; have := hrest.2
                omega
              · cases e1
                have z1 : h.length - n0 + (h1.length - h.length) = h1.length - n0 := by have := hsh.1; omega
                have z2 : slz h - s0 + (slz h1 - slz h) = slz h1 - s0 := by have := hsh.2; omega
                rw [z1, z2]
                exact ih d j _ _ _ _ v h' r hrun hr hkn e3 (e2.trans hLl) n0 s0 hx hb hml hown hin hts hG e6 e5 e4 ⟨hR1, hR2, hR3, hR4, Nat.le_trans hR5 hsh.1, Nat.le_trans hR6 hsh.2⟩ hret
            · split at hs
              · refine sd3n hx hb (hml.trans hLl.symm) hkn hown hts hl hd hs ?_ ⟨hR1, hR2⟩ (fun e1 e2 => ?_)
                · have := hall.1; have := hall.2
                  simp only at *
                  omega
                · subst e1; subst e2
                  exact ih d j _ _ _ _ v h' r hrun hr hkn hty hLl n0 s0 hx hb hml hown hin hts hG hS hH hl ⟨hR1, hR2, hR3, hR4, hR5, hR6⟩ hret
              · cases hs
        · -- a call
          dsimp only at hrun
          unfold stp at hs
          split at hs
          · unfold st1 at hs
            repeat' split at hs
            all_goals first
              | cases hs
              | (unfold sto at hs; split at hs <;> cases hs)
              | (unfold jp at hs; split at hs <;> cases hs)
              | (unfold br at hs; split at hs <;> cases hs)
          · split at hs
            · unfold st2 at hs
              repeat' split at hs
              all_goals cases hs
            · split at hs
              · split at hrun
                · rename_i d' r' hr'
                  split at hrun
                  · rename_i v1 h2 hcall
                    have hA := run_h ro _ _ _ _ _ hcall
                    have hB := run_h ro _ _ _ _ _ hrun
                    have hA : hle h1 h2 := hA
                    have hB : hle h2 h' := hB
                    have hsh : hle h h1 := hsh
                    have hh : h1 = h := by
                      have := st3_h hs
                      exact this
                    subst hh
                    have hna : as.length ≤ r'.2.2.1 := by
                      exact st3_na hs hr'
                    refine sd3 (v := v1) (h' := h2) hx hb (hml.trans hLl.symm) hkn hown hts hG hS hH hl hd hs (fun r2 hr2 hk => ?_) ?_ ⟨hR1, hR2⟩ (fun H1 locs1 e1 e2 e3 e4 => ?_)
                    · rw [hr'] at hr2
                      cases hr2
                      exact sn_ct ih hr' hk hcall hty hna
                    · have := hA.1; have := hA.2; have := hB.1; have := hB.2
                      omega
                    · subst e1
                      have z1 : h1.length - n0 + (h2.length - h1.length) = h2.length - n0 := by have := hA.1; omega
                      have z2 : slz h1 - s0 + (slz h2 - slz h1) = slz h2 - s0 := by have := hA.2; omega
                      rw [z1, z2]
                      have ht2 : tyO h2 := run_ty ro _ _ _ _ _ (show tyO (ent r' as h1).2.2.2 from hty) hcall
                      exact ih _ j _ _ _ _ v h' r hrun hr hkn ht2 hLl n0 s0 hx hb hml hown hin hts hG e4 e3 hl ⟨hR1, hR2, hR3, hR4, Nat.le_trans hR5 hA.1, Nat.le_trans hR6 hA.2⟩ hret
                  · cases hrun
                · cases hrun
              · cases hs
        · -- an end
          dsimp only at hrun
          cases hrun
          unfold stp at hs
          split at hs
          · unfold st1 at hs
            repeat' split at hs
            all_goals first
              | cases hs
              | (unfold sto at hs; split at hs <;> cases hs)
              | (unfold jp at hs; split at hs <;> cases hs)
              | (unfold br at hs; split at hs <;> cases hs)
          · split at hs
            · unfold st2 at hs
              repeat' split at hs
              all_goals cases hs
            · split at hs
              · obtain ⟨e1, e2, e3⟩ := st3_ret hs
                subst e1; subst e2
                have h1 : decode r.2.1 pc = .ok (i, 1) := by
                  refine hd 1 ?_ (by decide)
                  rcases v with _ | (x | (o | j0))
                  · rw [e3.1]; rfl
                  · rw [e3.1]; rfl
                  · rw [e3.1]; rfl
                  · exact e3.elim
                exact hret H locs ls pc i e3 h1 hH hS
              · cases hs
end SD5
