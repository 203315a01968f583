/-! Calls, and whole runs: what the small machine yields, the real one yields -/
theorem tyO.set {h : AH} {a : Nat} {c0 c1 : AC} (ht : tyO h) (hc : h[a]? = some c0) (e : c1.1 = c0.1) : tyO (h.set a c1) := by
  intro k' C xs hk'
  by_cases hka : a = k'
  · subst hka
    have hlt : a < h.length := (List.getElem?_eq_some_iff.mp hc).1
    rw [List.getElem?_set_self hlt] at hk'
    cases hk'
    exact ht a C c0.2 (by rw [hc, show c0 = (c0.1, c0.2) from rfl, ← e])
  · rw [List.getElem?_set_ne hka] at hk'
    exact ht k' C xs hk'
theorem tyO.push {h : AH} {c1 : AC} (ht : tyO h) (e3 : ∀ C, c1.1 = .inr (.object C) → C = "ChoirBook$Tone" ∨ C = "ChoirBook$Verse") : tyO (h ++ [c1]) := by
  intro k' C xs hk'
  by_cases hlt : k' < h.length
  · rw [List.getElem?_append_left hlt] at hk'
    exact ht k' C xs hk'
  · rw [List.getElem?_append_right (by omega)] at hk'
    have hz : k' - h.length < 1 := (List.getElem?_eq_some_iff.mp hk').1
    rw [show k' - h.length = 0 by omega] at hk'
    cases hk'
    exact e3 C rfl
set_option maxHeartbeats 4000000 in
theorem st2_ty {ro : List (List Int32)} {K : Nat} {ini : Bool} {i : Instr} {pc : Nat} {L : AL} {S : List AV} {h : AH} {x : AR} (ht : tyO h) (e : st2 ro K ini i pc L S h = some x) : tyO (arh x) := by
  unfold st2 at e
  repeat' split at e
  all_goals first
    | (rw [nx_h e]; exact ht)
    | (rw [nx_h e]; exact ht.set (by assumption) (by first | rfl | (rename_i h1; rw [h1.1])))
    | (rw [nx_h e]; exact ht.push (fun C hC => by cases hC <;> exact an_two (by assumption)))
    | cases e
theorem stp_ty {ro : List (List Int32)} {d : Nat} {r : MR} {i : Instr} {pc : Nat} {L : AL} {S : List AV} {h : AH} {x : AR} (ht : tyO h) (e : stp ro d r i pc L S h = some x) : tyO (arh x) := by
  unfold stp at e
  split at e
  · rw [st1_h e]; exact ht
  · split at e
    · exact st2_ty ht e
    · split at e
      · rw [st3_h e]; exact ht
      · cases e
theorem run_ty (ro : List (List Int32)) : ∀ (f d j : Nat) (s : AS) (o : Option AV × AH), tyO s.2.2.2 → run ro f d j s = some o → tyO o.2 := by
  intro f
  induction f with
  | zero => intro d j s o ht e; simp [run] at e
  | succ f ih =>
    intro d j s o ht e
    rw [run] at e
    split at e
    · cases e
    · split at e
      · cases e
      · split at e
        · cases e
        · rename_i s' h1
          exact ih _ _ _ _ (stp_ty ht h1) e
        · rename_i o' h1
          cases e
          exact stp_ty ht h1
        · rename_i k as s' h1
          split at e
          · split at e
            · rename_i v h' h2
              refine ih _ _ _ _ ?_ e
              exact ih _ _ (ent _ as s'.2.2.2) (v, h') (stp_ty ht h1) h2
            · cases e
          · cases e
theorem GK.same {D : va_G} {aC : FieldType → ClassId} {b : Nat} {ra : Nat → Nat} {ro : List (List Int32)} {s : State} (h : GK D aC b ra ro s) (g : JFrame) (mk : MethodId) (a : Array Value) : GK D aC b ra ro (s.calling g mk a) := by
  obtain ⟨h1, h2, h3, h4, h5, h6, h7⟩ := h
  exact ⟨va_K.moved (u := s) (U := s.calling g mk a) (Vm.Alike.refl s.vm) h1, fun j zs hz => va_T.moved (u := s) (U := s.calling g mk a) (Vm.Alike.refl s.vm) (h2 j zs hz), va_Z.moved (u := s) (U := s.calling g mk a) (Vm.Alike.refl s.vm) h3, va_Z.moved (u := s) (U := s.calling g mk a) (Vm.Alike.refl s.vm) h4, va_AO.moved (u := s) (U := s.calling g mk a) (Vm.Alike.refl s.vm) h5, va_AO.moved (u := s) (U := s.calling g mk a) (Vm.Alike.refl s.vm) h6, fun w hw => va_Nw.same (u := s) (U := s.calling g mk a) (by rcases List.mem_filter.mp hw with ⟨-, h⟩; cases w <;> first | rfl | cases h) rfl (h7 w hw)⟩
theorem GK.moved {D : va_G} {aC : FieldType → ClassId} {b : Nat} {ra : Nat → Nat} {ro : List (List Int32)} {s U : State} {locs : List Loc} (h : GK D aC b ra ro s) (hW : s.WarmedH U.vm) (hS : va_S (Ao b) s.heap U.heap locs) : GK D aC b ra ro U := by
  obtain ⟨h1, h2, h3, h4, h5, h6, h7⟩ := h
  refine ⟨va_K.moved hW.alike h1, fun j zs hz => (va_T.kept (h2 j zs hz) hS.2.1).moved hW.alike, (va_Z.kept h3 hS.2.1).moved hW.alike, (va_Z.kept h4 hS.2.1).moved hW.alike, va_AO.moved hW.alike h5, va_AO.moved hW.alike h6, fun w hw => ?_⟩
  have hn := (List.mem_filter.mp hw).2
  cases w <;> first | exact va_Nw.warmM hW (h7 _ hw) | cases hn
/-- a method's contract at given arguments and cells -/
def Ct (l : Launch) (D : va_G) (aC : FieldType → ClassId) (b : Nat) (ra : Nat → Nat) (ro : List (List Int32)) (r : MR) (d : Nat) (as : List AV) (h : AH) (v : Option AV) (h' : AH) : Prop :=
  Met l r.1 (Cond.code r.1 r.2.1 r.2.2.1 r.2.2.2.1 :: gw) ({ frames := d, cells := h'.length - h.length, slots := slz h' - slz h, locals := 40 * d } : Room) (va_Pc (as.map (cv b ra)) (fun U => HR D aC b ra h U.heap ∧ GK D aC b ra ro U)) (fun _ st oc t => oc = .returned (v.map (cv b ra)) ∧ HR D aC b ra h' t.heap ∧ va_F (Ao b) st t) (h'.length - h.length) (slz h' - slz h) (Ao b)
theorem gw_good : ∀ w ∈ gw, w ∈ gw ∧ ((w.onTables && w.keeps) = true ∨ ∃ ty, w = .arrayClass ty) := fun w hw => ⟨hw, good_of_word (List.mem_filter.mp hw).2⟩
section SD4
variable {p : Program} {l : Launch} {e : Env} {R : Room} {s : State} {m : MethodId} {args : Array Value} {below : List Frame} {meth : Method} {c : Code} {H : Heap} {locs : List Loc} {cells slots : Nat} {Q : State → Prop}
variable {D : va_G} {aC : FieldType → ClassId} {b : Nat} {ra : Nat → Nat} {ro : List (List Int32)} {cc : ByteArray} {pc : Nat} {L : AL} {S : List AV} {h : AH} {ls : Array Slot} {i : Instr} {x : AR}
theorem ow_call {mc ms : Nat} {v : Option AV} {h' : AH} {st0 rest : List Value} (hr : va_Run p l e R s m args below meth c H locs cells slots mc ms (F0 m pc ls st0) rest (fun st oc t => oc = .returned (v.map (cv b ra)) ∧ HR D aC b ra h' t.heap ∧ va_F (Ao b) st t) (Ao b)) (hS : va_S (Ao b) s.heap H locs)
    (k : ∀ (H1 : Heap) (locs1 : List Loc), HR D aC b ra h' H1 → va_S (Ao b) s.heap H1 locs1 → W p l e R s m args below meth c H1 locs1 (cells + mc) (slots + ms) Q (F0 m (pc + 3) ls ((v.map (cv b ra)).toList ++ rest))) : W p l e R s m args below meth c H locs cells slots Q (F0 m pc ls st0) := by
  intro T hT X
  obtain ⟨v', st₀, t, T', L, h0, X', hL, e1, e2, ⟨hv, hH1, hF⟩, st⟩ := hr T hT X
  cases hv
  obtain ⟨t2, a1, b1⟩ := k T'.heap (locs ++ L) (by rw [e1]; exact hH1) ⟨Nat.le_trans hS.1 (by rw [e1, ← h0]; exact hF.1), fun q h1 h2 => by
      rw [e1, hF.2 q (by rw [h0]; exact Nat.lt_of_lt_of_le h1 hS.1) h2, h0]
      exact hS.2.1 q h1 h2, fun q hq => by
      rcases List.mem_append.mp hq with h9 | h9
      · exact hS.2.2 q h9
      · exact hL q h9⟩ T' rfl X'
  exact ⟨t2, st t2 a1, b1⟩
theorem ct_blind (as : List AV) (h : AH) : FrameBlind (va_Pc (as.map (cv b ra)) (fun U => HR D aC b ra h U.heap ∧ GK D aC b ra ro U)) := fun a U g mk hq => ⟨hq.1, hq.2.1, hq.2.2.same g mk a⟩
set_option maxHeartbeats 4000000 in
/-- a call of the small machine, its callee's contract given -/
theorem sd3 {K d : Nat} {n : String} {rt : Option FieldType} {j : Nat} {as : List AV} {pc' : Nat} {L' : AL} {S' : List AV} {h1 h' : AH} {v : Option AV} (hx : p.tables.exec = Jvm.exec) (hb : c.code = cc) (hml : c.maxLocals = L.length) (hn : kN[K]? = some n) (hown : s.vm.findClass n = some m.cls) (hts : ∀ w ∈ gw, w.before args s = true) (hG : GK D aC b ra ro s) (hS : va_S (Ao b) s.heap H locs) (hH : HR D aC b ra h H)
    (hl : LR b ra L ls) (hd : ∀ n, (kind i).2 = n → n ≠ 0 → decode cc pc = .ok (i, n)) (he : st3 (d + 1) K rt i pc L S h = some (.inr (.inl (j, as, pc', L', S', h1))))
    (hct : ∀ r, mrec j = some r → j ≠ 247 → Ct l D aC b ra ro r d as h v h')
    (hroom : cells + (h'.length - h.length) ≤ R.cells ∧ slots + (slz h' - slz h) ≤ R.slots) (hR : d + 1 ≤ R.frames ∧ 40 * (d + 1) ≤ R.locals)
    (k : ∀ H1 locs1, L' = L → h1 = h → HR D aC b ra h' H1 → va_S (Ao b) s.heap H1 locs1 → W p l e R s m args below meth c H1 locs1 (cells + (h'.length - h.length)) (slots + (slz h' - slz h)) Q (F0 m pc' ls ((v.toList ++ S').map (cv b ra)))) :
    W p l e R s m args below meth c H locs cells slots Q (F0 m pc ls (S.map (cv b ra))) := by
  have hPc : ∀ U : State, U.heap = H → s.WarmedH U.vm → va_Pc (as.map (cv b ra)) (fun U => HR D aC b ra h U.heap ∧ GK D aC b ra ro U) (as.map (cv b ra)).toArray U := fun U hU hW => ⟨rfl, by rw [hU]; exact hH, hG.moved (U := U) hW (by rw [hU]; exact hS)⟩
  have hcl : ∀ na, call pc L S h j na = some (.inr (.inl (j, as, pc', L', S', h1))) → pc' = pc + 3 ∧ L' = L ∧ h1 = h ∧ S = as.reverse ++ S' ∧ as.length = na ∧ S'.length ≤ 8 := by
    intro na hc
    unfold call at hc
    split at hc
    · rename_i hna
      simp only [Option.some.injEq, Sum.inr.injEq, Sum.inl.injEq, Prod.mk.injEq, true_and] at hc
      obtain ⟨h2, h3, h4, h5, h6⟩ := hc
      subst h2; subst h3; subst h4; subst h5; subst h6
      refine ⟨rfl, rfl, rfl, by simp, by simp; omega, hna.2⟩
    · cases hc
  have fin : ∀ (r : MR) (st0 rest : List Value), mrec j = some r → pc' = pc + 3 → L' = L → h1 = h → rest = S'.map (cv b ra) → va_Run p l e R s m args below meth c H locs cells slots (h'.length - h.length) (slz h' - slz h) (F0 m pc ls (S.map (cv b ra))) rest (fun st oc t => oc = .returned (v.map (cv b ra)) ∧ HR D aC b ra h' t.heap ∧ va_F (Ao b) st t) (Ao b) → W p l e R s m args below meth c H locs cells slots Q (F0 m pc ls (S.map (cv b ra))) := by
    intro r st0 rest hr e1 e2 e3 e4 hrun
    refine ow_call hrun hS (fun H1 locs1 g1 g2 => ?_)
    have := k H1 locs1 e2 e3 g1 g2
    rw [e1, List.map_append] at this
    rw [e4]
    cases v <;> exact this
  have room : ∀ ml, ml ≤ 20 → d + 1 ≤ R.frames ∧ 8 + (ml + 11) + 40 * d ≤ R.locals := fun ml h => ⟨hR.1, by omega⟩
  have fix : ∀ own, own = n → CallFix p m c cc L.length s args gw own := fun own ho => ⟨hx, hb, hml, by rw [ho]; exact hown, hts⟩
  have hsz : ls.size = L.length := hl.1
  have hrest : ∀ S' : List AV, S'.length ≤ 8 → 2 * (F0 m pc ls (S.map (cv b ra))).monitorRoom + ((S'.map (cv b ra)).map fun v => v.category).sum ≤ 8 := fun S' h => lv_room (by rw [cv_sum]; exact h)
  -- the words of a callee
  have wds : ∀ r, mrec j = some r → j ≠ 247 → (∀ w ∈ (Cond.code r.1 r.2.1 r.2.2.1 r.2.2.2.1 :: gw), ∀ (a' : Array Value) (U : State), s.WarmedH U.vm → w.before a' U = true) ∧ (Cond.code r.1 r.2.1 r.2.2.1 r.2.2.2.1).before args s = true ∧ (Cond.initialized r.1.cls).before args s = true := by
    intro r hr hj
    obtain ⟨q1, q2⟩ := mrec_ok hr hj
    refine ⟨fun w hw => pay_in hts gw_good w ?_, hts _ q2, hts _ (ini_ok (ckm_all q1).2.2.2.2.2.2.1)⟩
    rcases List.mem_cons.mp hw with rfl | h9
    · exact q2
    · exact h9
  unfold st3 at he
  split at he
  · -- static
    rename_i x0
    split at he
    · rename_i j0 kd po hlk
      split at he
      · split at he
        · split at he
          · cases he
          · cases he
        · cases he
      · split at he
        · rename_i hkd
          split at he
          · rename_i r hr
            have hj : j0 = j := by
              unfold call at he
              split at he
              · cases he; rfl
              · cases he
            subst hj
            have hj := inv_no hlk
            obtain ⟨e1, e2, e3, e4, e5, e6⟩ := hcl _ he
            obtain ⟨q1, q2⟩ := mrec_ok hr hj
            obtain ⟨m1, m2, m3, m4, m5, m6, m7, m8, m9⟩ := ckm_all q1
            obtain ⟨w1, w2, w3⟩ := wds r hr hj
            obtain ⟨i0, i1, -⟩ := inv_ok hlk hn hr
            have hM := hct r hr hj
            have hst : S.map (cv b ra) = (as.map (cv b ra)).reverse ++ S'.map (cv b ra) := by rw [e4, List.map_append, List.map_reverse]
            rcases hkd with rfl | rfl
            · obtain ⟨z1, z2⟩ := i0 rfl
              rw [if_pos z2] at m1 m5
              refine fin r [] _ hr e1 e2 e3 rfl (va_runS (n := r.2.2.2.2.2.1) (rest := S'.map (cv b ra)) (fix n rfl) hM ⟨⟨rfl, rfl, (room _ m9).1, (room _ m9).2, w1, List.mem_cons_self, w2, w3, m4, fun sig hs => ?_, hts _ z1⟩, hts _ m1⟩ ⟨ct_blind as h, hPc⟩ rfl (by simpa using e5) hsz hst (hrest S' e6) (hd 3 rfl (by decide)) hroom)
              rw [hs] at m5
              exact (Option.some.inj m5).symm
            · obtain ⟨z1, z2⟩ := i1 rfl
              rw [if_pos z2] at m1 m5
              refine fin r [] _ hr e1 e2 e3 rfl (va_runSN (n := r.2.2.2.2.2.1) (rest := S'.map (cv b ra)) (fix n rfl) hM ⟨⟨⟨rfl, rfl, (room _ m9).1, (room _ m9).2, w1, List.mem_cons_self⟩, w2, w3, m4, fun sig hs => ?_, va_Nw.use rfl (hG.2.2.2.2.2.2 _ z1)⟩, hts _ m1, trivial⟩ ⟨ct_blind as h, hPc⟩ rfl (by simpa using e5) hsz hst (hrest S' e6) (hd 3 rfl (by decide)) hroom)
              rw [hs] at m5
              exact (Option.some.inj m5).symm
          · cases he
        · cases he
    · cases he
  · -- virtual
    rename_i x0
    split at he
    · rename_i j0 kd po hlk
      split at he
      · rename_i hkd
        subst hkd
        split at he
        · rename_i r hr
          split at he
          · rename_i hrc
            have hj : j0 = j := by
              unfold call at he
              split at he
              · cases he; rfl
              · cases he
            subst hj
            have hj := inv_no hlk
            obtain ⟨e1, e2, e3, e4, e5, e6⟩ := hcl _ he
            obtain ⟨q1, q2⟩ := mrec_ok hr hj
            obtain ⟨m1, m2, m3, m4, m5, m6, m7, m8, m9⟩ := ckm_all q1
            obtain ⟨w1, w2, w3⟩ := wds r hr hj
            obtain ⟨-, -, i2, -⟩ := inv_ok hlk hn hr
            obtain ⟨z1, z2, z3⟩ := i2 rfl
            have has : (S.take r.2.2.2.2.2.1).reverse = as := by
              rw [e4, ← e5]
              simp
            rw [has] at hrc
            unfold rcv at hrc
            split at hrc
            · rename_i a as'
              split at hrc
              · rename_i ci fs hca
                split at hrc
                · rename_i q hq
                  have hcls := of_decide_eq_true hrc
                  have hM := hct r hr hj
                  rw [if_neg (by rw [z2]; decide)] at m1 m5
                  have hst : S.map (cv b ra) = (as'.map (cv b ra)).reverse ++ .ref (b + a) :: S'.map (cv b ra) := by
                    rw [e4, List.map_append, List.map_reverse]
                    simp [cv]
                  have hlen : (as'.map (cv b ra)).length = r.2.2.2.2.2.1 - 1 := by
                    rw [← e5]; simp
                  refine fin r [] _ hr e1 e2 e3 rfl (va_runV (C := r.1.cls) (n := r.2.2.2.2.2.1 - 1) (b := b + a) (As := as'.map (cv b ra)) (rest := S'.map (cv b ra)) (fix n rfl) hM ⟨⟨rfl, rfl, (room _ m9).1, (room _ m9).2, w1, List.mem_cons_self, w2, w3, m4, fun sig hs => ?_, hts _ z1⟩, hts _ m1, hts _ (m2.resolve_left z3)⟩ ⟨ct_blind _ h, ?_, hPc⟩ rfl hlen hsz hst (hrest S' e6) (hd 3 rfl (by decide)) hroom)
                  · rw [hs] at m5
                    exact (Option.some.inj m5).symm
                  · have := va_recv (hG.1) hH.2 hq (wsO_get hca)
                    rw [hcls] at this
                    exact this
                · cases hrc
              · cases hrc
            · cases hrc
          · cases he
        · cases he
      · cases he
    · cases he
  · -- special
    rename_i x0
    split at he
    · split at he
      · split at he
        · cases he
        · cases he
      · cases he
    · split at he
      · rename_i j0 kd po hlk
        split at he
        · rename_i hkd
          split at he
          · rename_i r hr
            split at he
            · rename_i hrc
              have hj : j0 = j := by
                unfold call at he
                split at he
                · cases he; rfl
                · cases he
              subst hj
              have hj := inv_no hlk
              obtain ⟨e1, e2, e3, e4, e5, e6⟩ := hcl _ he
              obtain ⟨q1, q2⟩ := mrec_ok hr hj
              obtain ⟨m1, m2, m3, m4, m5, m6, m7, m8, m9⟩ := ckm_all q1
              obtain ⟨w1, w2, w3⟩ := wds r hr hj
              obtain ⟨-, -, -, i4, i5⟩ := inv_ok hlk hn hr
              have has : (S.take r.2.2.2.2.2.1).reverse = as := by
                rw [e4, ← e5]
                simp
              rw [has] at hrc
              unfold rcvN at hrc
              split at hrc
              · rename_i a as'
                have hM := hct r hr hj
                have hst : S.map (cv b ra) = (as'.map (cv b ra)).reverse ++ .ref (b + a) :: S'.map (cv b ra) := by
                  rw [e4, List.map_append, List.map_reverse]
                  simp [cv]
                have hlen : (as'.map (cv b ra)).length = r.2.2.2.2.2.1 - 1 := by
                  rw [← e5]; simp
                rcases hkd with rfl | rfl
                · obtain ⟨z1, z2, z3, z4⟩ := i4 rfl
                  rw [if_neg (by rw [z2]; decide)] at m1 m5
                  unfold Ct at hM
                  rw [z4] at hM w1 w2
                  refine fin r [] _ hr e1 e2 e3 rfl (va_runI (n := r.2.2.2.2.2.1 - 1) (b := b + a) (As := as'.map (cv b ra)) (rest := S'.map (cv b ra)) (fix n rfl) hM ⟨⟨rfl, rfl, (room _ m9).1, (room _ m9).2, w1, List.mem_cons_self, w2, w3, m4, fun sig hs => ?_, hts _ z1⟩, z3, hts _ m1⟩ ⟨ct_blind _ h, hPc⟩ rfl hlen hsz hst (hrest S' e6) (hd 3 rfl (by decide)) hroom)
                  rw [hs] at m5
                  exact (Option.some.inj m5).symm
                · obtain ⟨z1, z2, z3, z4⟩ := i5 rfl
                  rw [if_neg (by rw [z2]; decide)] at m1 m5
                  unfold Ct at hM
                  rw [z4] at hM w1 w2
                  refine fin r [] _ hr e1 e2 e3 rfl (va_runIN (n := r.2.2.2.2.2.1 - 1) (b := b + a) (As := as'.map (cv b ra)) (rest := S'.map (cv b ra)) (fix n rfl) hM ⟨⟨⟨rfl, rfl, (room _ m9).1, (room _ m9).2, w1, List.mem_cons_self⟩, w2, w3, m4, fun sig hs => ?_, va_Nw.use rfl (hG.2.2.2.2.2.2 _ z1)⟩, z3, hts _ m1⟩ ⟨ct_blind _ h, hPc⟩ rfl hlen hsz hst (hrest S' e6) (hd 3 rfl (by decide)) hroom)
                  rw [hs] at m5
                  exact (Option.some.inj m5).symm
              · cases hrc
            · cases he
          · cases he
        · cases he
      · cases he
  · repeat' split at he
    all_goals cases he
  · repeat' split at he
    all_goals cases he
  · repeat' split at he
    all_goals cases he
  · cases he
end SD4
