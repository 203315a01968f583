/-! THE CLAIM OUT OF A RUN OF THE SMALL MACHINE: rows of the skeleton behind its PART A, with whole_start proved -/
def R_law : String := "ChoirBookLaw"
def lw_P (b : Addr) (xs : List Int32) (args : Array Value) (s : State) : Prop := args = #[.ref b] ∧ s.IntsAt b xs ∧ xs.length ≤ 3584 ∧ (Jvm.Cond.and given_1 narrow_1).before args s = true
def lw_Q (_ : Array Value) (s : State) (o : Outcome) (t : State) : Prop := o = .returned (some (.int 1)) ∧ Framed s o t [] 600000 7302250
def lw_Z (below : List Frame) (a : Array Value) (s : State) : State → Prop := fun t => ∃ o, t.status = .running ∧ Ended t below o ∧ lw_Q a s o t
/-- the law's own end, with 1 on the stack, nothing written that was there before, its room as the claim has it -/
theorem lw_ret {p : Program} {l : Launch} {e : Env} {s : State} {m : MethodId} {below : List Frame} {meth : Method} {c : Code} {b : Nat} (hx : p.tables.exec = Jvm.exec) (hb : c.code = code) (hr : meth.sig.returnType = ret) (hlocks : meth.locks = false) {pc : Nat} {H : Heap} {ls : Array Slot} (hdg : decode code pc = .ok (.ireturn, 1)) : W p l e room_1 s m #[Value.ref b] below meth c H [] 600000 7302250 (lw_Z below #[Value.ref b] s) (F0 m pc ls [.int 1]) := by
  intro T hT X
  obtain ⟨fs, hret, hrun, hended, hW, hframe⟩ := X.leave (v := some (.int 1)) (hlocks := hlocks) (fun h => by rw [hr] at h; cases h)
  have hmeth' : T.vm.method? m = some meth := X.method'
  refine ⟨T.setFrames fs, ?_, .returned (some (.int 1)), hrun, hended, rfl, ⟨_, rfl⟩, hW, hframe⟩
  jvm_step X.here [X.here.top, hx, hb, hdg, hmeth', hr, ret, narrow_b1]
  (try refine ⟨rfl, ?_⟩); (try refine ⟨rfl, ?_⟩)
  first | (intro acts; rw [hret _ acts rfl rfl rfl]) | rw [hret _ _ rfl rfl rfl]
  exact Steps.refl _
/-- what holds at the law's entry: the machine, the code, the tables' words (any of lw_tbl by 'hts w (by decide +kernel)'), the script of L ints xs at the cell b, what the Statement gives of the start (any of its parts by flat_of_before) -/
def lw_At (p : Program) (s : State) (m : MethodId) (meth : Method) (c : Code) (b L : Nat) (xs : Nat → Int32) : Prop :=
  p.tables.exec = Jvm.exec ∧ c.code = code ∧ meth.sig.returnType = ret ∧ c.maxLocals = 4 ∧ s.vm.findClass R_law = some m.cls ∧ (∀ w ∈ lw_tbl, w.before #[Value.ref b] s = true) ∧ va_X b L xs s s.heap ∧ b < s.heap.size ∧ meth.locks = false ∧ (Jvm.Cond.and given_1 narrow_1).before #[Value.ref b] s = true

theorem inst_ok {ci : Nat} {q : vw_C} (hq : kCl[ci]? = some q) : (.instantiable q.1 q.2.2 : Cond) ∈ gw := by
  have h : kCl.all (fun q => gw.any (fun w => decide (w = .instantiable q.1 q.2.2))) = true := by decide +kernel
  have h1 := List.all_eq_true.mp h q (List.mem_of_getElem? hq)
  obtain ⟨w, hw, he⟩ := List.any_eq_true.mp h1
  have := of_decide_eq_true he
  subst this
  exact hw
theorem law_table {args : Array Value} {s : State} (n : String) (l : List Int32) (hl : l.length = 12) (harr : (Cond.arrayOf (.static "ChoirBook$Days" n "[I") .int).before args s = true) (hlen : (Cond.eq (.length (.static "ChoirBook$Days" n "[I")) (.int 12)).before args s = true) (hel : ∀ j : Nat, j < 12 → (Cond.eq (.elem (.static "ChoirBook$Days" n "[I") (.int (Int32.ofNat j))) (.int (l.getD j 0))).before args s = true) (hw : (Cond.laysStatic "ChoirBook$Days" n "[I").before args s = true) (hini : (Cond.initialized "ChoirBook$Days").before args s = true) : ∃ t : Nat, va_T .int t l.length (fun i => .int (l.getD i 0)) (Ao s.heap.size) s s.heap ∧ va_Z "ChoirBook$Days" n "[I" (.ref t) (Ao s.heap.size) s s.heap := by
  have hA : ∀ a : Nat, a < s.heap.size → ¬ Ao s.heap.size a := fun a h1 h2 => Nat.not_le.mpr h1 h2
  obtain ⟨t, h1, h2⟩ := va_Tof (N := l.length) (f := fun i => .int (l.getD i 0)) (by rw [hl]; decide) harr (by rw [hl]; exact va_eqt hlen) (fun j hj => va_eqt (hel j (by omega))) hA
  exact ⟨t, h2, va_Zof hw hini h1 hA⟩
set_option maxRecDepth 100000 in
theorem law_ML {b : Nat} {s : State} (hs : ∀ c ∈ flatC (Jvm.Cond.and given_1 narrow_1), c.before #[Value.ref b] s = true) : ∀ j : Nat, j < 12 → (Cond.eq (.elem (.static "ChoirBook$Days" "MONTH_LENGTHS" "[I") (.int (Int32.ofNat j))) (.int (ML.getD j 0))).before #[Value.ref b] s = true := by
  intro j hj
  refine hs _ ?_
  have h : ∀ j, j < 12 → (Cond.eq (.elem (.static "ChoirBook$Days" "MONTH_LENGTHS" "[I") (.int (Int32.ofNat j))) (.int (ML.getD j 0)) : Cond) ∈ flatC (Jvm.Cond.and given_1 narrow_1) := by decide +kernel
  exact h j hj
set_option maxRecDepth 100000 in
theorem law_MS {b : Nat} {s : State} (hs : ∀ c ∈ flatC (Jvm.Cond.and given_1 narrow_1), c.before #[Value.ref b] s = true) : ∀ j : Nat, j < 12 → (Cond.eq (.elem (.static "ChoirBook$Days" "MONTH_STARTS" "[I") (.int (Int32.ofNat j))) (.int (MS.getD j 0))).before #[Value.ref b] s = true := by
  intro j hj
  refine hs _ ?_
  have h : ∀ j, j < 12 → (Cond.eq (.elem (.static "ChoirBook$Days" "MONTH_STARTS" "[I") (.int (Int32.ofNat j))) (.int (MS.getD j 0)) : Cond) ∈ flatC (Jvm.Cond.and given_1 narrow_1) := by decide +kernel
  exact h j hj
set_option maxHeartbeats 4000000 in
/-- from the entry, for every script of at most 3584 ints, the law comes to its end with true -/
theorem whole_start {p : Program} {e : Env} {s : State} {m : MethodId} {below : List Frame} {meth : Method} {c : Code} (l : Launch) (hflags : l.flags = flags0) {b L : Nat} {xs : Nat → Int32} (hL : L ≤ 3584) (C0 : lw_At p s m meth c b L xs) : W p l e room_1 s m #[Value.ref b] below meth c s.heap [] 0 0 (lw_Z below #[Value.ref b] s) (entryFrame m ([Value.ref b] : List Value).toArray 4) := by
  obtain ⟨hx, hb, hr, hml, hown, hts0, hX, hbl, hlocks, hgv⟩ := C0
  have hts : ∀ w ∈ gw, w.before #[Value.ref b] s = true := fun w hw => hts0 w (List.mem_filter.mp hw).1
  have hs := flat_of_before _ hgv
  have hcl : ∀ ci : Nat, ∃ z : ClassId × (Nat → Nat), ∀ q, kCl[ci]? = some q → u_Kn s q.1 q.2.1 q.2.2 z.1 z.2 := by
    intro ci
    cases hq : kCl[ci]? with
    | none => exact ⟨(m.cls, fun _ => 0), fun q h => by cases h⟩
    | some q =>
      obtain ⟨ty, ht⟩ := kTy_of hq
      obtain ⟨cC, iS, hk⟩ := u_known hts (kc_ok hq ht).1 (hts _ (inst_ok hq))
      exact ⟨(cC, iS), fun q' h => by cases h; exact hk⟩
  obtain ⟨g, hg⟩ := Classical.axiomOfChoice hcl
  have har : ∀ ty : FieldType, ∃ cA : ClassId, ty ∈ [FieldType.int, .boolean, tT, tV] → ArrOfT s cA ty ∧ va_RA s cA ty := by
    intro ty
    by_cases h0 : ty = .int
    · subst h0
      obtain ⟨cA, kA, comp, h1, h2, h3⟩ := Cond.arrayClass_spec (hts _ (ckw_in ck_arr.2.1))
      exact ⟨cA, fun _ => ⟨fun n z => ⟨fun k h => (by cases h), kA, h2, comp, h3⟩, h1⟩⟩
    · by_cases h1 : ty = .boolean
      · subst h1
        obtain ⟨cA, kA, comp, h1, h2, h3⟩ := Cond.arrayClass_spec (hts _ (ckw_in ck_arr.1))
        exact ⟨cA, fun _ => ⟨fun n z => ⟨fun k h => (by cases h), kA, h2, comp, h3⟩, h1⟩⟩
      · have over : ∀ C : String, (Cond.arrayOver (.object C)).before #[Value.ref b] s = true → ∃ cA : ClassId, ArrOfT s cA (.object C) ∧ va_RA s cA (.object C) := by
          intro C hC
          obtain ⟨comp, cA, kA, f1, f2, f3, f4, f5⟩ := Cond.arrayOver_spec hC
          exact ⟨cA, fun n z => ⟨fun k h => (by cases h), kA, f3, comp, f4⟩, kA, comp, f3, f4, f1, f5⟩
        by_cases h2 : ty = tT
        · subst h2
          obtain ⟨cA, h3⟩ := over "ChoirBook$Tone" (hts0 _ (ckn_in (i := 225) (by decide +kernel)))
          exact ⟨cA, fun _ => h3⟩
        · by_cases h3 : ty = tV
          · subst h3
            obtain ⟨cA, h4⟩ := over "ChoirBook$Verse" (hts0 _ (ckn_in (i := 267) (by decide +kernel)))
            exact ⟨cA, fun _ => h4⟩
          · exact ⟨m.cls, fun h => by simp [h0, h1, h2, h3] at h⟩
  obtain ⟨aC, haC⟩ := Classical.axiomOfChoice har
  obtain ⟨t1, hT1, hZ1⟩ := law_table "MONTH_LENGTHS" ML rfl (hs _ (by decide +kernel)) (hs _ (by decide +kernel)) (law_ML hs) (hts0 _ (ckn_in ck_arr.2.2.2)) (hts _ (ini_ok (K := 3) rfl))
  obtain ⟨t2, hT2, hZ2⟩ := law_table "MONTH_STARTS" MS rfl (hs _ (by decide +kernel)) (hs _ (by decide +kernel)) (law_MS hs) (hts0 _ (ckn_in ck_arr.2.2.1)) (hts _ (ini_ok (K := 3) rfl))
  have hzl : ((List.range L).map xs).length = L := by simp
  obtain ⟨f, h', hrun, hc1, hc2⟩ := pure_goal ((List.range L).map xs) (by rw [hzl]; exact hL)
  have hG : GK ((fun k => (g k).1, fun k => (g k).2) : va_G) aC s.heap.size (fun j => if j = 0 then b else if j = 1 then t1 else t2) [(List.range L).map xs, ML, MS] s := by
    refine ⟨⟨fun c q hq => hg c q hq, fun k q hk => ?_⟩, fun j zs hz => ?_, hZ1, hZ2, va_AO.of (hts0 _ (ckn_in (i := 225) (by decide +kernel))), va_AO.of (hts0 _ (ckn_in (i := 267) (by decide +kernel))), fun w hw => ?_⟩
    · match k, hk with
      | 0, hk => cases hk; exact haC .int (by simp)
      | 1, hk => cases hk; exact haC .boolean (by simp)
      | 2, hk => cases hk; exact haC tT (by simp)
      | 3, hk => cases hk; exact haC tV (by simp)
      | k + 4, hk => simp [tysO] at hk
    · match j, hz with
      | 0, hz =>
        cases hz
        obtain ⟨scr, q1, q2, q3, q4, q5⟩ := hX
        refine ⟨scr, q1, q2, q3, by rw [hzl, q4]; exact Nat.le_refl _, by rw [hzl, q4] <;> rfl, fun j hj => ?_, Nat.not_le.mpr hbl⟩
        rw [hzl] at hj
        rw [q5 j hj]
        simp [List.getD_eq_getElem?_getD, hj]
      | 1, hz => cases hz; exact hT1
      | 2, hz => cases hz; exact hT2
      | j + 3, hz => simp at hz
    · obtain ⟨h1, h2⟩ := List.mem_filter.mp hw
      cases w <;> first | exact va_Nw.of rfl (hts0 _ h1) | cases h2
  have hl := lv_entry ([.ref b]) (n := 4) (Nat.le_of_ble_eq_true rfl)
  rw [lg_entry_eq]
  generalize (lg_sl ([.ref b]) ++ List.replicate (4 - (lg_sl ([.ref b])).length) Slot.unset).toArray = ls at hl ⊢
  refine snd_all _ f 9 247 0 [some (.inr (.inr 0)), none, none, none] [] [] (some (.inl 1)) h' r_Law_law hrun rfl rfl (fun k C xs h => by simp at h) rfl (R := room_1) (s := s) (locs := []) 0 0 hx hb hml hown (fun q => absurd q (by decide)) hts hG va_S.rf ⟨rfl, fun k q hk => by simp [wsO] at hk⟩ hl ⟨by decide, by decide, hc1, hc2, Nat.le_refl _, Nat.le_refl _⟩ ?_
  intro H1 locs1 ls1 pc1 i hk hdg hH1 hS1
  obtain ⟨rfl, -⟩ := hk
  exact va_forget (fun q hq => hS1.2.2 q hq) (W.widen (k := 600000) (n := 7302250) hc1 hc2 (lw_ret hx hb hr hlocks hdg))
set_option maxHeartbeats 4000000 in
theorem lw_walk (l : Launch) (hflags : l.flags = flags0) (b : Addr) (xs : List Int32) : MetFree l x (headSpec (Jvm.Cond.code x code maxLocals ret :: tables_1) room_1) (lw_P b xs) (fun _ _ _ _ _ => True) lw_Q := by
  refine MetFree.of_bodyS (code := code) (maxLocals := maxLocals) (ret := ret) (by decide) ?_ ?_
  · intro args s m h hn
    obtain ⟨meth, c, h1, h2, h3, h4, h5, h6, -, -⟩ := Cond.code_spec hn (atoms_spec (ws := Jvm.Cond.code x code maxLocals ret :: tables_1) h _ List.mem_cons_self)
    exact ⟨meth, c, h1, h2, h3, h4, h5, h6⟩
  · intro p e s m args below meth c s₁ B hml0 hP _
    obtain ⟨rfl, hx, hbd, hgv⟩ := hP
    obtain ⟨scr, harrAt, hlist, hof, hsmall⟩ := hx
    obtain ⟨hcb, hkn, -, -⟩ := State.arrayAt?_spec harrAt
    have hown : s.vm.findClass R_law = some m.cls := findClass_of_methodNamed B.named
    have hts0 : ∀ c ∈ (Jvm.Cond.code x code maxLocals ret :: tables_1), c.before #[Value.ref b] s = true := atoms_spec (ws := Jvm.Cond.code x code maxLocals ret :: tables_1) B.pre
    have hts : ∀ w ∈ lw_tbl, w.before #[Value.ref b] s = true := k2_hts_sels lw_privs (fun w hw => hts0 w (List.mem_cons_of_mem _ hw)) lw_privs_ok
    have hml : c.maxLocals = 4 := B.maxLocals_eq (hts0 _ List.mem_cons_self)
    have X₀ : Stand p l e room_1 s m #[Value.ref b] below meth c s₁ [] 0 0 := Stand.of_body B
    have hh0 : s₁.heap = s.heap := by rw [B.state]; rfl
    have hsz : scr.slots.size = xs.length := by rw [← Array.length_toList, hlist, List.length_map]
    have hval : ∀ j : Nat, j < xs.length → scr.slots[j]? = some (.int (xs.getD j 0)) := fun j hj => by
      rw [← Array.getElem?_toList, hlist]
      simp [hj]
    have hbl : b < s.heap.size := (Array.getElem?_eq_some_iff.mp hcb).1
    have hX : va_X b xs.length (fun j => xs.getD j 0) s s.heap := ⟨scr, hcb, hof, hkn, hsz, hval⟩
    have K : W p l e room_1 s m #[Value.ref b] below meth c s₁.heap [] 0 0 (lw_Z below #[Value.ref b] s) (entryFrame m ([Value.ref b] : List Value).toArray 4) := by
      rw [hh0]
      exact whole_start l hflags hbd ⟨B.exec, B.bytes, B.returns, hml, hown, hts, hX, hbl, B.notSynchronized, hgv⟩
    obtain ⟨t, a1, o, b1, b2, b3⟩ := K s₁ rfl X₀
    exact ⟨t, o, a1, b1, b2, b3⟩
theorem lw_pre_spec {args : Array Value} {s : State} (h : (Jvm.Cond.and given_1 narrow_1).before args s = true) (hr : rest_1_c.before args s = true) : ∃ (b : Addr) (xs : List Int32), lw_P b xs args s := by
  have hs := flat_of_before _ h
  have hq := flat_of_before _ hr
  have hc : (Cond.count 1).before args s = true := hs _ (by decide +kernel)
  have harr : (Cond.arrayOf (.arg 0) .int).before args s = true := hs _ (by decide +kernel)
  have hle : (Cond.le (.length (.arg 0)) (.int 3584)).before args s = true := hs _ (by decide +kernel)
  have hlen : (Cond.isInt (.length (.arg 0))).before args s = true := hq _ (by decide +kernel)
  have hall : (Cond.all (.arg 0) (.isInt (.elem (.arg 0) (.index 0)))).before args s = true := hq _ (by decide +kernel)
  obtain ⟨b, xs, hb, hx⟩ := State.ints_of_pre rfl harr hlen hall
  have hsm : xs.length < 2 ^ 31 := hx.choose_spec.2.2.2
  have hev : (Term.length (.arg 0)).eval args s none [] s = some (.int xs.length.toInt32) := hx.length_eval hb
  have hv := Cond.le_ints hev (show (Term.int 3584).eval args s none [] s = some (.int 3584) from rfl)
  have hd : xs.length.toInt32 ≤ 3584 := by
    simpa [Cond.before, Cond.holds, hv] using hle
  have hN : xs.length ≤ 3584 := (Int32.ofNat_le_ofNat hsm (by decide)).mp (show Int32.ofNat xs.length ≤ Int32.ofNat 3584 from hd)
  exact ⟨b, xs, Cond.one_arg hc (show args[0]? = some (.ref b) from hb), hx, hN, h⟩
theorem lw_comes (l : Launch) (hflags : l.flags = flags0) : Comes l x (Jvm.Cond.code x code maxLocals ret :: tables_1) room_1 (fun tb e args s => Calls_1 tb e args s ∧ rest_1 tb e args s ∧ Pre_1 tb e args s)
    (fun _ _ args s o t => lw_Q args s o t) := by
  intro p e ha hc hk s m args below hf hfit hheap happ hpre
  obtain ⟨b, xs, hP⟩ := lw_pre_spec hpre.2.2 hpre.2.1
  obtain ⟨k, o, h1, h2, h3, hQ⟩ := lw_walk l hflags b xs p e ha hc hk s m args below hf ((Spec.applies_iff_loose hf).mp happ).1 hP trivial
  exact ⟨k, o, h1, h2, h3, hQ⟩
theorem lw_frame {s t : State} {o : Outcome} {args : Array Value} (h : Framed s o t [] 600000 7302250) :
    Framed s o t (fieldLocs frame_1_writes args s ++ arrayLocs frame_1_arrays args s ++ staticLocs frame_1_statics s) 600000 7302250 := h
theorem lw_limb (L : Cond) (hL : ∀ (args : Array Value) (s t : State), L.after args s (.returned (some (.int 1))) t = true) :
    ArmFor flags0 classFile x code maxLocals ret World_1 tables_1 room_1 Calls_1 rest_1 Pre_1
      (fun tb e a s o t => postC L tb e a s o t ∧ Framed s o t (fieldLocs frame_1_writes a s ++ arrayLocs frame_1_arrays a s ++ staticLocs frame_1_statics s) 600000 7302250) := by
  intro l hflags _ _ p e ha hc hk s m args below hf hfit hheap happ hpre
  obtain ⟨k, o, h1, h2, h3, rfl, hF⟩ := lw_comes l hflags p e ha hc hk s m args below hf hfit hheap happ hpre
  exact ⟨k, _, h1, h2, h3, hL args s _, lw_frame hF⟩
theorem i_vc : Claimed_1_1 ∧ Claimed_1_2 := ⟨lw_limb limb_1_1 (fun args s t => by simp [limb_1_1, Cond.after, Cond.holds, Cond.value]), lw_limb limb_1_2 (fun args s t => Cond.after_iff.mpr (by
  first | (rw [show limb_1_2 = Cond.eq .result (.int 1) from rfl, Cond.eq_ints (x := 1) (y := 1) rfl rfl]; simp; done) | (simp [limb_1_2, Cond.value, Term.eval]; done)))⟩
