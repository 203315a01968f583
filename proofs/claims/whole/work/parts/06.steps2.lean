/-! Steps that read, write and make cells: all of them -/
section SD3
variable {p : Program} {l : Launch} {e : Env} {R : Room} {s : State} {m : MethodId} {args : Array Value} {below : List Frame} {meth : Method} {c : Code} {H : Heap} {locs : List Loc} {cells slots : Nat} {Q : State → Prop}
variable {D : va_G} {aC : FieldType → ClassId} {b : Nat} {ra : Nat → Nat} {ro : List (List Int32)} {cc : ByteArray} {pc : Nat} {L : AL} {S : List AV} {h : AH} {ls : Array Slot} {i : Instr} {x : AR}
theorem tys_int {s : State} (hK : va_K D kCl (tysO aC) s) (n : Nat) (z : Nat → Value) : s.isArrayOf (arrV (aC .int) n z) .int := (hK.2 0 _ rfl).1 n z
theorem tys_bool {s : State} (hK : va_K D kCl (tysO aC) s) (n : Nat) (z : Nat → Value) : s.isArrayOf (arrV (aC .boolean) n z) .boolean := (hK.2 1 _ rfl).1 n z
/-- an array that holds objects of a class is of one of the two types -/
def tyO (h : AH) : Prop := ∀ (k : Nat) (C : String) (xs : List AV), h[k]? = some (.inr (.object C), xs) → C = "ChoirBook$Tone" ∨ C = "ChoirBook$Verse"
theorem nx_iff {pc : Nat} {L : AL} {S : List AV} {h : AH} {x : AR} (e : nx pc L S h = some x) : x = .inl (pc, L, S, h) := nx_e e
set_option maxHeartbeats 4000000 in
theorem sd2 {K : Nat} {n : String} {ini : Bool} (hx : p.tables.exec = Jvm.exec) (hb : c.code = cc) (hn : kN[K]? = some n) (hown : s.vm.findClass n = some m.cls) (hini : ini = true → meth.name = "<init>") (hts : ∀ w ∈ gw, w.before args s = true) (hG : GK D aC b ra ro s) (hS : va_S (Ao b) s.heap H locs) (hH : HR D aC b ra h H) (hty : tyO h)
    (hl : LR b ra L ls) (hd : ∀ n, (kind i).2 = n → n ≠ 0 → decode cc pc = .ok (i, n)) (he : st2 ro K ini i pc L S h = some x)
    (hroom : cells + ((arh x).length - h.length) ≤ R.cells ∧ slots + (slz (arh x) - slz h) ≤ R.slots)
    (k : ∀ pc' L' S' h' H1 locs1 ls', x = .inl (pc', L', S', h') → L'.length = L.length → tyO h' → LR b ra L' ls' → HR D aC b ra h' H1 → va_S (Ao b) s.heap H1 locs1 → W p l e R s m args below meth c H1 locs1 (cells + (h'.length - h.length)) (slots + (slz h' - slz h)) Q (F0 m pc' ls' (S'.map (cv b ra)))) :
    W p l e R s m args below meth c H locs cells slots Q (F0 m pc ls (S.map (cv b ra))) := by
  obtain ⟨hK, hro, hz1, hz2, ha1, ha2, hnw⟩ := id hG
  have k0 : ∀ pc' S' ls', x = .inl (pc', L, S', h) → LR b ra L ls' → W p l e R s m args below meth c H locs cells slots Q (F0 m pc' ls' (S'.map (cv b ra))) := by
    intro pc' S' ls' e1 e2
    have := k pc' L S' h H locs ls' e1 rfl hty e2 hH hS
    rw [Nat.sub_self, Nat.sub_self] at this
    exact this
  have k1 : ∀ (a : Nat) (c0 c1 : AC) pc' S' H1 locs1, x = .inl (pc', L, S', h.set a c1) → h[a]? = some c0 → c1.1 = c0.1 → c1.2.length = c0.2.length → HR D aC b ra (h.set a c1) H1 → va_S (Ao b) s.heap H1 locs1 → W p l e R s m args below meth c H1 locs1 cells slots Q (F0 m pc' ls (S'.map (cv b ra))) := by
    intro a c0 c1 pc' S' H1 locs1 e1 e2 e3 e4 e5 e6
    have ht : tyO (h.set a c1) := by
      intro k' C xs hk'
      by_cases hka : a = k'
      · subst hka
        have hlt : a < h.length := (List.getElem?_eq_some_iff.mp e2).1
        rw [List.getElem?_set_self hlt] at hk'
        cases hk'
        exact hty a C c0.2 (by rw [e2, show c0 = (c0.1, c0.2) from rfl, ← e3])
      · rw [List.getElem?_set_ne hka] at hk'
        exact hty k' C xs hk'
    have := k pc' L S' _ H1 locs1 ls e1 rfl ht hl e5 e6
    rw [slz_set e2 e4, List.length_set, Nat.sub_self, Nat.sub_self] at this
    exact this
  have k2 : ∀ (c1 : AC) pc' S' H1 locs1 N, x = .inl (pc', L, S', h ++ [c1]) → c1.2.length = N → (∀ C, c1.1 = .inr (.object C) → C = "ChoirBook$Tone" ∨ C = "ChoirBook$Verse") → HR D aC b ra (h ++ [c1]) H1 → va_S (Ao b) s.heap H1 locs1 → W p l e R s m args below meth c H1 locs1 (cells + 1) (slots + N) Q (F0 m pc' ls (S'.map (cv b ra))) := by
    intro c1 pc' S' H1 locs1 N e1 e2 e3 e5 e6
    have ht : tyO (h ++ [c1]) := by
      intro k' C xs hk'
      by_cases hlt : k' < h.length
      · rw [List.getElem?_append_left hlt] at hk'
        exact hty k' C xs hk'
      · rw [List.getElem?_append_right (by omega)] at hk'
        have hz : k' - h.length < 1 := (List.getElem?_eq_some_iff.mp hk').1
        rw [show k' - h.length = 0 by omega] at hk'
        cases hk'
        exact e3 C rfl
    have := k pc' L S' _ H1 locs1 ls e1 rfl ht hl e5 e6
    have z1 : (h ++ [c1]).length - h.length = 1 := by simp
    have z2 : slz (h ++ [c1]) - slz h = N := by rw [slz_app, ← e2]; simp [slz]
    rw [z1, z2] at this
    exact this
  have r2 : ∀ (c1 : AC) pc' S' N, x = .inl (pc', L, S', h ++ [c1]) → c1.2.length = N → cells + 1 ≤ R.cells ∧ slots + N ≤ R.slots := by
    intro c1 pc' S' N e1 e2
    subst e1
    have z1 : (h ++ [c1]).length - h.length = 1 := by simp
    have z2 : slz (h ++ [c1]) - slz h = N := by rw [slz_app, ← e2]; simp [slz]
    have := hroom
    rw [show arh (.inl (pc', L, S', h ++ [c1])) = h ++ [c1] from rfl, z1, z2] at this
    exact this
  have hS1 : ∀ (H1 : Heap), H1.size = H.size + 1 → (∀ q, q < H.size → H1[q]? = H[q]?) → va_S (Ao b) s.heap H1 locs := fun H1 z1 o1 => ⟨Nat.le_trans hS.1 (by omega), fun q h1 h2 => (o1 q (Nat.lt_of_lt_of_le h1 hS.1)).trans (hS.2.1 q h1 h2), hS.2.2⟩
  unfold st2 at he
  split at he
  · -- getfield
    rename_i a S0
    split at he
    · rename_i ci kf po c0 fs hlk hc
      split at he
      · rename_i hcc
        subst hcc
        split at he
        · rename_i v hv
          obtain ⟨r, h1, -⟩ := hH.2 a _ (wsO_get hc)
          have hq : kCl[c0]? = some (r.1, r.2.1, r.2.2) := h1
          obtain ⟨ty, ht⟩ := kTy_of hq
          obtain ⟨hw, hkq⟩ := fld_ok hlk hn hq
          exact va_get (v := cv b ra v) hx hb hts (kc_ok hq ht).1 hown hK hH.2 a (wsO_get hc) hq kf hkq (hts _ hw) (fun _ h9 => h9) (by rw [List.getElem?_map, hv]; rfl) (hd 3 rfl (by decide)) (k0 _ (v :: S0) _ (nx_e he) hl)
        · cases he
      · cases he
    · cases he
  · -- putfield
    rename_i v a S0
    split at he
    · rename_i ci kf po c0 fs hlk hc
      split at he
      · rename_i hcc
        obtain ⟨rfl, hkl⟩ := hcc
        split at he
        · rename_i q ty hq ht
          split at he
          · rename_i hf
            obtain ⟨hw, hkq⟩ := fld_ok hlk hn hq
            refine ow_put hx hb hts hown hK hH hS hc hq ht hkq hkl (hts _ hw) hf.1 ?_ (hd 3 rfl (by decide)) (fun H1 locs1 g1 g2 => k1 a _ _ _ _ H1 locs1 (nx_e he) hc rfl (by simp) g1 g2)
            rcases hf.2 with h1 | ⟨h1, h2⟩
            · exact Or.inl h1
            · exact Or.inr ⟨hini h1, Option.some.inj (hn.symm.trans h2)⟩
          · cases he
        · cases he
      · cases he
    · cases he
  · -- getstatic
    split at he
    · rename_i j po hlk
      obtain ⟨hw, hj⟩ := gs_ok hlk hn
      rcases hj with rfl | rfl
      · exact va_gets (v := .ref (ra 1)) hx hb hz1 hS hown (hts _ hw) (fun _ h9 => h9) (hd 3 rfl (by decide)) (k0 _ (.inr (.inr 1) :: S) _ (nx_e he) hl)
      · exact va_gets (v := .ref (ra 2)) hx hb hz2 hS hown (hts _ hw) (fun _ h9 => h9) (hd 3 rfl (by decide)) (k0 _ (.inr (.inr 2) :: S) _ (nx_e he) hl)
    · cases he
  · -- iaload
    rename_i j a S0
    split at he
    · rename_i xs hc
      split at he
      · cases he
      · rename_i hin
        exact va_iald hx hb hK hH.2 a 0 (wsO_get hc) rfl hin (hd 1 rfl (by decide)) (k0 _ (.inl _ :: S0) _ (nx_e he) hl)
    · cases he
  · -- iaload, a table
    rename_i j a S0
    split at he
    · rename_i zs hc
      split at he
      · cases he
      · rename_i hin
        exact va_ti hx hb (hro _ _ hc) hS hin rfl (hd 1 rfl (by decide)) (k0 _ (.inl _ :: S0) _ (nx_e he) hl)
    · cases he
  · -- baload
    rename_i j a S0
    split at he
    · rename_i xs hc
      split at he
      · cases he
      · rename_i hin
        exact va_zald hx hb hK hH.2 a 1 (wsO_get hc) rfl hin (hd 1 rfl (by decide)) (k0 _ (.inl _ :: S0) _ (nx_e he) hl)
    · cases he
  · -- aaload
    rename_i j a S0
    split at he
    · rename_i C xs hc
      split at he
      · cases he
      · rename_i hin
        have hrf : ∀ o : Option Nat, va_rf (o.map (b + ·)) = cv b ra (.inr (.inl o)) := fun o => by cases o <;> rfl
        rcases hty a C xs hc with rfl | rfl
        · refine va_aldq hx hb hK hH.2 a 2 (wsO_get hc) rfl hin (hd 1 rfl (by decide)) ?_
          rw [hrf]
          exact k0 _ (.inr (.inl _) :: S0) _ (nx_e he) hl
        · refine va_aldq hx hb hK hH.2 a 3 (wsO_get hc) rfl hin (hd 1 rfl (by decide)) ?_
          rw [hrf]
          exact k0 _ (.inr (.inl _) :: S0) _ (nx_e he) hl
    · cases he
  · -- iastore
    rename_i y j a S0
    split at he
    · rename_i xs hc
      split at he
      · cases he
      · rename_i hin
        refine W.iast hx hb (hH.2 a _ (wsO_get hc)) (tys_int hK _ _) (fun q => by cases q) (by show ¬ (j < 0 ∨ (arrV _ _ _).slots.size ≤ _); rw [arrV_size]; exact hin) rfl rfl (hd 1 rfl (by decide)) fun H1 e1 z1 o1 => ?_
        obtain ⟨g1, g2⟩ := hH.put (n := j.toNatClampNeg) hc hS z1 o1 (ow_set (Nat.not_le.mp fun q => hin (Or.inr q)) .int (Or.inl rfl) y e1)
        exact k1 a _ _ _ _ H1 _ (nx_e he) hc rfl (by simp) g1 g2
    · cases he
  · -- bastore
    rename_i y j a S0
    split at he
    · rename_i xs hc
      split at he
      · cases he
      · rename_i hin
        refine W.zast hx hb (hH.2 a _ (wsO_get hc)) (tys_bool hK _ _) (fun q => by cases q) (by show ¬ (j < 0 ∨ (arrV _ _ _).slots.size ≤ _); rw [arrV_size]; exact hin) rfl rfl (hd 1 rfl (by decide)) fun H1 e1 z1 o1 => ?_
        obtain ⟨g1, g2⟩ := hH.put (n := j.toNatClampNeg) hc hS z1 o1 (ow_set (Nat.not_le.mp fun q => hin (Or.inr q)) .boolean (Or.inr rfl) (y &&& 1) e1)
        exact k1 a _ _ _ _ H1 _ (nx_e he) hc rfl (by simp) g1 g2
    · cases he
  · -- aastore
    rename_i v j a S0
    split at he
    · rename_i C xs ci fs hc hv
      split at he
      · rename_i q hq
        split at he
        · rename_i hq2
          obtain ⟨hC, hin⟩ := hq2
          obtain ⟨r', hr', cellV, v1, v2, v3, -⟩ := hH.2 v _ (wsO_get hv)
          have hcls := (hK.1 ci q hq).2
          have hlt : j.toNatClampNeg < xs.length := Nat.not_le.mp fun q => hin (Or.inr q)
          obtain ⟨kC, hkC, -⟩ := hcls.2
          have go : ∀ (t0 : Nat), (tysO aC)[t0]? = some (aC (FieldType.object C), FieldType.object C) → W p l e R s m args below meth c H locs cells slots Q (F0 m pc ls ((.inr (.inl (some v)) :: .inl j :: .inr (.inl (some a)) :: S0 : List AV).map (cv b ra))) := by
            intro t0 ht0
            obtain ⟨kA, comp, w1, w2, w3, -⟩ := (hK.2 t0 _ ht0).2
            have hcomp : comp = D.1 ci := by
              rw [← hC] at w3
              exact Option.some.inj (w3.symm.trans hcls.1)
            subst hcomp
            refine W.aast hx hb (hH.2 a _ (wsO_get hc)) (fun q h => by cases h) (fun h => by cases h) w1 w2 rfl hkC ⟨fun q => hin (Or.inl q), by show _ < (arrV _ _ _).slots.size; rw [arrV_size]; exact hlt⟩ v1 (fun q h => by rw [v3] at h; cases h) (by rw [v2]; exact hkC) (by rw [v2]; exact va_assign hcls) rfl rfl (hd 1 rfl (by decide)) fun H1 e1 z1 o1 => ?_
            obtain ⟨g1, g2⟩ := hH.put (n := j.toNatClampNeg) hc hS z1 o1 (ow_setq hlt C e1)
            exact k1 a _ _ _ _ H1 _ (nx_e he) hc rfl (by simp) g1 g2
          rcases hty a C xs hc with h9 | h9
          · exact go 2 (by rw [h9]; rfl)
          · exact go 3 (by rw [h9]; rfl)
        · cases he
      · cases he
    · cases he
  · -- arraylength
    rename_i a S0
    have go : ∀ (ty : FieldType) (xs : List AV) (t0 : Nat) (y : (Nat → Int32) ⊕ (Nat → Int64) ⊕ (Nat → UInt32) ⊕ (Nat → UInt64) ⊕ (Nat → Option Nat)), h[a]? = some (.inr ty, xs) → nx (pc + 1) L (.inl (Int32.ofNat xs.length) :: S0) h = some x → (tysO aC)[t0]? = some (aC ty, ty) → ce aC b ra (.inr ty, xs) = .inl (aC ty, (xs.length, y)) → W p l e R s m args below meth c H locs cells slots Q (F0 m pc ls ((.inr (.inl (some a)) :: S0 : List AV).map (cv b ra))) := by
      intro ty xs t0 y hc he ht0 hx0
      have h1 := wsO_get (aC := aC) (b := b) (ra := ra) hc
      rw [hx0] at h1
      exact va_alen hx hb hK hH.2 a t0 h1 ht0 rfl (hd 1 rfl (by decide)) (k0 _ (.inl _ :: S0) _ (nx_e he) hl)
    split at he
    · rename_i xs hc
      exact go _ xs 0 _ hc he rfl rfl
    · rename_i xs hc
      exact go _ xs 1 _ hc he rfl rfl
    · rename_i C xs hc
      rcases hty a C xs hc with h9 | h9
      · subst h9
        exact go _ xs 2 _ hc he rfl rfl
      · subst h9
        exact go _ xs 3 _ hc he rfl rfl
    · cases he
  · -- arraylength of a table
    rename_i j S0
    split at he
    · rename_i zs hc
      exact va_tlen hx hb (hro _ _ hc) hS rfl (hd 1 rfl (by decide)) (k0 _ (.inl _ :: S0) _ (nx_e he) hl)
    · cases he
  · -- new
    split at he
    · rename_i ci p1 p2 hlk
      split at he
      · rename_i q ty hq ht
        obtain ⟨w1, w2⟩ := new_ok hlk hn hq
        have hlen : ((List.range q.2.2).map (fun k => dv (ty k))).length = q.2.2 := by simp
        obtain ⟨r1, r3⟩ := r2 _ _ _ _ (nx_e he) hlen
        have hKn := hK.1 ci q hq
        obtain ⟨k1', k2', k3', k4'⟩ := kc_ok hq ht
        refine W.newcK hx hb hown (hts _ w1) (hts _ w2) (hts _ (ini_cl hq)) rfl (hd 3 rfl (by decide)) r1 r3 hKn.2.1 rfl fun H1 kC hkC e1 z1 o1 => ?_
        have hat : va_at D kCl (b + h.length, ce aC b ra (.inl ci, (List.range q.2.2).map (fun k => dv (ty k)))) H1 := by
          refine ⟨q, hq, ?_⟩
          rw [← hH.1]
          refine (u_born ty hts k1' hKn hkC e1 k2').to (fun k hk => ?_)
          rw [← dv_ok (b := b) (ra := ra) (ty k) (kTy_in hq ht hk)]
          simp [vp_V, List.getD_eq_getElem?_getD, hk]
        have := k2 _ _ (.inr (.inl (some h.length)) :: S) H1 locs _ (nx_e he) hlen (fun C hC => by cases hC) (hH.push z1 o1 hat) (hS1 H1 z1 o1)
        rw [hH.1]
        exact this
      · cases he
    · cases he
  · -- newarray int
    rename_i n0 S0
    split at he
    · cases he
    rename_i hin
    · have hlen : (List.replicate n0.toNatClampNeg (.inl 0 : AV)).length = n0.toNatClampNeg := by simp
      obtain ⟨r1, r3⟩ := r2 _ _ _ _ (nx_e he) hlen
      refine va_newaK (atype := .int) hx hb (hts _ (ckw_in ck_arr.2.1)) rfl (hd 2 rfl (by decide)) rfl (fun q => hin (Or.inl q)) rfl (by have : ¬ 65536 ≤ n0.toNatClampNeg := fun q => hin (Or.inr q); show _ * 4 ≤ _; omega) r1 r3 rfl fun H1 cA e1 z1 o1 hAr hNm => ?_
      have hcA : cA = aC .int := by
        have h2 : s.vm.findClass ("[" ++ FieldType.int.toString) = some (aC .int) := (hK.2 0 _ rfl).2
        exact Option.some.inj (hNm.symm.trans h2)
      subst hcA
      have hat : va_at D kCl (b + h.length, ce aC b ra (.inr .int, List.replicate n0.toNatClampNeg (.inl 0))) H1 := by
        show H1[b + h.length]? = some (vp_cell _ _)
        rw [← hH.1, e1, vp_cell_i, List.length_replicate]
        unfold arrV
        congr 3
        funext j
        show Value.int 0 = Value.int (vi ((List.replicate n0.toNatClampNeg (.inl 0)).getD j.val (.inl 0)))
        rw [getD_rep _ _ _ j.isLt]
        rfl
      have := k2 _ _ (.inr (.inl (some h.length)) :: S0) H1 locs _ (nx_e he) hlen (fun C hC => by cases hC) (hH.push z1 o1 hat) (hS1 H1 z1 o1)
      rw [hH.1]
      exact this
  · -- newarray boolean
    rename_i n0 S0
    split at he
    · cases he
    rename_i hin
    · have hlen : (List.replicate n0.toNatClampNeg (.inl 0 : AV)).length = n0.toNatClampNeg := by simp
      obtain ⟨r1, r3⟩ := r2 _ _ _ _ (nx_e he) hlen
      refine va_newaK (atype := .boolean) hx hb (hts _ (ckw_in ck_arr.1)) rfl (hd 2 rfl (by decide)) rfl (fun q => hin (Or.inl q)) rfl (by have : ¬ 65536 ≤ n0.toNatClampNeg := fun q => hin (Or.inr q); show _ * 1 ≤ _; omega) r1 r3 rfl fun H1 cA e1 z1 o1 hAr hNm => ?_
      have hcA : cA = aC .boolean := by
        have h2 : s.vm.findClass ("[" ++ FieldType.boolean.toString) = some (aC .boolean) := (hK.2 1 _ rfl).2
        exact Option.some.inj (hNm.symm.trans h2)
      subst hcA
      have hat : va_at D kCl (b + h.length, ce aC b ra (.inr .boolean, List.replicate n0.toNatClampNeg (.inl 0))) H1 := by
        show H1[b + h.length]? = some (vp_cell _ _)
        rw [← hH.1, e1, vp_cell_i, List.length_replicate]
        unfold arrV
        congr 3
        funext j
        show Value.int 0 = Value.int (vi ((List.replicate n0.toNatClampNeg (.inl 0)).getD j.val (.inl 0)))
        rw [getD_rep _ _ _ j.isLt]
        rfl
      have := k2 _ _ (.inr (.inl (some h.length)) :: S0) H1 locs _ (nx_e he) hlen (fun C hC => by cases hC) (hH.push z1 o1 hat) (hS1 H1 z1 o1)
      rw [hH.1]
      exact this
  · -- anewarray
    rename_i n0 S0
    split at he
    · rename_i C p1 p2 hlk
      split at he
      · cases he
      · rename_i hin
        have hlen : (List.replicate n0.toNatClampNeg (.inr (.inl none) : AV)).length = n0.toNatClampNeg := by simp
        obtain ⟨r1, r3⟩ := r2 _ _ _ _ (nx_e he) hlen
        have hC := an_two hlk
        have hao : va_AO C s := by
          rcases hC with rfl | rfl
          · exact ha1
          · exact ha2
        refine W.anew hx hb hown (hts _ (an_ok hlk hn)) (va_AO.use hao) rfl (hd 3 rfl (by decide)) rfl (fun q => hin (Or.inl q)) (by have : ¬ 65536 ≤ n0.toNatClampNeg := fun q => hin (Or.inr q); omega) r1 r3 fun cA kA comp f1 f2 f3 f4 => ?_
        have go : ∀ (t0 : Nat), (tysO aC)[t0]? = some (aC (FieldType.object C), FieldType.object C) → cA = aC (.object C) := by
          intro t0 ht0
          obtain ⟨kA', comp', w1, w2, w3, w4⟩ := (hK.2 t0 _ ht0).2
          exact Option.some.inj (f1.symm.trans w4)
        have hcA : cA = aC (.object C) := by
          rcases hC with rfl | rfl
          · exact go 2 rfl
          · exact go 3 rfl
        subst hcA
        generalize hH1 : H.push ({ cls := aC (.object C), slots := Array.replicate n0.toNatClampNeg .null, vm := .none } : Cell) = H1
        have z1 : H1.size = H.size + 1 := by rw [← hH1, Array.size_push]
        have e1 : H1[H.size]? = some (arrV (aC (.object C)) n0.toNatClampNeg (fun _ => .null)) := by rw [← hH1, Array.getElem?_push_size, ← arrV_new]
        have o1 : ∀ q, q < H.size → H1[q]? = H[q]? := fun q hq => by rw [← hH1, Array.getElem?_push, if_neg (Nat.ne_of_lt hq)]
        have hat : va_at D kCl (b + h.length, ce aC b ra (.inr (.object C), List.replicate n0.toNatClampNeg (.inr (.inl none)))) H1 := by
          show H1[b + h.length]? = some (vp_cell _ _)
          rw [← hH.1, e1, vp_cell_q, List.length_replicate]
          unfold arrV
          congr 3
          funext j
          show Value.null = va_rf ((vr ((List.replicate n0.toNatClampNeg (.inr (.inl none))).getD j.val (.inl 0))).map (b + ·))
          rw [getD_rep _ _ _ j.isLt]
          rfl
        have := k2 _ _ (.inr (.inl (some h.length)) :: S0) H1 locs _ (nx_e he) hlen (fun C' hC' => by cases hC'; exact hC) (hH.push z1 o1 hat) (hS1 H1 z1 o1)
        rw [hH.1]
        exact this
    · cases he
  · cases he
end SD3
