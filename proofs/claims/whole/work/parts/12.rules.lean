/-! A rule an instruction, over worlds -/
theorem stp_1 {ro : List (List Int32)} {d : Nat} {r : MR} {i : Instr} {pc : Nat} {L : AL} {S : List AV} {h : AH} {x : Option AR} (hk : (kind i).1 = 1) (e : st1 i pc L S h = x) : stp ro d r i pc L S h = x := by
  unfold stp
  rw [if_pos hk]
  exact e
theorem stp_2 {ro : List (List Int32)} {d : Nat} {r : MR} {i : Instr} {pc : Nat} {L : AL} {S : List AV} {h : AH} {x : Option AR} (hk : (kind i).1 = 2) (e : st2 ro r.2.2.2.2.1 (decide (r.1.name = "<init>")) i pc L S h = x) : stp ro d r i pc L S h = x := by
  unfold stp
  rw [if_neg (by rw [hk]; decide), if_pos hk]
  exact e
theorem stp_3 {ro : List (List Int32)} {d : Nat} {r : MR} {i : Instr} {pc : Nat} {L : AL} {S : List AV} {h : AH} {x : Option AR} (hk : (kind i).1 = 3) (e : st3 d r.2.2.2.2.1 r.2.2.2.1 i pc L S h = x) : stp ro d r i pc L S h = x := by
  unfold stp
  rw [if_neg (by rw [hk]; decide), if_neg (by rw [hk]; decide), if_pos hk]
  exact e
theorem mk_I {w : Wd} {c n : Nat} {ty : FieldType} (h : hs[c]? = some (.inr ty, List.replicate n (.inl 0))) : (mk w)[c]? = some (.inr ty, (List.replicate n (.inl 0)).mapIdx (mkv (w c))) := mk_get h
theorem mk_O {w : Wd} {c ci : Nat} {vs : List AV} (h : hs[c]? = some (.inl ci, vs)) : (mk w)[c]? = some (.inl ci, vs.mapIdx (mkv (w c))) := mk_get h
theorem mk_F {w : Wd} {c k : Nat} {vs : List AV} {v : AV} (hk : vs[k]? = some v) : (vs.mapIdx (mkv (w c)))[k]? = some (mkv (w c) k v) := by simp [List.getElem?_mapIdx, hk]
theorem mk_len0 {w : Wd} {c n : Nat} : ((List.replicate n (.inl 0 : AV)).mapIdx (mkv (w c))).length = n := by simp
theorem mk_getD {w : Wd} {c n i : Nat} (hi : i < n) : ((List.replicate n (.inl 0 : AV)).mapIdx (mkv (w c))).getD i (.inl 0) = .inl (w c i) := by
  simp [List.getD_eq_getElem?_getD, List.getElem?_mapIdx, hi, mkv]
theorem vp_lt {i : Int32} {n : Nat} (h : vp_in i n) : i.toNatClampNeg < n := Nat.not_le.mp fun q => h (Or.inr q)
theorem inr_ty {i : Int32} {n : Nat} (h : vp_in i n) (m : Nat) (hm : m = n) : ¬ (i < 0 ∨ m ≤ i.toNatClampNeg) := hm ▸ h
section GR
variable {zs : List Int32} {d j pc : Nat} {L : AL} {S : List AV} {w : Wd} {Q : Option AV → Wd → Prop} {r : MR}
theorem gw_iconst {n : Int} {v : Int32} (hm : mrec j = some r) (hf : fch r.2.1 pc = some (.iconst n)) (hv : Int32.ofInt n = v) (k : Gw zs d j (pc + 1) L (.inl v :: S) w Q) : Gw zs d j pc L S w Q := gw_step hm hf (stp_1 rfl (by rw [← hv]; rfl)) k
theorem gw_bipush {n : Int} {v : Int32} (hm : mrec j = some r) (hf : fch r.2.1 pc = some (.bipush n)) (hv : (Int8.ofInt n).toInt32 = v) (k : Gw zs d j (pc + 2) L (.inl v :: S) w Q) : Gw zs d j pc L S w Q := gw_step hm hf (stp_1 rfl (by rw [← hv]; rfl)) k
theorem gw_sipush {n : Int} {v : Int32} (hm : mrec j = some r) (hf : fch r.2.1 pc = some (.sipush n)) (hv : (Int16.ofInt n).toInt32 = v) (k : Gw zs d j (pc + 3) L (.inl v :: S) w Q) : Gw zs d j pc L S w Q := gw_step hm hf (stp_1 rfl (by rw [← hv]; rfl)) k
theorem gw_null (hm : mrec j = some r) (hf : fch r.2.1 pc = some .aconst_null) (k : Gw zs d j (pc + 1) L (.inr (.inl none) :: S) w Q) : Gw zs d j pc L S w Q := gw_step hm hf (stp_1 rfl rfl) k
theorem gw_iload_n {n : Fin 4} {x : Int32} (hm : mrec j = some r) (hf : fch r.2.1 pc = some (.iload_n n)) (hl : ld L n = some (.inl x)) (k : Gw zs d j (pc + 1) L (.inl x :: S) w Q) : Gw zs d j pc L S w Q := gw_step hm hf (stp_1 rfl (by simp only [st1, hl]; rfl)) k
theorem gw_iload {n : Nat} {x : Int32} (hm : mrec j = some r) (hf : fch r.2.1 pc = some (.iload n)) (hl : ld L n = some (.inl x)) (k : Gw zs d j (pc + 2) L (.inl x :: S) w Q) : Gw zs d j pc L S w Q := gw_step hm hf (stp_1 rfl (by simp only [st1, hl]; rfl)) k
theorem gw_aload_n {n : Fin 4} {x : Option Nat ⊕ Nat} (hm : mrec j = some r) (hf : fch r.2.1 pc = some (.aload_n n)) (hl : ld L n = some (.inr x)) (k : Gw zs d j (pc + 1) L (.inr x :: S) w Q) : Gw zs d j pc L S w Q := gw_step hm hf (stp_1 rfl (by simp only [st1, hl]; rfl)) k
theorem gw_aload {n : Nat} {x : Option Nat ⊕ Nat} (hm : mrec j = some r) (hf : fch r.2.1 pc = some (.aload n)) (hl : ld L n = some (.inr x)) (k : Gw zs d j (pc + 2) L (.inr x :: S) w Q) : Gw zs d j pc L S w Q := gw_step hm hf (stp_1 rfl (by simp only [st1, hl]; rfl)) k
theorem gw_istore_n {n : Fin 4} {x : Int32} (L' : AL) (hm : mrec j = some r) (hf : fch r.2.1 pc = some (.istore_n n)) (hk : (n : Nat) < L.length) (hl : L.set n (some (.inl x)) = L') (k : Gw zs d j (pc + 1) L' S w Q) : Gw zs d j pc L (.inl x :: S) w Q := gw_step hm hf (stp_1 rfl (by simp only [st1, sto, if_pos hk, hl]; rfl)) k
theorem gw_istore {n : Nat} {x : Int32} (L' : AL) (hm : mrec j = some r) (hf : fch r.2.1 pc = some (.istore n)) (hk : n < L.length) (hl : L.set n (some (.inl x)) = L') (k : Gw zs d j (pc + 2) L' S w Q) : Gw zs d j pc L (.inl x :: S) w Q := gw_step hm hf (stp_1 rfl (by simp only [st1, sto, if_pos hk, hl]; rfl)) k
theorem gw_astore_n {n : Fin 4} {x : Option Nat ⊕ Nat} (L' : AL) (hm : mrec j = some r) (hf : fch r.2.1 pc = some (.astore_n n)) (hk : (n : Nat) < L.length) (hl : L.set n (some (.inr x)) = L') (k : Gw zs d j (pc + 1) L' S w Q) : Gw zs d j pc L (.inr x :: S) w Q := gw_step hm hf (stp_1 rfl (by simp only [st1, sto, if_pos hk, hl]; rfl)) k
theorem gw_astore {n : Nat} {x : Option Nat ⊕ Nat} (L' : AL) (hm : mrec j = some r) (hf : fch r.2.1 pc = some (.astore n)) (hk : n < L.length) (hl : L.set n (some (.inr x)) = L') (k : Gw zs d j (pc + 2) L' S w Q) : Gw zs d j pc L (.inr x :: S) w Q := gw_step hm hf (stp_1 rfl (by simp only [st1, sto, if_pos hk, hl]; rfl)) k
theorem gw_iinc {n : Nat} {m : Int} {x y : Int32} (L' : AL) (hm : mrec j = some r) (hf : fch r.2.1 pc = some (.iinc n m)) (hx : ld L n = some (.inl x)) (hv : Int32.ofInt m = y) (hk : n < L.length) (hl : L.set n (some (.inl (x + y))) = L') (k : Gw zs d j (pc + 3) L' S w Q) : Gw zs d j pc L S w Q := gw_step hm hf (stp_1 rfl (by simp only [st1, hx, sto, if_pos hk, hv, hl]; rfl)) k
theorem gw_dup {v : AV} (hm : mrec j = some r) (hf : fch r.2.1 pc = some .dup) (k : Gw zs d j (pc + 1) L (v :: v :: S) w Q) : Gw zs d j pc L (v :: S) w Q := gw_step hm hf (stp_1 rfl rfl) k
theorem gw_dup2 {v u : AV} (hm : mrec j = some r) (hf : fch r.2.1 pc = some .dup2) (k : Gw zs d j (pc + 1) L (v :: u :: v :: u :: S) w Q) : Gw zs d j pc L (v :: u :: S) w Q := gw_step hm hf (stp_1 rfl rfl) k
theorem gw_pop {v : AV} (hm : mrec j = some r) (hf : fch r.2.1 pc = some .pop) (k : Gw zs d j (pc + 1) L S w Q) : Gw zs d j pc L (v :: S) w Q := gw_step hm hf (stp_1 rfl rfl) k
theorem gw_iadd {x y : Int32} (hm : mrec j = some r) (hf : fch r.2.1 pc = some .iadd) (k : Gw zs d j (pc + 1) L (.inl (x + y) :: S) w Q) : Gw zs d j pc L (.inl y :: .inl x :: S) w Q := gw_step hm hf (stp_1 rfl rfl) k
theorem gw_isub {x y : Int32} (hm : mrec j = some r) (hf : fch r.2.1 pc = some .isub) (k : Gw zs d j (pc + 1) L (.inl (x - y) :: S) w Q) : Gw zs d j pc L (.inl y :: .inl x :: S) w Q := gw_step hm hf (stp_1 rfl rfl) k
theorem gw_imul {x y : Int32} (hm : mrec j = some r) (hf : fch r.2.1 pc = some .imul) (k : Gw zs d j (pc + 1) L (.inl (x * y) :: S) w Q) : Gw zs d j pc L (.inl y :: .inl x :: S) w Q := gw_step hm hf (stp_1 rfl rfl) k
theorem gw_iand {x y : Int32} (hm : mrec j = some r) (hf : fch r.2.1 pc = some .iand) (k : Gw zs d j (pc + 1) L (.inl (x &&& y) :: S) w Q) : Gw zs d j pc L (.inl y :: .inl x :: S) w Q := gw_step hm hf (stp_1 rfl rfl) k
theorem gw_ior {x y : Int32} (hm : mrec j = some r) (hf : fch r.2.1 pc = some .ior) (k : Gw zs d j (pc + 1) L (.inl (x ||| y) :: S) w Q) : Gw zs d j pc L (.inl y :: .inl x :: S) w Q := gw_step hm hf (stp_1 rfl rfl) k
theorem gw_ishl {x y : Int32} (hm : mrec j = some r) (hf : fch r.2.1 pc = some .ishl) (k : Gw zs d j (pc + 1) L (.inl (x <<< (y &&& 31)) :: S) w Q) : Gw zs d j pc L (.inl y :: .inl x :: S) w Q := gw_step hm hf (stp_1 rfl rfl) k
theorem gw_ishr {x y : Int32} (hm : mrec j = some r) (hf : fch r.2.1 pc = some .ishr) (k : Gw zs d j (pc + 1) L (.inl (x >>> (y &&& 31)) :: S) w Q) : Gw zs d j pc L (.inl y :: .inl x :: S) w Q := gw_step hm hf (stp_1 rfl rfl) k
theorem gw_idiv {x y : Int32} (hm : mrec j = some r) (hf : fch r.2.1 pc = some .idiv) (hy : ¬ y = 0) (k : Gw zs d j (pc + 1) L (.inl (x / y) :: S) w Q) : Gw zs d j pc L (.inl y :: .inl x :: S) w Q := gw_step hm hf (stp_1 rfl (by simp only [st1, if_neg hy]; rfl)) k
theorem gw_irem {x y : Int32} (hm : mrec j = some r) (hf : fch r.2.1 pc = some .irem) (hy : ¬ y = 0) (k : Gw zs d j (pc + 1) L (.inl (x - x / y * y) :: S) w Q) : Gw zs d j pc L (.inl y :: .inl x :: S) w Q := gw_step hm hf (stp_1 rfl (by simp only [st1, if_neg hy]; rfl)) k
theorem gw_br {i : Instr} {c : Prop} [Decidable c] {S' : List AV} {o : Int} {t : Nat} (hm : mrec j = some r) (hf : fch r.2.1 pc = some i) (hk : (kind i).1 = 1) (hs : ∀ h, st1 i pc L S h = br pc o (decide c) L S' h) (ht : (pc : Int) + o = (t : Int)) (kt : c → Gw zs d j t L S' w Q) (kf : ¬ c → Gw zs d j (pc + 3) L S' w Q) : Gw zs d j pc L S w Q := by
  have h0 : 0 ≤ (pc : Int) + o := by omega
  have h1 : ((pc : Int) + o).toNat = t := by omega
  by_cases hc : c
  · exact gw_step hm hf (stp_1 hk (by rw [hs, br, if_pos h0, decide_eq_true hc, if_pos rfl, h1]; rfl)) (kt hc)
  · exact gw_step hm hf (stp_1 hk (by rw [hs, br, if_pos h0, decide_eq_false hc, if_neg (by decide)]; rfl)) (kf hc)
theorem gw_if_eq {x : Int32} {o : Int} {t : Nat} (hm : mrec j = some r) (hf : fch r.2.1 pc = some (.ifCond .eq o)) (ht : (pc : Int) + o = (t : Int)) (kt : x = 0 → Gw zs d j t L S w Q) (kf : ¬ (x = 0) → Gw zs d j (pc + 3) L S w Q) : Gw zs d j pc L (.inl x :: S) w Q := gw_br hm hf rfl (fun h => rfl) ht kt kf
theorem gw_icmp_eq {x y : Int32} {o : Int} {t : Nat} (hm : mrec j = some r) (hf : fch r.2.1 pc = some (.if_icmp .eq o)) (ht : (pc : Int) + o = (t : Int)) (kt : x = y → Gw zs d j t L S w Q) (kf : ¬ (x = y) → Gw zs d j (pc + 3) L S w Q) : Gw zs d j pc L (.inl y :: .inl x :: S) w Q := gw_br hm hf rfl (fun h => rfl) ht kt kf
theorem gw_if_ne {x : Int32} {o : Int} {t : Nat} (hm : mrec j = some r) (hf : fch r.2.1 pc = some (.ifCond .ne o)) (ht : (pc : Int) + o = (t : Int)) (kt : ¬ x = 0 → Gw zs d j t L S w Q) (kf : ¬ (¬ x = 0) → Gw zs d j (pc + 3) L S w Q) : Gw zs d j pc L (.inl x :: S) w Q := gw_br hm hf rfl (fun h => rfl) ht kt kf
theorem gw_icmp_ne {x y : Int32} {o : Int} {t : Nat} (hm : mrec j = some r) (hf : fch r.2.1 pc = some (.if_icmp .ne o)) (ht : (pc : Int) + o = (t : Int)) (kt : ¬ x = y → Gw zs d j t L S w Q) (kf : ¬ (¬ x = y) → Gw zs d j (pc + 3) L S w Q) : Gw zs d j pc L (.inl y :: .inl x :: S) w Q := gw_br hm hf rfl (fun h => rfl) ht kt kf
theorem gw_if_lt {x : Int32} {o : Int} {t : Nat} (hm : mrec j = some r) (hf : fch r.2.1 pc = some (.ifCond .lt o)) (ht : (pc : Int) + o = (t : Int)) (kt : x < 0 → Gw zs d j t L S w Q) (kf : ¬ (x < 0) → Gw zs d j (pc + 3) L S w Q) : Gw zs d j pc L (.inl x :: S) w Q := gw_br hm hf rfl (fun h => rfl) ht kt kf
theorem gw_icmp_lt {x y : Int32} {o : Int} {t : Nat} (hm : mrec j = some r) (hf : fch r.2.1 pc = some (.if_icmp .lt o)) (ht : (pc : Int) + o = (t : Int)) (kt : x < y → Gw zs d j t L S w Q) (kf : ¬ (x < y) → Gw zs d j (pc + 3) L S w Q) : Gw zs d j pc L (.inl y :: .inl x :: S) w Q := gw_br hm hf rfl (fun h => rfl) ht kt kf
theorem gw_if_ge {x : Int32} {o : Int} {t : Nat} (hm : mrec j = some r) (hf : fch r.2.1 pc = some (.ifCond .ge o)) (ht : (pc : Int) + o = (t : Int)) (kt : 0 ≤ x → Gw zs d j t L S w Q) (kf : ¬ (0 ≤ x) → Gw zs d j (pc + 3) L S w Q) : Gw zs d j pc L (.inl x :: S) w Q := gw_br hm hf rfl (fun h => rfl) ht kt kf
theorem gw_icmp_ge {x y : Int32} {o : Int} {t : Nat} (hm : mrec j = some r) (hf : fch r.2.1 pc = some (.if_icmp .ge o)) (ht : (pc : Int) + o = (t : Int)) (kt : y ≤ x → Gw zs d j t L S w Q) (kf : ¬ (y ≤ x) → Gw zs d j (pc + 3) L S w Q) : Gw zs d j pc L (.inl y :: .inl x :: S) w Q := gw_br hm hf rfl (fun h => rfl) ht kt kf
theorem gw_if_gt {x : Int32} {o : Int} {t : Nat} (hm : mrec j = some r) (hf : fch r.2.1 pc = some (.ifCond .gt o)) (ht : (pc : Int) + o = (t : Int)) (kt : 0 < x → Gw zs d j t L S w Q) (kf : ¬ (0 < x) → Gw zs d j (pc + 3) L S w Q) : Gw zs d j pc L (.inl x :: S) w Q := gw_br hm hf rfl (fun h => rfl) ht kt kf
theorem gw_icmp_gt {x y : Int32} {o : Int} {t : Nat} (hm : mrec j = some r) (hf : fch r.2.1 pc = some (.if_icmp .gt o)) (ht : (pc : Int) + o = (t : Int)) (kt : y < x → Gw zs d j t L S w Q) (kf : ¬ (y < x) → Gw zs d j (pc + 3) L S w Q) : Gw zs d j pc L (.inl y :: .inl x :: S) w Q := gw_br hm hf rfl (fun h => rfl) ht kt kf
theorem gw_if_le {x : Int32} {o : Int} {t : Nat} (hm : mrec j = some r) (hf : fch r.2.1 pc = some (.ifCond .le o)) (ht : (pc : Int) + o = (t : Int)) (kt : x ≤ 0 → Gw zs d j t L S w Q) (kf : ¬ (x ≤ 0) → Gw zs d j (pc + 3) L S w Q) : Gw zs d j pc L (.inl x :: S) w Q := gw_br hm hf rfl (fun h => rfl) ht kt kf
theorem gw_icmp_le {x y : Int32} {o : Int} {t : Nat} (hm : mrec j = some r) (hf : fch r.2.1 pc = some (.if_icmp .le o)) (ht : (pc : Int) + o = (t : Int)) (kt : x ≤ y → Gw zs d j t L S w Q) (kf : ¬ (x ≤ y) → Gw zs d j (pc + 3) L S w Q) : Gw zs d j pc L (.inl y :: .inl x :: S) w Q := gw_br hm hf rfl (fun h => rfl) ht kt kf
theorem gw_jp {i : Instr} {S' : List AV} {o : Int} {t : Nat} (hm : mrec j = some r) (hf : fch r.2.1 pc = some i) (hk : (kind i).1 = 1) (hs : ∀ h, st1 i pc L S h = jp pc o L S' h) (ht : (pc : Int) + o = (t : Int)) (k : Gw zs d j t L S' w Q) : Gw zs d j pc L S w Q := by
  have h0 : 0 ≤ (pc : Int) + o := by omega
  have h1 : ((pc : Int) + o).toNat = t := by omega
  exact gw_step hm hf (stp_1 hk (by rw [hs, jp, if_pos h0, h1]; rfl)) k
theorem gw_goto {o : Int} {t : Nat} (hm : mrec j = some r) (hf : fch r.2.1 pc = some (.goto o)) (ht : (pc : Int) + o = (t : Int)) (k : Gw zs d j t L S w Q) : Gw zs d j pc L S w Q := gw_jp hm hf rfl (fun h => rfl) ht k
theorem gw_ifnull_n {o : Int} {t : Nat} (hm : mrec j = some r) (hf : fch r.2.1 pc = some (.ifnull o)) (ht : (pc : Int) + o = (t : Int)) (k : Gw zs d j t L S w Q) : Gw zs d j pc L (.inr (.inl none) :: S) w Q := gw_jp hm hf rfl (fun h => rfl) ht k
theorem gw_ifnull_s {o : Int} {a : Nat} (hm : mrec j = some r) (hf : fch r.2.1 pc = some (.ifnull o)) (k : Gw zs d j (pc + 3) L S w Q) : Gw zs d j pc L (.inr (.inl (some a)) :: S) w Q := gw_step hm hf (stp_1 rfl rfl) k
theorem gw_ifnonnull_n {o : Int} (hm : mrec j = some r) (hf : fch r.2.1 pc = some (.ifnonnull o)) (k : Gw zs d j (pc + 3) L S w Q) : Gw zs d j pc L (.inr (.inl none) :: S) w Q := gw_step hm hf (stp_1 rfl rfl) k
theorem gw_ifnonnull_s {o : Int} {t a : Nat} (hm : mrec j = some r) (hf : fch r.2.1 pc = some (.ifnonnull o)) (ht : (pc : Int) + o = (t : Int)) (k : Gw zs d j t L S w Q) : Gw zs d j pc L (.inr (.inl (some a)) :: S) w Q := gw_jp hm hf rfl (fun h => rfl) ht k
theorem gw_tsw {dflt lo hi : Int} {offs : Array Int} {x : Int32} (hm : mrec j = some r) (hf : fch r.2.1 pc = some (.tableswitch dflt lo hi offs)) (hsz : hi + 1 = lo + offs.size) (h32 : -2147483648 ≤ lo ∧ hi < 2147483648) (hin : ∀ q : Nat, q < offs.size → x = Int32.ofInt (lo + q) → ∃ (o : Int) (t : Nat), offs[q]? = some o ∧ (pc : Int) + o = (t : Int) ∧ Gw zs d j t L S w Q) (hout : (∀ q : Nat, q < offs.size → ¬ x = Int32.ofInt (lo + q)) → ∃ t : Nat, (pc : Int) + dflt = (t : Int) ∧ Gw zs d j t L S w Q) : Gw zs d j pc L (.inl x :: S) w Q := by
  by_cases hx : x.toInt < lo ∨ hi < x.toInt
  · obtain ⟨t, ht, k⟩ := hout (fun q hq he => by
      rw [he, Int32.toInt_ofInt_of_le (by omega) (by omega)] at hx
      omega)
    have h0 : 0 ≤ (pc : Int) + dflt := by omega
    have h1 : ((pc : Int) + dflt).toNat = t := by omega
    exact gw_step hm hf (stp_1 rfl (by simp only [st1, tsw, if_pos hx, jp, if_pos h0, h1]; rfl)) k
  · have h2 : ¬ x.toInt < lo := fun q => hx (Or.inl q)
    have h3 : ¬ hi < x.toInt := fun q => hx (Or.inr q)
    obtain ⟨o, t, ho, ht, k⟩ := hin (x.toInt - lo).toNat (by omega) (by
      rw [show lo + (((x.toInt - lo).toNat : Nat) : Int) = x.toInt by omega]
      exact (Int32.ofInt_toInt x).symm)
    have h0 : 0 ≤ (pc : Int) + o := by omega
    have h1 : ((pc : Int) + o).toNat = t := by omega
    exact gw_step hm hf (stp_1 rfl (by simp only [st1, tsw, if_neg hx, ho, jp, if_pos h0, h1]; rfl)) k
theorem gw_getI {x ci k po c : Nat} {vs : List AV} {y : Int32} (hm : mrec j = some r) (hf : fch r.2.1 pc = some (.getfield x)) (hl : lk fldT r.2.2.2.2.1 x = some (ci, k, po)) (hc : hs[c]? = some (.inl ci, vs)) (hk : vs[k]? = some (.inl y)) (kk : Gw zs d j (pc + 3) L (.inl (w c k) :: S) w Q) : Gw zs d j pc L (.inr (.inl (some c)) :: S) w Q :=
  gw_step hm hf (stp_2 rfl (by simp only [st2, hl, mk_O hc, mk_F hk]; rfl)) kk
theorem gw_getR {x ci k po c : Nat} {vs : List AV} {y : Option Nat ⊕ Nat} (hm : mrec j = some r) (hf : fch r.2.1 pc = some (.getfield x)) (hl : lk fldT r.2.2.2.2.1 x = some (ci, k, po)) (hc : hs[c]? = some (.inl ci, vs)) (hk : vs[k]? = some (.inr y)) (kk : Gw zs d j (pc + 3) L (.inr y :: S) w Q) : Gw zs d j pc L (.inr (.inl (some c)) :: S) w Q :=
  gw_step hm hf (stp_2 rfl (by simp only [st2, hl, mk_O hc, mk_F hk]; rfl)) kk
theorem gw_put {x ci k po c : Nat} {vs : List AV} {v y : Int32} {q : vw_C} {ty : Nat → FieldType} (hm : mrec j = some r) (hf : fch r.2.1 pc = some (.putfield x)) (hl : lk fldT r.2.2.2.2.1 x = some (ci, k, po)) (hc : hs[c]? = some (.inl ci, vs)) (hk : vs[k]? = some (.inl y)) (hq : kCl[ci]? = some q) (ht : kTy[ci]? = some ty) (hn : (q.2.1 k).2.2.2 = false) (hfit : fitA (ty k) (.inl v) = true) (kk : Gw zs d j (pc + 3) L S (wr w c k v) Q) : Gw zs d j pc L (.inl v :: .inr (.inl (some c)) :: S) w Q := by
  have hkl : k < (vs.mapIdx (mkv (w c))).length := by simp; exact (List.getElem?_eq_some_iff.mp hk).1
  refine gw_step hm hf (stp_2 rfl ?_) kk
  simp only [st2, hl, mk_O hc]
  rw [if_pos ⟨trivial, hkl⟩]
  simp only [hq, ht]
  rw [if_pos ⟨hfit, Or.inl hn⟩, mk_set hc hk]
  rfl
theorem gw_gets {x q po : Nat} (hm : mrec j = some r) (hf : fch r.2.1 pc = some (.getstatic x)) (hl : lk gsT r.2.2.2.2.1 x = some (q, po)) (kk : Gw zs d j (pc + 3) L (.inr (.inr q) :: S) w Q) : Gw zs d j pc L S w Q :=
  gw_step hm hf (stp_2 rfl (by simp only [st2, hl]; rfl)) kk
theorem gw_iald {c n : Nat} {i : Int32} (hm : mrec j = some r) (hf : fch r.2.1 pc = some .iaload) (hc : hs[c]? = some (.inr .int, List.replicate n (.inl 0))) (hi : vp_in i n) (kk : Gw zs d j (pc + 1) L (.inl (w c i.toNatClampNeg) :: S) w Q) : Gw zs d j pc L (.inl i :: .inr (.inl (some c)) :: S) w Q :=
  gw_step hm hf (stp_2 rfl (by simp only [st2, mk_I hc]; rw [if_neg (inr_ty hi _ mk_len0), mk_getD (vp_lt hi)]; rfl)) kk
theorem gw_zald {c n : Nat} {i : Int32} (hm : mrec j = some r) (hf : fch r.2.1 pc = some .baload) (hc : hs[c]? = some (.inr .boolean, List.replicate n (.inl 0))) (hi : vp_in i n) (kk : Gw zs d j (pc + 1) L (.inl (w c i.toNatClampNeg) :: S) w Q) : Gw zs d j pc L (.inl i :: .inr (.inl (some c)) :: S) w Q :=
  gw_step hm hf (stp_2 rfl (by simp only [st2, mk_I hc]; rw [if_neg (inr_ty hi _ mk_len0), mk_getD (vp_lt hi)]; rfl)) kk
theorem gw_rald {q : Nat} {zl : List Int32} {i : Int32} (hm : mrec j = some r) (hf : fch r.2.1 pc = some .iaload) (hz : (rz zs)[q]? = some zl) (hi : vp_in i zl.length) (kk : Gw zs d j (pc + 1) L (.inl (zl.getD i.toNatClampNeg 0) :: S) w Q) : Gw zs d j pc L (.inl i :: .inr (.inr q) :: S) w Q :=
  gw_step hm hf (stp_2 rfl (by simp only [st2, hz]; rw [if_neg hi]; rfl)) kk
theorem gw_aald {c : Nat} {C : String} {vs : List AV} {i : Int32} {o : Option Nat} (hm : mrec j = some r) (hf : fch r.2.1 pc = some .aaload) (hc : hs[c]? = some (.inr (.object C), vs)) (hi : vp_in i vs.length) (hv : vs[i.toNatClampNeg]? = some (.inr (.inl o))) (kk : Gw zs d j (pc + 1) L (.inr (.inl o) :: S) w Q) : Gw zs d j pc L (.inl i :: .inr (.inl (some c)) :: S) w Q := by
  have h1 : (mk w)[c]? = some (.inr (.object C), vs.mapIdx (mkv (w c))) := mk_get hc
  refine gw_step hm hf (stp_2 rfl ?_) kk
  simp only [st2, h1]
  rw [if_neg (inr_ty hi _ (by simp)), List.getD_eq_getElem?_getD, mk_F hv]
  rfl
theorem gw_iast {c n : Nat} {i x : Int32} (hm : mrec j = some r) (hf : fch r.2.1 pc = some .iastore) (hc : hs[c]? = some (.inr .int, List.replicate n (.inl 0))) (hi : vp_in i n) (kk : Gw zs d j (pc + 1) L S (wr w c i.toNatClampNeg x) Q) : Gw zs d j pc L (.inl x :: .inl i :: .inr (.inl (some c)) :: S) w Q := by
  refine gw_step hm hf (stp_2 rfl ?_) kk
  simp only [st2, mk_I hc]
  rw [if_neg (inr_ty hi _ mk_len0), mk_set hc (y := 0) (by simp [vp_lt hi])]
  rfl
theorem gw_zast {c n : Nat} {i x : Int32} (hm : mrec j = some r) (hf : fch r.2.1 pc = some .bastore) (hc : hs[c]? = some (.inr .boolean, List.replicate n (.inl 0))) (hi : vp_in i n) (kk : Gw zs d j (pc + 1) L S (wr w c i.toNatClampNeg (x &&& 1)) Q) : Gw zs d j pc L (.inl x :: .inl i :: .inr (.inl (some c)) :: S) w Q := by
  refine gw_step hm hf (stp_2 rfl ?_) kk
  simp only [st2, mk_I hc]
  rw [if_neg (inr_ty hi _ mk_len0), mk_set hc (y := 0) (by simp [vp_lt hi])]
  rfl
theorem gw_alenI {c n : Nat} {v : Int32} (hm : mrec j = some r) (hf : fch r.2.1 pc = some .arraylength) (hc : hs[c]? = some (.inr .int, List.replicate n (.inl 0))) (hv : Int32.ofNat n = v) (kk : Gw zs d j (pc + 1) L (.inl v :: S) w Q) : Gw zs d j pc L (.inr (.inl (some c)) :: S) w Q :=
  gw_step hm hf (stp_2 rfl (by simp only [st2, mk_I hc]; rw [mk_len0, hv]; rfl)) kk
theorem gw_alenZ {c n : Nat} {v : Int32} (hm : mrec j = some r) (hf : fch r.2.1 pc = some .arraylength) (hc : hs[c]? = some (.inr .boolean, List.replicate n (.inl 0))) (hv : Int32.ofNat n = v) (kk : Gw zs d j (pc + 1) L (.inl v :: S) w Q) : Gw zs d j pc L (.inr (.inl (some c)) :: S) w Q :=
  gw_step hm hf (stp_2 rfl (by simp only [st2, mk_I hc]; rw [mk_len0, hv]; rfl)) kk
theorem gw_alenQ {c : Nat} {C : String} {vs : List AV} {v : Int32} (hm : mrec j = some r) (hf : fch r.2.1 pc = some .arraylength) (hc : hs[c]? = some (.inr (.object C), vs)) (hv : Int32.ofNat vs.length = v) (kk : Gw zs d j (pc + 1) L (.inl v :: S) w Q) : Gw zs d j pc L (.inr (.inl (some c)) :: S) w Q := by
  have h1 : (mk w)[c]? = some (.inr (.object C), vs.mapIdx (mkv (w c))) := mk_get hc
  exact gw_step hm hf (stp_2 rfl (by simp only [st2, h1]; rw [List.length_mapIdx, hv]; rfl)) kk
theorem gw_ralen {q : Nat} {zl : List Int32} {v : Int32} (hm : mrec j = some r) (hf : fch r.2.1 pc = some .arraylength) (hz : (rz zs)[q]? = some zl) (hv : Int32.ofNat zl.length = v) (kk : Gw zs d j (pc + 1) L (.inl v :: S) w Q) : Gw zs d j pc L (.inr (.inr q) :: S) w Q :=
  gw_step hm hf (stp_2 rfl (by simp only [st2, hz]; rw [hv]; rfl)) kk
theorem call_ok {pc j na : Nat} {L : AL} {S S' as : List AV} {h : AH} (hS : S = as.reverse ++ S') (hn : as.length = na) (h8 : S'.length ≤ 8) : call pc L S h j na = some (.inr (.inl (j, as, pc + 3, L, S', h))) := by
  subst hS
  subst hn
  unfold call
  rw [if_pos ⟨by simp, by simp [h8]⟩]
  simp
theorem gw_static {x q kd po dc : Nat} {r' : MR} {S' : List AV} (as : List AV) (hm : mrec j = some r) (hf : fch r.2.1 pc = some (.invokestatic x)) (hl : lk invT r.2.2.2.2.1 x = some (q, kd, po)) (hkd : kd = 0 ∨ kd = 1) (hr : mrec q = some r') (hn : as.length = r'.2.2.2.2.2.1) (h8 : S'.length ≤ 8) (hd : dc ≤ d) (he : Ew zs dc q as w (fun v w1 => Gw zs (d + 1) j (pc + 3) L (v.toList ++ S') w1 Q)) (hS : S = as.reverse ++ S') : Gw zs (d + 1) j pc L S w Q := by
  refine gw_sub hm hf (stp_3 rfl ?_) (he.up hd)
  simp only [st3, hl]
  rw [if_neg (by rcases hkd with rfl | rfl <;> decide), if_pos hkd, hr]
  exact call_ok hS hn h8
theorem gw_virtual {x q po dc c ci : Nat} {r' : MR} {S' : List AV} {vs : List AV} {kq : vw_C} (as : List AV) (hm : mrec j = some r) (hf : fch r.2.1 pc = some (.invokevirtual x)) (hl : lk invT r.2.2.2.2.1 x = some (q, 2, po)) (hr : mrec q = some r') (hc : hs[c]? = some (.inl ci, vs)) (hq : kCl[ci]? = some kq) (hcl : kq.1 = r'.1.cls) (hn : as.length + 1 = r'.2.2.2.2.2.1) (h8 : S'.length ≤ 8) (hd : dc ≤ d) (he : Ew zs dc q (.inr (.inl (some c)) :: as) w (fun v w1 => Gw zs (d + 1) j (pc + 3) L (v.toList ++ S') w1 Q)) (hS : S = as.reverse ++ .inr (.inl (some c)) :: S') : Gw zs (d + 1) j pc L S w Q := by
  have hS2 : S = (.inr (.inl (some c)) :: as : List AV).reverse ++ S' := by rw [hS]; simp
  have hn2 : (.inr (.inl (some c)) :: as : List AV).length = r'.2.2.2.2.2.1 := by simpa using hn
  refine gw_sub hm hf (stp_3 rfl ?_) (he.up hd)
  simp only [st3, hl, if_true, hr]
  have h1 : (S.take r'.2.2.2.2.2.1).reverse = .inr (.inl (some c)) :: as := by
    rw [hS2, ← hn2, List.take_left' (by simp), List.reverse_reverse]
  rw [h1, if_pos (by simp only [rcv, mk_O hc, hq]; exact decide_eq_true hcl)]
  exact call_ok hS2 hn2 h8
theorem gw_max {x q po : Nat} {a y : Int32} (hm : mrec j = some r) (hf : fch r.2.1 pc = some (.invokestatic x)) (hl : lk invT r.2.2.2.2.1 x = some (q, 6, po)) (hd : 1 ≤ d) (h8 : S.length ≤ 8) (kk : Gw zs d j (pc + 3) L (.inl (if a < y then y else a) :: S) w Q) : Gw zs d j pc L (.inl y :: .inl a :: S) w Q :=
  gw_step hm hf (stp_3 rfl (by simp only [st3, hl]; rw [if_pos (by decide), if_pos ⟨hd, h8⟩, if_pos trivial]; rfl)) kk
theorem gw_min {x q po : Nat} {a y : Int32} (hm : mrec j = some r) (hf : fch r.2.1 pc = some (.invokestatic x)) (hl : lk invT r.2.2.2.2.1 x = some (q, 7, po)) (hd : 1 ≤ d) (h8 : S.length ≤ 8) (kk : Gw zs d j (pc + 3) L (.inl (if y < a then y else a) :: S) w Q) : Gw zs d j pc L (.inl y :: .inl a :: S) w Q :=
  gw_step hm hf (stp_3 rfl (by simp only [st3, hl]; rw [if_pos (by decide), if_pos ⟨hd, h8⟩, if_neg (by decide)]; rfl)) kk
theorem gw_iret {x : Int32} (hm : mrec j = some r) (hf : fch r.2.1 pc = some .ireturn) (hrt : r.2.2.2.1 = some .int) (k : Q (some (.inl x)) w) : Gw zs d j pc L [.inl x] w Q := gw_end hm hf (stp_3 rfl (by simp only [st3, hrt])) k
theorem gw_zret {x : Int32} (hm : mrec j = some r) (hf : fch r.2.1 pc = some .ireturn) (hrt : r.2.2.2.1 = some .boolean) (hx : x = 0 ∨ x = 1) (k : Q (some (.inl x)) w) : Gw zs d j pc L [.inl x] w Q := gw_end hm hf (stp_3 rfl (by simp only [st3, hrt]; rw [if_pos hx])) k
theorem gw_aret {x : Option Nat} {C : String} (hm : mrec j = some r) (hf : fch r.2.1 pc = some .areturn) (hrt : r.2.2.2.1 = some (.object C)) (k : Q (some (.inr (.inl x))) w) : Gw zs d j pc L [.inr (.inl x)] w Q := gw_end hm hf (stp_3 rfl (by simp only [st3, hrt])) k
theorem gw_vret (hm : mrec j = some r) (hf : fch r.2.1 pc = some .return_) (hrt : r.2.2.2.1 = none) (k : Q none w) : Gw zs d j pc L [] w Q := gw_end hm hf (stp_3 rfl (by simp only [st3, hrt])) k
theorem ew_of {as : List AV} {L : AL} (hr : mrec j = some r) (hL : as.map some ++ List.replicate (r.2.2.1 - as.length) none = L) (h : Gw zs d j 0 L [] w Q) : Ew zs d j as w Q := ⟨r, hr, by rw [hL]; exact h⟩
end GR
