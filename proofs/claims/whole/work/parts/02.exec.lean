/-! A MACHINE IN SMALL: the bytecode run over cells of numbers; what it yields, the real machine yields (part 03) -/
/-- a value: an int; null or a cell by its number; a table that is only read -/
abbrev AV : Type := Int32 ⊕ (Option Nat ⊕ Nat)
/-- a cell: the number of its class, or the type of its elements; what it holds -/
abbrev AC : Type := (Nat ⊕ FieldType) × List AV
abbrev AH : Type := List AC
abbrev AL : Type := List (Option AV)
abbrev AS : Type := Nat × (AL × (List AV × AH))
abbrev AR : Type := AS ⊕ ((Nat × (List AV × AS)) ⊕ (Option AV × AH))
def vi (v : AV) : Int32 := match v with
  | .inl x => x
  | _ => 0
def vr (v : AV) : Option Nat := match v with
  | .inr (.inl r) => r
  | _ => none
def ld (L : AL) (k : Nat) : Option AV := match L[k]? with
  | some (some v) => some v
  | _ => none
def nx (pc : Nat) (L : AL) (S : List AV) (h : AH) : Option AR := some (.inl (pc, L, S, h))
def sto (pc : Nat) (L : AL) (k : Nat) (v : AV) (S : List AV) (h : AH) : Option AR := if k < L.length then nx pc (L.set k (some v)) S h else none
def jp (pc : Nat) (o : Int) (L : AL) (S : List AV) (h : AH) : Option AR := if 0 ≤ (pc : Int) + o then nx ((pc : Int) + o).toNat L S h else none
def br (pc : Nat) (o : Int) (t : Bool) (L : AL) (S : List AV) (h : AH) : Option AR := if 0 ≤ (pc : Int) + o then nx (if t = true then ((pc : Int) + o).toNat else pc + 3) L S h else none
def dv (ty : FieldType) : AV := match ty with
  | .int => .inl 0
  | .boolean => .inl 0
  | _ => .inr (.inl none)
def fitA (ty : FieldType) (v : AV) : Bool := match ty, v with
  | .int, .inl _ => true
  | .boolean, .inl x => x == 0 || x == 1
  | .object _, .inr (.inl _) => true
  | .array _, .inr (.inl _) => true
  | _, _ => false
def lk {α : Type} (T : List (List (Nat × α))) (K i : Nat) : Option α := match T[K]? with
  | some l => (match l.find? (fun e => e.1 == i) with
    | some e => some e.2
    | none => none)
  | none => none
/-- a number of slots -/
def slz : AH → Nat
  | [] => 0
  | c :: l => c.2.length + slz l
def tsw (dflt lo hi : Int) (offs : Array Int) (x : Int32) : Option Int := if x.toInt < lo ∨ hi < x.toInt then some dflt else offs[(x.toInt - lo).toNat]?
def call (pc : Nat) (L : AL) (S : List AV) (h : AH) (j na : Nat) : Option AR := if na ≤ S.length ∧ (S.drop na).length ≤ 8 then some (.inr (.inl (j, ((S.take na).reverse, (pc + 3, L, S.drop na, h))))) else none
/-- is the receiver a cell of this class -/
def rcv (h : AH) (as : List AV) (C : String) : Bool := match as with
  | .inr (.inl (some a)) :: _ => (match h[a]? with
    | some (.inl ci, _) => (match kCl[ci]? with
      | some q => decide (q.1 = C)
      | none => false)
    | _ => false)
  | _ => false
def rcvN (as : List AV) : Bool := match as with
  | .inr (.inl (some _)) :: _ => true
  | _ => false
/-- instructions that leave the cells alone and call nothing -/
def st1 (i : Instr) (pc : Nat) (L : AL) (S : List AV) (h : AH) : Option AR := match i, S with
  | .iconst n, S => nx (pc + 1) L (.inl (Int32.ofInt n) :: S) h
  | .bipush n, S => nx (pc + 2) L (.inl (Int8.ofInt n).toInt32 :: S) h
  | .sipush n, S => nx (pc + 3) L (.inl (Int16.ofInt n).toInt32 :: S) h
  | .aconst_null, S => nx (pc + 1) L (.inr (.inl none) :: S) h
  | .iload_n k, S => (match ld L k with
    | some (.inl x) => nx (pc + 1) L (.inl x :: S) h
    | _ => none)
  | .iload k, S => (match ld L k with
    | some (.inl x) => nx (pc + 2) L (.inl x :: S) h
    | _ => none)
  | .aload_n k, S => (match ld L k with
    | some (.inr x) => nx (pc + 1) L (.inr x :: S) h
    | _ => none)
  | .aload k, S => (match ld L k with
    | some (.inr x) => nx (pc + 2) L (.inr x :: S) h
    | _ => none)
  | .istore_n k, .inl x :: S => sto (pc + 1) L k (.inl x) S h
  | .istore k, .inl x :: S => sto (pc + 2) L k (.inl x) S h
  | .astore_n k, .inr x :: S => sto (pc + 1) L k (.inr x) S h
  | .astore k, .inr x :: S => sto (pc + 2) L k (.inr x) S h
  | .iinc k n, S => (match ld L k with
    | some (.inl x) => sto (pc + 3) L k (.inl (x + Int32.ofInt n)) S h
    | _ => none)
  | .dup, v :: S => nx (pc + 1) L (v :: v :: S) h
  | .dup2, v :: w :: S => nx (pc + 1) L (v :: w :: v :: w :: S) h
  | .pop, _ :: S => nx (pc + 1) L S h
  | .iadd, .inl y :: .inl x :: S => nx (pc + 1) L (.inl (x + y) :: S) h
  | .isub, .inl y :: .inl x :: S => nx (pc + 1) L (.inl (x - y) :: S) h
  | .imul, .inl y :: .inl x :: S => nx (pc + 1) L (.inl (x * y) :: S) h
  | .iand, .inl y :: .inl x :: S => nx (pc + 1) L (.inl (x &&& y) :: S) h
  | .ior, .inl y :: .inl x :: S => nx (pc + 1) L (.inl (x ||| y) :: S) h
  | .ishl, .inl y :: .inl x :: S => nx (pc + 1) L (.inl (x <<< (y &&& 31)) :: S) h
  | .ishr, .inl y :: .inl x :: S => nx (pc + 1) L (.inl (x >>> (y &&& 31)) :: S) h
  | .idiv, .inl y :: .inl x :: S => if y = 0 then none else nx (pc + 1) L (.inl (x / y) :: S) h
  | .irem, .inl y :: .inl x :: S => if y = 0 then none else nx (pc + 1) L (.inl (x - x / y * y) :: S) h
  | .ifCond .eq o, .inl x :: S => br pc o (decide (x = 0)) L S h
  | .ifCond .ne o, .inl x :: S => br pc o (decide (¬ x = 0)) L S h
  | .ifCond .lt o, .inl x :: S => br pc o (decide (x < 0)) L S h
  | .ifCond .ge o, .inl x :: S => br pc o (decide (0 ≤ x)) L S h
  | .ifCond .gt o, .inl x :: S => br pc o (decide (0 < x)) L S h
  | .ifCond .le o, .inl x :: S => br pc o (decide (x ≤ 0)) L S h
  | .if_icmp .eq o, .inl y :: .inl x :: S => br pc o (decide (x = y)) L S h
  | .if_icmp .ne o, .inl y :: .inl x :: S => br pc o (decide (¬ x = y)) L S h
  | .if_icmp .lt o, .inl y :: .inl x :: S => br pc o (decide (x < y)) L S h
  | .if_icmp .ge o, .inl y :: .inl x :: S => br pc o (decide (y ≤ x)) L S h
  | .if_icmp .gt o, .inl y :: .inl x :: S => br pc o (decide (y < x)) L S h
  | .if_icmp .le o, .inl y :: .inl x :: S => br pc o (decide (x ≤ y)) L S h
  | .goto o, S => jp pc o L S h
  | .ifnull o, .inr (.inl none) :: S => jp pc o L S h
  | .ifnull _, .inr (.inl (some _)) :: S => nx (pc + 3) L S h
  | .ifnonnull _, .inr (.inl none) :: S => nx (pc + 3) L S h
  | .ifnonnull o, .inr (.inl (some _)) :: S => jp pc o L S h
  | .tableswitch d lo hi offs, .inl x :: S => (match tsw d lo hi offs x with
    | some o => jp pc o L S h
    | none => none)
  | .lookupswitch d ps, .inl x :: S => if (ps.toList.zip (ps.toList.drop 1)).all (fun (a, next) => a.1 < next.1) = true then jp pc (Op.lookupswitch.offset ps.toList d x.toInt) L S h else none
  | _, _ => none
/-- cells read, written, made (K: the method's class, ini: is it a constructor) -/
def st2 (ro : List (List Int32)) (K : Nat) (ini : Bool) (i : Instr) (pc : Nat) (L : AL) (S : List AV) (h : AH) : Option AR := match i, S with
  | .getfield x, .inr (.inl (some a)) :: S => (match lk fldT K x, h[a]? with
    | some (ci, k, _), some (.inl c, fs) => if c = ci then (match fs[k]? with
      | some v => nx (pc + 3) L (v :: S) h
      | none => none) else none
    | _, _ => none)
  | .putfield x, v :: .inr (.inl (some a)) :: S => (match lk fldT K x, h[a]? with
    | some (ci, k, _), some (.inl c, fs) => if c = ci ∧ k < fs.length then (match kCl[ci]?, kTy[ci]? with
      | some q, some ty => if fitA (ty k) v = true ∧ ((q.2.1 k).2.2.2 = false ∨ (ini = true ∧ kN[K]? = some (q.2.1 k).1)) then nx (pc + 3) L S (h.set a (.inl c, fs.set k v)) else none
      | _, _ => none) else none
    | _, _ => none)
  | .getstatic x, S => (match lk gsT K x with
    | some (j, _) => nx (pc + 3) L (.inr (.inr j) :: S) h
    | none => none)
  | .iaload, .inl i :: .inr (.inl (some a)) :: S => (match h[a]? with
    | some (.inr .int, xs) => if i < 0 ∨ xs.length ≤ i.toNatClampNeg then none else nx (pc + 1) L (.inl (vi (xs.getD i.toNatClampNeg (.inl 0))) :: S) h
    | _ => none)
  | .iaload, .inl i :: .inr (.inr j) :: S => (match ro[j]? with
    | some zs => if i < 0 ∨ zs.length ≤ i.toNatClampNeg then none else nx (pc + 1) L (.inl (zs.getD i.toNatClampNeg 0) :: S) h
    | none => none)
  | .baload, .inl i :: .inr (.inl (some a)) :: S => (match h[a]? with
    | some (.inr .boolean, xs) => if i < 0 ∨ xs.length ≤ i.toNatClampNeg then none else nx (pc + 1) L (.inl (vi (xs.getD i.toNatClampNeg (.inl 0))) :: S) h
    | _ => none)
  | .aaload, .inl i :: .inr (.inl (some a)) :: S => (match h[a]? with
    | some (.inr (.object _), xs) => if i < 0 ∨ xs.length ≤ i.toNatClampNeg then none else nx (pc + 1) L (.inr (.inl (vr (xs.getD i.toNatClampNeg (.inl 0)))) :: S) h
    | _ => none)
  | .iastore, .inl x :: .inl i :: .inr (.inl (some a)) :: S => (match h[a]? with
    | some (.inr .int, xs) => if i < 0 ∨ xs.length ≤ i.toNatClampNeg then none else nx (pc + 1) L S (h.set a (.inr .int, xs.set i.toNatClampNeg (.inl x)))
    | _ => none)
  | .bastore, .inl x :: .inl i :: .inr (.inl (some a)) :: S => (match h[a]? with
    | some (.inr .boolean, xs) => if i < 0 ∨ xs.length ≤ i.toNatClampNeg then none else nx (pc + 1) L S (h.set a (.inr .boolean, xs.set i.toNatClampNeg (.inl (x &&& 1))))
    | _ => none)
  | .aastore, .inr (.inl (some v)) :: .inl i :: .inr (.inl (some a)) :: S => (match h[a]?, h[v]? with
    | some (.inr (.object C), xs), some (.inl ci, _) => (match kCl[ci]? with
      | some q => if q.1 = C ∧ ¬ (i < 0 ∨ xs.length ≤ i.toNatClampNeg) then nx (pc + 1) L S (h.set a (.inr (.object C), xs.set i.toNatClampNeg (.inr (.inl (some v))))) else none
      | none => none)
    | _, _ => none)
  | .arraylength, .inr (.inl (some a)) :: S => (match h[a]? with
    | some (.inr .int, xs) => nx (pc + 1) L (.inl (Int32.ofNat xs.length) :: S) h
    | some (.inr .boolean, xs) => nx (pc + 1) L (.inl (Int32.ofNat xs.length) :: S) h
    | some (.inr (.object _), xs) => nx (pc + 1) L (.inl (Int32.ofNat xs.length) :: S) h
    | _ => none)
  | .arraylength, .inr (.inr j) :: S => (match ro[j]? with
    | some zs => nx (pc + 1) L (.inl (Int32.ofNat zs.length) :: S) h
    | none => none)
  | .new x, S => (match lk newT K x with
    | some (ci, _, _) => (match kCl[ci]?, kTy[ci]? with
      | some q, some ty => nx (pc + 3) L (.inr (.inl (some h.length)) :: S) (h ++ [(.inl ci, (List.range q.2.2).map (fun k => dv (ty k)))])
      | _, _ => none)
    | none => none)
  | .newarray .int, .inl n :: S => if n < 0 ∨ 65536 ≤ n.toNatClampNeg then none else nx (pc + 2) L (.inr (.inl (some h.length)) :: S) (h ++ [(.inr .int, List.replicate n.toNatClampNeg (.inl 0))])
  | .newarray .boolean, .inl n :: S => if n < 0 ∨ 65536 ≤ n.toNatClampNeg then none else nx (pc + 2) L (.inr (.inl (some h.length)) :: S) (h ++ [(.inr .boolean, List.replicate n.toNatClampNeg (.inl 0))])
  | .anewarray x, .inl n :: S => (match lk anT K x with
    | some (C, _, _) => if n < 0 ∨ 65536 ≤ n.toNatClampNeg then none else nx (pc + 3) L (.inr (.inl (some h.length)) :: S) (h ++ [(.inr (.object C), List.replicate n.toNatClampNeg (.inr (.inl none)))])
    | none => none)
  | _, _ => none
/-- calls and returns (d: how many frames deep it may call, rt: the method's type) -/
def st3 (d K : Nat) (rt : Option FieldType) (i : Instr) (pc : Nat) (L : AL) (S : List AV) (h : AH) : Option AR := match i, S with
  | .invokestatic x, S => (match lk invT K x with
    | some (j, kd, _) => if kd = 6 ∨ kd = 7 then (match S with
        | .inl y :: .inl x :: S => if 1 ≤ d ∧ S.length ≤ 8 then nx (pc + 3) L (.inl (if kd = 6 then (if x < y then y else x) else (if y < x then y else x)) :: S) h else none
        | _ => none)
      else if kd = 0 ∨ kd = 1 then (match mrec j with
        | some r => call pc L S h j r.2.2.2.2.2.1
        | none => none) else none
    | none => none)
  | .invokevirtual x, S => (match lk invT K x with
    | some (j, kd, _) => if kd = 2 then (match mrec j with
        | some r => if rcv h (S.take r.2.2.2.2.2.1).reverse r.1.cls = true then call pc L S h j r.2.2.2.2.2.1 else none
        | none => none) else none
    | none => none)
  | .invokespecial x, S => (match lk objT K x with
    | some _ => (match S with
      | .inr (.inl (some _)) :: S => if 1 ≤ d ∧ S.length ≤ 8 then nx (pc + 3) L S h else none
      | _ => none)
    | none => (match lk invT K x with
      | some (j, kd, _) => if kd = 4 ∨ kd = 5 then (match mrec j with
        | some r => if rcvN (S.take r.2.2.2.2.2.1).reverse = true then call pc L S h j r.2.2.2.2.2.1 else none
        | none => none) else none
      | none => none))
  | .ireturn, [.inl x] => (match rt with
    | some .int => some (.inr (.inr (some (.inl x), h)))
    | some .boolean => if x = 0 ∨ x = 1 then some (.inr (.inr (some (.inl x), h))) else none
    | _ => none)
  | .areturn, [.inr (.inl r)] => (match rt with
    | some (.object _) => some (.inr (.inr (some (.inr (.inl r)), h)))
    | _ => none)
  | .return_, [] => (match rt with
    | none => some (.inr (.inr (none, h)))
    | _ => none)
  | _, _ => none
/-- lengths of instructions, and which of the three -/
def kind (i : Instr) : Nat × Nat := match i with
  | .iconst _ | .aconst_null | .iload_n _ | .aload_n _ | .istore_n _ | .astore_n _ | .dup | .dup2 | .pop | .iadd | .isub | .imul | .iand | .ior | .ishl | .ishr | .idiv | .irem => (1, 1)
  | .bipush _ | .iload _ | .aload _ | .istore _ | .astore _ => (1, 2)
  | .sipush _ | .iinc _ _ | .ifCond _ _ | .if_icmp _ _ | .goto _ | .ifnull _ | .ifnonnull _ => (1, 3)
  | .tableswitch .. | .lookupswitch .. => (1, 0)
  | .getfield _ | .putfield _ | .getstatic _ | .new _ | .anewarray _ => (2, 3)
  | .iaload | .baload | .aaload | .iastore | .bastore | .aastore | .arraylength => (2, 1)
  | .newarray _ => (2, 2)
  | .invokestatic _ | .invokevirtual _ | .invokespecial _ => (3, 3)
  | .ireturn | .areturn | .return_ => (3, 1)
  | _ => (0, 0)
def fch (b : ByteArray) (pc : Nat) : Option Instr := match decode b pc with
  | .ok (i, n) => if (kind i).2 = 0 ∨ (kind i).2 = n then some i else none
  | .error _ => none
def stp (ro : List (List Int32)) (d : Nat) (r : MR) (i : Instr) (pc : Nat) (L : AL) (S : List AV) (h : AH) : Option AR :=
  if (kind i).1 = 1 then st1 i pc L S h else if (kind i).1 = 2 then st2 ro r.2.2.2.2.1 (decide (r.1.name = "<init>")) i pc L S h else if (kind i).1 = 3 then st3 d r.2.2.2.2.1 r.2.2.2.1 i pc L S h else none
def ent (r : MR) (as : List AV) (h : AH) : AS := (0, as.map some ++ List.replicate (r.2.2.1 - as.length) none, [], h)
def run (ro : List (List Int32)) : Nat → Nat → Nat → AS → Option (Option AV × AH)
  | 0, _, _, _ => none
  | f + 1, d, j, s => match mrec j with
    | none => none
    | some r => match fch r.2.1 s.1 with
      | none => none
      | some i => match stp ro d r i s.1 s.2.1 s.2.2.1 s.2.2.2 with
        | none => none
        | some (.inl s') => run ro f d j s'
        | some (.inr (.inr o)) => some o
        | some (.inr (.inl (k, as, s'))) => match d, mrec k with
          | d' + 1, some r' => (match run ro f d' k (ent r' as s'.2.2.2) with
            | some (v, h') => run ro f (d' + 1) j (s'.1, s'.2.1, v.toList ++ s'.2.2.1, h')
            | none => none)
          | _, _ => none
theorem slz_app (a c : AH) : slz (a ++ c) = slz a + slz c := by
  induction a with
  | nil => simp [slz]
  | cons x l ih => simp [slz, ih, Nat.add_assoc]
theorem slz_set {h : AH} {a : Nat} {c e : AC} (hc : h[a]? = some c) (hl : e.2.length = c.2.length) : slz (h.set a e) = slz h := by
  induction h generalizing a with
  | nil => simp at hc
  | cons x l ih =>
    cases a with
    | zero =>
      simp at hc
      subst hc
      simp [slz, hl]
    | succ a =>
      simp at hc
      simp [slz, ih hc]
def hle (h h' : AH) : Prop := h.length ≤ h'.length ∧ slz h ≤ slz h'
theorem hle.rf (h : AH) : hle h h := ⟨Nat.le_refl _, Nat.le_refl _⟩
theorem hle.tr {a b c : AH} (h1 : hle a b) (h2 : hle b c) : hle a c := ⟨Nat.le_trans h1.1 h2.1, Nat.le_trans h1.2 h2.2⟩
theorem hle.push (h : AH) (c : AC) : hle h (h ++ [c]) := ⟨by simp, by rw [slz_app]; omega⟩
theorem hle.set {h : AH} {a : Nat} {c e : AC} (hc : h[a]? = some c) (hl : e.2.length = c.2.length) : hle h (h.set a e) := ⟨by simp, by rw [slz_set hc hl]; exact Nat.le_refl _⟩
/-- what the next state's cells are -/
def arh : AR → AH
  | .inl s => s.2.2.2
  | .inr (.inl q) => q.2.2.2.2.2
  | .inr (.inr o) => o.2
theorem nx_h {pc : Nat} {L : AL} {S : List AV} {h : AH} {x : AR} (e : nx pc L S h = some x) : arh x = h := by
  cases e
  rfl
theorem sto_h {pc k : Nat} {L : AL} {v : AV} {S : List AV} {h : AH} {x : AR} (e : sto pc L k v S h = some x) : arh x = h := by
  unfold sto at e
  split at e
  · exact nx_h e
  · cases e
theorem jp_h {pc : Nat} {o : Int} {L : AL} {S : List AV} {h : AH} {x : AR} (e : jp pc o L S h = some x) : arh x = h := by
  unfold jp at e
  split at e
  · exact nx_h e
  · cases e
theorem br_h {pc : Nat} {o : Int} {t : Bool} {L : AL} {S : List AV} {h : AH} {x : AR} (e : br pc o t L S h = some x) : arh x = h := by
  unfold br at e
  split at e
  · exact nx_h e
  · cases e
theorem call_h {pc j na : Nat} {L : AL} {S : List AV} {h : AH} {x : AR} (e : call pc L S h j na = some x) : arh x = h := by
  unfold call at e
  split at e
  · cases e
    rfl
  · cases e
set_option maxHeartbeats 4000000 in
theorem st1_h {i : Instr} {pc : Nat} {L : AL} {S : List AV} {h : AH} {x : AR} (e : st1 i pc L S h = some x) : arh x = h := by
  unfold st1 at e
  repeat' split at e
  all_goals first
    | exact nx_h e
    | exact sto_h e
    | exact jp_h e
    | exact br_h e
    | cases e
set_option maxHeartbeats 4000000 in
theorem st3_h {d K : Nat} {rt : Option FieldType} {i : Instr} {pc : Nat} {L : AL} {S : List AV} {h : AH} {x : AR} (e : st3 d K rt i pc L S h = some x) : arh x = h := by
  unfold st3 at e
  repeat' split at e
  all_goals first
    | exact nx_h e
    | exact call_h e
    | (cases e; rfl)
    | cases e
set_option maxHeartbeats 4000000 in
theorem st2_h {ro : List (List Int32)} {K : Nat} {ini : Bool} {i : Instr} {pc : Nat} {L : AL} {S : List AV} {h : AH} {x : AR} (e : st2 ro K ini i pc L S h = some x) : hle h (arh x) := by
  unfold st2 at e
  repeat' split at e
  all_goals first
    | (rw [nx_h e]; exact hle.rf h)
    | (rw [nx_h e]; exact hle.push h _)
    | (rw [nx_h e]; exact hle.set (by assumption) (by simp))
    | cases e
theorem stp_h {ro : List (List Int32)} {d : Nat} {r : MR} {i : Instr} {pc : Nat} {L : AL} {S : List AV} {h : AH} {x : AR} (e : stp ro d r i pc L S h = some x) : hle h (arh x) := by
  unfold stp at e
  split at e
  · rw [st1_h e]; exact hle.rf h
  · split at e
    · exact st2_h e
    · split at e
      · rw [st3_h e]; exact hle.rf h
      · cases e
theorem run_h (ro : List (List Int32)) : ∀ (f d j : Nat) (s : AS) (o : Option AV × AH), run ro f d j s = some o → hle s.2.2.2 o.2 := by
  intro f
  induction f with
  | zero => intro d j s o e; simp [run] at e
  | succ f ih =>
    intro d j s o e
    rw [run] at e
    split at e
    · cases e
    · split at e
      · cases e
      · split at e
        · cases e
        · rename_i s' h1
          exact hle.tr (stp_h h1) (ih _ _ _ _ e)
        · rename_i o' h1
          cases e
          exact stp_h h1
        · rename_i k as s' h1
          split at e
          · split at e
            · rename_i v h' h2
              exact hle.tr (stp_h h1) (hle.tr (b := h') (ih _ _ _ _ h2) (ih _ _ _ _ e))
            · cases e
          · cases e
