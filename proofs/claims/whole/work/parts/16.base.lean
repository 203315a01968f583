/-! Small things: writes and reads of worlds, rows of the choir's class read and put with care -/
theorem wr_nc {w : Wd} {c k c' k' : Nat} {v : Int32} (h : c' ≠ c) : wr w c k v c' k' = w c' k' := if_neg (fun q => h q.1)
theorem wr_nk {w : Wd} {c k c' k' : Nat} {v : Int32} (h : k' ≠ k) : wr w c k v c' k' = w c' k' := if_neg (fun q => h q.2)
theorem wr_eq {w : Wd} {c k : Nat} {v : Int32} : wr w c k v c k = v := if_pos ⟨rfl, rfl⟩
theorem vin {i v : Int32} {n : Nat} (hv : Int32.ofNat n = v) (hn : n < 2147483648) (h1 : ¬ i < 0) (h2 : ¬ v ≤ i) : vp_in i n := by
  rcases pk_ix i (n := n) hn with h | h | ⟨j, hj, rfl⟩
  · exact absurd h h1
  · exact absurd (hv ▸ h) h2
  · exact vp_in_nI hj hn
theorem vin_nI {i : Nat} {n : Nat} (h : i < n) (hn : n < 2147483648) : vp_in (nI i) n := vp_in_nI h hn
/-- the things of many: verses, cadences, tones -/
def isVer (b : Nat) : Prop := hs[b]? = some (.inl 8, [.inr (.inl (some (b + 1))), .inl 0, .inl 0]) ∧ hs[b + 1]? = some (.inr .boolean, List.replicate 60 (.inl 0))
def isCad (b : Nat) : Prop := hs[b]? = some (.inl 1, [.inr (.inl (some (b + 1))), .inr (.inl (some (b + 2))), .inl 0, .inl 0]) ∧ hs[b + 1]? = some (.inr .int, List.replicate 3 (.inl 0)) ∧ hs[b + 2]? = some (.inr .int, List.replicate 6 (.inl 0))
def isTon (b : Nat) : Prop := hs[b]? = some (.inl 7, [.inr (.inl (some (b + 1))), .inr (.inl (some (b + 2))), .inr (.inl (some (b + 5))), .inl 0, .inl 0]) ∧ hs[b + 1]? = some (.inr .int, List.replicate 4 (.inl 0)) ∧ isCad (b + 2) ∧ isCad (b + 5)
theorem ton_is {t : Nat} (h : t < 9) : isTon (31 + 8 * t) := by
  have : t = 0 ∨ t = 1 ∨ t = 2 ∨ t = 3 ∨ t = 4 ∨ t = 5 ∨ t = 6 ∨ t = 7 ∨ t = 8 := by omega
  rcases this with rfl | rfl | rfl | rfl | rfl | rfl | rfl | rfl | rfl
  · exact ⟨hc31, hc32, ⟨hc33, hc34, hc35⟩, ⟨hc36, hc37, hc38⟩⟩
  · exact ⟨hc39, hc40, ⟨hc41, hc42, hc43⟩, ⟨hc44, hc45, hc46⟩⟩
  · exact ⟨hc47, hc48, ⟨hc49, hc50, hc51⟩, ⟨hc52, hc53, hc54⟩⟩
  · exact ⟨hc55, hc56, ⟨hc57, hc58, hc59⟩, ⟨hc60, hc61, hc62⟩⟩
  · exact ⟨hc63, hc64, ⟨hc65, hc66, hc67⟩, ⟨hc68, hc69, hc70⟩⟩
  · exact ⟨hc71, hc72, ⟨hc73, hc74, hc75⟩, ⟨hc76, hc77, hc78⟩⟩
  · exact ⟨hc79, hc80, ⟨hc81, hc82, hc83⟩, ⟨hc84, hc85, hc86⟩⟩
  · exact ⟨hc87, hc88, ⟨hc89, hc90, hc91⟩, ⟨hc92, hc93, hc94⟩⟩
  · exact ⟨hc95, hc96, ⟨hc97, hc98, hc99⟩, ⟨hc100, hc101, hc102⟩⟩
theorem ver_is {t : Nat} (h : t < 20) : isVer (104 + 2 * t) := by
  have : t = 0 ∨ t = 1 ∨ t = 2 ∨ t = 3 ∨ t = 4 ∨ t = 5 ∨ t = 6 ∨ t = 7 ∨ t = 8 ∨ t = 9 ∨ t = 10 ∨ t = 11 ∨ t = 12 ∨ t = 13 ∨ t = 14 ∨ t = 15 ∨ t = 16 ∨ t = 17 ∨ t = 18 ∨ t = 19 := by omega
  rcases this with rfl | rfl | rfl | rfl | rfl | rfl | rfl | rfl | rfl | rfl | rfl | rfl | rfl | rfl | rfl | rfl | rfl | rfl | rfl | rfl
  · exact ⟨hc104, hc105⟩
  · exact ⟨hc106, hc107⟩
  · exact ⟨hc108, hc109⟩
  · exact ⟨hc110, hc111⟩
  · exact ⟨hc112, hc113⟩
  · exact ⟨hc114, hc115⟩
  · exact ⟨hc116, hc117⟩
  · exact ⟨hc118, hc119⟩
  · exact ⟨hc120, hc121⟩
  · exact ⟨hc122, hc123⟩
  · exact ⟨hc124, hc125⟩
  · exact ⟨hc126, hc127⟩
  · exact ⟨hc128, hc129⟩
  · exact ⟨hc130, hc131⟩
  · exact ⟨hc132, hc133⟩
  · exact ⟨hc134, hc135⟩
  · exact ⟨hc136, hc137⟩
  · exact ⟨hc138, hc139⟩
  · exact ⟨hc140, hc141⟩
  · exact ⟨hc142, hc143⟩
theorem ton_el {t : Nat} (h : t < 9) : ([.inr (.inl (some 31)), .inr (.inl (some 39)), .inr (.inl (some 47)), .inr (.inl (some 55)), .inr (.inl (some 63)), .inr (.inl (some 71)), .inr (.inl (some 79)), .inr (.inl (some 87)), .inr (.inl (some 95))] : List AV)[t]? = some (.inr (.inl (some (31 + 8 * t)))) := by
  have : t = 0 ∨ t = 1 ∨ t = 2 ∨ t = 3 ∨ t = 4 ∨ t = 5 ∨ t = 6 ∨ t = 7 ∨ t = 8 := by omega
  rcases this with rfl | rfl | rfl | rfl | rfl | rfl | rfl | rfl | rfl <;> rfl
theorem ver_el {t : Nat} (h : t < 20) : ([.inr (.inl (some 104)), .inr (.inl (some 106)), .inr (.inl (some 108)), .inr (.inl (some 110)), .inr (.inl (some 112)), .inr (.inl (some 114)), .inr (.inl (some 116)), .inr (.inl (some 118)), .inr (.inl (some 120)), .inr (.inl (some 122)), .inr (.inl (some 124)), .inr (.inl (some 126)), .inr (.inl (some 128)), .inr (.inl (some 130)), .inr (.inl (some 132)), .inr (.inl (some 134)), .inr (.inl (some 136)), .inr (.inl (some 138)), .inr (.inl (some 140)), .inr (.inl (some 142))] : List AV)[t]? = some (.inr (.inl (some (104 + 2 * t)))) := by
  have : t = 0 ∨ t = 1 ∨ t = 2 ∨ t = 3 ∨ t = 4 ∨ t = 5 ∨ t = 6 ∨ t = 7 ∨ t = 8 ∨ t = 9 ∨ t = 10 ∨ t = 11 ∨ t = 12 ∨ t = 13 ∨ t = 14 ∨ t = 15 ∨ t = 16 ∨ t = 17 ∨ t = 18 ∨ t = 19 := by omega
  rcases this with rfl | rfl | rfl | rfl | rfl | rfl | rfl | rfl | rfl | rfl | rfl | rfl | rfl | rfl | rfl | rfl | rfl | rfl | rfl | rfl <;> rfl
section B1
variable {zs : List Int32} {d j pc : Nat} {L : AL} {S : List AV} {w : Wd} {Q : Option AV → Wd → Prop} {r : MR}
theorem gw_ls2 {dflt o0 o1 : Int} {t0 t1 td : Nat} {x : Int32} (hm : mrec j = some r) (hf : fch r.2.1 pc = some (.lookupswitch dflt #[(0, o0), (1, o1)])) (h0 : (pc : Int) + o0 = (t0 : Int)) (h1 : (pc : Int) + o1 = (t1 : Int)) (hd : (pc : Int) + dflt = (td : Int)) (k0 : x = 0 → Gw zs d j t0 L S w Q) (k1 : x = 1 → Gw zs d j t1 L S w Q) (kd : ¬ x = 0 → ¬ x = 1 → Gw zs d j td L S w Q) : Gw zs d j pc L (.inl x :: S) w Q := by
  have hs : (((#[((0 : Int), o0), (1, o1)] : Array (Int × Int)).toList.zip ((#[((0 : Int), o0), (1, o1)] : Array (Int × Int)).toList.drop 1)).all (fun (a, next) => a.1 < next.1)) = true := rfl
  have go : ∀ (o : Int) (t : Nat), Op.lookupswitch.offset (#[((0 : Int), o0), (1, o1)] : Array (Int × Int)).toList dflt x.toInt = o → (pc : Int) + o = (t : Int) → Gw zs d j t L S w Q → Gw zs d j pc L (.inl x :: S) w Q := by
    intro o t he ht k
    have g0 : 0 ≤ (pc : Int) + o := by omega
    have g1 : ((pc : Int) + o).toNat = t := by omega
    exact gw_step hm hf (stp_1 rfl (by simp only [st1]; rw [if_pos hs, he, jp, if_pos g0, g1]; rfl)) k
  by_cases c0 : x = 0
  · subst c0
    exact go o0 t0 rfl h0 (k0 rfl)
  · by_cases c1 : x = 1
    · subst c1
      exact go o1 t1 rfl h1 (k1 rfl)
    · refine go dflt td ?_ hd (kd c0 c1)
      have n0 : ¬ x.toInt = 0 := fun q => c0 (Int32.toInt_inj.mp (q.trans rfl))
      have n1 : ¬ x.toInt = 1 := fun q => c1 (Int32.toInt_inj.mp (q.trans rfl))
      simp [Op.lookupswitch.offset, List.find?, Ne.symm n0, Ne.symm n1, n0, n1]
end B1
/-- a row read with care: -1 off its places -/
def f_at (w : Wd) (c n : Nat) (i : Int32) : Int32 := if i < 0 then -1 else if Int32.ofNat n ≤ i then -1 else w c i.toNatClampNeg
def f_atR (l : List Int32) (i : Int32) : Int32 := if i < 0 then -1 else if Int32.ofNat l.length ≤ i then -1 else l.getD i.toNatClampNeg 0
def g_put (w : Wd) (c n : Nat) (i v : Int32) : Wd := if i < 0 then w else if Int32.ofNat n ≤ i then w else wr w c i.toNatClampNeg v
theorem g_put_ne {w : Wd} {c n : Nat} {i v : Int32} {c' k : Nat} (h : c' ≠ c) : g_put w c n i v c' k = w c' k := by
  unfold g_put
  split
  · rfl
  · split
    · rfl
    · exact wr_nc h
theorem f_at_cg {w w' : Wd} {c n : Nat} {i : Int32} (h : ∀ k, w c k = w' c k) : f_at w c n i = f_at w' c n i := by
  unfold f_at
  rw [h]
theorem ev_at {zs : List Int32} {c n : Nat} {i : Int32} {w : Wd} {Q : Option AV → Wd → Prop} (hc : hs[c]? = some (.inr .int, List.replicate n (.inl 0))) (hn : n < 2147483648) (h : Q (some (.inl (f_at w c n i))) w) : Ew zs 0 m_Bk_at [.inr (.inl (some c)), .inl i] w Q := by
  refine ew_of k_Bk_at rfl ?_
  refine gw_iload_n k_Bk_at f_Bk_at_0 rfl ?_
  refine gw_if_lt (t := 16) k_Bk_at f_Bk_at_1 rfl (fun c1 => ?_) (fun c1 => ?_)
  · refine gw_iconst k_Bk_at f_Bk_at_16 qc_m1 ?_
    refine gw_iret k_Bk_at f_Bk_at_17 rfl ?_
    unfold f_at at h
    rw [if_pos c1] at h
    exact h
  · refine gw_iload_n k_Bk_at f_Bk_at_4 rfl ?_
    refine gw_aload_n k_Bk_at f_Bk_at_5 rfl ?_
    refine gw_alenI k_Bk_at f_Bk_at_6 hc rfl ?_
    refine gw_icmp_ge (t := 16) k_Bk_at f_Bk_at_7 rfl (fun c2 => ?_) (fun c2 => ?_)
    · refine gw_iconst k_Bk_at f_Bk_at_16 qc_m1 ?_
      refine gw_iret k_Bk_at f_Bk_at_17 rfl ?_
      unfold f_at at h
      rw [if_neg c1, if_pos c2] at h
      exact h
    · refine gw_aload_n k_Bk_at f_Bk_at_10 rfl ?_
      refine gw_iload_n k_Bk_at f_Bk_at_11 rfl ?_
      refine gw_iald k_Bk_at f_Bk_at_12 hc (vin rfl hn c1 c2) ?_
      refine gw_goto (t := 17) k_Bk_at f_Bk_at_13 rfl ?_
      refine gw_iret k_Bk_at f_Bk_at_17 rfl ?_
      unfold f_at at h
      rw [if_neg c1, if_neg c2] at h
      exact h
theorem ev_atR {zs : List Int32} (q : Nat) {zl : List Int32} {i : Int32} {w : Wd} {Q : Option AV → Wd → Prop} (hz : (rz zs)[q]? = some zl) (hn : zl.length < 2147483648) (h : Q (some (.inl (f_atR zl i))) w) : Ew zs 0 m_Bk_at [.inr (.inr q), .inl i] w Q := by
  refine ew_of k_Bk_at rfl ?_
  refine gw_iload_n k_Bk_at f_Bk_at_0 rfl ?_
  refine gw_if_lt (t := 16) k_Bk_at f_Bk_at_1 rfl (fun c1 => ?_) (fun c1 => ?_)
  · refine gw_iconst k_Bk_at f_Bk_at_16 qc_m1 ?_
    refine gw_iret k_Bk_at f_Bk_at_17 rfl ?_
    unfold f_atR at h
    rw [if_pos c1] at h
    exact h
  · refine gw_iload_n k_Bk_at f_Bk_at_4 rfl ?_
    refine gw_aload_n k_Bk_at f_Bk_at_5 rfl ?_
    refine gw_ralen k_Bk_at f_Bk_at_6 hz rfl ?_
    refine gw_icmp_ge (t := 16) k_Bk_at f_Bk_at_7 rfl (fun c2 => ?_) (fun c2 => ?_)
    · refine gw_iconst k_Bk_at f_Bk_at_16 qc_m1 ?_
      refine gw_iret k_Bk_at f_Bk_at_17 rfl ?_
      unfold f_atR at h
      rw [if_neg c1, if_pos c2] at h
      exact h
    · refine gw_aload_n k_Bk_at f_Bk_at_10 rfl ?_
      refine gw_iload_n k_Bk_at f_Bk_at_11 rfl ?_
      refine gw_rald k_Bk_at f_Bk_at_12 hz (vin rfl hn c1 c2) ?_
      refine gw_goto (t := 17) k_Bk_at f_Bk_at_13 rfl ?_
      refine gw_iret k_Bk_at f_Bk_at_17 rfl ?_
      unfold f_atR at h
      rw [if_neg c1, if_neg c2] at h
      exact h
theorem ev_put {zs : List Int32} {c n : Nat} {i v : Int32} {w : Wd} {Q : Option AV → Wd → Prop} (hc : hs[c]? = some (.inr .int, List.replicate n (.inl 0))) (hn : n < 2147483648) (h : Q none (g_put w c n i v)) : Ew zs 0 m_Bk_put [.inr (.inl (some c)), .inl i, .inl v] w Q := by
  refine ew_of k_Bk_put rfl ?_
  refine gw_iload_n k_Bk_put f_Bk_put_0 rfl ?_
  refine gw_if_lt (t := 14) k_Bk_put f_Bk_put_1 rfl (fun c1 => ?_) (fun c1 => ?_)
  · refine gw_vret k_Bk_put f_Bk_put_14 rfl ?_
    unfold g_put at h
    rw [if_pos c1] at h
    exact h
  · refine gw_iload_n k_Bk_put f_Bk_put_4 rfl ?_
    refine gw_aload_n k_Bk_put f_Bk_put_5 rfl ?_
    refine gw_alenI k_Bk_put f_Bk_put_6 hc rfl ?_
    refine gw_icmp_ge (t := 14) k_Bk_put f_Bk_put_7 rfl (fun c2 => ?_) (fun c2 => ?_)
    · refine gw_vret k_Bk_put f_Bk_put_14 rfl ?_
      unfold g_put at h
      rw [if_neg c1, if_pos c2] at h
      exact h
    · refine gw_aload_n k_Bk_put f_Bk_put_10 rfl ?_
      refine gw_iload_n k_Bk_put f_Bk_put_11 rfl ?_
      refine gw_iload_n k_Bk_put f_Bk_put_12 rfl ?_
      refine gw_iast k_Bk_put f_Bk_put_13 hc (vin rfl hn c1 c2) ?_
      refine gw_vret k_Bk_put f_Bk_put_14 rfl ?_
      unfold g_put at h
      rw [if_neg c1, if_neg c2] at h
      exact h
theorem if01 {c : Prop} [Decidable c] {a b : Int32} (h1 : a = 0 ∨ a = 1) (h2 : b = 0 ∨ b = 1) : (if c then a else b) = 0 ∨ (if c then a else b) = 1 := by
  split
  · exact h1
  · exact h2

