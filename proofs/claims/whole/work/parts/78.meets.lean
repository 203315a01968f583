/-! What meets on a day: the plain program's list -/
def Ent (w : Wd) (x k r g : Nat) (co wy : Int32) : Prop := Mtt w x k r g ∧ w 178 x = co ∧ w 179 x = wy
def OM (w' w : Wd) : Prop := ∀ c k, ¬ (175 ≤ c ∧ c ≤ 179) → ¬ (c = 155 ∧ k = 22) → w' c k = w c k
theorem OM_trans {a b c : Wd} (h1 : OM a b) (h2 : OM b c) : OM a c := fun x y p q => (h1 x y p q).trans (h2 x y p q)
/-- one more entry: those before it stay -/
theorem ew_meets {zs : List Int32} {w : Wd} {n k r g : Nat} {co wy : Int32} {Q : Option AV → Wd → Prop} (h22 : w 155 22 = nI n) (hn : n < 200) (h : ∀ w', OM w' w → w' 155 22 = nI (n + 1) → Ent w' n k r g co wy → (∀ x, x < n → ∀ c, 175 ≤ c → c ≤ 179 → w' c x = w c x) → Q none w') : Ew zs 0 m_Md_meets [.inr (.inl (some 155)), .inl (nI k), .inl (fI k g), .inl (nI r), .inl co, .inl wy] w Q := by
  refine ew_of k_Md_meets rfl (sg_Md_meets_0 ?_)
  have v := vinN hn (by omega)
  rw [h22, nI_clampN (by omega), nI_1]
  refine ⟨v, v, v, v, v, h _ (fun c k' h1 h2 => ?_) (by rw [wr_eq]) ⟨⟨?_, ?_, ?_⟩, ?_, ?_⟩ (fun x hx c c1 c2 => ?_)⟩
  · have z : ∀ w' : Wd, wr w' 155 22 (nI (n + 1)) c k' = w' c k' := fun w' => by unfold wr; rw [if_neg h2]
    rw [z, wr_nc (by omega), wr_nc (by omega), wr_nc (by omega), wr_nc (by omega), wr_nc (by omega)]
  · rw [wr_nc (by omega), wr_nc (by omega), wr_nc (by omega), wr_nc (by omega), wr_nc (by omega), wr_eq]
  · rw [wr_nc (by omega), wr_nc (by omega), wr_nc (by omega), wr_nc (by omega), wr_eq]
  · rw [wr_nc (by omega), wr_nc (by omega), wr_nc (by omega), wr_eq]
  · rw [wr_nc (by omega), wr_nc (by omega), wr_eq]
  · rw [wr_nc (by omega), wr_eq]
  · have hxn : x ≠ n := by omega
    rw [wr_nc (by omega), wr_nk hxn, wr_nk hxn, wr_nk hxn, wr_nk hxn, wr_nk hxn]
/-- the season of the day, counted up over the seasons -/
theorem ew_gseason {zs : List Int32} {w : Wd} {i d n f0 : Nat} {o5 o6 o7 o8 : Option AV} {Q : Option AV → Wd → Prop} (hn : n ≤ 10) (hi : i < 300) (hd : d < 366) (h0 : w 155 0 = nI n) (h28 : w 155 28 = f_Day_easter (nI (1900 + i))) (h29 : w 155 29 = nI f0) (hf0 : f0 < 7)
    (hs : ∀ k, k < n → w 2 k = w 156 k ∧ w 3 k = w 157 k ∧ w 4 k = w 158 k ∧ w 5 k = w 159 k ∧ w 6 k = w 160 k ∧ w 7 k = w 161 k ∧ Sok (w 156 k) (w 157 k) (w 158 k) (w 159 k) (w 160 k) (w 161 k))
    (h : Gw zs 4 m_Md_gather 60 [some (.inr (.inl (some 155))), some (.inl (nI (1900 + i))), some (.inl (nI d)), some (.inl (lastS (fun k => pIn w i k d) n)), some (.inl (nI n)), o5, o6, o7, o8] [.inl (if (f0 + d) % 7 = 0 then 1 else 0)] w Q) :
    Gw zs 4 m_Md_gather 10 [some (.inr (.inl (some 155))), some (.inl (nI (1900 + i))), some (.inl (nI d)), some (.inl (-1)), some (.inl 0), o5, o6, o7, o8] [] w Q := by
  have g := up_loop (fun K => Gw zs 4 m_Md_gather 10 [some (.inr (.inl (some 155))), some (.inl (nI (1900 + i))), some (.inl (nI d)), some (.inl (lastS (fun k => pIn w i k d) K)), some (.inl (nI K)), o5, o6, o7, o8] [] w Q) 0 n (by omega) ?_ ?_
  · exact g
  · refine sg_Md_gather_10 ?_
    rw [h0, h29, nI_add, nI_mod7 (by omega)]
    refine ⟨fun _ => ⟨fun c => ?_, fun c => ?_⟩, fun c => absurd (nI_le (Nat.le_refl _) (by omega)) c⟩
    · have e := (nI_eq (by omega) (by omega)).mp (show nI ((f0 + d) % 7) = nI 0 from c)
      rw [if_pos e] at h; exact h
    · have e : ¬ (f0 + d) % 7 = 0 := fun z => c (by rw [z]; rfl)
      rw [if_neg e] at h; exact h
  · intro K _ hK ih
    refine sg_Md_gather_10 ?_
    rw [h0, h28]
    refine ⟨fun c => absurd c (nI_gle hK (by omega)), fun _ => ew_isIn hn hK hi hd (hs K hK) ⟨_, rfl, fun c => ?_, fun c => ?_⟩⟩
    · refine sg_Md_gather_37 ?_
      rw [nI_1]
      have e : lastS (fun k => pIn w i k d) (K + 1) = lastS (fun k => pIn w i k d) K := by
        show (if pIn w i K d = true then nI K else lastS (fun k => pIn w i k d) K) = _
        rw [if_neg (fun z => one_ne ((of_decide_eq_true z).symm.trans c))]
      rw [e] at ih; exact ih
    · refine sg_Md_gather_37 ?_
      rw [nI_1]
      have e : lastS (fun k => pIn w i k d) (K + 1) = nI K := by
        show (if pIn w i K d = true then nI K else lastS (fun k => pIn w i k d) K) = _
        have z : pIn w i K d = true := decide_eq_true (in_1 c)
        rw [if_pos z]
      rw [e] at ih; exact ih
