/-! The law from its loop on -/
theorem sg_Law_law_18 {zs : List Int32} {x3 : Int32} {w : Wd} {Q : Option AV → Wd → Prop} (h : ((((Int32.ofNat zs.length) - 7) < x3 → Q (some (.inl 1)) w) ∧ (¬ (((Int32.ofNat zs.length) - 7) < x3) → (vp_in x3 zs.length ∧ ((((zs.getD x3.toNatClampNeg 0) &&& 31) = 0 → (vp_in (x3 + 1) zs.length ∧ (vp_in (x3 + 2) zs.length ∧ Ew zs 3 m_Bk_year [.inr (.inl (some 0)), .inl (zs.getD (x3 + 1).toNatClampNeg 0), .inl (zs.getD (x3 + 2).toNatClampNeg 0)] w (fun v w4 => ∃ r3 : Int32, v = some (.inl r3) ∧ (vp_in (x3 + 1) zs.length ∧ (vp_in (x3 + 2) zs.length ∧ Ew zs 4 m_Md_year [.inr (.inl (some 155)), .inl (zs.getD (x3 + 1).toNatClampNeg 0), .inl (zs.getD (x3 + 2).toNatClampNeg 0)] w4 (fun v w6 => ∃ r5 : Int32, v = some (.inl r5) ∧ ((r3 = r5 → Gw zs 8 m_Law_law 18 [some (.inr (.inr 0)), some (.inr (.inl (some 0))), some (.inr (.inl (some 155))), some (.inl (x3 + 7))] [] w6 Q) ∧ (¬ (r3 = r5) → Q (some (.inl 0)) w6))))))))) ∧ (((zs.getD x3.toNatClampNeg 0) &&& 31) = 1 → (vp_in (x3 + 1) zs.length ∧ (vp_in (x3 + 2) zs.length ∧ (vp_in (x3 + 3) zs.length ∧ Ew zs 3 m_Bk_day [.inr (.inl (some 0)), .inl (zs.getD (x3 + 1).toNatClampNeg 0), .inl (zs.getD (x3 + 2).toNatClampNeg 0), .inl (zs.getD (x3 + 3).toNatClampNeg 0)] w (fun v w10 => ∃ r9 : Int32, v = some (.inl r9) ∧ (vp_in (x3 + 1) zs.length ∧ (vp_in (x3 + 2) zs.length ∧ (vp_in (x3 + 3) zs.length ∧ Ew zs 3 m_Md_day [.inr (.inl (some 155)), .inl (zs.getD (x3 + 1).toNatClampNeg 0), .inl (zs.getD (x3 + 2).toNatClampNeg 0), .inl (zs.getD (x3 + 3).toNatClampNeg 0)] w10 (fun v w12 => ∃ r11 : Int32, v = some (.inl r11) ∧ ((r9 = r11 → Gw zs 8 m_Law_law 18 [some (.inr (.inr 0)), some (.inr (.inl (some 0))), some (.inr (.inl (some 155))), some (.inl (x3 + 7))] [] w12 Q) ∧ (¬ (r9 = r11) → Q (some (.inl 0)) w12))))))))))) ∧ (((zs.getD x3.toNatClampNeg 0) &&& 31) = 2 → (vp_in (x3 + 1) zs.length ∧ (vp_in (x3 + 2) zs.length ∧ (vp_in (x3 + 3) zs.length ∧ (vp_in (x3 + 4) zs.length ∧ (vp_in (x3 + 5) zs.length ∧ Ew zs 3 m_Bk_season [.inr (.inl (some 0)), .inl (zs.getD (x3 + 1).toNatClampNeg 0), .inl (zs.getD (x3 + 2).toNatClampNeg 0), .inl (zs.getD (x3 + 3).toNatClampNeg 0), .inl (zs.getD (x3 + 4).toNatClampNeg 0), .inl (zs.getD (x3 + 5).toNatClampNeg 0)] w (fun v w16 => ∃ r15 : Int32, v = some (.inl r15) ∧ (vp_in (x3 + 1) zs.length ∧ (vp_in (x3 + 2) zs.length ∧ (vp_in (x3 + 3) zs.length ∧ (vp_in (x3 + 4) zs.length ∧ (vp_in (x3 + 5) zs.length ∧ Ew zs 2 m_Md_season [.inr (.inl (some 155)), .inl (zs.getD (x3 + 1).toNatClampNeg 0), .inl (zs.getD (x3 + 2).toNatClampNeg 0), .inl (zs.getD (x3 + 3).toNatClampNeg 0), .inl (zs.getD (x3 + 4).toNatClampNeg 0), .inl (zs.getD (x3 + 5).toNatClampNeg 0)] w16 (fun v w18 => ∃ r17 : Int32, v = some (.inl r17) ∧ ((r15 = r17 → Gw zs 8 m_Law_law 18 [some (.inr (.inr 0)), some (.inr (.inl (some 0))), some (.inr (.inl (some 155))), some (.inl (x3 + 7))] [] w18 Q) ∧ (¬ (r15 = r17) → Q (some (.inl 0)) w18))))))))))))))) ∧ (((zs.getD x3.toNatClampNeg 0) &&& 31) = 3 → (vp_in (x3 + 1) zs.length ∧ (vp_in (x3 + 2) zs.length ∧ (vp_in (x3 + 3) zs.length ∧ (vp_in (x3 + 4) zs.length ∧ (vp_in (x3 + 5) zs.length ∧ Ew zs 3 m_Bk_dated [.inr (.inl (some 0)), .inl (zs.getD (x3 + 1).toNatClampNeg 0), .inl (zs.getD (x3 + 2).toNatClampNeg 0), .inl (zs.getD (x3 + 3).toNatClampNeg 0), .inl (zs.getD (x3 + 4).toNatClampNeg 0), .inl (zs.getD (x3 + 5).toNatClampNeg 0)] w (fun v w22 => ∃ r21 : Int32, v = some (.inl r21) ∧ (vp_in (x3 + 1) zs.length ∧ (vp_in (x3 + 2) zs.length ∧ (vp_in (x3 + 3) zs.length ∧ (vp_in (x3 + 4) zs.length ∧ (vp_in (x3 + 5) zs.length ∧ Ew zs 2 m_Md_dated [.inr (.inl (some 155)), .inl (zs.getD (x3 + 1).toNatClampNeg 0), .inl (zs.getD (x3 + 2).toNatClampNeg 0), .inl (zs.getD (x3 + 3).toNatClampNeg 0), .inl (zs.getD (x3 + 4).toNatClampNeg 0), .inl (zs.getD (x3 + 5).toNatClampNeg 0)] w22 (fun v w24 => ∃ r23 : Int32, v = some (.inl r23) ∧ ((r21 = r23 → Gw zs 8 m_Law_law 18 [some (.inr (.inr 0)), some (.inr (.inl (some 0))), some (.inr (.inl (some 155))), some (.inl (x3 + 7))] [] w24 Q) ∧ (¬ (r21 = r23) → Q (some (.inl 0)) w24))))))))))))))) ∧ (((zs.getD x3.toNatClampNeg 0) &&& 31) = 4 → (vp_in (x3 + 1) zs.length ∧ (vp_in (x3 + 2) zs.length ∧ (vp_in (x3 + 3) zs.length ∧ (vp_in (x3 + 4) zs.length ∧ (vp_in (x3 + 5) zs.length ∧ Ew zs 6 m_Bk_feast [.inr (.inl (some 0)), .inl (zs.getD (x3 + 1).toNatClampNeg 0), .inl (zs.getD (x3 + 2).toNatClampNeg 0), .inl (zs.getD (x3 + 3).toNatClampNeg 0), .inl (zs.getD (x3 + 4).toNatClampNeg 0), .inl (zs.getD (x3 + 5).toNatClampNeg 0)] w (fun v w28 => ∃ r27 : Int32, v = some (.inl r27) ∧ (vp_in (x3 + 1) zs.length ∧ (vp_in (x3 + 2) zs.length ∧ (vp_in (x3 + 3) zs.length ∧ (vp_in (x3 + 4) zs.length ∧ (vp_in (x3 + 5) zs.length ∧ Ew zs 3 m_Md_feast [.inr (.inl (some 155)), .inl (zs.getD (x3 + 1).toNatClampNeg 0), .inl (zs.getD (x3 + 2).toNatClampNeg 0), .inl (zs.getD (x3 + 3).toNatClampNeg 0), .inl (zs.getD (x3 + 4).toNatClampNeg 0), .inl (zs.getD (x3 + 5).toNatClampNeg 0)] w28 (fun v w30 => ∃ r29 : Int32, v = some (.inl r29) ∧ ((r27 = r29 → Gw zs 8 m_Law_law 18 [some (.inr (.inr 0)), some (.inr (.inl (some 0))), some (.inr (.inl (some 155))), some (.inl (x3 + 7))] [] w30 Q) ∧ (¬ (r27 = r29) → Q (some (.inl 0)) w30))))))))))))))) ∧ (((zs.getD x3.toNatClampNeg 0) &&& 31) = 5 → (vp_in (x3 + 1) zs.length ∧ (vp_in (x3 + 2) zs.length ∧ (vp_in (x3 + 3) zs.length ∧ (((zs.getD (x3 + 3).toNatClampNeg 0) = 0 → Ew zs 2 m_Bk_around [.inr (.inl (some 0)), .inl (zs.getD (x3 + 1).toNatClampNeg 0), .inl (zs.getD (x3 + 2).toNatClampNeg 0), .inl 0] w (fun v w35 => ∃ r34 : Int32, v = some (.inl r34) ∧ (vp_in (x3 + 1) zs.length ∧ (vp_in (x3 + 2) zs.length ∧ (vp_in (x3 + 3) zs.length ∧ Ew zs 1 m_Md_around [.inr (.inl (some 155)), .inl (zs.getD (x3 + 1).toNatClampNeg 0), .inl (zs.getD (x3 + 2).toNatClampNeg 0), .inl 0] w35 (fun v w37 => ∃ r36 : Int32, v = some (.inl r36) ∧ ((r34 = r36 → Gw zs 8 m_Law_law 18 [some (.inr (.inr 0)), some (.inr (.inl (some 0))), some (.inr (.inl (some 155))), some (.inl (x3 + 7))] [] w37 Q) ∧ (¬ (r34 = r36) → Q (some (.inl 0)) w37)))))))) ∧ (¬ ((zs.getD (x3 + 3).toNatClampNeg 0) = 0) → Ew zs 2 m_Bk_around [.inr (.inl (some 0)), .inl (zs.getD (x3 + 1).toNatClampNeg 0), .inl (zs.getD (x3 + 2).toNatClampNeg 0), .inl 1] w (fun v w40 => ∃ r39 : Int32, v = some (.inl r39) ∧ (vp_in (x3 + 1) zs.length ∧ (vp_in (x3 + 2) zs.length ∧ (vp_in (x3 + 3) zs.length ∧ Ew zs 1 m_Md_around [.inr (.inl (some 155)), .inl (zs.getD (x3 + 1).toNatClampNeg 0), .inl (zs.getD (x3 + 2).toNatClampNeg 0), .inl 1] w40 (fun v w42 => ∃ r41 : Int32, v = some (.inl r41) ∧ ((r39 = r41 → Gw zs 8 m_Law_law 18 [some (.inr (.inr 0)), some (.inr (.inl (some 0))), some (.inr (.inl (some 155))), some (.inl (x3 + 7))] [] w42 Q) ∧ (¬ (r39 = r41) → Q (some (.inl 0)) w42))))))))))))) ∧ (((zs.getD x3.toNatClampNeg 0) &&& 31) = 6 → (vp_in (x3 + 1) zs.length ∧ (vp_in (x3 + 2) zs.length ∧ (vp_in (x3 + 3) zs.length ∧ Ew zs 3 m_Bk_raise [.inr (.inl (some 0)), .inl (zs.getD (x3 + 1).toNatClampNeg 0), .inl (zs.getD (x3 + 2).toNatClampNeg 0), .inl (zs.getD (x3 + 3).toNatClampNeg 0)] w (fun v w46 => ∃ r45 : Int32, v = some (.inl r45) ∧ (vp_in (x3 + 1) zs.length ∧ (vp_in (x3 + 2) zs.length ∧ (vp_in (x3 + 3) zs.length ∧ Ew zs 1 m_Md_raise [.inr (.inl (some 155)), .inl (zs.getD (x3 + 1).toNatClampNeg 0), .inl (zs.getD (x3 + 2).toNatClampNeg 0), .inl (zs.getD (x3 + 3).toNatClampNeg 0)] w46 (fun v w48 => ∃ r47 : Int32, v = some (.inl r47) ∧ ((r45 = r47 → Gw zs 8 m_Law_law 18 [some (.inr (.inr 0)), some (.inr (.inl (some 0))), some (.inr (.inl (some 155))), some (.inl (x3 + 7))] [] w48 Q) ∧ (¬ (r45 = r47) → Q (some (.inl 0)) w48))))))))))) ∧ (((zs.getD x3.toNatClampNeg 0) &&& 31) = 7 → (vp_in (x3 + 1) zs.length ∧ (vp_in (x3 + 2) zs.length ∧ (vp_in (x3 + 3) zs.length ∧ Ew zs 7 m_Bk_office [.inr (.inl (some 0)), .inl (zs.getD (x3 + 1).toNatClampNeg 0), .inl (zs.getD (x3 + 2).toNatClampNeg 0), .inl (zs.getD (x3 + 3).toNatClampNeg 0)] w (fun v w52 => ∃ r51 : Int32, v = some (.inl r51) ∧ (vp_in (x3 + 1) zs.length ∧ (vp_in (x3 + 2) zs.length ∧ (vp_in (x3 + 3) zs.length ∧ Ew zs 6 m_Md_office [.inr (.inl (some 155)), .inl (zs.getD (x3 + 1).toNatClampNeg 0), .inl (zs.getD (x3 + 2).toNatClampNeg 0), .inl (zs.getD (x3 + 3).toNatClampNeg 0)] w52 (fun v w54 => ∃ r53 : Int32, v = some (.inl r53) ∧ ((r51 = r53 → Gw zs 8 m_Law_law 18 [some (.inr (.inr 0)), some (.inr (.inl (some 0))), some (.inr (.inl (some 155))), some (.inl (x3 + 7))] [] w54 Q) ∧ (¬ (r51 = r53) → Q (some (.inl 0)) w54))))))))))) ∧ (((zs.getD x3.toNatClampNeg 0) &&& 31) = 8 → (vp_in (x3 + 1) zs.length ∧ (vp_in (x3 + 2) zs.length ∧ (vp_in (x3 + 3) zs.length ∧ (vp_in (x3 + 4) zs.length ∧ Ew zs 7 m_Bk_also [.inr (.inl (some 0)), .inl (zs.getD (x3 + 1).toNatClampNeg 0), .inl (zs.getD (x3 + 2).toNatClampNeg 0), .inl (zs.getD (x3 + 3).toNatClampNeg 0), .inl (zs.getD (x3 + 4).toNatClampNeg 0)] w (fun v w58 => ∃ r57 : Int32, v = some (.inl r57) ∧ (vp_in (x3 + 1) zs.length ∧ (vp_in (x3 + 2) zs.length ∧ (vp_in (x3 + 3) zs.length ∧ (vp_in (x3 + 4) zs.length ∧ Ew zs 6 m_Md_also [.inr (.inl (some 155)), .inl (zs.getD (x3 + 1).toNatClampNeg 0), .inl (zs.getD (x3 + 2).toNatClampNeg 0), .inl (zs.getD (x3 + 3).toNatClampNeg 0), .inl (zs.getD (x3 + 4).toNatClampNeg 0)] w58 (fun v w60 => ∃ r59 : Int32, v = some (.inl r59) ∧ ((r57 = r59 → Gw zs 8 m_Law_law 18 [some (.inr (.inr 0)), some (.inr (.inl (some 0))), some (.inr (.inl (some 155))), some (.inl (x3 + 7))] [] w60 Q) ∧ (¬ (r57 = r59) → Q (some (.inl 0)) w60))))))))))))) ∧ (((zs.getD x3.toNatClampNeg 0) &&& 31) = 9 → (vp_in (x3 + 1) zs.length ∧ (vp_in (x3 + 2) zs.length ∧ Ew zs 7 m_Bk_kept [.inr (.inl (some 0)), .inl (zs.getD (x3 + 1).toNatClampNeg 0), .inl (zs.getD (x3 + 2).toNatClampNeg 0)] w (fun v w64 => ∃ r63 : Int32, v = some (.inl r63) ∧ (vp_in (x3 + 1) zs.length ∧ (vp_in (x3 + 2) zs.length ∧ Ew zs 7 m_Md_kept [.inr (.inl (some 155)), .inl (zs.getD (x3 + 1).toNatClampNeg 0), .inl (zs.getD (x3 + 2).toNatClampNeg 0)] w64 (fun v w66 => ∃ r65 : Int32, v = some (.inl r65) ∧ ((r63 = r65 → Gw zs 8 m_Law_law 18 [some (.inr (.inr 0)), some (.inr (.inl (some 0))), some (.inr (.inl (some 155))), some (.inl (x3 + 7))] [] w66 Q) ∧ (¬ (r63 = r65) → Q (some (.inl 0)) w66))))))))) ∧ (((zs.getD x3.toNatClampNeg 0) &&& 31) = 10 → (vp_in (x3 + 1) zs.length ∧ (vp_in (x3 + 2) zs.length ∧ (vp_in (x3 + 3) zs.length ∧ Ew zs 7 m_Bk_tally [.inr (.inl (some 0)), .inl (zs.getD (x3 + 1).toNatClampNeg 0), .inl (zs.getD (x3 + 2).toNatClampNeg 0), .inl (zs.getD (x3 + 3).toNatClampNeg 0)] w (fun v w70 => ∃ r69 : Int32, v = some (.inl r69) ∧ (vp_in (x3 + 1) zs.length ∧ (vp_in (x3 + 2) zs.length ∧ (vp_in (x3 + 3) zs.length ∧ Ew zs 7 m_Md_tally [.inr (.inl (some 155)), .inl (zs.getD (x3 + 1).toNatClampNeg 0), .inl (zs.getD (x3 + 2).toNatClampNeg 0), .inl (zs.getD (x3 + 3).toNatClampNeg 0)] w70 (fun v w72 => ∃ r71 : Int32, v = some (.inl r71) ∧ ((r69 = r71 → Gw zs 8 m_Law_law 18 [some (.inr (.inr 0)), some (.inr (.inl (some 0))), some (.inr (.inl (some 155))), some (.inl (x3 + 7))] [] w72 Q) ∧ (¬ (r69 = r71) → Q (some (.inl 0)) w72))))))))))) ∧ (((zs.getD x3.toNatClampNeg 0) &&& 31) = 11 → (vp_in (x3 + 1) zs.length ∧ (vp_in (x3 + 2) zs.length ∧ Ew zs 3 m_Bk_verses [.inr (.inl (some 0)), .inl (zs.getD (x3 + 1).toNatClampNeg 0), .inl (zs.getD (x3 + 2).toNatClampNeg 0)] w (fun v w76 => ∃ r75 : Int32, v = some (.inl r75) ∧ (vp_in (x3 + 1) zs.length ∧ (vp_in (x3 + 2) zs.length ∧ Ew zs 1 m_Md_verses [.inr (.inl (some 155)), .inl (zs.getD (x3 + 1).toNatClampNeg 0), .inl (zs.getD (x3 + 2).toNatClampNeg 0)] w76 (fun v w78 => ∃ r77 : Int32, v = some (.inl r77) ∧ ((r75 = r77 → Gw zs 8 m_Law_law 18 [some (.inr (.inr 0)), some (.inr (.inl (some 0))), some (.inr (.inl (some 155))), some (.inl (x3 + 7))] [] w78 Q) ∧ (¬ (r75 = r77) → Q (some (.inl 0)) w78))))))))) ∧ (((zs.getD x3.toNatClampNeg 0) &&& 31) = 12 → (vp_in (x3 + 1) zs.length ∧ Ew zs 3 m_Bk_hours [.inr (.inl (some 0)), .inl (zs.getD (x3 + 1).toNatClampNeg 0)] w (fun v w82 => ∃ r81 : Int32, v = some (.inl r81) ∧ (vp_in (x3 + 1) zs.length ∧ Ew zs 1 m_Md_hours [.inr (.inl (some 155)), .inl (zs.getD (x3 + 1).toNatClampNeg 0)] w82 (fun v w84 => ∃ r83 : Int32, v = some (.inl r83) ∧ ((r81 = r83 → Gw zs 8 m_Law_law 18 [some (.inr (.inr 0)), some (.inr (.inl (some 0))), some (.inr (.inl (some 155))), some (.inl (x3 + 7))] [] w84 Q) ∧ (¬ (r81 = r83) → Q (some (.inl 0)) w84))))))) ∧ (((zs.getD x3.toNatClampNeg 0) &&& 31) = 13 → (vp_in (x3 + 1) zs.length ∧ (vp_in (x3 + 2) zs.length ∧ Ew zs 3 m_Bk_fix [.inr (.inl (some 0)), .inl (zs.getD (x3 + 1).toNatClampNeg 0), .inl (zs.getD (x3 + 2).toNatClampNeg 0)] w (fun v w88 => ∃ r87 : Int32, v = some (.inl r87) ∧ (vp_in (x3 + 1) zs.length ∧ (vp_in (x3 + 2) zs.length ∧ Ew zs 1 m_Md_fix [.inr (.inl (some 155)), .inl (zs.getD (x3 + 1).toNatClampNeg 0), .inl (zs.getD (x3 + 2).toNatClampNeg 0)] w88 (fun v w90 => ∃ r89 : Int32, v = some (.inl r89) ∧ ((r87 = r89 → Gw zs 8 m_Law_law 18 [some (.inr (.inr 0)), some (.inr (.inl (some 0))), some (.inr (.inl (some 155))), some (.inl (x3 + 7))] [] w90 Q) ∧ (¬ (r87 = r89) → Q (some (.inl 0)) w90))))))))) ∧ (((zs.getD x3.toNatClampNeg 0) &&& 31) = 14 → (vp_in (x3 + 1) zs.length ∧ (vp_in (x3 + 2) zs.length ∧ Ew zs 3 m_Bk_festal [.inr (.inl (some 0)), .inl (zs.getD (x3 + 1).toNatClampNeg 0), .inl (zs.getD (x3 + 2).toNatClampNeg 0)] w (fun v w94 => ∃ r93 : Int32, v = some (.inl r93) ∧ (vp_in (x3 + 1) zs.length ∧ (vp_in (x3 + 2) zs.length ∧ Ew zs 1 m_Md_festal [.inr (.inl (some 155)), .inl (zs.getD (x3 + 1).toNatClampNeg 0), .inl (zs.getD (x3 + 2).toNatClampNeg 0)] w94 (fun v w96 => ∃ r95 : Int32, v = some (.inl r95) ∧ ((r93 = r95 → Gw zs 8 m_Law_law 18 [some (.inr (.inr 0)), some (.inr (.inl (some 0))), some (.inr (.inl (some 155))), some (.inl (x3 + 7))] [] w96 Q) ∧ (¬ (r93 = r95) → Q (some (.inl 0)) w96))))))))) ∧ (((zs.getD x3.toNatClampNeg 0) &&& 31) = 15 → (vp_in (x3 + 1) zs.length ∧ Ew zs 2 m_Bk_limit [.inr (.inl (some 0)), .inl (zs.getD (x3 + 1).toNatClampNeg 0)] w (fun v w100 => ∃ r99 : Int32, v = some (.inl r99) ∧ (vp_in (x3 + 1) zs.length ∧ Ew zs 1 m_Md_limit [.inr (.inl (some 155)), .inl (zs.getD (x3 + 1).toNatClampNeg 0)] w100 (fun v w102 => ∃ r101 : Int32, v = some (.inl r101) ∧ ((r99 = r101 → Gw zs 8 m_Law_law 18 [some (.inr (.inr 0)), some (.inr (.inl (some 0))), some (.inr (.inl (some 155))), some (.inl (x3 + 7))] [] w102 Q) ∧ (¬ (r99 = r101) → Q (some (.inl 0)) w102))))))) ∧ (((zs.getD x3.toNatClampNeg 0) &&& 31) = 16 → (vp_in (x3 + 1) zs.length ∧ (vp_in (x3 + 2) zs.length ∧ (vp_in (x3 + 3) zs.length ∧ Ew zs 6 m_Bk_dealt [.inr (.inl (some 0)), .inl (zs.getD (x3 + 1).toNatClampNeg 0), .inl (zs.getD (x3 + 2).toNatClampNeg 0), .inl (zs.getD (x3 + 3).toNatClampNeg 0)] w (fun v w106 => ∃ r105 : Int32, v = some (.inl r105) ∧ (vp_in (x3 + 1) zs.length ∧ (vp_in (x3 + 2) zs.length ∧ (vp_in (x3 + 3) zs.length ∧ Ew zs 2 m_Md_dealt [.inr (.inl (some 155)), .inl (zs.getD (x3 + 1).toNatClampNeg 0), .inl (zs.getD (x3 + 2).toNatClampNeg 0), .inl (zs.getD (x3 + 3).toNatClampNeg 0)] w106 (fun v w108 => ∃ r107 : Int32, v = some (.inl r107) ∧ ((r105 = r107 → Gw zs 8 m_Law_law 18 [some (.inr (.inr 0)), some (.inr (.inl (some 0))), some (.inr (.inl (some 155))), some (.inl (x3 + 7))] [] w108 Q) ∧ (¬ (r105 = r107) → Q (some (.inl 0)) w108))))))))))) ∧ (((zs.getD x3.toNatClampNeg 0) &&& 31) = 17 → (vp_in (x3 + 1) zs.length ∧ (vp_in (x3 + 2) zs.length ∧ (vp_in (x3 + 3) zs.length ∧ (vp_in (x3 + 4) zs.length ∧ Ew zs 7 m_Bk_sung [.inr (.inl (some 0)), .inl (zs.getD (x3 + 1).toNatClampNeg 0), .inl (zs.getD (x3 + 2).toNatClampNeg 0), .inl (zs.getD (x3 + 3).toNatClampNeg 0), .inl (zs.getD (x3 + 4).toNatClampNeg 0)] w (fun v w112 => ∃ r111 : Int32, v = some (.inl r111) ∧ (vp_in (x3 + 1) zs.length ∧ (vp_in (x3 + 2) zs.length ∧ (vp_in (x3 + 3) zs.length ∧ (vp_in (x3 + 4) zs.length ∧ Ew zs 6 m_Md_sung [.inr (.inl (some 155)), .inl (zs.getD (x3 + 1).toNatClampNeg 0), .inl (zs.getD (x3 + 2).toNatClampNeg 0), .inl (zs.getD (x3 + 3).toNatClampNeg 0), .inl (zs.getD (x3 + 4).toNatClampNeg 0)] w112 (fun v w114 => ∃ r113 : Int32, v = some (.inl r113) ∧ ((r111 = r113 → Gw zs 8 m_Law_law 18 [some (.inr (.inr 0)), some (.inr (.inl (some 0))), some (.inr (.inl (some 155))), some (.inl (x3 + 7))] [] w114 Q) ∧ (¬ (r111 = r113) → Q (some (.inl 0)) w114))))))))))))) ∧ (((zs.getD x3.toNatClampNeg 0) &&& 31) = 18 → (vp_in (x3 + 1) zs.length ∧ (vp_in (x3 + 2) zs.length ∧ (vp_in (x3 + 3) zs.length ∧ (vp_in (x3 + 4) zs.length ∧ Ew zs 7 m_Bk_times [.inr (.inl (some 0)), .inl (zs.getD (x3 + 1).toNatClampNeg 0), .inl (zs.getD (x3 + 2).toNatClampNeg 0), .inl (zs.getD (x3 + 3).toNatClampNeg 0), .inl (zs.getD (x3 + 4).toNatClampNeg 0)] w (fun v w118 => ∃ r117 : Int32, v = some (.inl r117) ∧ (vp_in (x3 + 1) zs.length ∧ (vp_in (x3 + 2) zs.length ∧ (vp_in (x3 + 3) zs.length ∧ (vp_in (x3 + 4) zs.length ∧ Ew zs 6 m_Md_times [.inr (.inl (some 155)), .inl (zs.getD (x3 + 1).toNatClampNeg 0), .inl (zs.getD (x3 + 2).toNatClampNeg 0), .inl (zs.getD (x3 + 3).toNatClampNeg 0), .inl (zs.getD (x3 + 4).toNatClampNeg 0)] w118 (fun v w120 => ∃ r119 : Int32, v = some (.inl r119) ∧ ((r117 = r119 → Gw zs 8 m_Law_law 18 [some (.inr (.inr 0)), some (.inr (.inl (some 0))), some (.inr (.inl (some 155))), some (.inl (x3 + 7))] [] w120 Q) ∧ (¬ (r117 = r119) → Q (some (.inl 0)) w120))))))))))))) ∧ (((zs.getD x3.toNatClampNeg 0) &&& 31) = 19 → (vp_in (x3 + 1) zs.length ∧ (vp_in (x3 + 2) zs.length ∧ Ew zs 3 m_Bk_tenor [.inr (.inl (some 0)), .inl (zs.getD (x3 + 1).toNatClampNeg 0), .inl (zs.getD (x3 + 2).toNatClampNeg 0)] w (fun v w124 => ∃ r123 : Int32, v = some (.inl r123) ∧ (vp_in (x3 + 1) zs.length ∧ (vp_in (x3 + 2) zs.length ∧ Ew zs 2 m_Md_tenor [.inr (.inl (some 155)), .inl (zs.getD (x3 + 1).toNatClampNeg 0), .inl (zs.getD (x3 + 2).toNatClampNeg 0)] w124 (fun v w126 => ∃ r125 : Int32, v = some (.inl r125) ∧ ((r123 = r125 → Gw zs 8 m_Law_law 18 [some (.inr (.inr 0)), some (.inr (.inl (some 0))), some (.inr (.inl (some 155))), some (.inl (x3 + 7))] [] w126 Q) ∧ (¬ (r123 = r125) → Q (some (.inl 0)) w126))))))))) ∧ (((zs.getD x3.toNatClampNeg 0) &&& 31) = 20 → (vp_in (x3 + 1) zs.length ∧ (vp_in (x3 + 2) zs.length ∧ (vp_in (x3 + 3) zs.length ∧ Ew zs 3 m_Bk_note [.inr (.inl (some 0)), .inl (zs.getD (x3 + 1).toNatClampNeg 0), .inl (zs.getD (x3 + 2).toNatClampNeg 0), .inl (zs.getD (x3 + 3).toNatClampNeg 0)] w (fun v w130 => ∃ r129 : Int32, v = some (.inl r129) ∧ (vp_in (x3 + 1) zs.length ∧ (vp_in (x3 + 2) zs.length ∧ (vp_in (x3 + 3) zs.length ∧ Ew zs 2 m_Md_note [.inr (.inl (some 155)), .inl (zs.getD (x3 + 1).toNatClampNeg 0), .inl (zs.getD (x3 + 2).toNatClampNeg 0), .inl (zs.getD (x3 + 3).toNatClampNeg 0)] w130 (fun v w132 => ∃ r131 : Int32, v = some (.inl r131) ∧ ((r129 = r131 → Gw zs 8 m_Law_law 18 [some (.inr (.inr 0)), some (.inr (.inl (some 0))), some (.inr (.inl (some 155))), some (.inl (x3 + 7))] [] w132 Q) ∧ (¬ (r129 = r131) → Q (some (.inl 0)) w132))))))))))) ∧ (((zs.getD x3.toNatClampNeg 0) &&& 31) = 21 → (vp_in (x3 + 1) zs.length ∧ (vp_in (x3 + 2) zs.length ∧ (vp_in (x3 + 3) zs.length ∧ (vp_in (x3 + 4) zs.length ∧ (vp_in (x3 + 5) zs.length ∧ (vp_in (x3 + 6) zs.length ∧ Ew zs 3 m_Bk_accent [.inr (.inl (some 0)), .inl (zs.getD (x3 + 1).toNatClampNeg 0), .inl (zs.getD (x3 + 2).toNatClampNeg 0), .inl (zs.getD (x3 + 3).toNatClampNeg 0), .inl (zs.getD (x3 + 4).toNatClampNeg 0), .inl (zs.getD (x3 + 5).toNatClampNeg 0), .inl (zs.getD (x3 + 6).toNatClampNeg 0)] w (fun v w136 => ∃ r135 : Int32, v = some (.inl r135) ∧ (vp_in (x3 + 1) zs.length ∧ (vp_in (x3 + 2) zs.length ∧ (vp_in (x3 + 3) zs.length ∧ (vp_in (x3 + 4) zs.length ∧ (vp_in (x3 + 5) zs.length ∧ (vp_in (x3 + 6) zs.length ∧ Ew zs 2 m_Md_accent [.inr (.inl (some 155)), .inl (zs.getD (x3 + 1).toNatClampNeg 0), .inl (zs.getD (x3 + 2).toNatClampNeg 0), .inl (zs.getD (x3 + 3).toNatClampNeg 0), .inl (zs.getD (x3 + 4).toNatClampNeg 0), .inl (zs.getD (x3 + 5).toNatClampNeg 0), .inl (zs.getD (x3 + 6).toNatClampNeg 0)] w136 (fun v w138 => ∃ r137 : Int32, v = some (.inl r137) ∧ ((r135 = r137 → Gw zs 8 m_Law_law 18 [some (.inr (.inr 0)), some (.inr (.inl (some 0))), some (.inr (.inl (some 155))), some (.inl (x3 + 7))] [] w138 Q) ∧ (¬ (r135 = r137) → Q (some (.inl 0)) w138))))))))))))))))) ∧ (((zs.getD x3.toNatClampNeg 0) &&& 31) = 22 → (vp_in (x3 + 1) zs.length ∧ (vp_in (x3 + 2) zs.length ∧ (vp_in (x3 + 3) zs.length ∧ Ew zs 2 m_Bk_accents [.inr (.inl (some 0)), .inl (zs.getD (x3 + 1).toNatClampNeg 0), .inl (zs.getD (x3 + 2).toNatClampNeg 0), .inl (zs.getD (x3 + 3).toNatClampNeg 0)] w (fun v w142 => ∃ r141 : Int32, v = some (.inl r141) ∧ (vp_in (x3 + 1) zs.length ∧ (vp_in (x3 + 2) zs.length ∧ (vp_in (x3 + 3) zs.length ∧ Ew zs 1 m_Md_accents [.inr (.inl (some 155)), .inl (zs.getD (x3 + 1).toNatClampNeg 0), .inl (zs.getD (x3 + 2).toNatClampNeg 0), .inl (zs.getD (x3 + 3).toNatClampNeg 0)] w142 (fun v w144 => ∃ r143 : Int32, v = some (.inl r143) ∧ ((r141 = r143 → Gw zs 8 m_Law_law 18 [some (.inr (.inr 0)), some (.inr (.inl (some 0))), some (.inr (.inl (some 155))), some (.inl (x3 + 7))] [] w144 Q) ∧ (¬ (r141 = r143) → Q (some (.inl 0)) w144))))))))))) ∧ (((zs.getD x3.toNatClampNeg 0) &&& 31) = 23 → (vp_in (x3 + 1) zs.length ∧ (vp_in (x3 + 2) zs.length ∧ (((zs.getD (x3 + 2).toNatClampNeg 0) = 0 → Ew zs 1 m_Bk_syllable [.inr (.inl (some 0)), .inl (zs.getD (x3 + 1).toNatClampNeg 0), .inl 0] w (fun v w149 => ∃ r148 : Int32, v = some (.inl r148) ∧ (vp_in (x3 + 1) zs.length ∧ (vp_in (x3 + 2) zs.length ∧ Ew zs 1 m_Md_syllable [.inr (.inl (some 155)), .inl (zs.getD (x3 + 1).toNatClampNeg 0), .inl 0] w149 (fun v w151 => ∃ r150 : Int32, v = some (.inl r150) ∧ ((r148 = r150 → Gw zs 8 m_Law_law 18 [some (.inr (.inr 0)), some (.inr (.inl (some 0))), some (.inr (.inl (some 155))), some (.inl (x3 + 7))] [] w151 Q) ∧ (¬ (r148 = r150) → Q (some (.inl 0)) w151))))))) ∧ (¬ ((zs.getD (x3 + 2).toNatClampNeg 0) = 0) → Ew zs 1 m_Bk_syllable [.inr (.inl (some 0)), .inl (zs.getD (x3 + 1).toNatClampNeg 0), .inl 1] w (fun v w154 => ∃ r153 : Int32, v = some (.inl r153) ∧ (vp_in (x3 + 1) zs.length ∧ (vp_in (x3 + 2) zs.length ∧ Ew zs 1 m_Md_syllable [.inr (.inl (some 155)), .inl (zs.getD (x3 + 1).toNatClampNeg 0), .inl 1] w154 (fun v w156 => ∃ r155 : Int32, v = some (.inl r155) ∧ ((r153 = r155 → Gw zs 8 m_Law_law 18 [some (.inr (.inr 0)), some (.inr (.inl (some 0))), some (.inr (.inl (some 155))), some (.inl (x3 + 7))] [] w156 Q) ∧ (¬ (r153 = r155) → Q (some (.inl 0)) w156))))))))))) ∧ (((zs.getD x3.toNatClampNeg 0) &&& 31) = 24 → (vp_in (x3 + 1) zs.length ∧ Ew zs 1 m_Bk_part [.inr (.inl (some 0)), .inl (zs.getD (x3 + 1).toNatClampNeg 0)] w (fun v w160 => ∃ r159 : Int32, v = some (.inl r159) ∧ (vp_in (x3 + 1) zs.length ∧ Ew zs 1 m_Md_part [.inr (.inl (some 155)), .inl (zs.getD (x3 + 1).toNatClampNeg 0)] w160 (fun v w162 => ∃ r161 : Int32, v = some (.inl r161) ∧ ((r159 = r161 → Gw zs 8 m_Law_law 18 [some (.inr (.inr 0)), some (.inr (.inl (some 0))), some (.inr (.inl (some 155))), some (.inl (x3 + 7))] [] w162 Q) ∧ (¬ (r159 = r161) → Q (some (.inl 0)) w162))))))) ∧ (((zs.getD x3.toNatClampNeg 0) &&& 31) = 25 → (vp_in (x3 + 1) zs.length ∧ (vp_in (x3 + 2) zs.length ∧ (vp_in (x3 + 3) zs.length ∧ Ew zs 3 m_Bk_sing [.inr (.inl (some 0)), .inl (zs.getD (x3 + 1).toNatClampNeg 0), .inl (zs.getD (x3 + 2).toNatClampNeg 0), .inl (zs.getD (x3 + 3).toNatClampNeg 0)] w (fun v w166 => ∃ r165 : Int32, v = some (.inl r165) ∧ (vp_in (x3 + 1) zs.length ∧ (vp_in (x3 + 2) zs.length ∧ (vp_in (x3 + 3) zs.length ∧ Ew zs 1 m_Md_sing [.inr (.inl (some 155)), .inl (zs.getD (x3 + 1).toNatClampNeg 0), .inl (zs.getD (x3 + 2).toNatClampNeg 0), .inl (zs.getD (x3 + 3).toNatClampNeg 0)] w166 (fun v w168 => ∃ r167 : Int32, v = some (.inl r167) ∧ ((r165 = r167 → Gw zs 8 m_Law_law 18 [some (.inr (.inr 0)), some (.inr (.inl (some 0))), some (.inr (.inl (some 155))), some (.inl (x3 + 7))] [] w168 Q) ∧ (¬ (r165 = r167) → Q (some (.inl 0)) w168))))))))))) ∧ (((zs.getD x3.toNatClampNeg 0) &&& 31) = 26 → (vp_in (x3 + 1) zs.length ∧ Ew zs 2 m_Bk_monk [.inr (.inl (some 0)), .inl (zs.getD (x3 + 1).toNatClampNeg 0)] w (fun v w172 => ∃ r171 : Int32, v = some (.inl r171) ∧ (vp_in (x3 + 1) zs.length ∧ Ew zs 1 m_Md_monk [.inr (.inl (some 155)), .inl (zs.getD (x3 + 1).toNatClampNeg 0)] w172 (fun v w174 => ∃ r173 : Int32, v = some (.inl r173) ∧ ((r171 = r173 → Gw zs 8 m_Law_law 18 [some (.inr (.inr 0)), some (.inr (.inl (some 0))), some (.inr (.inl (some 155))), some (.inl (x3 + 7))] [] w174 Q) ∧ (¬ (r171 = r173) → Q (some (.inl 0)) w174))))))) ∧ (((zs.getD x3.toNatClampNeg 0) &&& 31) = 27 → (vp_in (x3 + 1) zs.length ∧ (vp_in (x3 + 2) zs.length ∧ (vp_in (x3 + 3) zs.length ∧ (vp_in (x3 + 4) zs.length ∧ Ew zs 3 m_Bk_absence [.inr (.inl (some 0)), .inl (zs.getD (x3 + 1).toNatClampNeg 0), .inl (zs.getD (x3 + 2).toNatClampNeg 0), .inl (zs.getD (x3 + 3).toNatClampNeg 0), .inl (zs.getD (x3 + 4).toNatClampNeg 0)] w (fun v w178 => ∃ r177 : Int32, v = some (.inl r177) ∧ (vp_in (x3 + 1) zs.length ∧ (vp_in (x3 + 2) zs.length ∧ (vp_in (x3 + 3) zs.length ∧ (vp_in (x3 + 4) zs.length ∧ Ew zs 3 m_Md_absence [.inr (.inl (some 155)), .inl (zs.getD (x3 + 1).toNatClampNeg 0), .inl (zs.getD (x3 + 2).toNatClampNeg 0), .inl (zs.getD (x3 + 3).toNatClampNeg 0), .inl (zs.getD (x3 + 4).toNatClampNeg 0)] w178 (fun v w180 => ∃ r179 : Int32, v = some (.inl r179) ∧ ((r177 = r179 → Gw zs 8 m_Law_law 18 [some (.inr (.inr 0)), some (.inr (.inl (some 0))), some (.inr (.inl (some 155))), some (.inl (x3 + 7))] [] w180 Q) ∧ (¬ (r177 = r179) → Q (some (.inl 0)) w180))))))))))))) ∧ (((zs.getD x3.toNatClampNeg 0) &&& 31) = 28 → (vp_in (x3 + 1) zs.length ∧ (vp_in (x3 + 2) zs.length ∧ (vp_in (x3 + 3) zs.length ∧ Ew zs 7 m_Bk_roster [.inr (.inl (some 0)), .inl (zs.getD (x3 + 1).toNatClampNeg 0), .inl (zs.getD (x3 + 2).toNatClampNeg 0), .inl (zs.getD (x3 + 3).toNatClampNeg 0)] w (fun v w184 => ∃ r183 : Int32, v = some (.inl r183) ∧ (vp_in (x3 + 1) zs.length ∧ (vp_in (x3 + 2) zs.length ∧ (vp_in (x3 + 3) zs.length ∧ Ew zs 6 m_Md_roster [.inr (.inl (some 155)), .inl (zs.getD (x3 + 1).toNatClampNeg 0), .inl (zs.getD (x3 + 2).toNatClampNeg 0), .inl (zs.getD (x3 + 3).toNatClampNeg 0)] w184 (fun v w186 => ∃ r185 : Int32, v = some (.inl r185) ∧ ((r183 = r185 → Gw zs 8 m_Law_law 18 [some (.inr (.inr 0)), some (.inr (.inl (some 0))), some (.inr (.inl (some 155))), some (.inl (x3 + 7))] [] w186 Q) ∧ (¬ (r183 = r185) → Q (some (.inl 0)) w186))))))))))) ∧ (((zs.getD x3.toNatClampNeg 0) &&& 31) = 29 → (vp_in (x3 + 1) zs.length ∧ (vp_in (x3 + 2) zs.length ∧ (vp_in (x3 + 3) zs.length ∧ Ew zs 2 m_Bk_turn [.inr (.inl (some 0)), .inl (zs.getD (x3 + 1).toNatClampNeg 0), .inl (zs.getD (x3 + 2).toNatClampNeg 0), .inl (zs.getD (x3 + 3).toNatClampNeg 0)] w (fun v w190 => ∃ r189 : Int32, v = some (.inl r189) ∧ (vp_in (x3 + 1) zs.length ∧ (vp_in (x3 + 2) zs.length ∧ (vp_in (x3 + 3) zs.length ∧ Ew zs 1 m_Md_turn [.inr (.inl (some 155)), .inl (zs.getD (x3 + 1).toNatClampNeg 0), .inl (zs.getD (x3 + 2).toNatClampNeg 0), .inl (zs.getD (x3 + 3).toNatClampNeg 0)] w190 (fun v w192 => ∃ r191 : Int32, v = some (.inl r191) ∧ ((r189 = r191 → Gw zs 8 m_Law_law 18 [some (.inr (.inr 0)), some (.inr (.inl (some 0))), some (.inr (.inl (some 155))), some (.inl (x3 + 7))] [] w192 Q) ∧ (¬ (r189 = r191) → Q (some (.inl 0)) w192))))))))))) ∧ (((zs.getD x3.toNatClampNeg 0) &&& 31) = 30 → (vp_in (x3 + 1) zs.length ∧ (vp_in (x3 + 2) zs.length ∧ Ew zs 2 m_Bk_had [.inr (.inl (some 0)), .inl (zs.getD (x3 + 1).toNatClampNeg 0), .inl (zs.getD (x3 + 2).toNatClampNeg 0)] w (fun v w196 => ∃ r195 : Int32, v = some (.inl r195) ∧ (vp_in (x3 + 1) zs.length ∧ (vp_in (x3 + 2) zs.length ∧ Ew zs 1 m_Md_had [.inr (.inl (some 155)), .inl (zs.getD (x3 + 1).toNatClampNeg 0), .inl (zs.getD (x3 + 2).toNatClampNeg 0)] w196 (fun v w198 => ∃ r197 : Int32, v = some (.inl r197) ∧ ((r195 = r197 → Gw zs 8 m_Law_law 18 [some (.inr (.inr 0)), some (.inr (.inl (some 0))), some (.inr (.inl (some 155))), some (.inl (x3 + 7))] [] w198 Q) ∧ (¬ (r195 = r197) → Q (some (.inl 0)) w198))))))))) ∧ (¬ ((zs.getD x3.toNatClampNeg 0) &&& 31) = 0 → ¬ ((zs.getD x3.toNatClampNeg 0) &&& 31) = 1 → ¬ ((zs.getD x3.toNatClampNeg 0) &&& 31) = 2 → ¬ ((zs.getD x3.toNatClampNeg 0) &&& 31) = 3 → ¬ ((zs.getD x3.toNatClampNeg 0) &&& 31) = 4 → ¬ ((zs.getD x3.toNatClampNeg 0) &&& 31) = 5 → ¬ ((zs.getD x3.toNatClampNeg 0) &&& 31) = 6 → ¬ ((zs.getD x3.toNatClampNeg 0) &&& 31) = 7 → ¬ ((zs.getD x3.toNatClampNeg 0) &&& 31) = 8 → ¬ ((zs.getD x3.toNatClampNeg 0) &&& 31) = 9 → ¬ ((zs.getD x3.toNatClampNeg 0) &&& 31) = 10 → ¬ ((zs.getD x3.toNatClampNeg 0) &&& 31) = 11 → ¬ ((zs.getD x3.toNatClampNeg 0) &&& 31) = 12 → ¬ ((zs.getD x3.toNatClampNeg 0) &&& 31) = 13 → ¬ ((zs.getD x3.toNatClampNeg 0) &&& 31) = 14 → ¬ ((zs.getD x3.toNatClampNeg 0) &&& 31) = 15 → ¬ ((zs.getD x3.toNatClampNeg 0) &&& 31) = 16 → ¬ ((zs.getD x3.toNatClampNeg 0) &&& 31) = 17 → ¬ ((zs.getD x3.toNatClampNeg 0) &&& 31) = 18 → ¬ ((zs.getD x3.toNatClampNeg 0) &&& 31) = 19 → ¬ ((zs.getD x3.toNatClampNeg 0) &&& 31) = 20 → ¬ ((zs.getD x3.toNatClampNeg 0) &&& 31) = 21 → ¬ ((zs.getD x3.toNatClampNeg 0) &&& 31) = 22 → ¬ ((zs.getD x3.toNatClampNeg 0) &&& 31) = 23 → ¬ ((zs.getD x3.toNatClampNeg 0) &&& 31) = 24 → ¬ ((zs.getD x3.toNatClampNeg 0) &&& 31) = 25 → ¬ ((zs.getD x3.toNatClampNeg 0) &&& 31) = 26 → ¬ ((zs.getD x3.toNatClampNeg 0) &&& 31) = 27 → ¬ ((zs.getD x3.toNatClampNeg 0) &&& 31) = 28 → ¬ ((zs.getD x3.toNatClampNeg 0) &&& 31) = 29 → ¬ ((zs.getD x3.toNatClampNeg 0) &&& 31) = 30 → Gw zs 8 m_Law_law 18 [some (.inr (.inr 0)), some (.inr (.inl (some 0))), some (.inr (.inl (some 155))), some (.inl (x3 + 7))] [] w Q)))))) : Gw zs 8 m_Law_law 18 [some (.inr (.inr 0)), some (.inr (.inl (some 0))), some (.inr (.inl (some 155))), some (.inl x3)] [] w Q := by
  refine gw_iload_n k_Law_law f_Law_law_18 rfl ?_
  refine gw_aload_n k_Law_law f_Law_law_19 rfl ?_
  refine gw_ralen (zl := zs) k_Law_law f_Law_law_20 rfl rfl ?_
  refine gw_bipush k_Law_law f_Law_law_21 qb_7 ?_
  refine gw_isub k_Law_law f_Law_law_23 ?_
  refine gw_icmp_gt (t := 1515) k_Law_law f_Law_law_24 rfl (fun c1 => ?_) (fun c1 => ?_)
  · have h := h.1 c1
    refine gw_iconst k_Law_law f_Law_law_1515 qc_1 ?_
    exact gw_zret k_Law_law f_Law_law_1516 rfl (Or.inr rfl) h
  · have h := h.2 c1
    refine gw_aload_n k_Law_law f_Law_law_27 rfl ?_
    refine gw_iload_n k_Law_law f_Law_law_28 rfl ?_
    have hp := h.1
    have h := h.2
    refine gw_rald (zl := zs) k_Law_law f_Law_law_29 rfl hp ?_
    refine gw_bipush k_Law_law f_Law_law_30 qb_31 ?_
    refine gw_iand k_Law_law f_Law_law_32 ?_
    refine gw_tsw k_Law_law f_Law_law_33 (by decide) (by decide) (fun q hq hx => ?_) (fun hx => ?_)
    · match q, hq, hx with
      | 0, hq, hx =>
        have c2 : ((zs.getD x3.toNatClampNeg 0) &&& 31) = 0 := hx.trans (by decide)
        have h := h.1 c2
        refine ⟨_, 172, rfl, rfl, ?_⟩
        refine gw_aload_n k_Law_law f_Law_law_172 rfl ?_
        refine gw_aload_n k_Law_law f_Law_law_173 rfl ?_
        refine gw_iload_n k_Law_law f_Law_law_174 rfl ?_
        refine gw_iconst k_Law_law f_Law_law_175 qc_1 ?_
        refine gw_iadd k_Law_law f_Law_law_176 ?_
        have hp := h.1
        have h := h.2
        refine gw_rald (zl := zs) k_Law_law f_Law_law_177 rfl hp ?_
        refine gw_aload_n k_Law_law f_Law_law_178 rfl ?_
        refine gw_iload_n k_Law_law f_Law_law_179 rfl ?_
        refine gw_iconst k_Law_law f_Law_law_180 qc_2 ?_
        refine gw_iadd k_Law_law f_Law_law_181 ?_
        have hp := h.1
        have h := h.2
        refine gw_rald (zl := zs) k_Law_law f_Law_law_182 rfl hp ?_
        refine gw_virtual [.inl (zs.getD (x3 + 1).toNatClampNeg 0), .inl (zs.getD (x3 + 2).toNatClampNeg 0)] k_Law_law f_Law_law_183 l_invT_12_13 k_Bk_year hc0 rfl rfl rfl (by exact Nat.le_of_ble_eq_true rfl) (dc := 3) (by decide) ?_ rfl
        refine h.mono (fun v w4 hh => ?_)
        obtain ⟨r3, rfl, h⟩ := hh
        show Gw zs 8 m_Law_law 186 [some (.inr (.inr 0)), some (.inr (.inl (some 0))), some (.inr (.inl (some 155))), some (.inl x3)] [.inl r3] w4 _
        refine gw_aload_n k_Law_law f_Law_law_186 rfl ?_
        refine gw_aload_n k_Law_law f_Law_law_187 rfl ?_
        refine gw_iload_n k_Law_law f_Law_law_188 rfl ?_
        refine gw_iconst k_Law_law f_Law_law_189 qc_1 ?_
        refine gw_iadd k_Law_law f_Law_law_190 ?_
        have hp := h.1
        have h := h.2
        refine gw_rald (zl := zs) k_Law_law f_Law_law_191 rfl hp ?_
        refine gw_aload_n k_Law_law f_Law_law_192 rfl ?_
        refine gw_iload_n k_Law_law f_Law_law_193 rfl ?_
        refine gw_iconst k_Law_law f_Law_law_194 qc_2 ?_
        refine gw_iadd k_Law_law f_Law_law_195 ?_
        have hp := h.1
        have h := h.2
        refine gw_rald (zl := zs) k_Law_law f_Law_law_196 rfl hp ?_
        refine gw_virtual [.inl (zs.getD (x3 + 1).toNatClampNeg 0), .inl (zs.getD (x3 + 2).toNatClampNeg 0)] k_Law_law f_Law_law_197 l_invT_12_17 k_Md_year hc155 rfl rfl rfl (by exact Nat.le_of_ble_eq_true rfl) (dc := 4) (by decide) ?_ rfl
        refine h.mono (fun v w6 hh => ?_)
        obtain ⟨r5, rfl, h⟩ := hh
        show Gw zs 8 m_Law_law 200 [some (.inr (.inr 0)), some (.inr (.inl (some 0))), some (.inr (.inl (some 155))), some (.inl x3)] [.inl r5, .inl r3] w6 _
        refine gw_icmp_eq (t := 1509) k_Law_law f_Law_law_200 rfl (fun c7 => ?_) (fun c7 => ?_)
        · have h := h.1 c7
          refine gw_iinc [some (.inr (.inr 0)), some (.inr (.inl (some 0))), some (.inr (.inl (some 155))), some (.inl (x3 + 7))] k_Law_law f_Law_law_1509 rfl qc_7 (Nat.le_of_ble_eq_true rfl) rfl ?_
          refine gw_goto (t := 18) k_Law_law f_Law_law_1512 rfl ?_
          exact h
        · have h := h.2 c7
          refine gw_iconst k_Law_law f_Law_law_203 qc_0 ?_
          exact gw_zret k_Law_law f_Law_law_204 rfl (Or.inl rfl) h
      | 1, hq, hx =>
        have c8 : ((zs.getD x3.toNatClampNeg 0) &&& 31) = 1 := hx.trans (by decide)
        have h := h.2.1 c8
        refine ⟨_, 205, rfl, rfl, ?_⟩
        refine gw_aload_n k_Law_law f_Law_law_205 rfl ?_
        refine gw_aload_n k_Law_law f_Law_law_206 rfl ?_
        refine gw_iload_n k_Law_law f_Law_law_207 rfl ?_
        refine gw_iconst k_Law_law f_Law_law_208 qc_1 ?_
        refine gw_iadd k_Law_law f_Law_law_209 ?_
        have hp := h.1
        have h := h.2
        refine gw_rald (zl := zs) k_Law_law f_Law_law_210 rfl hp ?_
        refine gw_aload_n k_Law_law f_Law_law_211 rfl ?_
        refine gw_iload_n k_Law_law f_Law_law_212 rfl ?_
        refine gw_iconst k_Law_law f_Law_law_213 qc_2 ?_
        refine gw_iadd k_Law_law f_Law_law_214 ?_
        have hp := h.1
        have h := h.2
        refine gw_rald (zl := zs) k_Law_law f_Law_law_215 rfl hp ?_
        refine gw_aload_n k_Law_law f_Law_law_216 rfl ?_
        refine gw_iload_n k_Law_law f_Law_law_217 rfl ?_
        refine gw_iconst k_Law_law f_Law_law_218 qc_3 ?_
        refine gw_iadd k_Law_law f_Law_law_219 ?_
        have hp := h.1
        have h := h.2
        refine gw_rald (zl := zs) k_Law_law f_Law_law_220 rfl hp ?_
        refine gw_virtual [.inl (zs.getD (x3 + 1).toNatClampNeg 0), .inl (zs.getD (x3 + 2).toNatClampNeg 0), .inl (zs.getD (x3 + 3).toNatClampNeg 0)] k_Law_law f_Law_law_221 l_invT_12_18 k_Bk_day hc0 rfl rfl rfl (by exact Nat.le_of_ble_eq_true rfl) (dc := 3) (by decide) ?_ rfl
        refine h.mono (fun v w10 hh => ?_)
        obtain ⟨r9, rfl, h⟩ := hh
        show Gw zs 8 m_Law_law 224 [some (.inr (.inr 0)), some (.inr (.inl (some 0))), some (.inr (.inl (some 155))), some (.inl x3)] [.inl r9] w10 _
        refine gw_aload_n k_Law_law f_Law_law_224 rfl ?_
        refine gw_aload_n k_Law_law f_Law_law_225 rfl ?_
        refine gw_iload_n k_Law_law f_Law_law_226 rfl ?_
        refine gw_iconst k_Law_law f_Law_law_227 qc_1 ?_
        refine gw_iadd k_Law_law f_Law_law_228 ?_
        have hp := h.1
        have h := h.2
        refine gw_rald (zl := zs) k_Law_law f_Law_law_229 rfl hp ?_
        refine gw_aload_n k_Law_law f_Law_law_230 rfl ?_
        refine gw_iload_n k_Law_law f_Law_law_231 rfl ?_
        refine gw_iconst k_Law_law f_Law_law_232 qc_2 ?_
        refine gw_iadd k_Law_law f_Law_law_233 ?_
        have hp := h.1
        have h := h.2
        refine gw_rald (zl := zs) k_Law_law f_Law_law_234 rfl hp ?_
        refine gw_aload_n k_Law_law f_Law_law_235 rfl ?_
        refine gw_iload_n k_Law_law f_Law_law_236 rfl ?_
        refine gw_iconst k_Law_law f_Law_law_237 qc_3 ?_
        refine gw_iadd k_Law_law f_Law_law_238 ?_
        have hp := h.1
        have h := h.2
        refine gw_rald (zl := zs) k_Law_law f_Law_law_239 rfl hp ?_
        refine gw_virtual [.inl (zs.getD (x3 + 1).toNatClampNeg 0), .inl (zs.getD (x3 + 2).toNatClampNeg 0), .inl (zs.getD (x3 + 3).toNatClampNeg 0)] k_Law_law f_Law_law_240 l_invT_12_22 k_Md_day hc155 rfl rfl rfl (by exact Nat.le_of_ble_eq_true rfl) (dc := 3) (by decide) ?_ rfl
        refine h.mono (fun v w12 hh => ?_)
        obtain ⟨r11, rfl, h⟩ := hh
        show Gw zs 8 m_Law_law 243 [some (.inr (.inr 0)), some (.inr (.inl (some 0))), some (.inr (.inl (some 155))), some (.inl x3)] [.inl r11, .inl r9] w12 _
        refine gw_icmp_eq (t := 1509) k_Law_law f_Law_law_243 rfl (fun c13 => ?_) (fun c13 => ?_)
        · have h := h.1 c13
          refine gw_iinc [some (.inr (.inr 0)), some (.inr (.inl (some 0))), some (.inr (.inl (some 155))), some (.inl (x3 + 7))] k_Law_law f_Law_law_1509 rfl qc_7 (Nat.le_of_ble_eq_true rfl) rfl ?_
          refine gw_goto (t := 18) k_Law_law f_Law_law_1512 rfl ?_
          exact h
        · have h := h.2 c13
          refine gw_iconst k_Law_law f_Law_law_246 qc_0 ?_
          exact gw_zret k_Law_law f_Law_law_247 rfl (Or.inl rfl) h
      | 2, hq, hx =>
        have c14 : ((zs.getD x3.toNatClampNeg 0) &&& 31) = 2 := hx.trans (by decide)
        have h := h.2.2.1 c14
        refine ⟨_, 248, rfl, rfl, ?_⟩
        refine gw_aload_n k_Law_law f_Law_law_248 rfl ?_
        refine gw_aload_n k_Law_law f_Law_law_249 rfl ?_
        refine gw_iload_n k_Law_law f_Law_law_250 rfl ?_
        refine gw_iconst k_Law_law f_Law_law_251 qc_1 ?_
        refine gw_iadd k_Law_law f_Law_law_252 ?_
        have hp := h.1
        have h := h.2
        refine gw_rald (zl := zs) k_Law_law f_Law_law_253 rfl hp ?_
        refine gw_aload_n k_Law_law f_Law_law_254 rfl ?_
        refine gw_iload_n k_Law_law f_Law_law_255 rfl ?_
        refine gw_iconst k_Law_law f_Law_law_256 qc_2 ?_
        refine gw_iadd k_Law_law f_Law_law_257 ?_
        have hp := h.1
        have h := h.2
        refine gw_rald (zl := zs) k_Law_law f_Law_law_258 rfl hp ?_
        refine gw_aload_n k_Law_law f_Law_law_259 rfl ?_
        refine gw_iload_n k_Law_law f_Law_law_260 rfl ?_
        refine gw_iconst k_Law_law f_Law_law_261 qc_3 ?_
        refine gw_iadd k_Law_law f_Law_law_262 ?_
        have hp := h.1
        have h := h.2
        refine gw_rald (zl := zs) k_Law_law f_Law_law_263 rfl hp ?_
        refine gw_aload_n k_Law_law f_Law_law_264 rfl ?_
        refine gw_iload_n k_Law_law f_Law_law_265 rfl ?_
        refine gw_iconst k_Law_law f_Law_law_266 qc_4 ?_
        refine gw_iadd k_Law_law f_Law_law_267 ?_
        have hp := h.1
        have h := h.2
        refine gw_rald (zl := zs) k_Law_law f_Law_law_268 rfl hp ?_
        refine gw_aload_n k_Law_law f_Law_law_269 rfl ?_
        refine gw_iload_n k_Law_law f_Law_law_270 rfl ?_
        refine gw_iconst k_Law_law f_Law_law_271 qc_5 ?_
        refine gw_iadd k_Law_law f_Law_law_272 ?_
        have hp := h.1
        have h := h.2
        refine gw_rald (zl := zs) k_Law_law f_Law_law_273 rfl hp ?_
        refine gw_virtual [.inl (zs.getD (x3 + 1).toNatClampNeg 0), .inl (zs.getD (x3 + 2).toNatClampNeg 0), .inl (zs.getD (x3 + 3).toNatClampNeg 0), .inl (zs.getD (x3 + 4).toNatClampNeg 0), .inl (zs.getD (x3 + 5).toNatClampNeg 0)] k_Law_law f_Law_law_274 l_invT_12_23 k_Bk_season hc0 rfl rfl rfl (by exact Nat.le_of_ble_eq_true rfl) (dc := 3) (by decide) ?_ rfl
        refine h.mono (fun v w16 hh => ?_)
        obtain ⟨r15, rfl, h⟩ := hh
        show Gw zs 8 m_Law_law 277 [some (.inr (.inr 0)), some (.inr (.inl (some 0))), some (.inr (.inl (some 155))), some (.inl x3)] [.inl r15] w16 _
        refine gw_aload_n k_Law_law f_Law_law_277 rfl ?_
        refine gw_aload_n k_Law_law f_Law_law_278 rfl ?_
        refine gw_iload_n k_Law_law f_Law_law_279 rfl ?_
        refine gw_iconst k_Law_law f_Law_law_280 qc_1 ?_
        refine gw_iadd k_Law_law f_Law_law_281 ?_
        have hp := h.1
        have h := h.2
        refine gw_rald (zl := zs) k_Law_law f_Law_law_282 rfl hp ?_
        refine gw_aload_n k_Law_law f_Law_law_283 rfl ?_
        refine gw_iload_n k_Law_law f_Law_law_284 rfl ?_
        refine gw_iconst k_Law_law f_Law_law_285 qc_2 ?_
        refine gw_iadd k_Law_law f_Law_law_286 ?_
        have hp := h.1
        have h := h.2
        refine gw_rald (zl := zs) k_Law_law f_Law_law_287 rfl hp ?_
        refine gw_aload_n k_Law_law f_Law_law_288 rfl ?_
        refine gw_iload_n k_Law_law f_Law_law_289 rfl ?_
        refine gw_iconst k_Law_law f_Law_law_290 qc_3 ?_
        refine gw_iadd k_Law_law f_Law_law_291 ?_
        have hp := h.1
        have h := h.2
        refine gw_rald (zl := zs) k_Law_law f_Law_law_292 rfl hp ?_
        refine gw_aload_n k_Law_law f_Law_law_293 rfl ?_
        refine gw_iload_n k_Law_law f_Law_law_294 rfl ?_
        refine gw_iconst k_Law_law f_Law_law_295 qc_4 ?_
        refine gw_iadd k_Law_law f_Law_law_296 ?_
        have hp := h.1
        have h := h.2
        refine gw_rald (zl := zs) k_Law_law f_Law_law_297 rfl hp ?_
        refine gw_aload_n k_Law_law f_Law_law_298 rfl ?_
        refine gw_iload_n k_Law_law f_Law_law_299 rfl ?_
        refine gw_iconst k_Law_law f_Law_law_300 qc_5 ?_
        refine gw_iadd k_Law_law f_Law_law_301 ?_
        have hp := h.1
        have h := h.2
        refine gw_rald (zl := zs) k_Law_law f_Law_law_302 rfl hp ?_
        refine gw_virtual [.inl (zs.getD (x3 + 1).toNatClampNeg 0), .inl (zs.getD (x3 + 2).toNatClampNeg 0), .inl (zs.getD (x3 + 3).toNatClampNeg 0), .inl (zs.getD (x3 + 4).toNatClampNeg 0), .inl (zs.getD (x3 + 5).toNatClampNeg 0)] k_Law_law f_Law_law_303 l_invT_12_27 k_Md_season hc155 rfl rfl rfl (by exact Nat.le_of_ble_eq_true rfl) (dc := 2) (by decide) ?_ rfl
        refine h.mono (fun v w18 hh => ?_)
        obtain ⟨r17, rfl, h⟩ := hh
        show Gw zs 8 m_Law_law 306 [some (.inr (.inr 0)), some (.inr (.inl (some 0))), some (.inr (.inl (some 155))), some (.inl x3)] [.inl r17, .inl r15] w18 _
        refine gw_icmp_eq (t := 1509) k_Law_law f_Law_law_306 rfl (fun c19 => ?_) (fun c19 => ?_)
        · have h := h.1 c19
          refine gw_iinc [some (.inr (.inr 0)), some (.inr (.inl (some 0))), some (.inr (.inl (some 155))), some (.inl (x3 + 7))] k_Law_law f_Law_law_1509 rfl qc_7 (Nat.le_of_ble_eq_true rfl) rfl ?_
          refine gw_goto (t := 18) k_Law_law f_Law_law_1512 rfl ?_
          exact h
        · have h := h.2 c19
          refine gw_iconst k_Law_law f_Law_law_309 qc_0 ?_
          exact gw_zret k_Law_law f_Law_law_310 rfl (Or.inl rfl) h
      | 3, hq, hx =>
        have c20 : ((zs.getD x3.toNatClampNeg 0) &&& 31) = 3 := hx.trans (by decide)
        have h := h.2.2.2.1 c20
        refine ⟨_, 311, rfl, rfl, ?_⟩
        refine gw_aload_n k_Law_law f_Law_law_311 rfl ?_
        refine gw_aload_n k_Law_law f_Law_law_312 rfl ?_
        refine gw_iload_n k_Law_law f_Law_law_313 rfl ?_
        refine gw_iconst k_Law_law f_Law_law_314 qc_1 ?_
        refine gw_iadd k_Law_law f_Law_law_315 ?_
        have hp := h.1
        have h := h.2
        refine gw_rald (zl := zs) k_Law_law f_Law_law_316 rfl hp ?_
        refine gw_aload_n k_Law_law f_Law_law_317 rfl ?_
        refine gw_iload_n k_Law_law f_Law_law_318 rfl ?_
        refine gw_iconst k_Law_law f_Law_law_319 qc_2 ?_
        refine gw_iadd k_Law_law f_Law_law_320 ?_
        have hp := h.1
        have h := h.2
        refine gw_rald (zl := zs) k_Law_law f_Law_law_321 rfl hp ?_
        refine gw_aload_n k_Law_law f_Law_law_322 rfl ?_
        refine gw_iload_n k_Law_law f_Law_law_323 rfl ?_
        refine gw_iconst k_Law_law f_Law_law_324 qc_3 ?_
        refine gw_iadd k_Law_law f_Law_law_325 ?_
        have hp := h.1
        have h := h.2
        refine gw_rald (zl := zs) k_Law_law f_Law_law_326 rfl hp ?_
        refine gw_aload_n k_Law_law f_Law_law_327 rfl ?_
        refine gw_iload_n k_Law_law f_Law_law_328 rfl ?_
        refine gw_iconst k_Law_law f_Law_law_329 qc_4 ?_
        refine gw_iadd k_Law_law f_Law_law_330 ?_
        have hp := h.1
        have h := h.2
        refine gw_rald (zl := zs) k_Law_law f_Law_law_331 rfl hp ?_
        refine gw_aload_n k_Law_law f_Law_law_332 rfl ?_
        refine gw_iload_n k_Law_law f_Law_law_333 rfl ?_
        refine gw_iconst k_Law_law f_Law_law_334 qc_5 ?_
        refine gw_iadd k_Law_law f_Law_law_335 ?_
        have hp := h.1
        have h := h.2
        refine gw_rald (zl := zs) k_Law_law f_Law_law_336 rfl hp ?_
        refine gw_virtual [.inl (zs.getD (x3 + 1).toNatClampNeg 0), .inl (zs.getD (x3 + 2).toNatClampNeg 0), .inl (zs.getD (x3 + 3).toNatClampNeg 0), .inl (zs.getD (x3 + 4).toNatClampNeg 0), .inl (zs.getD (x3 + 5).toNatClampNeg 0)] k_Law_law f_Law_law_337 l_invT_12_28 k_Bk_dated hc0 rfl rfl rfl (by exact Nat.le_of_ble_eq_true rfl) (dc := 3) (by decide) ?_ rfl
        refine h.mono (fun v w22 hh => ?_)
        obtain ⟨r21, rfl, h⟩ := hh
        show Gw zs 8 m_Law_law 340 [some (.inr (.inr 0)), some (.inr (.inl (some 0))), some (.inr (.inl (some 155))), some (.inl x3)] [.inl r21] w22 _
        refine gw_aload_n k_Law_law f_Law_law_340 rfl ?_
        refine gw_aload_n k_Law_law f_Law_law_341 rfl ?_
        refine gw_iload_n k_Law_law f_Law_law_342 rfl ?_
        refine gw_iconst k_Law_law f_Law_law_343 qc_1 ?_
        refine gw_iadd k_Law_law f_Law_law_344 ?_
        have hp := h.1
        have h := h.2
        refine gw_rald (zl := zs) k_Law_law f_Law_law_345 rfl hp ?_
        refine gw_aload_n k_Law_law f_Law_law_346 rfl ?_
        refine gw_iload_n k_Law_law f_Law_law_347 rfl ?_
        refine gw_iconst k_Law_law f_Law_law_348 qc_2 ?_
        refine gw_iadd k_Law_law f_Law_law_349 ?_
        have hp := h.1
        have h := h.2
        refine gw_rald (zl := zs) k_Law_law f_Law_law_350 rfl hp ?_
        refine gw_aload_n k_Law_law f_Law_law_351 rfl ?_
        refine gw_iload_n k_Law_law f_Law_law_352 rfl ?_
        refine gw_iconst k_Law_law f_Law_law_353 qc_3 ?_
        refine gw_iadd k_Law_law f_Law_law_354 ?_
        have hp := h.1
        have h := h.2
        refine gw_rald (zl := zs) k_Law_law f_Law_law_355 rfl hp ?_
        refine gw_aload_n k_Law_law f_Law_law_356 rfl ?_
        refine gw_iload_n k_Law_law f_Law_law_357 rfl ?_
        refine gw_iconst k_Law_law f_Law_law_358 qc_4 ?_
        refine gw_iadd k_Law_law f_Law_law_359 ?_
        have hp := h.1
        have h := h.2
        refine gw_rald (zl := zs) k_Law_law f_Law_law_360 rfl hp ?_
        refine gw_aload_n k_Law_law f_Law_law_361 rfl ?_
        refine gw_iload_n k_Law_law f_Law_law_362 rfl ?_
        refine gw_iconst k_Law_law f_Law_law_363 qc_5 ?_
        refine gw_iadd k_Law_law f_Law_law_364 ?_
        have hp := h.1
        have h := h.2
        refine gw_rald (zl := zs) k_Law_law f_Law_law_365 rfl hp ?_
        refine gw_virtual [.inl (zs.getD (x3 + 1).toNatClampNeg 0), .inl (zs.getD (x3 + 2).toNatClampNeg 0), .inl (zs.getD (x3 + 3).toNatClampNeg 0), .inl (zs.getD (x3 + 4).toNatClampNeg 0), .inl (zs.getD (x3 + 5).toNatClampNeg 0)] k_Law_law f_Law_law_366 l_invT_12_31 k_Md_dated hc155 rfl rfl rfl (by exact Nat.le_of_ble_eq_true rfl) (dc := 2) (by decide) ?_ rfl
        refine h.mono (fun v w24 hh => ?_)
        obtain ⟨r23, rfl, h⟩ := hh
        show Gw zs 8 m_Law_law 369 [some (.inr (.inr 0)), some (.inr (.inl (some 0))), some (.inr (.inl (some 155))), some (.inl x3)] [.inl r23, .inl r21] w24 _
        refine gw_icmp_eq (t := 1509) k_Law_law f_Law_law_369 rfl (fun c25 => ?_) (fun c25 => ?_)
        · have h := h.1 c25
          refine gw_iinc [some (.inr (.inr 0)), some (.inr (.inl (some 0))), some (.inr (.inl (some 155))), some (.inl (x3 + 7))] k_Law_law f_Law_law_1509 rfl qc_7 (Nat.le_of_ble_eq_true rfl) rfl ?_
          refine gw_goto (t := 18) k_Law_law f_Law_law_1512 rfl ?_
          exact h
        · have h := h.2 c25
          refine gw_iconst k_Law_law f_Law_law_372 qc_0 ?_
          exact gw_zret k_Law_law f_Law_law_373 rfl (Or.inl rfl) h
      | 4, hq, hx =>
        have c26 : ((zs.getD x3.toNatClampNeg 0) &&& 31) = 4 := hx.trans (by decide)
        have h := h.2.2.2.2.1 c26
        refine ⟨_, 374, rfl, rfl, ?_⟩
        refine gw_aload_n k_Law_law f_Law_law_374 rfl ?_
        refine gw_aload_n k_Law_law f_Law_law_375 rfl ?_
        refine gw_iload_n k_Law_law f_Law_law_376 rfl ?_
        refine gw_iconst k_Law_law f_Law_law_377 qc_1 ?_
        refine gw_iadd k_Law_law f_Law_law_378 ?_
        have hp := h.1
        have h := h.2
        refine gw_rald (zl := zs) k_Law_law f_Law_law_379 rfl hp ?_
        refine gw_aload_n k_Law_law f_Law_law_380 rfl ?_
        refine gw_iload_n k_Law_law f_Law_law_381 rfl ?_
        refine gw_iconst k_Law_law f_Law_law_382 qc_2 ?_
        refine gw_iadd k_Law_law f_Law_law_383 ?_
        have hp := h.1
        have h := h.2
        refine gw_rald (zl := zs) k_Law_law f_Law_law_384 rfl hp ?_
        refine gw_aload_n k_Law_law f_Law_law_385 rfl ?_
        refine gw_iload_n k_Law_law f_Law_law_386 rfl ?_
        refine gw_iconst k_Law_law f_Law_law_387 qc_3 ?_
        refine gw_iadd k_Law_law f_Law_law_388 ?_
        have hp := h.1
        have h := h.2
        refine gw_rald (zl := zs) k_Law_law f_Law_law_389 rfl hp ?_
        refine gw_aload_n k_Law_law f_Law_law_390 rfl ?_
        refine gw_iload_n k_Law_law f_Law_law_391 rfl ?_
        refine gw_iconst k_Law_law f_Law_law_392 qc_4 ?_
        refine gw_iadd k_Law_law f_Law_law_393 ?_
        have hp := h.1
        have h := h.2
        refine gw_rald (zl := zs) k_Law_law f_Law_law_394 rfl hp ?_
        refine gw_aload_n k_Law_law f_Law_law_395 rfl ?_
        refine gw_iload_n k_Law_law f_Law_law_396 rfl ?_
        refine gw_iconst k_Law_law f_Law_law_397 qc_5 ?_
        refine gw_iadd k_Law_law f_Law_law_398 ?_
        have hp := h.1
        have h := h.2
        refine gw_rald (zl := zs) k_Law_law f_Law_law_399 rfl hp ?_
        refine gw_virtual [.inl (zs.getD (x3 + 1).toNatClampNeg 0), .inl (zs.getD (x3 + 2).toNatClampNeg 0), .inl (zs.getD (x3 + 3).toNatClampNeg 0), .inl (zs.getD (x3 + 4).toNatClampNeg 0), .inl (zs.getD (x3 + 5).toNatClampNeg 0)] k_Law_law f_Law_law_400 l_invT_12_32 k_Bk_feast hc0 rfl rfl rfl (by exact Nat.le_of_ble_eq_true rfl) (dc := 6) (by decide) ?_ rfl
        refine h.mono (fun v w28 hh => ?_)
        obtain ⟨r27, rfl, h⟩ := hh
        show Gw zs 8 m_Law_law 403 [some (.inr (.inr 0)), some (.inr (.inl (some 0))), some (.inr (.inl (some 155))), some (.inl x3)] [.inl r27] w28 _
        refine gw_aload_n k_Law_law f_Law_law_403 rfl ?_
        refine gw_aload_n k_Law_law f_Law_law_404 rfl ?_
        refine gw_iload_n k_Law_law f_Law_law_405 rfl ?_
        refine gw_iconst k_Law_law f_Law_law_406 qc_1 ?_
        refine gw_iadd k_Law_law f_Law_law_407 ?_
        have hp := h.1
        have h := h.2
        refine gw_rald (zl := zs) k_Law_law f_Law_law_408 rfl hp ?_
        refine gw_aload_n k_Law_law f_Law_law_409 rfl ?_
        refine gw_iload_n k_Law_law f_Law_law_410 rfl ?_
        refine gw_iconst k_Law_law f_Law_law_411 qc_2 ?_
        refine gw_iadd k_Law_law f_Law_law_412 ?_
        have hp := h.1
        have h := h.2
        refine gw_rald (zl := zs) k_Law_law f_Law_law_413 rfl hp ?_
        refine gw_aload_n k_Law_law f_Law_law_414 rfl ?_
        refine gw_iload_n k_Law_law f_Law_law_415 rfl ?_
        refine gw_iconst k_Law_law f_Law_law_416 qc_3 ?_
        refine gw_iadd k_Law_law f_Law_law_417 ?_
        have hp := h.1
        have h := h.2
        refine gw_rald (zl := zs) k_Law_law f_Law_law_418 rfl hp ?_
        refine gw_aload_n k_Law_law f_Law_law_419 rfl ?_
        refine gw_iload_n k_Law_law f_Law_law_420 rfl ?_
        refine gw_iconst k_Law_law f_Law_law_421 qc_4 ?_
        refine gw_iadd k_Law_law f_Law_law_422 ?_
        have hp := h.1
        have h := h.2
        refine gw_rald (zl := zs) k_Law_law f_Law_law_423 rfl hp ?_
        refine gw_aload_n k_Law_law f_Law_law_424 rfl ?_
        refine gw_iload_n k_Law_law f_Law_law_425 rfl ?_
        refine gw_iconst k_Law_law f_Law_law_426 qc_5 ?_
        refine gw_iadd k_Law_law f_Law_law_427 ?_
        have hp := h.1
        have h := h.2
        refine gw_rald (zl := zs) k_Law_law f_Law_law_428 rfl hp ?_
        refine gw_virtual [.inl (zs.getD (x3 + 1).toNatClampNeg 0), .inl (zs.getD (x3 + 2).toNatClampNeg 0), .inl (zs.getD (x3 + 3).toNatClampNeg 0), .inl (zs.getD (x3 + 4).toNatClampNeg 0), .inl (zs.getD (x3 + 5).toNatClampNeg 0)] k_Law_law f_Law_law_429 l_invT_12_35 k_Md_feast hc155 rfl rfl rfl (by exact Nat.le_of_ble_eq_true rfl) (dc := 3) (by decide) ?_ rfl
        refine h.mono (fun v w30 hh => ?_)
        obtain ⟨r29, rfl, h⟩ := hh
        show Gw zs 8 m_Law_law 432 [some (.inr (.inr 0)), some (.inr (.inl (some 0))), some (.inr (.inl (some 155))), some (.inl x3)] [.inl r29, .inl r27] w30 _
        refine gw_icmp_eq (t := 1509) k_Law_law f_Law_law_432 rfl (fun c31 => ?_) (fun c31 => ?_)
        · have h := h.1 c31
          refine gw_iinc [some (.inr (.inr 0)), some (.inr (.inl (some 0))), some (.inr (.inl (some 155))), some (.inl (x3 + 7))] k_Law_law f_Law_law_1509 rfl qc_7 (Nat.le_of_ble_eq_true rfl) rfl ?_
          refine gw_goto (t := 18) k_Law_law f_Law_law_1512 rfl ?_
          exact h
        · have h := h.2 c31
          refine gw_iconst k_Law_law f_Law_law_435 qc_0 ?_
          exact gw_zret k_Law_law f_Law_law_436 rfl (Or.inl rfl) h
      | 5, hq, hx =>
        have c32 : ((zs.getD x3.toNatClampNeg 0) &&& 31) = 5 := hx.trans (by decide)
        have h := h.2.2.2.2.2.1 c32
        refine ⟨_, 437, rfl, rfl, ?_⟩
        refine gw_aload_n k_Law_law f_Law_law_437 rfl ?_
        refine gw_aload_n k_Law_law f_Law_law_438 rfl ?_
        refine gw_iload_n k_Law_law f_Law_law_439 rfl ?_
        refine gw_iconst k_Law_law f_Law_law_440 qc_1 ?_
        refine gw_iadd k_Law_law f_Law_law_441 ?_
        have hp := h.1
        have h := h.2
        refine gw_rald (zl := zs) k_Law_law f_Law_law_442 rfl hp ?_
        refine gw_aload_n k_Law_law f_Law_law_443 rfl ?_
        refine gw_iload_n k_Law_law f_Law_law_444 rfl ?_
        refine gw_iconst k_Law_law f_Law_law_445 qc_2 ?_
        refine gw_iadd k_Law_law f_Law_law_446 ?_
        have hp := h.1
        have h := h.2
        refine gw_rald (zl := zs) k_Law_law f_Law_law_447 rfl hp ?_
        refine gw_aload_n k_Law_law f_Law_law_448 rfl ?_
        refine gw_iload_n k_Law_law f_Law_law_449 rfl ?_
        refine gw_iconst k_Law_law f_Law_law_450 qc_3 ?_
        refine gw_iadd k_Law_law f_Law_law_451 ?_
        have hp := h.1
        have h := h.2
        refine gw_rald (zl := zs) k_Law_law f_Law_law_452 rfl hp ?_
        refine gw_if_eq (t := 460) k_Law_law f_Law_law_453 rfl (fun c33 => ?_) (fun c33 => ?_)
        · have h := h.1 c33
          refine gw_iconst k_Law_law f_Law_law_460 qc_0 ?_
          refine gw_virtual [.inl (zs.getD (x3 + 1).toNatClampNeg 0), .inl (zs.getD (x3 + 2).toNatClampNeg 0), .inl 0] k_Law_law f_Law_law_461 l_invT_12_36 k_Bk_around hc0 rfl rfl rfl (by exact Nat.le_of_ble_eq_true rfl) (dc := 2) (by decide) ?_ rfl
          refine h.mono (fun v w35 hh => ?_)
          obtain ⟨r34, rfl, h⟩ := hh
          show Gw zs 8 m_Law_law 464 [some (.inr (.inr 0)), some (.inr (.inl (some 0))), some (.inr (.inl (some 155))), some (.inl x3)] [.inl r34] w35 _
          refine gw_aload_n k_Law_law f_Law_law_464 rfl ?_
          refine gw_aload_n k_Law_law f_Law_law_465 rfl ?_
          refine gw_iload_n k_Law_law f_Law_law_466 rfl ?_
          refine gw_iconst k_Law_law f_Law_law_467 qc_1 ?_
          refine gw_iadd k_Law_law f_Law_law_468 ?_
          have hp := h.1
          have h := h.2
          refine gw_rald (zl := zs) k_Law_law f_Law_law_469 rfl hp ?_
          refine gw_aload_n k_Law_law f_Law_law_470 rfl ?_
          refine gw_iload_n k_Law_law f_Law_law_471 rfl ?_
          refine gw_iconst k_Law_law f_Law_law_472 qc_2 ?_
          refine gw_iadd k_Law_law f_Law_law_473 ?_
          have hp := h.1
          have h := h.2
          refine gw_rald (zl := zs) k_Law_law f_Law_law_474 rfl hp ?_
          refine gw_aload_n k_Law_law f_Law_law_475 rfl ?_
          refine gw_iload_n k_Law_law f_Law_law_476 rfl ?_
          refine gw_iconst k_Law_law f_Law_law_477 qc_3 ?_
          refine gw_iadd k_Law_law f_Law_law_478 ?_
          have hp := h.1
          have h := h.2
          refine gw_rald (zl := zs) k_Law_law f_Law_law_479 rfl hp ?_
          refine gw_if_eq (t := 487) k_Law_law f_Law_law_480 rfl (fun _ => ?_) (fun c => absurd c33 c)
          refine gw_iconst k_Law_law f_Law_law_487 qc_0 ?_
          refine gw_virtual [.inl (zs.getD (x3 + 1).toNatClampNeg 0), .inl (zs.getD (x3 + 2).toNatClampNeg 0), .inl 0] k_Law_law f_Law_law_488 l_invT_12_40 k_Md_around hc155 rfl rfl rfl (by exact Nat.le_of_ble_eq_true rfl) (dc := 1) (by decide) ?_ rfl
          refine h.mono (fun v w37 hh => ?_)
          obtain ⟨r36, rfl, h⟩ := hh
          show Gw zs 8 m_Law_law 491 [some (.inr (.inr 0)), some (.inr (.inl (some 0))), some (.inr (.inl (some 155))), some (.inl x3)] [.inl r36, .inl r34] w37 _
          refine gw_icmp_eq (t := 1509) k_Law_law f_Law_law_491 rfl (fun c38 => ?_) (fun c38 => ?_)
          · have h := h.1 c38
            refine gw_iinc [some (.inr (.inr 0)), some (.inr (.inl (some 0))), some (.inr (.inl (some 155))), some (.inl (x3 + 7))] k_Law_law f_Law_law_1509 rfl qc_7 (Nat.le_of_ble_eq_true rfl) rfl ?_
            refine gw_goto (t := 18) k_Law_law f_Law_law_1512 rfl ?_
            exact h
          · have h := h.2 c38
            refine gw_iconst k_Law_law f_Law_law_494 qc_0 ?_
            exact gw_zret k_Law_law f_Law_law_495 rfl (Or.inl rfl) h
        · have h := h.2 c33
          refine gw_iconst k_Law_law f_Law_law_456 qc_1 ?_
          refine gw_goto (t := 461) k_Law_law f_Law_law_457 rfl ?_
          refine gw_virtual [.inl (zs.getD (x3 + 1).toNatClampNeg 0), .inl (zs.getD (x3 + 2).toNatClampNeg 0), .inl 1] k_Law_law f_Law_law_461 l_invT_12_36 k_Bk_around hc0 rfl rfl rfl (by exact Nat.le_of_ble_eq_true rfl) (dc := 2) (by decide) ?_ rfl
          refine h.mono (fun v w40 hh => ?_)
          obtain ⟨r39, rfl, h⟩ := hh
          show Gw zs 8 m_Law_law 464 [some (.inr (.inr 0)), some (.inr (.inl (some 0))), some (.inr (.inl (some 155))), some (.inl x3)] [.inl r39] w40 _
          refine gw_aload_n k_Law_law f_Law_law_464 rfl ?_
          refine gw_aload_n k_Law_law f_Law_law_465 rfl ?_
          refine gw_iload_n k_Law_law f_Law_law_466 rfl ?_
          refine gw_iconst k_Law_law f_Law_law_467 qc_1 ?_
          refine gw_iadd k_Law_law f_Law_law_468 ?_
          have hp := h.1
          have h := h.2
          refine gw_rald (zl := zs) k_Law_law f_Law_law_469 rfl hp ?_
          refine gw_aload_n k_Law_law f_Law_law_470 rfl ?_
          refine gw_iload_n k_Law_law f_Law_law_471 rfl ?_
          refine gw_iconst k_Law_law f_Law_law_472 qc_2 ?_
          refine gw_iadd k_Law_law f_Law_law_473 ?_
          have hp := h.1
          have h := h.2
          refine gw_rald (zl := zs) k_Law_law f_Law_law_474 rfl hp ?_
          refine gw_aload_n k_Law_law f_Law_law_475 rfl ?_
          refine gw_iload_n k_Law_law f_Law_law_476 rfl ?_
          refine gw_iconst k_Law_law f_Law_law_477 qc_3 ?_
          refine gw_iadd k_Law_law f_Law_law_478 ?_
          have hp := h.1
          have h := h.2
          refine gw_rald (zl := zs) k_Law_law f_Law_law_479 rfl hp ?_
          refine gw_if_eq (t := 487) k_Law_law f_Law_law_480 rfl (fun c => absurd c c33) (fun _ => ?_)
          refine gw_iconst k_Law_law f_Law_law_483 qc_1 ?_
          refine gw_goto (t := 488) k_Law_law f_Law_law_484 rfl ?_
          refine gw_virtual [.inl (zs.getD (x3 + 1).toNatClampNeg 0), .inl (zs.getD (x3 + 2).toNatClampNeg 0), .inl 1] k_Law_law f_Law_law_488 l_invT_12_40 k_Md_around hc155 rfl rfl rfl (by exact Nat.le_of_ble_eq_true rfl) (dc := 1) (by decide) ?_ rfl
          refine h.mono (fun v w42 hh => ?_)
          obtain ⟨r41, rfl, h⟩ := hh
          show Gw zs 8 m_Law_law 491 [some (.inr (.inr 0)), some (.inr (.inl (some 0))), some (.inr (.inl (some 155))), some (.inl x3)] [.inl r41, .inl r39] w42 _
          refine gw_icmp_eq (t := 1509) k_Law_law f_Law_law_491 rfl (fun c43 => ?_) (fun c43 => ?_)
          · have h := h.1 c43
            refine gw_iinc [some (.inr (.inr 0)), some (.inr (.inl (some 0))), some (.inr (.inl (some 155))), some (.inl (x3 + 7))] k_Law_law f_Law_law_1509 rfl qc_7 (Nat.le_of_ble_eq_true rfl) rfl ?_
            refine gw_goto (t := 18) k_Law_law f_Law_law_1512 rfl ?_
            exact h
          · have h := h.2 c43
            refine gw_iconst k_Law_law f_Law_law_494 qc_0 ?_
            exact gw_zret k_Law_law f_Law_law_495 rfl (Or.inl rfl) h
      | 6, hq, hx =>
        have c44 : ((zs.getD x3.toNatClampNeg 0) &&& 31) = 6 := hx.trans (by decide)
        have h := h.2.2.2.2.2.2.1 c44
        refine ⟨_, 496, rfl, rfl, ?_⟩
        refine gw_aload_n k_Law_law f_Law_law_496 rfl ?_
        refine gw_aload_n k_Law_law f_Law_law_497 rfl ?_
        refine gw_iload_n k_Law_law f_Law_law_498 rfl ?_
        refine gw_iconst k_Law_law f_Law_law_499 qc_1 ?_
        refine gw_iadd k_Law_law f_Law_law_500 ?_
        have hp := h.1
        have h := h.2
        refine gw_rald (zl := zs) k_Law_law f_Law_law_501 rfl hp ?_
        refine gw_aload_n k_Law_law f_Law_law_502 rfl ?_
        refine gw_iload_n k_Law_law f_Law_law_503 rfl ?_
        refine gw_iconst k_Law_law f_Law_law_504 qc_2 ?_
        refine gw_iadd k_Law_law f_Law_law_505 ?_
        have hp := h.1
        have h := h.2
        refine gw_rald (zl := zs) k_Law_law f_Law_law_506 rfl hp ?_
        refine gw_aload_n k_Law_law f_Law_law_507 rfl ?_
        refine gw_iload_n k_Law_law f_Law_law_508 rfl ?_
        refine gw_iconst k_Law_law f_Law_law_509 qc_3 ?_
        refine gw_iadd k_Law_law f_Law_law_510 ?_
        have hp := h.1
        have h := h.2
        refine gw_rald (zl := zs) k_Law_law f_Law_law_511 rfl hp ?_
        refine gw_virtual [.inl (zs.getD (x3 + 1).toNatClampNeg 0), .inl (zs.getD (x3 + 2).toNatClampNeg 0), .inl (zs.getD (x3 + 3).toNatClampNeg 0)] k_Law_law f_Law_law_512 l_invT_12_41 k_Bk_raise hc0 rfl rfl rfl (by exact Nat.le_of_ble_eq_true rfl) (dc := 3) (by decide) ?_ rfl
        refine h.mono (fun v w46 hh => ?_)
        obtain ⟨r45, rfl, h⟩ := hh
        show Gw zs 8 m_Law_law 515 [some (.inr (.inr 0)), some (.inr (.inl (some 0))), some (.inr (.inl (some 155))), some (.inl x3)] [.inl r45] w46 _
        refine gw_aload_n k_Law_law f_Law_law_515 rfl ?_
        refine gw_aload_n k_Law_law f_Law_law_516 rfl ?_
        refine gw_iload_n k_Law_law f_Law_law_517 rfl ?_
        refine gw_iconst k_Law_law f_Law_law_518 qc_1 ?_
        refine gw_iadd k_Law_law f_Law_law_519 ?_
        have hp := h.1
        have h := h.2
        refine gw_rald (zl := zs) k_Law_law f_Law_law_520 rfl hp ?_
        refine gw_aload_n k_Law_law f_Law_law_521 rfl ?_
        refine gw_iload_n k_Law_law f_Law_law_522 rfl ?_
        refine gw_iconst k_Law_law f_Law_law_523 qc_2 ?_
        refine gw_iadd k_Law_law f_Law_law_524 ?_
        have hp := h.1
        have h := h.2
        refine gw_rald (zl := zs) k_Law_law f_Law_law_525 rfl hp ?_
        refine gw_aload_n k_Law_law f_Law_law_526 rfl ?_
        refine gw_iload_n k_Law_law f_Law_law_527 rfl ?_
        refine gw_iconst k_Law_law f_Law_law_528 qc_3 ?_
        refine gw_iadd k_Law_law f_Law_law_529 ?_
        have hp := h.1
        have h := h.2
        refine gw_rald (zl := zs) k_Law_law f_Law_law_530 rfl hp ?_
        refine gw_virtual [.inl (zs.getD (x3 + 1).toNatClampNeg 0), .inl (zs.getD (x3 + 2).toNatClampNeg 0), .inl (zs.getD (x3 + 3).toNatClampNeg 0)] k_Law_law f_Law_law_531 l_invT_12_44 k_Md_raise hc155 rfl rfl rfl (by exact Nat.le_of_ble_eq_true rfl) (dc := 1) (by decide) ?_ rfl
        refine h.mono (fun v w48 hh => ?_)
        obtain ⟨r47, rfl, h⟩ := hh
        show Gw zs 8 m_Law_law 534 [some (.inr (.inr 0)), some (.inr (.inl (some 0))), some (.inr (.inl (some 155))), some (.inl x3)] [.inl r47, .inl r45] w48 _
        refine gw_icmp_eq (t := 1509) k_Law_law f_Law_law_534 rfl (fun c49 => ?_) (fun c49 => ?_)
        · have h := h.1 c49
          refine gw_iinc [some (.inr (.inr 0)), some (.inr (.inl (some 0))), some (.inr (.inl (some 155))), some (.inl (x3 + 7))] k_Law_law f_Law_law_1509 rfl qc_7 (Nat.le_of_ble_eq_true rfl) rfl ?_
          refine gw_goto (t := 18) k_Law_law f_Law_law_1512 rfl ?_
          exact h
        · have h := h.2 c49
          refine gw_iconst k_Law_law f_Law_law_537 qc_0 ?_
          exact gw_zret k_Law_law f_Law_law_538 rfl (Or.inl rfl) h
      | 7, hq, hx =>
        have c50 : ((zs.getD x3.toNatClampNeg 0) &&& 31) = 7 := hx.trans (by decide)
        have h := h.2.2.2.2.2.2.2.1 c50
        refine ⟨_, 539, rfl, rfl, ?_⟩
        refine gw_aload_n k_Law_law f_Law_law_539 rfl ?_
        refine gw_aload_n k_Law_law f_Law_law_540 rfl ?_
        refine gw_iload_n k_Law_law f_Law_law_541 rfl ?_
        refine gw_iconst k_Law_law f_Law_law_542 qc_1 ?_
        refine gw_iadd k_Law_law f_Law_law_543 ?_
        have hp := h.1
        have h := h.2
        refine gw_rald (zl := zs) k_Law_law f_Law_law_544 rfl hp ?_
        refine gw_aload_n k_Law_law f_Law_law_545 rfl ?_
        refine gw_iload_n k_Law_law f_Law_law_546 rfl ?_
        refine gw_iconst k_Law_law f_Law_law_547 qc_2 ?_
        refine gw_iadd k_Law_law f_Law_law_548 ?_
        have hp := h.1
        have h := h.2
        refine gw_rald (zl := zs) k_Law_law f_Law_law_549 rfl hp ?_
        refine gw_aload_n k_Law_law f_Law_law_550 rfl ?_
        refine gw_iload_n k_Law_law f_Law_law_551 rfl ?_
        refine gw_iconst k_Law_law f_Law_law_552 qc_3 ?_
        refine gw_iadd k_Law_law f_Law_law_553 ?_
        have hp := h.1
        have h := h.2
        refine gw_rald (zl := zs) k_Law_law f_Law_law_554 rfl hp ?_
        refine gw_virtual [.inl (zs.getD (x3 + 1).toNatClampNeg 0), .inl (zs.getD (x3 + 2).toNatClampNeg 0), .inl (zs.getD (x3 + 3).toNatClampNeg 0)] k_Law_law f_Law_law_555 l_invT_12_45 k_Bk_office hc0 rfl rfl rfl (by exact Nat.le_of_ble_eq_true rfl) (dc := 7) (by decide) ?_ rfl
        refine h.mono (fun v w52 hh => ?_)
        obtain ⟨r51, rfl, h⟩ := hh
        show Gw zs 8 m_Law_law 558 [some (.inr (.inr 0)), some (.inr (.inl (some 0))), some (.inr (.inl (some 155))), some (.inl x3)] [.inl r51] w52 _
        refine gw_aload_n k_Law_law f_Law_law_558 rfl ?_
        refine gw_aload_n k_Law_law f_Law_law_559 rfl ?_
        refine gw_iload_n k_Law_law f_Law_law_560 rfl ?_
        refine gw_iconst k_Law_law f_Law_law_561 qc_1 ?_
        refine gw_iadd k_Law_law f_Law_law_562 ?_
        have hp := h.1
        have h := h.2
        refine gw_rald (zl := zs) k_Law_law f_Law_law_563 rfl hp ?_
        refine gw_aload_n k_Law_law f_Law_law_564 rfl ?_
        refine gw_iload_n k_Law_law f_Law_law_565 rfl ?_
        refine gw_iconst k_Law_law f_Law_law_566 qc_2 ?_
        refine gw_iadd k_Law_law f_Law_law_567 ?_
        have hp := h.1
        have h := h.2
        refine gw_rald (zl := zs) k_Law_law f_Law_law_568 rfl hp ?_
        refine gw_aload_n k_Law_law f_Law_law_569 rfl ?_
        refine gw_iload_n k_Law_law f_Law_law_570 rfl ?_
        refine gw_iconst k_Law_law f_Law_law_571 qc_3 ?_
        refine gw_iadd k_Law_law f_Law_law_572 ?_
        have hp := h.1
        have h := h.2
        refine gw_rald (zl := zs) k_Law_law f_Law_law_573 rfl hp ?_
        refine gw_virtual [.inl (zs.getD (x3 + 1).toNatClampNeg 0), .inl (zs.getD (x3 + 2).toNatClampNeg 0), .inl (zs.getD (x3 + 3).toNatClampNeg 0)] k_Law_law f_Law_law_574 l_invT_12_48 k_Md_office hc155 rfl rfl rfl (by exact Nat.le_of_ble_eq_true rfl) (dc := 6) (by decide) ?_ rfl
        refine h.mono (fun v w54 hh => ?_)
        obtain ⟨r53, rfl, h⟩ := hh
        show Gw zs 8 m_Law_law 577 [some (.inr (.inr 0)), some (.inr (.inl (some 0))), some (.inr (.inl (some 155))), some (.inl x3)] [.inl r53, .inl r51] w54 _
        refine gw_icmp_eq (t := 1509) k_Law_law f_Law_law_577 rfl (fun c55 => ?_) (fun c55 => ?_)
        · have h := h.1 c55
          refine gw_iinc [some (.inr (.inr 0)), some (.inr (.inl (some 0))), some (.inr (.inl (some 155))), some (.inl (x3 + 7))] k_Law_law f_Law_law_1509 rfl qc_7 (Nat.le_of_ble_eq_true rfl) rfl ?_
          refine gw_goto (t := 18) k_Law_law f_Law_law_1512 rfl ?_
          exact h
        · have h := h.2 c55
          refine gw_iconst k_Law_law f_Law_law_580 qc_0 ?_
          exact gw_zret k_Law_law f_Law_law_581 rfl (Or.inl rfl) h
      | 8, hq, hx =>
        have c56 : ((zs.getD x3.toNatClampNeg 0) &&& 31) = 8 := hx.trans (by decide)
        have h := h.2.2.2.2.2.2.2.2.1 c56
        refine ⟨_, 582, rfl, rfl, ?_⟩
        refine gw_aload_n k_Law_law f_Law_law_582 rfl ?_
        refine gw_aload_n k_Law_law f_Law_law_583 rfl ?_
        refine gw_iload_n k_Law_law f_Law_law_584 rfl ?_
        refine gw_iconst k_Law_law f_Law_law_585 qc_1 ?_
        refine gw_iadd k_Law_law f_Law_law_586 ?_
        have hp := h.1
        have h := h.2
        refine gw_rald (zl := zs) k_Law_law f_Law_law_587 rfl hp ?_
        refine gw_aload_n k_Law_law f_Law_law_588 rfl ?_
        refine gw_iload_n k_Law_law f_Law_law_589 rfl ?_
        refine gw_iconst k_Law_law f_Law_law_590 qc_2 ?_
        refine gw_iadd k_Law_law f_Law_law_591 ?_
        have hp := h.1
        have h := h.2
        refine gw_rald (zl := zs) k_Law_law f_Law_law_592 rfl hp ?_
        refine gw_aload_n k_Law_law f_Law_law_593 rfl ?_
        refine gw_iload_n k_Law_law f_Law_law_594 rfl ?_
        refine gw_iconst k_Law_law f_Law_law_595 qc_3 ?_
        refine gw_iadd k_Law_law f_Law_law_596 ?_
        have hp := h.1
        have h := h.2
        refine gw_rald (zl := zs) k_Law_law f_Law_law_597 rfl hp ?_
        refine gw_aload_n k_Law_law f_Law_law_598 rfl ?_
        refine gw_iload_n k_Law_law f_Law_law_599 rfl ?_
        refine gw_iconst k_Law_law f_Law_law_600 qc_4 ?_
        refine gw_iadd k_Law_law f_Law_law_601 ?_
        have hp := h.1
        have h := h.2
        refine gw_rald (zl := zs) k_Law_law f_Law_law_602 rfl hp ?_
        refine gw_virtual [.inl (zs.getD (x3 + 1).toNatClampNeg 0), .inl (zs.getD (x3 + 2).toNatClampNeg 0), .inl (zs.getD (x3 + 3).toNatClampNeg 0), .inl (zs.getD (x3 + 4).toNatClampNeg 0)] k_Law_law f_Law_law_603 l_invT_12_49 k_Bk_also hc0 rfl rfl rfl (by exact Nat.le_of_ble_eq_true rfl) (dc := 7) (by decide) ?_ rfl
        refine h.mono (fun v w58 hh => ?_)
        obtain ⟨r57, rfl, h⟩ := hh
        show Gw zs 8 m_Law_law 606 [some (.inr (.inr 0)), some (.inr (.inl (some 0))), some (.inr (.inl (some 155))), some (.inl x3)] [.inl r57] w58 _
        refine gw_aload_n k_Law_law f_Law_law_606 rfl ?_
        refine gw_aload_n k_Law_law f_Law_law_607 rfl ?_
        refine gw_iload_n k_Law_law f_Law_law_608 rfl ?_
        refine gw_iconst k_Law_law f_Law_law_609 qc_1 ?_
        refine gw_iadd k_Law_law f_Law_law_610 ?_
        have hp := h.1
        have h := h.2
        refine gw_rald (zl := zs) k_Law_law f_Law_law_611 rfl hp ?_
        refine gw_aload_n k_Law_law f_Law_law_612 rfl ?_
        refine gw_iload_n k_Law_law f_Law_law_613 rfl ?_
        refine gw_iconst k_Law_law f_Law_law_614 qc_2 ?_
        refine gw_iadd k_Law_law f_Law_law_615 ?_
        have hp := h.1
        have h := h.2
        refine gw_rald (zl := zs) k_Law_law f_Law_law_616 rfl hp ?_
        refine gw_aload_n k_Law_law f_Law_law_617 rfl ?_
        refine gw_iload_n k_Law_law f_Law_law_618 rfl ?_
        refine gw_iconst k_Law_law f_Law_law_619 qc_3 ?_
        refine gw_iadd k_Law_law f_Law_law_620 ?_
        have hp := h.1
        have h := h.2
        refine gw_rald (zl := zs) k_Law_law f_Law_law_621 rfl hp ?_
        refine gw_aload_n k_Law_law f_Law_law_622 rfl ?_
        refine gw_iload_n k_Law_law f_Law_law_623 rfl ?_
        refine gw_iconst k_Law_law f_Law_law_624 qc_4 ?_
        refine gw_iadd k_Law_law f_Law_law_625 ?_
        have hp := h.1
        have h := h.2
        refine gw_rald (zl := zs) k_Law_law f_Law_law_626 rfl hp ?_
        refine gw_virtual [.inl (zs.getD (x3 + 1).toNatClampNeg 0), .inl (zs.getD (x3 + 2).toNatClampNeg 0), .inl (zs.getD (x3 + 3).toNatClampNeg 0), .inl (zs.getD (x3 + 4).toNatClampNeg 0)] k_Law_law f_Law_law_627 l_invT_12_53 k_Md_also hc155 rfl rfl rfl (by exact Nat.le_of_ble_eq_true rfl) (dc := 6) (by decide) ?_ rfl
        refine h.mono (fun v w60 hh => ?_)
        obtain ⟨r59, rfl, h⟩ := hh
        show Gw zs 8 m_Law_law 630 [some (.inr (.inr 0)), some (.inr (.inl (some 0))), some (.inr (.inl (some 155))), some (.inl x3)] [.inl r59, .inl r57] w60 _
        refine gw_icmp_eq (t := 1509) k_Law_law f_Law_law_630 rfl (fun c61 => ?_) (fun c61 => ?_)
        · have h := h.1 c61
          refine gw_iinc [some (.inr (.inr 0)), some (.inr (.inl (some 0))), some (.inr (.inl (some 155))), some (.inl (x3 + 7))] k_Law_law f_Law_law_1509 rfl qc_7 (Nat.le_of_ble_eq_true rfl) rfl ?_
          refine gw_goto (t := 18) k_Law_law f_Law_law_1512 rfl ?_
          exact h
        · have h := h.2 c61
          refine gw_iconst k_Law_law f_Law_law_633 qc_0 ?_
          exact gw_zret k_Law_law f_Law_law_634 rfl (Or.inl rfl) h
      | 9, hq, hx =>
        have c62 : ((zs.getD x3.toNatClampNeg 0) &&& 31) = 9 := hx.trans (by decide)
        have h := h.2.2.2.2.2.2.2.2.2.1 c62
        refine ⟨_, 635, rfl, rfl, ?_⟩
        refine gw_aload_n k_Law_law f_Law_law_635 rfl ?_
        refine gw_aload_n k_Law_law f_Law_law_636 rfl ?_
        refine gw_iload_n k_Law_law f_Law_law_637 rfl ?_
        refine gw_iconst k_Law_law f_Law_law_638 qc_1 ?_
        refine gw_iadd k_Law_law f_Law_law_639 ?_
        have hp := h.1
        have h := h.2
        refine gw_rald (zl := zs) k_Law_law f_Law_law_640 rfl hp ?_
        refine gw_aload_n k_Law_law f_Law_law_641 rfl ?_
        refine gw_iload_n k_Law_law f_Law_law_642 rfl ?_
        refine gw_iconst k_Law_law f_Law_law_643 qc_2 ?_
        refine gw_iadd k_Law_law f_Law_law_644 ?_
        have hp := h.1
        have h := h.2
        refine gw_rald (zl := zs) k_Law_law f_Law_law_645 rfl hp ?_
        refine gw_virtual [.inl (zs.getD (x3 + 1).toNatClampNeg 0), .inl (zs.getD (x3 + 2).toNatClampNeg 0)] k_Law_law f_Law_law_646 l_invT_12_54 k_Bk_kept hc0 rfl rfl rfl (by exact Nat.le_of_ble_eq_true rfl) (dc := 7) (by decide) ?_ rfl
        refine h.mono (fun v w64 hh => ?_)
        obtain ⟨r63, rfl, h⟩ := hh
        show Gw zs 8 m_Law_law 649 [some (.inr (.inr 0)), some (.inr (.inl (some 0))), some (.inr (.inl (some 155))), some (.inl x3)] [.inl r63] w64 _
        refine gw_aload_n k_Law_law f_Law_law_649 rfl ?_
        refine gw_aload_n k_Law_law f_Law_law_650 rfl ?_
        refine gw_iload_n k_Law_law f_Law_law_651 rfl ?_
        refine gw_iconst k_Law_law f_Law_law_652 qc_1 ?_
        refine gw_iadd k_Law_law f_Law_law_653 ?_
        have hp := h.1
        have h := h.2
        refine gw_rald (zl := zs) k_Law_law f_Law_law_654 rfl hp ?_
        refine gw_aload_n k_Law_law f_Law_law_655 rfl ?_
        refine gw_iload_n k_Law_law f_Law_law_656 rfl ?_
        refine gw_iconst k_Law_law f_Law_law_657 qc_2 ?_
        refine gw_iadd k_Law_law f_Law_law_658 ?_
        have hp := h.1
        have h := h.2
        refine gw_rald (zl := zs) k_Law_law f_Law_law_659 rfl hp ?_
        refine gw_virtual [.inl (zs.getD (x3 + 1).toNatClampNeg 0), .inl (zs.getD (x3 + 2).toNatClampNeg 0)] k_Law_law f_Law_law_660 l_invT_12_57 k_Md_kept hc155 rfl rfl rfl (by exact Nat.le_of_ble_eq_true rfl) (dc := 7) (by decide) ?_ rfl
        refine h.mono (fun v w66 hh => ?_)
        obtain ⟨r65, rfl, h⟩ := hh
        show Gw zs 8 m_Law_law 663 [some (.inr (.inr 0)), some (.inr (.inl (some 0))), some (.inr (.inl (some 155))), some (.inl x3)] [.inl r65, .inl r63] w66 _
        refine gw_icmp_eq (t := 1509) k_Law_law f_Law_law_663 rfl (fun c67 => ?_) (fun c67 => ?_)
        · have h := h.1 c67
          refine gw_iinc [some (.inr (.inr 0)), some (.inr (.inl (some 0))), some (.inr (.inl (some 155))), some (.inl (x3 + 7))] k_Law_law f_Law_law_1509 rfl qc_7 (Nat.le_of_ble_eq_true rfl) rfl ?_
          refine gw_goto (t := 18) k_Law_law f_Law_law_1512 rfl ?_
          exact h
        · have h := h.2 c67
          refine gw_iconst k_Law_law f_Law_law_666 qc_0 ?_
          exact gw_zret k_Law_law f_Law_law_667 rfl (Or.inl rfl) h
      | 10, hq, hx =>
        have c68 : ((zs.getD x3.toNatClampNeg 0) &&& 31) = 10 := hx.trans (by decide)
        have h := h.2.2.2.2.2.2.2.2.2.2.1 c68
        refine ⟨_, 668, rfl, rfl, ?_⟩
        refine gw_aload_n k_Law_law f_Law_law_668 rfl ?_
        refine gw_aload_n k_Law_law f_Law_law_669 rfl ?_
        refine gw_iload_n k_Law_law f_Law_law_670 rfl ?_
        refine gw_iconst k_Law_law f_Law_law_671 qc_1 ?_
        refine gw_iadd k_Law_law f_Law_law_672 ?_
        have hp := h.1
        have h := h.2
        refine gw_rald (zl := zs) k_Law_law f_Law_law_673 rfl hp ?_
        refine gw_aload_n k_Law_law f_Law_law_674 rfl ?_
        refine gw_iload_n k_Law_law f_Law_law_675 rfl ?_
        refine gw_iconst k_Law_law f_Law_law_676 qc_2 ?_
        refine gw_iadd k_Law_law f_Law_law_677 ?_
        have hp := h.1
        have h := h.2
        refine gw_rald (zl := zs) k_Law_law f_Law_law_678 rfl hp ?_
        refine gw_aload_n k_Law_law f_Law_law_679 rfl ?_
        refine gw_iload_n k_Law_law f_Law_law_680 rfl ?_
        refine gw_iconst k_Law_law f_Law_law_681 qc_3 ?_
        refine gw_iadd k_Law_law f_Law_law_682 ?_
        have hp := h.1
        have h := h.2
        refine gw_rald (zl := zs) k_Law_law f_Law_law_683 rfl hp ?_
        refine gw_virtual [.inl (zs.getD (x3 + 1).toNatClampNeg 0), .inl (zs.getD (x3 + 2).toNatClampNeg 0), .inl (zs.getD (x3 + 3).toNatClampNeg 0)] k_Law_law f_Law_law_684 l_invT_12_58 k_Bk_tally hc0 rfl rfl rfl (by exact Nat.le_of_ble_eq_true rfl) (dc := 7) (by decide) ?_ rfl
        refine h.mono (fun v w70 hh => ?_)
        obtain ⟨r69, rfl, h⟩ := hh
        show Gw zs 8 m_Law_law 687 [some (.inr (.inr 0)), some (.inr (.inl (some 0))), some (.inr (.inl (some 155))), some (.inl x3)] [.inl r69] w70 _
        refine gw_aload_n k_Law_law f_Law_law_687 rfl ?_
        refine gw_aload_n k_Law_law f_Law_law_688 rfl ?_
        refine gw_iload_n k_Law_law f_Law_law_689 rfl ?_
        refine gw_iconst k_Law_law f_Law_law_690 qc_1 ?_
        refine gw_iadd k_Law_law f_Law_law_691 ?_
        have hp := h.1
        have h := h.2
        refine gw_rald (zl := zs) k_Law_law f_Law_law_692 rfl hp ?_
        refine gw_aload_n k_Law_law f_Law_law_693 rfl ?_
        refine gw_iload_n k_Law_law f_Law_law_694 rfl ?_
        refine gw_iconst k_Law_law f_Law_law_695 qc_2 ?_
        refine gw_iadd k_Law_law f_Law_law_696 ?_
        have hp := h.1
        have h := h.2
        refine gw_rald (zl := zs) k_Law_law f_Law_law_697 rfl hp ?_
        refine gw_aload_n k_Law_law f_Law_law_698 rfl ?_
        refine gw_iload_n k_Law_law f_Law_law_699 rfl ?_
        refine gw_iconst k_Law_law f_Law_law_700 qc_3 ?_
        refine gw_iadd k_Law_law f_Law_law_701 ?_
        have hp := h.1
        have h := h.2
        refine gw_rald (zl := zs) k_Law_law f_Law_law_702 rfl hp ?_
        refine gw_virtual [.inl (zs.getD (x3 + 1).toNatClampNeg 0), .inl (zs.getD (x3 + 2).toNatClampNeg 0), .inl (zs.getD (x3 + 3).toNatClampNeg 0)] k_Law_law f_Law_law_703 l_invT_12_61 k_Md_tally hc155 rfl rfl rfl (by exact Nat.le_of_ble_eq_true rfl) (dc := 7) (by decide) ?_ rfl
        refine h.mono (fun v w72 hh => ?_)
        obtain ⟨r71, rfl, h⟩ := hh
        show Gw zs 8 m_Law_law 706 [some (.inr (.inr 0)), some (.inr (.inl (some 0))), some (.inr (.inl (some 155))), some (.inl x3)] [.inl r71, .inl r69] w72 _
        refine gw_icmp_eq (t := 1509) k_Law_law f_Law_law_706 rfl (fun c73 => ?_) (fun c73 => ?_)
        · have h := h.1 c73
          refine gw_iinc [some (.inr (.inr 0)), some (.inr (.inl (some 0))), some (.inr (.inl (some 155))), some (.inl (x3 + 7))] k_Law_law f_Law_law_1509 rfl qc_7 (Nat.le_of_ble_eq_true rfl) rfl ?_
          refine gw_goto (t := 18) k_Law_law f_Law_law_1512 rfl ?_
          exact h
        · have h := h.2 c73
          refine gw_iconst k_Law_law f_Law_law_709 qc_0 ?_
          exact gw_zret k_Law_law f_Law_law_710 rfl (Or.inl rfl) h
      | 11, hq, hx =>
        have c74 : ((zs.getD x3.toNatClampNeg 0) &&& 31) = 11 := hx.trans (by decide)
        have h := h.2.2.2.2.2.2.2.2.2.2.2.1 c74
        refine ⟨_, 711, rfl, rfl, ?_⟩
        refine gw_aload_n k_Law_law f_Law_law_711 rfl ?_
        refine gw_aload_n k_Law_law f_Law_law_712 rfl ?_
        refine gw_iload_n k_Law_law f_Law_law_713 rfl ?_
        refine gw_iconst k_Law_law f_Law_law_714 qc_1 ?_
        refine gw_iadd k_Law_law f_Law_law_715 ?_
        have hp := h.1
        have h := h.2
        refine gw_rald (zl := zs) k_Law_law f_Law_law_716 rfl hp ?_
        refine gw_aload_n k_Law_law f_Law_law_717 rfl ?_
        refine gw_iload_n k_Law_law f_Law_law_718 rfl ?_
        refine gw_iconst k_Law_law f_Law_law_719 qc_2 ?_
        refine gw_iadd k_Law_law f_Law_law_720 ?_
        have hp := h.1
        have h := h.2
        refine gw_rald (zl := zs) k_Law_law f_Law_law_721 rfl hp ?_
        refine gw_virtual [.inl (zs.getD (x3 + 1).toNatClampNeg 0), .inl (zs.getD (x3 + 2).toNatClampNeg 0)] k_Law_law f_Law_law_722 l_invT_12_62 k_Bk_verses hc0 rfl rfl rfl (by exact Nat.le_of_ble_eq_true rfl) (dc := 3) (by decide) ?_ rfl
        refine h.mono (fun v w76 hh => ?_)
        obtain ⟨r75, rfl, h⟩ := hh
        show Gw zs 8 m_Law_law 725 [some (.inr (.inr 0)), some (.inr (.inl (some 0))), some (.inr (.inl (some 155))), some (.inl x3)] [.inl r75] w76 _
        refine gw_aload_n k_Law_law f_Law_law_725 rfl ?_
        refine gw_aload_n k_Law_law f_Law_law_726 rfl ?_
        refine gw_iload_n k_Law_law f_Law_law_727 rfl ?_
        refine gw_iconst k_Law_law f_Law_law_728 qc_1 ?_
        refine gw_iadd k_Law_law f_Law_law_729 ?_
        have hp := h.1
        have h := h.2
        refine gw_rald (zl := zs) k_Law_law f_Law_law_730 rfl hp ?_
        refine gw_aload_n k_Law_law f_Law_law_731 rfl ?_
        refine gw_iload_n k_Law_law f_Law_law_732 rfl ?_
        refine gw_iconst k_Law_law f_Law_law_733 qc_2 ?_
        refine gw_iadd k_Law_law f_Law_law_734 ?_
        have hp := h.1
        have h := h.2
        refine gw_rald (zl := zs) k_Law_law f_Law_law_735 rfl hp ?_
        refine gw_virtual [.inl (zs.getD (x3 + 1).toNatClampNeg 0), .inl (zs.getD (x3 + 2).toNatClampNeg 0)] k_Law_law f_Law_law_736 l_invT_12_65 k_Md_verses hc155 rfl rfl rfl (by exact Nat.le_of_ble_eq_true rfl) (dc := 1) (by decide) ?_ rfl
        refine h.mono (fun v w78 hh => ?_)
        obtain ⟨r77, rfl, h⟩ := hh
        show Gw zs 8 m_Law_law 739 [some (.inr (.inr 0)), some (.inr (.inl (some 0))), some (.inr (.inl (some 155))), some (.inl x3)] [.inl r77, .inl r75] w78 _
        refine gw_icmp_eq (t := 1509) k_Law_law f_Law_law_739 rfl (fun c79 => ?_) (fun c79 => ?_)
        · have h := h.1 c79
          refine gw_iinc [some (.inr (.inr 0)), some (.inr (.inl (some 0))), some (.inr (.inl (some 155))), some (.inl (x3 + 7))] k_Law_law f_Law_law_1509 rfl qc_7 (Nat.le_of_ble_eq_true rfl) rfl ?_
          refine gw_goto (t := 18) k_Law_law f_Law_law_1512 rfl ?_
          exact h
        · have h := h.2 c79
          refine gw_iconst k_Law_law f_Law_law_742 qc_0 ?_
          exact gw_zret k_Law_law f_Law_law_743 rfl (Or.inl rfl) h
      | 12, hq, hx =>
        have c80 : ((zs.getD x3.toNatClampNeg 0) &&& 31) = 12 := hx.trans (by decide)
        have h := h.2.2.2.2.2.2.2.2.2.2.2.2.1 c80
        refine ⟨_, 744, rfl, rfl, ?_⟩
        refine gw_aload_n k_Law_law f_Law_law_744 rfl ?_
        refine gw_aload_n k_Law_law f_Law_law_745 rfl ?_
        refine gw_iload_n k_Law_law f_Law_law_746 rfl ?_
        refine gw_iconst k_Law_law f_Law_law_747 qc_1 ?_
        refine gw_iadd k_Law_law f_Law_law_748 ?_
        have hp := h.1
        have h := h.2
        refine gw_rald (zl := zs) k_Law_law f_Law_law_749 rfl hp ?_
        refine gw_virtual [.inl (zs.getD (x3 + 1).toNatClampNeg 0)] k_Law_law f_Law_law_750 l_invT_12_66 k_Bk_hours hc0 rfl rfl rfl (by exact Nat.le_of_ble_eq_true rfl) (dc := 3) (by decide) ?_ rfl
        refine h.mono (fun v w82 hh => ?_)
        obtain ⟨r81, rfl, h⟩ := hh
        show Gw zs 8 m_Law_law 753 [some (.inr (.inr 0)), some (.inr (.inl (some 0))), some (.inr (.inl (some 155))), some (.inl x3)] [.inl r81] w82 _
        refine gw_aload_n k_Law_law f_Law_law_753 rfl ?_
        refine gw_aload_n k_Law_law f_Law_law_754 rfl ?_
        refine gw_iload_n k_Law_law f_Law_law_755 rfl ?_
        refine gw_iconst k_Law_law f_Law_law_756 qc_1 ?_
        refine gw_iadd k_Law_law f_Law_law_757 ?_
        have hp := h.1
        have h := h.2
        refine gw_rald (zl := zs) k_Law_law f_Law_law_758 rfl hp ?_
        refine gw_virtual [.inl (zs.getD (x3 + 1).toNatClampNeg 0)] k_Law_law f_Law_law_759 l_invT_12_70 k_Md_hours hc155 rfl rfl rfl (by exact Nat.le_of_ble_eq_true rfl) (dc := 1) (by decide) ?_ rfl
        refine h.mono (fun v w84 hh => ?_)
        obtain ⟨r83, rfl, h⟩ := hh
        show Gw zs 8 m_Law_law 762 [some (.inr (.inr 0)), some (.inr (.inl (some 0))), some (.inr (.inl (some 155))), some (.inl x3)] [.inl r83, .inl r81] w84 _
        refine gw_icmp_eq (t := 1509) k_Law_law f_Law_law_762 rfl (fun c85 => ?_) (fun c85 => ?_)
        · have h := h.1 c85
          refine gw_iinc [some (.inr (.inr 0)), some (.inr (.inl (some 0))), some (.inr (.inl (some 155))), some (.inl (x3 + 7))] k_Law_law f_Law_law_1509 rfl qc_7 (Nat.le_of_ble_eq_true rfl) rfl ?_
          refine gw_goto (t := 18) k_Law_law f_Law_law_1512 rfl ?_
          exact h
        · have h := h.2 c85
          refine gw_iconst k_Law_law f_Law_law_765 qc_0 ?_
          exact gw_zret k_Law_law f_Law_law_766 rfl (Or.inl rfl) h
      | 13, hq, hx =>
        have c86 : ((zs.getD x3.toNatClampNeg 0) &&& 31) = 13 := hx.trans (by decide)
        have h := h.2.2.2.2.2.2.2.2.2.2.2.2.2.1 c86
        refine ⟨_, 767, rfl, rfl, ?_⟩
        refine gw_aload_n k_Law_law f_Law_law_767 rfl ?_
        refine gw_aload_n k_Law_law f_Law_law_768 rfl ?_
        refine gw_iload_n k_Law_law f_Law_law_769 rfl ?_
        refine gw_iconst k_Law_law f_Law_law_770 qc_1 ?_
        refine gw_iadd k_Law_law f_Law_law_771 ?_
        have hp := h.1
        have h := h.2
        refine gw_rald (zl := zs) k_Law_law f_Law_law_772 rfl hp ?_
        refine gw_aload_n k_Law_law f_Law_law_773 rfl ?_
        refine gw_iload_n k_Law_law f_Law_law_774 rfl ?_
        refine gw_iconst k_Law_law f_Law_law_775 qc_2 ?_
        refine gw_iadd k_Law_law f_Law_law_776 ?_
        have hp := h.1
        have h := h.2
        refine gw_rald (zl := zs) k_Law_law f_Law_law_777 rfl hp ?_
        refine gw_virtual [.inl (zs.getD (x3 + 1).toNatClampNeg 0), .inl (zs.getD (x3 + 2).toNatClampNeg 0)] k_Law_law f_Law_law_778 l_invT_12_71 k_Bk_fix hc0 rfl rfl rfl (by exact Nat.le_of_ble_eq_true rfl) (dc := 3) (by decide) ?_ rfl
        refine h.mono (fun v w88 hh => ?_)
        obtain ⟨r87, rfl, h⟩ := hh
        show Gw zs 8 m_Law_law 781 [some (.inr (.inr 0)), some (.inr (.inl (some 0))), some (.inr (.inl (some 155))), some (.inl x3)] [.inl r87] w88 _
        refine gw_aload_n k_Law_law f_Law_law_781 rfl ?_
        refine gw_aload_n k_Law_law f_Law_law_782 rfl ?_
        refine gw_iload_n k_Law_law f_Law_law_783 rfl ?_
        refine gw_iconst k_Law_law f_Law_law_784 qc_1 ?_
        refine gw_iadd k_Law_law f_Law_law_785 ?_
        have hp := h.1
        have h := h.2
        refine gw_rald (zl := zs) k_Law_law f_Law_law_786 rfl hp ?_
        refine gw_aload_n k_Law_law f_Law_law_787 rfl ?_
        refine gw_iload_n k_Law_law f_Law_law_788 rfl ?_
        refine gw_iconst k_Law_law f_Law_law_789 qc_2 ?_
        refine gw_iadd k_Law_law f_Law_law_790 ?_
        have hp := h.1
        have h := h.2
        refine gw_rald (zl := zs) k_Law_law f_Law_law_791 rfl hp ?_
        refine gw_virtual [.inl (zs.getD (x3 + 1).toNatClampNeg 0), .inl (zs.getD (x3 + 2).toNatClampNeg 0)] k_Law_law f_Law_law_792 l_invT_12_74 k_Md_fix hc155 rfl rfl rfl (by exact Nat.le_of_ble_eq_true rfl) (dc := 1) (by decide) ?_ rfl
        refine h.mono (fun v w90 hh => ?_)
        obtain ⟨r89, rfl, h⟩ := hh
        show Gw zs 8 m_Law_law 795 [some (.inr (.inr 0)), some (.inr (.inl (some 0))), some (.inr (.inl (some 155))), some (.inl x3)] [.inl r89, .inl r87] w90 _
        refine gw_icmp_eq (t := 1509) k_Law_law f_Law_law_795 rfl (fun c91 => ?_) (fun c91 => ?_)
        · have h := h.1 c91
          refine gw_iinc [some (.inr (.inr 0)), some (.inr (.inl (some 0))), some (.inr (.inl (some 155))), some (.inl (x3 + 7))] k_Law_law f_Law_law_1509 rfl qc_7 (Nat.le_of_ble_eq_true rfl) rfl ?_
          refine gw_goto (t := 18) k_Law_law f_Law_law_1512 rfl ?_
          exact h
        · have h := h.2 c91
          refine gw_iconst k_Law_law f_Law_law_798 qc_0 ?_
          exact gw_zret k_Law_law f_Law_law_799 rfl (Or.inl rfl) h
      | 14, hq, hx =>
        have c92 : ((zs.getD x3.toNatClampNeg 0) &&& 31) = 14 := hx.trans (by decide)
        have h := h.2.2.2.2.2.2.2.2.2.2.2.2.2.2.1 c92
        refine ⟨_, 800, rfl, rfl, ?_⟩
        refine gw_aload_n k_Law_law f_Law_law_800 rfl ?_
        refine gw_aload_n k_Law_law f_Law_law_801 rfl ?_
        refine gw_iload_n k_Law_law f_Law_law_802 rfl ?_
        refine gw_iconst k_Law_law f_Law_law_803 qc_1 ?_
        refine gw_iadd k_Law_law f_Law_law_804 ?_
        have hp := h.1
        have h := h.2
        refine gw_rald (zl := zs) k_Law_law f_Law_law_805 rfl hp ?_
        refine gw_aload_n k_Law_law f_Law_law_806 rfl ?_
        refine gw_iload_n k_Law_law f_Law_law_807 rfl ?_
        refine gw_iconst k_Law_law f_Law_law_808 qc_2 ?_
        refine gw_iadd k_Law_law f_Law_law_809 ?_
        have hp := h.1
        have h := h.2
        refine gw_rald (zl := zs) k_Law_law f_Law_law_810 rfl hp ?_
        refine gw_virtual [.inl (zs.getD (x3 + 1).toNatClampNeg 0), .inl (zs.getD (x3 + 2).toNatClampNeg 0)] k_Law_law f_Law_law_811 l_invT_12_75 k_Bk_festal hc0 rfl rfl rfl (by exact Nat.le_of_ble_eq_true rfl) (dc := 3) (by decide) ?_ rfl
        refine h.mono (fun v w94 hh => ?_)
        obtain ⟨r93, rfl, h⟩ := hh
        show Gw zs 8 m_Law_law 814 [some (.inr (.inr 0)), some (.inr (.inl (some 0))), some (.inr (.inl (some 155))), some (.inl x3)] [.inl r93] w94 _
        refine gw_aload_n k_Law_law f_Law_law_814 rfl ?_
        refine gw_aload_n k_Law_law f_Law_law_815 rfl ?_
        refine gw_iload_n k_Law_law f_Law_law_816 rfl ?_
        refine gw_iconst k_Law_law f_Law_law_817 qc_1 ?_
        refine gw_iadd k_Law_law f_Law_law_818 ?_
        have hp := h.1
        have h := h.2
        refine gw_rald (zl := zs) k_Law_law f_Law_law_819 rfl hp ?_
        refine gw_aload_n k_Law_law f_Law_law_820 rfl ?_
        refine gw_iload_n k_Law_law f_Law_law_821 rfl ?_
        refine gw_iconst k_Law_law f_Law_law_822 qc_2 ?_
        refine gw_iadd k_Law_law f_Law_law_823 ?_
        have hp := h.1
        have h := h.2
        refine gw_rald (zl := zs) k_Law_law f_Law_law_824 rfl hp ?_
        refine gw_virtual [.inl (zs.getD (x3 + 1).toNatClampNeg 0), .inl (zs.getD (x3 + 2).toNatClampNeg 0)] k_Law_law f_Law_law_825 l_invT_12_78 k_Md_festal hc155 rfl rfl rfl (by exact Nat.le_of_ble_eq_true rfl) (dc := 1) (by decide) ?_ rfl
        refine h.mono (fun v w96 hh => ?_)
        obtain ⟨r95, rfl, h⟩ := hh
        show Gw zs 8 m_Law_law 828 [some (.inr (.inr 0)), some (.inr (.inl (some 0))), some (.inr (.inl (some 155))), some (.inl x3)] [.inl r95, .inl r93] w96 _
        refine gw_icmp_eq (t := 1509) k_Law_law f_Law_law_828 rfl (fun c97 => ?_) (fun c97 => ?_)
        · have h := h.1 c97
          refine gw_iinc [some (.inr (.inr 0)), some (.inr (.inl (some 0))), some (.inr (.inl (some 155))), some (.inl (x3 + 7))] k_Law_law f_Law_law_1509 rfl qc_7 (Nat.le_of_ble_eq_true rfl) rfl ?_
          refine gw_goto (t := 18) k_Law_law f_Law_law_1512 rfl ?_
          exact h
        · have h := h.2 c97
          refine gw_iconst k_Law_law f_Law_law_831 qc_0 ?_
          exact gw_zret k_Law_law f_Law_law_832 rfl (Or.inl rfl) h
      | 15, hq, hx =>
        have c98 : ((zs.getD x3.toNatClampNeg 0) &&& 31) = 15 := hx.trans (by decide)
        have h := h.2.2.2.2.2.2.2.2.2.2.2.2.2.2.2.1 c98
        refine ⟨_, 833, rfl, rfl, ?_⟩
        refine gw_aload_n k_Law_law f_Law_law_833 rfl ?_
        refine gw_aload_n k_Law_law f_Law_law_834 rfl ?_
        refine gw_iload_n k_Law_law f_Law_law_835 rfl ?_
        refine gw_iconst k_Law_law f_Law_law_836 qc_1 ?_
        refine gw_iadd k_Law_law f_Law_law_837 ?_
        have hp := h.1
        have h := h.2
        refine gw_rald (zl := zs) k_Law_law f_Law_law_838 rfl hp ?_
        refine gw_virtual [.inl (zs.getD (x3 + 1).toNatClampNeg 0)] k_Law_law f_Law_law_839 l_invT_12_79 k_Bk_limit hc0 rfl rfl rfl (by exact Nat.le_of_ble_eq_true rfl) (dc := 2) (by decide) ?_ rfl
        refine h.mono (fun v w100 hh => ?_)
        obtain ⟨r99, rfl, h⟩ := hh
        show Gw zs 8 m_Law_law 842 [some (.inr (.inr 0)), some (.inr (.inl (some 0))), some (.inr (.inl (some 155))), some (.inl x3)] [.inl r99] w100 _
        refine gw_aload_n k_Law_law f_Law_law_842 rfl ?_
        refine gw_aload_n k_Law_law f_Law_law_843 rfl ?_
        refine gw_iload_n k_Law_law f_Law_law_844 rfl ?_
        refine gw_iconst k_Law_law f_Law_law_845 qc_1 ?_
        refine gw_iadd k_Law_law f_Law_law_846 ?_
        have hp := h.1
        have h := h.2
        refine gw_rald (zl := zs) k_Law_law f_Law_law_847 rfl hp ?_
        refine gw_virtual [.inl (zs.getD (x3 + 1).toNatClampNeg 0)] k_Law_law f_Law_law_848 l_invT_12_82 k_Md_limit hc155 rfl rfl rfl (by exact Nat.le_of_ble_eq_true rfl) (dc := 1) (by decide) ?_ rfl
        refine h.mono (fun v w102 hh => ?_)
        obtain ⟨r101, rfl, h⟩ := hh
        show Gw zs 8 m_Law_law 851 [some (.inr (.inr 0)), some (.inr (.inl (some 0))), some (.inr (.inl (some 155))), some (.inl x3)] [.inl r101, .inl r99] w102 _
        refine gw_icmp_eq (t := 1509) k_Law_law f_Law_law_851 rfl (fun c103 => ?_) (fun c103 => ?_)
        · have h := h.1 c103
          refine gw_iinc [some (.inr (.inr 0)), some (.inr (.inl (some 0))), some (.inr (.inl (some 155))), some (.inl (x3 + 7))] k_Law_law f_Law_law_1509 rfl qc_7 (Nat.le_of_ble_eq_true rfl) rfl ?_
          refine gw_goto (t := 18) k_Law_law f_Law_law_1512 rfl ?_
          exact h
        · have h := h.2 c103
          refine gw_iconst k_Law_law f_Law_law_854 qc_0 ?_
          exact gw_zret k_Law_law f_Law_law_855 rfl (Or.inl rfl) h
      | 16, hq, hx =>
        have c104 : ((zs.getD x3.toNatClampNeg 0) &&& 31) = 16 := hx.trans (by decide)
        have h := h.2.2.2.2.2.2.2.2.2.2.2.2.2.2.2.2.1 c104
        refine ⟨_, 856, rfl, rfl, ?_⟩
        refine gw_aload_n k_Law_law f_Law_law_856 rfl ?_
        refine gw_aload_n k_Law_law f_Law_law_857 rfl ?_
        refine gw_iload_n k_Law_law f_Law_law_858 rfl ?_
        refine gw_iconst k_Law_law f_Law_law_859 qc_1 ?_
        refine gw_iadd k_Law_law f_Law_law_860 ?_
        have hp := h.1
        have h := h.2
        refine gw_rald (zl := zs) k_Law_law f_Law_law_861 rfl hp ?_
        refine gw_aload_n k_Law_law f_Law_law_862 rfl ?_
        refine gw_iload_n k_Law_law f_Law_law_863 rfl ?_
        refine gw_iconst k_Law_law f_Law_law_864 qc_2 ?_
        refine gw_iadd k_Law_law f_Law_law_865 ?_
        have hp := h.1
        have h := h.2
        refine gw_rald (zl := zs) k_Law_law f_Law_law_866 rfl hp ?_
        refine gw_aload_n k_Law_law f_Law_law_867 rfl ?_
        refine gw_iload_n k_Law_law f_Law_law_868 rfl ?_
        refine gw_iconst k_Law_law f_Law_law_869 qc_3 ?_
        refine gw_iadd k_Law_law f_Law_law_870 ?_
        have hp := h.1
        have h := h.2
        refine gw_rald (zl := zs) k_Law_law f_Law_law_871 rfl hp ?_
        refine gw_virtual [.inl (zs.getD (x3 + 1).toNatClampNeg 0), .inl (zs.getD (x3 + 2).toNatClampNeg 0), .inl (zs.getD (x3 + 3).toNatClampNeg 0)] k_Law_law f_Law_law_872 l_invT_12_83 k_Bk_dealt hc0 rfl rfl rfl (by exact Nat.le_of_ble_eq_true rfl) (dc := 6) (by decide) ?_ rfl
        refine h.mono (fun v w106 hh => ?_)
        obtain ⟨r105, rfl, h⟩ := hh
        show Gw zs 8 m_Law_law 875 [some (.inr (.inr 0)), some (.inr (.inl (some 0))), some (.inr (.inl (some 155))), some (.inl x3)] [.inl r105] w106 _
        refine gw_aload_n k_Law_law f_Law_law_875 rfl ?_
        refine gw_aload_n k_Law_law f_Law_law_876 rfl ?_
        refine gw_iload_n k_Law_law f_Law_law_877 rfl ?_
        refine gw_iconst k_Law_law f_Law_law_878 qc_1 ?_
        refine gw_iadd k_Law_law f_Law_law_879 ?_
        have hp := h.1
        have h := h.2
        refine gw_rald (zl := zs) k_Law_law f_Law_law_880 rfl hp ?_
        refine gw_aload_n k_Law_law f_Law_law_881 rfl ?_
        refine gw_iload_n k_Law_law f_Law_law_882 rfl ?_
        refine gw_iconst k_Law_law f_Law_law_883 qc_2 ?_
        refine gw_iadd k_Law_law f_Law_law_884 ?_
        have hp := h.1
        have h := h.2
        refine gw_rald (zl := zs) k_Law_law f_Law_law_885 rfl hp ?_
        refine gw_aload_n k_Law_law f_Law_law_886 rfl ?_
        refine gw_iload_n k_Law_law f_Law_law_887 rfl ?_
        refine gw_iconst k_Law_law f_Law_law_888 qc_3 ?_
        refine gw_iadd k_Law_law f_Law_law_889 ?_
        have hp := h.1
        have h := h.2
        refine gw_rald (zl := zs) k_Law_law f_Law_law_890 rfl hp ?_
        refine gw_virtual [.inl (zs.getD (x3 + 1).toNatClampNeg 0), .inl (zs.getD (x3 + 2).toNatClampNeg 0), .inl (zs.getD (x3 + 3).toNatClampNeg 0)] k_Law_law f_Law_law_891 l_invT_12_86 k_Md_dealt hc155 rfl rfl rfl (by exact Nat.le_of_ble_eq_true rfl) (dc := 2) (by decide) ?_ rfl
        refine h.mono (fun v w108 hh => ?_)
        obtain ⟨r107, rfl, h⟩ := hh
        show Gw zs 8 m_Law_law 894 [some (.inr (.inr 0)), some (.inr (.inl (some 0))), some (.inr (.inl (some 155))), some (.inl x3)] [.inl r107, .inl r105] w108 _
        refine gw_icmp_eq (t := 1509) k_Law_law f_Law_law_894 rfl (fun c109 => ?_) (fun c109 => ?_)
        · have h := h.1 c109
          refine gw_iinc [some (.inr (.inr 0)), some (.inr (.inl (some 0))), some (.inr (.inl (some 155))), some (.inl (x3 + 7))] k_Law_law f_Law_law_1509 rfl qc_7 (Nat.le_of_ble_eq_true rfl) rfl ?_
          refine gw_goto (t := 18) k_Law_law f_Law_law_1512 rfl ?_
          exact h
        · have h := h.2 c109
          refine gw_iconst k_Law_law f_Law_law_897 qc_0 ?_
          exact gw_zret k_Law_law f_Law_law_898 rfl (Or.inl rfl) h
      | 17, hq, hx =>
        have c110 : ((zs.getD x3.toNatClampNeg 0) &&& 31) = 17 := hx.trans (by decide)
        have h := h.2.2.2.2.2.2.2.2.2.2.2.2.2.2.2.2.2.1 c110
        refine ⟨_, 899, rfl, rfl, ?_⟩
        refine gw_aload_n k_Law_law f_Law_law_899 rfl ?_
        refine gw_aload_n k_Law_law f_Law_law_900 rfl ?_
        refine gw_iload_n k_Law_law f_Law_law_901 rfl ?_
        refine gw_iconst k_Law_law f_Law_law_902 qc_1 ?_
        refine gw_iadd k_Law_law f_Law_law_903 ?_
        have hp := h.1
        have h := h.2
        refine gw_rald (zl := zs) k_Law_law f_Law_law_904 rfl hp ?_
        refine gw_aload_n k_Law_law f_Law_law_905 rfl ?_
        refine gw_iload_n k_Law_law f_Law_law_906 rfl ?_
        refine gw_iconst k_Law_law f_Law_law_907 qc_2 ?_
        refine gw_iadd k_Law_law f_Law_law_908 ?_
        have hp := h.1
        have h := h.2
        refine gw_rald (zl := zs) k_Law_law f_Law_law_909 rfl hp ?_
        refine gw_aload_n k_Law_law f_Law_law_910 rfl ?_
        refine gw_iload_n k_Law_law f_Law_law_911 rfl ?_
        refine gw_iconst k_Law_law f_Law_law_912 qc_3 ?_
        refine gw_iadd k_Law_law f_Law_law_913 ?_
        have hp := h.1
        have h := h.2
        refine gw_rald (zl := zs) k_Law_law f_Law_law_914 rfl hp ?_
        refine gw_aload_n k_Law_law f_Law_law_915 rfl ?_
        refine gw_iload_n k_Law_law f_Law_law_916 rfl ?_
        refine gw_iconst k_Law_law f_Law_law_917 qc_4 ?_
        refine gw_iadd k_Law_law f_Law_law_918 ?_
        have hp := h.1
        have h := h.2
        refine gw_rald (zl := zs) k_Law_law f_Law_law_919 rfl hp ?_
        refine gw_virtual [.inl (zs.getD (x3 + 1).toNatClampNeg 0), .inl (zs.getD (x3 + 2).toNatClampNeg 0), .inl (zs.getD (x3 + 3).toNatClampNeg 0), .inl (zs.getD (x3 + 4).toNatClampNeg 0)] k_Law_law f_Law_law_920 l_invT_12_87 k_Bk_sung hc0 rfl rfl rfl (by exact Nat.le_of_ble_eq_true rfl) (dc := 7) (by decide) ?_ rfl
        refine h.mono (fun v w112 hh => ?_)
        obtain ⟨r111, rfl, h⟩ := hh
        show Gw zs 8 m_Law_law 923 [some (.inr (.inr 0)), some (.inr (.inl (some 0))), some (.inr (.inl (some 155))), some (.inl x3)] [.inl r111] w112 _
        refine gw_aload_n k_Law_law f_Law_law_923 rfl ?_
        refine gw_aload_n k_Law_law f_Law_law_924 rfl ?_
        refine gw_iload_n k_Law_law f_Law_law_925 rfl ?_
        refine gw_iconst k_Law_law f_Law_law_926 qc_1 ?_
        refine gw_iadd k_Law_law f_Law_law_927 ?_
        have hp := h.1
        have h := h.2
        refine gw_rald (zl := zs) k_Law_law f_Law_law_928 rfl hp ?_
        refine gw_aload_n k_Law_law f_Law_law_929 rfl ?_
        refine gw_iload_n k_Law_law f_Law_law_930 rfl ?_
        refine gw_iconst k_Law_law f_Law_law_931 qc_2 ?_
        refine gw_iadd k_Law_law f_Law_law_932 ?_
        have hp := h.1
        have h := h.2
        refine gw_rald (zl := zs) k_Law_law f_Law_law_933 rfl hp ?_
        refine gw_aload_n k_Law_law f_Law_law_934 rfl ?_
        refine gw_iload_n k_Law_law f_Law_law_935 rfl ?_
        refine gw_iconst k_Law_law f_Law_law_936 qc_3 ?_
        refine gw_iadd k_Law_law f_Law_law_937 ?_
        have hp := h.1
        have h := h.2
        refine gw_rald (zl := zs) k_Law_law f_Law_law_938 rfl hp ?_
        refine gw_aload_n k_Law_law f_Law_law_939 rfl ?_
        refine gw_iload_n k_Law_law f_Law_law_940 rfl ?_
        refine gw_iconst k_Law_law f_Law_law_941 qc_4 ?_
        refine gw_iadd k_Law_law f_Law_law_942 ?_
        have hp := h.1
        have h := h.2
        refine gw_rald (zl := zs) k_Law_law f_Law_law_943 rfl hp ?_
        refine gw_virtual [.inl (zs.getD (x3 + 1).toNatClampNeg 0), .inl (zs.getD (x3 + 2).toNatClampNeg 0), .inl (zs.getD (x3 + 3).toNatClampNeg 0), .inl (zs.getD (x3 + 4).toNatClampNeg 0)] k_Law_law f_Law_law_944 l_invT_12_90 k_Md_sung hc155 rfl rfl rfl (by exact Nat.le_of_ble_eq_true rfl) (dc := 6) (by decide) ?_ rfl
        refine h.mono (fun v w114 hh => ?_)
        obtain ⟨r113, rfl, h⟩ := hh
        show Gw zs 8 m_Law_law 947 [some (.inr (.inr 0)), some (.inr (.inl (some 0))), some (.inr (.inl (some 155))), some (.inl x3)] [.inl r113, .inl r111] w114 _
        refine gw_icmp_eq (t := 1509) k_Law_law f_Law_law_947 rfl (fun c115 => ?_) (fun c115 => ?_)
        · have h := h.1 c115
          refine gw_iinc [some (.inr (.inr 0)), some (.inr (.inl (some 0))), some (.inr (.inl (some 155))), some (.inl (x3 + 7))] k_Law_law f_Law_law_1509 rfl qc_7 (Nat.le_of_ble_eq_true rfl) rfl ?_
          refine gw_goto (t := 18) k_Law_law f_Law_law_1512 rfl ?_
          exact h
        · have h := h.2 c115
          refine gw_iconst k_Law_law f_Law_law_950 qc_0 ?_
          exact gw_zret k_Law_law f_Law_law_951 rfl (Or.inl rfl) h
      | 18, hq, hx =>
        have c116 : ((zs.getD x3.toNatClampNeg 0) &&& 31) = 18 := hx.trans (by decide)
        have h := h.2.2.2.2.2.2.2.2.2.2.2.2.2.2.2.2.2.2.1 c116
        refine ⟨_, 952, rfl, rfl, ?_⟩
        refine gw_aload_n k_Law_law f_Law_law_952 rfl ?_
        refine gw_aload_n k_Law_law f_Law_law_953 rfl ?_
        refine gw_iload_n k_Law_law f_Law_law_954 rfl ?_
        refine gw_iconst k_Law_law f_Law_law_955 qc_1 ?_
        refine gw_iadd k_Law_law f_Law_law_956 ?_
        have hp := h.1
        have h := h.2
        refine gw_rald (zl := zs) k_Law_law f_Law_law_957 rfl hp ?_
        refine gw_aload_n k_Law_law f_Law_law_958 rfl ?_
        refine gw_iload_n k_Law_law f_Law_law_959 rfl ?_
        refine gw_iconst k_Law_law f_Law_law_960 qc_2 ?_
        refine gw_iadd k_Law_law f_Law_law_961 ?_
        have hp := h.1
        have h := h.2
        refine gw_rald (zl := zs) k_Law_law f_Law_law_962 rfl hp ?_
        refine gw_aload_n k_Law_law f_Law_law_963 rfl ?_
        refine gw_iload_n k_Law_law f_Law_law_964 rfl ?_
        refine gw_iconst k_Law_law f_Law_law_965 qc_3 ?_
        refine gw_iadd k_Law_law f_Law_law_966 ?_
        have hp := h.1
        have h := h.2
        refine gw_rald (zl := zs) k_Law_law f_Law_law_967 rfl hp ?_
        refine gw_aload_n k_Law_law f_Law_law_968 rfl ?_
        refine gw_iload_n k_Law_law f_Law_law_969 rfl ?_
        refine gw_iconst k_Law_law f_Law_law_970 qc_4 ?_
        refine gw_iadd k_Law_law f_Law_law_971 ?_
        have hp := h.1
        have h := h.2
        refine gw_rald (zl := zs) k_Law_law f_Law_law_972 rfl hp ?_
        refine gw_virtual [.inl (zs.getD (x3 + 1).toNatClampNeg 0), .inl (zs.getD (x3 + 2).toNatClampNeg 0), .inl (zs.getD (x3 + 3).toNatClampNeg 0), .inl (zs.getD (x3 + 4).toNatClampNeg 0)] k_Law_law f_Law_law_973 l_invT_12_91 k_Bk_times hc0 rfl rfl rfl (by exact Nat.le_of_ble_eq_true rfl) (dc := 7) (by decide) ?_ rfl
        refine h.mono (fun v w118 hh => ?_)
        obtain ⟨r117, rfl, h⟩ := hh
        show Gw zs 8 m_Law_law 976 [some (.inr (.inr 0)), some (.inr (.inl (some 0))), some (.inr (.inl (some 155))), some (.inl x3)] [.inl r117] w118 _
        refine gw_aload_n k_Law_law f_Law_law_976 rfl ?_
        refine gw_aload_n k_Law_law f_Law_law_977 rfl ?_
        refine gw_iload_n k_Law_law f_Law_law_978 rfl ?_
        refine gw_iconst k_Law_law f_Law_law_979 qc_1 ?_
        refine gw_iadd k_Law_law f_Law_law_980 ?_
        have hp := h.1
        have h := h.2
        refine gw_rald (zl := zs) k_Law_law f_Law_law_981 rfl hp ?_
        refine gw_aload_n k_Law_law f_Law_law_982 rfl ?_
        refine gw_iload_n k_Law_law f_Law_law_983 rfl ?_
        refine gw_iconst k_Law_law f_Law_law_984 qc_2 ?_
        refine gw_iadd k_Law_law f_Law_law_985 ?_
        have hp := h.1
        have h := h.2
        refine gw_rald (zl := zs) k_Law_law f_Law_law_986 rfl hp ?_
        refine gw_aload_n k_Law_law f_Law_law_987 rfl ?_
        refine gw_iload_n k_Law_law f_Law_law_988 rfl ?_
        refine gw_iconst k_Law_law f_Law_law_989 qc_3 ?_
        refine gw_iadd k_Law_law f_Law_law_990 ?_
        have hp := h.1
        have h := h.2
        refine gw_rald (zl := zs) k_Law_law f_Law_law_991 rfl hp ?_
        refine gw_aload_n k_Law_law f_Law_law_992 rfl ?_
        refine gw_iload_n k_Law_law f_Law_law_993 rfl ?_
        refine gw_iconst k_Law_law f_Law_law_994 qc_4 ?_
        refine gw_iadd k_Law_law f_Law_law_995 ?_
        have hp := h.1
        have h := h.2
        refine gw_rald (zl := zs) k_Law_law f_Law_law_996 rfl hp ?_
        refine gw_virtual [.inl (zs.getD (x3 + 1).toNatClampNeg 0), .inl (zs.getD (x3 + 2).toNatClampNeg 0), .inl (zs.getD (x3 + 3).toNatClampNeg 0), .inl (zs.getD (x3 + 4).toNatClampNeg 0)] k_Law_law f_Law_law_997 l_invT_12_94 k_Md_times hc155 rfl rfl rfl (by exact Nat.le_of_ble_eq_true rfl) (dc := 6) (by decide) ?_ rfl
        refine h.mono (fun v w120 hh => ?_)
        obtain ⟨r119, rfl, h⟩ := hh
        show Gw zs 8 m_Law_law 1000 [some (.inr (.inr 0)), some (.inr (.inl (some 0))), some (.inr (.inl (some 155))), some (.inl x3)] [.inl r119, .inl r117] w120 _
        refine gw_icmp_eq (t := 1509) k_Law_law f_Law_law_1000 rfl (fun c121 => ?_) (fun c121 => ?_)
        · have h := h.1 c121
          refine gw_iinc [some (.inr (.inr 0)), some (.inr (.inl (some 0))), some (.inr (.inl (some 155))), some (.inl (x3 + 7))] k_Law_law f_Law_law_1509 rfl qc_7 (Nat.le_of_ble_eq_true rfl) rfl ?_
          refine gw_goto (t := 18) k_Law_law f_Law_law_1512 rfl ?_
          exact h
        · have h := h.2 c121
          refine gw_iconst k_Law_law f_Law_law_1003 qc_0 ?_
          exact gw_zret k_Law_law f_Law_law_1004 rfl (Or.inl rfl) h
      | 19, hq, hx =>
        have c122 : ((zs.getD x3.toNatClampNeg 0) &&& 31) = 19 := hx.trans (by decide)
        have h := h.2.2.2.2.2.2.2.2.2.2.2.2.2.2.2.2.2.2.2.1 c122
        refine ⟨_, 1005, rfl, rfl, ?_⟩
        refine gw_aload_n k_Law_law f_Law_law_1005 rfl ?_
        refine gw_aload_n k_Law_law f_Law_law_1006 rfl ?_
        refine gw_iload_n k_Law_law f_Law_law_1007 rfl ?_
        refine gw_iconst k_Law_law f_Law_law_1008 qc_1 ?_
        refine gw_iadd k_Law_law f_Law_law_1009 ?_
        have hp := h.1
        have h := h.2
        refine gw_rald (zl := zs) k_Law_law f_Law_law_1010 rfl hp ?_
        refine gw_aload_n k_Law_law f_Law_law_1011 rfl ?_
        refine gw_iload_n k_Law_law f_Law_law_1012 rfl ?_
        refine gw_iconst k_Law_law f_Law_law_1013 qc_2 ?_
        refine gw_iadd k_Law_law f_Law_law_1014 ?_
        have hp := h.1
        have h := h.2
        refine gw_rald (zl := zs) k_Law_law f_Law_law_1015 rfl hp ?_
        refine gw_virtual [.inl (zs.getD (x3 + 1).toNatClampNeg 0), .inl (zs.getD (x3 + 2).toNatClampNeg 0)] k_Law_law f_Law_law_1016 l_invT_12_95 k_Bk_tenor hc0 rfl rfl rfl (by exact Nat.le_of_ble_eq_true rfl) (dc := 3) (by decide) ?_ rfl
        refine h.mono (fun v w124 hh => ?_)
        obtain ⟨r123, rfl, h⟩ := hh
        show Gw zs 8 m_Law_law 1019 [some (.inr (.inr 0)), some (.inr (.inl (some 0))), some (.inr (.inl (some 155))), some (.inl x3)] [.inl r123] w124 _
        refine gw_aload_n k_Law_law f_Law_law_1019 rfl ?_
        refine gw_aload_n k_Law_law f_Law_law_1020 rfl ?_
        refine gw_iload_n k_Law_law f_Law_law_1021 rfl ?_
        refine gw_iconst k_Law_law f_Law_law_1022 qc_1 ?_
        refine gw_iadd k_Law_law f_Law_law_1023 ?_
        have hp := h.1
        have h := h.2
        refine gw_rald (zl := zs) k_Law_law f_Law_law_1024 rfl hp ?_
        refine gw_aload_n k_Law_law f_Law_law_1025 rfl ?_
        refine gw_iload_n k_Law_law f_Law_law_1026 rfl ?_
        refine gw_iconst k_Law_law f_Law_law_1027 qc_2 ?_
        refine gw_iadd k_Law_law f_Law_law_1028 ?_
        have hp := h.1
        have h := h.2
        refine gw_rald (zl := zs) k_Law_law f_Law_law_1029 rfl hp ?_
        refine gw_virtual [.inl (zs.getD (x3 + 1).toNatClampNeg 0), .inl (zs.getD (x3 + 2).toNatClampNeg 0)] k_Law_law f_Law_law_1030 l_invT_12_98 k_Md_tenor hc155 rfl rfl rfl (by exact Nat.le_of_ble_eq_true rfl) (dc := 2) (by decide) ?_ rfl
        refine h.mono (fun v w126 hh => ?_)
        obtain ⟨r125, rfl, h⟩ := hh
        show Gw zs 8 m_Law_law 1033 [some (.inr (.inr 0)), some (.inr (.inl (some 0))), some (.inr (.inl (some 155))), some (.inl x3)] [.inl r125, .inl r123] w126 _
        refine gw_icmp_eq (t := 1509) k_Law_law f_Law_law_1033 rfl (fun c127 => ?_) (fun c127 => ?_)
        · have h := h.1 c127
          refine gw_iinc [some (.inr (.inr 0)), some (.inr (.inl (some 0))), some (.inr (.inl (some 155))), some (.inl (x3 + 7))] k_Law_law f_Law_law_1509 rfl qc_7 (Nat.le_of_ble_eq_true rfl) rfl ?_
          refine gw_goto (t := 18) k_Law_law f_Law_law_1512 rfl ?_
          exact h
        · have h := h.2 c127
          refine gw_iconst k_Law_law f_Law_law_1036 qc_0 ?_
          exact gw_zret k_Law_law f_Law_law_1037 rfl (Or.inl rfl) h
      | 20, hq, hx =>
        have c128 : ((zs.getD x3.toNatClampNeg 0) &&& 31) = 20 := hx.trans (by decide)
        have h := h.2.2.2.2.2.2.2.2.2.2.2.2.2.2.2.2.2.2.2.2.1 c128
        refine ⟨_, 1038, rfl, rfl, ?_⟩
        refine gw_aload_n k_Law_law f_Law_law_1038 rfl ?_
        refine gw_aload_n k_Law_law f_Law_law_1039 rfl ?_
        refine gw_iload_n k_Law_law f_Law_law_1040 rfl ?_
        refine gw_iconst k_Law_law f_Law_law_1041 qc_1 ?_
        refine gw_iadd k_Law_law f_Law_law_1042 ?_
        have hp := h.1
        have h := h.2
        refine gw_rald (zl := zs) k_Law_law f_Law_law_1043 rfl hp ?_
        refine gw_aload_n k_Law_law f_Law_law_1044 rfl ?_
        refine gw_iload_n k_Law_law f_Law_law_1045 rfl ?_
        refine gw_iconst k_Law_law f_Law_law_1046 qc_2 ?_
        refine gw_iadd k_Law_law f_Law_law_1047 ?_
        have hp := h.1
        have h := h.2
        refine gw_rald (zl := zs) k_Law_law f_Law_law_1048 rfl hp ?_
        refine gw_aload_n k_Law_law f_Law_law_1049 rfl ?_
        refine gw_iload_n k_Law_law f_Law_law_1050 rfl ?_
        refine gw_iconst k_Law_law f_Law_law_1051 qc_3 ?_
        refine gw_iadd k_Law_law f_Law_law_1052 ?_
        have hp := h.1
        have h := h.2
        refine gw_rald (zl := zs) k_Law_law f_Law_law_1053 rfl hp ?_
        refine gw_virtual [.inl (zs.getD (x3 + 1).toNatClampNeg 0), .inl (zs.getD (x3 + 2).toNatClampNeg 0), .inl (zs.getD (x3 + 3).toNatClampNeg 0)] k_Law_law f_Law_law_1054 l_invT_12_99 k_Bk_note hc0 rfl rfl rfl (by exact Nat.le_of_ble_eq_true rfl) (dc := 3) (by decide) ?_ rfl
        refine h.mono (fun v w130 hh => ?_)
        obtain ⟨r129, rfl, h⟩ := hh
        show Gw zs 8 m_Law_law 1057 [some (.inr (.inr 0)), some (.inr (.inl (some 0))), some (.inr (.inl (some 155))), some (.inl x3)] [.inl r129] w130 _
        refine gw_aload_n k_Law_law f_Law_law_1057 rfl ?_
        refine gw_aload_n k_Law_law f_Law_law_1058 rfl ?_
        refine gw_iload_n k_Law_law f_Law_law_1059 rfl ?_
        refine gw_iconst k_Law_law f_Law_law_1060 qc_1 ?_
        refine gw_iadd k_Law_law f_Law_law_1061 ?_
        have hp := h.1
        have h := h.2
        refine gw_rald (zl := zs) k_Law_law f_Law_law_1062 rfl hp ?_
        refine gw_aload_n k_Law_law f_Law_law_1063 rfl ?_
        refine gw_iload_n k_Law_law f_Law_law_1064 rfl ?_
        refine gw_iconst k_Law_law f_Law_law_1065 qc_2 ?_
        refine gw_iadd k_Law_law f_Law_law_1066 ?_
        have hp := h.1
        have h := h.2
        refine gw_rald (zl := zs) k_Law_law f_Law_law_1067 rfl hp ?_
        refine gw_aload_n k_Law_law f_Law_law_1068 rfl ?_
        refine gw_iload_n k_Law_law f_Law_law_1069 rfl ?_
        refine gw_iconst k_Law_law f_Law_law_1070 qc_3 ?_
        refine gw_iadd k_Law_law f_Law_law_1071 ?_
        have hp := h.1
        have h := h.2
        refine gw_rald (zl := zs) k_Law_law f_Law_law_1072 rfl hp ?_
        refine gw_virtual [.inl (zs.getD (x3 + 1).toNatClampNeg 0), .inl (zs.getD (x3 + 2).toNatClampNeg 0), .inl (zs.getD (x3 + 3).toNatClampNeg 0)] k_Law_law f_Law_law_1073 l_invT_12_102 k_Md_note hc155 rfl rfl rfl (by exact Nat.le_of_ble_eq_true rfl) (dc := 2) (by decide) ?_ rfl
        refine h.mono (fun v w132 hh => ?_)
        obtain ⟨r131, rfl, h⟩ := hh
        show Gw zs 8 m_Law_law 1076 [some (.inr (.inr 0)), some (.inr (.inl (some 0))), some (.inr (.inl (some 155))), some (.inl x3)] [.inl r131, .inl r129] w132 _
        refine gw_icmp_eq (t := 1509) k_Law_law f_Law_law_1076 rfl (fun c133 => ?_) (fun c133 => ?_)
        · have h := h.1 c133
          refine gw_iinc [some (.inr (.inr 0)), some (.inr (.inl (some 0))), some (.inr (.inl (some 155))), some (.inl (x3 + 7))] k_Law_law f_Law_law_1509 rfl qc_7 (Nat.le_of_ble_eq_true rfl) rfl ?_
          refine gw_goto (t := 18) k_Law_law f_Law_law_1512 rfl ?_
          exact h
        · have h := h.2 c133
          refine gw_iconst k_Law_law f_Law_law_1079 qc_0 ?_
          exact gw_zret k_Law_law f_Law_law_1080 rfl (Or.inl rfl) h
      | 21, hq, hx =>
        have c134 : ((zs.getD x3.toNatClampNeg 0) &&& 31) = 21 := hx.trans (by decide)
        have h := h.2.2.2.2.2.2.2.2.2.2.2.2.2.2.2.2.2.2.2.2.2.1 c134
        refine ⟨_, 1081, rfl, rfl, ?_⟩
        refine gw_aload_n k_Law_law f_Law_law_1081 rfl ?_
        refine gw_aload_n k_Law_law f_Law_law_1082 rfl ?_
        refine gw_iload_n k_Law_law f_Law_law_1083 rfl ?_
        refine gw_iconst k_Law_law f_Law_law_1084 qc_1 ?_
        refine gw_iadd k_Law_law f_Law_law_1085 ?_
        have hp := h.1
        have h := h.2
        refine gw_rald (zl := zs) k_Law_law f_Law_law_1086 rfl hp ?_
        refine gw_aload_n k_Law_law f_Law_law_1087 rfl ?_
        refine gw_iload_n k_Law_law f_Law_law_1088 rfl ?_
        refine gw_iconst k_Law_law f_Law_law_1089 qc_2 ?_
        refine gw_iadd k_Law_law f_Law_law_1090 ?_
        have hp := h.1
        have h := h.2
        refine gw_rald (zl := zs) k_Law_law f_Law_law_1091 rfl hp ?_
        refine gw_aload_n k_Law_law f_Law_law_1092 rfl ?_
        refine gw_iload_n k_Law_law f_Law_law_1093 rfl ?_
        refine gw_iconst k_Law_law f_Law_law_1094 qc_3 ?_
        refine gw_iadd k_Law_law f_Law_law_1095 ?_
        have hp := h.1
        have h := h.2
        refine gw_rald (zl := zs) k_Law_law f_Law_law_1096 rfl hp ?_
        refine gw_aload_n k_Law_law f_Law_law_1097 rfl ?_
        refine gw_iload_n k_Law_law f_Law_law_1098 rfl ?_
        refine gw_iconst k_Law_law f_Law_law_1099 qc_4 ?_
        refine gw_iadd k_Law_law f_Law_law_1100 ?_
        have hp := h.1
        have h := h.2
        refine gw_rald (zl := zs) k_Law_law f_Law_law_1101 rfl hp ?_
        refine gw_aload_n k_Law_law f_Law_law_1102 rfl ?_
        refine gw_iload_n k_Law_law f_Law_law_1103 rfl ?_
        refine gw_iconst k_Law_law f_Law_law_1104 qc_5 ?_
        refine gw_iadd k_Law_law f_Law_law_1105 ?_
        have hp := h.1
        have h := h.2
        refine gw_rald (zl := zs) k_Law_law f_Law_law_1106 rfl hp ?_
        refine gw_aload_n k_Law_law f_Law_law_1107 rfl ?_
        refine gw_iload_n k_Law_law f_Law_law_1108 rfl ?_
        refine gw_bipush k_Law_law f_Law_law_1109 qb_6 ?_
        refine gw_iadd k_Law_law f_Law_law_1111 ?_
        have hp := h.1
        have h := h.2
        refine gw_rald (zl := zs) k_Law_law f_Law_law_1112 rfl hp ?_
        refine gw_virtual [.inl (zs.getD (x3 + 1).toNatClampNeg 0), .inl (zs.getD (x3 + 2).toNatClampNeg 0), .inl (zs.getD (x3 + 3).toNatClampNeg 0), .inl (zs.getD (x3 + 4).toNatClampNeg 0), .inl (zs.getD (x3 + 5).toNatClampNeg 0), .inl (zs.getD (x3 + 6).toNatClampNeg 0)] k_Law_law f_Law_law_1113 l_invT_12_103 k_Bk_accent hc0 rfl rfl rfl (by exact Nat.le_of_ble_eq_true rfl) (dc := 3) (by decide) ?_ rfl
        refine h.mono (fun v w136 hh => ?_)
        obtain ⟨r135, rfl, h⟩ := hh
        show Gw zs 8 m_Law_law 1116 [some (.inr (.inr 0)), some (.inr (.inl (some 0))), some (.inr (.inl (some 155))), some (.inl x3)] [.inl r135] w136 _
        refine gw_aload_n k_Law_law f_Law_law_1116 rfl ?_
        refine gw_aload_n k_Law_law f_Law_law_1117 rfl ?_
        refine gw_iload_n k_Law_law f_Law_law_1118 rfl ?_
        refine gw_iconst k_Law_law f_Law_law_1119 qc_1 ?_
        refine gw_iadd k_Law_law f_Law_law_1120 ?_
        have hp := h.1
        have h := h.2
        refine gw_rald (zl := zs) k_Law_law f_Law_law_1121 rfl hp ?_
        refine gw_aload_n k_Law_law f_Law_law_1122 rfl ?_
        refine gw_iload_n k_Law_law f_Law_law_1123 rfl ?_
        refine gw_iconst k_Law_law f_Law_law_1124 qc_2 ?_
        refine gw_iadd k_Law_law f_Law_law_1125 ?_
        have hp := h.1
        have h := h.2
        refine gw_rald (zl := zs) k_Law_law f_Law_law_1126 rfl hp ?_
        refine gw_aload_n k_Law_law f_Law_law_1127 rfl ?_
        refine gw_iload_n k_Law_law f_Law_law_1128 rfl ?_
        refine gw_iconst k_Law_law f_Law_law_1129 qc_3 ?_
        refine gw_iadd k_Law_law f_Law_law_1130 ?_
        have hp := h.1
        have h := h.2
        refine gw_rald (zl := zs) k_Law_law f_Law_law_1131 rfl hp ?_
        refine gw_aload_n k_Law_law f_Law_law_1132 rfl ?_
        refine gw_iload_n k_Law_law f_Law_law_1133 rfl ?_
        refine gw_iconst k_Law_law f_Law_law_1134 qc_4 ?_
        refine gw_iadd k_Law_law f_Law_law_1135 ?_
        have hp := h.1
        have h := h.2
        refine gw_rald (zl := zs) k_Law_law f_Law_law_1136 rfl hp ?_
        refine gw_aload_n k_Law_law f_Law_law_1137 rfl ?_
        refine gw_iload_n k_Law_law f_Law_law_1138 rfl ?_
        refine gw_iconst k_Law_law f_Law_law_1139 qc_5 ?_
        refine gw_iadd k_Law_law f_Law_law_1140 ?_
        have hp := h.1
        have h := h.2
        refine gw_rald (zl := zs) k_Law_law f_Law_law_1141 rfl hp ?_
        refine gw_aload_n k_Law_law f_Law_law_1142 rfl ?_
        refine gw_iload_n k_Law_law f_Law_law_1143 rfl ?_
        refine gw_bipush k_Law_law f_Law_law_1144 qb_6 ?_
        refine gw_iadd k_Law_law f_Law_law_1146 ?_
        have hp := h.1
        have h := h.2
        refine gw_rald (zl := zs) k_Law_law f_Law_law_1147 rfl hp ?_
        refine gw_virtual [.inl (zs.getD (x3 + 1).toNatClampNeg 0), .inl (zs.getD (x3 + 2).toNatClampNeg 0), .inl (zs.getD (x3 + 3).toNatClampNeg 0), .inl (zs.getD (x3 + 4).toNatClampNeg 0), .inl (zs.getD (x3 + 5).toNatClampNeg 0), .inl (zs.getD (x3 + 6).toNatClampNeg 0)] k_Law_law f_Law_law_1148 l_invT_12_107 k_Md_accent hc155 rfl rfl rfl (by exact Nat.le_of_ble_eq_true rfl) (dc := 2) (by decide) ?_ rfl
        refine h.mono (fun v w138 hh => ?_)
        obtain ⟨r137, rfl, h⟩ := hh
        show Gw zs 8 m_Law_law 1151 [some (.inr (.inr 0)), some (.inr (.inl (some 0))), some (.inr (.inl (some 155))), some (.inl x3)] [.inl r137, .inl r135] w138 _
        refine gw_icmp_eq (t := 1509) k_Law_law f_Law_law_1151 rfl (fun c139 => ?_) (fun c139 => ?_)
        · have h := h.1 c139
          refine gw_iinc [some (.inr (.inr 0)), some (.inr (.inl (some 0))), some (.inr (.inl (some 155))), some (.inl (x3 + 7))] k_Law_law f_Law_law_1509 rfl qc_7 (Nat.le_of_ble_eq_true rfl) rfl ?_
          refine gw_goto (t := 18) k_Law_law f_Law_law_1512 rfl ?_
          exact h
        · have h := h.2 c139
          refine gw_iconst k_Law_law f_Law_law_1154 qc_0 ?_
          exact gw_zret k_Law_law f_Law_law_1155 rfl (Or.inl rfl) h
      | 22, hq, hx =>
        have c140 : ((zs.getD x3.toNatClampNeg 0) &&& 31) = 22 := hx.trans (by decide)
        have h := h.2.2.2.2.2.2.2.2.2.2.2.2.2.2.2.2.2.2.2.2.2.2.1 c140
        refine ⟨_, 1156, rfl, rfl, ?_⟩
        refine gw_aload_n k_Law_law f_Law_law_1156 rfl ?_
        refine gw_aload_n k_Law_law f_Law_law_1157 rfl ?_
        refine gw_iload_n k_Law_law f_Law_law_1158 rfl ?_
        refine gw_iconst k_Law_law f_Law_law_1159 qc_1 ?_
        refine gw_iadd k_Law_law f_Law_law_1160 ?_
        have hp := h.1
        have h := h.2
        refine gw_rald (zl := zs) k_Law_law f_Law_law_1161 rfl hp ?_
        refine gw_aload_n k_Law_law f_Law_law_1162 rfl ?_
        refine gw_iload_n k_Law_law f_Law_law_1163 rfl ?_
        refine gw_iconst k_Law_law f_Law_law_1164 qc_2 ?_
        refine gw_iadd k_Law_law f_Law_law_1165 ?_
        have hp := h.1
        have h := h.2
        refine gw_rald (zl := zs) k_Law_law f_Law_law_1166 rfl hp ?_
        refine gw_aload_n k_Law_law f_Law_law_1167 rfl ?_
        refine gw_iload_n k_Law_law f_Law_law_1168 rfl ?_
        refine gw_iconst k_Law_law f_Law_law_1169 qc_3 ?_
        refine gw_iadd k_Law_law f_Law_law_1170 ?_
        have hp := h.1
        have h := h.2
        refine gw_rald (zl := zs) k_Law_law f_Law_law_1171 rfl hp ?_
        refine gw_virtual [.inl (zs.getD (x3 + 1).toNatClampNeg 0), .inl (zs.getD (x3 + 2).toNatClampNeg 0), .inl (zs.getD (x3 + 3).toNatClampNeg 0)] k_Law_law f_Law_law_1172 l_invT_12_108 k_Bk_accents hc0 rfl rfl rfl (by exact Nat.le_of_ble_eq_true rfl) (dc := 2) (by decide) ?_ rfl
        refine h.mono (fun v w142 hh => ?_)
        obtain ⟨r141, rfl, h⟩ := hh
        show Gw zs 8 m_Law_law 1175 [some (.inr (.inr 0)), some (.inr (.inl (some 0))), some (.inr (.inl (some 155))), some (.inl x3)] [.inl r141] w142 _
        refine gw_aload_n k_Law_law f_Law_law_1175 rfl ?_
        refine gw_aload_n k_Law_law f_Law_law_1176 rfl ?_
        refine gw_iload_n k_Law_law f_Law_law_1177 rfl ?_
        refine gw_iconst k_Law_law f_Law_law_1178 qc_1 ?_
        refine gw_iadd k_Law_law f_Law_law_1179 ?_
        have hp := h.1
        have h := h.2
        refine gw_rald (zl := zs) k_Law_law f_Law_law_1180 rfl hp ?_
        refine gw_aload_n k_Law_law f_Law_law_1181 rfl ?_
        refine gw_iload_n k_Law_law f_Law_law_1182 rfl ?_
        refine gw_iconst k_Law_law f_Law_law_1183 qc_2 ?_
        refine gw_iadd k_Law_law f_Law_law_1184 ?_
        have hp := h.1
        have h := h.2
        refine gw_rald (zl := zs) k_Law_law f_Law_law_1185 rfl hp ?_
        refine gw_aload_n k_Law_law f_Law_law_1186 rfl ?_
        refine gw_iload_n k_Law_law f_Law_law_1187 rfl ?_
        refine gw_iconst k_Law_law f_Law_law_1188 qc_3 ?_
        refine gw_iadd k_Law_law f_Law_law_1189 ?_
        have hp := h.1
        have h := h.2
        refine gw_rald (zl := zs) k_Law_law f_Law_law_1190 rfl hp ?_
        refine gw_virtual [.inl (zs.getD (x3 + 1).toNatClampNeg 0), .inl (zs.getD (x3 + 2).toNatClampNeg 0), .inl (zs.getD (x3 + 3).toNatClampNeg 0)] k_Law_law f_Law_law_1191 l_invT_12_111 k_Md_accents hc155 rfl rfl rfl (by exact Nat.le_of_ble_eq_true rfl) (dc := 1) (by decide) ?_ rfl
        refine h.mono (fun v w144 hh => ?_)
        obtain ⟨r143, rfl, h⟩ := hh
        show Gw zs 8 m_Law_law 1194 [some (.inr (.inr 0)), some (.inr (.inl (some 0))), some (.inr (.inl (some 155))), some (.inl x3)] [.inl r143, .inl r141] w144 _
        refine gw_icmp_eq (t := 1509) k_Law_law f_Law_law_1194 rfl (fun c145 => ?_) (fun c145 => ?_)
        · have h := h.1 c145
          refine gw_iinc [some (.inr (.inr 0)), some (.inr (.inl (some 0))), some (.inr (.inl (some 155))), some (.inl (x3 + 7))] k_Law_law f_Law_law_1509 rfl qc_7 (Nat.le_of_ble_eq_true rfl) rfl ?_
          refine gw_goto (t := 18) k_Law_law f_Law_law_1512 rfl ?_
          exact h
        · have h := h.2 c145
          refine gw_iconst k_Law_law f_Law_law_1197 qc_0 ?_
          exact gw_zret k_Law_law f_Law_law_1198 rfl (Or.inl rfl) h
      | 23, hq, hx =>
        have c146 : ((zs.getD x3.toNatClampNeg 0) &&& 31) = 23 := hx.trans (by decide)
        have h := h.2.2.2.2.2.2.2.2.2.2.2.2.2.2.2.2.2.2.2.2.2.2.2.1 c146
        refine ⟨_, 1199, rfl, rfl, ?_⟩
        refine gw_aload_n k_Law_law f_Law_law_1199 rfl ?_
        refine gw_aload_n k_Law_law f_Law_law_1200 rfl ?_
        refine gw_iload_n k_Law_law f_Law_law_1201 rfl ?_
        refine gw_iconst k_Law_law f_Law_law_1202 qc_1 ?_
        refine gw_iadd k_Law_law f_Law_law_1203 ?_
        have hp := h.1
        have h := h.2
        refine gw_rald (zl := zs) k_Law_law f_Law_law_1204 rfl hp ?_
        refine gw_aload_n k_Law_law f_Law_law_1205 rfl ?_
        refine gw_iload_n k_Law_law f_Law_law_1206 rfl ?_
        refine gw_iconst k_Law_law f_Law_law_1207 qc_2 ?_
        refine gw_iadd k_Law_law f_Law_law_1208 ?_
        have hp := h.1
        have h := h.2
        refine gw_rald (zl := zs) k_Law_law f_Law_law_1209 rfl hp ?_
        refine gw_if_eq (t := 1217) k_Law_law f_Law_law_1210 rfl (fun c147 => ?_) (fun c147 => ?_)
        · have h := h.1 c147
          refine gw_iconst k_Law_law f_Law_law_1217 qc_0 ?_
          refine gw_virtual [.inl (zs.getD (x3 + 1).toNatClampNeg 0), .inl 0] k_Law_law f_Law_law_1218 l_invT_12_112 k_Bk_syllable hc0 rfl rfl rfl (by exact Nat.le_of_ble_eq_true rfl) (dc := 1) (by decide) ?_ rfl
          refine h.mono (fun v w149 hh => ?_)
          obtain ⟨r148, rfl, h⟩ := hh
          show Gw zs 8 m_Law_law 1221 [some (.inr (.inr 0)), some (.inr (.inl (some 0))), some (.inr (.inl (some 155))), some (.inl x3)] [.inl r148] w149 _
          refine gw_aload_n k_Law_law f_Law_law_1221 rfl ?_
          refine gw_aload_n k_Law_law f_Law_law_1222 rfl ?_
          refine gw_iload_n k_Law_law f_Law_law_1223 rfl ?_
          refine gw_iconst k_Law_law f_Law_law_1224 qc_1 ?_
          refine gw_iadd k_Law_law f_Law_law_1225 ?_
          have hp := h.1
          have h := h.2
          refine gw_rald (zl := zs) k_Law_law f_Law_law_1226 rfl hp ?_
          refine gw_aload_n k_Law_law f_Law_law_1227 rfl ?_
          refine gw_iload_n k_Law_law f_Law_law_1228 rfl ?_
          refine gw_iconst k_Law_law f_Law_law_1229 qc_2 ?_
          refine gw_iadd k_Law_law f_Law_law_1230 ?_
          have hp := h.1
          have h := h.2
          refine gw_rald (zl := zs) k_Law_law f_Law_law_1231 rfl hp ?_
          refine gw_if_eq (t := 1239) k_Law_law f_Law_law_1232 rfl (fun _ => ?_) (fun c => absurd c147 c)
          refine gw_iconst k_Law_law f_Law_law_1239 qc_0 ?_
          refine gw_virtual [.inl (zs.getD (x3 + 1).toNatClampNeg 0), .inl 0] k_Law_law f_Law_law_1240 l_invT_12_116 k_Md_syllable hc155 rfl rfl rfl (by exact Nat.le_of_ble_eq_true rfl) (dc := 1) (by decide) ?_ rfl
          refine h.mono (fun v w151 hh => ?_)
          obtain ⟨r150, rfl, h⟩ := hh
          show Gw zs 8 m_Law_law 1243 [some (.inr (.inr 0)), some (.inr (.inl (some 0))), some (.inr (.inl (some 155))), some (.inl x3)] [.inl r150, .inl r148] w151 _
          refine gw_icmp_eq (t := 1509) k_Law_law f_Law_law_1243 rfl (fun c152 => ?_) (fun c152 => ?_)
          · have h := h.1 c152
            refine gw_iinc [some (.inr (.inr 0)), some (.inr (.inl (some 0))), some (.inr (.inl (some 155))), some (.inl (x3 + 7))] k_Law_law f_Law_law_1509 rfl qc_7 (Nat.le_of_ble_eq_true rfl) rfl ?_
            refine gw_goto (t := 18) k_Law_law f_Law_law_1512 rfl ?_
            exact h
          · have h := h.2 c152
            refine gw_iconst k_Law_law f_Law_law_1246 qc_0 ?_
            exact gw_zret k_Law_law f_Law_law_1247 rfl (Or.inl rfl) h
        · have h := h.2 c147
          refine gw_iconst k_Law_law f_Law_law_1213 qc_1 ?_
          refine gw_goto (t := 1218) k_Law_law f_Law_law_1214 rfl ?_
          refine gw_virtual [.inl (zs.getD (x3 + 1).toNatClampNeg 0), .inl 1] k_Law_law f_Law_law_1218 l_invT_12_112 k_Bk_syllable hc0 rfl rfl rfl (by exact Nat.le_of_ble_eq_true rfl) (dc := 1) (by decide) ?_ rfl
          refine h.mono (fun v w154 hh => ?_)
          obtain ⟨r153, rfl, h⟩ := hh
          show Gw zs 8 m_Law_law 1221 [some (.inr (.inr 0)), some (.inr (.inl (some 0))), some (.inr (.inl (some 155))), some (.inl x3)] [.inl r153] w154 _
          refine gw_aload_n k_Law_law f_Law_law_1221 rfl ?_
          refine gw_aload_n k_Law_law f_Law_law_1222 rfl ?_
          refine gw_iload_n k_Law_law f_Law_law_1223 rfl ?_
          refine gw_iconst k_Law_law f_Law_law_1224 qc_1 ?_
          refine gw_iadd k_Law_law f_Law_law_1225 ?_
          have hp := h.1
          have h := h.2
          refine gw_rald (zl := zs) k_Law_law f_Law_law_1226 rfl hp ?_
          refine gw_aload_n k_Law_law f_Law_law_1227 rfl ?_
          refine gw_iload_n k_Law_law f_Law_law_1228 rfl ?_
          refine gw_iconst k_Law_law f_Law_law_1229 qc_2 ?_
          refine gw_iadd k_Law_law f_Law_law_1230 ?_
          have hp := h.1
          have h := h.2
          refine gw_rald (zl := zs) k_Law_law f_Law_law_1231 rfl hp ?_
          refine gw_if_eq (t := 1239) k_Law_law f_Law_law_1232 rfl (fun c => absurd c c147) (fun _ => ?_)
          refine gw_iconst k_Law_law f_Law_law_1235 qc_1 ?_
          refine gw_goto (t := 1240) k_Law_law f_Law_law_1236 rfl ?_
          refine gw_virtual [.inl (zs.getD (x3 + 1).toNatClampNeg 0), .inl 1] k_Law_law f_Law_law_1240 l_invT_12_116 k_Md_syllable hc155 rfl rfl rfl (by exact Nat.le_of_ble_eq_true rfl) (dc := 1) (by decide) ?_ rfl
          refine h.mono (fun v w156 hh => ?_)
          obtain ⟨r155, rfl, h⟩ := hh
          show Gw zs 8 m_Law_law 1243 [some (.inr (.inr 0)), some (.inr (.inl (some 0))), some (.inr (.inl (some 155))), some (.inl x3)] [.inl r155, .inl r153] w156 _
          refine gw_icmp_eq (t := 1509) k_Law_law f_Law_law_1243 rfl (fun c157 => ?_) (fun c157 => ?_)
          · have h := h.1 c157
            refine gw_iinc [some (.inr (.inr 0)), some (.inr (.inl (some 0))), some (.inr (.inl (some 155))), some (.inl (x3 + 7))] k_Law_law f_Law_law_1509 rfl qc_7 (Nat.le_of_ble_eq_true rfl) rfl ?_
            refine gw_goto (t := 18) k_Law_law f_Law_law_1512 rfl ?_
            exact h
          · have h := h.2 c157
            refine gw_iconst k_Law_law f_Law_law_1246 qc_0 ?_
            exact gw_zret k_Law_law f_Law_law_1247 rfl (Or.inl rfl) h
      | 24, hq, hx =>
        have c158 : ((zs.getD x3.toNatClampNeg 0) &&& 31) = 24 := hx.trans (by decide)
        have h := h.2.2.2.2.2.2.2.2.2.2.2.2.2.2.2.2.2.2.2.2.2.2.2.2.1 c158
        refine ⟨_, 1248, rfl, rfl, ?_⟩
        refine gw_aload_n k_Law_law f_Law_law_1248 rfl ?_
        refine gw_aload_n k_Law_law f_Law_law_1249 rfl ?_
        refine gw_iload_n k_Law_law f_Law_law_1250 rfl ?_
        refine gw_iconst k_Law_law f_Law_law_1251 qc_1 ?_
        refine gw_iadd k_Law_law f_Law_law_1252 ?_
        have hp := h.1
        have h := h.2
        refine gw_rald (zl := zs) k_Law_law f_Law_law_1253 rfl hp ?_
        refine gw_virtual [.inl (zs.getD (x3 + 1).toNatClampNeg 0)] k_Law_law f_Law_law_1254 l_invT_12_117 k_Bk_part hc0 rfl rfl rfl (by exact Nat.le_of_ble_eq_true rfl) (dc := 1) (by decide) ?_ rfl
        refine h.mono (fun v w160 hh => ?_)
        obtain ⟨r159, rfl, h⟩ := hh
        show Gw zs 8 m_Law_law 1257 [some (.inr (.inr 0)), some (.inr (.inl (some 0))), some (.inr (.inl (some 155))), some (.inl x3)] [.inl r159] w160 _
        refine gw_aload_n k_Law_law f_Law_law_1257 rfl ?_
        refine gw_aload_n k_Law_law f_Law_law_1258 rfl ?_
        refine gw_iload_n k_Law_law f_Law_law_1259 rfl ?_
        refine gw_iconst k_Law_law f_Law_law_1260 qc_1 ?_
        refine gw_iadd k_Law_law f_Law_law_1261 ?_
        have hp := h.1
        have h := h.2
        refine gw_rald (zl := zs) k_Law_law f_Law_law_1262 rfl hp ?_
        refine gw_virtual [.inl (zs.getD (x3 + 1).toNatClampNeg 0)] k_Law_law f_Law_law_1263 l_invT_12_120 k_Md_part hc155 rfl rfl rfl (by exact Nat.le_of_ble_eq_true rfl) (dc := 1) (by decide) ?_ rfl
        refine h.mono (fun v w162 hh => ?_)
        obtain ⟨r161, rfl, h⟩ := hh
        show Gw zs 8 m_Law_law 1266 [some (.inr (.inr 0)), some (.inr (.inl (some 0))), some (.inr (.inl (some 155))), some (.inl x3)] [.inl r161, .inl r159] w162 _
        refine gw_icmp_eq (t := 1509) k_Law_law f_Law_law_1266 rfl (fun c163 => ?_) (fun c163 => ?_)
        · have h := h.1 c163
          refine gw_iinc [some (.inr (.inr 0)), some (.inr (.inl (some 0))), some (.inr (.inl (some 155))), some (.inl (x3 + 7))] k_Law_law f_Law_law_1509 rfl qc_7 (Nat.le_of_ble_eq_true rfl) rfl ?_
          refine gw_goto (t := 18) k_Law_law f_Law_law_1512 rfl ?_
          exact h
        · have h := h.2 c163
          refine gw_iconst k_Law_law f_Law_law_1269 qc_0 ?_
          exact gw_zret k_Law_law f_Law_law_1270 rfl (Or.inl rfl) h
      | 25, hq, hx =>
        have c164 : ((zs.getD x3.toNatClampNeg 0) &&& 31) = 25 := hx.trans (by decide)
        have h := h.2.2.2.2.2.2.2.2.2.2.2.2.2.2.2.2.2.2.2.2.2.2.2.2.2.1 c164
        refine ⟨_, 1271, rfl, rfl, ?_⟩
        refine gw_aload_n k_Law_law f_Law_law_1271 rfl ?_
        refine gw_aload_n k_Law_law f_Law_law_1272 rfl ?_
        refine gw_iload_n k_Law_law f_Law_law_1273 rfl ?_
        refine gw_iconst k_Law_law f_Law_law_1274 qc_1 ?_
        refine gw_iadd k_Law_law f_Law_law_1275 ?_
        have hp := h.1
        have h := h.2
        refine gw_rald (zl := zs) k_Law_law f_Law_law_1276 rfl hp ?_
        refine gw_aload_n k_Law_law f_Law_law_1277 rfl ?_
        refine gw_iload_n k_Law_law f_Law_law_1278 rfl ?_
        refine gw_iconst k_Law_law f_Law_law_1279 qc_2 ?_
        refine gw_iadd k_Law_law f_Law_law_1280 ?_
        have hp := h.1
        have h := h.2
        refine gw_rald (zl := zs) k_Law_law f_Law_law_1281 rfl hp ?_
        refine gw_aload_n k_Law_law f_Law_law_1282 rfl ?_
        refine gw_iload_n k_Law_law f_Law_law_1283 rfl ?_
        refine gw_iconst k_Law_law f_Law_law_1284 qc_3 ?_
        refine gw_iadd k_Law_law f_Law_law_1285 ?_
        have hp := h.1
        have h := h.2
        refine gw_rald (zl := zs) k_Law_law f_Law_law_1286 rfl hp ?_
        refine gw_virtual [.inl (zs.getD (x3 + 1).toNatClampNeg 0), .inl (zs.getD (x3 + 2).toNatClampNeg 0), .inl (zs.getD (x3 + 3).toNatClampNeg 0)] k_Law_law f_Law_law_1287 l_invT_12_121 k_Bk_sing hc0 rfl rfl rfl (by exact Nat.le_of_ble_eq_true rfl) (dc := 3) (by decide) ?_ rfl
        refine h.mono (fun v w166 hh => ?_)
        obtain ⟨r165, rfl, h⟩ := hh
        show Gw zs 8 m_Law_law 1290 [some (.inr (.inr 0)), some (.inr (.inl (some 0))), some (.inr (.inl (some 155))), some (.inl x3)] [.inl r165] w166 _
        refine gw_aload_n k_Law_law f_Law_law_1290 rfl ?_
        refine gw_aload_n k_Law_law f_Law_law_1291 rfl ?_
        refine gw_iload_n k_Law_law f_Law_law_1292 rfl ?_
        refine gw_iconst k_Law_law f_Law_law_1293 qc_1 ?_
        refine gw_iadd k_Law_law f_Law_law_1294 ?_
        have hp := h.1
        have h := h.2
        refine gw_rald (zl := zs) k_Law_law f_Law_law_1295 rfl hp ?_
        refine gw_aload_n k_Law_law f_Law_law_1296 rfl ?_
        refine gw_iload_n k_Law_law f_Law_law_1297 rfl ?_
        refine gw_iconst k_Law_law f_Law_law_1298 qc_2 ?_
        refine gw_iadd k_Law_law f_Law_law_1299 ?_
        have hp := h.1
        have h := h.2
        refine gw_rald (zl := zs) k_Law_law f_Law_law_1300 rfl hp ?_
        refine gw_aload_n k_Law_law f_Law_law_1301 rfl ?_
        refine gw_iload_n k_Law_law f_Law_law_1302 rfl ?_
        refine gw_iconst k_Law_law f_Law_law_1303 qc_3 ?_
        refine gw_iadd k_Law_law f_Law_law_1304 ?_
        have hp := h.1
        have h := h.2
        refine gw_rald (zl := zs) k_Law_law f_Law_law_1305 rfl hp ?_
        refine gw_virtual [.inl (zs.getD (x3 + 1).toNatClampNeg 0), .inl (zs.getD (x3 + 2).toNatClampNeg 0), .inl (zs.getD (x3 + 3).toNatClampNeg 0)] k_Law_law f_Law_law_1306 l_invT_12_124 k_Md_sing hc155 rfl rfl rfl (by exact Nat.le_of_ble_eq_true rfl) (dc := 1) (by decide) ?_ rfl
        refine h.mono (fun v w168 hh => ?_)
        obtain ⟨r167, rfl, h⟩ := hh
        show Gw zs 8 m_Law_law 1309 [some (.inr (.inr 0)), some (.inr (.inl (some 0))), some (.inr (.inl (some 155))), some (.inl x3)] [.inl r167, .inl r165] w168 _
        refine gw_icmp_eq (t := 1509) k_Law_law f_Law_law_1309 rfl (fun c169 => ?_) (fun c169 => ?_)
        · have h := h.1 c169
          refine gw_iinc [some (.inr (.inr 0)), some (.inr (.inl (some 0))), some (.inr (.inl (some 155))), some (.inl (x3 + 7))] k_Law_law f_Law_law_1509 rfl qc_7 (Nat.le_of_ble_eq_true rfl) rfl ?_
          refine gw_goto (t := 18) k_Law_law f_Law_law_1512 rfl ?_
          exact h
        · have h := h.2 c169
          refine gw_iconst k_Law_law f_Law_law_1312 qc_0 ?_
          exact gw_zret k_Law_law f_Law_law_1313 rfl (Or.inl rfl) h
      | 26, hq, hx =>
        have c170 : ((zs.getD x3.toNatClampNeg 0) &&& 31) = 26 := hx.trans (by decide)
        have h := h.2.2.2.2.2.2.2.2.2.2.2.2.2.2.2.2.2.2.2.2.2.2.2.2.2.2.1 c170
        refine ⟨_, 1314, rfl, rfl, ?_⟩
        refine gw_aload_n k_Law_law f_Law_law_1314 rfl ?_
        refine gw_aload_n k_Law_law f_Law_law_1315 rfl ?_
        refine gw_iload_n k_Law_law f_Law_law_1316 rfl ?_
        refine gw_iconst k_Law_law f_Law_law_1317 qc_1 ?_
        refine gw_iadd k_Law_law f_Law_law_1318 ?_
        have hp := h.1
        have h := h.2
        refine gw_rald (zl := zs) k_Law_law f_Law_law_1319 rfl hp ?_
        refine gw_virtual [.inl (zs.getD (x3 + 1).toNatClampNeg 0)] k_Law_law f_Law_law_1320 l_invT_12_125 k_Bk_monk hc0 rfl rfl rfl (by exact Nat.le_of_ble_eq_true rfl) (dc := 2) (by decide) ?_ rfl
        refine h.mono (fun v w172 hh => ?_)
        obtain ⟨r171, rfl, h⟩ := hh
        show Gw zs 8 m_Law_law 1323 [some (.inr (.inr 0)), some (.inr (.inl (some 0))), some (.inr (.inl (some 155))), some (.inl x3)] [.inl r171] w172 _
        refine gw_aload_n k_Law_law f_Law_law_1323 rfl ?_
        refine gw_aload_n k_Law_law f_Law_law_1324 rfl ?_
        refine gw_iload_n k_Law_law f_Law_law_1325 rfl ?_
        refine gw_iconst k_Law_law f_Law_law_1326 qc_1 ?_
        refine gw_iadd k_Law_law f_Law_law_1327 ?_
        have hp := h.1
        have h := h.2
        refine gw_rald (zl := zs) k_Law_law f_Law_law_1328 rfl hp ?_
        refine gw_virtual [.inl (zs.getD (x3 + 1).toNatClampNeg 0)] k_Law_law f_Law_law_1329 l_invT_12_128 k_Md_monk hc155 rfl rfl rfl (by exact Nat.le_of_ble_eq_true rfl) (dc := 1) (by decide) ?_ rfl
        refine h.mono (fun v w174 hh => ?_)
        obtain ⟨r173, rfl, h⟩ := hh
        show Gw zs 8 m_Law_law 1332 [some (.inr (.inr 0)), some (.inr (.inl (some 0))), some (.inr (.inl (some 155))), some (.inl x3)] [.inl r173, .inl r171] w174 _
        refine gw_icmp_eq (t := 1509) k_Law_law f_Law_law_1332 rfl (fun c175 => ?_) (fun c175 => ?_)
        · have h := h.1 c175
          refine gw_iinc [some (.inr (.inr 0)), some (.inr (.inl (some 0))), some (.inr (.inl (some 155))), some (.inl (x3 + 7))] k_Law_law f_Law_law_1509 rfl qc_7 (Nat.le_of_ble_eq_true rfl) rfl ?_
          refine gw_goto (t := 18) k_Law_law f_Law_law_1512 rfl ?_
          exact h
        · have h := h.2 c175
          refine gw_iconst k_Law_law f_Law_law_1335 qc_0 ?_
          exact gw_zret k_Law_law f_Law_law_1336 rfl (Or.inl rfl) h
      | 27, hq, hx =>
        have c176 : ((zs.getD x3.toNatClampNeg 0) &&& 31) = 27 := hx.trans (by decide)
        have h := h.2.2.2.2.2.2.2.2.2.2.2.2.2.2.2.2.2.2.2.2.2.2.2.2.2.2.2.1 c176
        refine ⟨_, 1337, rfl, rfl, ?_⟩
        refine gw_aload_n k_Law_law f_Law_law_1337 rfl ?_
        refine gw_aload_n k_Law_law f_Law_law_1338 rfl ?_
        refine gw_iload_n k_Law_law f_Law_law_1339 rfl ?_
        refine gw_iconst k_Law_law f_Law_law_1340 qc_1 ?_
        refine gw_iadd k_Law_law f_Law_law_1341 ?_
        have hp := h.1
        have h := h.2
        refine gw_rald (zl := zs) k_Law_law f_Law_law_1342 rfl hp ?_
        refine gw_aload_n k_Law_law f_Law_law_1343 rfl ?_
        refine gw_iload_n k_Law_law f_Law_law_1344 rfl ?_
        refine gw_iconst k_Law_law f_Law_law_1345 qc_2 ?_
        refine gw_iadd k_Law_law f_Law_law_1346 ?_
        have hp := h.1
        have h := h.2
        refine gw_rald (zl := zs) k_Law_law f_Law_law_1347 rfl hp ?_
        refine gw_aload_n k_Law_law f_Law_law_1348 rfl ?_
        refine gw_iload_n k_Law_law f_Law_law_1349 rfl ?_
        refine gw_iconst k_Law_law f_Law_law_1350 qc_3 ?_
        refine gw_iadd k_Law_law f_Law_law_1351 ?_
        have hp := h.1
        have h := h.2
        refine gw_rald (zl := zs) k_Law_law f_Law_law_1352 rfl hp ?_
        refine gw_aload_n k_Law_law f_Law_law_1353 rfl ?_
        refine gw_iload_n k_Law_law f_Law_law_1354 rfl ?_
        refine gw_iconst k_Law_law f_Law_law_1355 qc_4 ?_
        refine gw_iadd k_Law_law f_Law_law_1356 ?_
        have hp := h.1
        have h := h.2
        refine gw_rald (zl := zs) k_Law_law f_Law_law_1357 rfl hp ?_
        refine gw_virtual [.inl (zs.getD (x3 + 1).toNatClampNeg 0), .inl (zs.getD (x3 + 2).toNatClampNeg 0), .inl (zs.getD (x3 + 3).toNatClampNeg 0), .inl (zs.getD (x3 + 4).toNatClampNeg 0)] k_Law_law f_Law_law_1358 l_invT_12_129 k_Bk_absence hc0 rfl rfl rfl (by exact Nat.le_of_ble_eq_true rfl) (dc := 3) (by decide) ?_ rfl
        refine h.mono (fun v w178 hh => ?_)
        obtain ⟨r177, rfl, h⟩ := hh
        show Gw zs 8 m_Law_law 1361 [some (.inr (.inr 0)), some (.inr (.inl (some 0))), some (.inr (.inl (some 155))), some (.inl x3)] [.inl r177] w178 _
        refine gw_aload_n k_Law_law f_Law_law_1361 rfl ?_
        refine gw_aload_n k_Law_law f_Law_law_1362 rfl ?_
        refine gw_iload_n k_Law_law f_Law_law_1363 rfl ?_
        refine gw_iconst k_Law_law f_Law_law_1364 qc_1 ?_
        refine gw_iadd k_Law_law f_Law_law_1365 ?_
        have hp := h.1
        have h := h.2
        refine gw_rald (zl := zs) k_Law_law f_Law_law_1366 rfl hp ?_
        refine gw_aload_n k_Law_law f_Law_law_1367 rfl ?_
        refine gw_iload_n k_Law_law f_Law_law_1368 rfl ?_
        refine gw_iconst k_Law_law f_Law_law_1369 qc_2 ?_
        refine gw_iadd k_Law_law f_Law_law_1370 ?_
        have hp := h.1
        have h := h.2
        refine gw_rald (zl := zs) k_Law_law f_Law_law_1371 rfl hp ?_
        refine gw_aload_n k_Law_law f_Law_law_1372 rfl ?_
        refine gw_iload_n k_Law_law f_Law_law_1373 rfl ?_
        refine gw_iconst k_Law_law f_Law_law_1374 qc_3 ?_
        refine gw_iadd k_Law_law f_Law_law_1375 ?_
        have hp := h.1
        have h := h.2
        refine gw_rald (zl := zs) k_Law_law f_Law_law_1376 rfl hp ?_
        refine gw_aload_n k_Law_law f_Law_law_1377 rfl ?_
        refine gw_iload_n k_Law_law f_Law_law_1378 rfl ?_
        refine gw_iconst k_Law_law f_Law_law_1379 qc_4 ?_
        refine gw_iadd k_Law_law f_Law_law_1380 ?_
        have hp := h.1
        have h := h.2
        refine gw_rald (zl := zs) k_Law_law f_Law_law_1381 rfl hp ?_
        refine gw_virtual [.inl (zs.getD (x3 + 1).toNatClampNeg 0), .inl (zs.getD (x3 + 2).toNatClampNeg 0), .inl (zs.getD (x3 + 3).toNatClampNeg 0), .inl (zs.getD (x3 + 4).toNatClampNeg 0)] k_Law_law f_Law_law_1382 l_invT_12_132 k_Md_absence hc155 rfl rfl rfl (by exact Nat.le_of_ble_eq_true rfl) (dc := 3) (by decide) ?_ rfl
        refine h.mono (fun v w180 hh => ?_)
        obtain ⟨r179, rfl, h⟩ := hh
        show Gw zs 8 m_Law_law 1385 [some (.inr (.inr 0)), some (.inr (.inl (some 0))), some (.inr (.inl (some 155))), some (.inl x3)] [.inl r179, .inl r177] w180 _
        refine gw_icmp_eq (t := 1509) k_Law_law f_Law_law_1385 rfl (fun c181 => ?_) (fun c181 => ?_)
        · have h := h.1 c181
          refine gw_iinc [some (.inr (.inr 0)), some (.inr (.inl (some 0))), some (.inr (.inl (some 155))), some (.inl (x3 + 7))] k_Law_law f_Law_law_1509 rfl qc_7 (Nat.le_of_ble_eq_true rfl) rfl ?_
          refine gw_goto (t := 18) k_Law_law f_Law_law_1512 rfl ?_
          exact h
        · have h := h.2 c181
          refine gw_iconst k_Law_law f_Law_law_1388 qc_0 ?_
          exact gw_zret k_Law_law f_Law_law_1389 rfl (Or.inl rfl) h
      | 28, hq, hx =>
        have c182 : ((zs.getD x3.toNatClampNeg 0) &&& 31) = 28 := hx.trans (by decide)
        have h := h.2.2.2.2.2.2.2.2.2.2.2.2.2.2.2.2.2.2.2.2.2.2.2.2.2.2.2.2.1 c182
        refine ⟨_, 1390, rfl, rfl, ?_⟩
        refine gw_aload_n k_Law_law f_Law_law_1390 rfl ?_
        refine gw_aload_n k_Law_law f_Law_law_1391 rfl ?_
        refine gw_iload_n k_Law_law f_Law_law_1392 rfl ?_
        refine gw_iconst k_Law_law f_Law_law_1393 qc_1 ?_
        refine gw_iadd k_Law_law f_Law_law_1394 ?_
        have hp := h.1
        have h := h.2
        refine gw_rald (zl := zs) k_Law_law f_Law_law_1395 rfl hp ?_
        refine gw_aload_n k_Law_law f_Law_law_1396 rfl ?_
        refine gw_iload_n k_Law_law f_Law_law_1397 rfl ?_
        refine gw_iconst k_Law_law f_Law_law_1398 qc_2 ?_
        refine gw_iadd k_Law_law f_Law_law_1399 ?_
        have hp := h.1
        have h := h.2
        refine gw_rald (zl := zs) k_Law_law f_Law_law_1400 rfl hp ?_
        refine gw_aload_n k_Law_law f_Law_law_1401 rfl ?_
        refine gw_iload_n k_Law_law f_Law_law_1402 rfl ?_
        refine gw_iconst k_Law_law f_Law_law_1403 qc_3 ?_
        refine gw_iadd k_Law_law f_Law_law_1404 ?_
        have hp := h.1
        have h := h.2
        refine gw_rald (zl := zs) k_Law_law f_Law_law_1405 rfl hp ?_
        refine gw_virtual [.inl (zs.getD (x3 + 1).toNatClampNeg 0), .inl (zs.getD (x3 + 2).toNatClampNeg 0), .inl (zs.getD (x3 + 3).toNatClampNeg 0)] k_Law_law f_Law_law_1406 l_invT_12_133 k_Bk_roster hc0 rfl rfl rfl (by exact Nat.le_of_ble_eq_true rfl) (dc := 7) (by decide) ?_ rfl
        refine h.mono (fun v w184 hh => ?_)
        obtain ⟨r183, rfl, h⟩ := hh
        show Gw zs 8 m_Law_law 1409 [some (.inr (.inr 0)), some (.inr (.inl (some 0))), some (.inr (.inl (some 155))), some (.inl x3)] [.inl r183] w184 _
        refine gw_aload_n k_Law_law f_Law_law_1409 rfl ?_
        refine gw_aload_n k_Law_law f_Law_law_1410 rfl ?_
        refine gw_iload_n k_Law_law f_Law_law_1411 rfl ?_
        refine gw_iconst k_Law_law f_Law_law_1412 qc_1 ?_
        refine gw_iadd k_Law_law f_Law_law_1413 ?_
        have hp := h.1
        have h := h.2
        refine gw_rald (zl := zs) k_Law_law f_Law_law_1414 rfl hp ?_
        refine gw_aload_n k_Law_law f_Law_law_1415 rfl ?_
        refine gw_iload_n k_Law_law f_Law_law_1416 rfl ?_
        refine gw_iconst k_Law_law f_Law_law_1417 qc_2 ?_
        refine gw_iadd k_Law_law f_Law_law_1418 ?_
        have hp := h.1
        have h := h.2
        refine gw_rald (zl := zs) k_Law_law f_Law_law_1419 rfl hp ?_
        refine gw_aload_n k_Law_law f_Law_law_1420 rfl ?_
        refine gw_iload_n k_Law_law f_Law_law_1421 rfl ?_
        refine gw_iconst k_Law_law f_Law_law_1422 qc_3 ?_
        refine gw_iadd k_Law_law f_Law_law_1423 ?_
        have hp := h.1
        have h := h.2
        refine gw_rald (zl := zs) k_Law_law f_Law_law_1424 rfl hp ?_
        refine gw_virtual [.inl (zs.getD (x3 + 1).toNatClampNeg 0), .inl (zs.getD (x3 + 2).toNatClampNeg 0), .inl (zs.getD (x3 + 3).toNatClampNeg 0)] k_Law_law f_Law_law_1425 l_invT_12_136 k_Md_roster hc155 rfl rfl rfl (by exact Nat.le_of_ble_eq_true rfl) (dc := 6) (by decide) ?_ rfl
        refine h.mono (fun v w186 hh => ?_)
        obtain ⟨r185, rfl, h⟩ := hh
        show Gw zs 8 m_Law_law 1428 [some (.inr (.inr 0)), some (.inr (.inl (some 0))), some (.inr (.inl (some 155))), some (.inl x3)] [.inl r185, .inl r183] w186 _
        refine gw_icmp_eq (t := 1509) k_Law_law f_Law_law_1428 rfl (fun c187 => ?_) (fun c187 => ?_)
        · have h := h.1 c187
          refine gw_iinc [some (.inr (.inr 0)), some (.inr (.inl (some 0))), some (.inr (.inl (some 155))), some (.inl (x3 + 7))] k_Law_law f_Law_law_1509 rfl qc_7 (Nat.le_of_ble_eq_true rfl) rfl ?_
          refine gw_goto (t := 18) k_Law_law f_Law_law_1512 rfl ?_
          exact h
        · have h := h.2 c187
          refine gw_iconst k_Law_law f_Law_law_1431 qc_0 ?_
          exact gw_zret k_Law_law f_Law_law_1432 rfl (Or.inl rfl) h
      | 29, hq, hx =>
        have c188 : ((zs.getD x3.toNatClampNeg 0) &&& 31) = 29 := hx.trans (by decide)
        have h := h.2.2.2.2.2.2.2.2.2.2.2.2.2.2.2.2.2.2.2.2.2.2.2.2.2.2.2.2.2.1 c188
        refine ⟨_, 1433, rfl, rfl, ?_⟩
        refine gw_aload_n k_Law_law f_Law_law_1433 rfl ?_
        refine gw_aload_n k_Law_law f_Law_law_1434 rfl ?_
        refine gw_iload_n k_Law_law f_Law_law_1435 rfl ?_
        refine gw_iconst k_Law_law f_Law_law_1436 qc_1 ?_
        refine gw_iadd k_Law_law f_Law_law_1437 ?_
        have hp := h.1
        have h := h.2
        refine gw_rald (zl := zs) k_Law_law f_Law_law_1438 rfl hp ?_
        refine gw_aload_n k_Law_law f_Law_law_1439 rfl ?_
        refine gw_iload_n k_Law_law f_Law_law_1440 rfl ?_
        refine gw_iconst k_Law_law f_Law_law_1441 qc_2 ?_
        refine gw_iadd k_Law_law f_Law_law_1442 ?_
        have hp := h.1
        have h := h.2
        refine gw_rald (zl := zs) k_Law_law f_Law_law_1443 rfl hp ?_
        refine gw_aload_n k_Law_law f_Law_law_1444 rfl ?_
        refine gw_iload_n k_Law_law f_Law_law_1445 rfl ?_
        refine gw_iconst k_Law_law f_Law_law_1446 qc_3 ?_
        refine gw_iadd k_Law_law f_Law_law_1447 ?_
        have hp := h.1
        have h := h.2
        refine gw_rald (zl := zs) k_Law_law f_Law_law_1448 rfl hp ?_
        refine gw_virtual [.inl (zs.getD (x3 + 1).toNatClampNeg 0), .inl (zs.getD (x3 + 2).toNatClampNeg 0), .inl (zs.getD (x3 + 3).toNatClampNeg 0)] k_Law_law f_Law_law_1449 l_invT_12_137 k_Bk_turn hc0 rfl rfl rfl (by exact Nat.le_of_ble_eq_true rfl) (dc := 2) (by decide) ?_ rfl
        refine h.mono (fun v w190 hh => ?_)
        obtain ⟨r189, rfl, h⟩ := hh
        show Gw zs 8 m_Law_law 1452 [some (.inr (.inr 0)), some (.inr (.inl (some 0))), some (.inr (.inl (some 155))), some (.inl x3)] [.inl r189] w190 _
        refine gw_aload_n k_Law_law f_Law_law_1452 rfl ?_
        refine gw_aload_n k_Law_law f_Law_law_1453 rfl ?_
        refine gw_iload_n k_Law_law f_Law_law_1454 rfl ?_
        refine gw_iconst k_Law_law f_Law_law_1455 qc_1 ?_
        refine gw_iadd k_Law_law f_Law_law_1456 ?_
        have hp := h.1
        have h := h.2
        refine gw_rald (zl := zs) k_Law_law f_Law_law_1457 rfl hp ?_
        refine gw_aload_n k_Law_law f_Law_law_1458 rfl ?_
        refine gw_iload_n k_Law_law f_Law_law_1459 rfl ?_
        refine gw_iconst k_Law_law f_Law_law_1460 qc_2 ?_
        refine gw_iadd k_Law_law f_Law_law_1461 ?_
        have hp := h.1
        have h := h.2
        refine gw_rald (zl := zs) k_Law_law f_Law_law_1462 rfl hp ?_
        refine gw_aload_n k_Law_law f_Law_law_1463 rfl ?_
        refine gw_iload_n k_Law_law f_Law_law_1464 rfl ?_
        refine gw_iconst k_Law_law f_Law_law_1465 qc_3 ?_
        refine gw_iadd k_Law_law f_Law_law_1466 ?_
        have hp := h.1
        have h := h.2
        refine gw_rald (zl := zs) k_Law_law f_Law_law_1467 rfl hp ?_
        refine gw_virtual [.inl (zs.getD (x3 + 1).toNatClampNeg 0), .inl (zs.getD (x3 + 2).toNatClampNeg 0), .inl (zs.getD (x3 + 3).toNatClampNeg 0)] k_Law_law f_Law_law_1468 l_invT_12_140 k_Md_turn hc155 rfl rfl rfl (by exact Nat.le_of_ble_eq_true rfl) (dc := 1) (by decide) ?_ rfl
        refine h.mono (fun v w192 hh => ?_)
        obtain ⟨r191, rfl, h⟩ := hh
        show Gw zs 8 m_Law_law 1471 [some (.inr (.inr 0)), some (.inr (.inl (some 0))), some (.inr (.inl (some 155))), some (.inl x3)] [.inl r191, .inl r189] w192 _
        refine gw_icmp_eq (t := 1509) k_Law_law f_Law_law_1471 rfl (fun c193 => ?_) (fun c193 => ?_)
        · have h := h.1 c193
          refine gw_iinc [some (.inr (.inr 0)), some (.inr (.inl (some 0))), some (.inr (.inl (some 155))), some (.inl (x3 + 7))] k_Law_law f_Law_law_1509 rfl qc_7 (Nat.le_of_ble_eq_true rfl) rfl ?_
          refine gw_goto (t := 18) k_Law_law f_Law_law_1512 rfl ?_
          exact h
        · have h := h.2 c193
          refine gw_iconst k_Law_law f_Law_law_1474 qc_0 ?_
          exact gw_zret k_Law_law f_Law_law_1475 rfl (Or.inl rfl) h
      | 30, hq, hx =>
        have c194 : ((zs.getD x3.toNatClampNeg 0) &&& 31) = 30 := hx.trans (by decide)
        have h := h.2.2.2.2.2.2.2.2.2.2.2.2.2.2.2.2.2.2.2.2.2.2.2.2.2.2.2.2.2.2.1 c194
        refine ⟨_, 1476, rfl, rfl, ?_⟩
        refine gw_aload_n k_Law_law f_Law_law_1476 rfl ?_
        refine gw_aload_n k_Law_law f_Law_law_1477 rfl ?_
        refine gw_iload_n k_Law_law f_Law_law_1478 rfl ?_
        refine gw_iconst k_Law_law f_Law_law_1479 qc_1 ?_
        refine gw_iadd k_Law_law f_Law_law_1480 ?_
        have hp := h.1
        have h := h.2
        refine gw_rald (zl := zs) k_Law_law f_Law_law_1481 rfl hp ?_
        refine gw_aload_n k_Law_law f_Law_law_1482 rfl ?_
        refine gw_iload_n k_Law_law f_Law_law_1483 rfl ?_
        refine gw_iconst k_Law_law f_Law_law_1484 qc_2 ?_
        refine gw_iadd k_Law_law f_Law_law_1485 ?_
        have hp := h.1
        have h := h.2
        refine gw_rald (zl := zs) k_Law_law f_Law_law_1486 rfl hp ?_
        refine gw_virtual [.inl (zs.getD (x3 + 1).toNatClampNeg 0), .inl (zs.getD (x3 + 2).toNatClampNeg 0)] k_Law_law f_Law_law_1487 l_invT_12_141 k_Bk_had hc0 rfl rfl rfl (by exact Nat.le_of_ble_eq_true rfl) (dc := 2) (by decide) ?_ rfl
        refine h.mono (fun v w196 hh => ?_)
        obtain ⟨r195, rfl, h⟩ := hh
        show Gw zs 8 m_Law_law 1490 [some (.inr (.inr 0)), some (.inr (.inl (some 0))), some (.inr (.inl (some 155))), some (.inl x3)] [.inl r195] w196 _
        refine gw_aload_n k_Law_law f_Law_law_1490 rfl ?_
        refine gw_aload_n k_Law_law f_Law_law_1491 rfl ?_
        refine gw_iload_n k_Law_law f_Law_law_1492 rfl ?_
        refine gw_iconst k_Law_law f_Law_law_1493 qc_1 ?_
        refine gw_iadd k_Law_law f_Law_law_1494 ?_
        have hp := h.1
        have h := h.2
        refine gw_rald (zl := zs) k_Law_law f_Law_law_1495 rfl hp ?_
        refine gw_aload_n k_Law_law f_Law_law_1496 rfl ?_
        refine gw_iload_n k_Law_law f_Law_law_1497 rfl ?_
        refine gw_iconst k_Law_law f_Law_law_1498 qc_2 ?_
        refine gw_iadd k_Law_law f_Law_law_1499 ?_
        have hp := h.1
        have h := h.2
        refine gw_rald (zl := zs) k_Law_law f_Law_law_1500 rfl hp ?_
        refine gw_virtual [.inl (zs.getD (x3 + 1).toNatClampNeg 0), .inl (zs.getD (x3 + 2).toNatClampNeg 0)] k_Law_law f_Law_law_1501 l_invT_12_144 k_Md_had hc155 rfl rfl rfl (by exact Nat.le_of_ble_eq_true rfl) (dc := 1) (by decide) ?_ rfl
        refine h.mono (fun v w198 hh => ?_)
        obtain ⟨r197, rfl, h⟩ := hh
        show Gw zs 8 m_Law_law 1504 [some (.inr (.inr 0)), some (.inr (.inl (some 0))), some (.inr (.inl (some 155))), some (.inl x3)] [.inl r197, .inl r195] w198 _
        refine gw_icmp_eq (t := 1509) k_Law_law f_Law_law_1504 rfl (fun c199 => ?_) (fun c199 => ?_)
        · have h := h.1 c199
          refine gw_iinc [some (.inr (.inr 0)), some (.inr (.inl (some 0))), some (.inr (.inl (some 155))), some (.inl (x3 + 7))] k_Law_law f_Law_law_1509 rfl qc_7 (Nat.le_of_ble_eq_true rfl) rfl ?_
          refine gw_goto (t := 18) k_Law_law f_Law_law_1512 rfl ?_
          exact h
        · have h := h.2 c199
          refine gw_iconst k_Law_law f_Law_law_1507 qc_0 ?_
          exact gw_zret k_Law_law f_Law_law_1508 rfl (Or.inl rfl) h
      | q + 31, hq, hx => exact absurd hq (by show ¬ (q + 31 < 31); omega)
    ·
      have c200 : ¬ ((zs.getD x3.toNatClampNeg 0) &&& 31) = 0 := fun c => hx 0 (by decide) (c.trans (by decide))
      have c201 : ¬ ((zs.getD x3.toNatClampNeg 0) &&& 31) = 1 := fun c => hx 1 (by decide) (c.trans (by decide))
      have c202 : ¬ ((zs.getD x3.toNatClampNeg 0) &&& 31) = 2 := fun c => hx 2 (by decide) (c.trans (by decide))
      have c203 : ¬ ((zs.getD x3.toNatClampNeg 0) &&& 31) = 3 := fun c => hx 3 (by decide) (c.trans (by decide))
      have c204 : ¬ ((zs.getD x3.toNatClampNeg 0) &&& 31) = 4 := fun c => hx 4 (by decide) (c.trans (by decide))
      have c205 : ¬ ((zs.getD x3.toNatClampNeg 0) &&& 31) = 5 := fun c => hx 5 (by decide) (c.trans (by decide))
      have c206 : ¬ ((zs.getD x3.toNatClampNeg 0) &&& 31) = 6 := fun c => hx 6 (by decide) (c.trans (by decide))
      have c207 : ¬ ((zs.getD x3.toNatClampNeg 0) &&& 31) = 7 := fun c => hx 7 (by decide) (c.trans (by decide))
      have c208 : ¬ ((zs.getD x3.toNatClampNeg 0) &&& 31) = 8 := fun c => hx 8 (by decide) (c.trans (by decide))
      have c209 : ¬ ((zs.getD x3.toNatClampNeg 0) &&& 31) = 9 := fun c => hx 9 (by decide) (c.trans (by decide))
      have c210 : ¬ ((zs.getD x3.toNatClampNeg 0) &&& 31) = 10 := fun c => hx 10 (by decide) (c.trans (by decide))
      have c211 : ¬ ((zs.getD x3.toNatClampNeg 0) &&& 31) = 11 := fun c => hx 11 (by decide) (c.trans (by decide))
      have c212 : ¬ ((zs.getD x3.toNatClampNeg 0) &&& 31) = 12 := fun c => hx 12 (by decide) (c.trans (by decide))
      have c213 : ¬ ((zs.getD x3.toNatClampNeg 0) &&& 31) = 13 := fun c => hx 13 (by decide) (c.trans (by decide))
      have c214 : ¬ ((zs.getD x3.toNatClampNeg 0) &&& 31) = 14 := fun c => hx 14 (by decide) (c.trans (by decide))
      have c215 : ¬ ((zs.getD x3.toNatClampNeg 0) &&& 31) = 15 := fun c => hx 15 (by decide) (c.trans (by decide))
      have c216 : ¬ ((zs.getD x3.toNatClampNeg 0) &&& 31) = 16 := fun c => hx 16 (by decide) (c.trans (by decide))
      have c217 : ¬ ((zs.getD x3.toNatClampNeg 0) &&& 31) = 17 := fun c => hx 17 (by decide) (c.trans (by decide))
      have c218 : ¬ ((zs.getD x3.toNatClampNeg 0) &&& 31) = 18 := fun c => hx 18 (by decide) (c.trans (by decide))
      have c219 : ¬ ((zs.getD x3.toNatClampNeg 0) &&& 31) = 19 := fun c => hx 19 (by decide) (c.trans (by decide))
      have c220 : ¬ ((zs.getD x3.toNatClampNeg 0) &&& 31) = 20 := fun c => hx 20 (by decide) (c.trans (by decide))
      have c221 : ¬ ((zs.getD x3.toNatClampNeg 0) &&& 31) = 21 := fun c => hx 21 (by decide) (c.trans (by decide))
      have c222 : ¬ ((zs.getD x3.toNatClampNeg 0) &&& 31) = 22 := fun c => hx 22 (by decide) (c.trans (by decide))
      have c223 : ¬ ((zs.getD x3.toNatClampNeg 0) &&& 31) = 23 := fun c => hx 23 (by decide) (c.trans (by decide))
      have c224 : ¬ ((zs.getD x3.toNatClampNeg 0) &&& 31) = 24 := fun c => hx 24 (by decide) (c.trans (by decide))
      have c225 : ¬ ((zs.getD x3.toNatClampNeg 0) &&& 31) = 25 := fun c => hx 25 (by decide) (c.trans (by decide))
      have c226 : ¬ ((zs.getD x3.toNatClampNeg 0) &&& 31) = 26 := fun c => hx 26 (by decide) (c.trans (by decide))
      have c227 : ¬ ((zs.getD x3.toNatClampNeg 0) &&& 31) = 27 := fun c => hx 27 (by decide) (c.trans (by decide))
      have c228 : ¬ ((zs.getD x3.toNatClampNeg 0) &&& 31) = 28 := fun c => hx 28 (by decide) (c.trans (by decide))
      have c229 : ¬ ((zs.getD x3.toNatClampNeg 0) &&& 31) = 29 := fun c => hx 29 (by decide) (c.trans (by decide))
      have c230 : ¬ ((zs.getD x3.toNatClampNeg 0) &&& 31) = 30 := fun c => hx 30 (by decide) (c.trans (by decide))
      have h := h.2.2.2.2.2.2.2.2.2.2.2.2.2.2.2.2.2.2.2.2.2.2.2.2.2.2.2.2.2.2.2 c200 c201 c202 c203 c204 c205 c206 c207 c208 c209 c210 c211 c212 c213 c214 c215 c216 c217 c218 c219 c220 c221 c222 c223 c224 c225 c226 c227 c228 c229 c230
      refine ⟨1509, rfl, ?_⟩
      refine gw_iinc [some (.inr (.inr 0)), some (.inr (.inl (some 0))), some (.inr (.inl (some 155))), some (.inl (x3 + 7))] k_Law_law f_Law_law_1509 rfl qc_7 (Nat.le_of_ble_eq_true rfl) rfl ?_
      refine gw_goto (t := 18) k_Law_law f_Law_law_1512 rfl ?_
      exact h
