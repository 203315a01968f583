section
-- ===== PART A: goes FIRST, ahead of the names: the tables' words, and 'selects' of the private methods out of them =====
/-- a private method of a class that the tables say can be made, by its rows of tables_1 -/
def lw_okq (q : MethodName × Nat) : Prop := (q.1.cls ≠ "java/lang/invoke/MethodHandle" ∧ q.1.cls ≠ "java/lang/invoke/VarHandle") ∧ Cond.instantiable q.1.cls q.2 ∈ tables_1 ∧ Cond.privateMethod q.1 ∈ tables_1 ∧ Cond.instanceMethod q.1 ∈ tables_1
theorem lw_p0 : lw_okq (⟨"ChoirBook$Seasons", "add", "(IIIIIZ)I"⟩, 7) := ⟨⟨by decide +kernel, by decide +kernel⟩, List.mem_of_getElem? (i := 23) (by decide +kernel), List.mem_of_getElem? (i := 349) (by decide +kernel), List.mem_of_getElem? (i := 350) (by decide +kernel)⟩
theorem lw_p1 : lw_okq (⟨"ChoirBook", "forgetIfTold", "(I)I"⟩, 8) := ⟨⟨by decide +kernel, by decide +kernel⟩, List.mem_of_getElem? (i := 15) (by decide +kernel), List.mem_of_getElem? (i := 356) (by decide +kernel), List.mem_of_getElem? (i := 357) (by decide +kernel)⟩
theorem lw_p2 : lw_okq (⟨"ChoirBook$Almanac", "build", "(I)V"⟩, 10) := ⟨⟨by decide +kernel, by decide +kernel⟩, List.mem_of_getElem? (i := 84) (by decide +kernel), List.mem_of_getElem? (i := 426) (by decide +kernel), List.mem_of_getElem? (i := 427) (by decide +kernel)⟩
theorem lw_p3 : lw_okq (⟨"ChoirBook$Almanac", "layOutSeasons", "(I)V"⟩, 10) := ⟨⟨by decide +kernel, by decide +kernel⟩, List.mem_of_getElem? (i := 84) (by decide +kernel), List.mem_of_getElem? (i := 431) (by decide +kernel), List.mem_of_getElem? (i := 432) (by decide +kernel)⟩
theorem lw_p4 : lw_okq (⟨"ChoirBook$Seasons", "isByDates", "(I)Z"⟩, 7) := ⟨⟨by decide +kernel, by decide +kernel⟩, List.mem_of_getElem? (i := 23) (by decide +kernel), List.mem_of_getElem? (i := 443) (by decide +kernel), List.mem_of_getElem? (i := 444) (by decide +kernel)⟩
theorem lw_p5 : lw_okq (⟨"ChoirBook$Almanac", "considerAll", "(Z)V"⟩, 10) := ⟨⟨by decide +kernel, by decide +kernel⟩, List.mem_of_getElem? (i := 84) (by decide +kernel), List.mem_of_getElem? (i := 480) (by decide +kernel), List.mem_of_getElem? (i := 481) (by decide +kernel)⟩
theorem lw_p6 : lw_okq (⟨"ChoirBook$Almanac", "consider", "(IIIZ)V"⟩, 10) := ⟨⟨by decide +kernel, by decide +kernel⟩, List.mem_of_getElem? (i := 84) (by decide +kernel), List.mem_of_getElem? (i := 499) (by decide +kernel), List.mem_of_getElem? (i := 500) (by decide +kernel)⟩
theorem lw_p7 : lw_okq (⟨"ChoirBook$Almanac", "commemorate", "(II)V"⟩, 10) := ⟨⟨by decide +kernel, by decide +kernel⟩, List.mem_of_getElem? (i := 84) (by decide +kernel), List.mem_of_getElem? (i := 503) (by decide +kernel), List.mem_of_getElem? (i := 504) (by decide +kernel)⟩
theorem lw_p8 : lw_okq (⟨"ChoirBook$Almanac", "considerFeast", "(IIZ)V"⟩, 10) := ⟨⟨by decide +kernel, by decide +kernel⟩, List.mem_of_getElem? (i := 84) (by decide +kernel), List.mem_of_getElem? (i := 507) (by decide +kernel), List.mem_of_getElem? (i := 508) (by decide +kernel)⟩
theorem lw_p9 : lw_okq (⟨"ChoirBook$Almanac", "feastCandidate", "(I)I"⟩, 10) := ⟨⟨by decide +kernel, by decide +kernel⟩, List.mem_of_getElem? (i := 84) (by decide +kernel), List.mem_of_getElem? (i := 511) (by decide +kernel), List.mem_of_getElem? (i := 512) (by decide +kernel)⟩
theorem lw_p10 : lw_okq (⟨"ChoirBook$Almanac", "moveFeasts", "()V"⟩, 10) := ⟨⟨by decide +kernel, by decide +kernel⟩, List.mem_of_getElem? (i := 84) (by decide +kernel), List.mem_of_getElem? (i := 531) (by decide +kernel), List.mem_of_getElem? (i := 532) (by decide +kernel)⟩
theorem lw_p11 : lw_okq (⟨"ChoirBook$Almanac", "nextToMove", "()I"⟩, 10) := ⟨⟨by decide +kernel, by decide +kernel⟩, List.mem_of_getElem? (i := 84) (by decide +kernel), List.mem_of_getElem? (i := 535) (by decide +kernel), List.mem_of_getElem? (i := 536) (by decide +kernel)⟩
theorem lw_p12 : lw_okq (⟨"ChoirBook$Almanac", "isToMove", "(I)Z"⟩, 10) := ⟨⟨by decide +kernel, by decide +kernel⟩, List.mem_of_getElem? (i := 84) (by decide +kernel), List.mem_of_getElem? (i := 539) (by decide +kernel), List.mem_of_getElem? (i := 540) (by decide +kernel)⟩
theorem lw_p13 : lw_okq (⟨"ChoirBook$Almanac", "isMovedBefore", "(II)Z"⟩, 10) := ⟨⟨by decide +kernel, by decide +kernel⟩, List.mem_of_getElem? (i := 84) (by decide +kernel), List.mem_of_getElem? (i := 543) (by decide +kernel), List.mem_of_getElem? (i := 544) (by decide +kernel)⟩
theorem lw_p14 : lw_okq (⟨"ChoirBook$Almanac", "placeFor", "(I)I"⟩, 10) := ⟨⟨by decide +kernel, by decide +kernel⟩, List.mem_of_getElem? (i := 84) (by decide +kernel), List.mem_of_getElem? (i := 547) (by decide +kernel), List.mem_of_getElem? (i := 548) (by decide +kernel)⟩
theorem lw_p15 : lw_okq (⟨"ChoirBook$Almanac", "givesWay", "(II)Z"⟩, 10) := ⟨⟨by decide +kernel, by decide +kernel⟩, List.mem_of_getElem? (i := 84) (by decide +kernel), List.mem_of_getElem? (i := 551) (by decide +kernel), List.mem_of_getElem? (i := 552) (by decide +kernel)⟩
def lw_privs_1 : List (MethodName × Nat) := [(⟨"ChoirBook$Seasons", "add", "(IIIIIZ)I"⟩, 7), (⟨"ChoirBook", "forgetIfTold", "(I)I"⟩, 8), (⟨"ChoirBook$Almanac", "build", "(I)V"⟩, 10), (⟨"ChoirBook$Almanac", "layOutSeasons", "(I)V"⟩, 10), (⟨"ChoirBook$Seasons", "isByDates", "(I)Z"⟩, 7), (⟨"ChoirBook$Almanac", "considerAll", "(Z)V"⟩, 10), (⟨"ChoirBook$Almanac", "consider", "(IIIZ)V"⟩, 10), (⟨"ChoirBook$Almanac", "commemorate", "(II)V"⟩, 10), (⟨"ChoirBook$Almanac", "considerFeast", "(IIZ)V"⟩, 10), (⟨"ChoirBook$Almanac", "feastCandidate", "(I)I"⟩, 10), (⟨"ChoirBook$Almanac", "moveFeasts", "()V"⟩, 10), (⟨"ChoirBook$Almanac", "nextToMove", "()I"⟩, 10), (⟨"ChoirBook$Almanac", "isToMove", "(I)Z"⟩, 10), (⟨"ChoirBook$Almanac", "isMovedBefore", "(II)Z"⟩, 10), (⟨"ChoirBook$Almanac", "placeFor", "(I)I"⟩, 10), (⟨"ChoirBook$Almanac", "givesWay", "(II)Z"⟩, 10)]
theorem lw_r1 : ∀ q ∈ lw_privs_1, lw_okq q := List.forall_mem_cons.mpr ⟨lw_p0, List.forall_mem_cons.mpr ⟨lw_p1, List.forall_mem_cons.mpr ⟨lw_p2, List.forall_mem_cons.mpr ⟨lw_p3, List.forall_mem_cons.mpr ⟨lw_p4, List.forall_mem_cons.mpr ⟨lw_p5, List.forall_mem_cons.mpr ⟨lw_p6, List.forall_mem_cons.mpr ⟨lw_p7, List.forall_mem_cons.mpr ⟨lw_p8, List.forall_mem_cons.mpr ⟨lw_p9, List.forall_mem_cons.mpr ⟨lw_p10, List.forall_mem_cons.mpr ⟨lw_p11, List.forall_mem_cons.mpr ⟨lw_p12, List.forall_mem_cons.mpr ⟨lw_p13, List.forall_mem_cons.mpr ⟨lw_p14, List.forall_mem_cons.mpr ⟨lw_p15, fun _ h => absurd h List.not_mem_nil⟩⟩⟩⟩⟩⟩⟩⟩⟩⟩⟩⟩⟩⟩⟩⟩
theorem lw_p16 : lw_okq (⟨"ChoirBook$Almanac", "settleFates", "()V"⟩, 10) := ⟨⟨by decide +kernel, by decide +kernel⟩, List.mem_of_getElem? (i := 84) (by decide +kernel), List.mem_of_getElem? (i := 564) (by decide +kernel), List.mem_of_getElem? (i := 565) (by decide +kernel)⟩
theorem lw_p17 : lw_okq (⟨"ChoirBook$Almanac", "fateOnOwnDay", "(I)I"⟩, 10) := ⟨⟨by decide +kernel, by decide +kernel⟩, List.mem_of_getElem? (i := 84) (by decide +kernel), List.mem_of_getElem? (i := 568) (by decide +kernel), List.mem_of_getElem? (i := 569) (by decide +kernel)⟩
theorem lw_p18 : lw_okq (⟨"ChoirBook$Almanac", "colourIn", "(II)I"⟩, 10) := ⟨⟨by decide +kernel, by decide +kernel⟩, List.mem_of_getElem? (i := 84) (by decide +kernel), List.mem_of_getElem? (i := 576) (by decide +kernel), List.mem_of_getElem? (i := 577) (by decide +kernel)⟩
theorem lw_p19 : lw_okq (⟨"ChoirBook$Almanac", "commemoratedOn", "(I)I"⟩, 10) := ⟨⟨by decide +kernel, by decide +kernel⟩, List.mem_of_getElem? (i := 84) (by decide +kernel), List.mem_of_getElem? (i := 588) (by decide +kernel), List.mem_of_getElem? (i := 589) (by decide +kernel)⟩
theorem lw_p20 : lw_okq (⟨"ChoirBook$Psalter", "isUsedFrom", "(I)Z"⟩, 12) := ⟨⟨by decide +kernel, by decide +kernel⟩, List.mem_of_getElem? (i := 121) (by decide +kernel), List.mem_of_getElem? (i := 656) (by decide +kernel), List.mem_of_getElem? (i := 657) (by decide +kernel)⟩
theorem lw_p21 : lw_okq (⟨"ChoirBook$Psalter", "deal", "()V"⟩, 12) := ⟨⟨by decide +kernel, by decide +kernel⟩, List.mem_of_getElem? (i := 121) (by decide +kernel), List.mem_of_getElem? (i := 696) (by decide +kernel), List.mem_of_getElem? (i := 697) (by decide +kernel)⟩
theorem lw_p22 : lw_okq (⟨"ChoirBook$Psalter", "lineUp", "()V"⟩, 12) := ⟨⟨by decide +kernel, by decide +kernel⟩, List.mem_of_getElem? (i := 121) (by decide +kernel), List.mem_of_getElem? (i := 700) (by decide +kernel), List.mem_of_getElem? (i := 701) (by decide +kernel)⟩
theorem lw_p23 : lw_okq (⟨"ChoirBook$Psalter", "findLimit", "()V"⟩, 12) := ⟨⟨by decide +kernel, by decide +kernel⟩, List.mem_of_getElem? (i := 121) (by decide +kernel), List.mem_of_getElem? (i := 704) (by decide +kernel), List.mem_of_getElem? (i := 705) (by decide +kernel)⟩
theorem lw_p24 : lw_okq (⟨"ChoirBook$Psalter", "isEnough", "(I)Z"⟩, 12) := ⟨⟨by decide +kernel, by decide +kernel⟩, List.mem_of_getElem? (i := 121) (by decide +kernel), List.mem_of_getElem? (i := 709) (by decide +kernel), List.mem_of_getElem? (i := 710) (by decide +kernel)⟩
theorem lw_p25 : lw_okq (⟨"ChoirBook$Psalter", "endOfHour", "(II)I"⟩, 12) := ⟨⟨by decide +kernel, by decide +kernel⟩, List.mem_of_getElem? (i := 121) (by decide +kernel), List.mem_of_getElem? (i := 713) (by decide +kernel), List.mem_of_getElem? (i := 714) (by decide +kernel)⟩
theorem lw_p26 : lw_okq (⟨"ChoirBook$Psalter", "markSlot", "(III)V"⟩, 12) := ⟨⟨by decide +kernel, by decide +kernel⟩, List.mem_of_getElem? (i := 121) (by decide +kernel), List.mem_of_getElem? (i := 717) (by decide +kernel), List.mem_of_getElem? (i := 718) (by decide +kernel)⟩
theorem lw_p27 : lw_okq (⟨"ChoirBook$Psalter", "dealtPsalm", "(III)I"⟩, 12) := ⟨⟨by decide +kernel, by decide +kernel⟩, List.mem_of_getElem? (i := 121) (by decide +kernel), List.mem_of_getElem? (i := 727) (by decide +kernel), List.mem_of_getElem? (i := 728) (by decide +kernel)⟩
theorem lw_p28 : lw_okq (⟨"ChoirBook$Psalter", "countDealt", "(II)I"⟩, 12) := ⟨⟨by decide +kernel, by decide +kernel⟩, List.mem_of_getElem? (i := 121) (by decide +kernel), List.mem_of_getElem? (i := 731) (by decide +kernel), List.mem_of_getElem? (i := 732) (by decide +kernel)⟩
theorem lw_p29 : lw_okq (⟨"ChoirBook$Psalter", "isFestive", "(II)Z"⟩, 12) := ⟨⟨by decide +kernel, by decide +kernel⟩, List.mem_of_getElem? (i := 121) (by decide +kernel), List.mem_of_getElem? (i := 756) (by decide +kernel), List.mem_of_getElem? (i := 757) (by decide +kernel)⟩
theorem lw_p30 : lw_okq (⟨"ChoirBook$Psalter", "fixedPsalm", "(II)I"⟩, 12) := ⟨⟨by decide +kernel, by decide +kernel⟩, List.mem_of_getElem? (i := 121) (by decide +kernel), List.mem_of_getElem? (i := 760) (by decide +kernel), List.mem_of_getElem? (i := 761) (by decide +kernel)⟩
theorem lw_p31 : lw_okq (⟨"ChoirBook$Psalter", "countFestal", "(II)I"⟩, 12) := ⟨⟨by decide +kernel, by decide +kernel⟩, List.mem_of_getElem? (i := 121) (by decide +kernel), List.mem_of_getElem? (i := 773) (by decide +kernel), List.mem_of_getElem? (i := 774) (by decide +kernel)⟩
def lw_privs_2 : List (MethodName × Nat) := [(⟨"ChoirBook$Almanac", "settleFates", "()V"⟩, 10), (⟨"ChoirBook$Almanac", "fateOnOwnDay", "(I)I"⟩, 10), (⟨"ChoirBook$Almanac", "colourIn", "(II)I"⟩, 10), (⟨"ChoirBook$Almanac", "commemoratedOn", "(I)I"⟩, 10), (⟨"ChoirBook$Psalter", "isUsedFrom", "(I)Z"⟩, 12), (⟨"ChoirBook$Psalter", "deal", "()V"⟩, 12), (⟨"ChoirBook$Psalter", "lineUp", "()V"⟩, 12), (⟨"ChoirBook$Psalter", "findLimit", "()V"⟩, 12), (⟨"ChoirBook$Psalter", "isEnough", "(I)Z"⟩, 12), (⟨"ChoirBook$Psalter", "endOfHour", "(II)I"⟩, 12), (⟨"ChoirBook$Psalter", "markSlot", "(III)V"⟩, 12), (⟨"ChoirBook$Psalter", "dealtPsalm", "(III)I"⟩, 12), (⟨"ChoirBook$Psalter", "countDealt", "(II)I"⟩, 12), (⟨"ChoirBook$Psalter", "isFestive", "(II)Z"⟩, 12), (⟨"ChoirBook$Psalter", "fixedPsalm", "(II)I"⟩, 12), (⟨"ChoirBook$Psalter", "countFestal", "(II)I"⟩, 12)]
theorem lw_r2 : ∀ q ∈ lw_privs_2, lw_okq q := List.forall_mem_cons.mpr ⟨lw_p16, List.forall_mem_cons.mpr ⟨lw_p17, List.forall_mem_cons.mpr ⟨lw_p18, List.forall_mem_cons.mpr ⟨lw_p19, List.forall_mem_cons.mpr ⟨lw_p20, List.forall_mem_cons.mpr ⟨lw_p21, List.forall_mem_cons.mpr ⟨lw_p22, List.forall_mem_cons.mpr ⟨lw_p23, List.forall_mem_cons.mpr ⟨lw_p24, List.forall_mem_cons.mpr ⟨lw_p25, List.forall_mem_cons.mpr ⟨lw_p26, List.forall_mem_cons.mpr ⟨lw_p27, List.forall_mem_cons.mpr ⟨lw_p28, List.forall_mem_cons.mpr ⟨lw_p29, List.forall_mem_cons.mpr ⟨lw_p30, List.forall_mem_cons.mpr ⟨lw_p31, fun _ h => absurd h List.not_mem_nil⟩⟩⟩⟩⟩⟩⟩⟩⟩⟩⟩⟩⟩⟩⟩⟩
theorem lw_p32 : lw_okq (⟨"ChoirBook", "toneOf", "(I)LChoirBook$Tone;"⟩, 8) := ⟨⟨by decide +kernel, by decide +kernel⟩, List.mem_of_getElem? (i := 15) (by decide +kernel), List.mem_of_getElem? (i := 781) (by decide +kernel), List.mem_of_getElem? (i := 782) (by decide +kernel)⟩
theorem lw_p33 : lw_okq (⟨"ChoirBook$Tone", "addIntonation", "(I)I"⟩, 5) := ⟨⟨by decide +kernel, by decide +kernel⟩, List.mem_of_getElem? (i := 165) (by decide +kernel), List.mem_of_getElem? (i := 801) (by decide +kernel), List.mem_of_getElem? (i := 802) (by decide +kernel)⟩
theorem lw_p34 : lw_okq (⟨"ChoirBook", "cadenceOf", "(II)LChoirBook$Cadence;"⟩, 8) := ⟨⟨by decide +kernel, by decide +kernel⟩, List.mem_of_getElem? (i := 15) (by decide +kernel), List.mem_of_getElem? (i := 815) (by decide +kernel), List.mem_of_getElem? (i := 816) (by decide +kernel)⟩
theorem lw_p35 : lw_okq (⟨"ChoirBook", "verseOf", "(I)LChoirBook$Verse;"⟩, 8) := ⟨⟨by decide +kernel, by decide +kernel⟩, List.mem_of_getElem? (i := 15) (by decide +kernel), List.mem_of_getElem? (i := 841) (by decide +kernel), List.mem_of_getElem? (i := 842) (by decide +kernel)⟩
theorem lw_p36 : lw_okq (⟨"ChoirBook$Verse", "isStressedFrom", "(II)Z"⟩, 3) := ⟨⟨by decide +kernel, by decide +kernel⟩, List.mem_of_getElem? (i := 207) (by decide +kernel), List.mem_of_getElem? (i := 886) (by decide +kernel), List.mem_of_getElem? (i := 887) (by decide +kernel)⟩
theorem lw_p37 : lw_okq (⟨"ChoirBook$Roster", "fillDay", "(LChoirBook$Choir;II)I"⟩, 5) := ⟨⟨by decide +kernel, by decide +kernel⟩, List.mem_of_getElem? (i := 251) (by decide +kernel), List.mem_of_getElem? (i := 953) (by decide +kernel), List.mem_of_getElem? (i := 954) (by decide +kernel)⟩
theorem lw_p38 : lw_okq (⟨"ChoirBook$Roster", "nextMonk", "(LChoirBook$Choir;II)I"⟩, 5) := ⟨⟨by decide +kernel, by decide +kernel⟩, List.mem_of_getElem? (i := 251) (by decide +kernel), List.mem_of_getElem? (i := 961) (by decide +kernel), List.mem_of_getElem? (i := 962) (by decide +kernel)⟩
theorem lw_p39 : lw_okq (⟨"ChoirBook$Roster", "isAhead", "(III)Z"⟩, 5) := ⟨⟨by decide +kernel, by decide +kernel⟩, List.mem_of_getElem? (i := 251) (by decide +kernel), List.mem_of_getElem? (i := 973) (by decide +kernel), List.mem_of_getElem? (i := 974) (by decide +kernel)⟩
theorem lw_p40 : lw_okq (⟨"ChoirBook$Roster", "enter", "(III)V"⟩, 5) := ⟨⟨by decide +kernel, by decide +kernel⟩, List.mem_of_getElem? (i := 251) (by decide +kernel), List.mem_of_getElem? (i := 980) (by decide +kernel), List.mem_of_getElem? (i := 981) (by decide +kernel)⟩
theorem lw_p41 : lw_okq (⟨"ChoirBookModel", "adds0", "(ZIIIII)I"⟩, 64) := ⟨⟨by decide +kernel, by decide +kernel⟩, List.mem_of_getElem? (i := 1040) (by decide +kernel), List.mem_of_getElem? (i := 1038) (by decide +kernel), List.mem_of_getElem? (i := 1039) (by decide +kernel)⟩
theorem lw_p42 : lw_okq (⟨"ChoirBookModel", "reckon", "(I)V"⟩, 64) := ⟨⟨by decide +kernel, by decide +kernel⟩, List.mem_of_getElem? (i := 1040) (by decide +kernel), List.mem_of_getElem? (i := 1072) (by decide +kernel), List.mem_of_getElem? (i := 1073) (by decide +kernel)⟩
theorem lw_p43 : lw_okq (⟨"ChoirBookModel", "gather", "(II)V"⟩, 64) := ⟨⟨by decide +kernel, by decide +kernel⟩, List.mem_of_getElem? (i := 1040) (by decide +kernel), List.mem_of_getElem? (i := 1082) (by decide +kernel), List.mem_of_getElem? (i := 1083) (by decide +kernel)⟩
theorem lw_p44 : lw_okq (⟨"ChoirBookModel", "isIn", "(IIII)Z"⟩, 64) := ⟨⟨by decide +kernel, by decide +kernel⟩, List.mem_of_getElem? (i := 1040) (by decide +kernel), List.mem_of_getElem? (i := 1086) (by decide +kernel), List.mem_of_getElem? (i := 1087) (by decide +kernel)⟩
theorem lw_p45 : lw_okq (⟨"ChoirBookModel", "meets", "(IIIII)V"⟩, 64) := ⟨⟨by decide +kernel, by decide +kernel⟩, List.mem_of_getElem? (i := 1040) (by decide +kernel), List.mem_of_getElem? (i := 1090) (by decide +kernel), List.mem_of_getElem? (i := 1091) (by decide +kernel)⟩
theorem lw_p46 : lw_okq (⟨"ChoirBookModel", "isAhead", "(II)Z"⟩, 64) := ⟨⟨by decide +kernel, by decide +kernel⟩, List.mem_of_getElem? (i := 1040) (by decide +kernel), List.mem_of_getElem? (i := 1094) (by decide +kernel), List.mem_of_getElem? (i := 1095) (by decide +kernel)⟩
theorem lw_p47 : lw_okq (⟨"ChoirBookModel", "sets", "(IIIII)V"⟩, 64) := ⟨⟨by decide +kernel, by decide +kernel⟩, List.mem_of_getElem? (i := 1040) (by decide +kernel), List.mem_of_getElem? (i := 1101) (by decide +kernel), List.mem_of_getElem? (i := 1102) (by decide +kernel)⟩
def lw_privs_3 : List (MethodName × Nat) := [(⟨"ChoirBook", "toneOf", "(I)LChoirBook$Tone;"⟩, 8), (⟨"ChoirBook$Tone", "addIntonation", "(I)I"⟩, 5), (⟨"ChoirBook", "cadenceOf", "(II)LChoirBook$Cadence;"⟩, 8), (⟨"ChoirBook", "verseOf", "(I)LChoirBook$Verse;"⟩, 8), (⟨"ChoirBook$Verse", "isStressedFrom", "(II)Z"⟩, 3), (⟨"ChoirBook$Roster", "fillDay", "(LChoirBook$Choir;II)I"⟩, 5), (⟨"ChoirBook$Roster", "nextMonk", "(LChoirBook$Choir;II)I"⟩, 5), (⟨"ChoirBook$Roster", "isAhead", "(III)Z"⟩, 5), (⟨"ChoirBook$Roster", "enter", "(III)V"⟩, 5), (⟨"ChoirBookModel", "adds0", "(ZIIIII)I"⟩, 64), (⟨"ChoirBookModel", "reckon", "(I)V"⟩, 64), (⟨"ChoirBookModel", "gather", "(II)V"⟩, 64), (⟨"ChoirBookModel", "isIn", "(IIII)Z"⟩, 64), (⟨"ChoirBookModel", "meets", "(IIIII)V"⟩, 64), (⟨"ChoirBookModel", "isAhead", "(II)Z"⟩, 64), (⟨"ChoirBookModel", "sets", "(IIIII)V"⟩, 64)]
theorem lw_r3 : ∀ q ∈ lw_privs_3, lw_okq q := List.forall_mem_cons.mpr ⟨lw_p32, List.forall_mem_cons.mpr ⟨lw_p33, List.forall_mem_cons.mpr ⟨lw_p34, List.forall_mem_cons.mpr ⟨lw_p35, List.forall_mem_cons.mpr ⟨lw_p36, List.forall_mem_cons.mpr ⟨lw_p37, List.forall_mem_cons.mpr ⟨lw_p38, List.forall_mem_cons.mpr ⟨lw_p39, List.forall_mem_cons.mpr ⟨lw_p40, List.forall_mem_cons.mpr ⟨lw_p41, List.forall_mem_cons.mpr ⟨lw_p42, List.forall_mem_cons.mpr ⟨lw_p43, List.forall_mem_cons.mpr ⟨lw_p44, List.forall_mem_cons.mpr ⟨lw_p45, List.forall_mem_cons.mpr ⟨lw_p46, List.forall_mem_cons.mpr ⟨lw_p47, fun _ h => absurd h List.not_mem_nil⟩⟩⟩⟩⟩⟩⟩⟩⟩⟩⟩⟩⟩⟩⟩⟩
theorem lw_p48 : lw_okq (⟨"ChoirBookModel", "nextMoved", "()I"⟩, 64) := ⟨⟨by decide +kernel, by decide +kernel⟩, List.mem_of_getElem? (i := 1040) (by decide +kernel), List.mem_of_getElem? (i := 1105) (by decide +kernel), List.mem_of_getElem? (i := 1106) (by decide +kernel)⟩
theorem lw_p49 : lw_okq (⟨"ChoirBookModel", "isOffice", "(II)Z"⟩, 64) := ⟨⟨by decide +kernel, by decide +kernel⟩, List.mem_of_getElem? (i := 1040) (by decide +kernel), List.mem_of_getElem? (i := 1109) (by decide +kernel), List.mem_of_getElem? (i := 1110) (by decide +kernel)⟩
theorem lw_p50 : lw_okq (⟨"ChoirBookModel", "moves", "(II)V"⟩, 64) := ⟨⟨by decide +kernel, by decide +kernel⟩, List.mem_of_getElem? (i := 1040) (by decide +kernel), List.mem_of_getElem? (i := 1113) (by decide +kernel), List.mem_of_getElem? (i := 1114) (by decide +kernel)⟩
theorem lw_p51 : lw_okq (⟨"ChoirBookModel", "commemorates", "(II)V"⟩, 64) := ⟨⟨by decide +kernel, by decide +kernel⟩, List.mem_of_getElem? (i := 1040) (by decide +kernel), List.mem_of_getElem? (i := 1117) (by decide +kernel), List.mem_of_getElem? (i := 1118) (by decide +kernel)⟩
theorem lw_p52 : lw_okq (⟨"ChoirBookModel", "keptDay", "(II)I"⟩, 64) := ⟨⟨by decide +kernel, by decide +kernel⟩, List.mem_of_getElem? (i := 1040) (by decide +kernel), List.mem_of_getElem? (i := 1129) (by decide +kernel), List.mem_of_getElem? (i := 1130) (by decide +kernel)⟩
theorem lw_p53 : lw_okq (⟨"ChoirBookModel", "deal", "()V"⟩, 64) := ⟨⟨by decide +kernel, by decide +kernel⟩, List.mem_of_getElem? (i := 1040) (by decide +kernel), List.mem_of_getElem? (i := 1359) (by decide +kernel), List.mem_of_getElem? (i := 1360) (by decide +kernel)⟩
theorem lw_p54 : lw_okq (⟨"ChoirBookModel", "deals", "(I)Z"⟩, 64) := ⟨⟨by decide +kernel, by decide +kernel⟩, List.mem_of_getElem? (i := 1040) (by decide +kernel), List.mem_of_getElem? (i := 1363) (by decide +kernel), List.mem_of_getElem? (i := 1364) (by decide +kernel)⟩
theorem lw_p55 : lw_okq (⟨"ChoirBookModel", "sings", "(II)V"⟩, 64) := ⟨⟨by decide +kernel, by decide +kernel⟩, List.mem_of_getElem? (i := 1040) (by decide +kernel), List.mem_of_getElem? (i := 1371) (by decide +kernel), List.mem_of_getElem? (i := 1372) (by decide +kernel)⟩
theorem lw_p56 : lw_okq (⟨"ChoirBookModel", "adds", "(I)V"⟩, 64) := ⟨⟨by decide +kernel, by decide +kernel⟩, List.mem_of_getElem? (i := 1040) (by decide +kernel), List.mem_of_getElem? (i := 1375) (by decide +kernel), List.mem_of_getElem? (i := 1376) (by decide +kernel)⟩
theorem lw_p57 : lw_okq (⟨"ChoirBookModel", "isStressed", "(III)Z"⟩, 64) := ⟨⟨by decide +kernel, by decide +kernel⟩, List.mem_of_getElem? (i := 1040) (by decide +kernel), List.mem_of_getElem? (i := 1414) (by decide +kernel), List.mem_of_getElem? (i := 1415) (by decide +kernel)⟩
theorem lw_p58 : lw_okq (⟨"ChoirBookModel", "byAccent", "(IIIII)I"⟩, 64) := ⟨⟨by decide +kernel, by decide +kernel⟩, List.mem_of_getElem? (i := 1040) (by decide +kernel), List.mem_of_getElem? (i := 1421) (by decide +kernel), List.mem_of_getElem? (i := 1422) (by decide +kernel)⟩
theorem lw_p59 : lw_okq (⟨"ChoirBookModel", "chosen", "(IIII)I"⟩, 64) := ⟨⟨by decide +kernel, by decide +kernel⟩, List.mem_of_getElem? (i := 1040) (by decide +kernel), List.mem_of_getElem? (i := 1437) (by decide +kernel), List.mem_of_getElem? (i := 1438) (by decide +kernel)⟩
theorem lw_p60 : lw_okq (⟨"ChoirBookModel", "isThere", "(III)Z"⟩, 64) := ⟨⟨by decide +kernel, by decide +kernel⟩, List.mem_of_getElem? (i := 1040) (by decide +kernel), List.mem_of_getElem? (i := 1441) (by decide +kernel), List.mem_of_getElem? (i := 1442) (by decide +kernel)⟩
def lw_privs_4 : List (MethodName × Nat) := [(⟨"ChoirBookModel", "nextMoved", "()I"⟩, 64), (⟨"ChoirBookModel", "isOffice", "(II)Z"⟩, 64), (⟨"ChoirBookModel", "moves", "(II)V"⟩, 64), (⟨"ChoirBookModel", "commemorates", "(II)V"⟩, 64), (⟨"ChoirBookModel", "keptDay", "(II)I"⟩, 64), (⟨"ChoirBookModel", "deal", "()V"⟩, 64), (⟨"ChoirBookModel", "deals", "(I)Z"⟩, 64), (⟨"ChoirBookModel", "sings", "(II)V"⟩, 64), (⟨"ChoirBookModel", "adds", "(I)V"⟩, 64), (⟨"ChoirBookModel", "isStressed", "(III)Z"⟩, 64), (⟨"ChoirBookModel", "byAccent", "(IIIII)I"⟩, 64), (⟨"ChoirBookModel", "chosen", "(IIII)I"⟩, 64), (⟨"ChoirBookModel", "isThere", "(III)Z"⟩, 64)]
theorem lw_r4 : ∀ q ∈ lw_privs_4, lw_okq q := List.forall_mem_cons.mpr ⟨lw_p48, List.forall_mem_cons.mpr ⟨lw_p49, List.forall_mem_cons.mpr ⟨lw_p50, List.forall_mem_cons.mpr ⟨lw_p51, List.forall_mem_cons.mpr ⟨lw_p52, List.forall_mem_cons.mpr ⟨lw_p53, List.forall_mem_cons.mpr ⟨lw_p54, List.forall_mem_cons.mpr ⟨lw_p55, List.forall_mem_cons.mpr ⟨lw_p56, List.forall_mem_cons.mpr ⟨lw_p57, List.forall_mem_cons.mpr ⟨lw_p58, List.forall_mem_cons.mpr ⟨lw_p59, List.forall_mem_cons.mpr ⟨lw_p60, fun _ h => absurd h List.not_mem_nil⟩⟩⟩⟩⟩⟩⟩⟩⟩⟩⟩⟩⟩
def lw_privs : List (MethodName × Nat) := lw_privs_1 ++ (lw_privs_2 ++ (lw_privs_3 ++ (lw_privs_4)))
def lw_tbl : List Cond := k2_sels lw_privs ++ tables_1
theorem lw_privs_ok : ∀ q ∈ lw_privs, lw_okq q := by
  show ∀ q ∈ lw_privs_1 ++ (lw_privs_2 ++ (lw_privs_3 ++ (lw_privs_4))), lw_okq q
  exact List.forall_mem_append.mpr ⟨lw_r1, List.forall_mem_append.mpr ⟨lw_r2, List.forall_mem_append.mpr ⟨lw_r3, lw_r4⟩⟩⟩

def TAlm : u_T := fun k => match k with
  | 0 => ("ChoirBook$Almanac", "seasons", "LChoirBook$Seasons;", true)
  | 1 => ("ChoirBook$Almanac", "feasts", "LChoirBook$Feasts;", true)
  | 2 => ("ChoirBook$Almanac", "seasonOn", "[I", true)
  | 3 => ("ChoirBook$Almanac", "offices", "[I", true)
  | 4 => ("ChoirBook$Almanac", "others", "[I", true)
  | 5 => ("ChoirBook$Almanac", "ownDays", "[I", true)
  | 6 => ("ChoirBook$Almanac", "fates", "[I", true)
  | 7 => ("ChoirBook$Almanac", "madeFor", "I", false)
  | 8 => ("ChoirBook$Almanac", "days", "I", false)
  | _ => ("ChoirBook$Almanac", "firstWeekday", "I", false)
def tyAlm : Nat → FieldType := fun k => match k with
  | 0 => .object "ChoirBook$Seasons"
  | 1 => .object "ChoirBook$Feasts"
  | 2 => .array (.int)
  | 3 => .array (.int)
  | 4 => .array (.int)
  | 5 => .array (.int)
  | 6 => .array (.int)
  | 7 => .int
  | 8 => .int
  | _ => .int
def psAlm : List Nat := [160, 162, 164, 166, 168, 170, 172, 174, 176, 178]
def TCad : u_T := fun k => match k with
  | 0 => ("ChoirBook$Cadence", "before", "[I", true)
  | 1 => ("ChoirBook$Cadence", "accentNotes", "[I", true)
  | 2 => ("ChoirBook$Cadence", "manyBefore", "I", false)
  | _ => ("ChoirBook$Cadence", "manyAccents", "I", false)
def tyCad : Nat → FieldType := fun k => match k with
  | 0 => .array (.int)
  | 1 => .array (.int)
  | 2 => .int
  | _ => .int
def psCad : List Nat := [241, 243, 245, 247]
def TCho : u_T := fun k => match k with
  | 0 => ("ChoirBook$Choir", "abilities", "[I", true)
  | 1 => ("ChoirBook$Choir", "awayMonks", "[I", true)
  | 2 => ("ChoirBook$Choir", "awayYears", "[I", true)
  | 3 => ("ChoirBook$Choir", "awayFrom", "[I", true)
  | 4 => ("ChoirBook$Choir", "awayTo", "[I", true)
  | 5 => ("ChoirBook$Choir", "many", "I", false)
  | _ => ("ChoirBook$Choir", "manyAway", "I", false)
def tyCho : Nat → FieldType := fun k => match k with
  | 0 => .array (.int)
  | 1 => .array (.int)
  | 2 => .array (.int)
  | 3 => .array (.int)
  | 4 => .array (.int)
  | 5 => .int
  | _ => .int
def psCho : List Nat := [296, 298, 300, 302, 304, 306, 308]
def TFea : u_T := fun k => match k with
  | 0 => ("ChoirBook$Feasts", "sorts", "[I", true)
  | 1 => ("ChoirBook$Feasts", "whens", "[I", true)
  | 2 => ("ChoirBook$Feasts", "ranks", "[I", true)
  | 3 => ("ChoirBook$Feasts", "colours", "[I", true)
  | 4 => ("ChoirBook$Feasts", "ways", "[I", true)
  | 5 => ("ChoirBook$Feasts", "octaves", "[I", true)
  | 6 => ("ChoirBook$Feasts", "vigils", "[Z", true)
  | _ => ("ChoirBook$Feasts", "many", "I", false)
def tyFea : Nat → FieldType := fun k => match k with
  | 0 => .array (.int)
  | 1 => .array (.int)
  | 2 => .array (.int)
  | 3 => .array (.int)
  | 4 => .array (.int)
  | 5 => .array (.int)
  | 6 => .array (.boolean)
  | _ => .int
def psFea : List Nat := [127, 129, 131, 133, 135, 137, 139, 141]
def TPsa : u_T := fun k => match k with
  | 0 => ("ChoirBook$Psalter", "verseCounts", "[I", true)
  | 1 => ("ChoirBook$Psalter", "fixedAt", "[I", true)
  | 2 => ("ChoirBook$Psalter", "festals", "[I", true)
  | 3 => ("ChoirBook$Psalter", "festalCounts", "[I", true)
  | 4 => ("ChoirBook$Psalter", "row", "[I", true)
  | 5 => ("ChoirBook$Psalter", "starts", "[I", true)
  | 6 => ("ChoirBook$Psalter", "slots", "[I", true)
  | 7 => ("ChoirBook$Psalter", "rowLength", "I", false)
  | 8 => ("ChoirBook$Psalter", "manyHours", "I", false)
  | 9 => ("ChoirBook$Psalter", "feastRank", "I", false)
  | 10 => ("ChoirBook$Psalter", "limitNow", "I", false)
  | _ => ("ChoirBook$Psalter", "isDealt", "Z", false)
def tyPsa : Nat → FieldType := fun k => match k with
  | 0 => .array (.int)
  | 1 => .array (.int)
  | 2 => .array (.int)
  | 3 => .array (.int)
  | 4 => .array (.int)
  | 5 => .array (.int)
  | 6 => .array (.int)
  | 7 => .int
  | 8 => .int
  | 9 => .int
  | 10 => .int
  | _ => .boolean
def psPsa : List Nat := [199, 201, 203, 205, 207, 209, 211, 213, 215, 217, 219, 221]
def TRos : u_T := fun k => match k with
  | 0 => ("ChoirBook$Roster", "seats", "[I", true)
  | 1 => ("ChoirBook$Roster", "ranks", "[I", true)
  | 2 => ("ChoirBook$Roster", "timesHad", "[I", true)
  | 3 => ("ChoirBook$Roster", "latestDays", "[I", true)
  | _ => ("ChoirBook$Roster", "manyDays", "I", false)
def tyRos : Nat → FieldType := fun k => match k with
  | 0 => .array (.int)
  | 1 => .array (.int)
  | 2 => .array (.int)
  | 3 => .array (.int)
  | _ => .int
def psRos : List Nat := [322, 324, 326, 328, 330]
def TSea : u_T := fun k => match k with
  | 0 => ("ChoirBook$Seasons", "byDates", "[Z", true)
  | 1 => ("ChoirBook$Seasons", "starts", "[I", true)
  | 2 => ("ChoirBook$Seasons", "ends", "[I", true)
  | 3 => ("ChoirBook$Seasons", "sundayRanks", "[I", true)
  | 4 => ("ChoirBook$Seasons", "weekdayRanks", "[I", true)
  | 5 => ("ChoirBook$Seasons", "colours", "[I", true)
  | _ => ("ChoirBook$Seasons", "many", "I", false)
def tySea : Nat → FieldType := fun k => match k with
  | 0 => .array (.boolean)
  | 1 => .array (.int)
  | 2 => .array (.int)
  | 3 => .array (.int)
  | 4 => .array (.int)
  | 5 => .array (.int)
  | _ => .int
def psSea : List Nat := [96, 98, 100, 102, 104, 106, 108]
def TTon : u_T := fun k => match k with
  | 0 => ("ChoirBook$Tone", "intonation", "[I", true)
  | 1 => ("ChoirBook$Tone", "middle", "LChoirBook$Cadence;", true)
  | 2 => ("ChoirBook$Tone", "end", "LChoirBook$Cadence;", true)
  | 3 => ("ChoirBook$Tone", "manyIntonation", "I", false)
  | _ => ("ChoirBook$Tone", "tenorNote", "I", false)
def tyTon : Nat → FieldType := fun k => match k with
  | 0 => .array (.int)
  | 1 => .object "ChoirBook$Cadence"
  | 2 => .object "ChoirBook$Cadence"
  | 3 => .int
  | _ => .int
def psTon : List Nat := [255, 257, 259, 261, 263]
def TVer : u_T := fun k => match k with
  | 0 => ("ChoirBook$Verse", "stresses", "[Z", true)
  | 1 => ("ChoirBook$Verse", "length", "I", false)
  | _ => ("ChoirBook$Verse", "cut", "I", false)
def tyVer : Nat → FieldType := fun k => match k with
  | 0 => .array (.boolean)
  | 1 => .int
  | _ => .int
def psVer : List Nat := [276, 278, 280]
def TBk : u_T := fun k => match k with
  | 0 => ("ChoirBook", "seasons", "LChoirBook$Seasons;", true)
  | 1 => ("ChoirBook", "feasts", "LChoirBook$Feasts;", true)
  | 2 => ("ChoirBook", "almanac", "LChoirBook$Almanac;", true)
  | 3 => ("ChoirBook", "psalter", "LChoirBook$Psalter;", true)
  | 4 => ("ChoirBook", "tones", "[LChoirBook$Tone;", true)
  | 5 => ("ChoirBook", "texts", "[LChoirBook$Verse;", true)
  | 6 => ("ChoirBook", "choir", "LChoirBook$Choir;", true)
  | _ => ("ChoirBook", "turns", "LChoirBook$Roster;", true)
def tyBk : Nat → FieldType := fun k => match k with
  | 0 => .object "ChoirBook$Seasons"
  | 1 => .object "ChoirBook$Feasts"
  | 2 => .object "ChoirBook$Almanac"
  | 3 => .object "ChoirBook$Psalter"
  | 4 => .array (.object "ChoirBook$Tone")
  | 5 => .array (.object "ChoirBook$Verse")
  | 6 => .object "ChoirBook$Choir"
  | _ => .object "ChoirBook$Roster"
def psBk : List Nat := [341, 343, 345, 347, 349, 351, 353, 355]
def TMd : u_T := fun k => match k with
  | 0 => ("ChoirBookModel", "seasons", "I", false)
  | 1 => ("ChoirBookModel", "feasts", "I", false)
  | 2 => ("ChoirBookModel", "isDated", "[Z", true)
  | 3 => ("ChoirBookModel", "seasonFrom", "[I", true)
  | 4 => ("ChoirBookModel", "seasonTo", "[I", true)
  | 5 => ("ChoirBookModel", "sundayRank", "[I", true)
  | 6 => ("ChoirBookModel", "weekdayRank", "[I", true)
  | 7 => ("ChoirBookModel", "seasonColour", "[I", true)
  | 8 => ("ChoirBookModel", "sort", "[I", true)
  | 9 => ("ChoirBookModel", "told", "[I", true)
  | 10 => ("ChoirBookModel", "rank", "[I", true)
  | 11 => ("ChoirBookModel", "colour", "[I", true)
  | 12 => ("ChoirBookModel", "way", "[I", true)
  | 13 => ("ChoirBookModel", "octave", "[I", true)
  | 14 => ("ChoirBookModel", "hasVigil", "[Z", true)
  | 15 => ("ChoirBookModel", "reckoned", "I", false)
  | 16 => ("ChoirBookModel", "own", "[I", true)
  | 17 => ("ChoirBookModel", "moved", "[I", true)
  | 18 => ("ChoirBookModel", "officeKind", "[I", true)
  | 19 => ("ChoirBookModel", "officeFeast", "[I", true)
  | 20 => ("ChoirBookModel", "officeRank", "[I", true)
  | 21 => ("ChoirBookModel", "officeColour", "[I", true)
  | 22 => ("ChoirBookModel", "met", "I", false)
  | 23 => ("ChoirBookModel", "metKind", "[I", true)
  | 24 => ("ChoirBookModel", "metFeast", "[I", true)
  | 25 => ("ChoirBookModel", "metRank", "[I", true)
  | 26 => ("ChoirBookModel", "metColour", "[I", true)
  | 27 => ("ChoirBookModel", "metWay", "[I", true)
  | 28 => ("ChoirBookModel", "easterDay", "I", false)
  | 29 => ("ChoirBookModel", "firstDay", "I", false)
  | 30 => ("ChoirBookModel", "kept", "I", false)
  | 31 => ("ChoirBookModel", "keptOf", "[I", true)
  | 32 => ("ChoirBookModel", "verses", "[I", true)
  | 33 => ("ChoirBookModel", "fixed", "[I", true)
  | 34 => ("ChoirBookModel", "festals", "[I", true)
  | 35 => ("ChoirBookModel", "festal", "[I", true)
  | 36 => ("ChoirBookModel", "hours", "I", false)
  | 37 => ("ChoirBookModel", "feastRank", "I", false)
  | 38 => ("ChoirBookModel", "limit", "I", false)
  | 39 => ("ChoirBookModel", "firstOf", "[I", true)
  | 40 => ("ChoirBookModel", "manyOf", "[I", true)
  | 41 => ("ChoirBookModel", "versesOf", "[I", true)
  | 42 => ("ChoirBookModel", "sungMany", "I", false)
  | 43 => ("ChoirBookModel", "sungOf", "[I", true)
  | 44 => ("ChoirBookModel", "tenors", "[I", true)
  | 45 => ("ChoirBookModel", "noteMany", "[I", true)
  | 46 => ("ChoirBookModel", "noteOf", "[I", true)
  | 47 => ("ChoirBookModel", "isTwo", "[Z", true)
  | 48 => ("ChoirBookModel", "accentOf", "[I", true)
  | 49 => ("ChoirBookModel", "syllables", "[I", true)
  | 50 => ("ChoirBookModel", "stress", "[Z", true)
  | 51 => ("ChoirBookModel", "parted", "[I", true)
  | 52 => ("ChoirBookModel", "monks", "I", false)
  | 53 => ("ChoirBookModel", "absences", "I", false)
  | 54 => ("ChoirBookModel", "can", "[I", true)
  | 55 => ("ChoirBookModel", "goneMonk", "[I", true)
  | 56 => ("ChoirBookModel", "goneYear", "[I", true)
  | 57 => ("ChoirBookModel", "goneFrom", "[I", true)
  | 58 => ("ChoirBookModel", "goneTo", "[I", true)
  | 59 => ("ChoirBookModel", "rosterDays", "I", false)
  | 60 => ("ChoirBookModel", "roles", "[I", true)
  | 61 => ("ChoirBookModel", "turn", "[I", true)
  | 62 => ("ChoirBookModel", "often", "[I", true)
  | _ => ("ChoirBookModel", "latest", "[I", true)
def tyMd : Nat → FieldType := fun k => match k with
  | 0 => .int
  | 1 => .int
  | 2 => .array (.boolean)
  | 3 => .array (.int)
  | 4 => .array (.int)
  | 5 => .array (.int)
  | 6 => .array (.int)
  | 7 => .array (.int)
  | 8 => .array (.int)
  | 9 => .array (.int)
  | 10 => .array (.int)
  | 11 => .array (.int)
  | 12 => .array (.int)
  | 13 => .array (.int)
  | 14 => .array (.boolean)
  | 15 => .int
  | 16 => .array (.int)
  | 17 => .array (.int)
  | 18 => .array (.int)
  | 19 => .array (.int)
  | 20 => .array (.int)
  | 21 => .array (.int)
  | 22 => .int
  | 23 => .array (.int)
  | 24 => .array (.int)
  | 25 => .array (.int)
  | 26 => .array (.int)
  | 27 => .array (.int)
  | 28 => .int
  | 29 => .int
  | 30 => .int
  | 31 => .array (.int)
  | 32 => .array (.int)
  | 33 => .array (.int)
  | 34 => .array (.int)
  | 35 => .array (.int)
  | 36 => .int
  | 37 => .int
  | 38 => .int
  | 39 => .array (.int)
  | 40 => .array (.int)
  | 41 => .array (.int)
  | 42 => .int
  | 43 => .array (.int)
  | 44 => .array (.int)
  | 45 => .array (.int)
  | 46 => .array (.int)
  | 47 => .array (.boolean)
  | 48 => .array (.int)
  | 49 => .array (.int)
  | 50 => .array (.boolean)
  | 51 => .array (.int)
  | 52 => .int
  | 53 => .int
  | 54 => .array (.int)
  | 55 => .array (.int)
  | 56 => .array (.int)
  | 57 => .array (.int)
  | 58 => .array (.int)
  | 59 => .int
  | 60 => .array (.int)
  | 61 => .array (.int)
  | 62 => .array (.int)
  | _ => .array (.int)
def psMd : List Nat := [1266, 1268, 1270, 1272, 1274, 1276, 1278, 1280, 1282, 1284, 1286, 1288, 1290, 1292, 1294, 1296, 1298, 1300, 1302, 1304, 1306, 1308, 1310, 1312, 1314, 1316, 1318, 1320, 1322, 1324, 1326, 1328, 1330, 1332, 1334, 1336, 1338, 1340, 1342, 1344, 1346, 1348, 1350, 1352, 1354, 1356, 1358, 1360, 1362, 1364, 1366, 1368, 1370, 1372, 1374, 1376, 1378, 1380, 1382, 1384, 1386, 1388, 1390, 1392]
abbrev kCl : List vw_C := [("ChoirBook$Almanac", TAlm, 10), ("ChoirBook$Cadence", TCad, 4), ("ChoirBook$Choir", TCho, 7), ("ChoirBook$Feasts", TFea, 8), ("ChoirBook$Psalter", TPsa, 12), ("ChoirBook$Roster", TRos, 5), ("ChoirBook$Seasons", TSea, 7), ("ChoirBook$Tone", TTon, 5), ("ChoirBook$Verse", TVer, 3), ("ChoirBook", TBk, 8), ("ChoirBookModel", TMd, 64)]
def kTy : List (Nat → FieldType) := [tyAlm, tyCad, tyCho, tyFea, tyPsa, tyRos, tySea, tyTon, tyVer, tyBk, tyMd]
def kPs : List (List Nat) := [psAlm, psCad, psCho, psFea, psPsa, psRos, psSea, psTon, psVer, psBk, psMd]
def kN : List String := ["ChoirBook$Almanac", "ChoirBook$Cadence", "ChoirBook$Choir", "ChoirBook$Days", "ChoirBook$Feasts", "ChoirBook$Psalter", "ChoirBook$Roster", "ChoirBook$Seasons", "ChoirBook$Tone", "ChoirBook$Verse", "ChoirBook", "ChoirBookModel", "ChoirBookLaw", "java/lang/Math"]
def kIni : List Nat := [65, 68, 70, 73, 64, 66, 71, 63, 67, 69, 62, 72, 61, 74]
/-- a method: its name, bytes, locals, return type, class number, arguments (the receiver counts), static or not, places of its words -/
abbrev MR : Type := MethodName × (ByteArray × (Nat × (Option FieldType × (Nat × (Nat × (Bool × (Nat × (Nat × Nat))))))))
def r_Bk_init : MR := (⟨"ChoirBook", "<init>", "()V"⟩, prog_1_method_1_code, 2, none, 10, 1, false, 79, 78, 9999)
abbrev m_Bk_init : Nat := 0
def r_Sea_init : MR := (⟨"ChoirBook$Seasons", "<init>", "()V"⟩, prog_9_method_1_code, 1, none, 7, 1, false, 87, 86, 9999)
abbrev m_Sea_init : Nat := 1
def r_Fea_init : MR := (⟨"ChoirBook$Feasts", "<init>", "()V"⟩, prog_6_method_1_code, 1, none, 4, 1, false, 117, 116, 9999)
abbrev m_Fea_init : Nat := 2
def r_Alm_init : MR := (⟨"ChoirBook$Almanac", "<init>", "(LChoirBook$Seasons;LChoirBook$Feasts;)V"⟩, prog_2_method_1_code, 3, none, 0, 3, false, 148, 147, 9999)
abbrev m_Alm_init : Nat := 3
def r_Psa_init : MR := (⟨"ChoirBook$Psalter", "<init>", "()V"⟩, prog_7_method_1_code, 2, none, 5, 1, false, 185, 184, 9999)
abbrev m_Psa_init : Nat := 4
def r_Ton_init : MR := (⟨"ChoirBook$Tone", "<init>", "()V"⟩, prog_10_method_1_code, 1, none, 8, 1, false, 229, 228, 9999)
abbrev m_Ton_init : Nat := 5
def r_Cad_init : MR := (⟨"ChoirBook$Cadence", "<init>", "()V"⟩, prog_3_method_1_code, 1, none, 1, 1, false, 235, 234, 9999)
abbrev m_Cad_init : Nat := 6
def r_Ver_init : MR := (⟨"ChoirBook$Verse", "<init>", "()V"⟩, prog_11_method_1_code, 1, none, 9, 1, false, 271, 270, 9999)
abbrev m_Ver_init : Nat := 7
def r_Cho_init : MR := (⟨"ChoirBook$Choir", "<init>", "()V"⟩, prog_4_method_1_code, 1, none, 2, 1, false, 287, 286, 9999)
abbrev m_Cho_init : Nat := 8
def r_Ros_init : MR := (⟨"ChoirBook$Roster", "<init>", "()V"⟩, prog_8_method_1_code, 1, none, 6, 1, false, 315, 314, 9999)
abbrev m_Ros_init : Nat := 9
def r_Bk_year : MR := (⟨"ChoirBook", "year", "(II)I"⟩, prog_1_method_2_code, 3, some (.int), 10, 3, false, 361, 359, 360)
abbrev m_Bk_year : Nat := 10
def r_Day_isYear : MR := (⟨"ChoirBook$Days", "isYear", "(I)Z"⟩, prog_5_method_2_code, 1, some (.boolean), 3, 1, true, 364, 363, 9999)
abbrev m_Day_isYear : Nat := 11
def r_Bk_within : MR := (⟨"ChoirBook", "within", "(III)Z"⟩, prog_1_method_37_code, 3, some (.boolean), 10, 3, true, 367, 366, 9999)
abbrev m_Bk_within : Nat := 12
def r_Day_lengthOf : MR := (⟨"ChoirBook$Days", "lengthOf", "(I)I"⟩, prog_5_method_4_code, 1, some (.int), 3, 1, true, 370, 369, 9999)
abbrev m_Day_lengthOf : Nat := 13
def r_Day_isLeap : MR := (⟨"ChoirBook$Days", "isLeap", "(I)Z"⟩, prog_5_method_3_code, 1, some (.boolean), 3, 1, true, 373, 372, 9999)
abbrev m_Day_isLeap : Nat := 14
def r_Day_firstWeekday : MR := (⟨"ChoirBook$Days", "firstWeekday", "(I)I"⟩, prog_5_method_5_code, 2, some (.int), 3, 1, true, 376, 375, 9999)
abbrev m_Day_firstWeekday : Nat := 15
def r_Day_easter : MR := (⟨"ChoirBook$Days", "easter", "(I)I"⟩, prog_5_method_6_code, 7, some (.int), 3, 1, true, 379, 378, 9999)
abbrev m_Day_easter : Nat := 16
def r_Day_firstOfMonth : MR := (⟨"ChoirBook$Days", "firstOfMonth", "(II)I"⟩, prog_5_method_8_code, 2, some (.int), 3, 2, true, 382, 381, 9999)
abbrev m_Day_firstOfMonth : Nat := 17
def r_Bk_at : MR := (⟨"ChoirBook", "at", "([II)I"⟩, prog_1_method_38_code, 2, some (.int), 10, 2, true, 387, 386, 9999)
abbrev m_Bk_at : Nat := 18
def r_Bk_day : MR := (⟨"ChoirBook", "day", "(III)I"⟩, prog_1_method_3_code, 4, some (.int), 10, 4, false, 391, 389, 390)
abbrev m_Bk_day : Nat := 19
def r_Day_dayOf : MR := (⟨"ChoirBook$Days", "dayOf", "(III)I"⟩, prog_5_method_9_code, 3, some (.int), 3, 3, true, 394, 393, 9999)
abbrev m_Day_dayOf : Nat := 20
def r_Day_lengthOfMonth : MR := (⟨"ChoirBook$Days", "lengthOfMonth", "(II)I"⟩, prog_5_method_7_code, 2, some (.int), 3, 2, true, 397, 396, 9999)
abbrev m_Day_lengthOfMonth : Nat := 21
def r_Bk_season : MR := (⟨"ChoirBook", "season", "(IIIII)I"⟩, prog_1_method_4_code, 6, some (.int), 10, 6, false, 403, 401, 402)
abbrev m_Bk_season : Nat := 22
def r_Sea_tellFromEaster : MR := (⟨"ChoirBook$Seasons", "tellFromEaster", "(IIIII)I"⟩, prog_9_method_2_code, 6, some (.int), 7, 6, false, 407, 405, 406)
abbrev m_Sea_tellFromEaster : Nat := 23
def r_Sea_add : MR := (⟨"ChoirBook$Seasons", "add", "(IIIIIZ)I"⟩, prog_9_method_4_code, 7, some (.int), 7, 7, false, 412, 411, 0)
abbrev m_Sea_add : Nat := 24
def r_Bk_put : MR := (⟨"ChoirBook", "put", "([III)V"⟩, prog_1_method_39_code, 3, none, 10, 3, true, 415, 414, 9999)
abbrev m_Bk_put : Nat := 25
def r_Bk_forgetIfTold : MR := (⟨"ChoirBook", "forgetIfTold", "(I)I"⟩, prog_1_method_33_code, 2, some (.int), 10, 2, false, 419, 418, 1)
abbrev m_Bk_forgetIfTold : Nat := 26
def r_Alm_forget : MR := (⟨"ChoirBook$Almanac", "forget", "()V"⟩, prog_2_method_2_code, 1, none, 0, 1, false, 423, 421, 422)
abbrev m_Alm_forget : Nat := 27
def r_Bk_dated : MR := (⟨"ChoirBook", "dated", "(IIIII)I"⟩, prog_1_method_5_code, 6, some (.int), 10, 6, false, 427, 425, 426)
abbrev m_Bk_dated : Nat := 28
def r_Sea_tellByDates : MR := (⟨"ChoirBook$Seasons", "tellByDates", "(IIIII)I"⟩, prog_9_method_3_code, 6, some (.int), 7, 6, false, 431, 429, 430)
abbrev m_Sea_tellByDates : Nat := 29
def r_Day_isRoughDate : MR := (⟨"ChoirBook$Days", "isRoughDate", "(I)Z"⟩, prog_5_method_11_code, 1, some (.boolean), 3, 1, true, 434, 433, 9999)
abbrev m_Day_isRoughDate : Nat := 30
def r_Bk_feast : MR := (⟨"ChoirBook", "feast", "(IIIII)I"⟩, prog_1_method_6_code, 6, some (.int), 10, 6, false, 438, 436, 437)
abbrev m_Bk_feast : Nat := 31
def r_Fea_tell : MR := (⟨"ChoirBook$Feasts", "tell", "(IIIII)I"⟩, prog_6_method_2_code, 6, some (.int), 4, 6, false, 442, 440, 441)
abbrev m_Fea_tell : Nat := 32
def r_Fea_isWhen : MR := (⟨"ChoirBook$Feasts", "isWhen", "(II)Z"⟩, prog_6_method_3_code, 2, some (.boolean), 4, 2, true, 445, 444, 9999)
abbrev m_Fea_isWhen : Nat := 33
def r_Day_isEverDate : MR := (⟨"ChoirBook$Days", "isEverDate", "(I)Z"⟩, prog_5_method_10_code, 1, some (.boolean), 3, 1, true, 448, 447, 9999)
abbrev m_Day_isEverDate : Nat := 34
def r_Fea_isRankAndWay : MR := (⟨"ChoirBook$Feasts", "isRankAndWay", "(II)Z"⟩, prog_6_method_4_code, 2, some (.boolean), 4, 2, true, 453, 452, 9999)
abbrev m_Fea_isRankAndWay : Nat := 35
def r_Bk_around : MR := (⟨"ChoirBook", "around", "(IIZ)I"⟩, prog_1_method_7_code, 4, some (.int), 10, 4, false, 458, 456, 457)
abbrev m_Bk_around : Nat := 36
def r_Fea_surround : MR := (⟨"ChoirBook$Feasts", "surround", "(IIZ)I"⟩, prog_6_method_5_code, 4, some (.int), 4, 4, false, 462, 460, 461)
abbrev m_Fea_surround : Nat := 37
def r_Fea_isTold : MR := (⟨"ChoirBook$Feasts", "isTold", "(I)Z"⟩, prog_6_method_7_code, 2, some (.boolean), 4, 2, false, 466, 464, 465)
abbrev m_Fea_isTold : Nat := 38
def r_Bk_raise : MR := (⟨"ChoirBook", "raise", "(III)I"⟩, prog_1_method_8_code, 4, some (.int), 10, 4, false, 470, 468, 469)
abbrev m_Bk_raise : Nat := 39
def r_Fea_change : MR := (⟨"ChoirBook$Feasts", "change", "(III)I"⟩, prog_6_method_6_code, 4, some (.int), 4, 4, false, 474, 472, 473)
abbrev m_Fea_change : Nat := 40
def r_Bk_office : MR := (⟨"ChoirBook", "office", "(III)I"⟩, prog_1_method_9_code, 4, some (.int), 10, 4, false, 478, 476, 477)
abbrev m_Bk_office : Nat := 41
def r_Alm_openAt : MR := (⟨"ChoirBook$Almanac", "openAt", "(II)Z"⟩, prog_2_method_4_code, 3, some (.boolean), 0, 3, false, 482, 480, 481)
abbrev m_Alm_openAt : Nat := 42
def r_Alm_build : MR := (⟨"ChoirBook$Almanac", "build", "(I)V"⟩, prog_2_method_16_code, 3, none, 0, 2, false, 489, 488, 2)
abbrev m_Alm_build : Nat := 43
def r_Alm_layOutSeasons : MR := (⟨"ChoirBook$Almanac", "layOutSeasons", "(I)V"⟩, prog_2_method_17_code, 5, none, 0, 2, false, 494, 493, 3)
abbrev m_Alm_layOutSeasons : Nat := 44
def r_Sea_count : MR := (⟨"ChoirBook$Seasons", "count", "()I"⟩, prog_9_method_5_code, 1, some (.int), 7, 1, false, 498, 496, 497)
abbrev m_Sea_count : Nat := 45
def r_Sea_lastDay : MR := (⟨"ChoirBook$Seasons", "lastDay", "(II)I"⟩, prog_9_method_7_code, 3, some (.int), 7, 3, false, 502, 500, 501)
abbrev m_Sea_lastDay : Nat := 46
def r_Sea_isByDates : MR := (⟨"ChoirBook$Seasons", "isByDates", "(I)Z"⟩, prog_9_method_8_code, 2, some (.boolean), 7, 2, false, 506, 505, 4)
abbrev m_Sea_isByDates : Nat := 47
def r_Day_roughDay : MR := (⟨"ChoirBook$Days", "roughDay", "(II)I"⟩, prog_5_method_12_code, 4, some (.int), 3, 2, true, 510, 509, 9999)
abbrev m_Day_roughDay : Nat := 48
def r_Sea_firstDay : MR := (⟨"ChoirBook$Seasons", "firstDay", "(II)I"⟩, prog_9_method_6_code, 3, some (.int), 7, 3, false, 519, 517, 518)
abbrev m_Sea_firstDay : Nat := 49
def r_Fea_count : MR := (⟨"ChoirBook$Feasts", "count", "()I"⟩, prog_6_method_8_code, 1, some (.int), 4, 1, false, 527, 525, 526)
abbrev m_Fea_count : Nat := 50
def r_Fea_dayIn : MR := (⟨"ChoirBook$Feasts", "dayIn", "(II)I"⟩, prog_6_method_14_code, 5, some (.int), 4, 3, false, 531, 529, 530)
abbrev m_Fea_dayIn : Nat := 51
def r_Day_nthWeekday : MR := (⟨"ChoirBook$Days", "nthWeekday", "(IIII)I"⟩, prog_5_method_13_code, 6, some (.int), 3, 4, true, 538, 537, 9999)
abbrev m_Day_nthWeekday : Nat := 52
def r_Alm_considerAll : MR := (⟨"ChoirBook$Almanac", "considerAll", "(Z)V"⟩, prog_2_method_18_code, 7, none, 0, 2, false, 543, 542, 5)
abbrev m_Alm_considerAll : Nat := 53
def r_Alm_weekdayOf : MR := (⟨"ChoirBook$Almanac", "weekdayOf", "(I)I"⟩, prog_2_method_6_code, 2, some (.int), 0, 2, false, 547, 545, 546)
abbrev m_Alm_weekdayOf : Nat := 54
def r_Sea_rankOf : MR := (⟨"ChoirBook$Seasons", "rankOf", "(II)I"⟩, prog_9_method_9_code, 3, some (.int), 7, 3, false, 552, 550, 551)
abbrev m_Sea_rankOf : Nat := 55
def r_Alm_candidate : MR := (⟨"ChoirBook$Almanac", "candidate", "(III)I"⟩, prog_2_method_31_code, 3, some (.int), 0, 3, true, 555, 554, 9999)
abbrev m_Alm_candidate : Nat := 56
def r_Alm_placeOf : MR := (⟨"ChoirBook$Almanac", "placeOf", "(I)I"⟩, prog_2_method_32_code, 1, some (.int), 0, 1, true, 558, 557, 9999)
abbrev m_Alm_placeOf : Nat := 57
def r_Alm_consider : MR := (⟨"ChoirBook$Almanac", "consider", "(IIIZ)V"⟩, prog_2_method_20_code, 5, none, 0, 5, false, 562, 561, 6)
abbrev m_Alm_consider : Nat := 58
def r_Alm_commemorate : MR := (⟨"ChoirBook$Almanac", "commemorate", "(II)V"⟩, prog_2_method_21_code, 6, none, 0, 3, false, 566, 565, 7)
abbrev m_Alm_commemorate : Nat := 59
def r_Alm_considerFeast : MR := (⟨"ChoirBook$Almanac", "considerFeast", "(IIZ)V"⟩, prog_2_method_19_code, 7, none, 0, 4, false, 570, 569, 8)
abbrev m_Alm_considerFeast : Nat := 60
def r_Alm_feastCandidate : MR := (⟨"ChoirBook$Almanac", "feastCandidate", "(I)I"⟩, prog_2_method_30_code, 2, some (.int), 0, 2, false, 574, 573, 9)
abbrev m_Alm_feastCandidate : Nat := 61
def r_Fea_rankOf : MR := (⟨"ChoirBook$Feasts", "rankOf", "(I)I"⟩, prog_6_method_9_code, 2, some (.int), 4, 2, false, 578, 576, 577)
abbrev m_Fea_rankOf : Nat := 62
def r_Fea_wayOf : MR := (⟨"ChoirBook$Feasts", "wayOf", "(I)I"⟩, prog_6_method_11_code, 2, some (.int), 4, 2, false, 582, 580, 581)
abbrev m_Fea_wayOf : Nat := 63
def r_Fea_octaveOf : MR := (⟨"ChoirBook$Feasts", "octaveOf", "(I)I"⟩, prog_6_method_12_code, 2, some (.int), 4, 2, false, 586, 584, 585)
abbrev m_Fea_octaveOf : Nat := 64
def r_Fea_hasVigil : MR := (⟨"ChoirBook$Feasts", "hasVigil", "(I)Z"⟩, prog_6_method_13_code, 2, some (.boolean), 4, 2, false, 590, 588, 589)
abbrev m_Fea_hasVigil : Nat := 65
def r_Alm_moveFeasts : MR := (⟨"ChoirBook$Almanac", "moveFeasts", "()V"⟩, prog_2_method_22_code, 4, none, 0, 1, false, 594, 593, 10)
abbrev m_Alm_moveFeasts : Nat := 66
def r_Alm_nextToMove : MR := (⟨"ChoirBook$Almanac", "nextToMove", "()I"⟩, prog_2_method_24_code, 3, some (.int), 0, 1, false, 598, 597, 11)
abbrev m_Alm_nextToMove : Nat := 67
def r_Alm_isToMove : MR := (⟨"ChoirBook$Almanac", "isToMove", "(I)Z"⟩, prog_2_method_23_code, 2, some (.boolean), 0, 2, false, 602, 601, 12)
abbrev m_Alm_isToMove : Nat := 68
def r_Alm_isMovedBefore : MR := (⟨"ChoirBook$Almanac", "isMovedBefore", "(II)Z"⟩, prog_2_method_25_code, 3, some (.boolean), 0, 3, false, 606, 605, 13)
abbrev m_Alm_isMovedBefore : Nat := 69
def r_Alm_placeFor : MR := (⟨"ChoirBook$Almanac", "placeFor", "(I)I"⟩, prog_2_method_26_code, 5, some (.int), 0, 2, false, 610, 609, 14)
abbrev m_Alm_placeFor : Nat := 70
def r_Alm_givesWay : MR := (⟨"ChoirBook$Almanac", "givesWay", "(II)Z"⟩, prog_2_method_27_code, 4, some (.boolean), 0, 3, false, 614, 613, 15)
abbrev m_Alm_givesWay : Nat := 71
def r_Alm_kindIn : MR := (⟨"ChoirBook$Almanac", "kindIn", "(I)I"⟩, prog_2_method_33_code, 1, some (.int), 0, 1, true, 617, 616, 9999)
abbrev m_Alm_kindIn : Nat := 72
def r_Alm_feastIn : MR := (⟨"ChoirBook$Almanac", "feastIn", "(I)I"⟩, prog_2_method_36_code, 2, some (.int), 0, 1, true, 620, 619, 9999)
abbrev m_Alm_feastIn : Nat := 73
def r_Alm_rankIn : MR := (⟨"ChoirBook$Almanac", "rankIn", "(I)I"⟩, prog_2_method_35_code, 1, some (.int), 0, 1, true, 623, 622, 9999)
abbrev m_Alm_rankIn : Nat := 74
def r_Alm_settleFates : MR := (⟨"ChoirBook$Almanac", "settleFates", "()V"⟩, prog_2_method_28_code, 2, none, 0, 1, false, 627, 626, 16)
abbrev m_Alm_settleFates : Nat := 75
def r_Alm_fateOnOwnDay : MR := (⟨"ChoirBook$Almanac", "fateOnOwnDay", "(I)I"⟩, prog_2_method_29_code, 5, some (.int), 0, 2, false, 631, 630, 17)
abbrev m_Alm_fateOnOwnDay : Nat := 76
def r_Alm_officeOn : MR := (⟨"ChoirBook$Almanac", "officeOn", "(II)I"⟩, prog_2_method_7_code, 4, some (.int), 0, 3, false, 635, 633, 634)
abbrev m_Alm_officeOn : Nat := 77
def r_Alm_colourIn : MR := (⟨"ChoirBook$Almanac", "colourIn", "(II)I"⟩, prog_2_method_9_code, 4, some (.int), 0, 3, false, 639, 638, 18)
abbrev m_Alm_colourIn : Nat := 78
def r_Sea_colourOf : MR := (⟨"ChoirBook$Seasons", "colourOf", "(I)I"⟩, prog_9_method_10_code, 2, some (.int), 7, 2, false, 643, 641, 642)
abbrev m_Sea_colourOf : Nat := 79
def r_Fea_colourOf : MR := (⟨"ChoirBook$Feasts", "colourOf", "(I)I"⟩, prog_6_method_10_code, 2, some (.int), 4, 2, false, 647, 645, 646)
abbrev m_Fea_colourOf : Nat := 80
def r_Alm_commemoratedOn : MR := (⟨"ChoirBook$Almanac", "commemoratedOn", "(I)I"⟩, prog_2_method_10_code, 4, some (.int), 0, 2, false, 651, 650, 19)
abbrev m_Alm_commemoratedOn : Nat := 81
def r_Alm_partOf : MR := (⟨"ChoirBook$Almanac", "partOf", "(II)I"⟩, prog_2_method_34_code, 2, some (.int), 0, 2, true, 654, 653, 9999)
abbrev m_Alm_partOf : Nat := 82
def r_Bk_also : MR := (⟨"ChoirBook", "also", "(IIII)I"⟩, prog_1_method_10_code, 5, some (.int), 10, 5, false, 658, 656, 657)
abbrev m_Bk_also : Nat := 83
def r_Alm_commemoration : MR := (⟨"ChoirBook$Almanac", "commemoration", "(III)I"⟩, prog_2_method_11_code, 5, some (.int), 0, 4, false, 662, 660, 661)
abbrev m_Alm_commemoration : Nat := 84
def r_Bk_kept : MR := (⟨"ChoirBook", "kept", "(II)I"⟩, prog_1_method_11_code, 3, some (.int), 10, 3, false, 666, 664, 665)
abbrev m_Bk_kept : Nat := 85
def r_Alm_open : MR := (⟨"ChoirBook$Almanac", "open", "(I)Z"⟩, prog_2_method_3_code, 2, some (.boolean), 0, 2, false, 671, 669, 670)
abbrev m_Alm_open : Nat := 86
def r_Alm_fateOf : MR := (⟨"ChoirBook$Almanac", "fateOf", "(I)I"⟩, prog_2_method_12_code, 2, some (.int), 0, 2, false, 675, 673, 674)
abbrev m_Alm_fateOf : Nat := 87
def r_Bk_tally : MR := (⟨"ChoirBook", "tally", "(III)I"⟩, prog_1_method_12_code, 4, some (.int), 10, 4, false, 679, 677, 678)
abbrev m_Bk_tally : Nat := 88
def r_Alm_daysWith : MR := (⟨"ChoirBook$Almanac", "daysWith", "(II)I"⟩, prog_2_method_13_code, 5, some (.int), 0, 3, false, 683, 681, 682)
abbrev m_Alm_daysWith : Nat := 89
def r_Alm_movedFeasts : MR := (⟨"ChoirBook$Almanac", "movedFeasts", "()I"⟩, prog_2_method_15_code, 4, some (.int), 0, 1, false, 688, 686, 687)
abbrev m_Alm_movedFeasts : Nat := 90
def r_Alm_feastsOfFate : MR := (⟨"ChoirBook$Almanac", "feastsOfFate", "(I)I"⟩, prog_2_method_14_code, 4, some (.int), 0, 2, false, 692, 690, 691)
abbrev m_Alm_feastsOfFate : Nat := 91
def r_Bk_verses : MR := (⟨"ChoirBook", "verses", "(II)I"⟩, prog_1_method_13_code, 3, some (.int), 10, 3, false, 696, 694, 695)
abbrev m_Bk_verses : Nat := 92
def r_Psa_setVerses : MR := (⟨"ChoirBook$Psalter", "setVerses", "(II)I"⟩, prog_7_method_4_code, 4, some (.int), 5, 3, false, 700, 698, 699)
abbrev m_Psa_setVerses : Nat := 93
def r_Psa_hasPsalm : MR := (⟨"ChoirBook$Psalter", "hasPsalm", "(I)Z"⟩, prog_7_method_2_code, 2, some (.boolean), 5, 2, false, 704, 702, 703)
abbrev m_Psa_hasPsalm : Nat := 94
def r_Bk_hours : MR := (⟨"ChoirBook", "hours", "(I)I"⟩, prog_1_method_14_code, 2, some (.int), 10, 2, false, 711, 709, 710)
abbrev m_Bk_hours : Nat := 95
def r_Psa_setHours : MR := (⟨"ChoirBook$Psalter", "setHours", "(I)I"⟩, prog_7_method_5_code, 3, some (.int), 5, 2, false, 715, 713, 714)
abbrev m_Psa_setHours : Nat := 96
def r_Psa_isUsedFrom : MR := (⟨"ChoirBook$Psalter", "isUsedFrom", "(I)Z"⟩, prog_7_method_6_code, 3, some (.boolean), 5, 2, false, 719, 718, 20)
abbrev m_Psa_isUsedFrom : Nat := 97
def r_Bk_fix : MR := (⟨"ChoirBook", "fix", "(II)I"⟩, prog_1_method_15_code, 3, some (.int), 10, 3, false, 723, 721, 722)
abbrev m_Bk_fix : Nat := 98
def r_Psa_setFixed : MR := (⟨"ChoirBook$Psalter", "setFixed", "(II)I"⟩, prog_7_method_7_code, 4, some (.int), 5, 3, false, 727, 725, 726)
abbrev m_Psa_setFixed : Nat := 99
def r_Psa_hasHour : MR := (⟨"ChoirBook$Psalter", "hasHour", "(I)Z"⟩, prog_7_method_3_code, 2, some (.boolean), 5, 2, false, 731, 729, 730)
abbrev m_Psa_hasHour : Nat := 100
def r_Bk_festal : MR := (⟨"ChoirBook", "festal", "(II)I"⟩, prog_1_method_16_code, 3, some (.int), 10, 3, false, 735, 733, 734)
abbrev m_Bk_festal : Nat := 101
def r_Psa_addFestal : MR := (⟨"ChoirBook$Psalter", "addFestal", "(II)I"⟩, prog_7_method_8_code, 4, some (.int), 5, 3, false, 739, 737, 738)
abbrev m_Psa_addFestal : Nat := 102
def r_Bk_limit : MR := (⟨"ChoirBook", "limit", "(I)I"⟩, prog_1_method_17_code, 2, some (.int), 10, 2, false, 743, 741, 742)
abbrev m_Bk_limit : Nat := 103
def r_Psa_setFeastRank : MR := (⟨"ChoirBook$Psalter", "setFeastRank", "(I)I"⟩, prog_7_method_9_code, 3, some (.int), 5, 2, false, 747, 745, 746)
abbrev m_Psa_setFeastRank : Nat := 104
def r_Bk_dealt : MR := (⟨"ChoirBook", "dealt", "(III)I"⟩, prog_1_method_18_code, 4, some (.int), 10, 4, false, 751, 749, 750)
abbrev m_Bk_dealt : Nat := 105
def r_Psa_leastLimit : MR := (⟨"ChoirBook$Psalter", "leastLimit", "()I"⟩, prog_7_method_10_code, 1, some (.int), 5, 1, false, 755, 753, 754)
abbrev m_Psa_leastLimit : Nat := 106
def r_Psa_deal : MR := (⟨"ChoirBook$Psalter", "deal", "()V"⟩, prog_7_method_21_code, 4, none, 5, 1, false, 759, 758, 21)
abbrev m_Psa_deal : Nat := 107
def r_Psa_lineUp : MR := (⟨"ChoirBook$Psalter", "lineUp", "()V"⟩, prog_7_method_23_code, 2, none, 5, 1, false, 763, 762, 22)
abbrev m_Psa_lineUp : Nat := 108
def r_Psa_findLimit : MR := (⟨"ChoirBook$Psalter", "findLimit", "()V"⟩, prog_7_method_24_code, 5, none, 5, 1, false, 767, 766, 23)
abbrev m_Psa_findLimit : Nat := 109
def r_Psa_isEnough : MR := (⟨"ChoirBook$Psalter", "isEnough", "(I)Z"⟩, prog_7_method_25_code, 4, some (.boolean), 5, 2, false, 772, 771, 24)
abbrev m_Psa_isEnough : Nat := 110
def r_Psa_endOfHour : MR := (⟨"ChoirBook$Psalter", "endOfHour", "(II)I"⟩, prog_7_method_26_code, 5, some (.int), 5, 3, false, 776, 775, 25)
abbrev m_Psa_endOfHour : Nat := 111
def r_Psa_markSlot : MR := (⟨"ChoirBook$Psalter", "markSlot", "(III)V"⟩, prog_7_method_22_code, 5, none, 5, 4, false, 780, 779, 26)
abbrev m_Psa_markSlot : Nat := 112
def r_Psa_firstDealt : MR := (⟨"ChoirBook$Psalter", "firstDealt", "(II)I"⟩, prog_7_method_11_code, 3, some (.int), 5, 3, false, 786, 784, 785)
abbrev m_Psa_firstDealt : Nat := 113
def r_Psa_dealtPsalm : MR := (⟨"ChoirBook$Psalter", "dealtPsalm", "(III)I"⟩, prog_7_method_20_code, 4, some (.int), 5, 4, false, 790, 789, 27)
abbrev m_Psa_dealtPsalm : Nat := 114
def r_Psa_countDealt : MR := (⟨"ChoirBook$Psalter", "countDealt", "(II)I"⟩, prog_7_method_19_code, 4, some (.int), 5, 3, false, 794, 793, 28)
abbrev m_Psa_countDealt : Nat := 115
def r_Psa_manyDealt : MR := (⟨"ChoirBook$Psalter", "manyDealt", "(II)I"⟩, prog_7_method_12_code, 3, some (.int), 5, 3, false, 798, 796, 797)
abbrev m_Psa_manyDealt : Nat := 116
def r_Psa_versesDealt : MR := (⟨"ChoirBook$Psalter", "versesDealt", "(II)I"⟩, prog_7_method_13_code, 6, some (.int), 5, 3, false, 802, 800, 801)
abbrev m_Psa_versesDealt : Nat := 117
def r_Bk_sung : MR := (⟨"ChoirBook", "sung", "(IIII)I"⟩, prog_1_method_19_code, 5, some (.int), 10, 5, false, 806, 804, 805)
abbrev m_Bk_sung : Nat := 118
def r_Alm_rankOn : MR := (⟨"ChoirBook$Almanac", "rankOn", "(I)I"⟩, prog_2_method_8_code, 2, some (.int), 0, 2, false, 811, 809, 810)
abbrev m_Alm_rankOn : Nat := 119
def r_Psa_psalmSung : MR := (⟨"ChoirBook$Psalter", "psalmSung", "(IIII)I"⟩, prog_7_method_14_code, 7, some (.int), 5, 5, false, 815, 813, 814)
abbrev m_Psa_psalmSung : Nat := 120
def r_Psa_isFestive : MR := (⟨"ChoirBook$Psalter", "isFestive", "(II)Z"⟩, prog_7_method_16_code, 3, some (.boolean), 5, 3, false, 819, 818, 29)
abbrev m_Psa_isFestive : Nat := 121
def r_Psa_fixedPsalm : MR := (⟨"ChoirBook$Psalter", "fixedPsalm", "(II)I"⟩, prog_7_method_18_code, 5, some (.int), 5, 3, false, 823, 822, 30)
abbrev m_Psa_fixedPsalm : Nat := 122
def r_Bk_times : MR := (⟨"ChoirBook", "times", "(IIII)I"⟩, prog_1_method_20_code, 7, some (.int), 10, 5, false, 827, 825, 826)
abbrev m_Bk_times : Nat := 123
def r_Psa_timesSung : MR := (⟨"ChoirBook$Psalter", "timesSung", "(III)I"⟩, prog_7_method_15_code, 6, some (.int), 5, 4, false, 832, 830, 831)
abbrev m_Psa_timesSung : Nat := 124
def r_Psa_countFestal : MR := (⟨"ChoirBook$Psalter", "countFestal", "(II)I"⟩, prog_7_method_17_code, 6, some (.int), 5, 3, false, 836, 835, 31)
abbrev m_Psa_countFestal : Nat := 125
def r_Bk_tenor : MR := (⟨"ChoirBook", "tenor", "(II)I"⟩, prog_1_method_21_code, 4, some (.int), 10, 3, false, 840, 838, 839)
abbrev m_Bk_tenor : Nat := 126
def r_Bk_toneOf : MR := (⟨"ChoirBook", "toneOf", "(I)LChoirBook$Tone;"⟩, prog_1_method_34_code, 2, some (.object "ChoirBook$Tone"), 10, 2, false, 844, 843, 32)
abbrev m_Bk_toneOf : Nat := 127
def r_Ton_setTenor : MR := (⟨"ChoirBook$Tone", "setTenor", "(I)I"⟩, prog_10_method_4_code, 2, some (.int), 8, 2, false, 848, 846, 847)
abbrev m_Ton_setTenor : Nat := 128
def r_Ton_isNote : MR := (⟨"ChoirBook$Tone", "isNote", "(I)Z"⟩, prog_10_method_2_code, 1, some (.boolean), 8, 1, true, 851, 850, 9999)
abbrev m_Ton_isNote : Nat := 129
def r_Bk_note : MR := (⟨"ChoirBook", "note", "(III)I"⟩, prog_1_method_22_code, 5, some (.int), 10, 4, false, 856, 854, 855)
abbrev m_Bk_note : Nat := 130
def r_Ton_addNote : MR := (⟨"ChoirBook$Tone", "addNote", "(II)I"⟩, prog_10_method_5_code, 3, some (.int), 8, 3, false, 860, 858, 859)
abbrev m_Ton_addNote : Nat := 131
def r_Ton_addIntonation : MR := (⟨"ChoirBook$Tone", "addIntonation", "(I)I"⟩, prog_10_method_6_code, 2, some (.int), 8, 2, false, 864, 863, 33)
abbrev m_Ton_addIntonation : Nat := 132
def r_Cad_addBefore : MR := (⟨"ChoirBook$Cadence", "addBefore", "(I)I"⟩, prog_3_method_2_code, 2, some (.int), 1, 2, false, 869, 867, 868)
abbrev m_Cad_addBefore : Nat := 133
def r_Bk_accent : MR := (⟨"ChoirBook", "accent", "(IIIIII)I"⟩, prog_1_method_23_code, 8, some (.int), 10, 7, false, 874, 872, 873)
abbrev m_Bk_accent : Nat := 134
def r_Bk_cadenceOf : MR := (⟨"ChoirBook", "cadenceOf", "(II)LChoirBook$Cadence;"⟩, prog_1_method_35_code, 4, some (.object "ChoirBook$Cadence"), 10, 3, false, 878, 877, 34)
abbrev m_Bk_cadenceOf : Nat := 135
def r_Ton_cadenceAt : MR := (⟨"ChoirBook$Tone", "cadenceAt", "(I)LChoirBook$Cadence;"⟩, prog_10_method_3_code, 2, some (.object "ChoirBook$Cadence"), 8, 2, false, 882, 880, 881)
abbrev m_Ton_cadenceAt : Nat := 136
def r_Cad_setAccent : MR := (⟨"ChoirBook$Cadence", "setAccent", "(IIII)I"⟩, prog_3_method_3_code, 5, some (.int), 1, 5, false, 886, 884, 885)
abbrev m_Cad_setAccent : Nat := 137
def r_Bk_accents : MR := (⟨"ChoirBook", "accents", "(III)I"⟩, prog_1_method_24_code, 5, some (.int), 10, 4, false, 892, 890, 891)
abbrev m_Bk_accents : Nat := 138
def r_Cad_setMany : MR := (⟨"ChoirBook$Cadence", "setMany", "(I)I"⟩, prog_3_method_4_code, 2, some (.int), 1, 2, false, 896, 894, 895)
abbrev m_Cad_setMany : Nat := 139
def r_Bk_syllable : MR := (⟨"ChoirBook", "syllable", "(IZ)I"⟩, prog_1_method_25_code, 4, some (.int), 10, 3, false, 900, 898, 899)
abbrev m_Bk_syllable : Nat := 140
def r_Bk_verseOf : MR := (⟨"ChoirBook", "verseOf", "(I)LChoirBook$Verse;"⟩, prog_1_method_36_code, 2, some (.object "ChoirBook$Verse"), 10, 2, false, 904, 903, 35)
abbrev m_Bk_verseOf : Nat := 141
def r_Ver_addSyllable : MR := (⟨"ChoirBook$Verse", "addSyllable", "(Z)I"⟩, prog_11_method_2_code, 2, some (.int), 9, 2, false, 908, 906, 907)
abbrev m_Ver_addSyllable : Nat := 142
def r_Bk_part : MR := (⟨"ChoirBook", "part", "(I)I"⟩, prog_1_method_26_code, 3, some (.int), 10, 2, false, 912, 910, 911)
abbrev m_Bk_part : Nat := 143
def r_Ver_cutHere : MR := (⟨"ChoirBook$Verse", "cutHere", "()I"⟩, prog_11_method_3_code, 1, some (.int), 9, 1, false, 916, 914, 915)
abbrev m_Ver_cutHere : Nat := 144
def r_Bk_sing : MR := (⟨"ChoirBook", "sing", "(III)I"⟩, prog_1_method_27_code, 6, some (.int), 10, 4, false, 920, 918, 919)
abbrev m_Bk_sing : Nat := 145
def r_Ver_isSungAt : MR := (⟨"ChoirBook$Verse", "isSungAt", "(I)Z"⟩, prog_11_method_4_code, 2, some (.boolean), 9, 2, false, 924, 922, 923)
abbrev m_Ver_isSungAt : Nat := 146
def r_Ton_noteAt : MR := (⟨"ChoirBook$Tone", "noteAt", "(LChoirBook$Verse;I)I"⟩, prog_10_method_7_code, 9, some (.int), 8, 3, false, 928, 926, 927)
abbrev m_Ton_noteAt : Nat := 147
def r_Ver_startOfHalf : MR := (⟨"ChoirBook$Verse", "startOfHalf", "(I)I"⟩, prog_11_method_6_code, 2, some (.int), 9, 2, false, 932, 930, 931)
abbrev m_Ver_startOfHalf : Nat := 148
def r_Ver_isFirstHalf : MR := (⟨"ChoirBook$Verse", "isFirstHalf", "(I)Z"⟩, prog_11_method_5_code, 2, some (.boolean), 9, 2, false, 936, 934, 935)
abbrev m_Ver_isFirstHalf : Nat := 149
def r_Ver_endOfHalf : MR := (⟨"ChoirBook$Verse", "endOfHalf", "(I)I"⟩, prog_11_method_7_code, 2, some (.int), 9, 2, false, 940, 938, 939)
abbrev m_Ver_endOfHalf : Nat := 150
def r_Ver_lastAccent : MR := (⟨"ChoirBook$Verse", "lastAccent", "(II)I"⟩, prog_11_method_8_code, 3, some (.int), 9, 3, false, 945, 943, 944)
abbrev m_Ver_lastAccent : Nat := 151
def r_Ver_isStressedFrom : MR := (⟨"ChoirBook$Verse", "isStressedFrom", "(II)Z"⟩, prog_11_method_10_code, 3, some (.boolean), 9, 3, false, 949, 948, 36)
abbrev m_Ver_isStressedFrom : Nat := 152
def r_Cad_hasTwoAccents : MR := (⟨"ChoirBook$Cadence", "hasTwoAccents", "()Z"⟩, prog_3_method_5_code, 1, some (.boolean), 1, 1, false, 954, 952, 953)
abbrev m_Cad_hasTwoAccents : Nat := 153
def r_Ver_firstAccent : MR := (⟨"ChoirBook$Verse", "firstAccent", "(II)I"⟩, prog_11_method_9_code, 3, some (.int), 9, 3, false, 958, 956, 957)
abbrev m_Ver_firstAccent : Nat := 154
def r_Cad_noteFrom : MR := (⟨"ChoirBook$Cadence", "noteFrom", "(III)I"⟩, prog_3_method_6_code, 5, some (.int), 1, 4, false, 962, 960, 961)
abbrev m_Cad_noteFrom : Nat := 155
def r_Cad_noteAhead : MR := (⟨"ChoirBook$Cadence", "noteAhead", "(I)I"⟩, prog_3_method_7_code, 2, some (.int), 1, 2, false, 967, 965, 966)
abbrev m_Cad_noteAhead : Nat := 156
def r_Bk_monk : MR := (⟨"ChoirBook", "monk", "(I)I"⟩, prog_1_method_28_code, 2, some (.int), 10, 2, false, 972, 970, 971)
abbrev m_Bk_monk : Nat := 157
def r_Cho_join : MR := (⟨"ChoirBook$Choir", "join", "(I)I"⟩, prog_4_method_2_code, 2, some (.int), 2, 2, false, 976, 974, 975)
abbrev m_Cho_join : Nat := 158
def r_Bk_absence : MR := (⟨"ChoirBook", "absence", "(IIII)I"⟩, prog_1_method_29_code, 5, some (.int), 10, 5, false, 982, 980, 981)
abbrev m_Bk_absence : Nat := 159
def r_Cho_sendAway : MR := (⟨"ChoirBook$Choir", "sendAway", "(IIII)I"⟩, prog_4_method_3_code, 5, some (.int), 2, 5, false, 986, 984, 985)
abbrev m_Cho_sendAway : Nat := 160
def r_Cho_hasMonk : MR := (⟨"ChoirBook$Choir", "hasMonk", "(I)Z"⟩, prog_4_method_4_code, 2, some (.boolean), 2, 2, false, 990, 988, 989)
abbrev m_Cho_hasMonk : Nat := 161
def r_Bk_roster : MR := (⟨"ChoirBook", "roster", "(III)I"⟩, prog_1_method_30_code, 4, some (.int), 10, 4, false, 996, 994, 995)
abbrev m_Bk_roster : Nat := 162
def r_Ros_make : MR := (⟨"ChoirBook$Roster", "make", "(LChoirBook$Choir;LChoirBook$Almanac;II)I"⟩, prog_8_method_2_code, 7, some (.int), 6, 5, false, 1000, 998, 999)
abbrev m_Ros_make : Nat := 163
def r_Alm_yearMadeFor : MR := (⟨"ChoirBook$Almanac", "yearMadeFor", "()I"⟩, prog_2_method_5_code, 1, some (.int), 0, 1, false, 1007, 1005, 1006)
abbrev m_Alm_yearMadeFor : Nat := 164
def r_Cho_awayBits : MR := (⟨"ChoirBook$Choir", "awayBits", "(II)I"⟩, prog_4_method_7_code, 5, some (.int), 2, 3, false, 1011, 1009, 1010)
abbrev m_Cho_awayBits : Nat := 165
def r_Ros_fillDay : MR := (⟨"ChoirBook$Roster", "fillDay", "(LChoirBook$Choir;II)I"⟩, prog_8_method_3_code, 10, some (.int), 6, 4, false, 1016, 1015, 37)
abbrev m_Ros_fillDay : Nat := 166
def r_Ros_manySeats : MR := (⟨"ChoirBook$Roster", "manySeats", "(II)I"⟩, prog_8_method_10_code, 2, some (.int), 6, 2, true, 1020, 1019, 9999)
abbrev m_Ros_manySeats : Nat := 167
def r_Ros_nextMonk : MR := (⟨"ChoirBook$Roster", "nextMonk", "(LChoirBook$Choir;II)I"⟩, prog_8_method_5_code, 7, some (.int), 6, 4, false, 1024, 1023, 38)
abbrev m_Ros_nextMonk : Nat := 168
def r_Cho_count : MR := (⟨"ChoirBook$Choir", "count", "()I"⟩, prog_4_method_5_code, 1, some (.int), 2, 1, false, 1028, 1026, 1027)
abbrev m_Cho_count : Nat := 169
def r_Cho_canDo : MR := (⟨"ChoirBook$Choir", "canDo", "(II)Z"⟩, prog_4_method_6_code, 3, some (.boolean), 2, 3, false, 1032, 1030, 1031)
abbrev m_Cho_canDo : Nat := 170
def r_Ros_isAhead : MR := (⟨"ChoirBook$Roster", "isAhead", "(III)Z"⟩, prog_8_method_6_code, 6, some (.boolean), 6, 4, false, 1036, 1035, 39)
abbrev m_Ros_isAhead : Nat := 171
def r_Ros_seatOf : MR := (⟨"ChoirBook$Roster", "seatOf", "(III)I"⟩, prog_8_method_9_code, 4, some (.int), 6, 3, true, 1039, 1038, 9999)
abbrev m_Ros_seatOf : Nat := 172
def r_Ros_enter : MR := (⟨"ChoirBook$Roster", "enter", "(III)V"⟩, prog_8_method_4_code, 5, none, 6, 4, false, 1043, 1042, 40)
abbrev m_Ros_enter : Nat := 173
def r_Bk_turn : MR := (⟨"ChoirBook", "turn", "(III)I"⟩, prog_1_method_31_code, 4, some (.int), 10, 4, false, 1047, 1045, 1046)
abbrev m_Bk_turn : Nat := 174
def r_Ros_monkAt : MR := (⟨"ChoirBook$Roster", "monkAt", "(III)I"⟩, prog_8_method_7_code, 4, some (.int), 6, 4, false, 1051, 1049, 1050)
abbrev m_Ros_monkAt : Nat := 175
def r_Bk_had : MR := (⟨"ChoirBook", "had", "(II)I"⟩, prog_1_method_32_code, 3, some (.int), 10, 3, false, 1055, 1053, 1054)
abbrev m_Bk_had : Nat := 176
def r_Ros_timesOf : MR := (⟨"ChoirBook$Roster", "timesOf", "(II)I"⟩, prog_8_method_8_code, 3, some (.int), 6, 3, false, 1060, 1058, 1059)
abbrev m_Ros_timesOf : Nat := 177
def r_Md_year : MR := (⟨"ChoirBookModel", "year", "(II)I"⟩, prog_13_method_9_code, 3, some (.int), 11, 3, false, 1065, 1063, 1064)
abbrev m_Md_year : Nat := 178
def r_Md_isYear : MR := (⟨"ChoirBookModel", "isYear", "(I)Z"⟩, prog_13_method_2_code, 1, some (.boolean), 11, 1, true, 1068, 1067, 9999)
abbrev m_Md_isYear : Nat := 179
def r_Md_in : MR := (⟨"ChoirBookModel", "in", "(III)Z"⟩, prog_13_method_1_code, 3, some (.boolean), 11, 3, true, 1071, 1070, 9999)
abbrev m_Md_in : Nat := 180
def r_Md_daysOf : MR := (⟨"ChoirBookModel", "daysOf", "(I)I"⟩, prog_13_method_4_code, 1, some (.int), 11, 1, true, 1074, 1073, 9999)
abbrev m_Md_daysOf : Nat := 181
def r_Md_isLeap : MR := (⟨"ChoirBookModel", "isLeap", "(I)Z"⟩, prog_13_method_3_code, 1, some (.boolean), 11, 1, true, 1077, 1076, 9999)
abbrev m_Md_isLeap : Nat := 182
def r_Md_firstWeekday : MR := (⟨"ChoirBookModel", "firstWeekday", "(I)I"⟩, prog_13_method_7_code, 3, some (.int), 11, 1, true, 1080, 1079, 9999)
abbrev m_Md_firstWeekday : Nat := 183
def r_Md_easter : MR := (⟨"ChoirBookModel", "easter", "(I)I"⟩, prog_13_method_8_code, 7, some (.int), 11, 1, true, 1083, 1082, 9999)
abbrev m_Md_easter : Nat := 184
def r_Md_dayOf : MR := (⟨"ChoirBookModel", "dayOf", "(III)I"⟩, prog_13_method_6_code, 5, some (.int), 11, 3, true, 1086, 1085, 9999)
abbrev m_Md_dayOf : Nat := 185
def r_Md_daysIn : MR := (⟨"ChoirBookModel", "daysIn", "(II)I"⟩, prog_13_method_5_code, 2, some (.int), 11, 2, true, 1089, 1088, 9999)
abbrev m_Md_daysIn : Nat := 186
def r_Md_day : MR := (⟨"ChoirBookModel", "day", "(III)I"⟩, prog_13_method_10_code, 4, some (.int), 11, 4, false, 1093, 1091, 1092)
abbrev m_Md_day : Nat := 187
def r_Md_season : MR := (⟨"ChoirBookModel", "season", "(IIIII)I"⟩, prog_13_method_12_code, 6, some (.int), 11, 6, false, 1097, 1095, 1096)
abbrev m_Md_season : Nat := 188
def r_Md_adds0 : MR := (⟨"ChoirBookModel", "adds0", "(ZIIIII)I"⟩, prog_13_method_11_code, 7, some (.int), 11, 7, false, 1102, 1100, 41)
abbrev m_Md_adds0 : Nat := 189
def r_Md_dated : MR := (⟨"ChoirBookModel", "dated", "(IIIII)I"⟩, prog_13_method_14_code, 6, some (.int), 11, 6, false, 1106, 1104, 1105)
abbrev m_Md_dated : Nat := 190
def r_Md_isDate : MR := (⟨"ChoirBookModel", "isDate", "(I)Z"⟩, prog_13_method_13_code, 1, some (.boolean), 11, 1, true, 1109, 1108, 9999)
abbrev m_Md_isDate : Nat := 191
def r_Md_feast : MR := (⟨"ChoirBookModel", "feast", "(IIIII)I"⟩, prog_13_method_16_code, 6, some (.int), 11, 6, false, 1113, 1111, 1112)
abbrev m_Md_feast : Nat := 192
def r_Md_isTold : MR := (⟨"ChoirBookModel", "isTold", "(II)Z"⟩, prog_13_method_15_code, 2, some (.boolean), 11, 2, true, 1116, 1115, 9999)
abbrev m_Md_isTold : Nat := 193
def r_Md_around : MR := (⟨"ChoirBookModel", "around", "(IIZ)I"⟩, prog_13_method_17_code, 4, some (.int), 11, 4, false, 1120, 1118, 1119)
abbrev m_Md_around : Nat := 194
def r_Md_raise : MR := (⟨"ChoirBookModel", "raise", "(III)I"⟩, prog_13_method_18_code, 4, some (.int), 11, 4, false, 1124, 1122, 1123)
abbrev m_Md_raise : Nat := 195
def r_Md_office : MR := (⟨"ChoirBookModel", "office", "(III)I"⟩, prog_13_method_33_code, 4, some (.int), 11, 4, false, 1128, 1126, 1127)
abbrev m_Md_office : Nat := 196
def r_Md_isDay : MR := (⟨"ChoirBookModel", "isDay", "(II)Z"⟩, prog_13_method_32_code, 2, some (.boolean), 11, 2, true, 1131, 1130, 9999)
abbrev m_Md_isDay : Nat := 197
def r_Md_reckon : MR := (⟨"ChoirBookModel", "reckon", "(I)V"⟩, prog_13_method_26_code, 5, none, 11, 2, false, 1135, 1134, 42)
abbrev m_Md_reckon : Nat := 198
def r_Md_feastDay : MR := (⟨"ChoirBookModel", "feastDay", "(III)I"⟩, prog_13_method_20_code, 6, some (.int), 11, 3, true, 1138, 1137, 9999)
abbrev m_Md_feastDay : Nat := 199
def r_Md_weekday : MR := (⟨"ChoirBookModel", "weekday", "(II)I"⟩, prog_13_method_19_code, 2, some (.int), 11, 2, true, 1141, 1140, 9999)
abbrev m_Md_weekday : Nat := 200
def r_Md_gather : MR := (⟨"ChoirBookModel", "gather", "(II)V"⟩, prog_13_method_23_code, 9, none, 11, 3, false, 1145, 1144, 43)
abbrev m_Md_gather : Nat := 201
def r_Md_isIn : MR := (⟨"ChoirBookModel", "isIn", "(IIII)Z"⟩, prog_13_method_21_code, 9, some (.boolean), 11, 5, false, 1149, 1148, 44)
abbrev m_Md_isIn : Nat := 202
def r_Md_meets : MR := (⟨"ChoirBookModel", "meets", "(IIIII)V"⟩, prog_13_method_22_code, 6, none, 11, 6, false, 1153, 1152, 45)
abbrev m_Md_meets : Nat := 203
def r_Md_isAhead : MR := (⟨"ChoirBookModel", "isAhead", "(II)Z"⟩, prog_13_method_25_code, 3, some (.boolean), 11, 3, false, 1157, 1156, 46)
abbrev m_Md_isAhead : Nat := 204
def r_Md_place : MR := (⟨"ChoirBookModel", "place", "(I)I"⟩, prog_13_method_24_code, 1, some (.int), 11, 1, true, 1160, 1159, 9999)
abbrev m_Md_place : Nat := 205
def r_Md_sets : MR := (⟨"ChoirBookModel", "sets", "(IIIII)V"⟩, prog_13_method_27_code, 6, none, 11, 6, false, 1164, 1163, 47)
abbrev m_Md_sets : Nat := 206
def r_Md_nextMoved : MR := (⟨"ChoirBookModel", "nextMoved", "()I"⟩, prog_13_method_29_code, 3, some (.int), 11, 1, false, 1168, 1167, 48)
abbrev m_Md_nextMoved : Nat := 207
def r_Md_isOffice : MR := (⟨"ChoirBookModel", "isOffice", "(II)Z"⟩, prog_13_method_28_code, 3, some (.boolean), 11, 3, false, 1172, 1171, 49)
abbrev m_Md_isOffice : Nat := 208
def r_Md_moves : MR := (⟨"ChoirBookModel", "moves", "(II)V"⟩, prog_13_method_30_code, 4, none, 11, 3, false, 1176, 1175, 50)
abbrev m_Md_moves : Nat := 209
def r_Md_commemorates : MR := (⟨"ChoirBookModel", "commemorates", "(II)V"⟩, prog_13_method_31_code, 7, none, 11, 3, false, 1180, 1179, 51)
abbrev m_Md_commemorates : Nat := 210
def r_Md_also : MR := (⟨"ChoirBookModel", "also", "(IIII)I"⟩, prog_13_method_34_code, 6, some (.int), 11, 5, false, 1184, 1182, 1183)
abbrev m_Md_also : Nat := 211
def r_Md_kept : MR := (⟨"ChoirBookModel", "kept", "(II)I"⟩, prog_13_method_36_code, 3, some (.int), 11, 3, false, 1188, 1186, 1187)
abbrev m_Md_kept : Nat := 212
def r_Md_keptDay : MR := (⟨"ChoirBookModel", "keptDay", "(II)I"⟩, prog_13_method_35_code, 4, some (.int), 11, 3, false, 1192, 1191, 52)
abbrev m_Md_keptDay : Nat := 213
def r_Md_tally : MR := (⟨"ChoirBookModel", "tally", "(III)I"⟩, prog_13_method_37_code, 8, some (.int), 11, 4, false, 1196, 1194, 1195)
abbrev m_Md_tally : Nat := 214
def r_Md_init : MR := (⟨"ChoirBookModel", "<init>", "()V"⟩, prog_13_method_38_code, 2, none, 11, 1, false, 1200, 1199, 9999)
abbrev m_Md_init : Nat := 215
def r_Md_verses : MR := (⟨"ChoirBookModel", "verses", "(II)I"⟩, prog_13_method_39_code, 4, some (.int), 11, 3, false, 1398, 1396, 1397)
abbrev m_Md_verses : Nat := 216
def r_Md_hours : MR := (⟨"ChoirBookModel", "hours", "(I)I"⟩, prog_13_method_40_code, 3, some (.int), 11, 2, false, 1402, 1400, 1401)
abbrev m_Md_hours : Nat := 217
def r_Md_fix : MR := (⟨"ChoirBookModel", "fix", "(II)I"⟩, prog_13_method_41_code, 4, some (.int), 11, 3, false, 1406, 1404, 1405)
abbrev m_Md_fix : Nat := 218
def r_Md_festal : MR := (⟨"ChoirBookModel", "festal", "(II)I"⟩, prog_13_method_42_code, 3, some (.int), 11, 3, false, 1410, 1408, 1409)
abbrev m_Md_festal : Nat := 219
def r_Md_limit : MR := (⟨"ChoirBookModel", "limit", "(I)I"⟩, prog_13_method_43_code, 3, some (.int), 11, 2, false, 1414, 1412, 1413)
abbrev m_Md_limit : Nat := 220
def r_Md_dealt : MR := (⟨"ChoirBookModel", "dealt", "(III)I"⟩, prog_13_method_46_code, 5, some (.int), 11, 4, false, 1418, 1416, 1417)
abbrev m_Md_dealt : Nat := 221
def r_Md_deal : MR := (⟨"ChoirBookModel", "deal", "()V"⟩, prog_13_method_45_code, 4, none, 11, 1, false, 1422, 1421, 53)
abbrev m_Md_deal : Nat := 222
def r_Md_deals : MR := (⟨"ChoirBookModel", "deals", "(I)Z"⟩, prog_13_method_44_code, 5, some (.boolean), 11, 2, false, 1426, 1425, 54)
abbrev m_Md_deals : Nat := 223
def r_Md_sung : MR := (⟨"ChoirBookModel", "sung", "(IIII)I"⟩, prog_13_method_49_code, 5, some (.int), 11, 5, false, 1430, 1428, 1429)
abbrev m_Md_sung : Nat := 224
def r_Md_sings : MR := (⟨"ChoirBookModel", "sings", "(II)V"⟩, prog_13_method_47_code, 6, none, 11, 3, false, 1434, 1433, 55)
abbrev m_Md_sings : Nat := 225
def r_Md_adds : MR := (⟨"ChoirBookModel", "adds", "(I)V"⟩, prog_13_method_48_code, 2, none, 11, 2, false, 1438, 1437, 56)
abbrev m_Md_adds : Nat := 226
def r_Md_times : MR := (⟨"ChoirBookModel", "times", "(IIII)I"⟩, prog_13_method_50_code, 9, some (.int), 11, 5, false, 1442, 1440, 1441)
abbrev m_Md_times : Nat := 227
def r_Md_tenor : MR := (⟨"ChoirBookModel", "tenor", "(II)I"⟩, prog_13_method_52_code, 3, some (.int), 11, 3, false, 1446, 1444, 1445)
abbrev m_Md_tenor : Nat := 228
def r_Md_isNote : MR := (⟨"ChoirBookModel", "isNote", "(I)Z"⟩, prog_13_method_51_code, 1, some (.boolean), 11, 1, true, 1449, 1448, 9999)
abbrev m_Md_isNote : Nat := 229
def r_Md_note : MR := (⟨"ChoirBookModel", "note", "(III)I"⟩, prog_13_method_53_code, 5, some (.int), 11, 4, false, 1453, 1451, 1452)
abbrev m_Md_note : Nat := 230
def r_Md_accent : MR := (⟨"ChoirBookModel", "accent", "(IIIIII)I"⟩, prog_13_method_54_code, 8, some (.int), 11, 7, false, 1457, 1455, 1456)
abbrev m_Md_accent : Nat := 231
def r_Md_accents : MR := (⟨"ChoirBookModel", "accents", "(III)I"⟩, prog_13_method_55_code, 4, some (.int), 11, 4, false, 1461, 1459, 1460)
abbrev m_Md_accents : Nat := 232
def r_Md_syllable : MR := (⟨"ChoirBookModel", "syllable", "(IZ)I"⟩, prog_13_method_56_code, 3, some (.int), 11, 3, false, 1465, 1463, 1464)
abbrev m_Md_syllable : Nat := 233
def r_Md_part : MR := (⟨"ChoirBookModel", "part", "(I)I"⟩, prog_13_method_57_code, 2, some (.int), 11, 2, false, 1469, 1467, 1468)
abbrev m_Md_part : Nat := 234
def r_Md_sing : MR := (⟨"ChoirBookModel", "sing", "(III)I"⟩, prog_13_method_60_code, 12, some (.int), 11, 4, false, 1473, 1471, 1472)
abbrev m_Md_sing : Nat := 235
def r_Md_isStressed : MR := (⟨"ChoirBookModel", "isStressed", "(III)Z"⟩, prog_13_method_58_code, 4, some (.boolean), 11, 4, false, 1477, 1476, 57)
abbrev m_Md_isStressed : Nat := 236
def r_Md_lastBut : MR := (⟨"ChoirBookModel", "lastBut", "(I)I"⟩, prog_13_method_59_code, 1, some (.int), 11, 1, true, 1480, 1479, 9999)
abbrev m_Md_lastBut : Nat := 237
def r_Md_byAccent : MR := (⟨"ChoirBookModel", "byAccent", "(IIIII)I"⟩, prog_13_method_61_code, 7, some (.int), 11, 6, false, 1484, 1483, 58)
abbrev m_Md_byAccent : Nat := 238
def r_Md_monk : MR := (⟨"ChoirBookModel", "monk", "(I)I"⟩, prog_13_method_62_code, 3, some (.int), 11, 2, false, 1488, 1486, 1487)
abbrev m_Md_monk : Nat := 239
def r_Md_absence : MR := (⟨"ChoirBookModel", "absence", "(IIII)I"⟩, prog_13_method_63_code, 5, some (.int), 11, 5, false, 1492, 1490, 1491)
abbrev m_Md_absence : Nat := 240
def r_Md_roster : MR := (⟨"ChoirBookModel", "roster", "(III)I"⟩, prog_13_method_66_code, 11, some (.int), 11, 4, false, 1496, 1494, 1495)
abbrev m_Md_roster : Nat := 241
def r_Md_chosen : MR := (⟨"ChoirBookModel", "chosen", "(IIII)I"⟩, prog_13_method_65_code, 9, some (.int), 11, 5, false, 1500, 1499, 59)
abbrev m_Md_chosen : Nat := 242
def r_Md_isThere : MR := (⟨"ChoirBookModel", "isThere", "(III)Z"⟩, prog_13_method_64_code, 6, some (.boolean), 11, 4, false, 1504, 1503, 60)
abbrev m_Md_isThere : Nat := 243
def r_Md_placeOf : MR := (⟨"ChoirBookModel", "placeOf", "(I)I"⟩, prog_13_method_67_code, 1, some (.int), 11, 1, true, 1507, 1506, 9999)
abbrev m_Md_placeOf : Nat := 244
def r_Md_turn : MR := (⟨"ChoirBookModel", "turn", "(III)I"⟩, prog_13_method_68_code, 4, some (.int), 11, 4, false, 1511, 1509, 1510)
abbrev m_Md_turn : Nat := 245
def r_Md_had : MR := (⟨"ChoirBookModel", "had", "(II)I"⟩, prog_13_method_69_code, 3, some (.int), 11, 3, false, 1515, 1513, 1514)
abbrev m_Md_had : Nat := 246
def r_Law_law : MR := (⟨"ChoirBookLaw", "law", "([I)Z"⟩, code, 4, some (.boolean), 12, 1, true, 9999, 9999, 9999)
abbrev m_Law_law : Nat := 247
def mtab_0 : List MR := [r_Bk_init, r_Sea_init, r_Fea_init, r_Alm_init, r_Psa_init, r_Ton_init, r_Cad_init, r_Ver_init, r_Cho_init, r_Ros_init, r_Bk_year, r_Day_isYear, r_Bk_within, r_Day_lengthOf, r_Day_isLeap, r_Day_firstWeekday, r_Day_easter, r_Day_firstOfMonth, r_Bk_at, r_Bk_day, r_Day_dayOf, r_Day_lengthOfMonth, r_Bk_season, r_Sea_tellFromEaster, r_Sea_add]
def mtab_1 : List MR := [r_Bk_put, r_Bk_forgetIfTold, r_Alm_forget, r_Bk_dated, r_Sea_tellByDates, r_Day_isRoughDate, r_Bk_feast, r_Fea_tell, r_Fea_isWhen, r_Day_isEverDate, r_Fea_isRankAndWay, r_Bk_around, r_Fea_surround, r_Fea_isTold, r_Bk_raise, r_Fea_change, r_Bk_office, r_Alm_openAt, r_Alm_build, r_Alm_layOutSeasons, r_Sea_count, r_Sea_lastDay, r_Sea_isByDates, r_Day_roughDay, r_Sea_firstDay]
def mtab_2 : List MR := [r_Fea_count, r_Fea_dayIn, r_Day_nthWeekday, r_Alm_considerAll, r_Alm_weekdayOf, r_Sea_rankOf, r_Alm_candidate, r_Alm_placeOf, r_Alm_consider, r_Alm_commemorate, r_Alm_considerFeast, r_Alm_feastCandidate, r_Fea_rankOf, r_Fea_wayOf, r_Fea_octaveOf, r_Fea_hasVigil, r_Alm_moveFeasts, r_Alm_nextToMove, r_Alm_isToMove, r_Alm_isMovedBefore, r_Alm_placeFor, r_Alm_givesWay, r_Alm_kindIn, r_Alm_feastIn, r_Alm_rankIn]
def mtab_3 : List MR := [r_Alm_settleFates, r_Alm_fateOnOwnDay, r_Alm_officeOn, r_Alm_colourIn, r_Sea_colourOf, r_Fea_colourOf, r_Alm_commemoratedOn, r_Alm_partOf, r_Bk_also, r_Alm_commemoration, r_Bk_kept, r_Alm_open, r_Alm_fateOf, r_Bk_tally, r_Alm_daysWith, r_Alm_movedFeasts, r_Alm_feastsOfFate, r_Bk_verses, r_Psa_setVerses, r_Psa_hasPsalm, r_Bk_hours, r_Psa_setHours, r_Psa_isUsedFrom, r_Bk_fix, r_Psa_setFixed]
def mtab_4 : List MR := [r_Psa_hasHour, r_Bk_festal, r_Psa_addFestal, r_Bk_limit, r_Psa_setFeastRank, r_Bk_dealt, r_Psa_leastLimit, r_Psa_deal, r_Psa_lineUp, r_Psa_findLimit, r_Psa_isEnough, r_Psa_endOfHour, r_Psa_markSlot, r_Psa_firstDealt, r_Psa_dealtPsalm, r_Psa_countDealt, r_Psa_manyDealt, r_Psa_versesDealt, r_Bk_sung, r_Alm_rankOn, r_Psa_psalmSung, r_Psa_isFestive, r_Psa_fixedPsalm, r_Bk_times, r_Psa_timesSung]
def mtab_5 : List MR := [r_Psa_countFestal, r_Bk_tenor, r_Bk_toneOf, r_Ton_setTenor, r_Ton_isNote, r_Bk_note, r_Ton_addNote, r_Ton_addIntonation, r_Cad_addBefore, r_Bk_accent, r_Bk_cadenceOf, r_Ton_cadenceAt, r_Cad_setAccent, r_Bk_accents, r_Cad_setMany, r_Bk_syllable, r_Bk_verseOf, r_Ver_addSyllable, r_Bk_part, r_Ver_cutHere, r_Bk_sing, r_Ver_isSungAt, r_Ton_noteAt, r_Ver_startOfHalf, r_Ver_isFirstHalf]
def mtab_6 : List MR := [r_Ver_endOfHalf, r_Ver_lastAccent, r_Ver_isStressedFrom, r_Cad_hasTwoAccents, r_Ver_firstAccent, r_Cad_noteFrom, r_Cad_noteAhead, r_Bk_monk, r_Cho_join, r_Bk_absence, r_Cho_sendAway, r_Cho_hasMonk, r_Bk_roster, r_Ros_make, r_Alm_yearMadeFor, r_Cho_awayBits, r_Ros_fillDay, r_Ros_manySeats, r_Ros_nextMonk, r_Cho_count, r_Cho_canDo, r_Ros_isAhead, r_Ros_seatOf, r_Ros_enter, r_Bk_turn]
def mtab_7 : List MR := [r_Ros_monkAt, r_Bk_had, r_Ros_timesOf, r_Md_year, r_Md_isYear, r_Md_in, r_Md_daysOf, r_Md_isLeap, r_Md_firstWeekday, r_Md_easter, r_Md_dayOf, r_Md_daysIn, r_Md_day, r_Md_season, r_Md_adds0, r_Md_dated, r_Md_isDate, r_Md_feast, r_Md_isTold, r_Md_around, r_Md_raise, r_Md_office, r_Md_isDay, r_Md_reckon, r_Md_feastDay]
def mtab_8 : List MR := [r_Md_weekday, r_Md_gather, r_Md_isIn, r_Md_meets, r_Md_isAhead, r_Md_place, r_Md_sets, r_Md_nextMoved, r_Md_isOffice, r_Md_moves, r_Md_commemorates, r_Md_also, r_Md_kept, r_Md_keptDay, r_Md_tally, r_Md_init, r_Md_verses, r_Md_hours, r_Md_fix, r_Md_festal, r_Md_limit, r_Md_dealt, r_Md_deal, r_Md_deals, r_Md_sung]
def mtab_9 : List MR := [r_Md_sings, r_Md_adds, r_Md_times, r_Md_tenor, r_Md_isNote, r_Md_note, r_Md_accent, r_Md_accents, r_Md_syllable, r_Md_part, r_Md_sing, r_Md_isStressed, r_Md_lastBut, r_Md_byAccent, r_Md_monk, r_Md_absence, r_Md_roster, r_Md_chosen, r_Md_isThere, r_Md_placeOf, r_Md_turn, r_Md_had, r_Law_law]
def mtabs : List (List MR) := [mtab_0, mtab_1, mtab_2, mtab_3, mtab_4, mtab_5, mtab_6, mtab_7, mtab_8, mtab_9]
def mrec (j : Nat) : Option MR := match mtabs[j / 25]? with | some l => l[j % 25]? | none => none
/-- getfield, putfield: by class, constant pool number: class of objects, field, place of the link -/
def fldT : List (List (Nat × Nat × Nat × Nat)) := [[(11, 0, 2, 152), (15, 0, 3, 153), (18, 0, 4, 154), (21, 0, 5, 155), (24, 0, 6, 156), (27, 0, 7, 157), (31, 0, 0, 150), (35, 0, 1, 151), (57, 0, 9, 159), (91, 0, 8, 158)], [(11, 1, 0, 237), (15, 1, 1, 238), (18, 1, 3, 240), (22, 1, 2, 239)], [(11, 2, 0, 289), (15, 2, 1, 290), (18, 2, 2, 291), (21, 2, 3, 292), (24, 2, 4, 293), (27, 2, 5, 294), (39, 2, 6, 295)], [], [(9, 3, 0, 119), (15, 3, 1, 120), (18, 3, 2, 121), (21, 3, 3, 122), (24, 3, 4, 123), (27, 3, 5, 124), (30, 3, 6, 125), (34, 3, 7, 126)], [(11, 4, 0, 187), (15, 4, 1, 188), (18, 4, 2, 189), (21, 4, 3, 190), (24, 4, 4, 191), (27, 4, 5, 192), (30, 4, 6, 193), (33, 4, 8, 195), (37, 4, 9, 196), (56, 4, 11, 198), (69, 4, 10, 197), (103, 4, 7, 194)], [(11, 5, 0, 317), (15, 5, 1, 318), (20, 5, 2, 319), (23, 5, 3, 320), (32, 5, 4, 321)], [(9, 6, 0, 89), (15, 6, 1, 90), (19, 6, 2, 91), (22, 6, 3, 92), (25, 6, 4, 93), (28, 6, 5, 94), (45, 6, 6, 95)], [(11, 7, 0, 250), (18, 7, 1, 251), (22, 7, 2, 252), (33, 7, 4, 254), (44, 7, 3, 253)], [(11, 8, 0, 273), (15, 8, 1, 274), (19, 8, 2, 275)], [(10, 9, 0, 333), (19, 9, 1, 334), (28, 9, 2, 335), (35, 9, 3, 336), (41, 9, 4, 337), (48, 9, 5, 338), (56, 9, 6, 339), (63, 9, 7, 340)], [(32, 10, 0, 1202), (36, 10, 2, 1204), (40, 10, 3, 1205), (44, 10, 4, 1206), (47, 10, 5, 1207), (50, 10, 6, 1208), (53, 10, 7, 1209), (56, 10, 15, 1217), (66, 10, 1, 1203), (73, 10, 8, 1210), (76, 10, 9, 1211), (79, 10, 10, 1212), (82, 10, 11, 1213), (85, 10, 12, 1214), (88, 10, 13, 1215), (91, 10, 14, 1216), (97, 10, 23, 1225), (100, 10, 22, 1224), (103, 10, 24, 1226), (106, 10, 25, 1227), (109, 10, 26, 1228), (112, 10, 27, 1229), (115, 10, 28, 1230), (122, 10, 29, 1231), (129, 10, 16, 1218), (138, 10, 17, 1219), (158, 10, 18, 1220), (161, 10, 19, 1221), (164, 10, 20, 1222), (167, 10, 21, 1223), (173, 10, 30, 1232), (176, 10, 31, 1233), (198, 10, 32, 1234), (201, 10, 33, 1235), (204, 10, 34, 1236), (207, 10, 35, 1237), (210, 10, 36, 1238), (213, 10, 37, 1239), (216, 10, 39, 1241), (219, 10, 40, 1242), (222, 10, 41, 1243), (225, 10, 43, 1245), (228, 10, 44, 1246), (231, 10, 45, 1247), (234, 10, 46, 1248), (237, 10, 47, 1249), (240, 10, 48, 1250), (243, 10, 49, 1251), (246, 10, 50, 1252), (249, 10, 51, 1253), (252, 10, 54, 1256), (255, 10, 55, 1257), (258, 10, 56, 1258), (261, 10, 57, 1259), (264, 10, 58, 1260), (267, 10, 60, 1262), (270, 10, 61, 1263), (273, 10, 62, 1264), (276, 10, 63, 1265), (282, 10, 38, 1240), (288, 10, 42, 1244), (310, 10, 52, 1254), (313, 10, 53, 1255), (319, 10, 59, 1261)], [], []]
/-- calls: by class, constant pool number: the method, how (0 static, 1 static of a nest mate, 2 virtual, 4 constructor, 5 constructor of a nest mate), place of the link -/
def invT : List (List (Nat × Nat × Nat × Nat)) := [[(39, 11, 0, 483), (45, 43, 2, 486), (49, 13, 0, 484), (53, 12, 1, 485), (60, 18, 1, 548), (64, 78, 2, 636), (68, 81, 2, 648), (71, 72, 0, 615), (74, 73, 0, 618), (77, 82, 0, 652), (80, 74, 0, 621), (83, 79, 2, 640), (88, 80, 2, 644), (94, 77, 2, 684), (97, 50, 2, 524), (101, 15, 0, 490), (103, 44, 2, 491), (106, 51, 2, 528), (109, 25, 1, 523), (113, 53, 2, 540), (117, 66, 2, 591), (120, 75, 2, 624), (123, 45, 2, 495), (124, 46, 2, 499), (127, 0, 7, 515), (132, 49, 2, 516), (135, 0, 6, 520), (138, 54, 2, 544), (141, 55, 2, 549), (144, 56, 0, 553), (148, 58, 2, 559), (152, 60, 2, 567), (156, 61, 2, 571), (159, 63, 2, 579), (162, 64, 2, 583), (165, 65, 2, 587), (168, 59, 2, 563), (172, 67, 2, 595), (175, 70, 2, 607), (178, 68, 2, 599), (181, 69, 2, 603), (185, 62, 2, 575), (187, 71, 2, 611), (190, 76, 2, 628), (193, 57, 0, 556)], [(25, 25, 1, 870), (29, 12, 1, 887), (33, 129, 0, 888), (39, 18, 1, 963)], [(31, 12, 1, 977), (35, 25, 1, 978), (42, 161, 2, 987), (46, 11, 0, 991), (51, 13, 0, 992), (55, 18, 1, 1012)], [(9, 12, 1, 365), (13, 14, 0, 371), (19, 17, 0, 380), (27, 18, 1, 385), (34, 21, 0, 395), (37, 20, 0, 449), (41, 0, 7, 511), (46, 15, 0, 539)], [(38, 33, 0, 443), (42, 35, 0, 451), (45, 12, 1, 450), (49, 25, 1, 454), (53, 34, 0, 446), (59, 38, 2, 463), (62, 18, 1, 532), (66, 20, 0, 533), (70, 16, 0, 534), (74, 13, 0, 535), (77, 52, 0, 536)], [(40, 12, 1, 705), (44, 94, 2, 701), (48, 18, 1, 706), (52, 25, 1, 707), (60, 97, 2, 716), (63, 100, 2, 728), (66, 107, 2, 756), (72, 114, 2, 787), (76, 115, 2, 791), (80, 121, 2, 816), (84, 122, 2, 820), (87, 125, 2, 833), (90, 108, 2, 760), (93, 109, 2, 764), (96, 111, 2, 773), (99, 112, 2, 777), (106, 0, 6, 768), (111, 110, 2, 769)], [(26, 0, 7, 1001), (36, 119, 2, 1002), (42, 25, 1, 1003), (46, 164, 2, 1004), (50, 165, 2, 1008), (53, 166, 2, 1013), (57, 18, 1, 1017), (61, 167, 0, 1018), (64, 168, 2, 1021), (67, 172, 0, 1037), (71, 173, 2, 1040), (75, 169, 2, 1025), (78, 170, 2, 1029), (82, 171, 2, 1033), (86, 12, 1, 1061)], [(31, 12, 1, 408), (35, 24, 2, 409), (39, 30, 0, 432), (49, 25, 1, 413), (53, 47, 2, 503), (56, 18, 1, 507), (60, 48, 0, 508), (64, 16, 0, 514)], [(17, 6, 5, 233), (25, 12, 1, 852), (29, 129, 0, 849), (37, 132, 2, 861), (41, 133, 2, 866), (47, 25, 1, 865), (51, 148, 2, 929), (56, 150, 2, 937), (59, 149, 2, 941), (62, 151, 2, 942), (66, 153, 2, 951), (70, 154, 2, 955), (73, 155, 2, 959), (77, 156, 2, 964), (80, 18, 1, 968)], [(22, 149, 2, 933), (26, 152, 2, 946), (30, 0, 6, 950)], [(9, 1, 5, 85), (18, 2, 5, 115), (25, 3, 4, 146), (34, 4, 4, 183), (45, 5, 5, 227), (52, 7, 5, 269), (55, 8, 5, 285), (62, 9, 5, 313), (67, 11, 0, 362), (73, 13, 0, 368), (77, 15, 0, 374), (80, 16, 0, 377), (83, 20, 0, 392), (87, 23, 2, 404), (91, 26, 2, 416), (94, 29, 2, 428), (97, 32, 2, 439), (100, 37, 2, 459), (104, 40, 2, 471), (107, 42, 2, 479), (111, 77, 2, 632), (115, 84, 2, 659), (118, 38, 2, 667), (121, 86, 2, 668), (124, 87, 2, 672), (127, 89, 2, 680), (130, 90, 2, 685), (134, 91, 2, 689), (137, 93, 2, 697), (140, 96, 2, 712), (143, 99, 2, 724), (146, 102, 2, 736), (149, 104, 2, 744), (152, 106, 2, 752), (155, 12, 0, 781), (159, 100, 2, 782), (162, 113, 2, 783), (165, 116, 2, 795), (168, 117, 2, 799), (171, 54, 2, 807), (174, 119, 2, 808), (177, 120, 2, 812), (181, 94, 2, 828), (184, 124, 2, 829), (187, 127, 2, 841), (191, 128, 2, 845), (194, 131, 2, 857), (197, 135, 2, 875), (201, 137, 2, 883), (206, 139, 2, 893), (209, 141, 2, 901), (213, 142, 2, 905), (217, 144, 2, 913), (220, 146, 2, 921), (223, 147, 2, 925), (227, 158, 2, 973), (230, 160, 2, 983), (233, 163, 2, 997), (237, 175, 2, 1048), (240, 161, 2, 1056), (243, 177, 2, 1057), (246, 27, 2, 420), (249, 136, 2, 879)], [(1, 180, 0, 1069), (7, 182, 0, 1075), (11, 186, 0, 1087), (15, 181, 0, 1072), (19, 185, 0, 1084), (23, 179, 0, 1066), (26, 183, 0, 1078), (29, 184, 0, 1081), (59, 189, 2, 1098), (63, 191, 0, 1107), (69, 193, 0, 1114), (94, 200, 0, 1139), (118, 202, 2, 1146), (125, 203, 2, 1150), (132, 205, 0, 1158), (135, 199, 0, 1136), (141, 201, 2, 1142), (145, 204, 2, 1154), (148, 206, 2, 1161), (151, 207, 2, 1165), (155, 209, 2, 1173), (170, 208, 2, 1169), (179, 197, 0, 1129), (182, 198, 2, 1132), (186, 210, 2, 1177), (189, 213, 2, 1189), (279, 223, 2, 1423), (285, 222, 2, 1419), (291, 226, 2, 1435), (294, 225, 2, 1431), (297, 229, 0, 1447), (300, 236, 2, 1474), (303, 237, 0, 1478), (306, 238, 2, 1481), (316, 243, 2, 1501), (322, 242, 2, 1497), (326, 244, 0, 1505)], [(9, 0, 4, 77), (12, 215, 4, 1198), (13, 10, 2, 358), (17, 178, 2, 1062), (18, 19, 2, 388), (22, 187, 2, 1090), (23, 22, 2, 400), (27, 188, 2, 1094), (28, 28, 2, 424), (31, 190, 2, 1103), (32, 31, 2, 435), (35, 192, 2, 1110), (36, 36, 2, 455), (40, 194, 2, 1117), (41, 39, 2, 467), (44, 195, 2, 1121), (45, 41, 2, 475), (48, 196, 2, 1125), (49, 83, 2, 655), (53, 211, 2, 1181), (54, 85, 2, 663), (57, 212, 2, 1185), (58, 88, 2, 676), (61, 214, 2, 1193), (62, 92, 2, 693), (65, 216, 2, 1395), (66, 95, 2, 708), (70, 217, 2, 1399), (71, 98, 2, 720), (74, 218, 2, 1403), (75, 101, 2, 732), (78, 219, 2, 1407), (79, 103, 2, 740), (82, 220, 2, 1411), (83, 105, 2, 748), (86, 221, 2, 1415), (87, 118, 2, 803), (90, 224, 2, 1427), (91, 123, 2, 824), (94, 227, 2, 1439), (95, 126, 2, 837), (98, 228, 2, 1443), (99, 130, 2, 853), (102, 230, 2, 1450), (103, 134, 2, 871), (107, 231, 2, 1454), (108, 138, 2, 889), (111, 232, 2, 1458), (112, 140, 2, 897), (116, 233, 2, 1462), (117, 143, 2, 909), (120, 234, 2, 1466), (121, 145, 2, 917), (124, 235, 2, 1470), (125, 157, 2, 969), (128, 239, 2, 1485), (129, 159, 2, 979), (132, 240, 2, 1489), (133, 162, 2, 993), (136, 241, 2, 1493), (137, 174, 2, 1044), (140, 245, 2, 1508), (141, 176, 2, 1052), (144, 246, 2, 1512)], []]
def objT : List (List (Nat × Nat)) := [[(5, 149)], [(3, 236)], [(3, 288)], [], [(3, 118)], [(3, 186)], [(5, 316)], [(3, 88)], [(3, 230)], [(3, 272)], [(1, 80)], [(192, 1201)], [], []]
/-- new: class of objects, place of the class link, of its size -/
def newT : List (List (Nat × Nat × Nat × Nat)) := [[], [], [], [], [], [], [], [], [(15, 1, 231, 232)], [], [(7, 6, 83, 84), (16, 3, 113, 114), (23, 0, 144, 145), (32, 4, 181, 182), (39, 7, 224, 226), (46, 8, 266, 268), (53, 2, 283, 284), (60, 5, 311, 312)], [], [(7, 9, 75, 76), (10, 10, 1197, 1101)], []]
def anT : List (List (Nat × String × Nat × Nat)) := [[], [], [], [], [], [], [], [], [], [], [(39, "ChoirBook$Tone", 224, 225), (46, "ChoirBook$Verse", 266, 267)], [], [], []]
/-- getstatic: which array, place of the link -/
def gsT : List (List (Nat × Nat × Nat)) := [[], [], [], [(23, 1, 398), (31, 2, 383)], [], [], [], [], [], [], [], [], [], []]
def ML : List Int32 := [31, 28, 31, 30, 31, 30, 31, 31, 30, 31, 30, 31]
def MS : List Int32 := [0, 31, 59, 90, 120, 151, 181, 212, 243, 273, 304, 334]
def gsN (j : Nat) : String := if j = 1 then "MONTH_LENGTHS" else "MONTH_STARTS"
/-- the words at their places -/
def gw : List Cond := lw_tbl.filter goodWord
def ckw (i : Nat) (w : Cond) : Bool := decide (lw_tbl[i]? = some w) && goodWord w
def ckn (i : Nat) (w : Cond) : Bool := decide (lw_tbl[i]? = some w)
theorem ckw_in {i : Nat} {w : Cond} (h : ckw i w = true) : w ∈ gw := by
  simp only [ckw, Bool.and_eq_true, decide_eq_true_eq] at h
  exact List.mem_filter.mpr ⟨List.mem_of_getElem? h.1, h.2⟩
theorem ckn_in {i : Nat} {w : Cond} (h : ckn i w = true) : w ∈ lw_tbl := List.mem_of_getElem? (of_decide_eq_true h)
def cdw (r : MR) : Prop := (.code r.1 r.2.1 r.2.2.1 r.2.2.2.1 : Cond) ∈ gw
theorem cdw_of {r : MR} (h : lw_tbl[r.2.2.2.2.2.2.2.1]? = some (.code r.1 r.2.1 r.2.2.1 r.2.2.2.1)) : cdw r := List.mem_filter.mpr ⟨List.mem_of_getElem? h, rfl⟩
def ck_m (r : MR) : Bool := (if r.2.2.2.2.2.2.1 then ckw r.2.2.2.2.2.2.2.2.1 (.static r.1) else ckw r.2.2.2.2.2.2.2.2.1 (.instanceMethod r.1)) && (r.2.2.2.2.2.2.2.2.2 == 9999 || ckw r.2.2.2.2.2.2.2.2.2 (.selects r.1.cls r.1 r.1)) && plainName r.1.cls && decide (r.1.cls ≠ "java/lang/invoke/MethodHandle" ∧ r.1.cls ≠ "java/lang/invoke/VarHandle") && decide ((parseMethodDescriptor r.1.desc).map (fun d => d.parameters.length) = some (if r.2.2.2.2.2.2.1 then r.2.2.2.2.2.1 else r.2.2.2.2.2.1 - 1)) && decide (1 ≤ r.2.2.2.2.2.1 ∨ r.2.2.2.2.2.2.1 = true) && decide (kN[r.2.2.2.2.1]? = some r.1.cls) && decide (r.2.2.2.2.2.1 ≤ r.2.2.1) && decide (r.2.2.1 ≤ 20)
theorem ck_m0 : mtab_0.all ck_m = true := by decide +kernel
theorem ck_m1 : mtab_1.all ck_m = true := by decide +kernel
theorem ck_m2 : mtab_2.all ck_m = true := by decide +kernel
theorem ck_m3 : mtab_3.all ck_m = true := by decide +kernel
theorem ck_m4 : mtab_4.all ck_m = true := by decide +kernel
theorem ck_m5 : mtab_5.all ck_m = true := by decide +kernel
theorem ck_m6 : mtab_6.all ck_m = true := by decide +kernel
theorem ck_m7 : mtab_7.all ck_m = true := by decide +kernel
theorem ck_m8 : mtab_8.all ck_m = true := by decide +kernel
theorem ck_m9 : (mtab_9.take 22).all ck_m = true := by decide +kernel
set_option maxRecDepth 100000 in
theorem cw_Bk_init : cdw r_Bk_init := cdw_of rfl
set_option maxRecDepth 100000 in
theorem cw_Sea_init : cdw r_Sea_init := cdw_of rfl
set_option maxRecDepth 100000 in
theorem cw_Fea_init : cdw r_Fea_init := cdw_of rfl
set_option maxRecDepth 100000 in
theorem cw_Alm_init : cdw r_Alm_init := cdw_of rfl
set_option maxRecDepth 100000 in
theorem cw_Psa_init : cdw r_Psa_init := cdw_of rfl
set_option maxRecDepth 100000 in
theorem cw_Ton_init : cdw r_Ton_init := cdw_of rfl
set_option maxRecDepth 100000 in
theorem cw_Cad_init : cdw r_Cad_init := cdw_of rfl
set_option maxRecDepth 100000 in
theorem cw_Ver_init : cdw r_Ver_init := cdw_of rfl
set_option maxRecDepth 100000 in
theorem cw_Cho_init : cdw r_Cho_init := cdw_of rfl
set_option maxRecDepth 100000 in
theorem cw_Ros_init : cdw r_Ros_init := cdw_of rfl
set_option maxRecDepth 100000 in
theorem cw_Bk_year : cdw r_Bk_year := cdw_of rfl
set_option maxRecDepth 100000 in
theorem cw_Day_isYear : cdw r_Day_isYear := cdw_of rfl
set_option maxRecDepth 100000 in
theorem cw_Bk_within : cdw r_Bk_within := cdw_of rfl
set_option maxRecDepth 100000 in
theorem cw_Day_lengthOf : cdw r_Day_lengthOf := cdw_of rfl
set_option maxRecDepth 100000 in
theorem cw_Day_isLeap : cdw r_Day_isLeap := cdw_of rfl
set_option maxRecDepth 100000 in
theorem cw_Day_firstWeekday : cdw r_Day_firstWeekday := cdw_of rfl
set_option maxRecDepth 100000 in
theorem cw_Day_easter : cdw r_Day_easter := cdw_of rfl
set_option maxRecDepth 100000 in
theorem cw_Day_firstOfMonth : cdw r_Day_firstOfMonth := cdw_of rfl
set_option maxRecDepth 100000 in
theorem cw_Bk_at : cdw r_Bk_at := cdw_of rfl
set_option maxRecDepth 100000 in
theorem cw_Bk_day : cdw r_Bk_day := cdw_of rfl
set_option maxRecDepth 100000 in
theorem cw_Day_dayOf : cdw r_Day_dayOf := cdw_of rfl
set_option maxRecDepth 100000 in
theorem cw_Day_lengthOfMonth : cdw r_Day_lengthOfMonth := cdw_of rfl
set_option maxRecDepth 100000 in
theorem cw_Bk_season : cdw r_Bk_season := cdw_of rfl
set_option maxRecDepth 100000 in
theorem cw_Sea_tellFromEaster : cdw r_Sea_tellFromEaster := cdw_of rfl
set_option maxRecDepth 100000 in
theorem cw_Sea_add : cdw r_Sea_add := cdw_of rfl
set_option maxRecDepth 100000 in
theorem cw_Bk_put : cdw r_Bk_put := cdw_of rfl
set_option maxRecDepth 100000 in
theorem cw_Bk_forgetIfTold : cdw r_Bk_forgetIfTold := cdw_of rfl
set_option maxRecDepth 100000 in
theorem cw_Alm_forget : cdw r_Alm_forget := cdw_of rfl
set_option maxRecDepth 100000 in
theorem cw_Bk_dated : cdw r_Bk_dated := cdw_of rfl
set_option maxRecDepth 100000 in
theorem cw_Sea_tellByDates : cdw r_Sea_tellByDates := cdw_of rfl
set_option maxRecDepth 100000 in
theorem cw_Day_isRoughDate : cdw r_Day_isRoughDate := cdw_of rfl
set_option maxRecDepth 100000 in
theorem cw_Bk_feast : cdw r_Bk_feast := cdw_of rfl
set_option maxRecDepth 100000 in
theorem cw_Fea_tell : cdw r_Fea_tell := cdw_of rfl
set_option maxRecDepth 100000 in
theorem cw_Fea_isWhen : cdw r_Fea_isWhen := cdw_of rfl
set_option maxRecDepth 100000 in
theorem cw_Day_isEverDate : cdw r_Day_isEverDate := cdw_of rfl
set_option maxRecDepth 100000 in
theorem cw_Fea_isRankAndWay : cdw r_Fea_isRankAndWay := cdw_of rfl
set_option maxRecDepth 100000 in
theorem cw_Bk_around : cdw r_Bk_around := cdw_of rfl
set_option maxRecDepth 100000 in
theorem cw_Fea_surround : cdw r_Fea_surround := cdw_of rfl
set_option maxRecDepth 100000 in
theorem cw_Fea_isTold : cdw r_Fea_isTold := cdw_of rfl
set_option maxRecDepth 100000 in
theorem cw_Bk_raise : cdw r_Bk_raise := cdw_of rfl
set_option maxRecDepth 100000 in
theorem cw_Fea_change : cdw r_Fea_change := cdw_of rfl
set_option maxRecDepth 100000 in
theorem cw_Bk_office : cdw r_Bk_office := cdw_of rfl
set_option maxRecDepth 100000 in
theorem cw_Alm_openAt : cdw r_Alm_openAt := cdw_of rfl
set_option maxRecDepth 100000 in
theorem cw_Alm_build : cdw r_Alm_build := cdw_of rfl
set_option maxRecDepth 100000 in
theorem cw_Alm_layOutSeasons : cdw r_Alm_layOutSeasons := cdw_of rfl
set_option maxRecDepth 100000 in
theorem cw_Sea_count : cdw r_Sea_count := cdw_of rfl
set_option maxRecDepth 100000 in
theorem cw_Sea_lastDay : cdw r_Sea_lastDay := cdw_of rfl
set_option maxRecDepth 100000 in
theorem cw_Sea_isByDates : cdw r_Sea_isByDates := cdw_of rfl
set_option maxRecDepth 100000 in
theorem cw_Day_roughDay : cdw r_Day_roughDay := cdw_of rfl
set_option maxRecDepth 100000 in
theorem cw_Sea_firstDay : cdw r_Sea_firstDay := cdw_of rfl
set_option maxRecDepth 100000 in
theorem cw_Fea_count : cdw r_Fea_count := cdw_of rfl
set_option maxRecDepth 100000 in
theorem cw_Fea_dayIn : cdw r_Fea_dayIn := cdw_of rfl
set_option maxRecDepth 100000 in
theorem cw_Day_nthWeekday : cdw r_Day_nthWeekday := cdw_of rfl
set_option maxRecDepth 100000 in
theorem cw_Alm_considerAll : cdw r_Alm_considerAll := cdw_of rfl
set_option maxRecDepth 100000 in
theorem cw_Alm_weekdayOf : cdw r_Alm_weekdayOf := cdw_of rfl
set_option maxRecDepth 100000 in
theorem cw_Sea_rankOf : cdw r_Sea_rankOf := cdw_of rfl
set_option maxRecDepth 100000 in
theorem cw_Alm_candidate : cdw r_Alm_candidate := cdw_of rfl
set_option maxRecDepth 100000 in
theorem cw_Alm_placeOf : cdw r_Alm_placeOf := cdw_of rfl
set_option maxRecDepth 100000 in
theorem cw_Alm_consider : cdw r_Alm_consider := cdw_of rfl
set_option maxRecDepth 100000 in
theorem cw_Alm_commemorate : cdw r_Alm_commemorate := cdw_of rfl
set_option maxRecDepth 100000 in
theorem cw_Alm_considerFeast : cdw r_Alm_considerFeast := cdw_of rfl
set_option maxRecDepth 100000 in
theorem cw_Alm_feastCandidate : cdw r_Alm_feastCandidate := cdw_of rfl
set_option maxRecDepth 100000 in
theorem cw_Fea_rankOf : cdw r_Fea_rankOf := cdw_of rfl
set_option maxRecDepth 100000 in
theorem cw_Fea_wayOf : cdw r_Fea_wayOf := cdw_of rfl
set_option maxRecDepth 100000 in
theorem cw_Fea_octaveOf : cdw r_Fea_octaveOf := cdw_of rfl
set_option maxRecDepth 100000 in
theorem cw_Fea_hasVigil : cdw r_Fea_hasVigil := cdw_of rfl
set_option maxRecDepth 100000 in
theorem cw_Alm_moveFeasts : cdw r_Alm_moveFeasts := cdw_of rfl
set_option maxRecDepth 100000 in
theorem cw_Alm_nextToMove : cdw r_Alm_nextToMove := cdw_of rfl
set_option maxRecDepth 100000 in
theorem cw_Alm_isToMove : cdw r_Alm_isToMove := cdw_of rfl
set_option maxRecDepth 100000 in
theorem cw_Alm_isMovedBefore : cdw r_Alm_isMovedBefore := cdw_of rfl
set_option maxRecDepth 100000 in
theorem cw_Alm_placeFor : cdw r_Alm_placeFor := cdw_of rfl
set_option maxRecDepth 100000 in
theorem cw_Alm_givesWay : cdw r_Alm_givesWay := cdw_of rfl
set_option maxRecDepth 100000 in
theorem cw_Alm_kindIn : cdw r_Alm_kindIn := cdw_of rfl
set_option maxRecDepth 100000 in
theorem cw_Alm_feastIn : cdw r_Alm_feastIn := cdw_of rfl
set_option maxRecDepth 100000 in
theorem cw_Alm_rankIn : cdw r_Alm_rankIn := cdw_of rfl
set_option maxRecDepth 100000 in
theorem cw_Alm_settleFates : cdw r_Alm_settleFates := cdw_of rfl
set_option maxRecDepth 100000 in
theorem cw_Alm_fateOnOwnDay : cdw r_Alm_fateOnOwnDay := cdw_of rfl
set_option maxRecDepth 100000 in
theorem cw_Alm_officeOn : cdw r_Alm_officeOn := cdw_of rfl
set_option maxRecDepth 100000 in
theorem cw_Alm_colourIn : cdw r_Alm_colourIn := cdw_of rfl
set_option maxRecDepth 100000 in
theorem cw_Sea_colourOf : cdw r_Sea_colourOf := cdw_of rfl
set_option maxRecDepth 100000 in
theorem cw_Fea_colourOf : cdw r_Fea_colourOf := cdw_of rfl
set_option maxRecDepth 100000 in
theorem cw_Alm_commemoratedOn : cdw r_Alm_commemoratedOn := cdw_of rfl
set_option maxRecDepth 100000 in
theorem cw_Alm_partOf : cdw r_Alm_partOf := cdw_of rfl
set_option maxRecDepth 100000 in
theorem cw_Bk_also : cdw r_Bk_also := cdw_of rfl
set_option maxRecDepth 100000 in
theorem cw_Alm_commemoration : cdw r_Alm_commemoration := cdw_of rfl
set_option maxRecDepth 100000 in
theorem cw_Bk_kept : cdw r_Bk_kept := cdw_of rfl
set_option maxRecDepth 100000 in
theorem cw_Alm_open : cdw r_Alm_open := cdw_of rfl
set_option maxRecDepth 100000 in
theorem cw_Alm_fateOf : cdw r_Alm_fateOf := cdw_of rfl
set_option maxRecDepth 100000 in
theorem cw_Bk_tally : cdw r_Bk_tally := cdw_of rfl
set_option maxRecDepth 100000 in
theorem cw_Alm_daysWith : cdw r_Alm_daysWith := cdw_of rfl
set_option maxRecDepth 100000 in
theorem cw_Alm_movedFeasts : cdw r_Alm_movedFeasts := cdw_of rfl
set_option maxRecDepth 100000 in
theorem cw_Alm_feastsOfFate : cdw r_Alm_feastsOfFate := cdw_of rfl
set_option maxRecDepth 100000 in
theorem cw_Bk_verses : cdw r_Bk_verses := cdw_of rfl
set_option maxRecDepth 100000 in
theorem cw_Psa_setVerses : cdw r_Psa_setVerses := cdw_of rfl
set_option maxRecDepth 100000 in
theorem cw_Psa_hasPsalm : cdw r_Psa_hasPsalm := cdw_of rfl
set_option maxRecDepth 100000 in
theorem cw_Bk_hours : cdw r_Bk_hours := cdw_of rfl
set_option maxRecDepth 100000 in
theorem cw_Psa_setHours : cdw r_Psa_setHours := cdw_of rfl
set_option maxRecDepth 100000 in
theorem cw_Psa_isUsedFrom : cdw r_Psa_isUsedFrom := cdw_of rfl
set_option maxRecDepth 100000 in
theorem cw_Bk_fix : cdw r_Bk_fix := cdw_of rfl
set_option maxRecDepth 100000 in
theorem cw_Psa_setFixed : cdw r_Psa_setFixed := cdw_of rfl
set_option maxRecDepth 100000 in
theorem cw_Psa_hasHour : cdw r_Psa_hasHour := cdw_of rfl
set_option maxRecDepth 100000 in
theorem cw_Bk_festal : cdw r_Bk_festal := cdw_of rfl
set_option maxRecDepth 100000 in
theorem cw_Psa_addFestal : cdw r_Psa_addFestal := cdw_of rfl
set_option maxRecDepth 100000 in
theorem cw_Bk_limit : cdw r_Bk_limit := cdw_of rfl
set_option maxRecDepth 100000 in
theorem cw_Psa_setFeastRank : cdw r_Psa_setFeastRank := cdw_of rfl
set_option maxRecDepth 100000 in
theorem cw_Bk_dealt : cdw r_Bk_dealt := cdw_of rfl
set_option maxRecDepth 100000 in
theorem cw_Psa_leastLimit : cdw r_Psa_leastLimit := cdw_of rfl
set_option maxRecDepth 100000 in
theorem cw_Psa_deal : cdw r_Psa_deal := cdw_of rfl
set_option maxRecDepth 100000 in
theorem cw_Psa_lineUp : cdw r_Psa_lineUp := cdw_of rfl
set_option maxRecDepth 100000 in
theorem cw_Psa_findLimit : cdw r_Psa_findLimit := cdw_of rfl
set_option maxRecDepth 100000 in
theorem cw_Psa_isEnough : cdw r_Psa_isEnough := cdw_of rfl
set_option maxRecDepth 100000 in
theorem cw_Psa_endOfHour : cdw r_Psa_endOfHour := cdw_of rfl
set_option maxRecDepth 100000 in
theorem cw_Psa_markSlot : cdw r_Psa_markSlot := cdw_of rfl
set_option maxRecDepth 100000 in
theorem cw_Psa_firstDealt : cdw r_Psa_firstDealt := cdw_of rfl
set_option maxRecDepth 100000 in
theorem cw_Psa_dealtPsalm : cdw r_Psa_dealtPsalm := cdw_of rfl
set_option maxRecDepth 100000 in
theorem cw_Psa_countDealt : cdw r_Psa_countDealt := cdw_of rfl
set_option maxRecDepth 100000 in
theorem cw_Psa_manyDealt : cdw r_Psa_manyDealt := cdw_of rfl
set_option maxRecDepth 100000 in
theorem cw_Psa_versesDealt : cdw r_Psa_versesDealt := cdw_of rfl
set_option maxRecDepth 100000 in
theorem cw_Bk_sung : cdw r_Bk_sung := cdw_of rfl
set_option maxRecDepth 100000 in
theorem cw_Alm_rankOn : cdw r_Alm_rankOn := cdw_of rfl
set_option maxRecDepth 100000 in
theorem cw_Psa_psalmSung : cdw r_Psa_psalmSung := cdw_of rfl
set_option maxRecDepth 100000 in
theorem cw_Psa_isFestive : cdw r_Psa_isFestive := cdw_of rfl
set_option maxRecDepth 100000 in
theorem cw_Psa_fixedPsalm : cdw r_Psa_fixedPsalm := cdw_of rfl
set_option maxRecDepth 100000 in
theorem cw_Bk_times : cdw r_Bk_times := cdw_of rfl
set_option maxRecDepth 100000 in
theorem cw_Psa_timesSung : cdw r_Psa_timesSung := cdw_of rfl
set_option maxRecDepth 100000 in
theorem cw_Psa_countFestal : cdw r_Psa_countFestal := cdw_of rfl
set_option maxRecDepth 100000 in
theorem cw_Bk_tenor : cdw r_Bk_tenor := cdw_of rfl
set_option maxRecDepth 100000 in
theorem cw_Bk_toneOf : cdw r_Bk_toneOf := cdw_of rfl
set_option maxRecDepth 100000 in
theorem cw_Ton_setTenor : cdw r_Ton_setTenor := cdw_of rfl
set_option maxRecDepth 100000 in
theorem cw_Ton_isNote : cdw r_Ton_isNote := cdw_of rfl
set_option maxRecDepth 100000 in
theorem cw_Bk_note : cdw r_Bk_note := cdw_of rfl
set_option maxRecDepth 100000 in
theorem cw_Ton_addNote : cdw r_Ton_addNote := cdw_of rfl
set_option maxRecDepth 100000 in
theorem cw_Ton_addIntonation : cdw r_Ton_addIntonation := cdw_of rfl
set_option maxRecDepth 100000 in
theorem cw_Cad_addBefore : cdw r_Cad_addBefore := cdw_of rfl
set_option maxRecDepth 100000 in
theorem cw_Bk_accent : cdw r_Bk_accent := cdw_of rfl
set_option maxRecDepth 100000 in
theorem cw_Bk_cadenceOf : cdw r_Bk_cadenceOf := cdw_of rfl
set_option maxRecDepth 100000 in
theorem cw_Ton_cadenceAt : cdw r_Ton_cadenceAt := cdw_of rfl
set_option maxRecDepth 100000 in
theorem cw_Cad_setAccent : cdw r_Cad_setAccent := cdw_of rfl
set_option maxRecDepth 100000 in
theorem cw_Bk_accents : cdw r_Bk_accents := cdw_of rfl
set_option maxRecDepth 100000 in
theorem cw_Cad_setMany : cdw r_Cad_setMany := cdw_of rfl
set_option maxRecDepth 100000 in
theorem cw_Bk_syllable : cdw r_Bk_syllable := cdw_of rfl
set_option maxRecDepth 100000 in
theorem cw_Bk_verseOf : cdw r_Bk_verseOf := cdw_of rfl
set_option maxRecDepth 100000 in
theorem cw_Ver_addSyllable : cdw r_Ver_addSyllable := cdw_of rfl
set_option maxRecDepth 100000 in
theorem cw_Bk_part : cdw r_Bk_part := cdw_of rfl
set_option maxRecDepth 100000 in
theorem cw_Ver_cutHere : cdw r_Ver_cutHere := cdw_of rfl
set_option maxRecDepth 100000 in
theorem cw_Bk_sing : cdw r_Bk_sing := cdw_of rfl
set_option maxRecDepth 100000 in
theorem cw_Ver_isSungAt : cdw r_Ver_isSungAt := cdw_of rfl
set_option maxRecDepth 100000 in
theorem cw_Ton_noteAt : cdw r_Ton_noteAt := cdw_of rfl
set_option maxRecDepth 100000 in
theorem cw_Ver_startOfHalf : cdw r_Ver_startOfHalf := cdw_of rfl
set_option maxRecDepth 100000 in
theorem cw_Ver_isFirstHalf : cdw r_Ver_isFirstHalf := cdw_of rfl
set_option maxRecDepth 100000 in
theorem cw_Ver_endOfHalf : cdw r_Ver_endOfHalf := cdw_of rfl
set_option maxRecDepth 100000 in
theorem cw_Ver_lastAccent : cdw r_Ver_lastAccent := cdw_of rfl
set_option maxRecDepth 100000 in
theorem cw_Ver_isStressedFrom : cdw r_Ver_isStressedFrom := cdw_of rfl
set_option maxRecDepth 100000 in
theorem cw_Cad_hasTwoAccents : cdw r_Cad_hasTwoAccents := cdw_of rfl
set_option maxRecDepth 100000 in
theorem cw_Ver_firstAccent : cdw r_Ver_firstAccent := cdw_of rfl
set_option maxRecDepth 100000 in
theorem cw_Cad_noteFrom : cdw r_Cad_noteFrom := cdw_of rfl
set_option maxRecDepth 100000 in
theorem cw_Cad_noteAhead : cdw r_Cad_noteAhead := cdw_of rfl
set_option maxRecDepth 100000 in
theorem cw_Bk_monk : cdw r_Bk_monk := cdw_of rfl
set_option maxRecDepth 100000 in
theorem cw_Cho_join : cdw r_Cho_join := cdw_of rfl
set_option maxRecDepth 100000 in
theorem cw_Bk_absence : cdw r_Bk_absence := cdw_of rfl
set_option maxRecDepth 100000 in
theorem cw_Cho_sendAway : cdw r_Cho_sendAway := cdw_of rfl
set_option maxRecDepth 100000 in
theorem cw_Cho_hasMonk : cdw r_Cho_hasMonk := cdw_of rfl
set_option maxRecDepth 100000 in
theorem cw_Bk_roster : cdw r_Bk_roster := cdw_of rfl
set_option maxRecDepth 100000 in
theorem cw_Ros_make : cdw r_Ros_make := cdw_of rfl
set_option maxRecDepth 100000 in
theorem cw_Alm_yearMadeFor : cdw r_Alm_yearMadeFor := cdw_of rfl
set_option maxRecDepth 100000 in
theorem cw_Cho_awayBits : cdw r_Cho_awayBits := cdw_of rfl
set_option maxRecDepth 100000 in
theorem cw_Ros_fillDay : cdw r_Ros_fillDay := cdw_of rfl
set_option maxRecDepth 100000 in
theorem cw_Ros_manySeats : cdw r_Ros_manySeats := cdw_of rfl
set_option maxRecDepth 100000 in
theorem cw_Ros_nextMonk : cdw r_Ros_nextMonk := cdw_of rfl
set_option maxRecDepth 100000 in
theorem cw_Cho_count : cdw r_Cho_count := cdw_of rfl
set_option maxRecDepth 100000 in
theorem cw_Cho_canDo : cdw r_Cho_canDo := cdw_of rfl
set_option maxRecDepth 100000 in
theorem cw_Ros_isAhead : cdw r_Ros_isAhead := cdw_of rfl
set_option maxRecDepth 100000 in
theorem cw_Ros_seatOf : cdw r_Ros_seatOf := cdw_of rfl
set_option maxRecDepth 100000 in
theorem cw_Ros_enter : cdw r_Ros_enter := cdw_of rfl
set_option maxRecDepth 100000 in
theorem cw_Bk_turn : cdw r_Bk_turn := cdw_of rfl
set_option maxRecDepth 100000 in
theorem cw_Ros_monkAt : cdw r_Ros_monkAt := cdw_of rfl
set_option maxRecDepth 100000 in
theorem cw_Bk_had : cdw r_Bk_had := cdw_of rfl
set_option maxRecDepth 100000 in
theorem cw_Ros_timesOf : cdw r_Ros_timesOf := cdw_of rfl
set_option maxRecDepth 100000 in
theorem cw_Md_year : cdw r_Md_year := cdw_of rfl
set_option maxRecDepth 100000 in
theorem cw_Md_isYear : cdw r_Md_isYear := cdw_of rfl
set_option maxRecDepth 100000 in
theorem cw_Md_in : cdw r_Md_in := cdw_of rfl
set_option maxRecDepth 100000 in
theorem cw_Md_daysOf : cdw r_Md_daysOf := cdw_of rfl
set_option maxRecDepth 100000 in
theorem cw_Md_isLeap : cdw r_Md_isLeap := cdw_of rfl
set_option maxRecDepth 100000 in
theorem cw_Md_firstWeekday : cdw r_Md_firstWeekday := cdw_of rfl
set_option maxRecDepth 100000 in
theorem cw_Md_easter : cdw r_Md_easter := cdw_of rfl
set_option maxRecDepth 100000 in
theorem cw_Md_dayOf : cdw r_Md_dayOf := cdw_of rfl
set_option maxRecDepth 100000 in
theorem cw_Md_daysIn : cdw r_Md_daysIn := cdw_of rfl
set_option maxRecDepth 100000 in
theorem cw_Md_day : cdw r_Md_day := cdw_of rfl
set_option maxRecDepth 100000 in
theorem cw_Md_season : cdw r_Md_season := cdw_of rfl
set_option maxRecDepth 100000 in
theorem cw_Md_adds0 : cdw r_Md_adds0 := cdw_of rfl
set_option maxRecDepth 100000 in
theorem cw_Md_dated : cdw r_Md_dated := cdw_of rfl
set_option maxRecDepth 100000 in
theorem cw_Md_isDate : cdw r_Md_isDate := cdw_of rfl
set_option maxRecDepth 100000 in
theorem cw_Md_feast : cdw r_Md_feast := cdw_of rfl
set_option maxRecDepth 100000 in
theorem cw_Md_isTold : cdw r_Md_isTold := cdw_of rfl
set_option maxRecDepth 100000 in
theorem cw_Md_around : cdw r_Md_around := cdw_of rfl
set_option maxRecDepth 100000 in
theorem cw_Md_raise : cdw r_Md_raise := cdw_of rfl
set_option maxRecDepth 100000 in
theorem cw_Md_office : cdw r_Md_office := cdw_of rfl
set_option maxRecDepth 100000 in
theorem cw_Md_isDay : cdw r_Md_isDay := cdw_of rfl
set_option maxRecDepth 100000 in
theorem cw_Md_reckon : cdw r_Md_reckon := cdw_of rfl
set_option maxRecDepth 100000 in
theorem cw_Md_feastDay : cdw r_Md_feastDay := cdw_of rfl
set_option maxRecDepth 100000 in
theorem cw_Md_weekday : cdw r_Md_weekday := cdw_of rfl
set_option maxRecDepth 100000 in
theorem cw_Md_gather : cdw r_Md_gather := cdw_of rfl
set_option maxRecDepth 100000 in
theorem cw_Md_isIn : cdw r_Md_isIn := cdw_of rfl
set_option maxRecDepth 100000 in
theorem cw_Md_meets : cdw r_Md_meets := cdw_of rfl
set_option maxRecDepth 100000 in
theorem cw_Md_isAhead : cdw r_Md_isAhead := cdw_of rfl
set_option maxRecDepth 100000 in
theorem cw_Md_place : cdw r_Md_place := cdw_of rfl
set_option maxRecDepth 100000 in
theorem cw_Md_sets : cdw r_Md_sets := cdw_of rfl
set_option maxRecDepth 100000 in
theorem cw_Md_nextMoved : cdw r_Md_nextMoved := cdw_of rfl
set_option maxRecDepth 100000 in
theorem cw_Md_isOffice : cdw r_Md_isOffice := cdw_of rfl
set_option maxRecDepth 100000 in
theorem cw_Md_moves : cdw r_Md_moves := cdw_of rfl
set_option maxRecDepth 100000 in
theorem cw_Md_commemorates : cdw r_Md_commemorates := cdw_of rfl
set_option maxRecDepth 100000 in
theorem cw_Md_also : cdw r_Md_also := cdw_of rfl
set_option maxRecDepth 100000 in
theorem cw_Md_kept : cdw r_Md_kept := cdw_of rfl
set_option maxRecDepth 100000 in
theorem cw_Md_keptDay : cdw r_Md_keptDay := cdw_of rfl
set_option maxRecDepth 100000 in
theorem cw_Md_tally : cdw r_Md_tally := cdw_of rfl
set_option maxRecDepth 100000 in
theorem cw_Md_init : cdw r_Md_init := cdw_of rfl
set_option maxRecDepth 100000 in
theorem cw_Md_verses : cdw r_Md_verses := cdw_of rfl
set_option maxRecDepth 100000 in
theorem cw_Md_hours : cdw r_Md_hours := cdw_of rfl
set_option maxRecDepth 100000 in
theorem cw_Md_fix : cdw r_Md_fix := cdw_of rfl
set_option maxRecDepth 100000 in
theorem cw_Md_festal : cdw r_Md_festal := cdw_of rfl
set_option maxRecDepth 100000 in
theorem cw_Md_limit : cdw r_Md_limit := cdw_of rfl
set_option maxRecDepth 100000 in
theorem cw_Md_dealt : cdw r_Md_dealt := cdw_of rfl
set_option maxRecDepth 100000 in
theorem cw_Md_deal : cdw r_Md_deal := cdw_of rfl
set_option maxRecDepth 100000 in
theorem cw_Md_deals : cdw r_Md_deals := cdw_of rfl
set_option maxRecDepth 100000 in
theorem cw_Md_sung : cdw r_Md_sung := cdw_of rfl
set_option maxRecDepth 100000 in
theorem cw_Md_sings : cdw r_Md_sings := cdw_of rfl
set_option maxRecDepth 100000 in
theorem cw_Md_adds : cdw r_Md_adds := cdw_of rfl
set_option maxRecDepth 100000 in
theorem cw_Md_times : cdw r_Md_times := cdw_of rfl
set_option maxRecDepth 100000 in
theorem cw_Md_tenor : cdw r_Md_tenor := cdw_of rfl
set_option maxRecDepth 100000 in
theorem cw_Md_isNote : cdw r_Md_isNote := cdw_of rfl
set_option maxRecDepth 100000 in
theorem cw_Md_note : cdw r_Md_note := cdw_of rfl
set_option maxRecDepth 100000 in
theorem cw_Md_accent : cdw r_Md_accent := cdw_of rfl
set_option maxRecDepth 100000 in
theorem cw_Md_accents : cdw r_Md_accents := cdw_of rfl
set_option maxRecDepth 100000 in
theorem cw_Md_syllable : cdw r_Md_syllable := cdw_of rfl
set_option maxRecDepth 100000 in
theorem cw_Md_part : cdw r_Md_part := cdw_of rfl
set_option maxRecDepth 100000 in
theorem cw_Md_sing : cdw r_Md_sing := cdw_of rfl
set_option maxRecDepth 100000 in
theorem cw_Md_isStressed : cdw r_Md_isStressed := cdw_of rfl
set_option maxRecDepth 100000 in
theorem cw_Md_lastBut : cdw r_Md_lastBut := cdw_of rfl
set_option maxRecDepth 100000 in
theorem cw_Md_byAccent : cdw r_Md_byAccent := cdw_of rfl
set_option maxRecDepth 100000 in
theorem cw_Md_monk : cdw r_Md_monk := cdw_of rfl
set_option maxRecDepth 100000 in
theorem cw_Md_absence : cdw r_Md_absence := cdw_of rfl
set_option maxRecDepth 100000 in
theorem cw_Md_roster : cdw r_Md_roster := cdw_of rfl
set_option maxRecDepth 100000 in
theorem cw_Md_chosen : cdw r_Md_chosen := cdw_of rfl
set_option maxRecDepth 100000 in
theorem cw_Md_isThere : cdw r_Md_isThere := cdw_of rfl
set_option maxRecDepth 100000 in
theorem cw_Md_placeOf : cdw r_Md_placeOf := cdw_of rfl
set_option maxRecDepth 100000 in
theorem cw_Md_turn : cdw r_Md_turn := cdw_of rfl
set_option maxRecDepth 100000 in
theorem cw_Md_had : cdw r_Md_had := cdw_of rfl
theorem cdw_0 : ∀ r ∈ mtab_0, cdw r := List.forall_mem_cons.mpr ⟨cw_Bk_init, List.forall_mem_cons.mpr ⟨cw_Sea_init, List.forall_mem_cons.mpr ⟨cw_Fea_init, List.forall_mem_cons.mpr ⟨cw_Alm_init, List.forall_mem_cons.mpr ⟨cw_Psa_init, List.forall_mem_cons.mpr ⟨cw_Ton_init, List.forall_mem_cons.mpr ⟨cw_Cad_init, List.forall_mem_cons.mpr ⟨cw_Ver_init, List.forall_mem_cons.mpr ⟨cw_Cho_init, List.forall_mem_cons.mpr ⟨cw_Ros_init, List.forall_mem_cons.mpr ⟨cw_Bk_year, List.forall_mem_cons.mpr ⟨cw_Day_isYear, List.forall_mem_cons.mpr ⟨cw_Bk_within, List.forall_mem_cons.mpr ⟨cw_Day_lengthOf, List.forall_mem_cons.mpr ⟨cw_Day_isLeap, List.forall_mem_cons.mpr ⟨cw_Day_firstWeekday, List.forall_mem_cons.mpr ⟨cw_Day_easter, List.forall_mem_cons.mpr ⟨cw_Day_firstOfMonth, List.forall_mem_cons.mpr ⟨cw_Bk_at, List.forall_mem_cons.mpr ⟨cw_Bk_day, List.forall_mem_cons.mpr ⟨cw_Day_dayOf, List.forall_mem_cons.mpr ⟨cw_Day_lengthOfMonth, List.forall_mem_cons.mpr ⟨cw_Bk_season, List.forall_mem_cons.mpr ⟨cw_Sea_tellFromEaster, List.forall_mem_cons.mpr ⟨cw_Sea_add, fun _ h => absurd h List.not_mem_nil⟩⟩⟩⟩⟩⟩⟩⟩⟩⟩⟩⟩⟩⟩⟩⟩⟩⟩⟩⟩⟩⟩⟩⟩⟩
theorem cdw_1 : ∀ r ∈ mtab_1, cdw r := List.forall_mem_cons.mpr ⟨cw_Bk_put, List.forall_mem_cons.mpr ⟨cw_Bk_forgetIfTold, List.forall_mem_cons.mpr ⟨cw_Alm_forget, List.forall_mem_cons.mpr ⟨cw_Bk_dated, List.forall_mem_cons.mpr ⟨cw_Sea_tellByDates, List.forall_mem_cons.mpr ⟨cw_Day_isRoughDate, List.forall_mem_cons.mpr ⟨cw_Bk_feast, List.forall_mem_cons.mpr ⟨cw_Fea_tell, List.forall_mem_cons.mpr ⟨cw_Fea_isWhen, List.forall_mem_cons.mpr ⟨cw_Day_isEverDate, List.forall_mem_cons.mpr ⟨cw_Fea_isRankAndWay, List.forall_mem_cons.mpr ⟨cw_Bk_around, List.forall_mem_cons.mpr ⟨cw_Fea_surround, List.forall_mem_cons.mpr ⟨cw_Fea_isTold, List.forall_mem_cons.mpr ⟨cw_Bk_raise, List.forall_mem_cons.mpr ⟨cw_Fea_change, List.forall_mem_cons.mpr ⟨cw_Bk_office, List.forall_mem_cons.mpr ⟨cw_Alm_openAt, List.forall_mem_cons.mpr ⟨cw_Alm_build, List.forall_mem_cons.mpr ⟨cw_Alm_layOutSeasons, List.forall_mem_cons.mpr ⟨cw_Sea_count, List.forall_mem_cons.mpr ⟨cw_Sea_lastDay, List.forall_mem_cons.mpr ⟨cw_Sea_isByDates, List.forall_mem_cons.mpr ⟨cw_Day_roughDay, List.forall_mem_cons.mpr ⟨cw_Sea_firstDay, fun _ h => absurd h List.not_mem_nil⟩⟩⟩⟩⟩⟩⟩⟩⟩⟩⟩⟩⟩⟩⟩⟩⟩⟩⟩⟩⟩⟩⟩⟩⟩
theorem cdw_2 : ∀ r ∈ mtab_2, cdw r := List.forall_mem_cons.mpr ⟨cw_Fea_count, List.forall_mem_cons.mpr ⟨cw_Fea_dayIn, List.forall_mem_cons.mpr ⟨cw_Day_nthWeekday, List.forall_mem_cons.mpr ⟨cw_Alm_considerAll, List.forall_mem_cons.mpr ⟨cw_Alm_weekdayOf, List.forall_mem_cons.mpr ⟨cw_Sea_rankOf, List.forall_mem_cons.mpr ⟨cw_Alm_candidate, List.forall_mem_cons.mpr ⟨cw_Alm_placeOf, List.forall_mem_cons.mpr ⟨cw_Alm_consider, List.forall_mem_cons.mpr ⟨cw_Alm_commemorate, List.forall_mem_cons.mpr ⟨cw_Alm_considerFeast, List.forall_mem_cons.mpr ⟨cw_Alm_feastCandidate, List.forall_mem_cons.mpr ⟨cw_Fea_rankOf, List.forall_mem_cons.mpr ⟨cw_Fea_wayOf, List.forall_mem_cons.mpr ⟨cw_Fea_octaveOf, List.forall_mem_cons.mpr ⟨cw_Fea_hasVigil, List.forall_mem_cons.mpr ⟨cw_Alm_moveFeasts, List.forall_mem_cons.mpr ⟨cw_Alm_nextToMove, List.forall_mem_cons.mpr ⟨cw_Alm_isToMove, List.forall_mem_cons.mpr ⟨cw_Alm_isMovedBefore, List.forall_mem_cons.mpr ⟨cw_Alm_placeFor, List.forall_mem_cons.mpr ⟨cw_Alm_givesWay, List.forall_mem_cons.mpr ⟨cw_Alm_kindIn, List.forall_mem_cons.mpr ⟨cw_Alm_feastIn, List.forall_mem_cons.mpr ⟨cw_Alm_rankIn, fun _ h => absurd h List.not_mem_nil⟩⟩⟩⟩⟩⟩⟩⟩⟩⟩⟩⟩⟩⟩⟩⟩⟩⟩⟩⟩⟩⟩⟩⟩⟩
theorem cdw_3 : ∀ r ∈ mtab_3, cdw r := List.forall_mem_cons.mpr ⟨cw_Alm_settleFates, List.forall_mem_cons.mpr ⟨cw_Alm_fateOnOwnDay, List.forall_mem_cons.mpr ⟨cw_Alm_officeOn, List.forall_mem_cons.mpr ⟨cw_Alm_colourIn, List.forall_mem_cons.mpr ⟨cw_Sea_colourOf, List.forall_mem_cons.mpr ⟨cw_Fea_colourOf, List.forall_mem_cons.mpr ⟨cw_Alm_commemoratedOn, List.forall_mem_cons.mpr ⟨cw_Alm_partOf, List.forall_mem_cons.mpr ⟨cw_Bk_also, List.forall_mem_cons.mpr ⟨cw_Alm_commemoration, List.forall_mem_cons.mpr ⟨cw_Bk_kept, List.forall_mem_cons.mpr ⟨cw_Alm_open, List.forall_mem_cons.mpr ⟨cw_Alm_fateOf, List.forall_mem_cons.mpr ⟨cw_Bk_tally, List.forall_mem_cons.mpr ⟨cw_Alm_daysWith, List.forall_mem_cons.mpr ⟨cw_Alm_movedFeasts, List.forall_mem_cons.mpr ⟨cw_Alm_feastsOfFate, List.forall_mem_cons.mpr ⟨cw_Bk_verses, List.forall_mem_cons.mpr ⟨cw_Psa_setVerses, List.forall_mem_cons.mpr ⟨cw_Psa_hasPsalm, List.forall_mem_cons.mpr ⟨cw_Bk_hours, List.forall_mem_cons.mpr ⟨cw_Psa_setHours, List.forall_mem_cons.mpr ⟨cw_Psa_isUsedFrom, List.forall_mem_cons.mpr ⟨cw_Bk_fix, List.forall_mem_cons.mpr ⟨cw_Psa_setFixed, fun _ h => absurd h List.not_mem_nil⟩⟩⟩⟩⟩⟩⟩⟩⟩⟩⟩⟩⟩⟩⟩⟩⟩⟩⟩⟩⟩⟩⟩⟩⟩
theorem cdw_4 : ∀ r ∈ mtab_4, cdw r := List.forall_mem_cons.mpr ⟨cw_Psa_hasHour, List.forall_mem_cons.mpr ⟨cw_Bk_festal, List.forall_mem_cons.mpr ⟨cw_Psa_addFestal, List.forall_mem_cons.mpr ⟨cw_Bk_limit, List.forall_mem_cons.mpr ⟨cw_Psa_setFeastRank, List.forall_mem_cons.mpr ⟨cw_Bk_dealt, List.forall_mem_cons.mpr ⟨cw_Psa_leastLimit, List.forall_mem_cons.mpr ⟨cw_Psa_deal, List.forall_mem_cons.mpr ⟨cw_Psa_lineUp, List.forall_mem_cons.mpr ⟨cw_Psa_findLimit, List.forall_mem_cons.mpr ⟨cw_Psa_isEnough, List.forall_mem_cons.mpr ⟨cw_Psa_endOfHour, List.forall_mem_cons.mpr ⟨cw_Psa_markSlot, List.forall_mem_cons.mpr ⟨cw_Psa_firstDealt, List.forall_mem_cons.mpr ⟨cw_Psa_dealtPsalm, List.forall_mem_cons.mpr ⟨cw_Psa_countDealt, List.forall_mem_cons.mpr ⟨cw_Psa_manyDealt, List.forall_mem_cons.mpr ⟨cw_Psa_versesDealt, List.forall_mem_cons.mpr ⟨cw_Bk_sung, List.forall_mem_cons.mpr ⟨cw_Alm_rankOn, List.forall_mem_cons.mpr ⟨cw_Psa_psalmSung, List.forall_mem_cons.mpr ⟨cw_Psa_isFestive, List.forall_mem_cons.mpr ⟨cw_Psa_fixedPsalm, List.forall_mem_cons.mpr ⟨cw_Bk_times, List.forall_mem_cons.mpr ⟨cw_Psa_timesSung, fun _ h => absurd h List.not_mem_nil⟩⟩⟩⟩⟩⟩⟩⟩⟩⟩⟩⟩⟩⟩⟩⟩⟩⟩⟩⟩⟩⟩⟩⟩⟩
theorem cdw_5 : ∀ r ∈ mtab_5, cdw r := List.forall_mem_cons.mpr ⟨cw_Psa_countFestal, List.forall_mem_cons.mpr ⟨cw_Bk_tenor, List.forall_mem_cons.mpr ⟨cw_Bk_toneOf, List.forall_mem_cons.mpr ⟨cw_Ton_setTenor, List.forall_mem_cons.mpr ⟨cw_Ton_isNote, List.forall_mem_cons.mpr ⟨cw_Bk_note, List.forall_mem_cons.mpr ⟨cw_Ton_addNote, List.forall_mem_cons.mpr ⟨cw_Ton_addIntonation, List.forall_mem_cons.mpr ⟨cw_Cad_addBefore, List.forall_mem_cons.mpr ⟨cw_Bk_accent, List.forall_mem_cons.mpr ⟨cw_Bk_cadenceOf, List.forall_mem_cons.mpr ⟨cw_Ton_cadenceAt, List.forall_mem_cons.mpr ⟨cw_Cad_setAccent, List.forall_mem_cons.mpr ⟨cw_Bk_accents, List.forall_mem_cons.mpr ⟨cw_Cad_setMany, List.forall_mem_cons.mpr ⟨cw_Bk_syllable, List.forall_mem_cons.mpr ⟨cw_Bk_verseOf, List.forall_mem_cons.mpr ⟨cw_Ver_addSyllable, List.forall_mem_cons.mpr ⟨cw_Bk_part, List.forall_mem_cons.mpr ⟨cw_Ver_cutHere, List.forall_mem_cons.mpr ⟨cw_Bk_sing, List.forall_mem_cons.mpr ⟨cw_Ver_isSungAt, List.forall_mem_cons.mpr ⟨cw_Ton_noteAt, List.forall_mem_cons.mpr ⟨cw_Ver_startOfHalf, List.forall_mem_cons.mpr ⟨cw_Ver_isFirstHalf, fun _ h => absurd h List.not_mem_nil⟩⟩⟩⟩⟩⟩⟩⟩⟩⟩⟩⟩⟩⟩⟩⟩⟩⟩⟩⟩⟩⟩⟩⟩⟩
theorem cdw_6 : ∀ r ∈ mtab_6, cdw r := List.forall_mem_cons.mpr ⟨cw_Ver_endOfHalf, List.forall_mem_cons.mpr ⟨cw_Ver_lastAccent, List.forall_mem_cons.mpr ⟨cw_Ver_isStressedFrom, List.forall_mem_cons.mpr ⟨cw_Cad_hasTwoAccents, List.forall_mem_cons.mpr ⟨cw_Ver_firstAccent, List.forall_mem_cons.mpr ⟨cw_Cad_noteFrom, List.forall_mem_cons.mpr ⟨cw_Cad_noteAhead, List.forall_mem_cons.mpr ⟨cw_Bk_monk, List.forall_mem_cons.mpr ⟨cw_Cho_join, List.forall_mem_cons.mpr ⟨cw_Bk_absence, List.forall_mem_cons.mpr ⟨cw_Cho_sendAway, List.forall_mem_cons.mpr ⟨cw_Cho_hasMonk, List.forall_mem_cons.mpr ⟨cw_Bk_roster, List.forall_mem_cons.mpr ⟨cw_Ros_make, List.forall_mem_cons.mpr ⟨cw_Alm_yearMadeFor, List.forall_mem_cons.mpr ⟨cw_Cho_awayBits, List.forall_mem_cons.mpr ⟨cw_Ros_fillDay, List.forall_mem_cons.mpr ⟨cw_Ros_manySeats, List.forall_mem_cons.mpr ⟨cw_Ros_nextMonk, List.forall_mem_cons.mpr ⟨cw_Cho_count, List.forall_mem_cons.mpr ⟨cw_Cho_canDo, List.forall_mem_cons.mpr ⟨cw_Ros_isAhead, List.forall_mem_cons.mpr ⟨cw_Ros_seatOf, List.forall_mem_cons.mpr ⟨cw_Ros_enter, List.forall_mem_cons.mpr ⟨cw_Bk_turn, fun _ h => absurd h List.not_mem_nil⟩⟩⟩⟩⟩⟩⟩⟩⟩⟩⟩⟩⟩⟩⟩⟩⟩⟩⟩⟩⟩⟩⟩⟩⟩
theorem cdw_7 : ∀ r ∈ mtab_7, cdw r := List.forall_mem_cons.mpr ⟨cw_Ros_monkAt, List.forall_mem_cons.mpr ⟨cw_Bk_had, List.forall_mem_cons.mpr ⟨cw_Ros_timesOf, List.forall_mem_cons.mpr ⟨cw_Md_year, List.forall_mem_cons.mpr ⟨cw_Md_isYear, List.forall_mem_cons.mpr ⟨cw_Md_in, List.forall_mem_cons.mpr ⟨cw_Md_daysOf, List.forall_mem_cons.mpr ⟨cw_Md_isLeap, List.forall_mem_cons.mpr ⟨cw_Md_firstWeekday, List.forall_mem_cons.mpr ⟨cw_Md_easter, List.forall_mem_cons.mpr ⟨cw_Md_dayOf, List.forall_mem_cons.mpr ⟨cw_Md_daysIn, List.forall_mem_cons.mpr ⟨cw_Md_day, List.forall_mem_cons.mpr ⟨cw_Md_season, List.forall_mem_cons.mpr ⟨cw_Md_adds0, List.forall_mem_cons.mpr ⟨cw_Md_dated, List.forall_mem_cons.mpr ⟨cw_Md_isDate, List.forall_mem_cons.mpr ⟨cw_Md_feast, List.forall_mem_cons.mpr ⟨cw_Md_isTold, List.forall_mem_cons.mpr ⟨cw_Md_around, List.forall_mem_cons.mpr ⟨cw_Md_raise, List.forall_mem_cons.mpr ⟨cw_Md_office, List.forall_mem_cons.mpr ⟨cw_Md_isDay, List.forall_mem_cons.mpr ⟨cw_Md_reckon, List.forall_mem_cons.mpr ⟨cw_Md_feastDay, fun _ h => absurd h List.not_mem_nil⟩⟩⟩⟩⟩⟩⟩⟩⟩⟩⟩⟩⟩⟩⟩⟩⟩⟩⟩⟩⟩⟩⟩⟩⟩
theorem cdw_8 : ∀ r ∈ mtab_8, cdw r := List.forall_mem_cons.mpr ⟨cw_Md_weekday, List.forall_mem_cons.mpr ⟨cw_Md_gather, List.forall_mem_cons.mpr ⟨cw_Md_isIn, List.forall_mem_cons.mpr ⟨cw_Md_meets, List.forall_mem_cons.mpr ⟨cw_Md_isAhead, List.forall_mem_cons.mpr ⟨cw_Md_place, List.forall_mem_cons.mpr ⟨cw_Md_sets, List.forall_mem_cons.mpr ⟨cw_Md_nextMoved, List.forall_mem_cons.mpr ⟨cw_Md_isOffice, List.forall_mem_cons.mpr ⟨cw_Md_moves, List.forall_mem_cons.mpr ⟨cw_Md_commemorates, List.forall_mem_cons.mpr ⟨cw_Md_also, List.forall_mem_cons.mpr ⟨cw_Md_kept, List.forall_mem_cons.mpr ⟨cw_Md_keptDay, List.forall_mem_cons.mpr ⟨cw_Md_tally, List.forall_mem_cons.mpr ⟨cw_Md_init, List.forall_mem_cons.mpr ⟨cw_Md_verses, List.forall_mem_cons.mpr ⟨cw_Md_hours, List.forall_mem_cons.mpr ⟨cw_Md_fix, List.forall_mem_cons.mpr ⟨cw_Md_festal, List.forall_mem_cons.mpr ⟨cw_Md_limit, List.forall_mem_cons.mpr ⟨cw_Md_dealt, List.forall_mem_cons.mpr ⟨cw_Md_deal, List.forall_mem_cons.mpr ⟨cw_Md_deals, List.forall_mem_cons.mpr ⟨cw_Md_sung, fun _ h => absurd h List.not_mem_nil⟩⟩⟩⟩⟩⟩⟩⟩⟩⟩⟩⟩⟩⟩⟩⟩⟩⟩⟩⟩⟩⟩⟩⟩⟩
theorem cdw_9 : ∀ r ∈ mtab_9.take 22, cdw r := List.forall_mem_cons.mpr ⟨cw_Md_sings, List.forall_mem_cons.mpr ⟨cw_Md_adds, List.forall_mem_cons.mpr ⟨cw_Md_times, List.forall_mem_cons.mpr ⟨cw_Md_tenor, List.forall_mem_cons.mpr ⟨cw_Md_isNote, List.forall_mem_cons.mpr ⟨cw_Md_note, List.forall_mem_cons.mpr ⟨cw_Md_accent, List.forall_mem_cons.mpr ⟨cw_Md_accents, List.forall_mem_cons.mpr ⟨cw_Md_syllable, List.forall_mem_cons.mpr ⟨cw_Md_part, List.forall_mem_cons.mpr ⟨cw_Md_sing, List.forall_mem_cons.mpr ⟨cw_Md_isStressed, List.forall_mem_cons.mpr ⟨cw_Md_lastBut, List.forall_mem_cons.mpr ⟨cw_Md_byAccent, List.forall_mem_cons.mpr ⟨cw_Md_monk, List.forall_mem_cons.mpr ⟨cw_Md_absence, List.forall_mem_cons.mpr ⟨cw_Md_roster, List.forall_mem_cons.mpr ⟨cw_Md_chosen, List.forall_mem_cons.mpr ⟨cw_Md_isThere, List.forall_mem_cons.mpr ⟨cw_Md_placeOf, List.forall_mem_cons.mpr ⟨cw_Md_turn, List.forall_mem_cons.mpr ⟨cw_Md_had, fun _ h => absurd h List.not_mem_nil⟩⟩⟩⟩⟩⟩⟩⟩⟩⟩⟩⟩⟩⟩⟩⟩⟩⟩⟩⟩⟩⟩
theorem ck_ini : (kN.zip kIni).all (fun q => ckw q.2 (.initialized q.1)) = true := by decide +kernel
def ck_f (c : Nat) (e : Nat × Nat × Nat × Nat) : Bool := match kN[c]?, kCl[e.2.1]? with | some n, some q => ckw e.2.2.2 (.fieldLink n e.1 (q.2.1 e.2.2.1).1 (q.2.1 e.2.2.1).2.1 (q.2.1 e.2.2.1).2.2.1) && decide (e.2.2.1 < q.2.2) | _, _ => false
def ck_i (c : Nat) (e : Nat × Nat × Nat × Nat) : Bool := match kN[c]?, mrec e.2.1 with | some n, some r => if e.2.2.1 = 0 then ckw e.2.2.2 (.methodLink n e.1 r.1) && r.2.2.2.2.2.2.1 else if e.2.2.1 = 1 then ckn e.2.2.2 (.methodLinkNest n e.1 r.1 "ChoirBook") && r.2.2.2.2.2.2.1 else if e.2.2.1 = 2 then ckw e.2.2.2 (.methodLink n e.1 r.1) && !r.2.2.2.2.2.2.1 && !(r.2.2.2.2.2.2.2.2.2 == 9999) else if e.2.2.1 = 4 then ckw e.2.2.2 (.methodLink n e.1 r.1) && !r.2.2.2.2.2.2.1 && decide (r.1.name = "<init>") && decide (r.2.2.2.1 = none) else if e.2.2.1 = 5 then ckn e.2.2.2 (.methodLinkNest n e.1 r.1 "ChoirBook") && !r.2.2.2.2.2.2.1 && decide (r.1.name = "<init>") && decide (r.2.2.2.1 = none) else if e.2.2.1 = 6 then ckw e.2.2.2 (.methodLink n e.1 Lib.Math.max.name) else if e.2.2.1 = 7 then ckw e.2.2.2 (.methodLink n e.1 Lib.Math.min.name) else false | _, _ => false
def ck_o (c : Nat) (e : Nat × Nat) : Bool := match kN[c]? with | some n => ckw e.2 (.methodLink n e.1 objectInit) | _ => false
def ck_n (c : Nat) (e : Nat × Nat × Nat × Nat) : Bool := match kN[c]?, kCl[e.2.1]? with | some n, some q => ckw e.2.2.1 (.classLink n e.1 q.1) && ckw e.2.2.2 (.instantiable q.1 q.2.2) | _, _ => false
def ck_a (c : Nat) (e : Nat × String × Nat × Nat) : Bool := match kN[c]? with | some n => ckw e.2.2.1 (.classLink n e.1 e.2.1) && ckn e.2.2.2 (.arrayOver (.object e.2.1)) | _ => false
def ck_g (c : Nat) (e : Nat × Nat × Nat) : Bool := match kN[c]? with | some n => ckw e.2.2 (.fieldLink n e.1 "ChoirBook$Days" (gsN e.2.1) "[I") && (e.2.1 == 1 || e.2.1 == 2) | _ => false
theorem ck_fT : (fldT.zipIdx).all (fun q => q.1.all (ck_f q.2)) = true := by decide +kernel
theorem ck_iT : (invT.zipIdx).all (fun q => q.1.all (ck_i q.2)) = true := by decide +kernel
theorem ck_oT : (objT.zipIdx).all (fun q => q.1.all (ck_o q.2)) = true := by decide +kernel
theorem ck_nT : (newT.zipIdx).all (fun q => q.1.all (ck_n q.2)) = true := by decide +kernel
theorem ck_aT : (anT.zipIdx).all (fun q => q.1.all (ck_a q.2)) = true := by decide +kernel
theorem ck_gT : (gsT.zipIdx).all (fun q => q.1.all (ck_g q.2)) = true := by decide +kernel
theorem ck_obj : ckw 81 (.instanceMethod objectInit) = true ∧ ckw 82 (.code objectInit ⟨#[0xb1]⟩ 1 none) = true := by decide +kernel
theorem ck_arr : ckw 111 (.arrayClass .boolean) = true ∧ ckw 112 (.arrayClass .int) = true ∧ ckn 384 (.laysStatic "ChoirBook$Days" "MONTH_STARTS" "[I") = true ∧ ckn 399 (.laysStatic "ChoirBook$Days" "MONTH_LENGTHS" "[I") = true := by decide +kernel
/-- the classes of objects: the words of their fields, their types, their names apart -/
def ck_c (q : vw_C × ((Nat → FieldType) × List Nat)) : Bool := ((List.range q.1.2.2).zip q.2.2).all (fun e => ckw e.2 (u_lay q.1.1 q.1.2.1 e.1)) && decide (q.2.2.length = q.1.2.2) && (List.range q.1.2.2).all (fun k => decide (parseFieldDescriptor (q.1.2.1 k).2.2.1 = some (q.2.1 k)) && decide ((q.1.2.1 k).1 = q.1.1) && (List.range q.1.2.2).all (fun j => j == k || decide ((q.1.2.1 k).2.1 ≠ (q.1.2.1 j).2.1)))
theorem ck_cT : (kCl.zip (kTy.zip kPs)).all ck_c = true := by decide +kernel
theorem ck_math : ckw 521 (.static Lib.Math.max.name) = true ∧ ckw 512 (.static Lib.Math.min.name) = true ∧ ckw 522 (.code Lib.Math.max.name Lib.Math.max.code 2 (some .int)) = true ∧ ckw 513 (.code Lib.Math.min.name Lib.Math.min.code 2 (some .int)) = true := by decide +kernel
end
section
/-! A MACHINE IN SMALL: the bytecode run over cells of numbers; what it yields, the real machine yields (part 03) -/
/-- a value: an int; null or a cell by its number; a table that is only read -/
abbrev AV : Type := Int32 ⊕ (Option Nat ⊕ Nat)
/-- a cell: the number of its class, or the type of its elements; what it holds -/
abbrev AC : Type := (Nat ⊕ FieldType) × List AV
abbrev AH : Type := List AC
abbrev AL : Type := List (Option AV)
abbrev AS : Type := Nat × (AL × (List AV × AH))
abbrev AR : Type := AS ⊕ ((Nat × (List AV × AS)) ⊕ (Option AV × AH))
def vi (v : AV) : Int32 := match v with
  | .inl x => x
  | _ => 0
def vr (v : AV) : Option Nat := match v with
  | .inr (.inl r) => r
  | _ => none
def ld (L : AL) (k : Nat) : Option AV := match L[k]? with
  | some (some v) => some v
  | _ => none
def nx (pc : Nat) (L : AL) (S : List AV) (h : AH) : Option AR := some (.inl (pc, L, S, h))
def sto (pc : Nat) (L : AL) (k : Nat) (v : AV) (S : List AV) (h : AH) : Option AR := if k < L.length then nx pc (L.set k (some v)) S h else none
def jp (pc : Nat) (o : Int) (L : AL) (S : List AV) (h : AH) : Option AR := if 0 ≤ (pc : Int) + o then nx ((pc : Int) + o).toNat L S h else none
def br (pc : Nat) (o : Int) (t : Bool) (L : AL) (S : List AV) (h : AH) : Option AR := if 0 ≤ (pc : Int) + o then nx (if t = true then ((pc : Int) + o).toNat else pc + 3) L S h else none
def dv (ty : FieldType) : AV := match ty with
  | .int => .inl 0
  | .boolean => .inl 0
  | _ => .inr (.inl none)
def fitA (ty : FieldType) (v : AV) : Bool := match ty, v with
  | .int, .inl _ => true
  | .boolean, .inl x => x == 0 || x == 1
  | .object _, .inr (.inl _) => true
  | .array _, .inr (.inl _) => true
  | _, _ => false
def lk {α : Type} (T : List (List (Nat × α))) (K i : Nat) : Option α := match T[K]? with
  | some l => (match l.find? (fun e => e.1 == i) with
    | some e => some e.2
    | none => none)
  | none => none
/-- a number of slots -/
def slz : AH → Nat
  | [] => 0
  | c :: l => c.2.length + slz l
def tsw (dflt lo hi : Int) (offs : Array Int) (x : Int32) : Option Int := if x.toInt < lo ∨ hi < x.toInt then some dflt else offs[(x.toInt - lo).toNat]?
def call (pc : Nat) (L : AL) (S : List AV) (h : AH) (j na : Nat) : Option AR := if na ≤ S.length ∧ (S.drop na).length ≤ 8 then some (.inr (.inl (j, ((S.take na).reverse, (pc + 3, L, S.drop na, h))))) else none
/-- is the receiver a cell of this class -/
def rcv (h : AH) (as : List AV) (C : String) : Bool := match as with
  | .inr (.inl (some a)) :: _ => (match h[a]? with
    | some (.inl ci, _) => (match kCl[ci]? with
      | some q => decide (q.1 = C)
      | none => false)
    | _ => false)
  | _ => false
def rcvN (as : List AV) : Bool := match as with
  | .inr (.inl (some _)) :: _ => true
  | _ => false
/-- instructions that leave the cells alone and call nothing -/
def st1 (i : Instr) (pc : Nat) (L : AL) (S : List AV) (h : AH) : Option AR := match i, S with
  | .iconst n, S => nx (pc + 1) L (.inl (Int32.ofInt n) :: S) h
  | .bipush n, S => nx (pc + 2) L (.inl (Int8.ofInt n).toInt32 :: S) h
  | .sipush n, S => nx (pc + 3) L (.inl (Int16.ofInt n).toInt32 :: S) h
  | .aconst_null, S => nx (pc + 1) L (.inr (.inl none) :: S) h
  | .iload_n k, S => (match ld L k with
    | some (.inl x) => nx (pc + 1) L (.inl x :: S) h
    | _ => none)
  | .iload k, S => (match ld L k with
    | some (.inl x) => nx (pc + 2) L (.inl x :: S) h
    | _ => none)
  | .aload_n k, S => (match ld L k with
    | some (.inr x) => nx (pc + 1) L (.inr x :: S) h
    | _ => none)
  | .aload k, S => (match ld L k with
    | some (.inr x) => nx (pc + 2) L (.inr x :: S) h
    | _ => none)
  | .istore_n k, .inl x :: S => sto (pc + 1) L k (.inl x) S h
  | .istore k, .inl x :: S => sto (pc + 2) L k (.inl x) S h
  | .astore_n k, .inr x :: S => sto (pc + 1) L k (.inr x) S h
  | .astore k, .inr x :: S => sto (pc + 2) L k (.inr x) S h
  | .iinc k n, S => (match ld L k with
    | some (.inl x) => sto (pc + 3) L k (.inl (x + Int32.ofInt n)) S h
    | _ => none)
  | .dup, v :: S => nx (pc + 1) L (v :: v :: S) h
  | .dup2, v :: w :: S => nx (pc + 1) L (v :: w :: v :: w :: S) h
  | .pop, _ :: S => nx (pc + 1) L S h
  | .iadd, .inl y :: .inl x :: S => nx (pc + 1) L (.inl (x + y) :: S) h
  | .isub, .inl y :: .inl x :: S => nx (pc + 1) L (.inl (x - y) :: S) h
  | .imul, .inl y :: .inl x :: S => nx (pc + 1) L (.inl (x * y) :: S) h
  | .iand, .inl y :: .inl x :: S => nx (pc + 1) L (.inl (x &&& y) :: S) h
  | .ior, .inl y :: .inl x :: S => nx (pc + 1) L (.inl (x ||| y) :: S) h
  | .ishl, .inl y :: .inl x :: S => nx (pc + 1) L (.inl (x <<< (y &&& 31)) :: S) h
  | .ishr, .inl y :: .inl x :: S => nx (pc + 1) L (.inl (x >>> (y &&& 31)) :: S) h
  | .idiv, .inl y :: .inl x :: S => if y = 0 then none else nx (pc + 1) L (.inl (x / y) :: S) h
  | .irem, .inl y :: .inl x :: S => if y = 0 then none else nx (pc + 1) L (.inl (x - x / y * y) :: S) h
  | .ifCond .eq o, .inl x :: S => br pc o (decide (x = 0)) L S h
  | .ifCond .ne o, .inl x :: S => br pc o (decide (¬ x = 0)) L S h
  | .ifCond .lt o, .inl x :: S => br pc o (decide (x < 0)) L S h
  | .ifCond .ge o, .inl x :: S => br pc o (decide (0 ≤ x)) L S h
  | .ifCond .gt o, .inl x :: S => br pc o (decide (0 < x)) L S h
  | .ifCond .le o, .inl x :: S => br pc o (decide (x ≤ 0)) L S h
  | .if_icmp .eq o, .inl y :: .inl x :: S => br pc o (decide (x = y)) L S h
  | .if_icmp .ne o, .inl y :: .inl x :: S => br pc o (decide (¬ x = y)) L S h
  | .if_icmp .lt o, .inl y :: .inl x :: S => br pc o (decide (x < y)) L S h
  | .if_icmp .ge o, .inl y :: .inl x :: S => br pc o (decide (y ≤ x)) L S h
  | .if_icmp .gt o, .inl y :: .inl x :: S => br pc o (decide (y < x)) L S h
  | .if_icmp .le o, .inl y :: .inl x :: S => br pc o (decide (x ≤ y)) L S h
  | .goto o, S => jp pc o L S h
  | .ifnull o, .inr (.inl none) :: S => jp pc o L S h
  | .ifnull _, .inr (.inl (some _)) :: S => nx (pc + 3) L S h
  | .ifnonnull _, .inr (.inl none) :: S => nx (pc + 3) L S h
  | .ifnonnull o, .inr (.inl (some _)) :: S => jp pc o L S h
  | .tableswitch d lo hi offs, .inl x :: S => (match tsw d lo hi offs x with
    | some o => jp pc o L S h
    | none => none)
  | .lookupswitch d ps, .inl x :: S => if (ps.toList.zip (ps.toList.drop 1)).all (fun (a, next) => a.1 < next.1) = true then jp pc (Op.lookupswitch.offset ps.toList d x.toInt) L S h else none
  | _, _ => none
/-- cells read, written, made (K: the method's class, ini: is it a constructor) -/
def st2 (ro : List (List Int32)) (K : Nat) (ini : Bool) (i : Instr) (pc : Nat) (L : AL) (S : List AV) (h : AH) : Option AR := match i, S with
  | .getfield x, .inr (.inl (some a)) :: S => (match lk fldT K x, h[a]? with
    | some (ci, k, _), some (.inl c, fs) => if c = ci then (match fs[k]? with
      | some v => nx (pc + 3) L (v :: S) h
      | none => none) else none
    | _, _ => none)
  | .putfield x, v :: .inr (.inl (some a)) :: S => (match lk fldT K x, h[a]? with
    | some (ci, k, _), some (.inl c, fs) => if c = ci ∧ k < fs.length then (match kCl[ci]?, kTy[ci]? with
      | some q, some ty => if fitA (ty k) v = true ∧ ((q.2.1 k).2.2.2 = false ∨ (ini = true ∧ kN[K]? = some (q.2.1 k).1)) then nx (pc + 3) L S (h.set a (.inl c, fs.set k v)) else none
      | _, _ => none) else none
    | _, _ => none)
  | .getstatic x, S => (match lk gsT K x with
    | some (j, _) => nx (pc + 3) L (.inr (.inr j) :: S) h
    | none => none)
  | .iaload, .inl i :: .inr (.inl (some a)) :: S => (match h[a]? with
    | some (.inr .int, xs) => if i < 0 ∨ xs.length ≤ i.toNatClampNeg then none else nx (pc + 1) L (.inl (vi (xs.getD i.toNatClampNeg (.inl 0))) :: S) h
    | _ => none)
  | .iaload, .inl i :: .inr (.inr j) :: S => (match ro[j]? with
    | some zs => if i < 0 ∨ zs.length ≤ i.toNatClampNeg then none else nx (pc + 1) L (.inl (zs.getD i.toNatClampNeg 0) :: S) h
    | none => none)
  | .baload, .inl i :: .inr (.inl (some a)) :: S => (match h[a]? with
    | some (.inr .boolean, xs) => if i < 0 ∨ xs.length ≤ i.toNatClampNeg then none else nx (pc + 1) L (.inl (vi (xs.getD i.toNatClampNeg (.inl 0))) :: S) h
    | _ => none)
  | .aaload, .inl i :: .inr (.inl (some a)) :: S => (match h[a]? with
    | some (.inr (.object _), xs) => if i < 0 ∨ xs.length ≤ i.toNatClampNeg then none else nx (pc + 1) L (.inr (.inl (vr (xs.getD i.toNatClampNeg (.inl 0)))) :: S) h
    | _ => none)
  | .iastore, .inl x :: .inl i :: .inr (.inl (some a)) :: S => (match h[a]? with
    | some (.inr .int, xs) => if i < 0 ∨ xs.length ≤ i.toNatClampNeg then none else nx (pc + 1) L S (h.set a (.inr .int, xs.set i.toNatClampNeg (.inl x)))
    | _ => none)
  | .bastore, .inl x :: .inl i :: .inr (.inl (some a)) :: S => (match h[a]? with
    | some (.inr .boolean, xs) => if i < 0 ∨ xs.length ≤ i.toNatClampNeg then none else nx (pc + 1) L S (h.set a (.inr .boolean, xs.set i.toNatClampNeg (.inl (x &&& 1))))
    | _ => none)
  | .aastore, .inr (.inl (some v)) :: .inl i :: .inr (.inl (some a)) :: S => (match h[a]?, h[v]? with
    | some (.inr (.object C), xs), some (.inl ci, _) => (match kCl[ci]? with
      | some q => if q.1 = C ∧ ¬ (i < 0 ∨ xs.length ≤ i.toNatClampNeg) then nx (pc + 1) L S (h.set a (.inr (.object C), xs.set i.toNatClampNeg (.inr (.inl (some v))))) else none
      | none => none)
    | _, _ => none)
  | .arraylength, .inr (.inl (some a)) :: S => (match h[a]? with
    | some (.inr .int, xs) => nx (pc + 1) L (.inl (Int32.ofNat xs.length) :: S) h
    | some (.inr .boolean, xs) => nx (pc + 1) L (.inl (Int32.ofNat xs.length) :: S) h
    | some (.inr (.object _), xs) => nx (pc + 1) L (.inl (Int32.ofNat xs.length) :: S) h
    | _ => none)
  | .arraylength, .inr (.inr j) :: S => (match ro[j]? with
    | some zs => nx (pc + 1) L (.inl (Int32.ofNat zs.length) :: S) h
    | none => none)
  | .new x, S => (match lk newT K x with
    | some (ci, _, _) => (match kCl[ci]?, kTy[ci]? with
      | some q, some ty => nx (pc + 3) L (.inr (.inl (some h.length)) :: S) (h ++ [(.inl ci, (List.range q.2.2).map (fun k => dv (ty k)))])
      | _, _ => none)
    | none => none)
  | .newarray .int, .inl n :: S => if n < 0 ∨ 65536 ≤ n.toNatClampNeg then none else nx (pc + 2) L (.inr (.inl (some h.length)) :: S) (h ++ [(.inr .int, List.replicate n.toNatClampNeg (.inl 0))])
  | .newarray .boolean, .inl n :: S => if n < 0 ∨ 65536 ≤ n.toNatClampNeg then none else nx (pc + 2) L (.inr (.inl (some h.length)) :: S) (h ++ [(.inr .boolean, List.replicate n.toNatClampNeg (.inl 0))])
  | .anewarray x, .inl n :: S => (match lk anT K x with
    | some (C, _, _) => if n < 0 ∨ 65536 ≤ n.toNatClampNeg then none else nx (pc + 3) L (.inr (.inl (some h.length)) :: S) (h ++ [(.inr (.object C), List.replicate n.toNatClampNeg (.inr (.inl none)))])
    | none => none)
  | _, _ => none
/-- calls and returns (d: how many frames deep it may call, rt: the method's type) -/
def st3 (d K : Nat) (rt : Option FieldType) (i : Instr) (pc : Nat) (L : AL) (S : List AV) (h : AH) : Option AR := match i, S with
  | .invokestatic x, S => (match lk invT K x with
    | some (j, kd, _) => if kd = 6 ∨ kd = 7 then (match S with
        | .inl y :: .inl x :: S => if 1 ≤ d ∧ S.length ≤ 8 then nx (pc + 3) L (.inl (if kd = 6 then (if x < y then y else x) else (if y < x then y else x)) :: S) h else none
        | _ => none)
      else if kd = 0 ∨ kd = 1 then (match mrec j with
        | some r => call pc L S h j r.2.2.2.2.2.1
        | none => none) else none
    | none => none)
  | .invokevirtual x, S => (match lk invT K x with
    | some (j, kd, _) => if kd = 2 then (match mrec j with
        | some r => if rcv h (S.take r.2.2.2.2.2.1).reverse r.1.cls = true then call pc L S h j r.2.2.2.2.2.1 else none
        | none => none) else none
    | none => none)
  | .invokespecial x, S => (match lk objT K x with
    | some _ => (match S with
      | .inr (.inl (some _)) :: S => if 1 ≤ d ∧ S.length ≤ 8 then nx (pc + 3) L S h else none
      | _ => none)
    | none => (match lk invT K x with
      | some (j, kd, _) => if kd = 4 ∨ kd = 5 then (match mrec j with
        | some r => if rcvN (S.take r.2.2.2.2.2.1).reverse = true then call pc L S h j r.2.2.2.2.2.1 else none
        | none => none) else none
      | none => none))
  | .ireturn, [.inl x] => (match rt with
    | some .int => some (.inr (.inr (some (.inl x), h)))
    | some .boolean => if x = 0 ∨ x = 1 then some (.inr (.inr (some (.inl x), h))) else none
    | _ => none)
  | .areturn, [.inr (.inl r)] => (match rt with
    | some (.object _) => some (.inr (.inr (some (.inr (.inl r)), h)))
    | _ => none)
  | .return_, [] => (match rt with
    | none => some (.inr (.inr (none, h)))
    | _ => none)
  | _, _ => none
/-- lengths of instructions, and which of the three -/
def kind (i : Instr) : Nat × Nat := match i with
  | .iconst _ | .aconst_null | .iload_n _ | .aload_n _ | .istore_n _ | .astore_n _ | .dup | .dup2 | .pop | .iadd | .isub | .imul | .iand | .ior | .ishl | .ishr | .idiv | .irem => (1, 1)
  | .bipush _ | .iload _ | .aload _ | .istore _ | .astore _ => (1, 2)
  | .sipush _ | .iinc _ _ | .ifCond _ _ | .if_icmp _ _ | .goto _ | .ifnull _ | .ifnonnull _ => (1, 3)
  | .tableswitch .. | .lookupswitch .. => (1, 0)
  | .getfield _ | .putfield _ | .getstatic _ | .new _ | .anewarray _ => (2, 3)
  | .iaload | .baload | .aaload | .iastore | .bastore | .aastore | .arraylength => (2, 1)
  | .newarray _ => (2, 2)
  | .invokestatic _ | .invokevirtual _ | .invokespecial _ => (3, 3)
  | .ireturn | .areturn | .return_ => (3, 1)
  | _ => (0, 0)
def fch (b : ByteArray) (pc : Nat) : Option Instr := match decode b pc with
  | .ok (i, n) => if (kind i).2 = 0 ∨ (kind i).2 = n then some i else none
  | .error _ => none
def stp (ro : List (List Int32)) (d : Nat) (r : MR) (i : Instr) (pc : Nat) (L : AL) (S : List AV) (h : AH) : Option AR :=
  if (kind i).1 = 1 then st1 i pc L S h else if (kind i).1 = 2 then st2 ro r.2.2.2.2.1 (decide (r.1.name = "<init>")) i pc L S h else if (kind i).1 = 3 then st3 d r.2.2.2.2.1 r.2.2.2.1 i pc L S h else none
def ent (r : MR) (as : List AV) (h : AH) : AS := (0, as.map some ++ List.replicate (r.2.2.1 - as.length) none, [], h)
def run (ro : List (List Int32)) : Nat → Nat → Nat → AS → Option (Option AV × AH)
  | 0, _, _, _ => none
  | f + 1, d, j, s => match mrec j with
    | none => none
    | some r => match fch r.2.1 s.1 with
      | none => none
      | some i => match stp ro d r i s.1 s.2.1 s.2.2.1 s.2.2.2 with
        | none => none
        | some (.inl s') => run ro f d j s'
        | some (.inr (.inr o)) => some o
        | some (.inr (.inl (k, as, s'))) => match d, mrec k with
          | d' + 1, some r' => (match run ro f d' k (ent r' as s'.2.2.2) with
            | some (v, h') => run ro f (d' + 1) j (s'.1, s'.2.1, v.toList ++ s'.2.2.1, h')
            | none => none)
          | _, _ => none
theorem slz_app (a c : AH) : slz (a ++ c) = slz a + slz c := by
  induction a with
  | nil => simp [slz]
  | cons x l ih => simp [slz, ih, Nat.add_assoc]
theorem slz_set {h : AH} {a : Nat} {c e : AC} (hc : h[a]? = some c) (hl : e.2.length = c.2.length) : slz (h.set a e) = slz h := by
  induction h generalizing a with
  | nil => simp at hc
  | cons x l ih =>
    cases a with
    | zero =>
      simp at hc
      subst hc
      simp [slz, hl]
    | succ a =>
      simp at hc
      simp [slz, ih hc]
def hle (h h' : AH) : Prop := h.length ≤ h'.length ∧ slz h ≤ slz h'
theorem hle.rf (h : AH) : hle h h := ⟨Nat.le_refl _, Nat.le_refl _⟩
theorem hle.tr {a b c : AH} (h1 : hle a b) (h2 : hle b c) : hle a c := ⟨Nat.le_trans h1.1 h2.1, Nat.le_trans h1.2 h2.2⟩
theorem hle.push (h : AH) (c : AC) : hle h (h ++ [c]) := ⟨by simp, by rw [slz_app]; omega⟩
theorem hle.set {h : AH} {a : Nat} {c e : AC} (hc : h[a]? = some c) (hl : e.2.length = c.2.length) : hle h (h.set a e) := ⟨by simp, by rw [slz_set hc hl]; exact Nat.le_refl _⟩
/-- what the next state's cells are -/
def arh : AR → AH
  | .inl s => s.2.2.2
  | .inr (.inl q) => q.2.2.2.2.2
  | .inr (.inr o) => o.2
theorem nx_h {pc : Nat} {L : AL} {S : List AV} {h : AH} {x : AR} (e : nx pc L S h = some x) : arh x = h := by
  cases e
  rfl
theorem sto_h {pc k : Nat} {L : AL} {v : AV} {S : List AV} {h : AH} {x : AR} (e : sto pc L k v S h = some x) : arh x = h := by
  unfold sto at e
  split at e
  · exact nx_h e
  · cases e
theorem jp_h {pc : Nat} {o : Int} {L : AL} {S : List AV} {h : AH} {x : AR} (e : jp pc o L S h = some x) : arh x = h := by
  unfold jp at e
  split at e
  · exact nx_h e
  · cases e
theorem br_h {pc : Nat} {o : Int} {t : Bool} {L : AL} {S : List AV} {h : AH} {x : AR} (e : br pc o t L S h = some x) : arh x = h := by
  unfold br at e
  split at e
  · exact nx_h e
  · cases e
theorem call_h {pc j na : Nat} {L : AL} {S : List AV} {h : AH} {x : AR} (e : call pc L S h j na = some x) : arh x = h := by
  unfold call at e
  split at e
  · cases e
    rfl
  · cases e
set_option maxHeartbeats 4000000 in
theorem st1_h {i : Instr} {pc : Nat} {L : AL} {S : List AV} {h : AH} {x : AR} (e : st1 i pc L S h = some x) : arh x = h := by
  unfold st1 at e
  repeat' split at e
  all_goals first
    | exact nx_h e
    | exact sto_h e
    | exact jp_h e
    | exact br_h e
    | cases e
set_option maxHeartbeats 4000000 in
theorem st3_h {d K : Nat} {rt : Option FieldType} {i : Instr} {pc : Nat} {L : AL} {S : List AV} {h : AH} {x : AR} (e : st3 d K rt i pc L S h = some x) : arh x = h := by
  unfold st3 at e
  repeat' split at e
  all_goals first
    | exact nx_h e
    | exact call_h e
    | (cases e; rfl)
    | cases e
set_option maxHeartbeats 4000000 in
theorem st2_h {ro : List (List Int32)} {K : Nat} {ini : Bool} {i : Instr} {pc : Nat} {L : AL} {S : List AV} {h : AH} {x : AR} (e : st2 ro K ini i pc L S h = some x) : hle h (arh x) := by
  unfold st2 at e
  repeat' split at e
  all_goals first
    | (rw [nx_h e]; exact hle.rf h)
    | (rw [nx_h e]; exact hle.push h _)
    | (rw [nx_h e]; exact hle.set (by assumption) (by simp))
    | cases e
theorem stp_h {ro : List (List Int32)} {d : Nat} {r : MR} {i : Instr} {pc : Nat} {L : AL} {S : List AV} {h : AH} {x : AR} (e : stp ro d r i pc L S h = some x) : hle h (arh x) := by
  unfold stp at e
  split at e
  · rw [st1_h e]; exact hle.rf h
  · split at e
    · exact st2_h e
    · split at e
      · rw [st3_h e]; exact hle.rf h
      · cases e
theorem run_h (ro : List (List Int32)) : ∀ (f d j : Nat) (s : AS) (o : Option AV × AH), run ro f d j s = some o → hle s.2.2.2 o.2 := by
  intro f
  induction f with
  | zero => intro d j s o e; simp [run] at e
  | succ f ih =>
    intro d j s o e
    rw [run] at e
    split at e
    · cases e
    · split at e
      · cases e
      · split at e
        · cases e
        · rename_i s' h1
          exact hle.tr (stp_h h1) (ih _ _ _ _ e)
        · rename_i o' h1
          cases e
          exact stp_h h1
        · rename_i k as s' h1
          split at e
          · split at e
            · rename_i v h' h2
              exact hle.tr (stp_h h1) (hle.tr (b := h') (ih _ _ _ _ h2) (ih _ _ _ _ e))
            · cases e
          · cases e
end
section
/-! What the small machine yields, the real one yields. First: its cells in the real heap -/
def cv (b : Nat) (ra : Nat → Nat) (v : AV) : Value := match v with
  | .inl x => .int x
  | .inr (.inl none) => .null
  | .inr (.inl (some k)) => .ref (b + k)
  | .inr (.inr j) => .ref (ra j)
theorem cv_cat (b : Nat) (ra : Nat → Nat) (v : AV) : (cv b ra v).category = 1 := by
  rcases v with x | (_ | _) | _ <;> rfl
theorem cv_sum (b : Nat) (ra : Nat → Nat) (S : List AV) : ((S.map (cv b ra)).map fun v => v.category).sum = S.length := by
  induction S with
  | nil => rfl
  | cons v S ih => simp only [List.map_cons, List.sum_cons, List.length_cons, ih, cv_cat]; omega
def ce (aC : FieldType → ClassId) (b : Nat) (ra : Nat → Nat) (c : AC) : va_E := match c with
  | (.inl ci, fs) => .inr (ci, fs.map (cv b ra))
  | (.inr (.object C), xs) => .inl (aC (.object C), (xs.length, .inr (.inr (.inr (.inr (fun j => (vr (xs.getD j (.inl 0))).map (b + ·)))))))
  | (.inr ty, xs) => .inl (aC ty, (xs.length, .inl (fun j => vi (xs.getD j (.inl 0)))))
def wsO (aC : FieldType → ClassId) (b : Nat) (ra : Nat → Nat) (h : AH) : va_W := h.mapIdx (fun k c => (b + k, ce aC b ra c))
theorem wsO_get {aC : FieldType → ClassId} {b : Nat} {ra : Nat → Nat} {h : AH} {k : Nat} {c : AC} (hc : h[k]? = some c) : (wsO aC b ra h)[k]? = some (b + k, ce aC b ra c) := by
  simp [wsO, List.getElem?_mapIdx, hc]
theorem wsO_len (aC : FieldType → ClassId) (b : Nat) (ra : Nat → Nat) (h : AH) : (wsO aC b ra h).length = h.length := by simp [wsO]
theorem wsO_set (aC : FieldType → ClassId) (b : Nat) (ra : Nat → Nat) (h : AH) (k : Nat) (c : AC) : wsO aC b ra (h.set k c) = (wsO aC b ra h).set k (b + k, ce aC b ra c) := by
  apply List.ext_getElem?
  intro i
  by_cases hi : k = i
  · subst hi
    by_cases hk : k < h.length
    · rw [List.getElem?_set_self (by rw [wsO_len]; exact hk)]
      exact wsO_get (List.getElem?_set_self hk)
    · rw [List.getElem?_eq_none (by rw [wsO_len]; simp; omega), List.getElem?_eq_none (by simp [wsO_len]; omega)]
  · rw [List.getElem?_set_ne hi]
    simp [wsO, List.getElem?_mapIdx, List.getElem?_set_ne hi]
theorem wsO_app (aC : FieldType → ClassId) (b : Nat) (ra : Nat → Nat) (h : AH) (c : AC) : wsO aC b ra (h ++ [c]) = wsO aC b ra h ++ [(b + h.length, ce aC b ra c)] := by
  simp [wsO, List.mapIdx_append]
theorem wsO_at {aC : FieldType → ClassId} {b : Nat} {ra : Nat → Nat} {h : AH} {k : Nat} {q : Nat × va_E} (hq : (wsO aC b ra h)[k]? = some q) : ∃ c, h[k]? = some c ∧ q = (b + k, ce aC b ra c) := by
  have hk : k < h.length := by
    rw [← wsO_len aC b ra h]
    exact (List.getElem?_eq_some_iff.mp hq).1
  have h1 : h[k]? = some h[k] := List.getElem?_eq_getElem hk
  rw [wsO_get h1] at hq
  cases hq
  exact ⟨_, h1, rfl⟩
abbrev Ao (b : Nat) : Nat → Prop := fun q => b ≤ q
theorem wsO_D (aC : FieldType → ClassId) (b : Nat) (ra : Nat → Nat) (h : AH) : va_D (Ao b) (wsO aC b ra h) := by
  refine ⟨fun i j p q hi hj hpq => ?_, fun k q hk => ?_⟩
  · obtain ⟨c1, -, rfl⟩ := wsO_at hi
    obtain ⟨c2, -, rfl⟩ := wsO_at hj
    have : b + i = b + j := hpq
    omega
  · obtain ⟨c1, -, rfl⟩ := wsO_at hk
    exact Nat.le_add_right b k
def HR (D : va_G) (aC : FieldType → ClassId) (b : Nat) (ra : Nat → Nat) (h : AH) (H : Heap) : Prop := H.size = b + h.length ∧ va_P D kCl (wsO aC b ra h) H
def tT : FieldType := .object "ChoirBook$Tone"
def tV : FieldType := .object "ChoirBook$Verse"
def tysO (aC : FieldType → ClassId) : List (ClassId × FieldType) := [(aC .int, .int), (aC .boolean, .boolean), (aC tT, tT), (aC tV, tV)]
/-- the locals -/
def lvl (b : Nat) (ra : Nat → Nat) (L : AL) : List (Nat × Value) := L.zipIdx.filterMap (fun q => q.1.map (fun v => (q.2, cv b ra v)))
theorem lvl_mem {b : Nat} {ra : Nat → Nat} {L : AL} {q : Nat × Value} : q ∈ lvl b ra L ↔ ∃ v, L[q.1]? = some (some v) ∧ q.2 = cv b ra v := by
  unfold lvl
  rw [List.mem_filterMap]
  constructor
  · rintro ⟨⟨o, i⟩, hm, ho⟩
    rw [List.mem_zipIdx_iff_getElem?] at hm
    cases o with
    | none => simp at ho
    | some v =>
      simp at ho
      subst ho
      exact ⟨v, hm, rfl⟩
  · rintro ⟨v, h1, h2⟩
    refine ⟨(some v, q.1), List.mem_zipIdx_iff_getElem?.mpr h1, ?_⟩
    simp [← h2]
def LR (b : Nat) (ra : Nat → Nat) (L : AL) (ls : Array Slot) : Prop := lv_has ls L.length (lvl b ra L)
theorem ld_get {L : AL} {k : Nat} {v : AV} (h : ld L k = some v) : L[k]? = some (some v) := by
  unfold ld at h
  split at h
  · cases h
    assumption
  · cases h
theorem LR.get {b : Nat} {ra : Nat → Nat} {L : AL} {ls : Array Slot} (h : LR b ra L ls) {k : Nat} {v : AV} (hv : ld L k = some v) : ls[k]? = some (.val (cv b ra v)) :=
  h.2.2 (k, cv b ra v) (lvl_mem.mpr ⟨v, ld_get hv, rfl⟩)
theorem LR.sto {b : Nat} {ra : Nat → Nat} {L : AL} {ls' : Array Slot} {k : Nat} {v : AV} (h : lv_has ls' L.length ((k, cv b ra v) :: (lvl b ra L).filter (fun q => !(q.1 == k) && !(q.1 + 1 == k && q.2.category == 2)))) : LR b ra (L.set k (some v)) ls' := by
  refine ⟨by simpa using h.1, h.2.1, fun q hq => ?_⟩
  obtain ⟨w, h1, h2⟩ := lvl_mem.mp hq
  by_cases hk : k = q.1
  · have hlt : k < L.length := by
      have := (List.getElem?_eq_some_iff.mp h1).1
      simp at this
      omega
    rw [← hk, List.getElem?_set_self hlt] at h1
    cases h1
    have := h.2.2 (k, cv b ra v) List.mem_cons_self
    rw [h2, ← hk]
    exact this
  · rw [List.getElem?_set_ne hk] at h1
    refine h.2.2 q (List.mem_cons_of_mem _ (List.mem_filter.mpr ⟨lvl_mem.mpr ⟨w, h1, h2⟩, ?_⟩))
    have hc : q.2.category = 1 := by rw [h2]; exact cv_cat b ra w
    simp [hc]
    omega
theorem br_e {pc : Nat} {o : Int} {t : Bool} {L : AL} {S : List AV} {h : AH} {x : AR} (e : br pc o t L S h = some x) : (pc : Int) + o = ((((pc : Int) + o).toNat : Nat) : Int) ∧ x = .inl (if t = true then ((pc : Int) + o).toNat else pc + 3, L, S, h) := by
  unfold br at e
  split at e
  · rename_i h0
    cases e
    exact ⟨(Int.toNat_of_nonneg h0).symm, rfl⟩
  · cases e
theorem jp_e {pc : Nat} {o : Int} {L : AL} {S : List AV} {h : AH} {x : AR} (e : jp pc o L S h = some x) : (pc : Int) + o = ((((pc : Int) + o).toNat : Nat) : Int) ∧ x = .inl (((pc : Int) + o).toNat, L, S, h) := by
  unfold jp at e
  split at e
  · rename_i h0
    cases e
    exact ⟨(Int.toNat_of_nonneg h0).symm, rfl⟩
  · cases e
theorem sto_e {pc k : Nat} {L : AL} {v : AV} {S : List AV} {h : AH} {x : AR} (e : sto pc L k v S h = some x) : k < L.length ∧ x = .inl (pc, L.set k (some v), S, h) := by
  unfold sto at e
  split at e
  · rename_i h0
    cases e
    exact ⟨h0, rfl⟩
  · cases e
theorem nx_e {pc : Nat} {L : AL} {S : List AV} {h : AH} {x : AR} (e : nx pc L S h = some x) : x = .inl (pc, L, S, h) := by
  cases e
  rfl
section SD1
variable {p : Program} {l : Launch} {e : Env} {R : Room} {s : State} {m : MethodId} {args : Array Value} {below : List Frame} {meth : Method} {c : Code} {H : Heap} {locs : List Loc} {cells slots : Nat} {Q : State → Prop}
variable {b : Nat} {ra : Nat → Nat} {cc : ByteArray} {pc : Nat} {L : AL} {S : List AV} {h : AH} {ls : Array Slot} {i : Instr} {x : AR}
set_option maxHeartbeats 4000000 in
theorem sd1 (hx : p.tables.exec = Jvm.exec) (hb : c.code = cc) (hl : LR b ra L ls) (hd : ∀ n, (kind i).2 = n → n ≠ 0 → decode cc pc = .ok (i, n)) (hd0 : ∃ n, decode cc pc = .ok (i, n)) (he : st1 i pc L S h = some x)
    (k : ∀ pc' L' S' ls', x = .inl (pc', L', S', h) → L'.length = L.length → LR b ra L' ls' → W p l e R s m args below meth c H locs cells slots Q (F0 m pc' ls' (S'.map (cv b ra)))) :
    W p l e R s m args below meth c H locs cells slots Q (F0 m pc ls (S.map (cv b ra))) := by
  unfold st1 at he
  split at he
  · exact lv_iconst hx hb (hd 1 rfl (by decide)) rfl (k _ _ _ _ (nx_e he) rfl hl)
  · exact lv_bipush hx hb (hd 2 rfl (by decide)) rfl (k _ _ _ _ (nx_e he) rfl hl)
  · exact lv_sipush hx hb (hd 3 rfl (by decide)) rfl (k _ _ _ _ (nx_e he) rfl hl)
  · exact lv_null hx hb (hd 1 rfl (by decide)) (k _ _ _ _ (nx_e he) rfl hl)
  · split at he
    · rename_i x0 hv
      exact lv_iload_n hx hb (hd 1 rfl (by decide)) rfl (hl.get hv) (k _ _ _ _ (nx_e he) rfl hl)
    · cases he
  · split at he
    · rename_i x0 hv
      exact lv_iload hx hb (hd 2 rfl (by decide)) (hl.get hv) (k _ _ _ _ (nx_e he) rfl hl)
    · cases he
  · split at he
    · rename_i x0 hv
      rcases x0 with (_ | a) | j
      · exact lv_aload_nN hx hb (hd 1 rfl (by decide)) rfl (hl.get hv) (k _ _ _ _ (nx_e he) rfl hl)
      · exact lv_aload_n hx hb (hd 1 rfl (by decide)) rfl (hl.get hv) (k _ _ _ _ (nx_e he) rfl hl)
      · exact lv_aload_n hx hb (hd 1 rfl (by decide)) rfl (hl.get hv) (k _ _ _ _ (nx_e he) rfl hl)
    · cases he
  · split at he
    · rename_i x0 hv
      rcases x0 with (_ | a) | j
      · exact lv_aloadN hx hb (hd 2 rfl (by decide)) (hl.get hv) (k _ _ _ _ (nx_e he) rfl hl)
      · exact lv_aload hx hb (hd 2 rfl (by decide)) (hl.get hv) (k _ _ _ _ (nx_e he) rfl hl)
      · exact lv_aload hx hb (hd 2 rfl (by decide)) (hl.get hv) (k _ _ _ _ (nx_e he) rfl hl)
    · cases he
  · obtain ⟨hk, h0⟩ := sto_e he
    exact lv_istore_n hx hb (hd 1 rfl (by decide)) rfl hl hk rfl (fun ls' hl' => k _ _ _ _ h0 (by simp) (LR.sto hl'))
  · obtain ⟨hk, h0⟩ := sto_e he
    exact lv_istore hx hb (hd 2 rfl (by decide)) hl hk rfl (fun ls' hl' => k _ _ _ _ h0 (by simp) (LR.sto hl'))
  · obtain ⟨hk, h0⟩ := sto_e he
    rename_i k0 x0 S0
    rcases x0 with (_ | a) | j
    · exact lv_astore_nN hx hb (hd 1 rfl (by decide)) rfl hl hk rfl (fun ls' hl' => k _ _ _ _ h0 (by simp) (LR.sto hl'))
    · exact lv_astore_n hx hb (hd 1 rfl (by decide)) rfl hl hk rfl (fun ls' hl' => k _ _ _ _ h0 (by simp) (LR.sto hl'))
    · exact lv_astore_n hx hb (hd 1 rfl (by decide)) rfl hl hk rfl (fun ls' hl' => k _ _ _ _ h0 (by simp) (LR.sto hl'))
  · obtain ⟨hk, h0⟩ := sto_e he
    rename_i k0 x0 S0
    rcases x0 with (_ | a) | j
    · exact lv_astoreN hx hb (hd 2 rfl (by decide)) hl hk rfl (fun ls' hl' => k _ _ _ _ h0 (by simp) (LR.sto hl'))
    · exact lv_astore hx hb (hd 2 rfl (by decide)) hl hk rfl (fun ls' hl' => k _ _ _ _ h0 (by simp) (LR.sto hl'))
    · exact lv_astore hx hb (hd 2 rfl (by decide)) hl hk rfl (fun ls' hl' => k _ _ _ _ h0 (by simp) (LR.sto hl'))
  · split at he
    · rename_i x0 hv
      obtain ⟨hk, h0⟩ := sto_e he
      obtain ⟨j, hj⟩ := List.getElem?_of_mem ((lvl_mem (b := b) (ra := ra) (L := L) (q := (_, .int x0))).mpr ⟨.inl x0, ld_get hv, rfl⟩)
      exact lv_iinc hx hb (hd 3 rfl (by decide)) hl hj rfl hk rfl (fun ls' hl' => k _ _ _ _ h0 (by simp) (LR.sto (v := .inl _) hl'))
    · cases he
  · exact lv_dup hx hb (hd 1 rfl (by decide)) (cv_cat b ra _) (k _ _ _ _ (nx_e he) rfl hl)
  · exact lv_dup2_11 hx hb (hd 1 rfl (by decide)) (cv_cat b ra _) (cv_cat b ra _) (k _ _ _ _ (nx_e he) rfl hl)
  · exact lv_pop hx hb (hd 1 rfl (by decide)) (cv_cat b ra _) (k _ _ _ _ (nx_e he) rfl hl)
  · exact lv_iadd hx hb (hd 1 rfl (by decide)) (k _ _ _ _ (nx_e he) rfl hl)
  · exact lv_isub hx hb (hd 1 rfl (by decide)) (k _ _ _ _ (nx_e he) rfl hl)
  · exact lv_imul hx hb (hd 1 rfl (by decide)) (k _ _ _ _ (nx_e he) rfl hl)
  · exact lv_iand hx hb (hd 1 rfl (by decide)) (k _ _ _ _ (nx_e he) rfl hl)
  · exact lv_ior hx hb (hd 1 rfl (by decide)) (k _ _ _ _ (nx_e he) rfl hl)
  · exact lv_ishl hx hb (hd 1 rfl (by decide)) (k _ _ _ _ (nx_e he) rfl hl)
  · exact lv_ishr hx hb (hd 1 rfl (by decide)) (k _ _ _ _ (nx_e he) rfl hl)
  · split at he
    · cases he
    · rename_i hne
      exact lv_idiv hx hb (hd 1 rfl (by decide)) hne (k _ _ _ _ (nx_e he) rfl hl)
  · split at he
    · cases he
    · rename_i hne
      exact lv_irem hx hb (hd 1 rfl (by decide)) hne (k _ _ _ _ (nx_e he) rfl hl)
  · obtain ⟨ht, rfl⟩ := br_e he
    exact lv_if_eq hx hb (hd 3 rfl (by decide)) ht (fun q => k _ _ _ _ (by simp [q]) rfl hl) (fun q => k _ _ _ _ (by simp [q]) rfl hl)
  · obtain ⟨ht, rfl⟩ := br_e he
    exact lv_if_ne hx hb (hd 3 rfl (by decide)) ht (fun q => k _ _ _ _ (by simp [q]) rfl hl) (fun q => k _ _ _ _ (by simp [q]) rfl hl)
  · obtain ⟨ht, rfl⟩ := br_e he
    exact lv_if_lt hx hb (hd 3 rfl (by decide)) ht (fun q => k _ _ _ _ (by rw [decide_eq_true q, if_pos rfl]) rfl hl) (fun q => k _ _ _ _ (by rw [decide_eq_false q, if_neg (by decide)]) rfl hl)
  · obtain ⟨ht, rfl⟩ := br_e he
    exact lv_if_ge hx hb (hd 3 rfl (by decide)) ht (fun q => k _ _ _ _ (by rw [decide_eq_true q, if_pos rfl]) rfl hl) (fun q => k _ _ _ _ (by rw [decide_eq_false q, if_neg (by decide)]) rfl hl)
  · obtain ⟨ht, rfl⟩ := br_e he
    exact lv_if_gt hx hb (hd 3 rfl (by decide)) ht (fun q => k _ _ _ _ (by rw [decide_eq_true q, if_pos rfl]) rfl hl) (fun q => k _ _ _ _ (by rw [decide_eq_false q, if_neg (by decide)]) rfl hl)
  · obtain ⟨ht, rfl⟩ := br_e he
    exact lv_if_le hx hb (hd 3 rfl (by decide)) ht (fun q => k _ _ _ _ (by rw [decide_eq_true q, if_pos rfl]) rfl hl) (fun q => k _ _ _ _ (by rw [decide_eq_false q, if_neg (by decide)]) rfl hl)
  · obtain ⟨ht, rfl⟩ := br_e he
    exact lv_icmp_eq hx hb (hd 3 rfl (by decide)) ht (fun q => k _ _ _ _ (by simp [q]) rfl hl) (fun q => k _ _ _ _ (by simp [q]) rfl hl)
  · obtain ⟨ht, rfl⟩ := br_e he
    exact lv_icmp_ne hx hb (hd 3 rfl (by decide)) ht (fun q => k _ _ _ _ (by simp [q]) rfl hl) (fun q => k _ _ _ _ (by simp [q]) rfl hl)
  · obtain ⟨ht, rfl⟩ := br_e he
    exact lv_icmp_lt hx hb (hd 3 rfl (by decide)) ht (fun q => k _ _ _ _ (by rw [decide_eq_true q, if_pos rfl]) rfl hl) (fun q => k _ _ _ _ (by rw [decide_eq_false q, if_neg (by decide)]) rfl hl)
  · obtain ⟨ht, rfl⟩ := br_e he
    exact lv_icmp_ge hx hb (hd 3 rfl (by decide)) ht (fun q => k _ _ _ _ (by rw [decide_eq_true q, if_pos rfl]) rfl hl) (fun q => k _ _ _ _ (by rw [decide_eq_false q, if_neg (by decide)]) rfl hl)
  · obtain ⟨ht, rfl⟩ := br_e he
    exact lv_icmp_gt hx hb (hd 3 rfl (by decide)) ht (fun q => k _ _ _ _ (by rw [decide_eq_true q, if_pos rfl]) rfl hl) (fun q => k _ _ _ _ (by rw [decide_eq_false q, if_neg (by decide)]) rfl hl)
  · obtain ⟨ht, rfl⟩ := br_e he
    exact lv_icmp_le hx hb (hd 3 rfl (by decide)) ht (fun q => k _ _ _ _ (by rw [decide_eq_true q, if_pos rfl]) rfl hl) (fun q => k _ _ _ _ (by rw [decide_eq_false q, if_neg (by decide)]) rfl hl)
  · obtain ⟨ht, rfl⟩ := jp_e he
    exact lv_goto hx hb (hd 3 rfl (by decide)) ht (k _ _ _ _ rfl rfl hl)
  · obtain ⟨ht, rfl⟩ := jp_e he
    exact lv_ifnullN hx hb (hd 3 rfl (by decide)) ht (k _ _ _ _ rfl rfl hl)
  · exact lv_ifnull hx hb (hd 3 rfl (by decide)) (k _ _ _ _ (nx_e he) rfl hl)
  · exact lv_ifnonnullN hx hb (hd 3 rfl (by decide)) (k _ _ _ _ (nx_e he) rfl hl)
  · obtain ⟨ht, rfl⟩ := jp_e he
    exact lv_ifnonnull hx hb (hd 3 rfl (by decide)) ht (k _ _ _ _ rfl rfl hl)
  · split at he
    · rename_i o ho
      obtain ⟨ht, rfl⟩ := jp_e he
      obtain ⟨n, hn⟩ := hd0
      unfold tsw at ho
      split at ho
      · rename_i hout
        cases ho
        exact lv_tableOut hx hb hn hout ht (k _ _ _ _ rfl rfl hl)
      · rename_i hin
        exact lv_tableIn hx hb hn (fun q => hin (Or.inl q)) (fun q => hin (Or.inr q)) ho ht (k _ _ _ _ rfl rfl hl)
    · cases he
  · split at he
    · rename_i hs
      obtain ⟨ht, rfl⟩ := jp_e he
      obtain ⟨n, hn⟩ := hd0
      exact lv_lookup hx hb hn hs rfl ht (k _ _ _ _ rfl rfl hl)
    · cases he
  · cases he
end SD1
end
section
/-! The tables' checks as facts -/
theorem lk_at {α : Type} {T : List (List (Nat × α))} {K i : Nat} {v : α} (h : lk T K i = some v) : ∃ l, T[K]? = some l ∧ (i, v) ∈ l := by
  unfold lk at h
  split at h
  · rename_i l hl
    split at h
    · rename_i q hq
      cases h
      have h1 := List.mem_of_find?_eq_some hq
      have h2 := List.find?_some hq
      simp at h2
      subst h2
      exact ⟨l, hl, h1⟩
    · cases h
  · cases h
theorem lk_ck {α : Type} {T : List (List (Nat × α))} {f : Nat → Nat × α → Bool} (hT : (T.zipIdx).all (fun q => q.1.all (f q.2)) = true) {K i : Nat} {v : α} (h : lk T K i = some v) : f K (i, v) = true := by
  obtain ⟨l, h1, h2⟩ := lk_at h
  have h3 := List.all_eq_true.mp hT (l, K) (List.mem_zipIdx_iff_getElem?.mpr h1)
  exact List.all_eq_true.mp h3 _ h2
theorem all_at {α β : Type} {l : List α} {k : List β} {f : α × β → Bool} (hT : (l.zip k).all f = true) {i : Nat} {a : α} {b : β} (h1 : l[i]? = some a) (h2 : k[i]? = some b) : f (a, b) = true := by
  refine List.all_eq_true.mp hT (a, b) ?_
  refine List.mem_of_getElem? (i := i) ?_
  rw [List.getElem?_zip_eq_some]
  exact ⟨h1, h2⟩
/-- what is known of a class of objects -/
theorem kc_ok {ci : Nat} {q : vw_C} {ty : Nat → FieldType} (hq : kCl[ci]? = some q) (ht : kTy[ci]? = some ty) :
    (∀ w ∈ u_ws q.1 q.2.1 q.2.2, w ∈ gw) ∧ (∀ k, k < q.2.2 → parseFieldDescriptor (q.2.1 k).2.2.1 = some (ty k)) ∧ (∀ a, a < q.2.2 → ∀ b, b < q.2.2 → a ≠ b → (q.2.1 a).2.1 ≠ (q.2.1 b).2.1) ∧ ∀ k, k < q.2.2 → (q.2.1 k).1 = q.1 := by
  have hc : ci < 11 := (List.getElem?_eq_some_iff.mp hq).1
  have hp : kPs[ci]? = some kPs[ci] := List.getElem?_eq_getElem (l := kPs) hc
  have hz : (kTy.zip kPs)[ci]? = some (ty, kPs[ci]) := by
    rw [List.getElem?_zip_eq_some]
    exact ⟨ht, hp⟩
  have h := all_at ck_cT hq hz
  unfold ck_c at h
  simp only [Bool.and_eq_true, decide_eq_true_eq] at h
  obtain ⟨⟨h1, h2⟩, h3⟩ := h
  refine ⟨fun w hw => ?_, fun k hk => ?_, fun a ha b hb hab => ?_, fun k hk => ?_⟩
  · obtain ⟨k, hk, rfl⟩ := List.mem_map.mp hw
    have hk' := List.mem_range.mp hk
    have hl : k < kPs[ci].length := by rw [h2]; exact hk'
    have := all_at (i := k) (a := k) (b := kPs[ci][k]) h1 (by simp [hk']) (List.getElem?_eq_getElem hl)
    exact ckw_in this
  · have := List.all_eq_true.mp h3 k (List.mem_range.mpr hk)
    simp only [Bool.and_eq_true, decide_eq_true_eq] at this
    exact this.1.1
  · have := List.all_eq_true.mp h3 a (List.mem_range.mpr ha)
    simp only [Bool.and_eq_true, decide_eq_true_eq] at this
    have := List.all_eq_true.mp this.2 b (List.mem_range.mpr hb)
    simp only [Bool.or_eq_true, decide_eq_true_eq, beq_iff_eq] at this
    rcases this with h | h
    · exact absurd h.symm hab
    · exact h
  · have := List.all_eq_true.mp h3 k (List.mem_range.mpr hk)
    simp only [Bool.and_eq_true, decide_eq_true_eq] at this
    exact this.1.2
theorem fld_ok {K x ci k po : Nat} {n : String} {q : vw_C} (h : lk fldT K x = some (ci, k, po)) (hn : kN[K]? = some n) (hq : kCl[ci]? = some q) : (.fieldLink n x (q.2.1 k).1 (q.2.1 k).2.1 (q.2.1 k).2.2.1 : Cond) ∈ gw ∧ k < q.2.2 := by
  have h1 := lk_ck (f := ck_f) ck_fT h
  simp only [ck_f, hn, hq, Bool.and_eq_true, decide_eq_true_eq] at h1
  exact ⟨ckw_in h1.1, h1.2⟩
theorem new_ok {K x ci p1 p2 : Nat} {n : String} {q : vw_C} (h : lk newT K x = some (ci, p1, p2)) (hn : kN[K]? = some n) (hq : kCl[ci]? = some q) : (.classLink n x q.1 : Cond) ∈ gw ∧ (.instantiable q.1 q.2.2 : Cond) ∈ gw := by
  have h1 := lk_ck (f := ck_n) ck_nT h
  simp only [ck_n, hn, hq, Bool.and_eq_true] at h1
  exact ⟨ckw_in h1.1, ckw_in h1.2⟩
theorem an_ok {K x p1 p2 : Nat} {n C : String} (h : lk anT K x = some (C, p1, p2)) (hn : kN[K]? = some n) : (.classLink n x C : Cond) ∈ gw := by
  have h1 := lk_ck (f := ck_a) ck_aT h
  simp only [ck_a, hn, Bool.and_eq_true] at h1
  exact ckw_in h1.1
theorem an_two {K x p1 p2 : Nat} {C : String} (h : lk anT K x = some (C, p1, p2)) : C = "ChoirBook$Tone" ∨ C = "ChoirBook$Verse" := by
  obtain ⟨l, h1, h2⟩ := lk_at h
  have h3 : anT.all (fun l => l.all (fun e => e.2.1 == "ChoirBook$Tone" || e.2.1 == "ChoirBook$Verse")) = true := by decide +kernel
  have h4 := List.all_eq_true.mp (List.all_eq_true.mp h3 l (List.mem_of_getElem? h1)) _ h2
  simpa using h4
theorem gs_ok {K x j po : Nat} {n : String} (h : lk gsT K x = some (j, po)) (hn : kN[K]? = some n) : (.fieldLink n x "ChoirBook$Days" (gsN j) "[I" : Cond) ∈ gw ∧ (j = 1 ∨ j = 2) := by
  have h1 := lk_ck (f := ck_g) ck_gT h
  simp only [ck_g, hn, Bool.and_eq_true, Bool.or_eq_true, beq_iff_eq] at h1
  exact ⟨ckw_in h1.1, h1.2⟩
theorem ob_ok {K x po : Nat} {n : String} (h : lk objT K x = some po) (hn : kN[K]? = some n) : (.methodLink n x objectInit : Cond) ∈ gw := by
  have h1 := lk_ck (f := ck_o) ck_oT h
  simp only [ck_o, hn] at h1
  exact ckw_in h1
theorem ini_ok {K : Nat} {n : String} (hn : kN[K]? = some n) : (.initialized n : Cond) ∈ gw := by
  have hK : K < 14 := (List.getElem?_eq_some_iff.mp hn).1
  exact ckw_in (all_at ck_ini hn (List.getElem?_eq_getElem (l := kIni) hK))
theorem ini_cl {ci : Nat} {q : vw_C} (hq : kCl[ci]? = some q) : (.initialized q.1 : Cond) ∈ gw := by
  have h : kCl.all (fun q => kN.contains q.1) = true := by decide +kernel
  have h1 := List.all_eq_true.mp h q (List.mem_of_getElem? hq)
  obtain ⟨i, hi⟩ := List.getElem?_of_mem (List.contains_iff_mem.mp h1)
  exact ini_ok hi
/-- a method's record -/
theorem mrec_ok {j : Nat} {r : MR} (h : mrec j = some r) (hj : j ≠ 247) : ck_m r = true ∧ cdw r := by
  unfold mrec at h
  split at h
  · rename_i l hl
    have hlt : j / 25 < 10 := (List.getElem?_eq_some_iff.mp hl).1
    have hm := List.mem_of_getElem? h
    have key : ∀ (i : Nat) (l' : List MR), mtabs[i]? = some l' → j / 25 = i → (l'.all ck_m = true) → (∀ r ∈ l', cdw r) → ck_m r = true ∧ cdw r := by
      intro i l' h1 h2 h3 h4
      rw [h2] at hl
      rw [h1] at hl
      cases hl
      exact ⟨List.all_eq_true.mp h3 r hm, h4 r hm⟩
    have hd : j / 25 = 0 ∨ j / 25 = 1 ∨ j / 25 = 2 ∨ j / 25 = 3 ∨ j / 25 = 4 ∨ j / 25 = 5 ∨ j / 25 = 6 ∨ j / 25 = 7 ∨ j / 25 = 8 ∨ j / 25 = 9 := by omega
    rcases hd with hd | hd | hd | hd | hd | hd | hd | hd | hd | hd
    · exact key 0 _ rfl hd ck_m0 cdw_0
    · exact key 1 _ rfl hd ck_m1 cdw_1
    · exact key 2 _ rfl hd ck_m2 cdw_2
    · exact key 3 _ rfl hd ck_m3 cdw_3
    · exact key 4 _ rfl hd ck_m4 cdw_4
    · exact key 5 _ rfl hd ck_m5 cdw_5
    · exact key 6 _ rfl hd ck_m6 cdw_6
    · exact key 7 _ rfl hd ck_m7 cdw_7
    · exact key 8 _ rfl hd ck_m8 cdw_8
    · rw [hd] at hl
      have e : mtab_9 = l := Option.some.inj (show some mtab_9 = some l from hl)
      subst e
      have hk : j % 25 < 23 := (List.getElem?_eq_some_iff.mp h).1
      have hk2 : j % 25 < 22 := by omega
      have hm2 : r ∈ mtab_9.take 22 := List.mem_of_getElem? (i := j % 25) (by rw [List.getElem?_take, if_pos hk2]; exact h)
      exact ⟨List.all_eq_true.mp ck_m9 r hm2, cdw_9 r hm2⟩
  · cases h
/-- what the check of a record says -/
theorem ckm_all {r : MR} (h : ck_m r = true) : (if r.2.2.2.2.2.2.1 = true then (.static r.1 : Cond) ∈ gw else (.instanceMethod r.1 : Cond) ∈ gw) ∧ (r.2.2.2.2.2.2.2.2.2 = 9999 ∨ (.selects r.1.cls r.1 r.1 : Cond) ∈ gw) ∧ plainName r.1.cls = true ∧ (r.1.cls ≠ "java/lang/invoke/MethodHandle" ∧ r.1.cls ≠ "java/lang/invoke/VarHandle") ∧ ((parseMethodDescriptor r.1.desc).map (fun d => d.parameters.length) = some (if r.2.2.2.2.2.2.1 = true then r.2.2.2.2.2.1 else r.2.2.2.2.2.1 - 1)) ∧ (1 ≤ r.2.2.2.2.2.1 ∨ r.2.2.2.2.2.2.1 = true) ∧ (kN[r.2.2.2.2.1]? = some r.1.cls) ∧ r.2.2.2.2.2.1 ≤ r.2.2.1 ∧ r.2.2.1 ≤ 20 := by
  unfold ck_m at h
  simp only [Bool.and_eq_true, Bool.or_eq_true, decide_eq_true_eq, beq_iff_eq] at h
  obtain ⟨⟨⟨⟨⟨⟨⟨⟨h1, h2⟩, h3⟩, h4⟩, h5⟩, h6⟩, h7⟩, h8⟩, h9⟩ := h
  refine ⟨?_, h2.imp id ckw_in, h3, h4, h5, h6, h7, h8, h9⟩
  split
  · rename_i hs
    rw [if_pos hs] at h1
    exact ckw_in h1
  · rename_i hs
    rw [if_neg hs] at h1
    exact ckw_in h1
def isN : Cond → Bool
  | .methodLinkNest .. => true
  | _ => false
def nw : List Cond := lw_tbl.filter isN
theorem ckn_nw {i : Nat} {a : String} {k : Nat} {x : MethodName} {z : String} (h : ckn i (.methodLinkNest a k x z) = true) : (.methodLinkNest a k x z : Cond) ∈ nw := List.mem_filter.mpr ⟨ckn_in h, rfl⟩
theorem inv_ok {K x j kd po : Nat} {n : String} {r : MR} (h : lk invT K x = some (j, kd, po)) (hn : kN[K]? = some n) (hr : mrec j = some r) :
    (kd = 0 → (.methodLink n x r.1 : Cond) ∈ gw ∧ r.2.2.2.2.2.2.1 = true) ∧ (kd = 1 → (.methodLinkNest n x r.1 "ChoirBook" : Cond) ∈ nw ∧ r.2.2.2.2.2.2.1 = true) ∧ (kd = 2 → (.methodLink n x r.1 : Cond) ∈ gw ∧ r.2.2.2.2.2.2.1 = false ∧ ¬ r.2.2.2.2.2.2.2.2.2 = 9999) ∧ (kd = 4 → (.methodLink n x r.1 : Cond) ∈ gw ∧ r.2.2.2.2.2.2.1 = false ∧ r.1.name = "<init>" ∧ r.2.2.2.1 = none) ∧ (kd = 5 → (.methodLinkNest n x r.1 "ChoirBook" : Cond) ∈ nw ∧ r.2.2.2.2.2.2.1 = false ∧ r.1.name = "<init>" ∧ r.2.2.2.1 = none) := by
  have h1 := lk_ck (f := ck_i) ck_iT h
  simp only [ck_i, hn, hr] at h1
  refine ⟨fun e => ?_, fun e => ?_, fun e => ?_, fun e => ?_, fun e => ?_⟩
  · subst e
    simp only [if_true, Bool.and_eq_true] at h1
    exact ⟨ckw_in h1.1, h1.2⟩
  · subst e
    rw [if_neg (by decide), if_pos rfl] at h1
    simp only [Bool.and_eq_true] at h1
    exact ⟨ckn_nw h1.1, h1.2⟩
  · subst e
    rw [if_neg (by decide), if_neg (by decide), if_pos rfl] at h1
    simp only [Bool.and_eq_true, Bool.not_eq_true', beq_eq_false_iff_ne] at h1
    exact ⟨ckw_in h1.1.1, h1.1.2, h1.2⟩
  · subst e
    rw [if_neg (by decide), if_neg (by decide), if_neg (by decide), if_pos rfl] at h1
    simp only [Bool.and_eq_true, Bool.not_eq_true', decide_eq_true_eq] at h1
    exact ⟨ckw_in h1.1.1.1, h1.1.1.2, h1.1.2, h1.2⟩
  · subst e
    rw [if_neg (by decide), if_neg (by decide), if_neg (by decide), if_neg (by decide), if_pos rfl] at h1
    simp only [Bool.and_eq_true, Bool.not_eq_true', decide_eq_true_eq] at h1
    exact ⟨ckn_nw h1.1.1.1, h1.1.1.2, h1.1.2, h1.2⟩
theorem inv_no {K x j kd po : Nat} (h : lk invT K x = some (j, kd, po)) : j ≠ 247 := by
  obtain ⟨l, h1, h2⟩ := lk_at h
  have h3 : invT.all (fun l => l.all (fun e => !(e.2.1 == 247))) = true := by decide +kernel
  have h4 := List.all_eq_true.mp (List.all_eq_true.mp h3 l (List.mem_of_getElem? h1)) _ h2
  simpa using h4
theorem inv_math {K x j po : Nat} {n : String} : (lk invT K x = some (j, 6, po) → kN[K]? = some n → (.methodLink n x Lib.Math.max.name : Cond) ∈ gw) ∧ (lk invT K x = some (j, 7, po) → kN[K]? = some n → (.methodLink n x Lib.Math.min.name : Cond) ∈ gw) := by
  refine ⟨fun h hn => ?_, fun h hn => ?_⟩
  · have h1 := lk_ck (f := ck_i) ck_iT h
    simp only [ck_i, hn] at h1
    split at h1
    · rename_i a1 a2
      simp at a1
      rw [if_neg (by decide), if_neg (by decide), if_neg (by decide), if_neg (by decide), if_neg (by decide), if_pos trivial] at h1
      exact a1 ▸ ckw_in h1
    · cases h1
  · have h1 := lk_ck (f := ck_i) ck_iT h
    simp only [ck_i, hn] at h1
    split at h1
    · rename_i a1 a2
      simp at a1
      rw [if_neg (by decide), if_neg (by decide), if_neg (by decide), if_neg (by decide), if_neg (by decide), if_neg (by decide), if_pos trivial] at h1
      exact a1 ▸ ckw_in h1
    · cases h1
end
section
/-! Steps that read, write and make cells -/
/-- what is known of a state, and stays: the classes, the tables, the links of nest mates -/
def GK (D : va_G) (aC : FieldType → ClassId) (b : Nat) (ra : Nat → Nat) (ro : List (List Int32)) (U : State) : Prop :=
  va_K D kCl (tysO aC) U ∧ (∀ (j : Nat) (zs : List Int32), ro[j]? = some zs → va_T .int (ra j) zs.length (fun i => .int (zs.getD i 0)) (Ao b) U U.heap) ∧ va_Z "ChoirBook$Days" (gsN 1) "[I" (.ref (ra 1)) (Ao b) U U.heap ∧ va_Z "ChoirBook$Days" (gsN 2) "[I" (.ref (ra 2)) (Ao b) U U.heap ∧ va_AO "ChoirBook$Tone" U ∧ va_AO "ChoirBook$Verse" U ∧ ∀ w ∈ nw, va_Nw w U
theorem kTy_of {ci : Nat} {q : vw_C} (h : kCl[ci]? = some q) : ∃ ty, kTy[ci]? = some ty := by
  have hc : ci < 11 := (List.getElem?_eq_some_iff.mp h).1
  exact ⟨_, List.getElem?_eq_getElem (l := kTy) hc⟩
/-- an object's fields are as many as its class has -/
def szO (h : AH) : Prop := ∀ (k ci : Nat) (fs : List AV), h[k]? = some (.inl ci, fs) → ∃ q, kCl[ci]? = some q ∧ fs.length = q.2.2
section SD2
variable {p : Program} {l : Launch} {e : Env} {R : Room} {s : State} {m : MethodId} {args : Array Value} {below : List Frame} {meth : Method} {c : Code} {H : Heap} {locs : List Loc} {Q : State → Prop}
variable {D : va_G} {aC : FieldType → ClassId} {b : Nat} {ra : Nat → Nat} {ro : List (List Int32)} {cc : ByteArray} {pc : Nat} {L : AL} {S : List AV} {h : AH} {ls : Array Slot} {i : Instr} {x : AR}
theorem HR.set {h : AH} {k : Nat} {c : AC} {H H1 : Heap} (hH : HR D aC b ra h H) (hs : H1.size = H.size) (hP : va_P D kCl ((wsO aC b ra h).set k (b + k, ce aC b ra c)) H1) : HR D aC b ra (h.set k c) H1 := by
  refine ⟨by rw [hs, hH.1]; simp, ?_⟩
  rw [wsO_set]
  exact hP
theorem HR.push {h : AH} {c : AC} {H H1 : Heap} (hH : HR D aC b ra h H) (hs : H1.size = H.size + 1) (ho : ∀ q, q < H.size → H1[q]? = H[q]?) (he : va_at D kCl (b + h.length, ce aC b ra c) H1) : HR D aC b ra (h ++ [c]) H1 := by
  refine ⟨by rw [hs, hH.1]; simp; omega, ?_⟩
  rw [wsO_app]
  refine (hH.2.kept (fun k q hk => ho _ ((hH.2 k q hk).lt))).app (fun k q hk => ?_)
  have hz : k < 1 := (List.getElem?_eq_some_iff.mp hk).1
  rw [show k = 0 by omega] at hk
  cases hk
  exact he
theorem fitA_ok {ty : FieldType} {v : AV} (hv : fitA ty v = true) : narrow ty (cv b ra v) = cv b ra v ∧ fits ty (cv b ra v) = true := by
  by_cases hb : ty = .boolean
  · subst hb
    rcases v with x | (_ | a) | j
    · have hx : x = 0 ∨ x = 1 := by simpa [fitA] using hv
      rcases hx with rfl | rfl
      · exact ⟨rfl, rfl⟩
      · exact ⟨rfl, rfl⟩
    · cases hv
    · cases hv
    · cases hv
  · cases ty <;> rcases v with x | (_ | a) | j <;> simp [fitA] at hv <;> first | exact absurd rfl hb | exact ⟨rfl, rfl⟩
theorem dv_ok (ty : FieldType) (h : ty = .int ∨ ty = .boolean ∨ (∃ C, ty = .object C) ∨ ∃ t, ty = .array t) : cv b ra (dv ty) = defaultValue ty := by
  rcases h with rfl | rfl | ⟨C, rfl⟩ | ⟨t, rfl⟩ <;> rfl
/-- the fields' types are ints, booleans, references -/
theorem kTy_in {ci k : Nat} {q : vw_C} {ty : Nat → FieldType} (hq : kCl[ci]? = some q) (ht : kTy[ci]? = some ty) (hk : k < q.2.2) : ty k = .int ∨ ty k = .boolean ∨ (∃ C, ty k = .object C) ∨ ∃ t, ty k = .array t := by
  have h : (kCl.zip kTy).all (fun z => (List.range z.1.2.2).all (fun k => match z.2 k with | .int | .boolean | .object _ | .array _ => true | _ => false)) = true := by decide +kernel
  have h1 := List.all_eq_true.mp (all_at h hq ht) k (List.mem_range.mpr hk)
  simp only at h1
  split at h1
  · exact Or.inl (by assumption)
  · exact Or.inr (Or.inl (by assumption))
  · rename_i C e
    exact Or.inr (Or.inr (Or.inl ⟨C, e⟩))
  · rename_i C e
    exact Or.inr (Or.inr (Or.inr ⟨C, e⟩))
  · cases h1
theorem getD_set {xs : List AV} {n : Nat} (hn : n < xs.length) (v d : AV) (j : Nat) : (xs.set n v).getD j d = if j = n then v else xs.getD j d := by
  simp only [List.getD_eq_getElem?_getD]
  by_cases hj : j = n
  · subst hj
    rw [List.getElem?_set_self hn, if_pos rfl]
    rfl
  · rw [List.getElem?_set_ne (fun q => hj q.symm), if_neg hj]
theorem getD_rep (n : Nat) (v : AV) (j : Nat) : j < n → (List.replicate n v).getD j (.inl 0) = v := by
  intro hj
  simp [List.getD_eq_getElem?_getD, hj]
theorem HR.put {h : AH} {k n : Nat} {c0 c : AC} {H H1 : Heap} (hH : HR D aC b ra h H) (hc : h[k]? = some c0) (hS : va_S (Ao b) s.heap H locs) (hs : H1.size = H.size) (ho : ∀ q : Nat, q ≠ b + k → H1[q]? = H[q]?) (he : va_at D kCl (b + k, ce aC b ra c) H1) : HR D aC b ra (h.set k c) H1 ∧ va_S (Ao b) s.heap H1 (locs ++ [⟨b + k, n⟩]) :=
  ⟨hH.set hs (hH.2.set (wsO_D aC b ra h) (wsO_get hc) he ho), hS.put hs ho (Nat.le_add_right b k)⟩
set_option maxHeartbeats 1000000 in
theorem ow_put {cells slots : Nat} (hexec : p.tables.exec = Jvm.exec) (hb : c.code = cc) {own : String} {ci x k a : Nat} {q : vw_C} {ty : Nat → FieldType} {fs : List AV} {v : AV} (hts : ∀ w ∈ gw, w.before args s = true) (hown : s.vm.findClass own = some m.cls) (hK : va_K D kCl (tysO aC) s) (hH : HR D aC b ra h H) (hS : va_S (Ao b) s.heap H locs) (hc : h[a]? = some (.inl ci, fs)) (hq : kCl[ci]? = some q) (ht : kTy[ci]? = some ty) (hk : k < q.2.2) (hkl : k < fs.length)
    (hlink : (Cond.fieldLink own x (q.2.1 k).1 (q.2.1 k).2.1 (q.2.1 k).2.2.1).before args s = true) (hfit : fitA (ty k) v = true) (hfin : (q.2.1 k).2.2.2 = false ∨ (meth.name = "<init>" ∧ own = (q.2.1 k).1)) (hdg : decode cc pc = .ok (.putfield x, 3))
    (kk : ∀ (H1 : Heap) (locs1 : List Loc), HR D aC b ra (h.set a (.inl ci, fs.set k v)) H1 → va_S (Ao b) s.heap H1 locs1 → W p l e R s m args below meth c H1 locs1 cells slots Q (F0 m (pc + 3) ls (S.map (cv b ra)))) :
    W p l e R s m args below meth c H locs cells slots Q (F0 m pc ls (cv b ra v :: .ref (b + a) :: S.map (cv b ra))) := by
  obtain ⟨k1, k2, k3, k4⟩ := kc_ok hq ht
  obtain ⟨f1, f2⟩ := fitA_ok (b := b) (ra := ra) hfit
  have hc2 : kCl[ci]? = some (q.1, q.2.1, q.2.2) := hq
  have hap := va_apart (own := own) hts k1 ty k2 k3 hK hc2
  obtain ⟨r, h1, cell, q1, q2, q3, q4⟩ := hH.2 a _ (wsO_get hc)
  have hr : r = (q.1, q.2.1, q.2.2) := Option.some.inj (h1.symm.trans hc2)
  subst hr
  obtain ⟨hSl, hfc, kC, hkC, hkind⟩ := hK.1 ci _ hc2
  obtain ⟨cf, kf, fi, f, hi, hsl⟩ := hSl k hk
  have hlay := hts _ (k1 _ (u_in_lay hk))
  have hst := (u_facts hfc hkC (u_lays hts k1 hk) hi).1
  have fin : ∀ H' : Heap, H'[b + a]? = some (cell.setSlot f.slot (cv b ra v)) → H'.size = H.size → (∀ q : Nat, q ≠ b + a → H'[q]? = H[q]?) → W p l e R s m args below meth c H' (locs ++ [⟨b + a, f.slot⟩]) cells slots Q (F0 m (pc + 3) ls (S.map (cv b ra))) := by
    intro H' e1 e2 e3
    rw [hsl] at e1
    obtain ⟨g1, g2⟩ := hH.put (n := f.slot) (c := (.inl ci, fs.set k v)) hc hS e2 e3 (show va_at D kCl (b + a, .inr (ci, (fs.set k v).map (cv b ra))) H' from ⟨_, hc2, t_OB.to (V := updV (vp_V (fs.map (cv b ra))) k (cv b ra v)) ⟨_, e1, q2, q3, t_set q4 hap hk _⟩ (fun j _ => by
      rw [vp_updV_set (by simpa using hkl), List.map_set])⟩)
    exact kk H' _ g1 g2
  unfold u_lay at hlay
  by_cases hf : (q.2.1 k).2.2.2 = true
  · obtain ⟨hini, hdecl⟩ := hfin.resolve_left (by simp [hf])
    rw [if_pos hf] at hlay
    have hcf : m.cls = cf := by
      obtain ⟨_, _, c', _, _, _, -, -, hf', -, -, -, hown2, -⟩ := Cond.laysFinal_spec hlay
      have e1 : c' = cf := by have := hi.symm.trans hf'; simp at this; exact this.1.symm
      rw [← hdecl] at hown2
      rw [← e1]; exact Option.some.inj (hown.symm.trans hown2)
    have h6 := u_fits hfc hkC hkind (Or.inr hlay) hi (k2 k hk) f1 f2
    exact W.putFinK hexec hb hown hlink hi hst hcf hini (by rw [q2]; exact h6) q1 q3 (by rw [hsl]; exact k2_hasslot (q4 k hk)) rfl rfl hdg fin
  · rw [if_neg hf] at hlay
    have h6 := u_store hfc hkC hkind hlay hi (k2 k hk) f1 f2
    exact W.putK hexec hb (f := f) ⟨hown, hlink, ⟨_, _, _, hi⟩, hst⟩ (by rw [q2]; exact h6) q1 q3 (by rw [hsl]; exact k2_hasslot (q4 k hk)) rfl rfl hdg fin
theorem ow_ia {a : Nat} {ty : FieldType} {xs : List AV} (hty : ty = .int ∨ ty = .boolean) : ce aC b ra (.inr ty, xs) = .inl (aC ty, (xs.length, .inl (fun j => vi (xs.getD j (.inl 0))))) := by
  rcases hty with rfl | rfl <;> rfl
theorem ow_set {xs : List AV} {n : Nat} (hn : n < xs.length) (ty : FieldType) (hty : ty = .int ∨ ty = .boolean) (y : Int32) {H1 : Heap} {a : Nat} (e : H1[b + a]? = some ((arrV (aC ty) xs.length (fun j => .int (vi (xs.getD j (.inl 0))))).setSlot n (.int y))) : va_at D kCl (b + a, ce aC b ra (.inr ty, xs.set n (.inl y))) H1 := by
  rw [ow_ia (a := a) hty]
  show H1[b + a]? = some (vp_cell _ _)
  rw [e, vp_cell_i, arrV_store, List.length_set]
  congr 2
  funext q
  rw [getD_set hn]
  by_cases hq : q = n
  · simp [updV, hq, vi]
  · simp [updV, hq]
theorem ow_setq {xs : List AV} {n v : Nat} (hn : n < xs.length) (C : String) {H1 : Heap} {a : Nat} (e : H1[b + a]? = some ((arrV (aC (.object C)) xs.length (fun j => va_rf ((vr (xs.getD j (.inl 0))).map (b + ·)))).setSlot n (.ref (b + v)))) : va_at D kCl (b + a, ce aC b ra (.inr (.object C), xs.set n (.inr (.inl (some v))))) H1 := by
  show H1[b + a]? = some (vp_cell _ _)
  rw [e, vp_cell_q, arrV_store, List.length_set]
  congr 2
  funext q
  rw [getD_set hn]
  by_cases hq : q = n
  · simp [updV, hq, vr, va_rf]
  · simp [updV, hq]
end SD2
end
section
/-! Steps that read, write and make cells: all of them -/
section SD3
variable {p : Program} {l : Launch} {e : Env} {R : Room} {s : State} {m : MethodId} {args : Array Value} {below : List Frame} {meth : Method} {c : Code} {H : Heap} {locs : List Loc} {cells slots : Nat} {Q : State → Prop}
variable {D : va_G} {aC : FieldType → ClassId} {b : Nat} {ra : Nat → Nat} {ro : List (List Int32)} {cc : ByteArray} {pc : Nat} {L : AL} {S : List AV} {h : AH} {ls : Array Slot} {i : Instr} {x : AR}
theorem tys_int {s : State} (hK : va_K D kCl (tysO aC) s) (n : Nat) (z : Nat → Value) : s.isArrayOf (arrV (aC .int) n z) .int := (hK.2 0 _ rfl).1 n z
theorem tys_bool {s : State} (hK : va_K D kCl (tysO aC) s) (n : Nat) (z : Nat → Value) : s.isArrayOf (arrV (aC .boolean) n z) .boolean := (hK.2 1 _ rfl).1 n z
/-- an array that holds objects of a class is of one of the two types -/
def tyO (h : AH) : Prop := ∀ (k : Nat) (C : String) (xs : List AV), h[k]? = some (.inr (.object C), xs) → C = "ChoirBook$Tone" ∨ C = "ChoirBook$Verse"
theorem nx_iff {pc : Nat} {L : AL} {S : List AV} {h : AH} {x : AR} (e : nx pc L S h = some x) : x = .inl (pc, L, S, h) := nx_e e
set_option maxHeartbeats 4000000 in
theorem sd2 {K : Nat} {n : String} {ini : Bool} (hx : p.tables.exec = Jvm.exec) (hb : c.code = cc) (hn : kN[K]? = some n) (hown : s.vm.findClass n = some m.cls) (hini : ini = true → meth.name = "<init>") (hts : ∀ w ∈ gw, w.before args s = true) (hG : GK D aC b ra ro s) (hS : va_S (Ao b) s.heap H locs) (hH : HR D aC b ra h H) (hty : tyO h)
    (hl : LR b ra L ls) (hd : ∀ n, (kind i).2 = n → n ≠ 0 → decode cc pc = .ok (i, n)) (he : st2 ro K ini i pc L S h = some x)
    (hroom : cells + ((arh x).length - h.length) ≤ R.cells ∧ slots + (slz (arh x) - slz h) ≤ R.slots)
    (k : ∀ pc' L' S' h' H1 locs1 ls', x = .inl (pc', L', S', h') → L'.length = L.length → tyO h' → LR b ra L' ls' → HR D aC b ra h' H1 → va_S (Ao b) s.heap H1 locs1 → W p l e R s m args below meth c H1 locs1 (cells + (h'.length - h.length)) (slots + (slz h' - slz h)) Q (F0 m pc' ls' (S'.map (cv b ra)))) :
    W p l e R s m args below meth c H locs cells slots Q (F0 m pc ls (S.map (cv b ra))) := by
  obtain ⟨hK, hro, hz1, hz2, ha1, ha2, hnw⟩ := id hG
  have k0 : ∀ pc' S' ls', x = .inl (pc', L, S', h) → LR b ra L ls' → W p l e R s m args below meth c H locs cells slots Q (F0 m pc' ls' (S'.map (cv b ra))) := by
    intro pc' S' ls' e1 e2
    have := k pc' L S' h H locs ls' e1 rfl hty e2 hH hS
    rw [Nat.sub_self, Nat.sub_self] at this
    exact this
  have k1 : ∀ (a : Nat) (c0 c1 : AC) pc' S' H1 locs1, x = .inl (pc', L, S', h.set a c1) → h[a]? = some c0 → c1.1 = c0.1 → c1.2.length = c0.2.length → HR D aC b ra (h.set a c1) H1 → va_S (Ao b) s.heap H1 locs1 → W p l e R s m args below meth c H1 locs1 cells slots Q (F0 m pc' ls (S'.map (cv b ra))) := by
    intro a c0 c1 pc' S' H1 locs1 e1 e2 e3 e4 e5 e6
    have ht : tyO (h.set a c1) := by
      intro k' C xs hk'
      by_cases hka : a = k'
      · subst hka
        have hlt : a < h.length := (List.getElem?_eq_some_iff.mp e2).1
        rw [List.getElem?_set_self hlt] at hk'
        cases hk'
        exact hty a C c0.2 (by rw [e2, show c0 = (c0.1, c0.2) from rfl, ← e3])
      · rw [List.getElem?_set_ne hka] at hk'
        exact hty k' C xs hk'
    have := k pc' L S' _ H1 locs1 ls e1 rfl ht hl e5 e6
    rw [slz_set e2 e4, List.length_set, Nat.sub_self, Nat.sub_self] at this
    exact this
  have k2 : ∀ (c1 : AC) pc' S' H1 locs1 N, x = .inl (pc', L, S', h ++ [c1]) → c1.2.length = N → (∀ C, c1.1 = .inr (.object C) → C = "ChoirBook$Tone" ∨ C = "ChoirBook$Verse") → HR D aC b ra (h ++ [c1]) H1 → va_S (Ao b) s.heap H1 locs1 → W p l e R s m args below meth c H1 locs1 (cells + 1) (slots + N) Q (F0 m pc' ls (S'.map (cv b ra))) := by
    intro c1 pc' S' H1 locs1 N e1 e2 e3 e5 e6
    have ht : tyO (h ++ [c1]) := by
      intro k' C xs hk'
      by_cases hlt : k' < h.length
      · rw [List.getElem?_append_left hlt] at hk'
        exact hty k' C xs hk'
      · rw [List.getElem?_append_right (by omega)] at hk'
        have hz : k' - h.length < 1 := (List.getElem?_eq_some_iff.mp hk').1
        rw [show k' - h.length = 0 by omega] at hk'
        cases hk'
        exact e3 C rfl
    have := k pc' L S' _ H1 locs1 ls e1 rfl ht hl e5 e6
    have z1 : (h ++ [c1]).length - h.length = 1 := by simp
    have z2 : slz (h ++ [c1]) - slz h = N := by rw [slz_app, ← e2]; simp [slz]
    rw [z1, z2] at this
    exact this
  have r2 : ∀ (c1 : AC) pc' S' N, x = .inl (pc', L, S', h ++ [c1]) → c1.2.length = N → cells + 1 ≤ R.cells ∧ slots + N ≤ R.slots := by
    intro c1 pc' S' N e1 e2
    subst e1
    have z1 : (h ++ [c1]).length - h.length = 1 := by simp
    have z2 : slz (h ++ [c1]) - slz h = N := by rw [slz_app, ← e2]; simp [slz]
    have := hroom
    rw [show arh (.inl (pc', L, S', h ++ [c1])) = h ++ [c1] from rfl, z1, z2] at this
    exact this
  have hS1 : ∀ (H1 : Heap), H1.size = H.size + 1 → (∀ q, q < H.size → H1[q]? = H[q]?) → va_S (Ao b) s.heap H1 locs := fun H1 z1 o1 => ⟨Nat.le_trans hS.1 (by omega), fun q h1 h2 => (o1 q (Nat.lt_of_lt_of_le h1 hS.1)).trans (hS.2.1 q h1 h2), hS.2.2⟩
  unfold st2 at he
  split at he
  · -- getfield
    rename_i a S0
    split at he
    · rename_i ci kf po c0 fs hlk hc
      split at he
      · rename_i hcc
        subst hcc
        split at he
        · rename_i v hv
          obtain ⟨r, h1, -⟩ := hH.2 a _ (wsO_get hc)
          have hq : kCl[c0]? = some (r.1, r.2.1, r.2.2) := h1
          obtain ⟨ty, ht⟩ := kTy_of hq
          obtain ⟨hw, hkq⟩ := fld_ok hlk hn hq
          exact va_get (v := cv b ra v) hx hb hts (kc_ok hq ht).1 hown hK hH.2 a (wsO_get hc) hq kf hkq (hts _ hw) (fun _ h9 => h9) (by rw [List.getElem?_map, hv]; rfl) (hd 3 rfl (by decide)) (k0 _ (v :: S0) _ (nx_e he) hl)
        · cases he
      · cases he
    · cases he
  · -- putfield
    rename_i v a S0
    split at he
    · rename_i ci kf po c0 fs hlk hc
      split at he
      · rename_i hcc
        obtain ⟨rfl, hkl⟩ := hcc
        split at he
        · rename_i q ty hq ht
          split at he
          · rename_i hf
            obtain ⟨hw, hkq⟩ := fld_ok hlk hn hq
            refine ow_put hx hb hts hown hK hH hS hc hq ht hkq hkl (hts _ hw) hf.1 ?_ (hd 3 rfl (by decide)) (fun H1 locs1 g1 g2 => k1 a _ _ _ _ H1 locs1 (nx_e he) hc rfl (by simp) g1 g2)
            rcases hf.2 with h1 | ⟨h1, h2⟩
            · exact Or.inl h1
            · exact Or.inr ⟨hini h1, Option.some.inj (hn.symm.trans h2)⟩
          · cases he
        · cases he
      · cases he
    · cases he
  · -- getstatic
    split at he
    · rename_i j po hlk
      obtain ⟨hw, hj⟩ := gs_ok hlk hn
      rcases hj with rfl | rfl
      · exact va_gets (v := .ref (ra 1)) hx hb hz1 hS hown (hts _ hw) (fun _ h9 => h9) (hd 3 rfl (by decide)) (k0 _ (.inr (.inr 1) :: S) _ (nx_e he) hl)
      · exact va_gets (v := .ref (ra 2)) hx hb hz2 hS hown (hts _ hw) (fun _ h9 => h9) (hd 3 rfl (by decide)) (k0 _ (.inr (.inr 2) :: S) _ (nx_e he) hl)
    · cases he
  · -- iaload
    rename_i j a S0
    split at he
    · rename_i xs hc
      split at he
      · cases he
      · rename_i hin
        exact va_iald hx hb hK hH.2 a 0 (wsO_get hc) rfl hin (hd 1 rfl (by decide)) (k0 _ (.inl _ :: S0) _ (nx_e he) hl)
    · cases he
  · -- iaload, a table
    rename_i j a S0
    split at he
    · rename_i zs hc
      split at he
      · cases he
      · rename_i hin
        exact va_ti hx hb (hro _ _ hc) hS hin rfl (hd 1 rfl (by decide)) (k0 _ (.inl _ :: S0) _ (nx_e he) hl)
    · cases he
  · -- baload
    rename_i j a S0
    split at he
    · rename_i xs hc
      split at he
      · cases he
      · rename_i hin
        exact va_zald hx hb hK hH.2 a 1 (wsO_get hc) rfl hin (hd 1 rfl (by decide)) (k0 _ (.inl _ :: S0) _ (nx_e he) hl)
    · cases he
  · -- aaload
    rename_i j a S0
    split at he
    · rename_i C xs hc
      split at he
      · cases he
      · rename_i hin
        have hrf : ∀ o : Option Nat, va_rf (o.map (b + ·)) = cv b ra (.inr (.inl o)) := fun o => by cases o <;> rfl
        rcases hty a C xs hc with rfl | rfl
        · refine va_aldq hx hb hK hH.2 a 2 (wsO_get hc) rfl hin (hd 1 rfl (by decide)) ?_
          rw [hrf]
          exact k0 _ (.inr (.inl _) :: S0) _ (nx_e he) hl
        · refine va_aldq hx hb hK hH.2 a 3 (wsO_get hc) rfl hin (hd 1 rfl (by decide)) ?_
          rw [hrf]
          exact k0 _ (.inr (.inl _) :: S0) _ (nx_e he) hl
    · cases he
  · -- iastore
    rename_i y j a S0
    split at he
    · rename_i xs hc
      split at he
      · cases he
      · rename_i hin
        refine W.iast hx hb (hH.2 a _ (wsO_get hc)) (tys_int hK _ _) (fun q => by cases q) (by show ¬ (j < 0 ∨ (arrV _ _ _).slots.size ≤ _); rw [arrV_size]; exact hin) rfl rfl (hd 1 rfl (by decide)) fun H1 e1 z1 o1 => ?_
        obtain ⟨g1, g2⟩ := hH.put (n := j.toNatClampNeg) hc hS z1 o1 (ow_set (Nat.not_le.mp fun q => hin (Or.inr q)) .int (Or.inl rfl) y e1)
        exact k1 a _ _ _ _ H1 _ (nx_e he) hc rfl (by simp) g1 g2
    · cases he
  · -- bastore
    rename_i y j a S0
    split at he
    · rename_i xs hc
      split at he
      · cases he
      · rename_i hin
        refine W.zast hx hb (hH.2 a _ (wsO_get hc)) (tys_bool hK _ _) (fun q => by cases q) (by show ¬ (j < 0 ∨ (arrV _ _ _).slots.size ≤ _); rw [arrV_size]; exact hin) rfl rfl (hd 1 rfl (by decide)) fun H1 e1 z1 o1 => ?_
        obtain ⟨g1, g2⟩ := hH.put (n := j.toNatClampNeg) hc hS z1 o1 (ow_set (Nat.not_le.mp fun q => hin (Or.inr q)) .boolean (Or.inr rfl) (y &&& 1) e1)
        exact k1 a _ _ _ _ H1 _ (nx_e he) hc rfl (by simp) g1 g2
    · cases he
  · -- aastore
    rename_i v j a S0
    split at he
    · rename_i C xs ci fs hc hv
      split at he
      · rename_i q hq
        split at he
        · rename_i hq2
          obtain ⟨hC, hin⟩ := hq2
          obtain ⟨r', hr', cellV, v1, v2, v3, -⟩ := hH.2 v _ (wsO_get hv)
          have hcls := (hK.1 ci q hq).2
          have hlt : j.toNatClampNeg < xs.length := Nat.not_le.mp fun q => hin (Or.inr q)
          obtain ⟨kC, hkC, -⟩ := hcls.2
          have go : ∀ (t0 : Nat), (tysO aC)[t0]? = some (aC (FieldType.object C), FieldType.object C) → W p l e R s m args below meth c H locs cells slots Q (F0 m pc ls ((.inr (.inl (some v)) :: .inl j :: .inr (.inl (some a)) :: S0 : List AV).map (cv b ra))) := by
            intro t0 ht0
            obtain ⟨kA, comp, w1, w2, w3, -⟩ := (hK.2 t0 _ ht0).2
            have hcomp : comp = D.1 ci := by
              rw [← hC] at w3
              exact Option.some.inj (w3.symm.trans hcls.1)
            subst hcomp
            refine W.aast hx hb (hH.2 a _ (wsO_get hc)) (fun q h => by cases h) (fun h => by cases h) w1 w2 rfl hkC ⟨fun q => hin (Or.inl q), by show _ < (arrV _ _ _).slots.size; rw [arrV_size]; exact hlt⟩ v1 (fun q h => by rw [v3] at h; cases h) (by rw [v2]; exact hkC) (by rw [v2]; exact va_assign hcls) rfl rfl (hd 1 rfl (by decide)) fun H1 e1 z1 o1 => ?_
            obtain ⟨g1, g2⟩ := hH.put (n := j.toNatClampNeg) hc hS z1 o1 (ow_setq hlt C e1)
            exact k1 a _ _ _ _ H1 _ (nx_e he) hc rfl (by simp) g1 g2
          rcases hty a C xs hc with h9 | h9
          · exact go 2 (by rw [h9]; rfl)
          · exact go 3 (by rw [h9]; rfl)
        · cases he
      · cases he
    · cases he
  · -- arraylength
    rename_i a S0
    have go : ∀ (ty : FieldType) (xs : List AV) (t0 : Nat) (y : (Nat → Int32) ⊕ (Nat → Int64) ⊕ (Nat → UInt32) ⊕ (Nat → UInt64) ⊕ (Nat → Option Nat)), h[a]? = some (.inr ty, xs) → nx (pc + 1) L (.inl (Int32.ofNat xs.length) :: S0) h = some x → (tysO aC)[t0]? = some (aC ty, ty) → ce aC b ra (.inr ty, xs) = .inl (aC ty, (xs.length, y)) → W p l e R s m args below meth c H locs cells slots Q (F0 m pc ls ((.inr (.inl (some a)) :: S0 : List AV).map (cv b ra))) := by
      intro ty xs t0 y hc he ht0 hx0
      have h1 := wsO_get (aC := aC) (b := b) (ra := ra) hc
      rw [hx0] at h1
      exact va_alen hx hb hK hH.2 a t0 h1 ht0 rfl (hd 1 rfl (by decide)) (k0 _ (.inl _ :: S0) _ (nx_e he) hl)
    split at he
    · rename_i xs hc
      exact go _ xs 0 _ hc he rfl rfl
    · rename_i xs hc
      exact go _ xs 1 _ hc he rfl rfl
    · rename_i C xs hc
      rcases hty a C xs hc with h9 | h9
      · subst h9
        exact go _ xs 2 _ hc he rfl rfl
      · subst h9
        exact go _ xs 3 _ hc he rfl rfl
    · cases he
  · -- arraylength of a table
    rename_i j S0
    split at he
    · rename_i zs hc
      exact va_tlen hx hb (hro _ _ hc) hS rfl (hd 1 rfl (by decide)) (k0 _ (.inl _ :: S0) _ (nx_e he) hl)
    · cases he
  · -- new
    split at he
    · rename_i ci p1 p2 hlk
      split at he
      · rename_i q ty hq ht
        obtain ⟨w1, w2⟩ := new_ok hlk hn hq
        have hlen : ((List.range q.2.2).map (fun k => dv (ty k))).length = q.2.2 := by simp
        obtain ⟨r1, r3⟩ := r2 _ _ _ _ (nx_e he) hlen
        have hKn := hK.1 ci q hq
        obtain ⟨k1', k2', k3', k4'⟩ := kc_ok hq ht
        refine W.newcK hx hb hown (hts _ w1) (hts _ w2) (hts _ (ini_cl hq)) rfl (hd 3 rfl (by decide)) r1 r3 hKn.2.1 rfl fun H1 kC hkC e1 z1 o1 => ?_
        have hat : va_at D kCl (b + h.length, ce aC b ra (.inl ci, (List.range q.2.2).map (fun k => dv (ty k)))) H1 := by
          refine ⟨q, hq, ?_⟩
          rw [← hH.1]
          refine (u_born ty hts k1' hKn hkC e1 k2').to (fun k hk => ?_)
          rw [← dv_ok (b := b) (ra := ra) (ty k) (kTy_in hq ht hk)]
          simp [vp_V, List.getD_eq_getElem?_getD, hk]
        have := k2 _ _ (.inr (.inl (some h.length)) :: S) H1 locs _ (nx_e he) hlen (fun C hC => by cases hC) (hH.push z1 o1 hat) (hS1 H1 z1 o1)
        rw [hH.1]
        exact this
      · cases he
    · cases he
  · -- newarray int
    rename_i n0 S0
    split at he
    · cases he
    rename_i hin
    · have hlen : (List.replicate n0.toNatClampNeg (.inl 0 : AV)).length = n0.toNatClampNeg := by simp
      obtain ⟨r1, r3⟩ := r2 _ _ _ _ (nx_e he) hlen
      refine va_newaK (atype := .int) hx hb (hts _ (ckw_in ck_arr.2.1)) rfl (hd 2 rfl (by decide)) rfl (fun q => hin (Or.inl q)) rfl (by have : ¬ 65536 ≤ n0.toNatClampNeg := fun q => hin (Or.inr q); show _ * 4 ≤ _; omega) r1 r3 rfl fun H1 cA e1 z1 o1 hAr hNm => ?_
      have hcA : cA = aC .int := by
        have h2 : s.vm.findClass ("[" ++ FieldType.int.toString) = some (aC .int) := (hK.2 0 _ rfl).2
        exact Option.some.inj (hNm.symm.trans h2)
      subst hcA
      have hat : va_at D kCl (b + h.length, ce aC b ra (.inr .int, List.replicate n0.toNatClampNeg (.inl 0))) H1 := by
        show H1[b + h.length]? = some (vp_cell _ _)
        rw [← hH.1, e1, vp_cell_i, List.length_replicate]
        unfold arrV
        congr 3
        funext j
        show Value.int 0 = Value.int (vi ((List.replicate n0.toNatClampNeg (.inl 0)).getD j.val (.inl 0)))
        rw [getD_rep _ _ _ j.isLt]
        rfl
      have := k2 _ _ (.inr (.inl (some h.length)) :: S0) H1 locs _ (nx_e he) hlen (fun C hC => by cases hC) (hH.push z1 o1 hat) (hS1 H1 z1 o1)
      rw [hH.1]
      exact this
  · -- newarray boolean
    rename_i n0 S0
    split at he
    · cases he
    rename_i hin
    · have hlen : (List.replicate n0.toNatClampNeg (.inl 0 : AV)).length = n0.toNatClampNeg := by simp
      obtain ⟨r1, r3⟩ := r2 _ _ _ _ (nx_e he) hlen
      refine va_newaK (atype := .boolean) hx hb (hts _ (ckw_in ck_arr.1)) rfl (hd 2 rfl (by decide)) rfl (fun q => hin (Or.inl q)) rfl (by have : ¬ 65536 ≤ n0.toNatClampNeg := fun q => hin (Or.inr q); show _ * 1 ≤ _; omega) r1 r3 rfl fun H1 cA e1 z1 o1 hAr hNm => ?_
      have hcA : cA = aC .boolean := by
        have h2 : s.vm.findClass ("[" ++ FieldType.boolean.toString) = some (aC .boolean) := (hK.2 1 _ rfl).2
        exact Option.some.inj (hNm.symm.trans h2)
      subst hcA
      have hat : va_at D kCl (b + h.length, ce aC b ra (.inr .boolean, List.replicate n0.toNatClampNeg (.inl 0))) H1 := by
        show H1[b + h.length]? = some (vp_cell _ _)
        rw [← hH.1, e1, vp_cell_i, List.length_replicate]
        unfold arrV
        congr 3
        funext j
        show Value.int 0 = Value.int (vi ((List.replicate n0.toNatClampNeg (.inl 0)).getD j.val (.inl 0)))
        rw [getD_rep _ _ _ j.isLt]
        rfl
      have := k2 _ _ (.inr (.inl (some h.length)) :: S0) H1 locs _ (nx_e he) hlen (fun C hC => by cases hC) (hH.push z1 o1 hat) (hS1 H1 z1 o1)
      rw [hH.1]
      exact this
  · -- anewarray
    rename_i n0 S0
    split at he
    · rename_i C p1 p2 hlk
      split at he
      · cases he
      · rename_i hin
        have hlen : (List.replicate n0.toNatClampNeg (.inr (.inl none) : AV)).length = n0.toNatClampNeg := by simp
        obtain ⟨r1, r3⟩ := r2 _ _ _ _ (nx_e he) hlen
        have hC := an_two hlk
        have hao : va_AO C s := by
          rcases hC with rfl | rfl
          · exact ha1
          · exact ha2
        refine W.anew hx hb hown (hts _ (an_ok hlk hn)) (va_AO.use hao) rfl (hd 3 rfl (by decide)) rfl (fun q => hin (Or.inl q)) (by have : ¬ 65536 ≤ n0.toNatClampNeg := fun q => hin (Or.inr q); omega) r1 r3 fun cA kA comp f1 f2 f3 f4 => ?_
        have go : ∀ (t0 : Nat), (tysO aC)[t0]? = some (aC (FieldType.object C), FieldType.object C) → cA = aC (.object C) := by
          intro t0 ht0
          obtain ⟨kA', comp', w1, w2, w3, w4⟩ := (hK.2 t0 _ ht0).2
          exact Option.some.inj (f1.symm.trans w4)
        have hcA : cA = aC (.object C) := by
          rcases hC with rfl | rfl
          · exact go 2 rfl
          · exact go 3 rfl
        subst hcA
        generalize hH1 : H.push ({ cls := aC (.object C), slots := Array.replicate n0.toNatClampNeg .null, vm := .none } : Cell) = H1
        have z1 : H1.size = H.size + 1 := by rw [← hH1, Array.size_push]
        have e1 : H1[H.size]? = some (arrV (aC (.object C)) n0.toNatClampNeg (fun _ => .null)) := by rw [← hH1, Array.getElem?_push_size, ← arrV_new]
        have o1 : ∀ q, q < H.size → H1[q]? = H[q]? := fun q hq => by rw [← hH1, Array.getElem?_push, if_neg (Nat.ne_of_lt hq)]
        have hat : va_at D kCl (b + h.length, ce aC b ra (.inr (.object C), List.replicate n0.toNatClampNeg (.inr (.inl none)))) H1 := by
          show H1[b + h.length]? = some (vp_cell _ _)
          rw [← hH.1, e1, vp_cell_q, List.length_replicate]
          unfold arrV
          congr 3
          funext j
          show Value.null = va_rf ((vr ((List.replicate n0.toNatClampNeg (.inr (.inl none))).getD j.val (.inl 0))).map (b + ·))
          rw [getD_rep _ _ _ j.isLt]
          rfl
        have := k2 _ _ (.inr (.inl (some h.length)) :: S0) H1 locs _ (nx_e he) hlen (fun C' hC' => by cases hC'; exact hC) (hH.push z1 o1 hat) (hS1 H1 z1 o1)
        rw [hH.1]
        exact this
    · cases he
  · cases he
end SD3
end
section
/-! Calls, and whole runs: what the small machine yields, the real one yields -/
theorem tyO.set {h : AH} {a : Nat} {c0 c1 : AC} (ht : tyO h) (hc : h[a]? = some c0) (e : c1.1 = c0.1) : tyO (h.set a c1) := by
  intro k' C xs hk'
  by_cases hka : a = k'
  · subst hka
    have hlt : a < h.length := (List.getElem?_eq_some_iff.mp hc).1
    rw [List.getElem?_set_self hlt] at hk'
    cases hk'
    exact ht a C c0.2 (by rw [hc, show c0 = (c0.1, c0.2) from rfl, ← e])
  · rw [List.getElem?_set_ne hka] at hk'
    exact ht k' C xs hk'
theorem tyO.push {h : AH} {c1 : AC} (ht : tyO h) (e3 : ∀ C, c1.1 = .inr (.object C) → C = "ChoirBook$Tone" ∨ C = "ChoirBook$Verse") : tyO (h ++ [c1]) := by
  intro k' C xs hk'
  by_cases hlt : k' < h.length
  · rw [List.getElem?_append_left hlt] at hk'
    exact ht k' C xs hk'
  · rw [List.getElem?_append_right (by omega)] at hk'
    have hz : k' - h.length < 1 := (List.getElem?_eq_some_iff.mp hk').1
    rw [show k' - h.length = 0 by omega] at hk'
    cases hk'
    exact e3 C rfl
set_option maxHeartbeats 4000000 in
theorem st2_ty {ro : List (List Int32)} {K : Nat} {ini : Bool} {i : Instr} {pc : Nat} {L : AL} {S : List AV} {h : AH} {x : AR} (ht : tyO h) (e : st2 ro K ini i pc L S h = some x) : tyO (arh x) := by
  unfold st2 at e
  repeat' split at e
  all_goals first
    | (rw [nx_h e]; exact ht)
    | (rw [nx_h e]; exact ht.set (by assumption) (by first | rfl | (rename_i h1; rw [h1.1])))
    | (rw [nx_h e]; exact ht.push (fun C hC => by cases hC <;> exact an_two (by assumption)))
    | cases e
theorem stp_ty {ro : List (List Int32)} {d : Nat} {r : MR} {i : Instr} {pc : Nat} {L : AL} {S : List AV} {h : AH} {x : AR} (ht : tyO h) (e : stp ro d r i pc L S h = some x) : tyO (arh x) := by
  unfold stp at e
  split at e
  · rw [st1_h e]; exact ht
  · split at e
    · exact st2_ty ht e
    · split at e
      · rw [st3_h e]; exact ht
      · cases e
theorem run_ty (ro : List (List Int32)) : ∀ (f d j : Nat) (s : AS) (o : Option AV × AH), tyO s.2.2.2 → run ro f d j s = some o → tyO o.2 := by
  intro f
  induction f with
  | zero => intro d j s o ht e; simp [run] at e
  | succ f ih =>
    intro d j s o ht e
    rw [run] at e
    split at e
    · cases e
    · split at e
      · cases e
      · split at e
        · cases e
        · rename_i s' h1
          exact ih _ _ _ _ (stp_ty ht h1) e
        · rename_i o' h1
          cases e
          exact stp_ty ht h1
        · rename_i k as s' h1
          split at e
          · split at e
            · rename_i v h' h2
              refine ih _ _ _ _ ?_ e
              exact ih _ _ (ent _ as s'.2.2.2) (v, h') (stp_ty ht h1) h2
            · cases e
          · cases e
theorem GK.same {D : va_G} {aC : FieldType → ClassId} {b : Nat} {ra : Nat → Nat} {ro : List (List Int32)} {s : State} (h : GK D aC b ra ro s) (g : JFrame) (mk : MethodId) (a : Array Value) : GK D aC b ra ro (s.calling g mk a) := by
  obtain ⟨h1, h2, h3, h4, h5, h6, h7⟩ := h
  exact ⟨va_K.moved (u := s) (U := s.calling g mk a) (Vm.Alike.refl s.vm) h1, fun j zs hz => va_T.moved (u := s) (U := s.calling g mk a) (Vm.Alike.refl s.vm) (h2 j zs hz), va_Z.moved (u := s) (U := s.calling g mk a) (Vm.Alike.refl s.vm) h3, va_Z.moved (u := s) (U := s.calling g mk a) (Vm.Alike.refl s.vm) h4, va_AO.moved (u := s) (U := s.calling g mk a) (Vm.Alike.refl s.vm) h5, va_AO.moved (u := s) (U := s.calling g mk a) (Vm.Alike.refl s.vm) h6, fun w hw => va_Nw.same (u := s) (U := s.calling g mk a) (by rcases List.mem_filter.mp hw with ⟨-, h⟩; cases w <;> first | rfl | cases h) rfl (h7 w hw)⟩
theorem GK.moved {D : va_G} {aC : FieldType → ClassId} {b : Nat} {ra : Nat → Nat} {ro : List (List Int32)} {s U : State} {locs : List Loc} (h : GK D aC b ra ro s) (hW : s.WarmedH U.vm) (hS : va_S (Ao b) s.heap U.heap locs) : GK D aC b ra ro U := by
  obtain ⟨h1, h2, h3, h4, h5, h6, h7⟩ := h
  refine ⟨va_K.moved hW.alike h1, fun j zs hz => (va_T.kept (h2 j zs hz) hS.2.1).moved hW.alike, (va_Z.kept h3 hS.2.1).moved hW.alike, (va_Z.kept h4 hS.2.1).moved hW.alike, va_AO.moved hW.alike h5, va_AO.moved hW.alike h6, fun w hw => ?_⟩
  have hn := (List.mem_filter.mp hw).2
  cases w <;> first | exact va_Nw.warmM hW (h7 _ hw) | cases hn
/-- a method's contract at given arguments and cells -/
def Ct (l : Launch) (D : va_G) (aC : FieldType → ClassId) (b : Nat) (ra : Nat → Nat) (ro : List (List Int32)) (r : MR) (d : Nat) (as : List AV) (h : AH) (v : Option AV) (h' : AH) : Prop :=
  Met l r.1 (Cond.code r.1 r.2.1 r.2.2.1 r.2.2.2.1 :: gw) ({ frames := d, cells := h'.length - h.length, slots := slz h' - slz h, locals := 40 * d } : Room) (va_Pc (as.map (cv b ra)) (fun U => HR D aC b ra h U.heap ∧ GK D aC b ra ro U)) (fun _ st oc t => oc = .returned (v.map (cv b ra)) ∧ HR D aC b ra h' t.heap ∧ va_F (Ao b) st t) (h'.length - h.length) (slz h' - slz h) (Ao b)
theorem gw_good : ∀ w ∈ gw, w ∈ gw ∧ ((w.onTables && w.keeps) = true ∨ ∃ ty, w = .arrayClass ty) := fun w hw => ⟨hw, good_of_word (List.mem_filter.mp hw).2⟩
section SD4
variable {p : Program} {l : Launch} {e : Env} {R : Room} {s : State} {m : MethodId} {args : Array Value} {below : List Frame} {meth : Method} {c : Code} {H : Heap} {locs : List Loc} {cells slots : Nat} {Q : State → Prop}
variable {D : va_G} {aC : FieldType → ClassId} {b : Nat} {ra : Nat → Nat} {ro : List (List Int32)} {cc : ByteArray} {pc : Nat} {L : AL} {S : List AV} {h : AH} {ls : Array Slot} {i : Instr} {x : AR}
theorem ow_call {mc ms : Nat} {v : Option AV} {h' : AH} {st0 rest : List Value} (hr : va_Run p l e R s m args below meth c H locs cells slots mc ms (F0 m pc ls st0) rest (fun st oc t => oc = .returned (v.map (cv b ra)) ∧ HR D aC b ra h' t.heap ∧ va_F (Ao b) st t) (Ao b)) (hS : va_S (Ao b) s.heap H locs)
    (k : ∀ (H1 : Heap) (locs1 : List Loc), HR D aC b ra h' H1 → va_S (Ao b) s.heap H1 locs1 → W p l e R s m args below meth c H1 locs1 (cells + mc) (slots + ms) Q (F0 m (pc + 3) ls ((v.map (cv b ra)).toList ++ rest))) : W p l e R s m args below meth c H locs cells slots Q (F0 m pc ls st0) := by
  intro T hT X
  obtain ⟨v', st₀, t, T', L, h0, X', hL, e1, e2, ⟨hv, hH1, hF⟩, st⟩ := hr T hT X
  cases hv
  obtain ⟨t2, a1, b1⟩ := k T'.heap (locs ++ L) (by rw [e1]; exact hH1) ⟨Nat.le_trans hS.1 (by rw [e1, ← h0]; exact hF.1), fun q h1 h2 => by
      rw [e1, hF.2 q (by rw [h0]; exact Nat.lt_of_lt_of_le h1 hS.1) h2, h0]
      exact hS.2.1 q h1 h2, fun q hq => by
      rcases List.mem_append.mp hq with h9 | h9
      · exact hS.2.2 q h9
      · exact hL q h9⟩ T' rfl X'
  exact ⟨t2, st t2 a1, b1⟩
theorem ct_blind (as : List AV) (h : AH) : FrameBlind (va_Pc (as.map (cv b ra)) (fun U => HR D aC b ra h U.heap ∧ GK D aC b ra ro U)) := fun a U g mk hq => ⟨hq.1, hq.2.1, hq.2.2.same g mk a⟩
set_option maxHeartbeats 4000000 in
/-- a call of the small machine, its callee's contract given -/
theorem sd3 {K d : Nat} {n : String} {rt : Option FieldType} {j : Nat} {as : List AV} {pc' : Nat} {L' : AL} {S' : List AV} {h1 h' : AH} {v : Option AV} (hx : p.tables.exec = Jvm.exec) (hb : c.code = cc) (hml : c.maxLocals = L.length) (hn : kN[K]? = some n) (hown : s.vm.findClass n = some m.cls) (hts : ∀ w ∈ gw, w.before args s = true) (hG : GK D aC b ra ro s) (hS : va_S (Ao b) s.heap H locs) (hH : HR D aC b ra h H)
    (hl : LR b ra L ls) (hd : ∀ n, (kind i).2 = n → n ≠ 0 → decode cc pc = .ok (i, n)) (he : st3 (d + 1) K rt i pc L S h = some (.inr (.inl (j, as, pc', L', S', h1))))
    (hct : ∀ r, mrec j = some r → j ≠ 247 → Ct l D aC b ra ro r d as h v h')
    (hroom : cells + (h'.length - h.length) ≤ R.cells ∧ slots + (slz h' - slz h) ≤ R.slots) (hR : d + 1 ≤ R.frames ∧ 40 * (d + 1) ≤ R.locals)
    (k : ∀ H1 locs1, L' = L → h1 = h → HR D aC b ra h' H1 → va_S (Ao b) s.heap H1 locs1 → W p l e R s m args below meth c H1 locs1 (cells + (h'.length - h.length)) (slots + (slz h' - slz h)) Q (F0 m pc' ls ((v.toList ++ S').map (cv b ra)))) :
    W p l e R s m args below meth c H locs cells slots Q (F0 m pc ls (S.map (cv b ra))) := by
  have hPc : ∀ U : State, U.heap = H → s.WarmedH U.vm → va_Pc (as.map (cv b ra)) (fun U => HR D aC b ra h U.heap ∧ GK D aC b ra ro U) (as.map (cv b ra)).toArray U := fun U hU hW => ⟨rfl, by rw [hU]; exact hH, hG.moved (U := U) hW (by rw [hU]; exact hS)⟩
  have hcl : ∀ na, call pc L S h j na = some (.inr (.inl (j, as, pc', L', S', h1))) → pc' = pc + 3 ∧ L' = L ∧ h1 = h ∧ S = as.reverse ++ S' ∧ as.length = na ∧ S'.length ≤ 8 := by
    intro na hc
    unfold call at hc
    split at hc
    · rename_i hna
      simp only [Option.some.injEq, Sum.inr.injEq, Sum.inl.injEq, Prod.mk.injEq, true_and] at hc
      obtain ⟨h2, h3, h4, h5, h6⟩ := hc
      subst h2; subst h3; subst h4; subst h5; subst h6
      refine ⟨rfl, rfl, rfl, by simp, by simp; omega, hna.2⟩
    · cases hc
  have fin : ∀ (r : MR) (st0 rest : List Value), mrec j = some r → pc' = pc + 3 → L' = L → h1 = h → rest = S'.map (cv b ra) → va_Run p l e R s m args below meth c H locs cells slots (h'.length - h.length) (slz h' - slz h) (F0 m pc ls (S.map (cv b ra))) rest (fun st oc t => oc = .returned (v.map (cv b ra)) ∧ HR D aC b ra h' t.heap ∧ va_F (Ao b) st t) (Ao b) → W p l e R s m args below meth c H locs cells slots Q (F0 m pc ls (S.map (cv b ra))) := by
    intro r st0 rest hr e1 e2 e3 e4 hrun
    refine ow_call hrun hS (fun H1 locs1 g1 g2 => ?_)
    have := k H1 locs1 e2 e3 g1 g2
    rw [e1, List.map_append] at this
    rw [e4]
    cases v <;> exact this
  have room : ∀ ml, ml ≤ 20 → d + 1 ≤ R.frames ∧ 8 + (ml + 11) + 40 * d ≤ R.locals := fun ml h => ⟨hR.1, by omega⟩
  have fix : ∀ own, own = n → CallFix p m c cc L.length s args gw own := fun own ho => ⟨hx, hb, hml, by rw [ho]; exact hown, hts⟩
  have hsz : ls.size = L.length := hl.1
  have hrest : ∀ S' : List AV, S'.length ≤ 8 → 2 * (F0 m pc ls (S.map (cv b ra))).monitorRoom + ((S'.map (cv b ra)).map fun v => v.category).sum ≤ 8 := fun S' h => lv_room (by rw [cv_sum]; exact h)
  -- the words of a callee
  have wds : ∀ r, mrec j = some r → j ≠ 247 → (∀ w ∈ (Cond.code r.1 r.2.1 r.2.2.1 r.2.2.2.1 :: gw), ∀ (a' : Array Value) (U : State), s.WarmedH U.vm → w.before a' U = true) ∧ (Cond.code r.1 r.2.1 r.2.2.1 r.2.2.2.1).before args s = true ∧ (Cond.initialized r.1.cls).before args s = true := by
    intro r hr hj
    obtain ⟨q1, q2⟩ := mrec_ok hr hj
    refine ⟨fun w hw => pay_in hts gw_good w ?_, hts _ q2, hts _ (ini_ok (ckm_all q1).2.2.2.2.2.2.1)⟩
    rcases List.mem_cons.mp hw with rfl | h9
    · exact q2
    · exact h9
  unfold st3 at he
  split at he
  · -- static
    rename_i x0
    split at he
    · rename_i j0 kd po hlk
      split at he
      · split at he
        · split at he
          · cases he
          · cases he
        · cases he
      · split at he
        · rename_i hkd
          split at he
          · rename_i r hr
            have hj : j0 = j := by
              unfold call at he
              split at he
              · cases he; rfl
              · cases he
            subst hj
            have hj := inv_no hlk
            obtain ⟨e1, e2, e3, e4, e5, e6⟩ := hcl _ he
            obtain ⟨q1, q2⟩ := mrec_ok hr hj
            obtain ⟨m1, m2, m3, m4, m5, m6, m7, m8, m9⟩ := ckm_all q1
            obtain ⟨w1, w2, w3⟩ := wds r hr hj
            obtain ⟨i0, i1, -⟩ := inv_ok hlk hn hr
            have hM := hct r hr hj
            have hst : S.map (cv b ra) = (as.map (cv b ra)).reverse ++ S'.map (cv b ra) := by rw [e4, List.map_append, List.map_reverse]
            rcases hkd with rfl | rfl
            · obtain ⟨z1, z2⟩ := i0 rfl
              rw [if_pos z2] at m1 m5
              refine fin r [] _ hr e1 e2 e3 rfl (va_runS (n := r.2.2.2.2.2.1) (rest := S'.map (cv b ra)) (fix n rfl) hM ⟨⟨rfl, rfl, (room _ m9).1, (room _ m9).2, w1, List.mem_cons_self, w2, w3, m4, fun sig hs => ?_, hts _ z1⟩, hts _ m1⟩ ⟨ct_blind as h, hPc⟩ rfl (by simpa using e5) hsz hst (hrest S' e6) (hd 3 rfl (by decide)) hroom)
              rw [hs] at m5
              exact (Option.some.inj m5).symm
            · obtain ⟨z1, z2⟩ := i1 rfl
              rw [if_pos z2] at m1 m5
              refine fin r [] _ hr e1 e2 e3 rfl (va_runSN (n := r.2.2.2.2.2.1) (rest := S'.map (cv b ra)) (fix n rfl) hM ⟨⟨⟨rfl, rfl, (room _ m9).1, (room _ m9).2, w1, List.mem_cons_self⟩, w2, w3, m4, fun sig hs => ?_, va_Nw.use rfl (hG.2.2.2.2.2.2 _ z1)⟩, hts _ m1, trivial⟩ ⟨ct_blind as h, hPc⟩ rfl (by simpa using e5) hsz hst (hrest S' e6) (hd 3 rfl (by decide)) hroom)
              rw [hs] at m5
              exact (Option.some.inj m5).symm
          · cases he
        · cases he
    · cases he
  · -- virtual
    rename_i x0
    split at he
    · rename_i j0 kd po hlk
      split at he
      · rename_i hkd
        subst hkd
        split at he
        · rename_i r hr
          split at he
          · rename_i hrc
            have hj : j0 = j := by
              unfold call at he
              split at he
              · cases he; rfl
              · cases he
            subst hj
            have hj := inv_no hlk
            obtain ⟨e1, e2, e3, e4, e5, e6⟩ := hcl _ he
            obtain ⟨q1, q2⟩ := mrec_ok hr hj
            obtain ⟨m1, m2, m3, m4, m5, m6, m7, m8, m9⟩ := ckm_all q1
            obtain ⟨w1, w2, w3⟩ := wds r hr hj
            obtain ⟨-, -, i2, -⟩ := inv_ok hlk hn hr
            obtain ⟨z1, z2, z3⟩ := i2 rfl
            have has : (S.take r.2.2.2.2.2.1).reverse = as := by
              rw [e4, ← e5]
              simp
            rw [has] at hrc
            unfold rcv at hrc
            split at hrc
            · rename_i a as'
              split at hrc
              · rename_i ci fs hca
                split at hrc
                · rename_i q hq
                  have hcls := of_decide_eq_true hrc
                  have hM := hct r hr hj
                  rw [if_neg (by rw [z2]; decide)] at m1 m5
                  have hst : S.map (cv b ra) = (as'.map (cv b ra)).reverse ++ .ref (b + a) :: S'.map (cv b ra) := by
                    rw [e4, List.map_append, List.map_reverse]
                    simp [cv]
                  have hlen : (as'.map (cv b ra)).length = r.2.2.2.2.2.1 - 1 := by
                    rw [← e5]; simp
                  refine fin r [] _ hr e1 e2 e3 rfl (va_runV (C := r.1.cls) (n := r.2.2.2.2.2.1 - 1) (b := b + a) (As := as'.map (cv b ra)) (rest := S'.map (cv b ra)) (fix n rfl) hM ⟨⟨rfl, rfl, (room _ m9).1, (room _ m9).2, w1, List.mem_cons_self, w2, w3, m4, fun sig hs => ?_, hts _ z1⟩, hts _ m1, hts _ (m2.resolve_left z3)⟩ ⟨ct_blind _ h, ?_, hPc⟩ rfl hlen hsz hst (hrest S' e6) (hd 3 rfl (by decide)) hroom)
                  · rw [hs] at m5
                    exact (Option.some.inj m5).symm
                  · have := va_recv (hG.1) hH.2 hq (wsO_get hca)
                    rw [hcls] at this
                    exact this
                · cases hrc
              · cases hrc
            · cases hrc
          · cases he
        · cases he
      · cases he
    · cases he
  · -- special
    rename_i x0
    split at he
    · split at he
      · split at he
        · cases he
        · cases he
      · cases he
    · split at he
      · rename_i j0 kd po hlk
        split at he
        · rename_i hkd
          split at he
          · rename_i r hr
            split at he
            · rename_i hrc
              have hj : j0 = j := by
                unfold call at he
                split at he
                · cases he; rfl
                · cases he
              subst hj
              have hj := inv_no hlk
              obtain ⟨e1, e2, e3, e4, e5, e6⟩ := hcl _ he
              obtain ⟨q1, q2⟩ := mrec_ok hr hj
              obtain ⟨m1, m2, m3, m4, m5, m6, m7, m8, m9⟩ := ckm_all q1
              obtain ⟨w1, w2, w3⟩ := wds r hr hj
              obtain ⟨-, -, -, i4, i5⟩ := inv_ok hlk hn hr
              have has : (S.take r.2.2.2.2.2.1).reverse = as := by
                rw [e4, ← e5]
                simp
              rw [has] at hrc
              unfold rcvN at hrc
              split at hrc
              · rename_i a as'
                have hM := hct r hr hj
                have hst : S.map (cv b ra) = (as'.map (cv b ra)).reverse ++ .ref (b + a) :: S'.map (cv b ra) := by
                  rw [e4, List.map_append, List.map_reverse]
                  simp [cv]
                have hlen : (as'.map (cv b ra)).length = r.2.2.2.2.2.1 - 1 := by
                  rw [← e5]; simp
                rcases hkd with rfl | rfl
                · obtain ⟨z1, z2, z3, z4⟩ := i4 rfl
                  rw [if_neg (by rw [z2]; decide)] at m1 m5
                  unfold Ct at hM
                  rw [z4] at hM w1 w2
                  refine fin r [] _ hr e1 e2 e3 rfl (va_runI (n := r.2.2.2.2.2.1 - 1) (b := b + a) (As := as'.map (cv b ra)) (rest := S'.map (cv b ra)) (fix n rfl) hM ⟨⟨rfl, rfl, (room _ m9).1, (room _ m9).2, w1, List.mem_cons_self, w2, w3, m4, fun sig hs => ?_, hts _ z1⟩, z3, hts _ m1⟩ ⟨ct_blind _ h, hPc⟩ rfl hlen hsz hst (hrest S' e6) (hd 3 rfl (by decide)) hroom)
                  rw [hs] at m5
                  exact (Option.some.inj m5).symm
                · obtain ⟨z1, z2, z3, z4⟩ := i5 rfl
                  rw [if_neg (by rw [z2]; decide)] at m1 m5
                  unfold Ct at hM
                  rw [z4] at hM w1 w2
                  refine fin r [] _ hr e1 e2 e3 rfl (va_runIN (n := r.2.2.2.2.2.1 - 1) (b := b + a) (As := as'.map (cv b ra)) (rest := S'.map (cv b ra)) (fix n rfl) hM ⟨⟨⟨rfl, rfl, (room _ m9).1, (room _ m9).2, w1, List.mem_cons_self⟩, w2, w3, m4, fun sig hs => ?_, va_Nw.use rfl (hG.2.2.2.2.2.2 _ z1)⟩, z3, hts _ m1⟩ ⟨ct_blind _ h, hPc⟩ rfl hlen hsz hst (hrest S' e6) (hd 3 rfl (by decide)) hroom)
                  rw [hs] at m5
                  exact (Option.some.inj m5).symm
              · cases hrc
            · cases he
          · cases he
        · cases he
      · cases he
  · repeat' split at he
    all_goals cases he
  · repeat' split at he
    all_goals cases he
  · repeat' split at he
    all_goals cases he
  · cases he
end SD4
end
section
/-! The small machine's runs, by induction -/
/-- which instruction returns this -/
def retk (i : Instr) (rt : Option FieldType) (v : Option AV) : Prop := match v with
  | none => i = .return_ ∧ rt = none
  | some (.inl x) => i = .ireturn ∧ (rt = some .int ∨ (rt = some .boolean ∧ (x = 0 ∨ x = 1)))
  | some (.inr (.inl _)) => i = .areturn ∧ ∃ C, rt = some (.object C)
  | some (.inr (.inr _)) => False
theorem st3_ret {d K : Nat} {rt : Option FieldType} {i : Instr} {pc : Nat} {L : AL} {S : List AV} {h : AH} {v : Option AV} {h' : AH} (e : st3 d K rt i pc L S h = some (.inr (.inr (v, h')))) : h' = h ∧ S = v.toList ∧ retk i rt v := by
  unfold st3 at e
  split at e
  · repeat' split at e
    all_goals first
      | cases e
      | (unfold call at e; split at e <;> cases e)
  · repeat' split at e
    all_goals first
      | cases e
      | (unfold call at e; split at e <;> cases e)
  · repeat' split at e
    all_goals first
      | cases e
      | (unfold call at e; split at e <;> cases e)
  · split at e
    · cases e
      exact ⟨rfl, rfl, rfl, Or.inl rfl⟩
    · split at e
      · rename_i hx
        cases e
        exact ⟨rfl, rfl, rfl, Or.inr ⟨rfl, hx⟩⟩
      · cases e
    · cases e
  · split at e
    · rename_i C
      cases e
      exact ⟨rfl, rfl, rfl, C, rfl⟩
    · cases e
  · split at e
    · cases e
      exact ⟨rfl, rfl, rfl, rfl⟩
    · cases e
  · cases e
theorem call_na {pc j na k : Nat} {L : AL} {S as : List AV} {h : AH} {s' : AS} (e : call pc L S h j na = some (.inr (.inl (k, as, s')))) : k = j ∧ as.length = na := by
  unfold call at e
  split at e
  · rename_i hna
    simp only [Option.some.injEq, Sum.inr.injEq, Sum.inl.injEq, Prod.mk.injEq] at e
    obtain ⟨h1, h2, -⟩ := e
    subst h1; subst h2
    refine ⟨rfl, ?_⟩
    simp
    omega
  · cases e
theorem na_le {K x j kd po k pc : Nat} {L : AL} {S as : List AV} {h : AH} {s' : AS} {r r' : MR} (hlk : lk invT K x = some (j, kd, po)) (hr : mrec j = some r) (e : call pc L S h j r.2.2.2.2.2.1 = some (.inr (.inl (k, as, s')))) (hr' : mrec k = some r') : as.length ≤ r'.2.2.1 := by
  obtain ⟨rfl, h2⟩ := call_na e
  rw [hr] at hr'
  cases hr'
  rw [h2]
  exact (ckm_all (mrec_ok hr (inv_no hlk)).1).2.2.2.2.2.2.2.1
theorem st3_na {d K : Nat} {rt : Option FieldType} {i : Instr} {pc k : Nat} {L : AL} {S as : List AV} {h : AH} {s' : AS} {r' : MR} (e : st3 d K rt i pc L S h = some (.inr (.inl (k, as, s')))) (hr' : mrec k = some r') : as.length ≤ r'.2.2.1 := by
  unfold st3 at e
  repeat' split at e
  all_goals first
    | exact na_le (by assumption) (by assumption) e hr'
    | cases e
section SD5
variable {p : Program} {l : Launch} {e : Env} {R : Room} {s : State} {m : MethodId} {args : Array Value} {below : List Frame} {meth : Method} {c : Code} {H : Heap} {locs : List Loc} {cells slots : Nat} {Q : State → Prop}
variable {D : va_G} {aC : FieldType → ClassId} {b : Nat} {ra : Nat → Nat} {ro : List (List Int32)} {cc : ByteArray} {pc : Nat} {L : AL} {S : List AV} {h : AH} {ls : Array Slot} {i : Instr} {x : AR}
set_option maxHeartbeats 4000000 in
/-- calls that the small machine makes in one step: Math.max, Math.min, Object's constructor -/
theorem sd3n {K d : Nat} {n : String} {rt : Option FieldType} {pc' : Nat} {L' : AL} {S' : List AV} {h' : AH} (hx : p.tables.exec = Jvm.exec) (hb : c.code = cc) (hml : c.maxLocals = L.length) (hn : kN[K]? = some n) (hown : s.vm.findClass n = some m.cls) (hts : ∀ w ∈ gw, w.before args s = true)
    (hl : LR b ra L ls) (hd : ∀ n, (kind i).2 = n → n ≠ 0 → decode cc pc = .ok (i, n)) (he : st3 d K rt i pc L S h = some (.inl (pc', L', S', h')))
    (hroom : cells ≤ R.cells ∧ slots ≤ R.slots) (hR : d ≤ R.frames ∧ 40 * d ≤ R.locals)
    (k : L' = L → h' = h → W p l e R s m args below meth c H locs cells slots Q (F0 m pc' ls (S'.map (cv b ra)))) :
    W p l e R s m args below meth c H locs cells slots Q (F0 m pc ls (S.map (cv b ra))) := by
  unfold st3 at he
  split at he
  · rename_i x0
    split at he
    · rename_i j0 kd po hlk
      split at he
      · rename_i hkd
        split at he
        · rename_i y x S0
          split at he
          · rename_i hc
            cases he
            have hs : ((S0.map (cv b ra)).map fun v => v.category).sum + 13 ≤ R.locals := by rw [cv_sum]; omega
            rcases hkd with rfl | rfl
            · exact va_mmax hx hb (by rw [hml]; exact hl.1.symm) hown (hts _ (inv_math.1 hlk hn)) (hts _ (ckw_in ck_math.1)) (hts _ (ini_ok (K := 13) rfl)) (hts _ (ckw_in ck_math.2.2.1)) (by omega) hs hroom.1 hroom.2 (hd 3 rfl (by decide)) (k rfl rfl)
            · exact va_mmin hx hb (by rw [hml]; exact hl.1.symm) hown (hts _ (inv_math.2 hlk hn)) (hts _ (ckw_in ck_math.2.1)) (hts _ (ini_ok (K := 13) rfl)) (hts _ (ckw_in ck_math.2.2.2)) (by omega) hs hroom.1 hroom.2 (hd 3 rfl (by decide)) (k rfl rfl)
          · cases he
        · cases he
      · split at he
        · split at he
          · unfold call at he
            split at he <;> cases he
          · cases he
        · cases he
    · cases he
  · repeat' split at he
    all_goals first
      | cases he
      | (unfold call at he; split at he <;> cases he)
  · rename_i x0
    split at he
    · rename_i po hlk
      split at he
      · rename_i a S0
        split at he
        · rename_i hc
          cases he
          refine W.objInit (a := b + a) (rest := S'.map (cv b ra)) hx hb hown (hts _ (ob_ok hlk hn)) (hts _ (ckw_in ck_obj.1)) (hts _ (ckw_in ck_obj.2)) rfl (by rw [hml]; exact hl.1) rfl (hd 3 rfl (by decide)) (by omega) ?_ (k rfl rfl)
          rw [cv_sum]
          show 2 * 0 + _ + 12 ≤ _
          omega
        · cases he
      · cases he
    · repeat' split at he
      all_goals first
        | cases he
        | (unfold call at he; split at he <;> cases he)
  · repeat' split at he
    all_goals cases he
  · repeat' split at he
    all_goals cases he
  · repeat' split at he
    all_goals cases he
  · cases he
/-- the small machine's frame, where the real one stands: what comes behind its end comes behind the real one's -/
def Sn (ro : List (List Int32)) (f : Nat) : Prop := ∀ (d j : Nat) (pc : Nat) (L : AL) (S : List AV) (h : AH) (v : Option AV) (h' : AH) (r : MR), run ro f d j (pc, L, S, h) = some (v, h') → mrec j = some r → kN[r.2.2.2.2.1]? = some r.1.cls → tyO h → L.length = r.2.2.1 →
  ∀ {p : Program} {l : Launch} {e : Env} {R : Room} {s : State} {m : MethodId} {args : Array Value} {below : List Frame} {meth : Method} {c : Code} {H : Heap} {locs : List Loc} {Q : State → Prop} {D : va_G} {aC : FieldType → ClassId} {b : Nat} {ra : Nat → Nat} {ls : Array Slot} (n0 s0 : Nat),
  p.tables.exec = Jvm.exec → c.code = r.2.1 → c.maxLocals = r.2.2.1 → s.vm.findClass r.1.cls = some m.cls → (r.1.name = "<init>" → meth.name = "<init>") → (∀ w ∈ gw, w.before args s = true) → GK D aC b ra ro s → va_S (Ao b) s.heap H locs → HR D aC b ra h H → LR b ra L ls →
  (d ≤ R.frames ∧ 40 * d ≤ R.locals ∧ h'.length - n0 ≤ R.cells ∧ slz h' - s0 ≤ R.slots ∧ n0 ≤ h.length ∧ s0 ≤ slz h) →
  (∀ (H1 : Heap) (locs1 : List Loc) (ls1 : Array Slot) (pc1 : Nat) (i : Instr), retk i r.2.2.2.1 v → decode r.2.1 pc1 = .ok (i, 1) → HR D aC b ra h' H1 → va_S (Ao b) s.heap H1 locs1 → W p l e R s m args below meth c H1 locs1 (h'.length - n0) (slz h' - s0) Q (F0 m pc1 ls1 (v.toList.map (cv b ra)))) →
  W p l e R s m args below meth c H locs (h.length - n0) (slz h - s0) Q (F0 m pc ls (S.map (cv b ra)))
theorem lvl_args (as : List AV) : ∀ (k n : Nat) (q : Nat × Value) (v : AV), (as.map some ++ List.replicate n none)[q.1]? = some (some v) → q.2 = cv b ra v → (k + q.1, q.2) ∈ lv_args k (as.map (cv b ra)) := by
  induction as with
  | nil =>
    intro k n q v h1 h2
    simp [List.getElem?_replicate] at h1
  | cons a as ih =>
    intro k n q v h1 h2
    obtain ⟨q1, q2⟩ := q
    cases q1 with
    | zero =>
      simp at h1
      subst h1
      simp only at h2
      simp [lv_args, h2]
    | succ q1 =>
      have h1' : (as.map some ++ List.replicate n none)[q1]? = some (some v) := by simpa using h1
      have h3 := ih (k + 1) n (q1, q2) v h1' h2
      simp only [List.map_cons, lv_args]
      rw [if_neg (by rw [cv_cat]; decide)]
      refine List.mem_cons_of_mem _ ?_
      rw [show k + (q1 + 1) = k + 1 + q1 by omega]
      exact h3
theorem lg_len (as : List AV) : (lg_sl (as.map (cv b ra))).length = as.length := by
  induction as with
  | nil => rfl
  | cons a as ih =>
    simp only [lg_sl, List.map_cons, List.flatMap_cons, List.length_append, List.length_cons] at ih ⊢
    rw [if_neg (by rw [cv_cat]; decide), ih]
    simp
    omega
set_option maxHeartbeats 4000000 in
theorem sn_ct {f : Nat} (ih : Sn ro f) {d j : Nat} {as : List AV} {v : Option AV} {h' : AH} {r : MR} (hr : mrec j = some r) (hj : j ≠ 247) (hrun : run ro f d j (ent r as h) = some (v, h')) (hty : tyO h) (hna : as.length ≤ r.2.2.1) : Ct l D aC b ra ro r d as h v h' := by
  obtain ⟨q1, q2⟩ := mrec_ok hr hj
  obtain ⟨m1, m2, m3, m4, m5, m6, m7, m8, m9⟩ := ckm_all q1
  refine Met.ofW (cc := r.2.1) (maxL := r.2.2.1) (ret := r.2.2.2.1) m3 rfl ?_
  intro p e s m args below meth c s₁ B hml hv
  obtain ⟨rfl, hH, hG⟩ := hv
  have hx := B.exec
  have hb := B.bytes
  have hrt := B.returns
  have hts0 := atoms_spec (ws := Cond.code r.1 r.2.1 r.2.2.1 r.2.2.2.1 :: gw) B.pre
  have hts : ∀ w ∈ gw, w.before (as.map (cv b ra)).toArray s = true := fun w hw => hts0 w (List.mem_cons_of_mem _ hw)
  have hown : s.vm.findClass r.1.cls = some m.cls := findClass_of_methodNamed B.named
  have hlocks := B.notSynchronized
  have hin : r.1.name = "<init>" → meth.name = "<init>" := fun q => (name_of_methodNamed B.named B.method).1.trans q
  have hle := run_h ro _ _ _ _ _ hrun
  rw [lg_entry_eq]
  have hl := lv_entry (as.map (cv b ra)) (n := r.2.2.1) (by rw [lg_len]; exact hna)
  generalize (lg_sl (as.map (cv b ra)) ++ List.replicate (r.2.2.1 - (lg_sl (as.map (cv b ra))).length) Slot.unset).toArray = ls at hl ⊢
  have hLl : (as.map some ++ List.replicate (r.2.2.1 - as.length) none : AL).length = r.2.2.1 := by simp; omega
  have hl2 : LR b ra (as.map some ++ List.replicate (r.2.2.1 - as.length) none) ls := by
    refine ⟨by rw [hLl]; exact hl.1, hl.2.1, fun q hq => hl.2.2 q ?_⟩
    obtain ⟨v, h1, h2⟩ := lvl_mem.mp hq
    have := lvl_args (b := b) (ra := ra) as 0 _ q v h1 h2
    rw [Nat.zero_add] at this
    exact this
  have hS : va_S (Ao b) s.heap s.heap [] := va_S.rf
  have key := ih d j 0 _ [] h v h' r hrun hr m7 hty hLl (p := p) (l := l) (e := e) (R := { frames := d, cells := h'.length - h.length, slots := slz h' - slz h, locals := 40 * d }) (s := s) (m := m) (args := (as.map (cv b ra)).toArray) (below := below) (meth := meth) (c := c) (H := s.heap) (locs := []) (Q := MQ below (fun _ st oc t => oc = .returned (v.map (cv b ra)) ∧ HR D aC b ra h' t.heap ∧ va_F (Ao b) st t) (as.map (cv b ra)).toArray s (h'.length - h.length) (slz h' - slz h) (Ao b)) (D := D) (aC := aC) (b := b) (ra := ra) (ls := ls) h.length (slz h) hx hb hml hown hin hts hG hS hH hl2 ⟨Nat.le_refl _, Nat.le_refl _, Nat.le_refl _, Nat.le_refl _, Nat.le_refl _, Nat.le_refl _⟩ ?_
  · rw [Nat.sub_self, Nat.sub_self] at key
    exact key
  · intro H1 locs1 ls1 pc1 i hk hdg hH1 hS1
    have hq : ∀ t : State, t.heap = H1 → s.WarmedH t.vm → (Outcome.returned (v.map (cv b ra)) = .returned (v.map (cv b ra)) ∧ HR D aC b ra h' t.heap ∧ va_F (Ao b) s t) := fun t ht hW => ⟨rfl, by rw [ht]; exact hH1, hS1.F ht⟩
    rcases v with _ | (x | (o | j0))
    · obtain ⟨rfl, h2⟩ := hk
      exact W.vret hx hb (hrt.trans h2) hq hS1.2.2 hdg
    · obtain ⟨rfl, h2⟩ := hk
      rcases h2 with h2 | ⟨h2, h3⟩
      · exact W.iret (v := x) hx hb (hrt.trans h2) hq hS1.2.2 hdg
      · exact W.zret (v := x) hx hb (hrt.trans h2) (by rcases h3 with rfl | rfl <;> rfl) hq hS1.2.2 hdg
    · obtain ⟨rfl, C, h2⟩ := hk
      exact W.aret (v := cv b ra (.inr (.inl o))) hx hb (hrt.trans h2) (Or.inl ⟨C, rfl⟩) (by cases o <;> first | exact Or.inl rfl | exact Or.inr ⟨_, rfl⟩) hq hS1.2.2 hdg
    · exact hk.elim
set_option maxHeartbeats 4000000 in
theorem snd_all (ro : List (List Int32)) : ∀ f, Sn ro f := by
  intro f
  induction f with
  | zero =>
    intro d j pc L S h v h' r hrun
    simp [run] at hrun
  | succ f ih =>
    intro d j pc L S h v h' r hrun hr hkn hty hLl p l e R s m args below meth c H locs Q D aC b ra ls n0 s0 hx hb hml hown hin hts hG hS hH hl hR hret
    obtain ⟨hR1, hR2, hR3, hR4, hR5, hR6⟩ := hR
    have hall := run_h ro _ _ _ _ _ hrun
    rw [run, hr] at hrun
    dsimp only at hrun
    cases hi : fch r.2.1 pc with
    | none => rw [hi] at hrun; cases hrun
    | some i =>
      rw [hi] at hrun
      dsimp only at hrun
      obtain ⟨n, hdec, hlen⟩ : ∃ n, decode r.2.1 pc = .ok (i, n) ∧ ((kind i).2 = 0 ∨ (kind i).2 = n) := by
        unfold fch at hi
        split at hi
        · rename_i i' n' hd'
          split at hi
          · cases hi
            exact ⟨n', hd', by assumption⟩
          · cases hi
        · cases hi
      have hd : ∀ n, (kind i).2 = n → n ≠ 0 → decode r.2.1 pc = .ok (i, n) := by
        intro n' h1 h2
        rcases hlen with h3 | h3
        · exact absurd (h1.symm.trans h3) h2
        · rw [hdec, ← h3, h1]
      have hd0 : ∃ n, decode r.2.1 pc = .ok (i, n) := ⟨n, hdec⟩
      cases hs : stp ro d r i pc L S h with
      | none => rw [hs] at hrun; cases hrun
      | some x =>
        rw [hs] at hrun
        have hsh := stp_h hs
        rcases x with ⟨pc', L', S', h1⟩ | ⟨k, as, pc', L', S', h1⟩ | o
        · -- a step
          dsimp only at hrun
          have hrest := run_h ro _ _ _ _ _ hrun
          have hsh : hle h h1 := hsh
          have hrest : hle h1 h' := hrest
          unfold stp at hs
          split at hs
          · refine sd1 hx hb hl hd hd0 hs (fun pc2 L2 S2 ls2 e1 e2 e3 => ?_)
            cases e1
            exact ih d j _ _ _ _ v h' r hrun hr hkn hty (e2.trans hLl) n0 s0 hx hb hml hown hin hts hG hS hH e3 ⟨hR1, hR2, hR3, hR4, hR5, hR6⟩ hret
          · split at hs
            · refine sd2 hx hb hkn hown (fun q => hin (of_decide_eq_true q)) hts hG hS hH hty hl hd hs ?_ (fun pc2 L2 S2 h2 H1 locs1 ls2 e1 e2 e3 e4 e5 e6 => ?_)
              · show h.length - n0 + (h1.length - h.length) ≤ R.cells ∧ slz h - s0 + (slz h1 - slz h) ≤ R.slots
                have := hsh.1; have := hsh.2; have := hrest.1; have := hrest.2
                omega
              · cases e1
                have z1 : h.length - n0 + (h1.length - h.length) = h1.length - n0 := by have := hsh.1; omega
                have z2 : slz h - s0 + (slz h1 - slz h) = slz h1 - s0 := by have := hsh.2; omega
                rw [z1, z2]
                exact ih d j _ _ _ _ v h' r hrun hr hkn e3 (e2.trans hLl) n0 s0 hx hb hml hown hin hts hG e6 e5 e4 ⟨hR1, hR2, hR3, hR4, Nat.le_trans hR5 hsh.1, Nat.le_trans hR6 hsh.2⟩ hret
            · split at hs
              · refine sd3n hx hb (hml.trans hLl.symm) hkn hown hts hl hd hs ?_ ⟨hR1, hR2⟩ (fun e1 e2 => ?_)
                · have := hall.1; have := hall.2
                  simp only at *
                  omega
                · subst e1; subst e2
                  exact ih d j _ _ _ _ v h' r hrun hr hkn hty hLl n0 s0 hx hb hml hown hin hts hG hS hH hl ⟨hR1, hR2, hR3, hR4, hR5, hR6⟩ hret
              · cases hs
        · -- a call
          dsimp only at hrun
          unfold stp at hs
          split at hs
          · unfold st1 at hs
            repeat' split at hs
            all_goals first
              | cases hs
              | (unfold sto at hs; split at hs <;> cases hs)
              | (unfold jp at hs; split at hs <;> cases hs)
              | (unfold br at hs; split at hs <;> cases hs)
          · split at hs
            · unfold st2 at hs
              repeat' split at hs
              all_goals cases hs
            · split at hs
              · split at hrun
                · rename_i d' r' hr'
                  split at hrun
                  · rename_i v1 h2 hcall
                    have hA := run_h ro _ _ _ _ _ hcall
                    have hB := run_h ro _ _ _ _ _ hrun
                    have hA : hle h1 h2 := hA
                    have hB : hle h2 h' := hB
                    have hsh : hle h h1 := hsh
                    have hh : h1 = h := by
                      have := st3_h hs
                      exact this
                    subst hh
                    have hna : as.length ≤ r'.2.2.1 := by
                      exact st3_na hs hr'
                    refine sd3 (v := v1) (h' := h2) hx hb (hml.trans hLl.symm) hkn hown hts hG hS hH hl hd hs (fun r2 hr2 hk => ?_) ?_ ⟨hR1, hR2⟩ (fun H1 locs1 e1 e2 e3 e4 => ?_)
                    · rw [hr'] at hr2
                      cases hr2
                      exact sn_ct ih hr' hk hcall hty hna
                    · have := hA.1; have := hA.2; have := hB.1; have := hB.2
                      omega
                    · subst e1
                      have z1 : h1.length - n0 + (h2.length - h1.length) = h2.length - n0 := by have := hA.1; omega
                      have z2 : slz h1 - s0 + (slz h2 - slz h1) = slz h2 - s0 := by have := hA.2; omega
                      rw [z1, z2]
                      have ht2 : tyO h2 := run_ty ro _ _ _ _ _ (show tyO (ent r' as h1).2.2.2 from hty) hcall
                      exact ih _ j _ _ _ _ v h' r hrun hr hkn ht2 hLl n0 s0 hx hb hml hown hin hts hG e4 e3 hl ⟨hR1, hR2, hR3, hR4, Nat.le_trans hR5 hA.1, Nat.le_trans hR6 hA.2⟩ hret
                  · cases hrun
                · cases hrun
              · cases hs
        · -- an end
          dsimp only at hrun
          cases hrun
          unfold stp at hs
          split at hs
          · unfold st1 at hs
            repeat' split at hs
            all_goals first
              | cases hs
              | (unfold sto at hs; split at hs <;> cases hs)
              | (unfold jp at hs; split at hs <;> cases hs)
              | (unfold br at hs; split at hs <;> cases hs)
          · split at hs
            · unfold st2 at hs
              repeat' split at hs
              all_goals cases hs
            · split at hs
              · obtain ⟨e1, e2, e3⟩ := st3_ret hs
                subst e1; subst e2
                have h1 : decode r.2.1 pc = .ok (i, 1) := by
                  refine hd 1 ?_ (by decide)
                  rcases v with _ | (x | (o | j0))
                  · rw [e3.1]; rfl
                  · rw [e3.1]; rfl
                  · rw [e3.1]; rfl
                  · exact e3.elim
                exact hret H locs ls pc i e3 h1 hH hS
              · cases hs
end SD5
end
section
/-! THE WORLD: the cells as they lie behind the constructors (their shape: numbers 0), and numbers in them -/
def hs_0 : AH := [(.inl 9, [.inr (.inl (some 1)), .inr (.inl (some 8)), .inr (.inl (some 16)), .inr (.inl (some 22)), .inr (.inl (some 30)), .inr (.inl (some 103)), .inr (.inl (some 144)), .inr (.inl (some 150))]), (.inl 6, [.inr (.inl (some 2)), .inr (.inl (some 3)), .inr (.inl (some 4)), .inr (.inl (some 5)), .inr (.inl (some 6)), .inr (.inl (some 7)), .inl 0]), (.inr .boolean, List.replicate 10 (.inl 0)), (.inr .int, List.replicate 10 (.inl 0)), (.inr .int, List.replicate 10 (.inl 0)), (.inr .int, List.replicate 10 (.inl 0)), (.inr .int, List.replicate 10 (.inl 0)), (.inr .int, List.replicate 10 (.inl 0)), (.inl 3, [.inr (.inl (some 9)), .inr (.inl (some 10)), .inr (.inl (some 11)), .inr (.inl (some 12)), .inr (.inl (some 13)), .inr (.inl (some 14)), .inr (.inl (some 15)), .inl 0]), (.inr .int, List.replicate 60 (.inl 0)), (.inr .int, List.replicate 60 (.inl 0)), (.inr .int, List.replicate 60 (.inl 0)), (.inr .int, List.replicate 60 (.inl 0)), (.inr .int, List.replicate 60 (.inl 0)), (.inr .int, List.replicate 60 (.inl 0)), (.inr .boolean, List.replicate 60 (.inl 0)), (.inl 0, [.inr (.inl (some 1)), .inr (.inl (some 8)), .inr (.inl (some 17)), .inr (.inl (some 18)), .inr (.inl (some 19)), .inr (.inl (some 20)), .inr (.inl (some 21)), .inl 0, .inl 0, .inl 0]), (.inr .int, List.replicate 366 (.inl 0)), (.inr .int, List.replicate 366 (.inl 0)), (.inr .int, List.replicate 1098 (.inl 0)), (.inr .int, List.replicate 60 (.inl 0)), (.inr .int, List.replicate 60 (.inl 0)), (.inl 4, [.inr (.inl (some 23)), .inr (.inl (some 24)), .inr (.inl (some 25)), .inr (.inl (some 26)), .inr (.inl (some 27)), .inr (.inl (some 28)), .inr (.inl (some 29)), .inl 0, .inl 0, .inl 0, .inl 0, .inl 0]), (.inr .int, List.replicate 151 (.inl 0)), (.inr .int, List.replicate 151 (.inl 0)), (.inr .int, List.replicate 48 (.inl 0)), (.inr .int, List.replicate 8 (.inl 0)), (.inr .int, List.replicate 150 (.inl 0)), (.inr .int, List.replicate 57 (.inl 0)), (.inr .int, List.replicate 151 (.inl 0)), (.inr (.object "ChoirBook$Tone"), [.inr (.inl (some 31)), .inr (.inl (some 39)), .inr (.inl (some 47)), .inr (.inl (some 55)), .inr (.inl (some 63)), .inr (.inl (some 71)), .inr (.inl (some 79)), .inr (.inl (some 87)), .inr (.inl (some 95))]), (.inl 7, [.inr (.inl (some 32)), .inr (.inl (some 33)), .inr (.inl (some 36)), .inl 0, .inl 0])]
def hs_1 : AH := [(.inr .int, List.replicate 4 (.inl 0)), (.inl 1, [.inr (.inl (some 34)), .inr (.inl (some 35)), .inl 0, .inl 0]), (.inr .int, List.replicate 3 (.inl 0)), (.inr .int, List.replicate 6 (.inl 0)), (.inl 1, [.inr (.inl (some 37)), .inr (.inl (some 38)), .inl 0, .inl 0]), (.inr .int, List.replicate 3 (.inl 0)), (.inr .int, List.replicate 6 (.inl 0)), (.inl 7, [.inr (.inl (some 40)), .inr (.inl (some 41)), .inr (.inl (some 44)), .inl 0, .inl 0]), (.inr .int, List.replicate 4 (.inl 0)), (.inl 1, [.inr (.inl (some 42)), .inr (.inl (some 43)), .inl 0, .inl 0]), (.inr .int, List.replicate 3 (.inl 0)), (.inr .int, List.replicate 6 (.inl 0)), (.inl 1, [.inr (.inl (some 45)), .inr (.inl (some 46)), .inl 0, .inl 0]), (.inr .int, List.replicate 3 (.inl 0)), (.inr .int, List.replicate 6 (.inl 0)), (.inl 7, [.inr (.inl (some 48)), .inr (.inl (some 49)), .inr (.inl (some 52)), .inl 0, .inl 0]), (.inr .int, List.replicate 4 (.inl 0)), (.inl 1, [.inr (.inl (some 50)), .inr (.inl (some 51)), .inl 0, .inl 0]), (.inr .int, List.replicate 3 (.inl 0)), (.inr .int, List.replicate 6 (.inl 0)), (.inl 1, [.inr (.inl (some 53)), .inr (.inl (some 54)), .inl 0, .inl 0]), (.inr .int, List.replicate 3 (.inl 0)), (.inr .int, List.replicate 6 (.inl 0)), (.inl 7, [.inr (.inl (some 56)), .inr (.inl (some 57)), .inr (.inl (some 60)), .inl 0, .inl 0]), (.inr .int, List.replicate 4 (.inl 0)), (.inl 1, [.inr (.inl (some 58)), .inr (.inl (some 59)), .inl 0, .inl 0]), (.inr .int, List.replicate 3 (.inl 0)), (.inr .int, List.replicate 6 (.inl 0)), (.inl 1, [.inr (.inl (some 61)), .inr (.inl (some 62)), .inl 0, .inl 0]), (.inr .int, List.replicate 3 (.inl 0)), (.inr .int, List.replicate 6 (.inl 0)), (.inl 7, [.inr (.inl (some 64)), .inr (.inl (some 65)), .inr (.inl (some 68)), .inl 0, .inl 0])]
def hs_2 : AH := [(.inr .int, List.replicate 4 (.inl 0)), (.inl 1, [.inr (.inl (some 66)), .inr (.inl (some 67)), .inl 0, .inl 0]), (.inr .int, List.replicate 3 (.inl 0)), (.inr .int, List.replicate 6 (.inl 0)), (.inl 1, [.inr (.inl (some 69)), .inr (.inl (some 70)), .inl 0, .inl 0]), (.inr .int, List.replicate 3 (.inl 0)), (.inr .int, List.replicate 6 (.inl 0)), (.inl 7, [.inr (.inl (some 72)), .inr (.inl (some 73)), .inr (.inl (some 76)), .inl 0, .inl 0]), (.inr .int, List.replicate 4 (.inl 0)), (.inl 1, [.inr (.inl (some 74)), .inr (.inl (some 75)), .inl 0, .inl 0]), (.inr .int, List.replicate 3 (.inl 0)), (.inr .int, List.replicate 6 (.inl 0)), (.inl 1, [.inr (.inl (some 77)), .inr (.inl (some 78)), .inl 0, .inl 0]), (.inr .int, List.replicate 3 (.inl 0)), (.inr .int, List.replicate 6 (.inl 0)), (.inl 7, [.inr (.inl (some 80)), .inr (.inl (some 81)), .inr (.inl (some 84)), .inl 0, .inl 0]), (.inr .int, List.replicate 4 (.inl 0)), (.inl 1, [.inr (.inl (some 82)), .inr (.inl (some 83)), .inl 0, .inl 0]), (.inr .int, List.replicate 3 (.inl 0)), (.inr .int, List.replicate 6 (.inl 0)), (.inl 1, [.inr (.inl (some 85)), .inr (.inl (some 86)), .inl 0, .inl 0]), (.inr .int, List.replicate 3 (.inl 0)), (.inr .int, List.replicate 6 (.inl 0)), (.inl 7, [.inr (.inl (some 88)), .inr (.inl (some 89)), .inr (.inl (some 92)), .inl 0, .inl 0]), (.inr .int, List.replicate 4 (.inl 0)), (.inl 1, [.inr (.inl (some 90)), .inr (.inl (some 91)), .inl 0, .inl 0]), (.inr .int, List.replicate 3 (.inl 0)), (.inr .int, List.replicate 6 (.inl 0)), (.inl 1, [.inr (.inl (some 93)), .inr (.inl (some 94)), .inl 0, .inl 0]), (.inr .int, List.replicate 3 (.inl 0)), (.inr .int, List.replicate 6 (.inl 0)), (.inl 7, [.inr (.inl (some 96)), .inr (.inl (some 97)), .inr (.inl (some 100)), .inl 0, .inl 0])]
def hs_3 : AH := [(.inr .int, List.replicate 4 (.inl 0)), (.inl 1, [.inr (.inl (some 98)), .inr (.inl (some 99)), .inl 0, .inl 0]), (.inr .int, List.replicate 3 (.inl 0)), (.inr .int, List.replicate 6 (.inl 0)), (.inl 1, [.inr (.inl (some 101)), .inr (.inl (some 102)), .inl 0, .inl 0]), (.inr .int, List.replicate 3 (.inl 0)), (.inr .int, List.replicate 6 (.inl 0)), (.inr (.object "ChoirBook$Verse"), [.inr (.inl (some 104)), .inr (.inl (some 106)), .inr (.inl (some 108)), .inr (.inl (some 110)), .inr (.inl (some 112)), .inr (.inl (some 114)), .inr (.inl (some 116)), .inr (.inl (some 118)), .inr (.inl (some 120)), .inr (.inl (some 122)), .inr (.inl (some 124)), .inr (.inl (some 126)), .inr (.inl (some 128)), .inr (.inl (some 130)), .inr (.inl (some 132)), .inr (.inl (some 134)), .inr (.inl (some 136)), .inr (.inl (some 138)), .inr (.inl (some 140)), .inr (.inl (some 142))]), (.inl 8, [.inr (.inl (some 105)), .inl 0, .inl 0]), (.inr .boolean, List.replicate 60 (.inl 0)), (.inl 8, [.inr (.inl (some 107)), .inl 0, .inl 0]), (.inr .boolean, List.replicate 60 (.inl 0)), (.inl 8, [.inr (.inl (some 109)), .inl 0, .inl 0]), (.inr .boolean, List.replicate 60 (.inl 0)), (.inl 8, [.inr (.inl (some 111)), .inl 0, .inl 0]), (.inr .boolean, List.replicate 60 (.inl 0)), (.inl 8, [.inr (.inl (some 113)), .inl 0, .inl 0]), (.inr .boolean, List.replicate 60 (.inl 0)), (.inl 8, [.inr (.inl (some 115)), .inl 0, .inl 0]), (.inr .boolean, List.replicate 60 (.inl 0)), (.inl 8, [.inr (.inl (some 117)), .inl 0, .inl 0]), (.inr .boolean, List.replicate 60 (.inl 0)), (.inl 8, [.inr (.inl (some 119)), .inl 0, .inl 0]), (.inr .boolean, List.replicate 60 (.inl 0)), (.inl 8, [.inr (.inl (some 121)), .inl 0, .inl 0]), (.inr .boolean, List.replicate 60 (.inl 0)), (.inl 8, [.inr (.inl (some 123)), .inl 0, .inl 0]), (.inr .boolean, List.replicate 60 (.inl 0)), (.inl 8, [.inr (.inl (some 125)), .inl 0, .inl 0]), (.inr .boolean, List.replicate 60 (.inl 0)), (.inl 8, [.inr (.inl (some 127)), .inl 0, .inl 0]), (.inr .boolean, List.replicate 60 (.inl 0))]
def hs_4 : AH := [(.inl 8, [.inr (.inl (some 129)), .inl 0, .inl 0]), (.inr .boolean, List.replicate 60 (.inl 0)), (.inl 8, [.inr (.inl (some 131)), .inl 0, .inl 0]), (.inr .boolean, List.replicate 60 (.inl 0)), (.inl 8, [.inr (.inl (some 133)), .inl 0, .inl 0]), (.inr .boolean, List.replicate 60 (.inl 0)), (.inl 8, [.inr (.inl (some 135)), .inl 0, .inl 0]), (.inr .boolean, List.replicate 60 (.inl 0)), (.inl 8, [.inr (.inl (some 137)), .inl 0, .inl 0]), (.inr .boolean, List.replicate 60 (.inl 0)), (.inl 8, [.inr (.inl (some 139)), .inl 0, .inl 0]), (.inr .boolean, List.replicate 60 (.inl 0)), (.inl 8, [.inr (.inl (some 141)), .inl 0, .inl 0]), (.inr .boolean, List.replicate 60 (.inl 0)), (.inl 8, [.inr (.inl (some 143)), .inl 0, .inl 0]), (.inr .boolean, List.replicate 60 (.inl 0)), (.inl 2, [.inr (.inl (some 145)), .inr (.inl (some 146)), .inr (.inl (some 147)), .inr (.inl (some 148)), .inr (.inl (some 149)), .inl 0, .inl 0]), (.inr .int, List.replicate 24 (.inl 0)), (.inr .int, List.replicate 60 (.inl 0)), (.inr .int, List.replicate 60 (.inl 0)), (.inr .int, List.replicate 60 (.inl 0)), (.inr .int, List.replicate 60 (.inl 0)), (.inl 5, [.inr (.inl (some 151)), .inr (.inl (some 152)), .inr (.inl (some 153)), .inr (.inl (some 154)), .inl 0]), (.inr .int, List.replicate 660 (.inl 0)), (.inr .int, List.replicate 60 (.inl 0)), (.inr .int, List.replicate 72 (.inl 0)), (.inr .int, List.replicate 72 (.inl 0)), (.inl 10, [.inl 0, .inl 0, .inr (.inl (some 156)), .inr (.inl (some 157)), .inr (.inl (some 158)), .inr (.inl (some 159)), .inr (.inl (some 160)), .inr (.inl (some 161)), .inr (.inl (some 162)), .inr (.inl (some 163)), .inr (.inl (some 164)), .inr (.inl (some 165)), .inr (.inl (some 166)), .inr (.inl (some 167)), .inr (.inl (some 168)), .inl 0, .inr (.inl (some 169)), .inr (.inl (some 170)), .inr (.inl (some 171)), .inr (.inl (some 172)), .inr (.inl (some 173)), .inr (.inl (some 174)), .inl 0, .inr (.inl (some 175)), .inr (.inl (some 176)), .inr (.inl (some 177)), .inr (.inl (some 178)), .inr (.inl (some 179)), .inl 0, .inl 0, .inl 0, .inr (.inl (some 180)), .inr (.inl (some 181)), .inr (.inl (some 182)), .inr (.inl (some 183)), .inr (.inl (some 184)), .inl 0, .inl 0, .inl 0, .inr (.inl (some 185)), .inr (.inl (some 186)), .inr (.inl (some 187)), .inl 0, .inr (.inl (some 188)), .inr (.inl (some 189)), .inr (.inl (some 190)), .inr (.inl (some 191)), .inr (.inl (some 192)), .inr (.inl (some 193)), .inr (.inl (some 194)), .inr (.inl (some 195)), .inr (.inl (some 196)), .inl 0, .inl 0, .inr (.inl (some 197)), .inr (.inl (some 198)), .inr (.inl (some 199)), .inr (.inl (some 200)), .inr (.inl (some 201)), .inl 0, .inr (.inl (some 202)), .inr (.inl (some 203)), .inr (.inl (some 204)), .inr (.inl (some 205))]), (.inr .boolean, List.replicate 10 (.inl 0)), (.inr .int, List.replicate 10 (.inl 0)), (.inr .int, List.replicate 10 (.inl 0)), (.inr .int, List.replicate 10 (.inl 0))]
def hs_5 : AH := [(.inr .int, List.replicate 10 (.inl 0)), (.inr .int, List.replicate 10 (.inl 0)), (.inr .int, List.replicate 60 (.inl 0)), (.inr .int, List.replicate 60 (.inl 0)), (.inr .int, List.replicate 60 (.inl 0)), (.inr .int, List.replicate 60 (.inl 0)), (.inr .int, List.replicate 60 (.inl 0)), (.inr .int, List.replicate 60 (.inl 0)), (.inr .boolean, List.replicate 60 (.inl 0)), (.inr .int, List.replicate 60 (.inl 0)), (.inr .int, List.replicate 60 (.inl 0)), (.inr .int, List.replicate 366 (.inl 0)), (.inr .int, List.replicate 366 (.inl 0)), (.inr .int, List.replicate 366 (.inl 0)), (.inr .int, List.replicate 366 (.inl 0)), (.inr .int, List.replicate 200 (.inl 0)), (.inr .int, List.replicate 200 (.inl 0)), (.inr .int, List.replicate 200 (.inl 0)), (.inr .int, List.replicate 200 (.inl 0)), (.inr .int, List.replicate 200 (.inl 0)), (.inr .int, List.replicate 3 (.inl 0)), (.inr .int, List.replicate 150 (.inl 0)), (.inr .int, List.replicate 150 (.inl 0)), (.inr .int, List.replicate 8 (.inl 0)), (.inr .int, List.replicate 48 (.inl 0)), (.inr .int, List.replicate 56 (.inl 0)), (.inr .int, List.replicate 56 (.inl 0)), (.inr .int, List.replicate 56 (.inl 0)), (.inr .int, List.replicate 310 (.inl 0)), (.inr .int, List.replicate 9 (.inl 0)), (.inr .int, List.replicate 27 (.inl 0)), (.inr .int, List.replicate 108 (.inl 0))]
def hs_6 : AH := [(.inr .boolean, List.replicate 18 (.inl 0)), (.inr .int, List.replicate 108 (.inl 0)), (.inr .int, List.replicate 20 (.inl 0)), (.inr .boolean, List.replicate 1200 (.inl 0)), (.inr .int, List.replicate 20 (.inl 0)), (.inr .int, List.replicate 24 (.inl 0)), (.inr .int, List.replicate 60 (.inl 0)), (.inr .int, List.replicate 60 (.inl 0)), (.inr .int, List.replicate 60 (.inl 0)), (.inr .int, List.replicate 60 (.inl 0)), (.inr .int, List.replicate 180 (.inl 0)), (.inr .int, List.replicate 660 (.inl 0)), (.inr .int, List.replicate 72 (.inl 0)), (.inr .int, List.replicate 72 (.inl 0))]
def hs : AH := hs_0 ++ (hs_1 ++ (hs_2 ++ (hs_3 ++ (hs_4 ++ (hs_5 ++ (hs_6))))))
theorem hc0 : hs[0]? = some (.inl 9, [.inr (.inl (some 1)), .inr (.inl (some 8)), .inr (.inl (some 16)), .inr (.inl (some 22)), .inr (.inl (some 30)), .inr (.inl (some 103)), .inr (.inl (some 144)), .inr (.inl (some 150))]) := rfl
theorem hc1 : hs[1]? = some (.inl 6, [.inr (.inl (some 2)), .inr (.inl (some 3)), .inr (.inl (some 4)), .inr (.inl (some 5)), .inr (.inl (some 6)), .inr (.inl (some 7)), .inl 0]) := rfl
theorem hc2 : hs[2]? = some (.inr .boolean, List.replicate 10 (.inl 0)) := rfl
theorem hc3 : hs[3]? = some (.inr .int, List.replicate 10 (.inl 0)) := rfl
theorem hc4 : hs[4]? = some (.inr .int, List.replicate 10 (.inl 0)) := rfl
theorem hc5 : hs[5]? = some (.inr .int, List.replicate 10 (.inl 0)) := rfl
theorem hc6 : hs[6]? = some (.inr .int, List.replicate 10 (.inl 0)) := rfl
theorem hc7 : hs[7]? = some (.inr .int, List.replicate 10 (.inl 0)) := rfl
theorem hc8 : hs[8]? = some (.inl 3, [.inr (.inl (some 9)), .inr (.inl (some 10)), .inr (.inl (some 11)), .inr (.inl (some 12)), .inr (.inl (some 13)), .inr (.inl (some 14)), .inr (.inl (some 15)), .inl 0]) := rfl
theorem hc9 : hs[9]? = some (.inr .int, List.replicate 60 (.inl 0)) := rfl
theorem hc10 : hs[10]? = some (.inr .int, List.replicate 60 (.inl 0)) := rfl
theorem hc11 : hs[11]? = some (.inr .int, List.replicate 60 (.inl 0)) := rfl
theorem hc12 : hs[12]? = some (.inr .int, List.replicate 60 (.inl 0)) := rfl
theorem hc13 : hs[13]? = some (.inr .int, List.replicate 60 (.inl 0)) := rfl
theorem hc14 : hs[14]? = some (.inr .int, List.replicate 60 (.inl 0)) := rfl
theorem hc15 : hs[15]? = some (.inr .boolean, List.replicate 60 (.inl 0)) := rfl
theorem hc16 : hs[16]? = some (.inl 0, [.inr (.inl (some 1)), .inr (.inl (some 8)), .inr (.inl (some 17)), .inr (.inl (some 18)), .inr (.inl (some 19)), .inr (.inl (some 20)), .inr (.inl (some 21)), .inl 0, .inl 0, .inl 0]) := rfl
theorem hc17 : hs[17]? = some (.inr .int, List.replicate 366 (.inl 0)) := rfl
theorem hc18 : hs[18]? = some (.inr .int, List.replicate 366 (.inl 0)) := rfl
theorem hc19 : hs[19]? = some (.inr .int, List.replicate 1098 (.inl 0)) := rfl
theorem hc20 : hs[20]? = some (.inr .int, List.replicate 60 (.inl 0)) := rfl
theorem hc21 : hs[21]? = some (.inr .int, List.replicate 60 (.inl 0)) := rfl
theorem hc22 : hs[22]? = some (.inl 4, [.inr (.inl (some 23)), .inr (.inl (some 24)), .inr (.inl (some 25)), .inr (.inl (some 26)), .inr (.inl (some 27)), .inr (.inl (some 28)), .inr (.inl (some 29)), .inl 0, .inl 0, .inl 0, .inl 0, .inl 0]) := rfl
theorem hc23 : hs[23]? = some (.inr .int, List.replicate 151 (.inl 0)) := rfl
theorem hc24 : hs[24]? = some (.inr .int, List.replicate 151 (.inl 0)) := rfl
theorem hc25 : hs[25]? = some (.inr .int, List.replicate 48 (.inl 0)) := rfl
theorem hc26 : hs[26]? = some (.inr .int, List.replicate 8 (.inl 0)) := rfl
theorem hc27 : hs[27]? = some (.inr .int, List.replicate 150 (.inl 0)) := rfl
theorem hc28 : hs[28]? = some (.inr .int, List.replicate 57 (.inl 0)) := rfl
theorem hc29 : hs[29]? = some (.inr .int, List.replicate 151 (.inl 0)) := rfl
theorem hc30 : hs[30]? = some (.inr (.object "ChoirBook$Tone"), [.inr (.inl (some 31)), .inr (.inl (some 39)), .inr (.inl (some 47)), .inr (.inl (some 55)), .inr (.inl (some 63)), .inr (.inl (some 71)), .inr (.inl (some 79)), .inr (.inl (some 87)), .inr (.inl (some 95))]) := rfl
theorem hc31 : hs[31]? = some (.inl 7, [.inr (.inl (some 32)), .inr (.inl (some 33)), .inr (.inl (some 36)), .inl 0, .inl 0]) := rfl
theorem hc32 : hs[32]? = some (.inr .int, List.replicate 4 (.inl 0)) := rfl
theorem hc33 : hs[33]? = some (.inl 1, [.inr (.inl (some 34)), .inr (.inl (some 35)), .inl 0, .inl 0]) := rfl
theorem hc34 : hs[34]? = some (.inr .int, List.replicate 3 (.inl 0)) := rfl
theorem hc35 : hs[35]? = some (.inr .int, List.replicate 6 (.inl 0)) := rfl
theorem hc36 : hs[36]? = some (.inl 1, [.inr (.inl (some 37)), .inr (.inl (some 38)), .inl 0, .inl 0]) := rfl
theorem hc37 : hs[37]? = some (.inr .int, List.replicate 3 (.inl 0)) := rfl
theorem hc38 : hs[38]? = some (.inr .int, List.replicate 6 (.inl 0)) := rfl
theorem hc39 : hs[39]? = some (.inl 7, [.inr (.inl (some 40)), .inr (.inl (some 41)), .inr (.inl (some 44)), .inl 0, .inl 0]) := rfl
theorem hc40 : hs[40]? = some (.inr .int, List.replicate 4 (.inl 0)) := rfl
theorem hc41 : hs[41]? = some (.inl 1, [.inr (.inl (some 42)), .inr (.inl (some 43)), .inl 0, .inl 0]) := rfl
theorem hc42 : hs[42]? = some (.inr .int, List.replicate 3 (.inl 0)) := rfl
theorem hc43 : hs[43]? = some (.inr .int, List.replicate 6 (.inl 0)) := rfl
theorem hc44 : hs[44]? = some (.inl 1, [.inr (.inl (some 45)), .inr (.inl (some 46)), .inl 0, .inl 0]) := rfl
theorem hc45 : hs[45]? = some (.inr .int, List.replicate 3 (.inl 0)) := rfl
theorem hc46 : hs[46]? = some (.inr .int, List.replicate 6 (.inl 0)) := rfl
theorem hc47 : hs[47]? = some (.inl 7, [.inr (.inl (some 48)), .inr (.inl (some 49)), .inr (.inl (some 52)), .inl 0, .inl 0]) := rfl
theorem hc48 : hs[48]? = some (.inr .int, List.replicate 4 (.inl 0)) := rfl
theorem hc49 : hs[49]? = some (.inl 1, [.inr (.inl (some 50)), .inr (.inl (some 51)), .inl 0, .inl 0]) := rfl
theorem hc50 : hs[50]? = some (.inr .int, List.replicate 3 (.inl 0)) := rfl
theorem hc51 : hs[51]? = some (.inr .int, List.replicate 6 (.inl 0)) := rfl
theorem hc52 : hs[52]? = some (.inl 1, [.inr (.inl (some 53)), .inr (.inl (some 54)), .inl 0, .inl 0]) := rfl
theorem hc53 : hs[53]? = some (.inr .int, List.replicate 3 (.inl 0)) := rfl
theorem hc54 : hs[54]? = some (.inr .int, List.replicate 6 (.inl 0)) := rfl
theorem hc55 : hs[55]? = some (.inl 7, [.inr (.inl (some 56)), .inr (.inl (some 57)), .inr (.inl (some 60)), .inl 0, .inl 0]) := rfl
theorem hc56 : hs[56]? = some (.inr .int, List.replicate 4 (.inl 0)) := rfl
theorem hc57 : hs[57]? = some (.inl 1, [.inr (.inl (some 58)), .inr (.inl (some 59)), .inl 0, .inl 0]) := rfl
theorem hc58 : hs[58]? = some (.inr .int, List.replicate 3 (.inl 0)) := rfl
theorem hc59 : hs[59]? = some (.inr .int, List.replicate 6 (.inl 0)) := rfl
theorem hc60 : hs[60]? = some (.inl 1, [.inr (.inl (some 61)), .inr (.inl (some 62)), .inl 0, .inl 0]) := rfl
theorem hc61 : hs[61]? = some (.inr .int, List.replicate 3 (.inl 0)) := rfl
theorem hc62 : hs[62]? = some (.inr .int, List.replicate 6 (.inl 0)) := rfl
theorem hc63 : hs[63]? = some (.inl 7, [.inr (.inl (some 64)), .inr (.inl (some 65)), .inr (.inl (some 68)), .inl 0, .inl 0]) := rfl
theorem hc64 : hs[64]? = some (.inr .int, List.replicate 4 (.inl 0)) := rfl
theorem hc65 : hs[65]? = some (.inl 1, [.inr (.inl (some 66)), .inr (.inl (some 67)), .inl 0, .inl 0]) := rfl
theorem hc66 : hs[66]? = some (.inr .int, List.replicate 3 (.inl 0)) := rfl
theorem hc67 : hs[67]? = some (.inr .int, List.replicate 6 (.inl 0)) := rfl
theorem hc68 : hs[68]? = some (.inl 1, [.inr (.inl (some 69)), .inr (.inl (some 70)), .inl 0, .inl 0]) := rfl
theorem hc69 : hs[69]? = some (.inr .int, List.replicate 3 (.inl 0)) := rfl
theorem hc70 : hs[70]? = some (.inr .int, List.replicate 6 (.inl 0)) := rfl
theorem hc71 : hs[71]? = some (.inl 7, [.inr (.inl (some 72)), .inr (.inl (some 73)), .inr (.inl (some 76)), .inl 0, .inl 0]) := rfl
theorem hc72 : hs[72]? = some (.inr .int, List.replicate 4 (.inl 0)) := rfl
theorem hc73 : hs[73]? = some (.inl 1, [.inr (.inl (some 74)), .inr (.inl (some 75)), .inl 0, .inl 0]) := rfl
theorem hc74 : hs[74]? = some (.inr .int, List.replicate 3 (.inl 0)) := rfl
theorem hc75 : hs[75]? = some (.inr .int, List.replicate 6 (.inl 0)) := rfl
theorem hc76 : hs[76]? = some (.inl 1, [.inr (.inl (some 77)), .inr (.inl (some 78)), .inl 0, .inl 0]) := rfl
theorem hc77 : hs[77]? = some (.inr .int, List.replicate 3 (.inl 0)) := rfl
theorem hc78 : hs[78]? = some (.inr .int, List.replicate 6 (.inl 0)) := rfl
theorem hc79 : hs[79]? = some (.inl 7, [.inr (.inl (some 80)), .inr (.inl (some 81)), .inr (.inl (some 84)), .inl 0, .inl 0]) := rfl
theorem hc80 : hs[80]? = some (.inr .int, List.replicate 4 (.inl 0)) := rfl
theorem hc81 : hs[81]? = some (.inl 1, [.inr (.inl (some 82)), .inr (.inl (some 83)), .inl 0, .inl 0]) := rfl
theorem hc82 : hs[82]? = some (.inr .int, List.replicate 3 (.inl 0)) := rfl
theorem hc83 : hs[83]? = some (.inr .int, List.replicate 6 (.inl 0)) := rfl
theorem hc84 : hs[84]? = some (.inl 1, [.inr (.inl (some 85)), .inr (.inl (some 86)), .inl 0, .inl 0]) := rfl
theorem hc85 : hs[85]? = some (.inr .int, List.replicate 3 (.inl 0)) := rfl
theorem hc86 : hs[86]? = some (.inr .int, List.replicate 6 (.inl 0)) := rfl
theorem hc87 : hs[87]? = some (.inl 7, [.inr (.inl (some 88)), .inr (.inl (some 89)), .inr (.inl (some 92)), .inl 0, .inl 0]) := rfl
theorem hc88 : hs[88]? = some (.inr .int, List.replicate 4 (.inl 0)) := rfl
theorem hc89 : hs[89]? = some (.inl 1, [.inr (.inl (some 90)), .inr (.inl (some 91)), .inl 0, .inl 0]) := rfl
theorem hc90 : hs[90]? = some (.inr .int, List.replicate 3 (.inl 0)) := rfl
theorem hc91 : hs[91]? = some (.inr .int, List.replicate 6 (.inl 0)) := rfl
theorem hc92 : hs[92]? = some (.inl 1, [.inr (.inl (some 93)), .inr (.inl (some 94)), .inl 0, .inl 0]) := rfl
theorem hc93 : hs[93]? = some (.inr .int, List.replicate 3 (.inl 0)) := rfl
theorem hc94 : hs[94]? = some (.inr .int, List.replicate 6 (.inl 0)) := rfl
theorem hc95 : hs[95]? = some (.inl 7, [.inr (.inl (some 96)), .inr (.inl (some 97)), .inr (.inl (some 100)), .inl 0, .inl 0]) := rfl
theorem hc96 : hs[96]? = some (.inr .int, List.replicate 4 (.inl 0)) := rfl
theorem hc97 : hs[97]? = some (.inl 1, [.inr (.inl (some 98)), .inr (.inl (some 99)), .inl 0, .inl 0]) := rfl
theorem hc98 : hs[98]? = some (.inr .int, List.replicate 3 (.inl 0)) := rfl
theorem hc99 : hs[99]? = some (.inr .int, List.replicate 6 (.inl 0)) := rfl
theorem hc100 : hs[100]? = some (.inl 1, [.inr (.inl (some 101)), .inr (.inl (some 102)), .inl 0, .inl 0]) := rfl
theorem hc101 : hs[101]? = some (.inr .int, List.replicate 3 (.inl 0)) := rfl
theorem hc102 : hs[102]? = some (.inr .int, List.replicate 6 (.inl 0)) := rfl
theorem hc103 : hs[103]? = some (.inr (.object "ChoirBook$Verse"), [.inr (.inl (some 104)), .inr (.inl (some 106)), .inr (.inl (some 108)), .inr (.inl (some 110)), .inr (.inl (some 112)), .inr (.inl (some 114)), .inr (.inl (some 116)), .inr (.inl (some 118)), .inr (.inl (some 120)), .inr (.inl (some 122)), .inr (.inl (some 124)), .inr (.inl (some 126)), .inr (.inl (some 128)), .inr (.inl (some 130)), .inr (.inl (some 132)), .inr (.inl (some 134)), .inr (.inl (some 136)), .inr (.inl (some 138)), .inr (.inl (some 140)), .inr (.inl (some 142))]) := rfl
theorem hc104 : hs[104]? = some (.inl 8, [.inr (.inl (some 105)), .inl 0, .inl 0]) := rfl
theorem hc105 : hs[105]? = some (.inr .boolean, List.replicate 60 (.inl 0)) := rfl
theorem hc106 : hs[106]? = some (.inl 8, [.inr (.inl (some 107)), .inl 0, .inl 0]) := rfl
theorem hc107 : hs[107]? = some (.inr .boolean, List.replicate 60 (.inl 0)) := rfl
theorem hc108 : hs[108]? = some (.inl 8, [.inr (.inl (some 109)), .inl 0, .inl 0]) := rfl
theorem hc109 : hs[109]? = some (.inr .boolean, List.replicate 60 (.inl 0)) := rfl
theorem hc110 : hs[110]? = some (.inl 8, [.inr (.inl (some 111)), .inl 0, .inl 0]) := rfl
theorem hc111 : hs[111]? = some (.inr .boolean, List.replicate 60 (.inl 0)) := rfl
theorem hc112 : hs[112]? = some (.inl 8, [.inr (.inl (some 113)), .inl 0, .inl 0]) := rfl
theorem hc113 : hs[113]? = some (.inr .boolean, List.replicate 60 (.inl 0)) := rfl
theorem hc114 : hs[114]? = some (.inl 8, [.inr (.inl (some 115)), .inl 0, .inl 0]) := rfl
theorem hc115 : hs[115]? = some (.inr .boolean, List.replicate 60 (.inl 0)) := rfl
theorem hc116 : hs[116]? = some (.inl 8, [.inr (.inl (some 117)), .inl 0, .inl 0]) := rfl
theorem hc117 : hs[117]? = some (.inr .boolean, List.replicate 60 (.inl 0)) := rfl
theorem hc118 : hs[118]? = some (.inl 8, [.inr (.inl (some 119)), .inl 0, .inl 0]) := rfl
theorem hc119 : hs[119]? = some (.inr .boolean, List.replicate 60 (.inl 0)) := rfl
theorem hc120 : hs[120]? = some (.inl 8, [.inr (.inl (some 121)), .inl 0, .inl 0]) := rfl
theorem hc121 : hs[121]? = some (.inr .boolean, List.replicate 60 (.inl 0)) := rfl
theorem hc122 : hs[122]? = some (.inl 8, [.inr (.inl (some 123)), .inl 0, .inl 0]) := rfl
theorem hc123 : hs[123]? = some (.inr .boolean, List.replicate 60 (.inl 0)) := rfl
theorem hc124 : hs[124]? = some (.inl 8, [.inr (.inl (some 125)), .inl 0, .inl 0]) := rfl
theorem hc125 : hs[125]? = some (.inr .boolean, List.replicate 60 (.inl 0)) := rfl
theorem hc126 : hs[126]? = some (.inl 8, [.inr (.inl (some 127)), .inl 0, .inl 0]) := rfl
theorem hc127 : hs[127]? = some (.inr .boolean, List.replicate 60 (.inl 0)) := rfl
theorem hc128 : hs[128]? = some (.inl 8, [.inr (.inl (some 129)), .inl 0, .inl 0]) := rfl
theorem hc129 : hs[129]? = some (.inr .boolean, List.replicate 60 (.inl 0)) := rfl
theorem hc130 : hs[130]? = some (.inl 8, [.inr (.inl (some 131)), .inl 0, .inl 0]) := rfl
theorem hc131 : hs[131]? = some (.inr .boolean, List.replicate 60 (.inl 0)) := rfl
theorem hc132 : hs[132]? = some (.inl 8, [.inr (.inl (some 133)), .inl 0, .inl 0]) := rfl
theorem hc133 : hs[133]? = some (.inr .boolean, List.replicate 60 (.inl 0)) := rfl
theorem hc134 : hs[134]? = some (.inl 8, [.inr (.inl (some 135)), .inl 0, .inl 0]) := rfl
theorem hc135 : hs[135]? = some (.inr .boolean, List.replicate 60 (.inl 0)) := rfl
theorem hc136 : hs[136]? = some (.inl 8, [.inr (.inl (some 137)), .inl 0, .inl 0]) := rfl
theorem hc137 : hs[137]? = some (.inr .boolean, List.replicate 60 (.inl 0)) := rfl
theorem hc138 : hs[138]? = some (.inl 8, [.inr (.inl (some 139)), .inl 0, .inl 0]) := rfl
theorem hc139 : hs[139]? = some (.inr .boolean, List.replicate 60 (.inl 0)) := rfl
theorem hc140 : hs[140]? = some (.inl 8, [.inr (.inl (some 141)), .inl 0, .inl 0]) := rfl
theorem hc141 : hs[141]? = some (.inr .boolean, List.replicate 60 (.inl 0)) := rfl
theorem hc142 : hs[142]? = some (.inl 8, [.inr (.inl (some 143)), .inl 0, .inl 0]) := rfl
theorem hc143 : hs[143]? = some (.inr .boolean, List.replicate 60 (.inl 0)) := rfl
theorem hc144 : hs[144]? = some (.inl 2, [.inr (.inl (some 145)), .inr (.inl (some 146)), .inr (.inl (some 147)), .inr (.inl (some 148)), .inr (.inl (some 149)), .inl 0, .inl 0]) := rfl
theorem hc145 : hs[145]? = some (.inr .int, List.replicate 24 (.inl 0)) := rfl
theorem hc146 : hs[146]? = some (.inr .int, List.replicate 60 (.inl 0)) := rfl
theorem hc147 : hs[147]? = some (.inr .int, List.replicate 60 (.inl 0)) := rfl
theorem hc148 : hs[148]? = some (.inr .int, List.replicate 60 (.inl 0)) := rfl
theorem hc149 : hs[149]? = some (.inr .int, List.replicate 60 (.inl 0)) := rfl
theorem hc150 : hs[150]? = some (.inl 5, [.inr (.inl (some 151)), .inr (.inl (some 152)), .inr (.inl (some 153)), .inr (.inl (some 154)), .inl 0]) := rfl
theorem hc151 : hs[151]? = some (.inr .int, List.replicate 660 (.inl 0)) := rfl
theorem hc152 : hs[152]? = some (.inr .int, List.replicate 60 (.inl 0)) := rfl
theorem hc153 : hs[153]? = some (.inr .int, List.replicate 72 (.inl 0)) := rfl
theorem hc154 : hs[154]? = some (.inr .int, List.replicate 72 (.inl 0)) := rfl
theorem hc155 : hs[155]? = some (.inl 10, [.inl 0, .inl 0, .inr (.inl (some 156)), .inr (.inl (some 157)), .inr (.inl (some 158)), .inr (.inl (some 159)), .inr (.inl (some 160)), .inr (.inl (some 161)), .inr (.inl (some 162)), .inr (.inl (some 163)), .inr (.inl (some 164)), .inr (.inl (some 165)), .inr (.inl (some 166)), .inr (.inl (some 167)), .inr (.inl (some 168)), .inl 0, .inr (.inl (some 169)), .inr (.inl (some 170)), .inr (.inl (some 171)), .inr (.inl (some 172)), .inr (.inl (some 173)), .inr (.inl (some 174)), .inl 0, .inr (.inl (some 175)), .inr (.inl (some 176)), .inr (.inl (some 177)), .inr (.inl (some 178)), .inr (.inl (some 179)), .inl 0, .inl 0, .inl 0, .inr (.inl (some 180)), .inr (.inl (some 181)), .inr (.inl (some 182)), .inr (.inl (some 183)), .inr (.inl (some 184)), .inl 0, .inl 0, .inl 0, .inr (.inl (some 185)), .inr (.inl (some 186)), .inr (.inl (some 187)), .inl 0, .inr (.inl (some 188)), .inr (.inl (some 189)), .inr (.inl (some 190)), .inr (.inl (some 191)), .inr (.inl (some 192)), .inr (.inl (some 193)), .inr (.inl (some 194)), .inr (.inl (some 195)), .inr (.inl (some 196)), .inl 0, .inl 0, .inr (.inl (some 197)), .inr (.inl (some 198)), .inr (.inl (some 199)), .inr (.inl (some 200)), .inr (.inl (some 201)), .inl 0, .inr (.inl (some 202)), .inr (.inl (some 203)), .inr (.inl (some 204)), .inr (.inl (some 205))]) := rfl
theorem hc156 : hs[156]? = some (.inr .boolean, List.replicate 10 (.inl 0)) := rfl
theorem hc157 : hs[157]? = some (.inr .int, List.replicate 10 (.inl 0)) := rfl
theorem hc158 : hs[158]? = some (.inr .int, List.replicate 10 (.inl 0)) := rfl
theorem hc159 : hs[159]? = some (.inr .int, List.replicate 10 (.inl 0)) := rfl
theorem hc160 : hs[160]? = some (.inr .int, List.replicate 10 (.inl 0)) := rfl
theorem hc161 : hs[161]? = some (.inr .int, List.replicate 10 (.inl 0)) := rfl
theorem hc162 : hs[162]? = some (.inr .int, List.replicate 60 (.inl 0)) := rfl
theorem hc163 : hs[163]? = some (.inr .int, List.replicate 60 (.inl 0)) := rfl
theorem hc164 : hs[164]? = some (.inr .int, List.replicate 60 (.inl 0)) := rfl
theorem hc165 : hs[165]? = some (.inr .int, List.replicate 60 (.inl 0)) := rfl
theorem hc166 : hs[166]? = some (.inr .int, List.replicate 60 (.inl 0)) := rfl
theorem hc167 : hs[167]? = some (.inr .int, List.replicate 60 (.inl 0)) := rfl
theorem hc168 : hs[168]? = some (.inr .boolean, List.replicate 60 (.inl 0)) := rfl
theorem hc169 : hs[169]? = some (.inr .int, List.replicate 60 (.inl 0)) := rfl
theorem hc170 : hs[170]? = some (.inr .int, List.replicate 60 (.inl 0)) := rfl
theorem hc171 : hs[171]? = some (.inr .int, List.replicate 366 (.inl 0)) := rfl
theorem hc172 : hs[172]? = some (.inr .int, List.replicate 366 (.inl 0)) := rfl
theorem hc173 : hs[173]? = some (.inr .int, List.replicate 366 (.inl 0)) := rfl
theorem hc174 : hs[174]? = some (.inr .int, List.replicate 366 (.inl 0)) := rfl
theorem hc175 : hs[175]? = some (.inr .int, List.replicate 200 (.inl 0)) := rfl
theorem hc176 : hs[176]? = some (.inr .int, List.replicate 200 (.inl 0)) := rfl
theorem hc177 : hs[177]? = some (.inr .int, List.replicate 200 (.inl 0)) := rfl
theorem hc178 : hs[178]? = some (.inr .int, List.replicate 200 (.inl 0)) := rfl
theorem hc179 : hs[179]? = some (.inr .int, List.replicate 200 (.inl 0)) := rfl
theorem hc180 : hs[180]? = some (.inr .int, List.replicate 3 (.inl 0)) := rfl
theorem hc181 : hs[181]? = some (.inr .int, List.replicate 150 (.inl 0)) := rfl
theorem hc182 : hs[182]? = some (.inr .int, List.replicate 150 (.inl 0)) := rfl
theorem hc183 : hs[183]? = some (.inr .int, List.replicate 8 (.inl 0)) := rfl
theorem hc184 : hs[184]? = some (.inr .int, List.replicate 48 (.inl 0)) := rfl
theorem hc185 : hs[185]? = some (.inr .int, List.replicate 56 (.inl 0)) := rfl
theorem hc186 : hs[186]? = some (.inr .int, List.replicate 56 (.inl 0)) := rfl
theorem hc187 : hs[187]? = some (.inr .int, List.replicate 56 (.inl 0)) := rfl
theorem hc188 : hs[188]? = some (.inr .int, List.replicate 310 (.inl 0)) := rfl
theorem hc189 : hs[189]? = some (.inr .int, List.replicate 9 (.inl 0)) := rfl
theorem hc190 : hs[190]? = some (.inr .int, List.replicate 27 (.inl 0)) := rfl
theorem hc191 : hs[191]? = some (.inr .int, List.replicate 108 (.inl 0)) := rfl
theorem hc192 : hs[192]? = some (.inr .boolean, List.replicate 18 (.inl 0)) := rfl
theorem hc193 : hs[193]? = some (.inr .int, List.replicate 108 (.inl 0)) := rfl
theorem hc194 : hs[194]? = some (.inr .int, List.replicate 20 (.inl 0)) := rfl
theorem hc195 : hs[195]? = some (.inr .boolean, List.replicate 1200 (.inl 0)) := rfl
theorem hc196 : hs[196]? = some (.inr .int, List.replicate 20 (.inl 0)) := rfl
theorem hc197 : hs[197]? = some (.inr .int, List.replicate 24 (.inl 0)) := rfl
theorem hc198 : hs[198]? = some (.inr .int, List.replicate 60 (.inl 0)) := rfl
theorem hc199 : hs[199]? = some (.inr .int, List.replicate 60 (.inl 0)) := rfl
theorem hc200 : hs[200]? = some (.inr .int, List.replicate 60 (.inl 0)) := rfl
theorem hc201 : hs[201]? = some (.inr .int, List.replicate 60 (.inl 0)) := rfl
theorem hc202 : hs[202]? = some (.inr .int, List.replicate 180 (.inl 0)) := rfl
theorem hc203 : hs[203]? = some (.inr .int, List.replicate 660 (.inl 0)) := rfl
theorem hc204 : hs[204]? = some (.inr .int, List.replicate 72 (.inl 0)) := rfl
theorem hc205 : hs[205]? = some (.inr .int, List.replicate 72 (.inl 0)) := rfl
end
section
/-- numbers by cell and place -/
abbrev Wd : Type := Nat → Nat → Int32
def mkv (w : Nat → Int32) (j : Nat) (v : AV) : AV := match v with
  | .inl _ => .inl (w j)
  | r => r
def mkc (w : Wd) (c : Nat) (cell : AC) : AC := (cell.1, cell.2.mapIdx (mkv (w c)))
def mk (w : Wd) : AH := hs.mapIdx (mkc w)
def wr (w : Wd) (c k : Nat) (v : Int32) : Wd := fun c' k' => if c' = c ∧ k' = k then v else w c' k'
theorem mk_get {w : Wd} {c : Nat} {cell : AC} (h : hs[c]? = some cell) : (mk w)[c]? = some (mkc w c cell) := by simp [mk, List.getElem?_mapIdx, h]
theorem mk_len (w : Wd) : (mk w).length = hs.length := by simp [mk]
theorem mkv_wr (w : Wd) (c k : Nat) (x : Int32) (j : Nat) (v : AV) (hj : j ≠ k) : mkv (wr w c k x c) j v = mkv (w c) j v := by
  unfold mkv wr
  cases v with
  | inl y => simp [hj]
  | inr y => rfl
theorem mk_set {w : Wd} {c k : Nat} {t : Nat ⊕ FieldType} {vs : List AV} {x y : Int32} (h : hs[c]? = some (t, vs)) (hk : vs[k]? = some (.inl y)) : (mk w).set c (t, (vs.mapIdx (mkv (w c))).set k (.inl x)) = mk (wr w c k x) := by
  apply List.ext_getElem?
  intro i
  have hc : c < (mk w).length := by rw [mk_len]; exact (List.getElem?_eq_some_iff.mp h).1
  by_cases hi : c = i
  · subst hi
    rw [List.getElem?_set_self hc, mk_get h]
    unfold mkc
    congr 2
    apply List.ext_getElem?
    intro j
    have hkl : k < (vs.mapIdx (mkv (w c))).length := by simp; exact (List.getElem?_eq_some_iff.mp hk).1
    by_cases hj : k = j
    · subst hj
      rw [List.getElem?_set_self hkl, List.getElem?_mapIdx, hk]
      simp [mkv, wr]
    · rw [List.getElem?_set_ne hj, List.getElem?_mapIdx, List.getElem?_mapIdx]
      cases hv : vs[j]? with
      | none => rfl
      | some v =>
        simp only [Option.map_some]
        rw [mkv_wr _ _ _ _ _ _ (fun q => hj q.symm)]
  · rw [List.getElem?_set_ne hi]
    simp only [mk, List.getElem?_mapIdx]
    cases hv : hs[i]? with
    | none => rfl
    | some cell =>
      simp only [Option.map_some, mkc]
      congr 3
      funext j v
      unfold mkv wr
      cases v with
      | inl z => simp [Ne.symm hi]
      | inr z => rfl
/-- the tables that are only read -/
def rz (zs : List Int32) : List (List Int32) := [zs, ML, MS]
theorem run_mono (ro : List (List Int32)) : ∀ (f d j : Nat) (s : AS) (o : Option AV × AH), run ro f d j s = some o → run ro (f + 1) d j s = some o := by
  intro f
  induction f with
  | zero => intro d j s o e; simp [run] at e
  | succ f ih =>
    intro d j s o e
    rw [run] at e ⊢
    split at e
    · cases e
    · rename_i r hr
      split at e
      · cases e
      · rename_i i hi
        split at e
        · cases e
        · rename_i s' h1
          exact ih _ _ _ _ e
        · exact e
        · rename_i k as s' h1
          split at e
          · rename_i d' r' hr'
            split at e
            · rename_i v h' h2
              rw [ih _ _ _ _ h2]
              exact ih _ _ _ _ e
            · cases e
          · cases e
theorem run_le {ro : List (List Int32)} {f f' d j : Nat} {s : AS} {o : Option AV × AH} (hf : f ≤ f') (e : run ro f d j s = some o) : run ro f' d j s = some o := by
  induction hf with
  | refl => exact e
  | step _ ih => exact run_mono _ _ _ _ _ _ ih
theorem st3_dep {d d' K : Nat} {rt : Option FieldType} {i : Instr} {pc : Nat} {L : AL} {S : List AV} {h : AH} {x : AR} (hd : d ≤ d') (e : st3 d K rt i pc L S h = some x) : st3 d' K rt i pc L S h = some x := by
  unfold st3 at e ⊢
  split at e
  · split at e
    · split at e
      · rename_i h1
        split at e
        · split at e
          · rename_i h2
            rw [if_pos h1, if_pos ⟨Nat.le_trans h2.1 hd, h2.2⟩]
            exact e
          · cases e
        · cases e
      · rename_i h1
        rw [if_neg h1]
        exact e
    · cases e
  · exact e
  · split at e
    · split at e
      · split at e
        · rename_i h2
          rw [if_pos ⟨Nat.le_trans h2.1 hd, h2.2⟩]
          exact e
        · cases e
      · cases e
    · exact e
  · exact e
  · exact e
  · exact e
  · cases e
theorem stp_dep {ro : List (List Int32)} {d d' : Nat} {r : MR} {i : Instr} {pc : Nat} {L : AL} {S : List AV} {h : AH} {x : AR} (hd : d ≤ d') (e : stp ro d r i pc L S h = some x) : stp ro d' r i pc L S h = some x := by
  unfold stp at e ⊢
  by_cases h1 : (kind i).1 = 1
  · rw [if_pos h1] at e ⊢
    exact e
  · rw [if_neg h1] at e ⊢
    by_cases h2 : (kind i).1 = 2
    · rw [if_pos h2] at e ⊢
      exact e
    · rw [if_neg h2] at e ⊢
      by_cases h3 : (kind i).1 = 3
      · rw [if_pos h3] at e ⊢
        exact st3_dep hd e
      · rw [if_neg h3] at e
        cases e
theorem run_dep (ro : List (List Int32)) : ∀ (f d d' j : Nat) (s : AS) (o : Option AV × AH), d ≤ d' → run ro f d j s = some o → run ro f d' j s = some o := by
  intro f
  induction f with
  | zero => intro d d' j s o hd e; simp [run] at e
  | succ f ih =>
    intro d d' j s o hd e
    rw [run] at e ⊢
    split at e
    · cases e
    · rename_i r hr
      split at e
      · cases e
      · rename_i i hi
        split at e
        · cases e
        · rename_i s' h1
          rw [stp_dep hd h1]
          exact ih _ _ _ _ _ hd e
        · rename_i o' h1
          rw [stp_dep hd h1]
          exact e
        · rename_i k as s' h1
          rw [stp_dep hd h1]
          split at e
          · rename_i d1 r' hr'
            obtain ⟨d2, rfl⟩ : ∃ d2, d' = d2 + 1 := ⟨d' - 1, by omega⟩
            simp only [hr']
            split at e
            · rename_i v h' h2
              rw [ih _ _ _ _ _ (Nat.le_of_succ_le_succ hd) h2]
              exact ih _ _ _ _ _ hd e
            · cases e
          · cases e
/-- from this place of a method the run comes to an end of which Q holds -/
def Gw (zs : List Int32) (d j pc : Nat) (L : AL) (S : List AV) (w : Wd) (Q : Option AV → Wd → Prop) : Prop := ∃ f v w', run (rz zs) f d j (pc, L, S, mk w) = some (v, mk w') ∧ Q v w'
/-- a call of a method -/
def Ew (zs : List Int32) (d j : Nat) (as : List AV) (w : Wd) (Q : Option AV → Wd → Prop) : Prop := ∃ r, mrec j = some r ∧ Gw zs d j 0 (as.map some ++ List.replicate (r.2.2.1 - as.length) none) [] w Q
theorem Gw.mono {zs : List Int32} {d j pc : Nat} {L : AL} {S : List AV} {w : Wd} {Q Q' : Option AV → Wd → Prop} (h : Gw zs d j pc L S w Q) (hq : ∀ v w', Q v w' → Q' v w') : Gw zs d j pc L S w Q' := by
  obtain ⟨f, v, w', h1, h2⟩ := h
  exact ⟨f, v, w', h1, hq v w' h2⟩
theorem Ew.mono {zs : List Int32} {d j : Nat} {as : List AV} {w : Wd} {Q Q' : Option AV → Wd → Prop} (h : Ew zs d j as w Q) (hq : ∀ v w', Q v w' → Q' v w') : Ew zs d j as w Q' := by
  obtain ⟨r, h1, h2⟩ := h
  exact ⟨r, h1, h2.mono hq⟩
theorem Ew.up {zs : List Int32} {d d' j : Nat} {as : List AV} {w : Wd} {Q : Option AV → Wd → Prop} (h : Ew zs d j as w Q) (hd : d ≤ d') : Ew zs d' j as w Q := by
  obtain ⟨r, h1, f, v, w', h2, h3⟩ := h
  exact ⟨r, h1, f, v, w', run_dep _ _ _ _ _ _ _ hd h2, h3⟩
section GW
variable {zs : List Int32} {d j pc : Nat} {L : AL} {S : List AV} {w : Wd} {Q : Option AV → Wd → Prop} {r : MR}
theorem gw_step {i : Instr} {pc' : Nat} {L' : AL} {S' : List AV} {w' : Wd} (hm : mrec j = some r) (hf : fch r.2.1 pc = some i) (hs : stp (rz zs) d r i pc L S (mk w) = some (.inl (pc', L', S', mk w'))) (k : Gw zs d j pc' L' S' w' Q) : Gw zs d j pc L S w Q := by
  obtain ⟨f, v, w2, h1, h2⟩ := k
  exact ⟨f + 1, v, w2, by rw [run, hm]; simp only [hf, hs]; exact h1, h2⟩
theorem gw_end {i : Instr} {v : Option AV} (hm : mrec j = some r) (hf : fch r.2.1 pc = some i) (hs : stp (rz zs) d r i pc L S (mk w) = some (.inr (.inr (v, mk w)))) (k : Q v w) : Gw zs d j pc L S w Q :=
  ⟨1, v, w, by rw [run, hm]; simp only [hf, hs], k⟩
theorem gw_sub {i : Instr} {k pc' : Nat} {as : List AV} {L' : AL} {S' : List AV} (hm : mrec j = some r) (hf : fch r.2.1 pc = some i) (hs : stp (rz zs) (d + 1) r i pc L S (mk w) = some (.inr (.inl (k, as, pc', L', S', mk w)))) (he : Ew zs d k as w (fun v w1 => Gw zs (d + 1) j pc' L' (v.toList ++ S') w1 Q)) : Gw zs (d + 1) j pc L S w Q := by
  obtain ⟨r', h1, f1, v1, w1, h2, f2, v2, w2, h3, h4⟩ := he
  refine ⟨(f1 + f2) + 1, v2, w2, ?_, h4⟩
  rw [run, hm]
  simp only [hf, hs, h1]
  rw [show (ent r' as (mk w)) = (0, as.map some ++ List.replicate (r'.2.2.1 - as.length) none, [], mk w) from rfl, run_le (Nat.le_add_right f1 f2) h2]
  exact run_le (Nat.le_add_left f2 f1) h3
end GW
end
section
/-! A rule an instruction, over worlds -/
theorem stp_1 {ro : List (List Int32)} {d : Nat} {r : MR} {i : Instr} {pc : Nat} {L : AL} {S : List AV} {h : AH} {x : Option AR} (hk : (kind i).1 = 1) (e : st1 i pc L S h = x) : stp ro d r i pc L S h = x := by
  unfold stp
  rw [if_pos hk]
  exact e
theorem stp_2 {ro : List (List Int32)} {d : Nat} {r : MR} {i : Instr} {pc : Nat} {L : AL} {S : List AV} {h : AH} {x : Option AR} (hk : (kind i).1 = 2) (e : st2 ro r.2.2.2.2.1 (decide (r.1.name = "<init>")) i pc L S h = x) : stp ro d r i pc L S h = x := by
  unfold stp
  rw [if_neg (by rw [hk]; decide), if_pos hk]
  exact e
theorem stp_3 {ro : List (List Int32)} {d : Nat} {r : MR} {i : Instr} {pc : Nat} {L : AL} {S : List AV} {h : AH} {x : Option AR} (hk : (kind i).1 = 3) (e : st3 d r.2.2.2.2.1 r.2.2.2.1 i pc L S h = x) : stp ro d r i pc L S h = x := by
  unfold stp
  rw [if_neg (by rw [hk]; decide), if_neg (by rw [hk]; decide), if_pos hk]
  exact e
theorem mk_I {w : Wd} {c n : Nat} {ty : FieldType} (h : hs[c]? = some (.inr ty, List.replicate n (.inl 0))) : (mk w)[c]? = some (.inr ty, (List.replicate n (.inl 0)).mapIdx (mkv (w c))) := mk_get h
theorem mk_O {w : Wd} {c ci : Nat} {vs : List AV} (h : hs[c]? = some (.inl ci, vs)) : (mk w)[c]? = some (.inl ci, vs.mapIdx (mkv (w c))) := mk_get h
theorem mk_F {w : Wd} {c k : Nat} {vs : List AV} {v : AV} (hk : vs[k]? = some v) : (vs.mapIdx (mkv (w c)))[k]? = some (mkv (w c) k v) := by simp [List.getElem?_mapIdx, hk]
theorem mk_len0 {w : Wd} {c n : Nat} : ((List.replicate n (.inl 0 : AV)).mapIdx (mkv (w c))).length = n := by simp
theorem mk_getD {w : Wd} {c n i : Nat} (hi : i < n) : ((List.replicate n (.inl 0 : AV)).mapIdx (mkv (w c))).getD i (.inl 0) = .inl (w c i) := by
  simp [List.getD_eq_getElem?_getD, List.getElem?_mapIdx, hi, mkv]
theorem vp_lt {i : Int32} {n : Nat} (h : vp_in i n) : i.toNatClampNeg < n := Nat.not_le.mp fun q => h (Or.inr q)
theorem inr_ty {i : Int32} {n : Nat} (h : vp_in i n) (m : Nat) (hm : m = n) : ¬ (i < 0 ∨ m ≤ i.toNatClampNeg) := hm ▸ h
section GR
variable {zs : List Int32} {d j pc : Nat} {L : AL} {S : List AV} {w : Wd} {Q : Option AV → Wd → Prop} {r : MR}
theorem gw_iconst {n : Int} {v : Int32} (hm : mrec j = some r) (hf : fch r.2.1 pc = some (.iconst n)) (hv : Int32.ofInt n = v) (k : Gw zs d j (pc + 1) L (.inl v :: S) w Q) : Gw zs d j pc L S w Q := gw_step hm hf (stp_1 rfl (by rw [← hv]; rfl)) k
theorem gw_bipush {n : Int} {v : Int32} (hm : mrec j = some r) (hf : fch r.2.1 pc = some (.bipush n)) (hv : (Int8.ofInt n).toInt32 = v) (k : Gw zs d j (pc + 2) L (.inl v :: S) w Q) : Gw zs d j pc L S w Q := gw_step hm hf (stp_1 rfl (by rw [← hv]; rfl)) k
theorem gw_sipush {n : Int} {v : Int32} (hm : mrec j = some r) (hf : fch r.2.1 pc = some (.sipush n)) (hv : (Int16.ofInt n).toInt32 = v) (k : Gw zs d j (pc + 3) L (.inl v :: S) w Q) : Gw zs d j pc L S w Q := gw_step hm hf (stp_1 rfl (by rw [← hv]; rfl)) k
theorem gw_null (hm : mrec j = some r) (hf : fch r.2.1 pc = some .aconst_null) (k : Gw zs d j (pc + 1) L (.inr (.inl none) :: S) w Q) : Gw zs d j pc L S w Q := gw_step hm hf (stp_1 rfl rfl) k
theorem gw_iload_n {n : Fin 4} {x : Int32} (hm : mrec j = some r) (hf : fch r.2.1 pc = some (.iload_n n)) (hl : ld L n = some (.inl x)) (k : Gw zs d j (pc + 1) L (.inl x :: S) w Q) : Gw zs d j pc L S w Q := gw_step hm hf (stp_1 rfl (by simp only [st1, hl]; rfl)) k
theorem gw_iload {n : Nat} {x : Int32} (hm : mrec j = some r) (hf : fch r.2.1 pc = some (.iload n)) (hl : ld L n = some (.inl x)) (k : Gw zs d j (pc + 2) L (.inl x :: S) w Q) : Gw zs d j pc L S w Q := gw_step hm hf (stp_1 rfl (by simp only [st1, hl]; rfl)) k
theorem gw_aload_n {n : Fin 4} {x : Option Nat ⊕ Nat} (hm : mrec j = some r) (hf : fch r.2.1 pc = some (.aload_n n)) (hl : ld L n = some (.inr x)) (k : Gw zs d j (pc + 1) L (.inr x :: S) w Q) : Gw zs d j pc L S w Q := gw_step hm hf (stp_1 rfl (by simp only [st1, hl]; rfl)) k
theorem gw_aload {n : Nat} {x : Option Nat ⊕ Nat} (hm : mrec j = some r) (hf : fch r.2.1 pc = some (.aload n)) (hl : ld L n = some (.inr x)) (k : Gw zs d j (pc + 2) L (.inr x :: S) w Q) : Gw zs d j pc L S w Q := gw_step hm hf (stp_1 rfl (by simp only [st1, hl]; rfl)) k
theorem gw_istore_n {n : Fin 4} {x : Int32} (L' : AL) (hm : mrec j = some r) (hf : fch r.2.1 pc = some (.istore_n n)) (hk : (n : Nat) < L.length) (hl : L.set n (some (.inl x)) = L') (k : Gw zs d j (pc + 1) L' S w Q) : Gw zs d j pc L (.inl x :: S) w Q := gw_step hm hf (stp_1 rfl (by simp only [st1, sto, if_pos hk, hl]; rfl)) k
theorem gw_istore {n : Nat} {x : Int32} (L' : AL) (hm : mrec j = some r) (hf : fch r.2.1 pc = some (.istore n)) (hk : n < L.length) (hl : L.set n (some (.inl x)) = L') (k : Gw zs d j (pc + 2) L' S w Q) : Gw zs d j pc L (.inl x :: S) w Q := gw_step hm hf (stp_1 rfl (by simp only [st1, sto, if_pos hk, hl]; rfl)) k
theorem gw_astore_n {n : Fin 4} {x : Option Nat ⊕ Nat} (L' : AL) (hm : mrec j = some r) (hf : fch r.2.1 pc = some (.astore_n n)) (hk : (n : Nat) < L.length) (hl : L.set n (some (.inr x)) = L') (k : Gw zs d j (pc + 1) L' S w Q) : Gw zs d j pc L (.inr x :: S) w Q := gw_step hm hf (stp_1 rfl (by simp only [st1, sto, if_pos hk, hl]; rfl)) k
theorem gw_astore {n : Nat} {x : Option Nat ⊕ Nat} (L' : AL) (hm : mrec j = some r) (hf : fch r.2.1 pc = some (.astore n)) (hk : n < L.length) (hl : L.set n (some (.inr x)) = L') (k : Gw zs d j (pc + 2) L' S w Q) : Gw zs d j pc L (.inr x :: S) w Q := gw_step hm hf (stp_1 rfl (by simp only [st1, sto, if_pos hk, hl]; rfl)) k
theorem gw_iinc {n : Nat} {m : Int} {x y : Int32} (L' : AL) (hm : mrec j = some r) (hf : fch r.2.1 pc = some (.iinc n m)) (hx : ld L n = some (.inl x)) (hv : Int32.ofInt m = y) (hk : n < L.length) (hl : L.set n (some (.inl (x + y))) = L') (k : Gw zs d j (pc + 3) L' S w Q) : Gw zs d j pc L S w Q := gw_step hm hf (stp_1 rfl (by simp only [st1, hx, sto, if_pos hk, hv, hl]; rfl)) k
theorem gw_dup {v : AV} (hm : mrec j = some r) (hf : fch r.2.1 pc = some .dup) (k : Gw zs d j (pc + 1) L (v :: v :: S) w Q) : Gw zs d j pc L (v :: S) w Q := gw_step hm hf (stp_1 rfl rfl) k
theorem gw_dup2 {v u : AV} (hm : mrec j = some r) (hf : fch r.2.1 pc = some .dup2) (k : Gw zs d j (pc + 1) L (v :: u :: v :: u :: S) w Q) : Gw zs d j pc L (v :: u :: S) w Q := gw_step hm hf (stp_1 rfl rfl) k
theorem gw_pop {v : AV} (hm : mrec j = some r) (hf : fch r.2.1 pc = some .pop) (k : Gw zs d j (pc + 1) L S w Q) : Gw zs d j pc L (v :: S) w Q := gw_step hm hf (stp_1 rfl rfl) k
theorem gw_iadd {x y : Int32} (hm : mrec j = some r) (hf : fch r.2.1 pc = some .iadd) (k : Gw zs d j (pc + 1) L (.inl (x + y) :: S) w Q) : Gw zs d j pc L (.inl y :: .inl x :: S) w Q := gw_step hm hf (stp_1 rfl rfl) k
theorem gw_isub {x y : Int32} (hm : mrec j = some r) (hf : fch r.2.1 pc = some .isub) (k : Gw zs d j (pc + 1) L (.inl (x - y) :: S) w Q) : Gw zs d j pc L (.inl y :: .inl x :: S) w Q := gw_step hm hf (stp_1 rfl rfl) k
theorem gw_imul {x y : Int32} (hm : mrec j = some r) (hf : fch r.2.1 pc = some .imul) (k : Gw zs d j (pc + 1) L (.inl (x * y) :: S) w Q) : Gw zs d j pc L (.inl y :: .inl x :: S) w Q := gw_step hm hf (stp_1 rfl rfl) k
theorem gw_iand {x y : Int32} (hm : mrec j = some r) (hf : fch r.2.1 pc = some .iand) (k : Gw zs d j (pc + 1) L (.inl (x &&& y) :: S) w Q) : Gw zs d j pc L (.inl y :: .inl x :: S) w Q := gw_step hm hf (stp_1 rfl rfl) k
theorem gw_ior {x y : Int32} (hm : mrec j = some r) (hf : fch r.2.1 pc = some .ior) (k : Gw zs d j (pc + 1) L (.inl (x ||| y) :: S) w Q) : Gw zs d j pc L (.inl y :: .inl x :: S) w Q := gw_step hm hf (stp_1 rfl rfl) k
theorem gw_ishl {x y : Int32} (hm : mrec j = some r) (hf : fch r.2.1 pc = some .ishl) (k : Gw zs d j (pc + 1) L (.inl (x <<< (y &&& 31)) :: S) w Q) : Gw zs d j pc L (.inl y :: .inl x :: S) w Q := gw_step hm hf (stp_1 rfl rfl) k
theorem gw_ishr {x y : Int32} (hm : mrec j = some r) (hf : fch r.2.1 pc = some .ishr) (k : Gw zs d j (pc + 1) L (.inl (x >>> (y &&& 31)) :: S) w Q) : Gw zs d j pc L (.inl y :: .inl x :: S) w Q := gw_step hm hf (stp_1 rfl rfl) k
theorem gw_idiv {x y : Int32} (hm : mrec j = some r) (hf : fch r.2.1 pc = some .idiv) (hy : ¬ y = 0) (k : Gw zs d j (pc + 1) L (.inl (x / y) :: S) w Q) : Gw zs d j pc L (.inl y :: .inl x :: S) w Q := gw_step hm hf (stp_1 rfl (by simp only [st1, if_neg hy]; rfl)) k
theorem gw_irem {x y : Int32} (hm : mrec j = some r) (hf : fch r.2.1 pc = some .irem) (hy : ¬ y = 0) (k : Gw zs d j (pc + 1) L (.inl (x - x / y * y) :: S) w Q) : Gw zs d j pc L (.inl y :: .inl x :: S) w Q := gw_step hm hf (stp_1 rfl (by simp only [st1, if_neg hy]; rfl)) k
theorem gw_br {i : Instr} {c : Prop} [Decidable c] {S' : List AV} {o : Int} {t : Nat} (hm : mrec j = some r) (hf : fch r.2.1 pc = some i) (hk : (kind i).1 = 1) (hs : ∀ h, st1 i pc L S h = br pc o (decide c) L S' h) (ht : (pc : Int) + o = (t : Int)) (kt : c → Gw zs d j t L S' w Q) (kf : ¬ c → Gw zs d j (pc + 3) L S' w Q) : Gw zs d j pc L S w Q := by
  have h0 : 0 ≤ (pc : Int) + o := by omega
  have h1 : ((pc : Int) + o).toNat = t := by omega
  by_cases hc : c
  · exact gw_step hm hf (stp_1 hk (by rw [hs, br, if_pos h0, decide_eq_true hc, if_pos rfl, h1]; rfl)) (kt hc)
  · exact gw_step hm hf (stp_1 hk (by rw [hs, br, if_pos h0, decide_eq_false hc, if_neg (by decide)]; rfl)) (kf hc)
theorem gw_if_eq {x : Int32} {o : Int} {t : Nat} (hm : mrec j = some r) (hf : fch r.2.1 pc = some (.ifCond .eq o)) (ht : (pc : Int) + o = (t : Int)) (kt : x = 0 → Gw zs d j t L S w Q) (kf : ¬ (x = 0) → Gw zs d j (pc + 3) L S w Q) : Gw zs d j pc L (.inl x :: S) w Q := gw_br hm hf rfl (fun h => rfl) ht kt kf
theorem gw_icmp_eq {x y : Int32} {o : Int} {t : Nat} (hm : mrec j = some r) (hf : fch r.2.1 pc = some (.if_icmp .eq o)) (ht : (pc : Int) + o = (t : Int)) (kt : x = y → Gw zs d j t L S w Q) (kf : ¬ (x = y) → Gw zs d j (pc + 3) L S w Q) : Gw zs d j pc L (.inl y :: .inl x :: S) w Q := gw_br hm hf rfl (fun h => rfl) ht kt kf
theorem gw_if_ne {x : Int32} {o : Int} {t : Nat} (hm : mrec j = some r) (hf : fch r.2.1 pc = some (.ifCond .ne o)) (ht : (pc : Int) + o = (t : Int)) (kt : ¬ x = 0 → Gw zs d j t L S w Q) (kf : ¬ (¬ x = 0) → Gw zs d j (pc + 3) L S w Q) : Gw zs d j pc L (.inl x :: S) w Q := gw_br hm hf rfl (fun h => rfl) ht kt kf
theorem gw_icmp_ne {x y : Int32} {o : Int} {t : Nat} (hm : mrec j = some r) (hf : fch r.2.1 pc = some (.if_icmp .ne o)) (ht : (pc : Int) + o = (t : Int)) (kt : ¬ x = y → Gw zs d j t L S w Q) (kf : ¬ (¬ x = y) → Gw zs d j (pc + 3) L S w Q) : Gw zs d j pc L (.inl y :: .inl x :: S) w Q := gw_br hm hf rfl (fun h => rfl) ht kt kf
theorem gw_if_lt {x : Int32} {o : Int} {t : Nat} (hm : mrec j = some r) (hf : fch r.2.1 pc = some (.ifCond .lt o)) (ht : (pc : Int) + o = (t : Int)) (kt : x < 0 → Gw zs d j t L S w Q) (kf : ¬ (x < 0) → Gw zs d j (pc + 3) L S w Q) : Gw zs d j pc L (.inl x :: S) w Q := gw_br hm hf rfl (fun h => rfl) ht kt kf
theorem gw_icmp_lt {x y : Int32} {o : Int} {t : Nat} (hm : mrec j = some r) (hf : fch r.2.1 pc = some (.if_icmp .lt o)) (ht : (pc : Int) + o = (t : Int)) (kt : x < y → Gw zs d j t L S w Q) (kf : ¬ (x < y) → Gw zs d j (pc + 3) L S w Q) : Gw zs d j pc L (.inl y :: .inl x :: S) w Q := gw_br hm hf rfl (fun h => rfl) ht kt kf
theorem gw_if_ge {x : Int32} {o : Int} {t : Nat} (hm : mrec j = some r) (hf : fch r.2.1 pc = some (.ifCond .ge o)) (ht : (pc : Int) + o = (t : Int)) (kt : 0 ≤ x → Gw zs d j t L S w Q) (kf : ¬ (0 ≤ x) → Gw zs d j (pc + 3) L S w Q) : Gw zs d j pc L (.inl x :: S) w Q := gw_br hm hf rfl (fun h => rfl) ht kt kf
theorem gw_icmp_ge {x y : Int32} {o : Int} {t : Nat} (hm : mrec j = some r) (hf : fch r.2.1 pc = some (.if_icmp .ge o)) (ht : (pc : Int) + o = (t : Int)) (kt : y ≤ x → Gw zs d j t L S w Q) (kf : ¬ (y ≤ x) → Gw zs d j (pc + 3) L S w Q) : Gw zs d j pc L (.inl y :: .inl x :: S) w Q := gw_br hm hf rfl (fun h => rfl) ht kt kf
theorem gw_if_gt {x : Int32} {o : Int} {t : Nat} (hm : mrec j = some r) (hf : fch r.2.1 pc = some (.ifCond .gt o)) (ht : (pc : Int) + o = (t : Int)) (kt : 0 < x → Gw zs d j t L S w Q) (kf : ¬ (0 < x) → Gw zs d j (pc + 3) L S w Q) : Gw zs d j pc L (.inl x :: S) w Q := gw_br hm hf rfl (fun h => rfl) ht kt kf
theorem gw_icmp_gt {x y : Int32} {o : Int} {t : Nat} (hm : mrec j = some r) (hf : fch r.2.1 pc = some (.if_icmp .gt o)) (ht : (pc : Int) + o = (t : Int)) (kt : y < x → Gw zs d j t L S w Q) (kf : ¬ (y < x) → Gw zs d j (pc + 3) L S w Q) : Gw zs d j pc L (.inl y :: .inl x :: S) w Q := gw_br hm hf rfl (fun h => rfl) ht kt kf
theorem gw_if_le {x : Int32} {o : Int} {t : Nat} (hm : mrec j = some r) (hf : fch r.2.1 pc = some (.ifCond .le o)) (ht : (pc : Int) + o = (t : Int)) (kt : x ≤ 0 → Gw zs d j t L S w Q) (kf : ¬ (x ≤ 0) → Gw zs d j (pc + 3) L S w Q) : Gw zs d j pc L (.inl x :: S) w Q := gw_br hm hf rfl (fun h => rfl) ht kt kf
theorem gw_icmp_le {x y : Int32} {o : Int} {t : Nat} (hm : mrec j = some r) (hf : fch r.2.1 pc = some (.if_icmp .le o)) (ht : (pc : Int) + o = (t : Int)) (kt : x ≤ y → Gw zs d j t L S w Q) (kf : ¬ (x ≤ y) → Gw zs d j (pc + 3) L S w Q) : Gw zs d j pc L (.inl y :: .inl x :: S) w Q := gw_br hm hf rfl (fun h => rfl) ht kt kf
theorem gw_jp {i : Instr} {S' : List AV} {o : Int} {t : Nat} (hm : mrec j = some r) (hf : fch r.2.1 pc = some i) (hk : (kind i).1 = 1) (hs : ∀ h, st1 i pc L S h = jp pc o L S' h) (ht : (pc : Int) + o = (t : Int)) (k : Gw zs d j t L S' w Q) : Gw zs d j pc L S w Q := by
  have h0 : 0 ≤ (pc : Int) + o := by omega
  have h1 : ((pc : Int) + o).toNat = t := by omega
  exact gw_step hm hf (stp_1 hk (by rw [hs, jp, if_pos h0, h1]; rfl)) k
theorem gw_goto {o : Int} {t : Nat} (hm : mrec j = some r) (hf : fch r.2.1 pc = some (.goto o)) (ht : (pc : Int) + o = (t : Int)) (k : Gw zs d j t L S w Q) : Gw zs d j pc L S w Q := gw_jp hm hf rfl (fun h => rfl) ht k
theorem gw_ifnull_n {o : Int} {t : Nat} (hm : mrec j = some r) (hf : fch r.2.1 pc = some (.ifnull o)) (ht : (pc : Int) + o = (t : Int)) (k : Gw zs d j t L S w Q) : Gw zs d j pc L (.inr (.inl none) :: S) w Q := gw_jp hm hf rfl (fun h => rfl) ht k
theorem gw_ifnull_s {o : Int} {a : Nat} (hm : mrec j = some r) (hf : fch r.2.1 pc = some (.ifnull o)) (k : Gw zs d j (pc + 3) L S w Q) : Gw zs d j pc L (.inr (.inl (some a)) :: S) w Q := gw_step hm hf (stp_1 rfl rfl) k
theorem gw_ifnonnull_n {o : Int} (hm : mrec j = some r) (hf : fch r.2.1 pc = some (.ifnonnull o)) (k : Gw zs d j (pc + 3) L S w Q) : Gw zs d j pc L (.inr (.inl none) :: S) w Q := gw_step hm hf (stp_1 rfl rfl) k
theorem gw_ifnonnull_s {o : Int} {t a : Nat} (hm : mrec j = some r) (hf : fch r.2.1 pc = some (.ifnonnull o)) (ht : (pc : Int) + o = (t : Int)) (k : Gw zs d j t L S w Q) : Gw zs d j pc L (.inr (.inl (some a)) :: S) w Q := gw_jp hm hf rfl (fun h => rfl) ht k
theorem gw_tsw {dflt lo hi : Int} {offs : Array Int} {x : Int32} (hm : mrec j = some r) (hf : fch r.2.1 pc = some (.tableswitch dflt lo hi offs)) (hsz : hi + 1 = lo + offs.size) (h32 : -2147483648 ≤ lo ∧ hi < 2147483648) (hin : ∀ q : Nat, q < offs.size → x = Int32.ofInt (lo + q) → ∃ (o : Int) (t : Nat), offs[q]? = some o ∧ (pc : Int) + o = (t : Int) ∧ Gw zs d j t L S w Q) (hout : (∀ q : Nat, q < offs.size → ¬ x = Int32.ofInt (lo + q)) → ∃ t : Nat, (pc : Int) + dflt = (t : Int) ∧ Gw zs d j t L S w Q) : Gw zs d j pc L (.inl x :: S) w Q := by
  by_cases hx : x.toInt < lo ∨ hi < x.toInt
  · obtain ⟨t, ht, k⟩ := hout (fun q hq he => by
      rw [he, Int32.toInt_ofInt_of_le (by omega) (by omega)] at hx
      omega)
    have h0 : 0 ≤ (pc : Int) + dflt := by omega
    have h1 : ((pc : Int) + dflt).toNat = t := by omega
    exact gw_step hm hf (stp_1 rfl (by simp only [st1, tsw, if_pos hx, jp, if_pos h0, h1]; rfl)) k
  · have h2 : ¬ x.toInt < lo := fun q => hx (Or.inl q)
    have h3 : ¬ hi < x.toInt := fun q => hx (Or.inr q)
    obtain ⟨o, t, ho, ht, k⟩ := hin (x.toInt - lo).toNat (by omega) (by
      rw [show lo + (((x.toInt - lo).toNat : Nat) : Int) = x.toInt by omega]
      exact (Int32.ofInt_toInt x).symm)
    have h0 : 0 ≤ (pc : Int) + o := by omega
    have h1 : ((pc : Int) + o).toNat = t := by omega
    exact gw_step hm hf (stp_1 rfl (by simp only [st1, tsw, if_neg hx, ho, jp, if_pos h0, h1]; rfl)) k
theorem gw_getI {x ci k po c : Nat} {vs : List AV} {y : Int32} (hm : mrec j = some r) (hf : fch r.2.1 pc = some (.getfield x)) (hl : lk fldT r.2.2.2.2.1 x = some (ci, k, po)) (hc : hs[c]? = some (.inl ci, vs)) (hk : vs[k]? = some (.inl y)) (kk : Gw zs d j (pc + 3) L (.inl (w c k) :: S) w Q) : Gw zs d j pc L (.inr (.inl (some c)) :: S) w Q :=
  gw_step hm hf (stp_2 rfl (by simp only [st2, hl, mk_O hc, mk_F hk]; rfl)) kk
theorem gw_getR {x ci k po c : Nat} {vs : List AV} {y : Option Nat ⊕ Nat} (hm : mrec j = some r) (hf : fch r.2.1 pc = some (.getfield x)) (hl : lk fldT r.2.2.2.2.1 x = some (ci, k, po)) (hc : hs[c]? = some (.inl ci, vs)) (hk : vs[k]? = some (.inr y)) (kk : Gw zs d j (pc + 3) L (.inr y :: S) w Q) : Gw zs d j pc L (.inr (.inl (some c)) :: S) w Q :=
  gw_step hm hf (stp_2 rfl (by simp only [st2, hl, mk_O hc, mk_F hk]; rfl)) kk
theorem gw_put {x ci k po c : Nat} {vs : List AV} {v y : Int32} {q : vw_C} {ty : Nat → FieldType} (hm : mrec j = some r) (hf : fch r.2.1 pc = some (.putfield x)) (hl : lk fldT r.2.2.2.2.1 x = some (ci, k, po)) (hc : hs[c]? = some (.inl ci, vs)) (hk : vs[k]? = some (.inl y)) (hq : kCl[ci]? = some q) (ht : kTy[ci]? = some ty) (hn : (q.2.1 k).2.2.2 = false) (hfit : fitA (ty k) (.inl v) = true) (kk : Gw zs d j (pc + 3) L S (wr w c k v) Q) : Gw zs d j pc L (.inl v :: .inr (.inl (some c)) :: S) w Q := by
  have hkl : k < (vs.mapIdx (mkv (w c))).length := by simp; exact (List.getElem?_eq_some_iff.mp hk).1
  refine gw_step hm hf (stp_2 rfl ?_) kk
  simp only [st2, hl, mk_O hc]
  rw [if_pos ⟨trivial, hkl⟩]
  simp only [hq, ht]
  rw [if_pos ⟨hfit, Or.inl hn⟩, mk_set hc hk]
  rfl
theorem gw_gets {x q po : Nat} (hm : mrec j = some r) (hf : fch r.2.1 pc = some (.getstatic x)) (hl : lk gsT r.2.2.2.2.1 x = some (q, po)) (kk : Gw zs d j (pc + 3) L (.inr (.inr q) :: S) w Q) : Gw zs d j pc L S w Q :=
  gw_step hm hf (stp_2 rfl (by simp only [st2, hl]; rfl)) kk
theorem gw_iald {c n : Nat} {i : Int32} (hm : mrec j = some r) (hf : fch r.2.1 pc = some .iaload) (hc : hs[c]? = some (.inr .int, List.replicate n (.inl 0))) (hi : vp_in i n) (kk : Gw zs d j (pc + 1) L (.inl (w c i.toNatClampNeg) :: S) w Q) : Gw zs d j pc L (.inl i :: .inr (.inl (some c)) :: S) w Q :=
  gw_step hm hf (stp_2 rfl (by simp only [st2, mk_I hc]; rw [if_neg (inr_ty hi _ mk_len0), mk_getD (vp_lt hi)]; rfl)) kk
theorem gw_zald {c n : Nat} {i : Int32} (hm : mrec j = some r) (hf : fch r.2.1 pc = some .baload) (hc : hs[c]? = some (.inr .boolean, List.replicate n (.inl 0))) (hi : vp_in i n) (kk : Gw zs d j (pc + 1) L (.inl (w c i.toNatClampNeg) :: S) w Q) : Gw zs d j pc L (.inl i :: .inr (.inl (some c)) :: S) w Q :=
  gw_step hm hf (stp_2 rfl (by simp only [st2, mk_I hc]; rw [if_neg (inr_ty hi _ mk_len0), mk_getD (vp_lt hi)]; rfl)) kk
theorem gw_rald {q : Nat} {zl : List Int32} {i : Int32} (hm : mrec j = some r) (hf : fch r.2.1 pc = some .iaload) (hz : (rz zs)[q]? = some zl) (hi : vp_in i zl.length) (kk : Gw zs d j (pc + 1) L (.inl (zl.getD i.toNatClampNeg 0) :: S) w Q) : Gw zs d j pc L (.inl i :: .inr (.inr q) :: S) w Q :=
  gw_step hm hf (stp_2 rfl (by simp only [st2, hz]; rw [if_neg hi]; rfl)) kk
theorem gw_aald {c : Nat} {C : String} {vs : List AV} {i : Int32} {o : Option Nat} (hm : mrec j = some r) (hf : fch r.2.1 pc = some .aaload) (hc : hs[c]? = some (.inr (.object C), vs)) (hi : vp_in i vs.length) (hv : vs[i.toNatClampNeg]? = some (.inr (.inl o))) (kk : Gw zs d j (pc + 1) L (.inr (.inl o) :: S) w Q) : Gw zs d j pc L (.inl i :: .inr (.inl (some c)) :: S) w Q := by
  have h1 : (mk w)[c]? = some (.inr (.object C), vs.mapIdx (mkv (w c))) := mk_get hc
  refine gw_step hm hf (stp_2 rfl ?_) kk
  simp only [st2, h1]
  rw [if_neg (inr_ty hi _ (by simp)), List.getD_eq_getElem?_getD, mk_F hv]
  rfl
theorem gw_iast {c n : Nat} {i x : Int32} (hm : mrec j = some r) (hf : fch r.2.1 pc = some .iastore) (hc : hs[c]? = some (.inr .int, List.replicate n (.inl 0))) (hi : vp_in i n) (kk : Gw zs d j (pc + 1) L S (wr w c i.toNatClampNeg x) Q) : Gw zs d j pc L (.inl x :: .inl i :: .inr (.inl (some c)) :: S) w Q := by
  refine gw_step hm hf (stp_2 rfl ?_) kk
  simp only [st2, mk_I hc]
  rw [if_neg (inr_ty hi _ mk_len0), mk_set hc (y := 0) (by simp [vp_lt hi])]
  rfl
theorem gw_zast {c n : Nat} {i x : Int32} (hm : mrec j = some r) (hf : fch r.2.1 pc = some .bastore) (hc : hs[c]? = some (.inr .boolean, List.replicate n (.inl 0))) (hi : vp_in i n) (kk : Gw zs d j (pc + 1) L S (wr w c i.toNatClampNeg (x &&& 1)) Q) : Gw zs d j pc L (.inl x :: .inl i :: .inr (.inl (some c)) :: S) w Q := by
  refine gw_step hm hf (stp_2 rfl ?_) kk
  simp only [st2, mk_I hc]
  rw [if_neg (inr_ty hi _ mk_len0), mk_set hc (y := 0) (by simp [vp_lt hi])]
  rfl
theorem gw_alenI {c n : Nat} {v : Int32} (hm : mrec j = some r) (hf : fch r.2.1 pc = some .arraylength) (hc : hs[c]? = some (.inr .int, List.replicate n (.inl 0))) (hv : Int32.ofNat n = v) (kk : Gw zs d j (pc + 1) L (.inl v :: S) w Q) : Gw zs d j pc L (.inr (.inl (some c)) :: S) w Q :=
  gw_step hm hf (stp_2 rfl (by simp only [st2, mk_I hc]; rw [mk_len0, hv]; rfl)) kk
theorem gw_alenZ {c n : Nat} {v : Int32} (hm : mrec j = some r) (hf : fch r.2.1 pc = some .arraylength) (hc : hs[c]? = some (.inr .boolean, List.replicate n (.inl 0))) (hv : Int32.ofNat n = v) (kk : Gw zs d j (pc + 1) L (.inl v :: S) w Q) : Gw zs d j pc L (.inr (.inl (some c)) :: S) w Q :=
  gw_step hm hf (stp_2 rfl (by simp only [st2, mk_I hc]; rw [mk_len0, hv]; rfl)) kk
theorem gw_alenQ {c : Nat} {C : String} {vs : List AV} {v : Int32} (hm : mrec j = some r) (hf : fch r.2.1 pc = some .arraylength) (hc : hs[c]? = some (.inr (.object C), vs)) (hv : Int32.ofNat vs.length = v) (kk : Gw zs d j (pc + 1) L (.inl v :: S) w Q) : Gw zs d j pc L (.inr (.inl (some c)) :: S) w Q := by
  have h1 : (mk w)[c]? = some (.inr (.object C), vs.mapIdx (mkv (w c))) := mk_get hc
  exact gw_step hm hf (stp_2 rfl (by simp only [st2, h1]; rw [List.length_mapIdx, hv]; rfl)) kk
theorem gw_ralen {q : Nat} {zl : List Int32} {v : Int32} (hm : mrec j = some r) (hf : fch r.2.1 pc = some .arraylength) (hz : (rz zs)[q]? = some zl) (hv : Int32.ofNat zl.length = v) (kk : Gw zs d j (pc + 1) L (.inl v :: S) w Q) : Gw zs d j pc L (.inr (.inr q) :: S) w Q :=
  gw_step hm hf (stp_2 rfl (by simp only [st2, hz]; rw [hv]; rfl)) kk
theorem call_ok {pc j na : Nat} {L : AL} {S S' as : List AV} {h : AH} (hS : S = as.reverse ++ S') (hn : as.length = na) (h8 : S'.length ≤ 8) : call pc L S h j na = some (.inr (.inl (j, as, pc + 3, L, S', h))) := by
  subst hS
  subst hn
  unfold call
  rw [if_pos ⟨by simp, by simp [h8]⟩]
  simp
theorem gw_static {x q kd po dc : Nat} {r' : MR} {S' : List AV} (as : List AV) (hm : mrec j = some r) (hf : fch r.2.1 pc = some (.invokestatic x)) (hl : lk invT r.2.2.2.2.1 x = some (q, kd, po)) (hkd : kd = 0 ∨ kd = 1) (hr : mrec q = some r') (hn : as.length = r'.2.2.2.2.2.1) (h8 : S'.length ≤ 8) (hd : dc ≤ d) (he : Ew zs dc q as w (fun v w1 => Gw zs (d + 1) j (pc + 3) L (v.toList ++ S') w1 Q)) (hS : S = as.reverse ++ S') : Gw zs (d + 1) j pc L S w Q := by
  refine gw_sub hm hf (stp_3 rfl ?_) (he.up hd)
  simp only [st3, hl]
  rw [if_neg (by rcases hkd with rfl | rfl <;> decide), if_pos hkd, hr]
  exact call_ok hS hn h8
theorem gw_virtual {x q po dc c ci : Nat} {r' : MR} {S' : List AV} {vs : List AV} {kq : vw_C} (as : List AV) (hm : mrec j = some r) (hf : fch r.2.1 pc = some (.invokevirtual x)) (hl : lk invT r.2.2.2.2.1 x = some (q, 2, po)) (hr : mrec q = some r') (hc : hs[c]? = some (.inl ci, vs)) (hq : kCl[ci]? = some kq) (hcl : kq.1 = r'.1.cls) (hn : as.length + 1 = r'.2.2.2.2.2.1) (h8 : S'.length ≤ 8) (hd : dc ≤ d) (he : Ew zs dc q (.inr (.inl (some c)) :: as) w (fun v w1 => Gw zs (d + 1) j (pc + 3) L (v.toList ++ S') w1 Q)) (hS : S = as.reverse ++ .inr (.inl (some c)) :: S') : Gw zs (d + 1) j pc L S w Q := by
  have hS2 : S = (.inr (.inl (some c)) :: as : List AV).reverse ++ S' := by rw [hS]; simp
  have hn2 : (.inr (.inl (some c)) :: as : List AV).length = r'.2.2.2.2.2.1 := by simpa using hn
  refine gw_sub hm hf (stp_3 rfl ?_) (he.up hd)
  simp only [st3, hl, if_true, hr]
  have h1 : (S.take r'.2.2.2.2.2.1).reverse = .inr (.inl (some c)) :: as := by
    rw [hS2, ← hn2, List.take_left' (by simp), List.reverse_reverse]
  rw [h1, if_pos (by simp only [rcv, mk_O hc, hq]; exact decide_eq_true hcl)]
  exact call_ok hS2 hn2 h8
theorem gw_max {x q po : Nat} {a y : Int32} (hm : mrec j = some r) (hf : fch r.2.1 pc = some (.invokestatic x)) (hl : lk invT r.2.2.2.2.1 x = some (q, 6, po)) (hd : 1 ≤ d) (h8 : S.length ≤ 8) (kk : Gw zs d j (pc + 3) L (.inl (if a < y then y else a) :: S) w Q) : Gw zs d j pc L (.inl y :: .inl a :: S) w Q :=
  gw_step hm hf (stp_3 rfl (by simp only [st3, hl]; rw [if_pos (by decide), if_pos ⟨hd, h8⟩, if_pos trivial]; rfl)) kk
theorem gw_min {x q po : Nat} {a y : Int32} (hm : mrec j = some r) (hf : fch r.2.1 pc = some (.invokestatic x)) (hl : lk invT r.2.2.2.2.1 x = some (q, 7, po)) (hd : 1 ≤ d) (h8 : S.length ≤ 8) (kk : Gw zs d j (pc + 3) L (.inl (if y < a then y else a) :: S) w Q) : Gw zs d j pc L (.inl y :: .inl a :: S) w Q :=
  gw_step hm hf (stp_3 rfl (by simp only [st3, hl]; rw [if_pos (by decide), if_pos ⟨hd, h8⟩, if_neg (by decide)]; rfl)) kk
theorem gw_iret {x : Int32} (hm : mrec j = some r) (hf : fch r.2.1 pc = some .ireturn) (hrt : r.2.2.2.1 = some .int) (k : Q (some (.inl x)) w) : Gw zs d j pc L [.inl x] w Q := gw_end hm hf (stp_3 rfl (by simp only [st3, hrt])) k
theorem gw_zret {x : Int32} (hm : mrec j = some r) (hf : fch r.2.1 pc = some .ireturn) (hrt : r.2.2.2.1 = some .boolean) (hx : x = 0 ∨ x = 1) (k : Q (some (.inl x)) w) : Gw zs d j pc L [.inl x] w Q := gw_end hm hf (stp_3 rfl (by simp only [st3, hrt]; rw [if_pos hx])) k
theorem gw_aret {x : Option Nat} {C : String} (hm : mrec j = some r) (hf : fch r.2.1 pc = some .areturn) (hrt : r.2.2.2.1 = some (.object C)) (k : Q (some (.inr (.inl x))) w) : Gw zs d j pc L [.inr (.inl x)] w Q := gw_end hm hf (stp_3 rfl (by simp only [st3, hrt])) k
theorem gw_vret (hm : mrec j = some r) (hf : fch r.2.1 pc = some .return_) (hrt : r.2.2.2.1 = none) (k : Q none w) : Gw zs d j pc L [] w Q := gw_end hm hf (stp_3 rfl (by simp only [st3, hrt])) k
theorem ew_of {as : List AV} {L : AL} (hr : mrec j = some r) (hL : as.map some ++ List.replicate (r.2.2.1 - as.length) none = L) (h : Gw zs d j 0 L [] w Q) : Ew zs d j as w Q := ⟨r, hr, by rw [hL]; exact h⟩
end GR
end
