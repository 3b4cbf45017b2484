section
-- ===== PART A: goes FIRST, ahead of the names: the tables' words, and 'selects' of the private methods out of them =====
/-- a private method of a class that the tables say can be made, by its rows of tables_1 -/
def lw_okq (q : MethodName × Nat) : Prop := (q.1.cls ≠ "java/lang/invoke/MethodHandle" ∧ q.1.cls ≠ "java/lang/invoke/VarHandle") ∧ Cond.instantiable q.1.cls q.2 ∈ tables_1 ∧ Cond.privateMethod q.1 ∈ tables_1 ∧ Cond.instanceMethod q.1 ∈ tables_1
theorem lw_p0 : lw_okq (⟨"SewnAhead", "refuse", "(I)I"⟩, 11) := ⟨⟨by decide +kernel, by decide +kernel⟩, List.mem_of_getElem? (i := 12) (by decide +kernel), List.mem_of_getElem? (i := 179) (by decide +kernel), List.mem_of_getElem? (i := 180) (by decide +kernel)⟩
theorem lw_p1 : lw_okq (⟨"SewnAhead", "refusePlace", "(LSewnAhead$Row;I)I"⟩, 11) := ⟨⟨by decide +kernel, by decide +kernel⟩, List.mem_of_getElem? (i := 12) (by decide +kernel), List.mem_of_getElem? (i := 197) (by decide +kernel), List.mem_of_getElem? (i := 198) (by decide +kernel)⟩
theorem lw_p2 : lw_okq (⟨"SewnAhead$Cloth", "gapFor", "(I)I"⟩, 13) := ⟨⟨by decide +kernel, by decide +kernel⟩, List.mem_of_getElem? (i := 22) (by decide +kernel), List.mem_of_getElem? (i := 308) (by decide +kernel), List.mem_of_getElem? (i := 309) (by decide +kernel)⟩
theorem lw_p3 : lw_okq (⟨"SewnAhead$Cloth", "lawHoldingIn", "(I)I"⟩, 13) := ⟨⟨by decide +kernel, by decide +kernel⟩, List.mem_of_getElem? (i := 22) (by decide +kernel), List.mem_of_getElem? (i := 312) (by decide +kernel), List.mem_of_getElem? (i := 313) (by decide +kernel)⟩
theorem lw_p4 : lw_okq (⟨"SewnAhead$Cloth", "holds", "(II)Z"⟩, 13) := ⟨⟨by decide +kernel, by decide +kernel⟩, List.mem_of_getElem? (i := 22) (by decide +kernel), List.mem_of_getElem? (i := 316) (by decide +kernel), List.mem_of_getElem? (i := 317) (by decide +kernel)⟩
theorem lw_p5 : lw_okq (⟨"SewnAhead", "isYear", "(I)Z"⟩, 11) := ⟨⟨by decide +kernel, by decide +kernel⟩, List.mem_of_getElem? (i := 12) (by decide +kernel), List.mem_of_getElem? (i := 325) (by decide +kernel), List.mem_of_getElem? (i := 326) (by decide +kernel)⟩
theorem lw_p6 : lw_okq (⟨"SewnAhead", "ofYear", "(II)I"⟩, 11) := ⟨⟨by decide +kernel, by decide +kernel⟩, List.mem_of_getElem? (i := 12) (by decide +kernel), List.mem_of_getElem? (i := 329) (by decide +kernel), List.mem_of_getElem? (i := 330) (by decide +kernel)⟩
theorem lw_p7 : lw_okq (⟨"SewnAhead", "isLaw", "(I)Z"⟩, 11) := ⟨⟨by decide +kernel, by decide +kernel⟩, List.mem_of_getElem? (i := 12) (by decide +kernel), List.mem_of_getElem? (i := 337) (by decide +kernel), List.mem_of_getElem? (i := 338) (by decide +kernel)⟩
theorem lw_p8 : lw_okq (⟨"SewnAhead", "ofLaw", "(II)I"⟩, 11) := ⟨⟨by decide +kernel, by decide +kernel⟩, List.mem_of_getElem? (i := 12) (by decide +kernel), List.mem_of_getElem? (i := 341) (by decide +kernel), List.mem_of_getElem? (i := 342) (by decide +kernel)⟩
theorem lw_p9 : lw_okq (⟨"SewnAhead$Cloth", "isBrokenIn", "(II)Z"⟩, 13) := ⟨⟨by decide +kernel, by decide +kernel⟩, List.mem_of_getElem? (i := 22) (by decide +kernel), List.mem_of_getElem? (i := 349) (by decide +kernel), List.mem_of_getElem? (i := 350) (by decide +kernel)⟩
theorem lw_p10 : lw_okq (⟨"SewnAhead", "stitched", "(II)I"⟩, 11) := ⟨⟨by decide +kernel, by decide +kernel⟩, List.mem_of_getElem? (i := 12) (by decide +kernel), List.mem_of_getElem? (i := 388) (by decide +kernel), List.mem_of_getElem? (i := 389) (by decide +kernel)⟩
theorem lw_p11 : lw_okq (⟨"SewnAhead", "isWholeWhateverIsSewn", "(I)Z"⟩, 11) := ⟨⟨by decide +kernel, by decide +kernel⟩, List.mem_of_getElem? (i := 12) (by decide +kernel), List.mem_of_getElem? (i := 464) (by decide +kernel), List.mem_of_getElem? (i := 465) (by decide +kernel)⟩
theorem lw_p12 : lw_okq (⟨"SewnAhead", "fewestInto", "(I)I"⟩, 11) := ⟨⟨by decide +kernel, by decide +kernel⟩, List.mem_of_getElem? (i := 12) (by decide +kernel), List.mem_of_getElem? (i := 481) (by decide +kernel), List.mem_of_getElem? (i := 482) (by decide +kernel)⟩
theorem lw_p13 : lw_okq (⟨"SewnAhead$Plans", "goOn", "(II)V"⟩, 8) := ⟨⟨by decide +kernel, by decide +kernel⟩, List.mem_of_getElem? (i := 85) (by decide +kernel), List.mem_of_getElem? (i := 490) (by decide +kernel), List.mem_of_getElem? (i := 491) (by decide +kernel)⟩
theorem lw_p14 : lw_okq (⟨"SewnAhead$Plans", "add", "()V"⟩, 8) := ⟨⟨by decide +kernel, by decide +kernel⟩, List.mem_of_getElem? (i := 85) (by decide +kernel), List.mem_of_getElem? (i := 494) (by decide +kernel), List.mem_of_getElem? (i := 495) (by decide +kernel)⟩
theorem lw_p15 : lw_okq (⟨"SewnAhead$Plans", "isAllowed", "(II)Z"⟩, 8) := ⟨⟨by decide +kernel, by decide +kernel⟩, List.mem_of_getElem? (i := 85) (by decide +kernel), List.mem_of_getElem? (i := 499) (by decide +kernel), List.mem_of_getElem? (i := 500) (by decide +kernel)⟩
def lw_privs_1 : List (MethodName × Nat) := [(⟨"SewnAhead", "refuse", "(I)I"⟩, 11), (⟨"SewnAhead", "refusePlace", "(LSewnAhead$Row;I)I"⟩, 11), (⟨"SewnAhead$Cloth", "gapFor", "(I)I"⟩, 13), (⟨"SewnAhead$Cloth", "lawHoldingIn", "(I)I"⟩, 13), (⟨"SewnAhead$Cloth", "holds", "(II)Z"⟩, 13), (⟨"SewnAhead", "isYear", "(I)Z"⟩, 11), (⟨"SewnAhead", "ofYear", "(II)I"⟩, 11), (⟨"SewnAhead", "isLaw", "(I)Z"⟩, 11), (⟨"SewnAhead", "ofLaw", "(II)I"⟩, 11), (⟨"SewnAhead$Cloth", "isBrokenIn", "(II)Z"⟩, 13), (⟨"SewnAhead", "stitched", "(II)I"⟩, 11), (⟨"SewnAhead", "isWholeWhateverIsSewn", "(I)Z"⟩, 11), (⟨"SewnAhead", "fewestInto", "(I)I"⟩, 11), (⟨"SewnAhead$Plans", "goOn", "(II)V"⟩, 8), (⟨"SewnAhead$Plans", "add", "()V"⟩, 8), (⟨"SewnAhead$Plans", "isAllowed", "(II)Z"⟩, 8)]
theorem lw_r1 : ∀ q ∈ lw_privs_1, lw_okq q := List.forall_mem_cons.mpr ⟨lw_p0, List.forall_mem_cons.mpr ⟨lw_p1, List.forall_mem_cons.mpr ⟨lw_p2, List.forall_mem_cons.mpr ⟨lw_p3, List.forall_mem_cons.mpr ⟨lw_p4, List.forall_mem_cons.mpr ⟨lw_p5, List.forall_mem_cons.mpr ⟨lw_p6, List.forall_mem_cons.mpr ⟨lw_p7, List.forall_mem_cons.mpr ⟨lw_p8, List.forall_mem_cons.mpr ⟨lw_p9, List.forall_mem_cons.mpr ⟨lw_p10, List.forall_mem_cons.mpr ⟨lw_p11, List.forall_mem_cons.mpr ⟨lw_p12, List.forall_mem_cons.mpr ⟨lw_p13, List.forall_mem_cons.mpr ⟨lw_p14, List.forall_mem_cons.mpr ⟨lw_p15, fun _ h => absurd h List.not_mem_nil⟩⟩⟩⟩⟩⟩⟩⟩⟩⟩⟩⟩⟩⟩⟩⟩
theorem lw_p16 : lw_okq (⟨"SewnAhead$Plans", "fits", "(I)Z"⟩, 8) := ⟨⟨by decide +kernel, by decide +kernel⟩, List.mem_of_getElem? (i := 85) (by decide +kernel), List.mem_of_getElem? (i := 506) (by decide +kernel), List.mem_of_getElem? (i := 507) (by decide +kernel)⟩
theorem lw_p17 : lw_okq (⟨"SewnAhead", "tellFraction", "(JJ)V"⟩, 11) := ⟨⟨by decide +kernel, by decide +kernel⟩, List.mem_of_getElem? (i := 12) (by decide +kernel), List.mem_of_getElem? (i := 522) (by decide +kernel), List.mem_of_getElem? (i := 523) (by decide +kernel)⟩
theorem lw_p18 : lw_okq (⟨"SewnAhead", "refuseHistory", "(I)I"⟩, 11) := ⟨⟨by decide +kernel, by decide +kernel⟩, List.mem_of_getElem? (i := 12) (by decide +kernel), List.mem_of_getElem? (i := 546) (by decide +kernel), List.mem_of_getElem? (i := 547) (by decide +kernel)⟩
theorem lw_p19 : lw_okq (⟨"SewnAhead", "firstChanged", "([I)I"⟩, 11) := ⟨⟨by decide +kernel, by decide +kernel⟩, List.mem_of_getElem? (i := 12) (by decide +kernel), List.mem_of_getElem? (i := 567) (by decide +kernel), List.mem_of_getElem? (i := 568) (by decide +kernel)⟩
theorem lw_p20 : lw_okq (⟨"SewnAhead", "keptCloths", "()I"⟩, 11) := ⟨⟨by decide +kernel, by decide +kernel⟩, List.mem_of_getElem? (i := 12) (by decide +kernel), List.mem_of_getElem? (i := 607) (by decide +kernel), List.mem_of_getElem? (i := 608) (by decide +kernel)⟩
theorem lw_p21 : lw_okq (⟨"SewnAheadModel", "found", "(I)I"⟩, 20) := ⟨⟨by decide +kernel, by decide +kernel⟩, List.mem_of_getElem? (i := 629) (by decide +kernel), List.mem_of_getElem? (i := 707) (by decide +kernel), List.mem_of_getElem? (i := 708) (by decide +kernel)⟩
theorem lw_p22 : lw_okq (⟨"SewnAheadModel", "anew", "(II)V"⟩, 20) := ⟨⟨by decide +kernel, by decide +kernel⟩, List.mem_of_getElem? (i := 629) (by decide +kernel), List.mem_of_getElem? (i := 711) (by decide +kernel), List.mem_of_getElem? (i := 712) (by decide +kernel)⟩
theorem lw_p23 : lw_okq (⟨"SewnAheadModel", "tells", "(II)I"⟩, 20) := ⟨⟨by decide +kernel, by decide +kernel⟩, List.mem_of_getElem? (i := 629) (by decide +kernel), List.mem_of_getElem? (i := 723) (by decide +kernel), List.mem_of_getElem? (i := 724) (by decide +kernel)⟩
theorem lw_p24 : lw_okq (⟨"SewnAheadModel", "faultOf", "(I)I"⟩, 20) := ⟨⟨by decide +kernel, by decide +kernel⟩, List.mem_of_getElem? (i := 629) (by decide +kernel), List.mem_of_getElem? (i := 759) (by decide +kernel), List.mem_of_getElem? (i := 760) (by decide +kernel)⟩
theorem lw_p25 : lw_okq (⟨"SewnAheadModel", "blanks", "(I)V"⟩, 20) := ⟨⟨by decide +kernel, by decide +kernel⟩, List.mem_of_getElem? (i := 629) (by decide +kernel), List.mem_of_getElem? (i := 763) (by decide +kernel), List.mem_of_getElem? (i := 764) (by decide +kernel)⟩
theorem lw_p26 : lw_okq (⟨"SewnAheadModel", "byteAt", "(II)I"⟩, 20) := ⟨⟨by decide +kernel, by decide +kernel⟩, List.mem_of_getElem? (i := 629) (by decide +kernel), List.mem_of_getElem? (i := 767) (by decide +kernel), List.mem_of_getElem? (i := 768) (by decide +kernel)⟩
theorem lw_p27 : lw_okq (⟨"SewnAheadModel", "takesYears", "(I)Z"⟩, 20) := ⟨⟨by decide +kernel, by decide +kernel⟩, List.mem_of_getElem? (i := 629) (by decide +kernel), List.mem_of_getElem? (i := 771) (by decide +kernel), List.mem_of_getElem? (i := 772) (by decide +kernel)⟩
theorem lw_p28 : lw_okq (⟨"SewnAheadModel", "isSign", "(I)Z"⟩, 20) := ⟨⟨by decide +kernel, by decide +kernel⟩, List.mem_of_getElem? (i := 629) (by decide +kernel), List.mem_of_getElem? (i := 775) (by decide +kernel), List.mem_of_getElem? (i := 776) (by decide +kernel)⟩
theorem lw_p29 : lw_okq (⟨"SewnAheadModel", "isScene", "(I)Z"⟩, 20) := ⟨⟨by decide +kernel, by decide +kernel⟩, List.mem_of_getElem? (i := 629) (by decide +kernel), List.mem_of_getElem? (i := 779) (by decide +kernel), List.mem_of_getElem? (i := 780) (by decide +kernel)⟩
theorem lw_p30 : lw_okq (⟨"SewnAheadModel", "takesLaw", "(I)Z"⟩, 20) := ⟨⟨by decide +kernel, by decide +kernel⟩, List.mem_of_getElem? (i := 629) (by decide +kernel), List.mem_of_getElem? (i := 785) (by decide +kernel), List.mem_of_getElem? (i := 786) (by decide +kernel)⟩
theorem lw_p31 : lw_okq (⟨"SewnAheadModel", "copyAll", "(III)V"⟩, 20) := ⟨⟨by decide +kernel, by decide +kernel⟩, List.mem_of_getElem? (i := 629) (by decide +kernel), List.mem_of_getElem? (i := 796) (by decide +kernel), List.mem_of_getElem? (i := 797) (by decide +kernel)⟩
def lw_privs_2 : List (MethodName × Nat) := [(⟨"SewnAhead$Plans", "fits", "(I)Z"⟩, 8), (⟨"SewnAhead", "tellFraction", "(JJ)V"⟩, 11), (⟨"SewnAhead", "refuseHistory", "(I)I"⟩, 11), (⟨"SewnAhead", "firstChanged", "([I)I"⟩, 11), (⟨"SewnAhead", "keptCloths", "()I"⟩, 11), (⟨"SewnAheadModel", "found", "(I)I"⟩, 20), (⟨"SewnAheadModel", "anew", "(II)V"⟩, 20), (⟨"SewnAheadModel", "tells", "(II)I"⟩, 20), (⟨"SewnAheadModel", "faultOf", "(I)I"⟩, 20), (⟨"SewnAheadModel", "blanks", "(I)V"⟩, 20), (⟨"SewnAheadModel", "byteAt", "(II)I"⟩, 20), (⟨"SewnAheadModel", "takesYears", "(I)Z"⟩, 20), (⟨"SewnAheadModel", "isSign", "(I)Z"⟩, 20), (⟨"SewnAheadModel", "isScene", "(I)Z"⟩, 20), (⟨"SewnAheadModel", "takesLaw", "(I)Z"⟩, 20), (⟨"SewnAheadModel", "copyAll", "(III)V"⟩, 20)]
theorem lw_r2 : ∀ q ∈ lw_privs_2, lw_okq q := List.forall_mem_cons.mpr ⟨lw_p16, List.forall_mem_cons.mpr ⟨lw_p17, List.forall_mem_cons.mpr ⟨lw_p18, List.forall_mem_cons.mpr ⟨lw_p19, List.forall_mem_cons.mpr ⟨lw_p20, List.forall_mem_cons.mpr ⟨lw_p21, List.forall_mem_cons.mpr ⟨lw_p22, List.forall_mem_cons.mpr ⟨lw_p23, List.forall_mem_cons.mpr ⟨lw_p24, List.forall_mem_cons.mpr ⟨lw_p25, List.forall_mem_cons.mpr ⟨lw_p26, List.forall_mem_cons.mpr ⟨lw_p27, List.forall_mem_cons.mpr ⟨lw_p28, List.forall_mem_cons.mpr ⟨lw_p29, List.forall_mem_cons.mpr ⟨lw_p30, List.forall_mem_cons.mpr ⟨lw_p31, fun _ h => absurd h List.not_mem_nil⟩⟩⟩⟩⟩⟩⟩⟩⟩⟩⟩⟩⟩⟩⟩⟩
theorem lw_p32 : lw_okq (⟨"SewnAheadModel", "isYear", "(I)Z"⟩, 20) := ⟨⟨by decide +kernel, by decide +kernel⟩, List.mem_of_getElem? (i := 629) (by decide +kernel), List.mem_of_getElem? (i := 804) (by decide +kernel), List.mem_of_getElem? (i := 805) (by decide +kernel)⟩
theorem lw_p33 : lw_okq (⟨"SewnAheadModel", "plays", "()V"⟩, 20) := ⟨⟨by decide +kernel, by decide +kernel⟩, List.mem_of_getElem? (i := 629) (by decide +kernel), List.mem_of_getElem? (i := 809) (by decide +kernel), List.mem_of_getElem? (i := 810) (by decide +kernel)⟩
theorem lw_p34 : lw_okq (⟨"SewnAheadModel", "holds", "(II)Z"⟩, 20) := ⟨⟨by decide +kernel, by decide +kernel⟩, List.mem_of_getElem? (i := 629) (by decide +kernel), List.mem_of_getElem? (i := 813) (by decide +kernel), List.mem_of_getElem? (i := 814) (by decide +kernel)⟩
theorem lw_p35 : lw_okq (⟨"SewnAheadModel", "happenedAhead", "(III)Z"⟩, 20) := ⟨⟨by decide +kernel, by decide +kernel⟩, List.mem_of_getElem? (i := 629) (by decide +kernel), List.mem_of_getElem? (i := 817) (by decide +kernel), List.mem_of_getElem? (i := 818) (by decide +kernel)⟩
theorem lw_p36 : lw_okq (⟨"SewnAheadModel", "yearTells", "(II)I"⟩, 20) := ⟨⟨by decide +kernel, by decide +kernel⟩, List.mem_of_getElem? (i := 629) (by decide +kernel), List.mem_of_getElem? (i := 821) (by decide +kernel), List.mem_of_getElem? (i := 822) (by decide +kernel)⟩
theorem lw_p37 : lw_okq (⟨"SewnAheadModel", "isLaw", "(I)Z"⟩, 20) := ⟨⟨by decide +kernel, by decide +kernel⟩, List.mem_of_getElem? (i := 629) (by decide +kernel), List.mem_of_getElem? (i := 829) (by decide +kernel), List.mem_of_getElem? (i := 830) (by decide +kernel)⟩
theorem lw_p38 : lw_okq (⟨"SewnAheadModel", "lawTells", "(II)I"⟩, 20) := ⟨⟨by decide +kernel, by decide +kernel⟩, List.mem_of_getElem? (i := 629) (by decide +kernel), List.mem_of_getElem? (i := 833) (by decide +kernel), List.mem_of_getElem? (i := 834) (by decide +kernel)⟩
theorem lw_p39 : lw_okq (⟨"SewnAheadModel", "isBroken", "(I)Z"⟩, 20) := ⟨⟨by decide +kernel, by decide +kernel⟩, List.mem_of_getElem? (i := 629) (by decide +kernel), List.mem_of_getElem? (i := 837) (by decide +kernel), List.mem_of_getElem? (i := 838) (by decide +kernel)⟩
theorem lw_p40 : lw_okq (⟨"SewnAheadModel", "yearsOf", "(I)I"⟩, 20) := ⟨⟨by decide +kernel, by decide +kernel⟩, List.mem_of_getElem? (i := 629) (by decide +kernel), List.mem_of_getElem? (i := 841) (by decide +kernel), List.mem_of_getElem? (i := 842) (by decide +kernel)⟩
theorem lw_p41 : lw_okq (⟨"SewnAheadModel", "yearsThat", "(I)I"⟩, 20) := ⟨⟨by decide +kernel, by decide +kernel⟩, List.mem_of_getElem? (i := 629) (by decide +kernel), List.mem_of_getElem? (i := 852) (by decide +kernel), List.mem_of_getElem? (i := 853) (by decide +kernel)⟩
theorem lw_p42 : lw_okq (⟨"SewnAheadModel", "minds", "()V"⟩, 20) := ⟨⟨by decide +kernel, by decide +kernel⟩, List.mem_of_getElem? (i := 629) (by decide +kernel), List.mem_of_getElem? (i := 868) (by decide +kernel), List.mem_of_getElem? (i := 869) (by decide +kernel)⟩
theorem lw_p43 : lw_okq (⟨"SewnAheadModel", "sews", "(II)V"⟩, 20) := ⟨⟨by decide +kernel, by decide +kernel⟩, List.mem_of_getElem? (i := 629) (by decide +kernel), List.mem_of_getElem? (i := 872) (by decide +kernel), List.mem_of_getElem? (i := 873) (by decide +kernel)⟩
theorem lw_p44 : lw_okq (⟨"SewnAheadModel", "brokenNow", "()I"⟩, 20) := ⟨⟨by decide +kernel, by decide +kernel⟩, List.mem_of_getElem? (i := 629) (by decide +kernel), List.mem_of_getElem? (i := 876) (by decide +kernel), List.mem_of_getElem? (i := 877) (by decide +kernel)⟩
theorem lw_p45 : lw_okq (⟨"SewnAheadModel", "lays", "()V"⟩, 20) := ⟨⟨by decide +kernel, by decide +kernel⟩, List.mem_of_getElem? (i := 629) (by decide +kernel), List.mem_of_getElem? (i := 915) (by decide +kernel), List.mem_of_getElem? (i := 916) (by decide +kernel)⟩
theorem lw_p46 : lw_okq (⟨"SewnAheadModel", "putsBack", "()V"⟩, 20) := ⟨⟨by decide +kernel, by decide +kernel⟩, List.mem_of_getElem? (i := 629) (by decide +kernel), List.mem_of_getElem? (i := 919) (by decide +kernel), List.mem_of_getElem? (i := 920) (by decide +kernel)⟩
theorem lw_p47 : lw_okq (⟨"SewnAheadModel", "fewest", "(II)I"⟩, 20) := ⟨⟨by decide +kernel, by decide +kernel⟩, List.mem_of_getElem? (i := 629) (by decide +kernel), List.mem_of_getElem? (i := 931) (by decide +kernel), List.mem_of_getElem? (i := 932) (by decide +kernel)⟩
def lw_privs_3 : List (MethodName × Nat) := [(⟨"SewnAheadModel", "isYear", "(I)Z"⟩, 20), (⟨"SewnAheadModel", "plays", "()V"⟩, 20), (⟨"SewnAheadModel", "holds", "(II)Z"⟩, 20), (⟨"SewnAheadModel", "happenedAhead", "(III)Z"⟩, 20), (⟨"SewnAheadModel", "yearTells", "(II)I"⟩, 20), (⟨"SewnAheadModel", "isLaw", "(I)Z"⟩, 20), (⟨"SewnAheadModel", "lawTells", "(II)I"⟩, 20), (⟨"SewnAheadModel", "isBroken", "(I)Z"⟩, 20), (⟨"SewnAheadModel", "yearsOf", "(I)I"⟩, 20), (⟨"SewnAheadModel", "yearsThat", "(I)I"⟩, 20), (⟨"SewnAheadModel", "minds", "()V"⟩, 20), (⟨"SewnAheadModel", "sews", "(II)V"⟩, 20), (⟨"SewnAheadModel", "brokenNow", "()I"⟩, 20), (⟨"SewnAheadModel", "lays", "()V"⟩, 20), (⟨"SewnAheadModel", "putsBack", "()V"⟩, 20), (⟨"SewnAheadModel", "fewest", "(II)I"⟩, 20)]
theorem lw_r3 : ∀ q ∈ lw_privs_3, lw_okq q := List.forall_mem_cons.mpr ⟨lw_p32, List.forall_mem_cons.mpr ⟨lw_p33, List.forall_mem_cons.mpr ⟨lw_p34, List.forall_mem_cons.mpr ⟨lw_p35, List.forall_mem_cons.mpr ⟨lw_p36, List.forall_mem_cons.mpr ⟨lw_p37, List.forall_mem_cons.mpr ⟨lw_p38, List.forall_mem_cons.mpr ⟨lw_p39, List.forall_mem_cons.mpr ⟨lw_p40, List.forall_mem_cons.mpr ⟨lw_p41, List.forall_mem_cons.mpr ⟨lw_p42, List.forall_mem_cons.mpr ⟨lw_p43, List.forall_mem_cons.mpr ⟨lw_p44, List.forall_mem_cons.mpr ⟨lw_p45, List.forall_mem_cons.mpr ⟨lw_p46, List.forall_mem_cons.mpr ⟨lw_p47, fun _ h => absurd h List.not_mem_nil⟩⟩⟩⟩⟩⟩⟩⟩⟩⟩⟩⟩⟩⟩⟩⟩
theorem lw_p48 : lw_okq (⟨"SewnAheadModel", "plans", "()I"⟩, 20) := ⟨⟨by decide +kernel, by decide +kernel⟩, List.mem_of_getElem? (i := 629) (by decide +kernel), List.mem_of_getElem? (i := 936) (by decide +kernel), List.mem_of_getElem? (i := 937) (by decide +kernel)⟩
theorem lw_p49 : lw_okq (⟨"SewnAheadModel", "does", "(I)I"⟩, 20) := ⟨⟨by decide +kernel, by decide +kernel⟩, List.mem_of_getElem? (i := 629) (by decide +kernel), List.mem_of_getElem? (i := 940) (by decide +kernel), List.mem_of_getElem? (i := 941) (by decide +kernel)⟩
theorem lw_p50 : lw_okq (⟨"SewnAheadModel", "canBe", "(II)Z"⟩, 20) := ⟨⟨by decide +kernel, by decide +kernel⟩, List.mem_of_getElem? (i := 629) (by decide +kernel), List.mem_of_getElem? (i := 944) (by decide +kernel), List.mem_of_getElem? (i := 945) (by decide +kernel)⟩
theorem lw_p51 : lw_okq (⟨"SewnAheadModel", "tellsPlan", "(II)V"⟩, 20) := ⟨⟨by decide +kernel, by decide +kernel⟩, List.mem_of_getElem? (i := 629) (by decide +kernel), List.mem_of_getElem? (i := 948) (by decide +kernel), List.mem_of_getElem? (i := 949) (by decide +kernel)⟩
theorem lw_p52 : lw_okq (⟨"SewnAheadModel", "happening", "()I"⟩, 20) := ⟨⟨by decide +kernel, by decide +kernel⟩, List.mem_of_getElem? (i := 629) (by decide +kernel), List.mem_of_getElem? (i := 965) (by decide +kernel), List.mem_of_getElem? (i := 966) (by decide +kernel)⟩
theorem lw_p53 : lw_okq (⟨"SewnAheadModel", "against", "(I)I"⟩, 20) := ⟨⟨by decide +kernel, by decide +kernel⟩, List.mem_of_getElem? (i := 629) (by decide +kernel), List.mem_of_getElem? (i := 973) (by decide +kernel), List.mem_of_getElem? (i := 974) (by decide +kernel)⟩
theorem lw_p54 : lw_okq (⟨"SewnAheadModel", "isSo", "(I)Z"⟩, 20) := ⟨⟨by decide +kernel, by decide +kernel⟩, List.mem_of_getElem? (i := 629) (by decide +kernel), List.mem_of_getElem? (i := 977) (by decide +kernel), List.mem_of_getElem? (i := 978) (by decide +kernel)⟩
theorem lw_p55 : lw_okq (⟨"SewnAheadModel", "chance", "(II)I"⟩, 20) := ⟨⟨by decide +kernel, by decide +kernel⟩, List.mem_of_getElem? (i := 629) (by decide +kernel), List.mem_of_getElem? (i := 997) (by decide +kernel), List.mem_of_getElem? (i := 998) (by decide +kernel)⟩
theorem lw_p56 : lw_okq (⟨"SewnAheadModel", "barsMany", "()I"⟩, 20) := ⟨⟨by decide +kernel, by decide +kernel⟩, List.mem_of_getElem? (i := 629) (by decide +kernel), List.mem_of_getElem? (i := 1026) (by decide +kernel), List.mem_of_getElem? (i := 1027) (by decide +kernel)⟩
theorem lw_p57 : lw_okq (⟨"SewnAheadModel", "mix", "(J)V"⟩, 20) := ⟨⟨by decide +kernel, by decide +kernel⟩, List.mem_of_getElem? (i := 629) (by decide +kernel), List.mem_of_getElem? (i := 1047) (by decide +kernel), List.mem_of_getElem? (i := 1048) (by decide +kernel)⟩
def lw_privs_4 : List (MethodName × Nat) := [(⟨"SewnAheadModel", "plans", "()I"⟩, 20), (⟨"SewnAheadModel", "does", "(I)I"⟩, 20), (⟨"SewnAheadModel", "canBe", "(II)Z"⟩, 20), (⟨"SewnAheadModel", "tellsPlan", "(II)V"⟩, 20), (⟨"SewnAheadModel", "happening", "()I"⟩, 20), (⟨"SewnAheadModel", "against", "(I)I"⟩, 20), (⟨"SewnAheadModel", "isSo", "(I)Z"⟩, 20), (⟨"SewnAheadModel", "chance", "(II)I"⟩, 20), (⟨"SewnAheadModel", "barsMany", "()I"⟩, 20), (⟨"SewnAheadModel", "mix", "(J)V"⟩, 20)]
theorem lw_r4 : ∀ q ∈ lw_privs_4, lw_okq q := List.forall_mem_cons.mpr ⟨lw_p48, List.forall_mem_cons.mpr ⟨lw_p49, List.forall_mem_cons.mpr ⟨lw_p50, List.forall_mem_cons.mpr ⟨lw_p51, List.forall_mem_cons.mpr ⟨lw_p52, List.forall_mem_cons.mpr ⟨lw_p53, List.forall_mem_cons.mpr ⟨lw_p54, List.forall_mem_cons.mpr ⟨lw_p55, List.forall_mem_cons.mpr ⟨lw_p56, List.forall_mem_cons.mpr ⟨lw_p57, fun _ h => absurd h List.not_mem_nil⟩⟩⟩⟩⟩⟩⟩⟩⟩⟩
def lw_privs : List (MethodName × Nat) := lw_privs_1 ++ (lw_privs_2 ++ (lw_privs_3 ++ (lw_privs_4)))
def lw_tbl : List Cond := k2_sels lw_privs ++ tables_1
theorem lw_privs_ok : ∀ q ∈ lw_privs, lw_okq q := by
  show ∀ q ∈ lw_privs_1 ++ (lw_privs_2 ++ (lw_privs_3 ++ (lw_privs_4))), lw_okq q
  exact List.forall_mem_append.mpr ⟨lw_r1, List.forall_mem_append.mpr ⟨lw_r2, List.forall_mem_append.mpr ⟨lw_r3, lw_r4⟩⟩⟩
-- ===== end of PART A; then your names; then what follows =====
/-! THE CLAIM OUT OF ONE WALK OF THE LAW'S BODY. Your part is whole_start (and what it stands on); all else here is the same for every law, but numbers. -/
def R_law : String := "SewnAheadLaw"
def lw_P (b : Addr) (xs : List Int32) (args : Array Value) (s : State) : Prop := args = #[.ref b] ∧ s.IntsAt b xs ∧ xs.length ≤ 384 ∧ (Jvm.Cond.and given_1 narrow_1).before args s = true
def lw_Q (_ : Array Value) (s : State) (o : Outcome) (t : State) : Prop := o = .returned (some (.int 1)) ∧ Framed s o t [] 600000 7302250
def lw_Z (below : List Frame) (a : Array Value) (s : State) : State → Prop := fun t => ∃ o, t.status = .running ∧ Ended t below o ∧ lw_Q a s o t
/-- the law's own end, with 1 on the stack, nothing written that was there before, its room as the claim has it -/
theorem lw_ret {p : Program} {l : Launch} {e : Env} {s : State} {m : MethodId} {below : List Frame} {meth : Method} {c : Code} {b : Nat} (hx : p.tables.exec = Jvm.exec) (hb : c.code = code) (hr : meth.sig.returnType = ret) (hlocks : meth.locks = false) {pc : Nat} {H : Heap} {ls : Array Slot} (hdg : decode code pc = .ok (.ireturn, 1)) : W p l e room_1 s m #[Value.ref b] below meth c H [] 600000 7302250 (lw_Z below #[Value.ref b] s) (F0 m pc ls [.int 1]) := by
  intro T hT X
  obtain ⟨fs, hret, hrun, hended, hW, hframe⟩ := X.leave (v := some (.int 1)) (hlocks := hlocks) (fun h => by rw [hr] at h; cases h)
  have hmeth' : T.vm.method? m = some meth := X.method'
  refine ⟨T.setFrames fs, ?_, .returned (some (.int 1)), hrun, hended, rfl, ⟨_, rfl⟩, hW, hframe⟩
  jvm_step X.here [X.here.top, hx, hb, hdg, hmeth', hr, ret, narrow_b1]
  (try refine ⟨rfl, ?_⟩); (try refine ⟨rfl, ?_⟩)
  first | (intro acts; rw [hret _ acts rfl rfl rfl]) | rw [hret _ _ rfl rfl rfl]
  exact Steps.refl _
/-- what holds at the law's entry: the machine, the code, the tables' words (any of lw_tbl by 'hts w (by decide +kernel)'), the script of L ints xs at the cell b, what the Statement gives of the start (any of its parts by flat_of_before) -/
def lw_At (p : Program) (s : State) (m : MethodId) (meth : Method) (c : Code) (b L : Nat) (xs : Nat → Int32) : Prop :=
  p.tables.exec = Jvm.exec ∧ c.code = code ∧ meth.sig.returnType = ret ∧ c.maxLocals = 4 ∧ s.vm.findClass R_law = some m.cls ∧ (∀ w ∈ lw_tbl, w.before #[Value.ref b] s = true) ∧ va_X b L xs s s.heap ∧ b < s.heap.size ∧ meth.locks = false ∧ (Jvm.Cond.and given_1 narrow_1).before #[Value.ref b] s = true
end
section
def am_big : List Cond := lw_tbl.filter goodWord
def am_R0 : String := "SewnAhead$Cloth"
def am_T0 : u_T := fun k => match k with
  | 0 => ("SewnAhead$Cloth", "years", "I", false)
  | 1 => ("SewnAhead$Cloth", "what", "[I", true)
  | 2 => ("SewnAhead$Cloth", "scene", "[I", true)
  | 3 => ("SewnAhead$Cloth", "laws", "I", false)
  | 4 => ("SewnAhead$Cloth", "kind", "[I", true)
  | 5 => ("SewnAhead$Cloth", "cause", "[I", true)
  | 6 => ("SewnAhead$Cloth", "end", "[I", true)
  | 7 => ("SewnAhead$Cloth", "stitches", "I", false)
  | 8 => ("SewnAhead$Cloth", "stitchYear", "[I", true)
  | 9 => ("SewnAhead$Cloth", "whatBefore", "[I", true)
  | 10 => ("SewnAhead$Cloth", "sceneBefore", "[I", true)
  | 11 => ("SewnAhead$Cloth", "happening", "[I", true)
  | _ => ("SewnAhead$Cloth", "maker", "[I", true)
def am_t0 : Nat → FieldType := fun k => match k with
  | 0 => .int
  | 1 => .array .int
  | 2 => .array .int
  | 3 => .int
  | 4 => .array .int
  | 5 => .array .int
  | 6 => .array .int
  | 7 => .int
  | 8 => .array .int
  | 9 => .array .int
  | 10 => .array .int
  | 11 => .array .int
  | _ => .array .int
theorem am_n0 : ∀ a, a < 13 → ∀ b, b < 13 → a ≠ b → (am_T0 a).2.1 ≠ (am_T0 b).2.1 := by decide +kernel
theorem am_ty0 : ∀ k, k < 13 → parseFieldDescriptor (am_T0 k).2.2.1 = some (am_t0 k) := by decide +kernel
theorem am_w0 : ∀ w ∈ u_ws am_R0 am_T0 13, w ∈ am_big := by decide +kernel
def am_R1 : String := "SewnAhead$Plans"
def am_T1 : u_T := fun k => match k with
  | 0 => ("SewnAhead$Plans", "tried", "LSewnAhead$Cloth;", true)
  | 1 => ("SewnAhead$Plans", "plan", "[I", true)
  | 2 => ("SewnAhead$Plans", "wanted", "[I", true)
  | 3 => ("SewnAhead$Plans", "mostStitches", "I", false)
  | 4 => ("SewnAhead$Plans", "wholeAlone", "Z", false)
  | 5 => ("SewnAhead$Plans", "plainAlone", "Z", false)
  | 6 => ("SewnAhead$Plans", "number", "I", false)
  | _ => ("SewnAhead$Plans", "first", "[I", true)
def am_t1 : Nat → FieldType := fun k => match k with
  | 0 => .object "SewnAhead$Cloth"
  | 1 => .array .int
  | 2 => .array .int
  | 3 => .int
  | 4 => .boolean
  | 5 => .boolean
  | 6 => .int
  | _ => .array .int
theorem am_n1 : ∀ a, a < 8 → ∀ b, b < 8 → a ≠ b → (am_T1 a).2.1 ≠ (am_T1 b).2.1 := by decide +kernel
theorem am_ty1 : ∀ k, k < 8 → parseFieldDescriptor (am_T1 k).2.2.1 = some (am_t1 k) := by decide +kernel
theorem am_w1 : ∀ w ∈ u_ws am_R1 am_T1 8, w ∈ am_big := by decide +kernel
def am_R2 : String := "SewnAhead$Row"
def am_T2 : u_T := fun k => match k with
  | 0 => ("SewnAhead$Row", "places", "[I", true)
  | _ => ("SewnAhead$Row", "size", "I", false)
def am_t2 : Nat → FieldType := fun k => match k with
  | 0 => .array .int
  | _ => .int
theorem am_n2 : ∀ a, a < 2 → ∀ b, b < 2 → a ≠ b → (am_T2 a).2.1 ≠ (am_T2 b).2.1 := by decide +kernel
theorem am_ty2 : ∀ k, k < 2 → parseFieldDescriptor (am_T2 k).2.2.1 = some (am_t2 k) := by decide +kernel
theorem am_w2 : ∀ w ∈ u_ws am_R2 am_T2 2, w ∈ am_big := by decide +kernel
def am_R3 : String := "SewnAhead"
def am_T3 : u_T := fun k => match k with
  | 0 => ("SewnAhead", "rows", "[LSewnAhead$Row;", true)
  | 1 => ("SewnAhead", "texts", "[LSewnAhead$Row;", true)
  | 2 => ("SewnAhead", "cloth", "LSewnAhead$Cloth;", true)
  | 3 => ("SewnAhead", "aside", "LSewnAhead$Cloth;", true)
  | 4 => ("SewnAhead", "kept", "[LSewnAhead$Cloth;", true)
  | 5 => ("SewnAhead", "plans", "LSewnAhead$Plans;", true)
  | 6 => ("SewnAhead", "found", "[I", true)
  | 7 => ("SewnAhead", "latestFound", "I", false)
  | 8 => ("SewnAhead", "told", "I", false)
  | 9 => ("SewnAhead", "upperTold", "J", false)
  | _ => ("SewnAhead", "lowerTold", "J", false)
def am_t3 : Nat → FieldType := fun k => match k with
  | 0 => .array (.object "SewnAhead$Row")
  | 1 => .array (.object "SewnAhead$Row")
  | 2 => .object "SewnAhead$Cloth"
  | 3 => .object "SewnAhead$Cloth"
  | 4 => .array (.object "SewnAhead$Cloth")
  | 5 => .object "SewnAhead$Plans"
  | 6 => .array .int
  | 7 => .int
  | 8 => .int
  | 9 => .long
  | _ => .long
theorem am_n3 : ∀ a, a < 11 → ∀ b, b < 11 → a ≠ b → (am_T3 a).2.1 ≠ (am_T3 b).2.1 := by decide +kernel
theorem am_ty3 : ∀ k, k < 11 → parseFieldDescriptor (am_T3 k).2.2.1 = some (am_t3 k) := by decide +kernel
theorem am_w3 : ∀ w ∈ u_ws am_R3 am_T3 11, w ∈ am_big := by decide +kernel
def am_R4 : String := "SewnAheadModel"
def am_T4 : u_T := fun k => match k with
  | 0 => ("SewnAheadModel", "w", "[I", true)
  | 1 => ("SewnAheadModel", "stitches", "I", false)
  | 2 => ("SewnAheadModel", "keptStitches", "[I", true)
  | 3 => ("SewnAheadModel", "rows", "[I", true)
  | 4 => ("SewnAheadModel", "rowSize", "[I", true)
  | 5 => ("SewnAheadModel", "texts", "[I", true)
  | 6 => ("SewnAheadModel", "textSize", "[I", true)
  | 7 => ("SewnAheadModel", "held", "[I", true)
  | 8 => ("SewnAheadModel", "finding", "I", false)
  | 9 => ("SewnAheadModel", "findings", "[I", true)
  | 10 => ("SewnAheadModel", "asked", "I", false)
  | 11 => ("SewnAheadModel", "upper", "J", false)
  | 12 => ("SewnAheadModel", "lower", "J", false)
  | 13 => ("SewnAheadModel", "position", "I", false)
  | 14 => ("SewnAheadModel", "what", "[I", true)
  | 15 => ("SewnAheadModel", "cause", "[I", true)
  | 16 => ("SewnAheadModel", "without", "I", false)
  | 17 => ("SewnAheadModel", "change", "[I", true)
  | 18 => ("SewnAheadModel", "bestPlan", "I", false)
  | _ => ("SewnAheadModel", "h", "J", false)
def am_t4 : Nat → FieldType := fun k => match k with
  | 0 => .array .int
  | 1 => .int
  | 2 => .array .int
  | 3 => .array .int
  | 4 => .array .int
  | 5 => .array .int
  | 6 => .array .int
  | 7 => .array .int
  | 8 => .int
  | 9 => .array .int
  | 10 => .int
  | 11 => .long
  | 12 => .long
  | 13 => .int
  | 14 => .array .int
  | 15 => .array .int
  | 16 => .int
  | 17 => .array .int
  | 18 => .int
  | _ => .long
theorem am_n4 : ∀ a, a < 20 → ∀ b, b < 20 → a ≠ b → (am_T4 a).2.1 ≠ (am_T4 b).2.1 := by decide +kernel
theorem am_ty4 : ∀ k, k < 20 → parseFieldDescriptor (am_T4 k).2.2.1 = some (am_t4 k) := by decide +kernel
theorem am_w4 : ∀ w ∈ u_ws am_R4 am_T4 20, w ∈ am_big := by decide +kernel
abbrev am_cl : List vw_C := [(am_R0, am_T0, 13), (am_R1, am_T1, 8), (am_R2, am_T2, 2), (am_R3, am_T3, 11), (am_R4, am_T4, 20)]
def am_ft : Nat → Nat → Nat := fun ci k => match ci with
  | 0 => ([0, 2, 2, 0, 2, 2, 2, 0, 2, 2, 2, 2, 2] : List Nat).getD k 0
  | 1 => ([2, 2, 2, 0, 3, 3, 0, 2] : List Nat).getD k 0
  | 2 => ([2, 0] : List Nat).getD k 0
  | 3 => ([2, 2, 2, 2, 2, 2, 2, 0, 0, 1, 1] : List Nat).getD k 0
  | _ => ([2, 0, 2, 2, 2, 2, 2, 2, 0, 2, 0, 1, 1, 0, 2, 2, 0, 2, 0, 1] : List Nat).getD k 0
abbrev k_S_init : Nat := 0
abbrev k_O_init : Nat := 1
abbrev k_C_init : Nat := 2
abbrev k_P_init : Nat := 3
abbrev k_R_init : Nat := 4
abbrev k_J_max : Nat := 5
abbrev k_S_row : Nat := 6
abbrev k_S_isRow : Nat := 7
abbrev k_S_refuse : Nat := 8
abbrev k_R_begin : Nat := 9
abbrev k_J_min : Nat := 10
abbrev k_J_fill : Nat := 11
abbrev k_S_lay : Nat := 12
abbrev k_S_refusePlace : Nat := 13
abbrev k_R_isMissing : Nat := 14
abbrev k_R_has : Nat := 15
abbrev k_S_at : Nat := 16
abbrev k_S_tear : Nat := 17
abbrev k_R_remove : Nat := 18
abbrev k_S_copy : Nat := 19
abbrev k_R_hasSpan : Nat := 20
abbrev k_S_mean : Nat := 21
abbrev k_S_text : Nat := 22
abbrev k_S_isText : Nat := 23
abbrev k_S_put : Nat := 24
abbrev k_S_fault : Nat := 25
abbrev k_D_read : Nat := 26
abbrev k_C_clear : Nat := 27
abbrev k_D_pastBlanks : Nat := 28
abbrev k_D_signAt : Nat := 29
abbrev k_D_isYearSign : Nat := 30
abbrev k_S_isScene : Nat := 31
abbrev k_C_addYear : Nat := 32
abbrev k_C_set : Nat := 33
abbrev k_D_readLaws : Nat := 34
abbrev k_D_kindOf : Nat := 35
abbrev k_C_addLaw : Nat := 36
abbrev k_S_cloth : Nat := 37
abbrev k_C_take : Nat := 38
abbrev k_C_settleFrom : Nat := 39
abbrev k_C_settle : Nat := 40
abbrev k_C_gapFor : Nat := 41
abbrev k_C_lawHoldingIn : Nat := 42
abbrev k_C_holds : Nat := 43
abbrev k_S_year : Nat := 44
abbrev k_S_isYear : Nat := 45
abbrev k_S_ofYear : Nat := 46
abbrev k_S_law : Nat := 47
abbrev k_S_isLaw : Nat := 48
abbrev k_S_ofLaw : Nat := 49
abbrev k_C_isBroken : Nat := 50
abbrev k_C_isBrokenIn : Nat := 51
abbrev k_C_isOfKind : Nat := 52
abbrev k_S_mark : Nat := 53
abbrev k_C_yearsWith : Nat := 54
abbrev k_J_bitCount : Nat := 55
abbrev k_C_yearsThatAre : Nat := 56
abbrev k_S_end : Nat := 57
abbrev k_S_sew : Nat := 58
abbrev k_S_stitched : Nat := 59
abbrev k_C_allows : Nat := 60
abbrev k_C_stitch : Nat := 61
abbrev k_C_change : Nat := 62
abbrev k_C_brokenLaws : Nat := 63
abbrev k_S_unpick : Nat := 64
abbrev k_S_undo : Nat := 65
abbrev k_C_unstitch : Nat := 66
abbrev k_S_keep : Nat := 67
abbrev k_S_isKeptPlace : Nat := 68
abbrev k_S_on : Nat := 69
abbrev k_S_happens : Nat := 70
abbrev k_S_by : Nat := 71
abbrev k_S_broken : Nat := 72
abbrev k_C_firstYearOf : Nat := 73
abbrev k_J_numberOfTrailingZeros : Nat := 74
abbrev k_S_can : Nat := 75
abbrev k_S_safe : Nat := 76
abbrev k_S_isWholeWhateverIsSewn : Nat := 77
abbrev k_S_least : Nat := 78
abbrev k_P_begin : Nat := 79
abbrev k_P_want : Nat := 80
abbrev k_S_fewestInto : Nat := 81
abbrev k_P_seek : Nat := 82
abbrev k_P_goOn : Nat := 83
abbrev k_P_add : Nat := 84
abbrev k_P_isAllowed : Nat := 85
abbrev k_P_fits : Nat := 86
abbrev k_S_happeningBit : Nat := 87
abbrev k_C_isAnyBrokenIn : Nat := 88
abbrev k_S_ways : Nat := 89
abbrev k_S_tellFraction : Nat := 90
abbrev k_S_commonDivisor : Nat := 91
abbrev k_S_avert : Nat := 92
abbrev k_S_judge : Nat := 93
abbrev k_C_yearsWithSomething : Nat := 94
abbrev k_S_was : Nat := 95
abbrev k_S_refuseHistory : Nat := 96
abbrev k_C_happensAs : Nat := 97
abbrev k_S_kinds : Nat := 98
abbrev k_S_needed : Nat := 99
abbrev k_S_forged : Nat := 100
abbrev k_S_firstChanged : Nat := 101
abbrev k_S_odds : Nat := 102
abbrev k_S_lots : Nat := 103
abbrev k_S_asked : Nat := 104
abbrev k_S_upper : Nat := 105
abbrev k_S_lower : Nat := 106
abbrev k_S_count : Nat := 107
abbrev k_C_lawsOfKind : Nat := 108
abbrev k_S_thatAreThere : Nat := 109
abbrev k_S_keptCloths : Nat := 110
abbrev k_S_finding : Nat := 111
abbrev k_S_findings : Nat := 112
abbrev k_S_digest : Nat := 113
abbrev k_S_foldRows : Nat := 114
abbrev k_M_init : Nat := 115
abbrev k_M_row : Nat := 116
abbrev k_M_isRow : Nat := 117
abbrev k_M_in : Nat := 118
abbrev k_M_found : Nat := 119
abbrev k_M_anew : Nat := 120
abbrev k_M_lay : Nat := 121
abbrev k_M_at : Nat := 122
abbrev k_M_tells : Nat := 123
abbrev k_M_tear : Nat := 124
abbrev k_M_copy : Nat := 125
abbrev k_M_fits : Nat := 126
abbrev k_M_mean : Nat := 127
abbrev k_M_text : Nat := 128
abbrev k_M_isText : Nat := 129
abbrev k_M_put : Nat := 130
abbrev k_M_fault : Nat := 131
abbrev k_M_faultOf : Nat := 132
abbrev k_M_blanks : Nat := 133
abbrev k_M_byteAt : Nat := 134
abbrev k_M_takesYears : Nat := 135
abbrev k_M_isSign : Nat := 136
abbrev k_M_isScene : Nat := 137
abbrev k_M_takesLaw : Nat := 138
abbrev k_M_kindOf : Nat := 139
abbrev k_M_cloth : Nat := 140
abbrev k_M_copyAll : Nat := 141
abbrev k_M_year : Nat := 142
abbrev k_M_isYear : Nat := 143
abbrev k_M_plays : Nat := 144
abbrev k_M_holds : Nat := 145
abbrev k_M_happenedAhead : Nat := 146
abbrev k_M_yearTells : Nat := 147
abbrev k_M_law : Nat := 148
abbrev k_M_isLaw : Nat := 149
abbrev k_M_lawTells : Nat := 150
abbrev k_M_isBroken : Nat := 151
abbrev k_M_yearsOf : Nat := 152
abbrev k_M_ones : Nat := 153
abbrev k_M_mark : Nat := 154
abbrev k_M_yearsThat : Nat := 155
abbrev k_M_end : Nat := 156
abbrev k_M_isTold : Nat := 157
abbrev k_M_sew : Nat := 158
abbrev k_M_minds : Nat := 159
abbrev k_M_sews : Nat := 160
abbrev k_M_brokenNow : Nat := 161
abbrev k_M_unpick : Nat := 162
abbrev k_M_undo : Nat := 163
abbrev k_M_keep : Nat := 164
abbrev k_M_on : Nat := 165
abbrev k_M_happens : Nat := 166
abbrev k_M_by : Nat := 167
abbrev k_M_broken : Nat := 168
abbrev k_M_has : Nat := 169
abbrev k_M_can : Nat := 170
abbrev k_M_lays : Nat := 171
abbrev k_M_putsBack : Nat := 172
abbrev k_M_safe : Nat := 173
abbrev k_M_least : Nat := 174
abbrev k_M_fewest : Nat := 175
abbrev k_M_plans : Nat := 176
abbrev k_M_does : Nat := 177
abbrev k_M_canBe : Nat := 178
abbrev k_M_tellsPlan : Nat := 179
abbrev k_M_ways : Nat := 180
abbrev k_M_avert : Nat := 181
abbrev k_M_judge : Nat := 182
abbrev k_M_happening : Nat := 183
abbrev k_M_was : Nat := 184
abbrev k_M_against : Nat := 185
abbrev k_M_isSo : Nat := 186
abbrev k_M_kinds : Nat := 187
abbrev k_M_needed : Nat := 188
abbrev k_M_forged : Nat := 189
abbrev k_M_odds : Nat := 190
abbrev k_M_chance : Nat := 191
abbrev k_M_lots : Nat := 192
abbrev k_M_asked : Nat := 193
abbrev k_M_upper : Nat := 194
abbrev k_M_lower : Nat := 195
abbrev k_M_count : Nat := 196
abbrev k_M_barsMany : Nat := 197
abbrev k_M_thereOf : Nat := 198
abbrev k_M_finding : Nat := 199
abbrev k_M_findings : Nat := 200
abbrev k_M_digest : Nat := 201
abbrev k_M_mix : Nat := 202
abbrev k_L_law : Nat := 203
abbrev am_Q : Type := MethodName × ByteArray × Nat × Option FieldType
def am_mt_0 : List am_Q := [
  (⟨"SewnAhead", "<init>", "()V"⟩, prog_1_method_1_code, 2, none),
  (⟨"java/lang/Object", "<init>", "()V"⟩, object_method_1_code, 1, none),
  (⟨"SewnAhead$Cloth", "<init>", "()V"⟩, prog_2_method_1_code, 1, none),
  (⟨"SewnAhead$Plans", "<init>", "()V"⟩, prog_3_method_1_code, 1, none),
  (⟨"SewnAhead$Row", "<init>", "(I)V"⟩, prog_5_method_1_code, 2, none),
  (⟨"java/lang/Math", "max", "(II)I"⟩, prog_9_method_65_code, 2, (some .int)),
  (⟨"SewnAhead", "row", "(II)I"⟩, prog_1_method_2_code, 3, (some .int)),
  (⟨"SewnAhead", "isRow", "(I)Z"⟩, prog_1_method_43_code, 1, (some .boolean)),
  (⟨"SewnAhead", "refuse", "(I)I"⟩, prog_1_method_49_code, 2, (some .int)),
  (⟨"SewnAhead$Row", "begin", "(II)V"⟩, prog_5_method_5_code, 3, none),
  (⟨"java/lang/Math", "min", "(II)I"⟩, prog_9_method_69_code, 2, (some .int)),
  (⟨"java/util/Arrays", "fill", "([II)V"⟩, prog_11_method_103_code, 4, none),
  (⟨"SewnAhead", "lay", "(III)I"⟩, prog_1_method_3_code, 5, (some .int)),
  (⟨"SewnAhead", "refusePlace", "(LSewnAhead$Row;I)I"⟩, prog_1_method_50_code, 3, (some .int)),
  (⟨"SewnAhead$Row", "isMissing", "()Z"⟩, prog_5_method_2_code, 1, (some .boolean)),
  (⟨"SewnAhead$Row", "has", "(I)Z"⟩, prog_5_method_3_code, 2, (some .boolean))]
def am_mt_1 : List am_Q := [
  (⟨"SewnAhead", "at", "(II)I"⟩, prog_1_method_4_code, 4, (some .int)),
  (⟨"SewnAhead", "tear", "(I)I"⟩, prog_1_method_5_code, 2, (some .int)),
  (⟨"SewnAhead$Row", "remove", "()V"⟩, prog_5_method_6_code, 1, none),
  (⟨"SewnAhead", "copy", "(IIIII)I"⟩, prog_1_method_6_code, 6, (some .int)),
  (⟨"SewnAhead$Row", "hasSpan", "(II)Z"⟩, prog_5_method_4_code, 3, (some .boolean)),
  (⟨"SewnAhead", "mean", "(I)I"⟩, prog_1_method_7_code, 6, (some .int)),
  (⟨"SewnAhead", "text", "(II)I"⟩, prog_1_method_8_code, 3, (some .int)),
  (⟨"SewnAhead", "isText", "(I)Z"⟩, prog_1_method_44_code, 1, (some .boolean)),
  (⟨"SewnAhead", "put", "(III)I"⟩, prog_1_method_9_code, 6, (some .int)),
  (⟨"SewnAhead", "fault", "(I)I"⟩, prog_1_method_10_code, 2, (some .int)),
  (⟨"SewnAhead$Reader", "read", "(LSewnAhead$Row;LSewnAhead$Cloth;)I"⟩, prog_4_method_2_code, 5, (some .int)),
  (⟨"SewnAhead$Cloth", "clear", "()V"⟩, prog_2_method_2_code, 1, none),
  (⟨"SewnAhead$Reader", "pastBlanks", "(LSewnAhead$Row;I)I"⟩, prog_4_method_4_code, 3, (some .int)),
  (⟨"SewnAhead$Reader", "signAt", "(LSewnAhead$Row;I)I"⟩, prog_4_method_5_code, 2, (some .int)),
  (⟨"SewnAhead$Reader", "isYearSign", "(I)Z"⟩, prog_4_method_6_code, 1, (some .boolean)),
  (⟨"SewnAhead", "isScene", "(I)Z"⟩, prog_1_method_46_code, 1, (some .boolean))]
def am_mt_2 : List am_Q := [
  (⟨"SewnAhead$Cloth", "addYear", "(I)V"⟩, prog_2_method_4_code, 2, none),
  (⟨"SewnAhead$Cloth", "set", "(III)V"⟩, prog_2_method_6_code, 4, none),
  (⟨"SewnAhead$Reader", "readLaws", "(LSewnAhead$Row;ILSewnAhead$Cloth;)I"⟩, prog_4_method_3_code, 8, (some .int)),
  (⟨"SewnAhead$Reader", "kindOf", "(I)I"⟩, prog_4_method_7_code, 2, (some .int)),
  (⟨"SewnAhead$Cloth", "addLaw", "(III)V"⟩, prog_2_method_5_code, 4, none),
  (⟨"SewnAhead", "cloth", "(I)I"⟩, prog_1_method_11_code, 3, (some .int)),
  (⟨"SewnAhead$Cloth", "take", "(LSewnAhead$Cloth;)V"⟩, prog_2_method_3_code, 2, none),
  (⟨"SewnAhead$Cloth", "settleFrom", "(I)V"⟩, prog_2_method_11_code, 3, none),
  (⟨"SewnAhead$Cloth", "settle", "(I)V"⟩, prog_2_method_12_code, 3, none),
  (⟨"SewnAhead$Cloth", "gapFor", "(I)I"⟩, prog_2_method_13_code, 3, (some .int)),
  (⟨"SewnAhead$Cloth", "lawHoldingIn", "(I)I"⟩, prog_2_method_14_code, 3, (some .int)),
  (⟨"SewnAhead$Cloth", "holds", "(II)Z"⟩, prog_2_method_15_code, 5, (some .boolean)),
  (⟨"SewnAhead", "year", "(II)I"⟩, prog_1_method_12_code, 3, (some .int)),
  (⟨"SewnAhead", "isYear", "(I)Z"⟩, prog_1_method_47_code, 2, (some .boolean)),
  (⟨"SewnAhead", "ofYear", "(II)I"⟩, prog_1_method_53_code, 3, (some .int)),
  (⟨"SewnAhead", "law", "(II)I"⟩, prog_1_method_13_code, 3, (some .int))]
def am_mt_3 : List am_Q := [
  (⟨"SewnAhead", "isLaw", "(I)Z"⟩, prog_1_method_48_code, 2, (some .boolean)),
  (⟨"SewnAhead", "ofLaw", "(II)I"⟩, prog_1_method_54_code, 3, (some .int)),
  (⟨"SewnAhead$Cloth", "isBroken", "(I)Z"⟩, prog_2_method_23_code, 3, (some .boolean)),
  (⟨"SewnAhead$Cloth", "isBrokenIn", "(II)Z"⟩, prog_2_method_22_code, 4, (some .boolean)),
  (⟨"SewnAhead$Cloth", "isOfKind", "(II)Z"⟩, prog_2_method_20_code, 3, (some .boolean)),
  (⟨"SewnAhead", "mark", "(II)I"⟩, prog_1_method_14_code, 5, (some .int)),
  (⟨"SewnAhead$Cloth", "yearsWith", "(I)I"⟩, prog_2_method_17_code, 4, (some .int)),
  (⟨"java/lang/Integer", "bitCount", "(I)I"⟩, prog_8_method_49_code, 1, (some .int)),
  (⟨"SewnAhead$Cloth", "yearsThatAre", "(I)I"⟩, prog_2_method_19_code, 4, (some .int)),
  (⟨"SewnAhead", "end", "(II)I"⟩, prog_1_method_15_code, 4, (some .int)),
  (⟨"SewnAhead", "sew", "(II)I"⟩, prog_1_method_16_code, 3, (some .int)),
  (⟨"SewnAhead", "stitched", "(II)I"⟩, prog_1_method_52_code, 3, (some .int)),
  (⟨"SewnAhead$Cloth", "allows", "(II)Z"⟩, prog_2_method_7_code, 3, (some .boolean)),
  (⟨"SewnAhead$Cloth", "stitch", "(II)V"⟩, prog_2_method_9_code, 3, none),
  (⟨"SewnAhead$Cloth", "change", "(II)V"⟩, prog_2_method_8_code, 3, none),
  (⟨"SewnAhead$Cloth", "brokenLaws", "()I"⟩, prog_2_method_25_code, 3, (some .int))]
def am_mt_4 : List am_Q := [
  (⟨"SewnAhead", "unpick", "(I)I"⟩, prog_1_method_17_code, 2, (some .int)),
  (⟨"SewnAhead", "undo", "(I)I"⟩, prog_1_method_18_code, 3, (some .int)),
  (⟨"SewnAhead$Cloth", "unstitch", "(I)V"⟩, prog_2_method_10_code, 3, none),
  (⟨"SewnAhead", "keep", "(I)I"⟩, prog_1_method_19_code, 2, (some .int)),
  (⟨"SewnAhead", "isKeptPlace", "(I)Z"⟩, prog_1_method_45_code, 1, (some .boolean)),
  (⟨"SewnAhead", "on", "(I)I"⟩, prog_1_method_20_code, 2, (some .int)),
  (⟨"SewnAhead", "happens", "(I)I"⟩, prog_1_method_21_code, 2, (some .int)),
  (⟨"SewnAhead", "by", "(I)I"⟩, prog_1_method_22_code, 2, (some .int)),
  (⟨"SewnAhead", "broken", "()I"⟩, prog_1_method_23_code, 2, (some .int)),
  (⟨"SewnAhead$Cloth", "firstYearOf", "(I)I"⟩, prog_2_method_26_code, 4, (some .int)),
  (⟨"java/lang/Integer", "numberOfTrailingZeros", "(I)I"⟩, prog_8_method_48_code, 2, (some .int)),
  (⟨"SewnAhead", "can", "(I)I"⟩, prog_1_method_24_code, 4, (some .int)),
  (⟨"SewnAhead", "safe", "(I)I"⟩, prog_1_method_25_code, 4, (some .int)),
  (⟨"SewnAhead", "isWholeWhateverIsSewn", "(I)Z"⟩, prog_1_method_55_code, 3, (some .boolean)),
  (⟨"SewnAhead", "least", "(III)I"⟩, prog_1_method_26_code, 4, (some .int)),
  (⟨"SewnAhead$Plans", "begin", "(ZZ)V"⟩, prog_3_method_2_code, 3, none)]
def am_mt_5 : List am_Q := [
  (⟨"SewnAhead$Plans", "want", "(II)V"⟩, prog_3_method_3_code, 3, none),
  (⟨"SewnAhead", "fewestInto", "(I)I"⟩, prog_1_method_56_code, 3, (some .int)),
  (⟨"SewnAhead$Plans", "seek", "(LSewnAhead$Cloth;I)I"⟩, prog_3_method_4_code, 3, (some .int)),
  (⟨"SewnAhead$Plans", "goOn", "(II)V"⟩, prog_3_method_5_code, 7, none),
  (⟨"SewnAhead$Plans", "add", "()V"⟩, prog_3_method_8_code, 1, none),
  (⟨"SewnAhead$Plans", "isAllowed", "(II)Z"⟩, prog_3_method_6_code, 3, (some .boolean)),
  (⟨"SewnAhead$Plans", "fits", "(I)Z"⟩, prog_3_method_7_code, 2, (some .boolean)),
  (⟨"SewnAhead", "happeningBit", "(I)I"⟩, prog_1_method_58_code, 1, (some .int)),
  (⟨"SewnAhead$Cloth", "isAnyBrokenIn", "(I)Z"⟩, prog_2_method_24_code, 3, (some .boolean)),
  (⟨"SewnAhead", "ways", "(III)I"⟩, prog_1_method_27_code, 4, (some .int)),
  (⟨"SewnAhead", "tellFraction", "(JJ)V"⟩, prog_1_method_59_code, 7, none),
  (⟨"SewnAhead", "commonDivisor", "(JJ)J"⟩, prog_1_method_60_code, 7, (some .long)),
  (⟨"SewnAhead", "avert", "(II)I"⟩, prog_1_method_28_code, 4, (some .int)),
  (⟨"SewnAhead", "judge", "(I)I"⟩, prog_1_method_29_code, 4, (some .int)),
  (⟨"SewnAhead$Cloth", "yearsWithSomething", "()I"⟩, prog_2_method_18_code, 1, (some .int)),
  (⟨"SewnAhead", "was", "(II)I"⟩, prog_1_method_30_code, 6, (some .int))]
def am_mt_6 : List am_Q := [
  (⟨"SewnAhead", "refuseHistory", "(I)I"⟩, prog_1_method_51_code, 5, (some .int)),
  (⟨"SewnAhead$Cloth", "happensAs", "([I)Z"⟩, prog_2_method_16_code, 3, (some .boolean)),
  (⟨"SewnAhead", "kinds", "(II)I"⟩, prog_1_method_31_code, 6, (some .int)),
  (⟨"SewnAhead", "needed", "()I"⟩, prog_1_method_32_code, 3, (some .int)),
  (⟨"SewnAhead", "forged", "(I)I"⟩, prog_1_method_33_code, 4, (some .int)),
  (⟨"SewnAhead", "firstChanged", "([I)I"⟩, prog_1_method_57_code, 3, (some .int)),
  (⟨"SewnAhead", "odds", "(II)I"⟩, prog_1_method_34_code, 7, (some .int)),
  (⟨"SewnAhead", "lots", "(II)I"⟩, prog_1_method_35_code, 7, (some .int)),
  (⟨"SewnAhead", "asked", "()I"⟩, prog_1_method_36_code, 1, (some .int)),
  (⟨"SewnAhead", "upper", "()J"⟩, prog_1_method_37_code, 1, (some .long)),
  (⟨"SewnAhead", "lower", "()J"⟩, prog_1_method_38_code, 1, (some .long)),
  (⟨"SewnAhead", "count", "(I)I"⟩, prog_1_method_39_code, 2, (some .int)),
  (⟨"SewnAhead$Cloth", "lawsOfKind", "(I)I"⟩, prog_2_method_21_code, 4, (some .int)),
  (⟨"SewnAhead", "thatAreThere", "([LSewnAhead$Row;)I"⟩, prog_1_method_61_code, 3, (some .int)),
  (⟨"SewnAhead", "keptCloths", "()I"⟩, prog_1_method_62_code, 3, (some .int)),
  (⟨"SewnAhead", "finding", "()I"⟩, prog_1_method_40_code, 1, (some .int))]
def am_mt_7 : List am_Q := [
  (⟨"SewnAhead", "findings", "(I)I"⟩, prog_1_method_41_code, 2, (some .int)),
  (⟨"SewnAhead", "digest", "()J"⟩, prog_1_method_42_code, 5, (some .long)),
  (⟨"SewnAhead", "foldRows", "(J[LSewnAhead$Row;)J"⟩, prog_1_method_63_code, 6, (some .long)),
  (⟨"SewnAheadModel", "<init>", "()V"⟩, prog_7_method_1_code, 2, none),
  (⟨"SewnAheadModel", "row", "(II)I"⟩, prog_7_method_12_code, 3, (some .int)),
  (⟨"SewnAheadModel", "isRow", "(I)Z"⟩, prog_7_method_9_code, 1, (some .boolean)),
  (⟨"SewnAheadModel", "in", "(JJJ)Z"⟩, prog_7_method_3_code, 6, (some .boolean)),
  (⟨"SewnAheadModel", "found", "(I)I"⟩, prog_7_method_6_code, 2, (some .int)),
  (⟨"SewnAheadModel", "anew", "(II)V"⟩, prog_7_method_11_code, 4, none),
  (⟨"SewnAheadModel", "lay", "(III)I"⟩, prog_7_method_13_code, 5, (some .int)),
  (⟨"SewnAheadModel", "at", "(II)I"⟩, prog_7_method_14_code, 3, (some .int)),
  (⟨"SewnAheadModel", "tells", "(II)I"⟩, prog_7_method_7_code, 3, (some .int)),
  (⟨"SewnAheadModel", "tear", "(I)I"⟩, prog_7_method_15_code, 2, (some .int)),
  (⟨"SewnAheadModel", "copy", "(IIIII)I"⟩, prog_7_method_17_code, 7, (some .int)),
  (⟨"SewnAheadModel", "fits", "(III)Z"⟩, prog_7_method_16_code, 3, (some .boolean)),
  (⟨"SewnAheadModel", "mean", "(I)I"⟩, prog_7_method_18_code, 5, (some .int))]
def am_mt_8 : List am_Q := [
  (⟨"SewnAheadModel", "text", "(II)I"⟩, prog_7_method_19_code, 4, (some .int)),
  (⟨"SewnAheadModel", "isText", "(I)Z"⟩, prog_7_method_10_code, 1, (some .boolean)),
  (⟨"SewnAheadModel", "put", "(III)I"⟩, prog_7_method_20_code, 5, (some .int)),
  (⟨"SewnAheadModel", "fault", "(I)I"⟩, prog_7_method_29_code, 2, (some .int)),
  (⟨"SewnAheadModel", "faultOf", "(I)I"⟩, prog_7_method_28_code, 3, (some .int)),
  (⟨"SewnAheadModel", "blanks", "(I)V"⟩, prog_7_method_23_code, 2, none),
  (⟨"SewnAheadModel", "byteAt", "(II)I"⟩, prog_7_method_22_code, 3, (some .int)),
  (⟨"SewnAheadModel", "takesYears", "(I)Z"⟩, prog_7_method_26_code, 4, (some .boolean)),
  (⟨"SewnAheadModel", "isSign", "(I)Z"⟩, prog_7_method_25_code, 2, (some .boolean)),
  (⟨"SewnAheadModel", "isScene", "(I)Z"⟩, prog_7_method_24_code, 2, (some .boolean)),
  (⟨"SewnAheadModel", "takesLaw", "(I)Z"⟩, prog_7_method_27_code, 5, (some .boolean)),
  (⟨"SewnAheadModel", "kindOf", "(I)I"⟩, prog_7_method_21_code, 1, (some .int)),
  (⟨"SewnAheadModel", "cloth", "(I)I"⟩, prog_7_method_30_code, 3, (some .int)),
  (⟨"SewnAheadModel", "copyAll", "(III)V"⟩, prog_7_method_8_code, 5, none),
  (⟨"SewnAheadModel", "year", "(II)I"⟩, prog_7_method_42_code, 3, (some .int)),
  (⟨"SewnAheadModel", "isYear", "(I)Z"⟩, prog_7_method_31_code, 2, (some .boolean))]
def am_mt_9 : List am_Q := [
  (⟨"SewnAheadModel", "plays", "()V"⟩, prog_7_method_36_code, 6, none),
  (⟨"SewnAheadModel", "holds", "(II)Z"⟩, prog_7_method_35_code, 4, (some .boolean)),
  (⟨"SewnAheadModel", "happenedAhead", "(III)Z"⟩, prog_7_method_34_code, 4, (some .boolean)),
  (⟨"SewnAheadModel", "yearTells", "(II)I"⟩, prog_7_method_41_code, 3, (some .int)),
  (⟨"SewnAheadModel", "law", "(II)I"⟩, prog_7_method_44_code, 3, (some .int)),
  (⟨"SewnAheadModel", "isLaw", "(I)Z"⟩, prog_7_method_32_code, 2, (some .boolean)),
  (⟨"SewnAheadModel", "lawTells", "(II)I"⟩, prog_7_method_43_code, 3, (some .int)),
  (⟨"SewnAheadModel", "isBroken", "(I)Z"⟩, prog_7_method_38_code, 5, (some .boolean)),
  (⟨"SewnAheadModel", "yearsOf", "(I)I"⟩, prog_7_method_37_code, 4, (some .int)),
  (⟨"SewnAheadModel", "ones", "(I)I"⟩, prog_7_method_5_code, 3, (some .int)),
  (⟨"SewnAheadModel", "mark", "(II)I"⟩, prog_7_method_46_code, 6, (some .int)),
  (⟨"SewnAheadModel", "yearsThat", "(I)I"⟩, prog_7_method_45_code, 4, (some .int)),
  (⟨"SewnAheadModel", "end", "(II)I"⟩, prog_7_method_47_code, 4, (some .int)),
  (⟨"SewnAheadModel", "isTold", "(I)Z"⟩, prog_7_method_33_code, 1, (some .boolean)),
  (⟨"SewnAheadModel", "sew", "(II)I"⟩, prog_7_method_50_code, 3, (some .int)),
  (⟨"SewnAheadModel", "minds", "()V"⟩, prog_7_method_48_code, 1, none)]
def am_mt_10 : List am_Q := [
  (⟨"SewnAheadModel", "sews", "(II)V"⟩, prog_7_method_49_code, 3, none),
  (⟨"SewnAheadModel", "brokenNow", "()I"⟩, prog_7_method_39_code, 3, (some .int)),
  (⟨"SewnAheadModel", "unpick", "(I)I"⟩, prog_7_method_51_code, 2, (some .int)),
  (⟨"SewnAheadModel", "undo", "(I)I"⟩, prog_7_method_52_code, 3, (some .int)),
  (⟨"SewnAheadModel", "keep", "(I)I"⟩, prog_7_method_53_code, 2, (some .int)),
  (⟨"SewnAheadModel", "on", "(I)I"⟩, prog_7_method_54_code, 2, (some .int)),
  (⟨"SewnAheadModel", "happens", "(I)I"⟩, prog_7_method_55_code, 2, (some .int)),
  (⟨"SewnAheadModel", "by", "(I)I"⟩, prog_7_method_56_code, 2, (some .int)),
  (⟨"SewnAheadModel", "broken", "()I"⟩, prog_7_method_57_code, 5, (some .int)),
  (⟨"SewnAheadModel", "has", "(II)Z"⟩, prog_7_method_4_code, 2, (some .boolean)),
  (⟨"SewnAheadModel", "can", "(I)I"⟩, prog_7_method_60_code, 4, (some .int)),
  (⟨"SewnAheadModel", "lays", "()V"⟩, prog_7_method_58_code, 1, none),
  (⟨"SewnAheadModel", "putsBack", "()V"⟩, prog_7_method_59_code, 1, none),
  (⟨"SewnAheadModel", "safe", "(I)I"⟩, prog_7_method_61_code, 6, (some .int)),
  (⟨"SewnAheadModel", "least", "(III)I"⟩, prog_7_method_67_code, 5, (some .int)),
  (⟨"SewnAheadModel", "fewest", "(II)I"⟩, prog_7_method_66_code, 8, (some .int))]
def am_mt_11 : List am_Q := [
  (⟨"SewnAheadModel", "plans", "()I"⟩, prog_7_method_62_code, 3, (some .int)),
  (⟨"SewnAheadModel", "does", "(I)I"⟩, prog_7_method_64_code, 6, (some .int)),
  (⟨"SewnAheadModel", "canBe", "(II)Z"⟩, prog_7_method_63_code, 3, (some .boolean)),
  (⟨"SewnAheadModel", "tellsPlan", "(II)V"⟩, prog_7_method_65_code, 5, none),
  (⟨"SewnAheadModel", "ways", "(III)I"⟩, prog_7_method_68_code, 9, (some .int)),
  (⟨"SewnAheadModel", "avert", "(II)I"⟩, prog_7_method_69_code, 4, (some .int)),
  (⟨"SewnAheadModel", "judge", "(I)I"⟩, prog_7_method_70_code, 6, (some .int)),
  (⟨"SewnAheadModel", "happening", "()I"⟩, prog_7_method_40_code, 3, (some .int)),
  (⟨"SewnAheadModel", "was", "(II)I"⟩, prog_7_method_73_code, 7, (some .int)),
  (⟨"SewnAheadModel", "against", "(I)I"⟩, prog_7_method_71_code, 4, (some .int)),
  (⟨"SewnAheadModel", "isSo", "(I)Z"⟩, prog_7_method_72_code, 4, (some .boolean)),
  (⟨"SewnAheadModel", "kinds", "(II)I"⟩, prog_7_method_74_code, 7, (some .int)),
  (⟨"SewnAheadModel", "needed", "()I"⟩, prog_7_method_75_code, 4, (some .int)),
  (⟨"SewnAheadModel", "forged", "(I)I"⟩, prog_7_method_76_code, 9, (some .int)),
  (⟨"SewnAheadModel", "odds", "(II)I"⟩, prog_7_method_78_code, 9, (some .int)),
  (⟨"SewnAheadModel", "chance", "(II)I"⟩, prog_7_method_77_code, 6, (some .int))]
def am_mt_12 : List am_Q := [
  (⟨"SewnAheadModel", "lots", "(II)I"⟩, prog_7_method_79_code, 7, (some .int)),
  (⟨"SewnAheadModel", "asked", "()I"⟩, prog_7_method_80_code, 1, (some .int)),
  (⟨"SewnAheadModel", "upper", "()J"⟩, prog_7_method_81_code, 1, (some .long)),
  (⟨"SewnAheadModel", "lower", "()J"⟩, prog_7_method_82_code, 1, (some .long)),
  (⟨"SewnAheadModel", "count", "(I)I"⟩, prog_7_method_85_code, 2, (some .int)),
  (⟨"SewnAheadModel", "barsMany", "()I"⟩, prog_7_method_83_code, 3, (some .int)),
  (⟨"SewnAheadModel", "thereOf", "([II)I"⟩, prog_7_method_84_code, 4, (some .int)),
  (⟨"SewnAheadModel", "finding", "()I"⟩, prog_7_method_86_code, 1, (some .int)),
  (⟨"SewnAheadModel", "findings", "(I)I"⟩, prog_7_method_87_code, 2, (some .int)),
  (⟨"SewnAheadModel", "digest", "()J"⟩, prog_7_method_89_code, 3, (some .long)),
  (⟨"SewnAheadModel", "mix", "(J)V"⟩, prog_7_method_88_code, 3, none)]
def am_mt0 : List am_Q := am_mt_0 ++ (am_mt_1 ++ (am_mt_2 ++ (am_mt_3 ++ (am_mt_4 ++ (am_mt_5 ++ (am_mt_6 ++ (am_mt_7 ++ (am_mt_8 ++ (am_mt_9 ++ (am_mt_10 ++ (am_mt_11 ++ (am_mt_12))))))))))))
def am_mt : List am_Q := am_mt0 ++ [(⟨"SewnAheadLaw", "law", "([I)Z"⟩, code, 4, (some .boolean))]
def am_ck (q : am_Q) : Prop := Cond.code q.1 q.2.1 q.2.2.1 q.2.2.2 ∈ am_big
theorem am_ck_of {q : am_Q} (p : Nat) (h : tables_1[p]? = some (Cond.code q.1 q.2.1 q.2.2.1 q.2.2.2)) : am_ck q := List.mem_filter.mpr ⟨List.mem_append_right _ (List.mem_of_getElem? h), rfl⟩
theorem am_cd_0 : am_ck (⟨"SewnAhead", "<init>", "()V"⟩, prog_1_method_1_code, 2, none) := am_ck_of 15 (by decide +kernel)
theorem am_cd_1 : am_ck (⟨"java/lang/Object", "<init>", "()V"⟩, object_method_1_code, 1, none) := am_ck_of 18 (by decide +kernel)
theorem am_cd_2 : am_ck (⟨"SewnAhead$Cloth", "<init>", "()V"⟩, prog_2_method_1_code, 1, none) := am_ck_of 25 (by decide +kernel)
theorem am_cd_3 : am_ck (⟨"SewnAhead$Plans", "<init>", "()V"⟩, prog_3_method_1_code, 1, none) := am_ck_of 88 (by decide +kernel)
theorem am_cd_4 : am_ck (⟨"SewnAhead$Row", "<init>", "(I)V"⟩, prog_5_method_1_code, 2, none) := am_ck_of 121 (by decide +kernel)
theorem am_cd_5 : am_ck (⟨"java/lang/Math", "max", "(II)I"⟩, prog_9_method_65_code, 2, (some .int)) := am_ck_of 125 (by decide +kernel)
theorem am_cd_6 : am_ck (⟨"SewnAhead", "row", "(II)I"⟩, prog_1_method_2_code, 3, (some .int)) := am_ck_of 174 (by decide +kernel)
theorem am_cd_7 : am_ck (⟨"SewnAhead", "isRow", "(I)Z"⟩, prog_1_method_43_code, 1, (some .boolean)) := am_ck_of 177 (by decide +kernel)
theorem am_cd_8 : am_ck (⟨"SewnAhead", "refuse", "(I)I"⟩, prog_1_method_49_code, 2, (some .int)) := am_ck_of 181 (by decide +kernel)
theorem am_cd_9 : am_ck (⟨"SewnAhead$Row", "begin", "(II)V"⟩, prog_5_method_5_code, 3, none) := am_ck_of 185 (by decide +kernel)
theorem am_cd_10 : am_ck (⟨"java/lang/Math", "min", "(II)I"⟩, prog_9_method_69_code, 2, (some .int)) := am_ck_of 188 (by decide +kernel)
theorem am_cd_11 : am_ck (⟨"java/util/Arrays", "fill", "([II)V"⟩, prog_11_method_103_code, 4, none) := am_ck_of 191 (by decide +kernel)
theorem am_cd_12 : am_ck (⟨"SewnAhead", "lay", "(III)I"⟩, prog_1_method_3_code, 5, (some .int)) := am_ck_of 195 (by decide +kernel)
theorem am_cd_13 : am_ck (⟨"SewnAhead", "refusePlace", "(LSewnAhead$Row;I)I"⟩, prog_1_method_50_code, 3, (some .int)) := am_ck_of 199 (by decide +kernel)
theorem am_cd_14 : am_ck (⟨"SewnAhead$Row", "isMissing", "()Z"⟩, prog_5_method_2_code, 1, (some .boolean)) := am_ck_of 203 (by decide +kernel)
theorem am_cd_15 : am_ck (⟨"SewnAhead$Row", "has", "(I)Z"⟩, prog_5_method_3_code, 2, (some .boolean)) := am_ck_of 207 (by decide +kernel)
theorem am_cd_16 : am_ck (⟨"SewnAhead", "at", "(II)I"⟩, prog_1_method_4_code, 4, (some .int)) := am_ck_of 211 (by decide +kernel)
theorem am_cd_17 : am_ck (⟨"SewnAhead", "tear", "(I)I"⟩, prog_1_method_5_code, 2, (some .int)) := am_ck_of 215 (by decide +kernel)
theorem am_cd_18 : am_ck (⟨"SewnAhead$Row", "remove", "()V"⟩, prog_5_method_6_code, 1, none) := am_ck_of 219 (by decide +kernel)
theorem am_cd_19 : am_ck (⟨"SewnAhead", "copy", "(IIIII)I"⟩, prog_1_method_6_code, 6, (some .int)) := am_ck_of 223 (by decide +kernel)
theorem am_cd_20 : am_ck (⟨"SewnAhead$Row", "hasSpan", "(II)Z"⟩, prog_5_method_4_code, 3, (some .boolean)) := am_ck_of 227 (by decide +kernel)
theorem am_cd_21 : am_ck (⟨"SewnAhead", "mean", "(I)I"⟩, prog_1_method_7_code, 6, (some .int)) := am_ck_of 234 (by decide +kernel)
theorem am_cd_22 : am_ck (⟨"SewnAhead", "text", "(II)I"⟩, prog_1_method_8_code, 3, (some .int)) := am_ck_of 238 (by decide +kernel)
theorem am_cd_23 : am_ck (⟨"SewnAhead", "isText", "(I)Z"⟩, prog_1_method_44_code, 1, (some .boolean)) := am_ck_of 241 (by decide +kernel)
theorem am_cd_24 : am_ck (⟨"SewnAhead", "put", "(III)I"⟩, prog_1_method_9_code, 6, (some .int)) := am_ck_of 245 (by decide +kernel)
theorem am_cd_25 : am_ck (⟨"SewnAhead", "fault", "(I)I"⟩, prog_1_method_10_code, 2, (some .int)) := am_ck_of 249 (by decide +kernel)
theorem am_cd_26 : am_ck (⟨"SewnAhead$Reader", "read", "(LSewnAhead$Row;LSewnAhead$Cloth;)I"⟩, prog_4_method_2_code, 5, (some .int)) := am_ck_of 252 (by decide +kernel)
theorem am_cd_27 : am_ck (⟨"SewnAhead$Cloth", "clear", "()V"⟩, prog_2_method_2_code, 1, none) := am_ck_of 256 (by decide +kernel)
theorem am_cd_28 : am_ck (⟨"SewnAhead$Reader", "pastBlanks", "(LSewnAhead$Row;I)I"⟩, prog_4_method_4_code, 3, (some .int)) := am_ck_of 259 (by decide +kernel)
theorem am_cd_29 : am_ck (⟨"SewnAhead$Reader", "signAt", "(LSewnAhead$Row;I)I"⟩, prog_4_method_5_code, 2, (some .int)) := am_ck_of 262 (by decide +kernel)
theorem am_cd_30 : am_ck (⟨"SewnAhead$Reader", "isYearSign", "(I)Z"⟩, prog_4_method_6_code, 1, (some .boolean)) := am_ck_of 266 (by decide +kernel)
theorem am_cd_31 : am_ck (⟨"SewnAhead", "isScene", "(I)Z"⟩, prog_1_method_46_code, 1, (some .boolean)) := am_ck_of 269 (by decide +kernel)
theorem am_cd_32 : am_ck (⟨"SewnAhead$Cloth", "addYear", "(I)V"⟩, prog_2_method_4_code, 2, none) := am_ck_of 273 (by decide +kernel)
theorem am_cd_33 : am_ck (⟨"SewnAhead$Cloth", "set", "(III)V"⟩, prog_2_method_6_code, 4, none) := am_ck_of 277 (by decide +kernel)
theorem am_cd_34 : am_ck (⟨"SewnAhead$Reader", "readLaws", "(LSewnAhead$Row;ILSewnAhead$Cloth;)I"⟩, prog_4_method_3_code, 8, (some .int)) := am_ck_of 280 (by decide +kernel)
theorem am_cd_35 : am_ck (⟨"SewnAhead$Reader", "kindOf", "(I)I"⟩, prog_4_method_7_code, 2, (some .int)) := am_ck_of 283 (by decide +kernel)
theorem am_cd_36 : am_ck (⟨"SewnAhead$Cloth", "addLaw", "(III)V"⟩, prog_2_method_5_code, 4, none) := am_ck_of 289 (by decide +kernel)
theorem am_cd_37 : am_ck (⟨"SewnAhead", "cloth", "(I)I"⟩, prog_1_method_11_code, 3, (some .int)) := am_ck_of 293 (by decide +kernel)
theorem am_cd_38 : am_ck (⟨"SewnAhead$Cloth", "take", "(LSewnAhead$Cloth;)V"⟩, prog_2_method_3_code, 2, none) := am_ck_of 297 (by decide +kernel)
theorem am_cd_39 : am_ck (⟨"SewnAhead$Cloth", "settleFrom", "(I)V"⟩, prog_2_method_11_code, 3, none) := am_ck_of 302 (by decide +kernel)
theorem am_cd_40 : am_ck (⟨"SewnAhead$Cloth", "settle", "(I)V"⟩, prog_2_method_12_code, 3, none) := am_ck_of 306 (by decide +kernel)
theorem am_cd_41 : am_ck (⟨"SewnAhead$Cloth", "gapFor", "(I)I"⟩, prog_2_method_13_code, 3, (some .int)) := am_ck_of 310 (by decide +kernel)
theorem am_cd_42 : am_ck (⟨"SewnAhead$Cloth", "lawHoldingIn", "(I)I"⟩, prog_2_method_14_code, 3, (some .int)) := am_ck_of 314 (by decide +kernel)
theorem am_cd_43 : am_ck (⟨"SewnAhead$Cloth", "holds", "(II)Z"⟩, prog_2_method_15_code, 5, (some .boolean)) := am_ck_of 318 (by decide +kernel)
theorem am_cd_44 : am_ck (⟨"SewnAhead", "year", "(II)I"⟩, prog_1_method_12_code, 3, (some .int)) := am_ck_of 323 (by decide +kernel)
theorem am_cd_45 : am_ck (⟨"SewnAhead", "isYear", "(I)Z"⟩, prog_1_method_47_code, 2, (some .boolean)) := am_ck_of 327 (by decide +kernel)
theorem am_cd_46 : am_ck (⟨"SewnAhead", "ofYear", "(II)I"⟩, prog_1_method_53_code, 3, (some .int)) := am_ck_of 331 (by decide +kernel)
theorem am_cd_47 : am_ck (⟨"SewnAhead", "law", "(II)I"⟩, prog_1_method_13_code, 3, (some .int)) := am_ck_of 335 (by decide +kernel)
theorem am_cd_48 : am_ck (⟨"SewnAhead", "isLaw", "(I)Z"⟩, prog_1_method_48_code, 2, (some .boolean)) := am_ck_of 339 (by decide +kernel)
theorem am_cd_49 : am_ck (⟨"SewnAhead", "ofLaw", "(II)I"⟩, prog_1_method_54_code, 3, (some .int)) := am_ck_of 343 (by decide +kernel)
theorem am_cd_50 : am_ck (⟨"SewnAhead$Cloth", "isBroken", "(I)Z"⟩, prog_2_method_23_code, 3, (some .boolean)) := am_ck_of 347 (by decide +kernel)
theorem am_cd_51 : am_ck (⟨"SewnAhead$Cloth", "isBrokenIn", "(II)Z"⟩, prog_2_method_22_code, 4, (some .boolean)) := am_ck_of 351 (by decide +kernel)
theorem am_cd_52 : am_ck (⟨"SewnAhead$Cloth", "isOfKind", "(II)Z"⟩, prog_2_method_20_code, 3, (some .boolean)) := am_ck_of 355 (by decide +kernel)
theorem am_cd_53 : am_ck (⟨"SewnAhead", "mark", "(II)I"⟩, prog_1_method_14_code, 5, (some .int)) := am_ck_of 362 (by decide +kernel)
theorem am_cd_54 : am_ck (⟨"SewnAhead$Cloth", "yearsWith", "(I)I"⟩, prog_2_method_17_code, 4, (some .int)) := am_ck_of 367 (by decide +kernel)
theorem am_cd_55 : am_ck (⟨"java/lang/Integer", "bitCount", "(I)I"⟩, prog_8_method_49_code, 1, (some .int)) := am_ck_of 370 (by decide +kernel)
theorem am_cd_56 : am_ck (⟨"SewnAhead$Cloth", "yearsThatAre", "(I)I"⟩, prog_2_method_19_code, 4, (some .int)) := am_ck_of 377 (by decide +kernel)
theorem am_cd_57 : am_ck (⟨"SewnAhead", "end", "(II)I"⟩, prog_1_method_15_code, 4, (some .int)) := am_ck_of 381 (by decide +kernel)
theorem am_cd_58 : am_ck (⟨"SewnAhead", "sew", "(II)I"⟩, prog_1_method_16_code, 3, (some .int)) := am_ck_of 386 (by decide +kernel)
theorem am_cd_59 : am_ck (⟨"SewnAhead", "stitched", "(II)I"⟩, prog_1_method_52_code, 3, (some .int)) := am_ck_of 390 (by decide +kernel)
theorem am_cd_60 : am_ck (⟨"SewnAhead$Cloth", "allows", "(II)Z"⟩, prog_2_method_7_code, 3, (some .boolean)) := am_ck_of 394 (by decide +kernel)
theorem am_cd_61 : am_ck (⟨"SewnAhead$Cloth", "stitch", "(II)V"⟩, prog_2_method_9_code, 3, none) := am_ck_of 399 (by decide +kernel)
theorem am_cd_62 : am_ck (⟨"SewnAhead$Cloth", "change", "(II)V"⟩, prog_2_method_8_code, 3, none) := am_ck_of 403 (by decide +kernel)
theorem am_cd_63 : am_ck (⟨"SewnAhead$Cloth", "brokenLaws", "()I"⟩, prog_2_method_25_code, 3, (some .int)) := am_ck_of 408 (by decide +kernel)
theorem am_cd_64 : am_ck (⟨"SewnAhead", "unpick", "(I)I"⟩, prog_1_method_17_code, 2, (some .int)) := am_ck_of 413 (by decide +kernel)
theorem am_cd_65 : am_ck (⟨"SewnAhead", "undo", "(I)I"⟩, prog_1_method_18_code, 3, (some .int)) := am_ck_of 417 (by decide +kernel)
theorem am_cd_66 : am_ck (⟨"SewnAhead$Cloth", "unstitch", "(I)V"⟩, prog_2_method_10_code, 3, none) := am_ck_of 421 (by decide +kernel)
theorem am_cd_67 : am_ck (⟨"SewnAhead", "keep", "(I)I"⟩, prog_1_method_19_code, 2, (some .int)) := am_ck_of 425 (by decide +kernel)
theorem am_cd_68 : am_ck (⟨"SewnAhead", "isKeptPlace", "(I)Z"⟩, prog_1_method_45_code, 1, (some .boolean)) := am_ck_of 428 (by decide +kernel)
theorem am_cd_69 : am_ck (⟨"SewnAhead", "on", "(I)I"⟩, prog_1_method_20_code, 2, (some .int)) := am_ck_of 432 (by decide +kernel)
theorem am_cd_70 : am_ck (⟨"SewnAhead", "happens", "(I)I"⟩, prog_1_method_21_code, 2, (some .int)) := am_ck_of 436 (by decide +kernel)
theorem am_cd_71 : am_ck (⟨"SewnAhead", "by", "(I)I"⟩, prog_1_method_22_code, 2, (some .int)) := am_ck_of 440 (by decide +kernel)
theorem am_cd_72 : am_ck (⟨"SewnAhead", "broken", "()I"⟩, prog_1_method_23_code, 2, (some .int)) := am_ck_of 444 (by decide +kernel)
theorem am_cd_73 : am_ck (⟨"SewnAhead$Cloth", "firstYearOf", "(I)I"⟩, prog_2_method_26_code, 4, (some .int)) := am_ck_of 448 (by decide +kernel)
theorem am_cd_74 : am_ck (⟨"java/lang/Integer", "numberOfTrailingZeros", "(I)I"⟩, prog_8_method_48_code, 2, (some .int)) := am_ck_of 452 (by decide +kernel)
theorem am_cd_75 : am_ck (⟨"SewnAhead", "can", "(I)I"⟩, prog_1_method_24_code, 4, (some .int)) := am_ck_of 457 (by decide +kernel)
theorem am_cd_76 : am_ck (⟨"SewnAhead", "safe", "(I)I"⟩, prog_1_method_25_code, 4, (some .int)) := am_ck_of 462 (by decide +kernel)
theorem am_cd_77 : am_ck (⟨"SewnAhead", "isWholeWhateverIsSewn", "(I)Z"⟩, prog_1_method_55_code, 3, (some .boolean)) := am_ck_of 466 (by decide +kernel)
theorem am_cd_78 : am_ck (⟨"SewnAhead", "least", "(III)I"⟩, prog_1_method_26_code, 4, (some .int)) := am_ck_of 470 (by decide +kernel)
theorem am_cd_79 : am_ck (⟨"SewnAhead$Plans", "begin", "(ZZ)V"⟩, prog_3_method_2_code, 3, none) := am_ck_of 474 (by decide +kernel)
theorem am_cd_80 : am_ck (⟨"SewnAhead$Plans", "want", "(II)V"⟩, prog_3_method_3_code, 3, none) := am_ck_of 479 (by decide +kernel)
theorem am_cd_81 : am_ck (⟨"SewnAhead", "fewestInto", "(I)I"⟩, prog_1_method_56_code, 3, (some .int)) := am_ck_of 483 (by decide +kernel)
theorem am_cd_82 : am_ck (⟨"SewnAhead$Plans", "seek", "(LSewnAhead$Cloth;I)I"⟩, prog_3_method_4_code, 3, (some .int)) := am_ck_of 487 (by decide +kernel)
theorem am_cd_83 : am_ck (⟨"SewnAhead$Plans", "goOn", "(II)V"⟩, prog_3_method_5_code, 7, none) := am_ck_of 492 (by decide +kernel)
theorem am_cd_84 : am_ck (⟨"SewnAhead$Plans", "add", "()V"⟩, prog_3_method_8_code, 1, none) := am_ck_of 496 (by decide +kernel)
theorem am_cd_85 : am_ck (⟨"SewnAhead$Plans", "isAllowed", "(II)Z"⟩, prog_3_method_6_code, 3, (some .boolean)) := am_ck_of 501 (by decide +kernel)
theorem am_cd_86 : am_ck (⟨"SewnAhead$Plans", "fits", "(I)Z"⟩, prog_3_method_7_code, 2, (some .boolean)) := am_ck_of 508 (by decide +kernel)
theorem am_cd_87 : am_ck (⟨"SewnAhead", "happeningBit", "(I)I"⟩, prog_1_method_58_code, 1, (some .int)) := am_ck_of 511 (by decide +kernel)
theorem am_cd_88 : am_ck (⟨"SewnAhead$Cloth", "isAnyBrokenIn", "(I)Z"⟩, prog_2_method_24_code, 3, (some .boolean)) := am_ck_of 515 (by decide +kernel)
theorem am_cd_89 : am_ck (⟨"SewnAhead", "ways", "(III)I"⟩, prog_1_method_27_code, 4, (some .int)) := am_ck_of 520 (by decide +kernel)
theorem am_cd_90 : am_ck (⟨"SewnAhead", "tellFraction", "(JJ)V"⟩, prog_1_method_59_code, 7, none) := am_ck_of 524 (by decide +kernel)
theorem am_cd_91 : am_ck (⟨"SewnAhead", "commonDivisor", "(JJ)J"⟩, prog_1_method_60_code, 7, (some .long)) := am_ck_of 527 (by decide +kernel)
theorem am_cd_92 : am_ck (⟨"SewnAhead", "avert", "(II)I"⟩, prog_1_method_28_code, 4, (some .int)) := am_ck_of 531 (by decide +kernel)
theorem am_cd_93 : am_ck (⟨"SewnAhead", "judge", "(I)I"⟩, prog_1_method_29_code, 4, (some .int)) := am_ck_of 535 (by decide +kernel)
theorem am_cd_94 : am_ck (⟨"SewnAhead$Cloth", "yearsWithSomething", "()I"⟩, prog_2_method_18_code, 1, (some .int)) := am_ck_of 540 (by decide +kernel)
theorem am_cd_95 : am_ck (⟨"SewnAhead", "was", "(II)I"⟩, prog_1_method_30_code, 6, (some .int)) := am_ck_of 544 (by decide +kernel)
theorem am_cd_96 : am_ck (⟨"SewnAhead", "refuseHistory", "(I)I"⟩, prog_1_method_51_code, 5, (some .int)) := am_ck_of 548 (by decide +kernel)
theorem am_cd_97 : am_ck (⟨"SewnAhead$Cloth", "happensAs", "([I)Z"⟩, prog_2_method_16_code, 3, (some .boolean)) := am_ck_of 552 (by decide +kernel)
theorem am_cd_98 : am_ck (⟨"SewnAhead", "kinds", "(II)I"⟩, prog_1_method_31_code, 6, (some .int)) := am_ck_of 556 (by decide +kernel)
theorem am_cd_99 : am_ck (⟨"SewnAhead", "needed", "()I"⟩, prog_1_method_32_code, 3, (some .int)) := am_ck_of 560 (by decide +kernel)
theorem am_cd_100 : am_ck (⟨"SewnAhead", "forged", "(I)I"⟩, prog_1_method_33_code, 4, (some .int)) := am_ck_of 564 (by decide +kernel)
theorem am_cd_101 : am_ck (⟨"SewnAhead", "firstChanged", "([I)I"⟩, prog_1_method_57_code, 3, (some .int)) := am_ck_of 569 (by decide +kernel)
theorem am_cd_102 : am_ck (⟨"SewnAhead", "odds", "(II)I"⟩, prog_1_method_34_code, 7, (some .int)) := am_ck_of 573 (by decide +kernel)
theorem am_cd_103 : am_ck (⟨"SewnAhead", "lots", "(II)I"⟩, prog_1_method_35_code, 7, (some .int)) := am_ck_of 578 (by decide +kernel)
theorem am_cd_104 : am_ck (⟨"SewnAhead", "asked", "()I"⟩, prog_1_method_36_code, 1, (some .int)) := am_ck_of 586 (by decide +kernel)
theorem am_cd_105 : am_ck (⟨"SewnAhead", "upper", "()J"⟩, prog_1_method_37_code, 1, (some .long)) := am_ck_of 590 (by decide +kernel)
theorem am_cd_106 : am_ck (⟨"SewnAhead", "lower", "()J"⟩, prog_1_method_38_code, 1, (some .long)) := am_ck_of 594 (by decide +kernel)
theorem am_cd_107 : am_ck (⟨"SewnAhead", "count", "(I)I"⟩, prog_1_method_39_code, 2, (some .int)) := am_ck_of 598 (by decide +kernel)
theorem am_cd_108 : am_ck (⟨"SewnAhead$Cloth", "lawsOfKind", "(I)I"⟩, prog_2_method_21_code, 4, (some .int)) := am_ck_of 602 (by decide +kernel)
theorem am_cd_109 : am_ck (⟨"SewnAhead", "thatAreThere", "([LSewnAhead$Row;)I"⟩, prog_1_method_61_code, 3, (some .int)) := am_ck_of 605 (by decide +kernel)
theorem am_cd_110 : am_ck (⟨"SewnAhead", "keptCloths", "()I"⟩, prog_1_method_62_code, 3, (some .int)) := am_ck_of 609 (by decide +kernel)
theorem am_cd_111 : am_ck (⟨"SewnAhead", "finding", "()I"⟩, prog_1_method_40_code, 1, (some .int)) := am_ck_of 613 (by decide +kernel)
theorem am_cd_112 : am_ck (⟨"SewnAhead", "findings", "(I)I"⟩, prog_1_method_41_code, 2, (some .int)) := am_ck_of 617 (by decide +kernel)
theorem am_cd_113 : am_ck (⟨"SewnAhead", "digest", "()J"⟩, prog_1_method_42_code, 5, (some .long)) := am_ck_of 621 (by decide +kernel)
theorem am_cd_114 : am_ck (⟨"SewnAhead", "foldRows", "(J[LSewnAhead$Row;)J"⟩, prog_1_method_63_code, 6, (some .long)) := am_ck_of 627 (by decide +kernel)
theorem am_cd_115 : am_ck (⟨"SewnAheadModel", "<init>", "()V"⟩, prog_7_method_1_code, 2, none) := am_ck_of 632 (by decide +kernel)
theorem am_cd_116 : am_ck (⟨"SewnAheadModel", "row", "(II)I"⟩, prog_7_method_12_code, 3, (some .int)) := am_ck_of 698 (by decide +kernel)
theorem am_cd_117 : am_ck (⟨"SewnAheadModel", "isRow", "(I)Z"⟩, prog_7_method_9_code, 1, (some .boolean)) := am_ck_of 701 (by decide +kernel)
theorem am_cd_118 : am_ck (⟨"SewnAheadModel", "in", "(JJJ)Z"⟩, prog_7_method_3_code, 6, (some .boolean)) := am_ck_of 705 (by decide +kernel)
theorem am_cd_119 : am_ck (⟨"SewnAheadModel", "found", "(I)I"⟩, prog_7_method_6_code, 2, (some .int)) := am_ck_of 709 (by decide +kernel)
theorem am_cd_120 : am_ck (⟨"SewnAheadModel", "anew", "(II)V"⟩, prog_7_method_11_code, 4, none) := am_ck_of 713 (by decide +kernel)
theorem am_cd_121 : am_ck (⟨"SewnAheadModel", "lay", "(III)I"⟩, prog_7_method_13_code, 5, (some .int)) := am_ck_of 717 (by decide +kernel)
theorem am_cd_122 : am_ck (⟨"SewnAheadModel", "at", "(II)I"⟩, prog_7_method_14_code, 3, (some .int)) := am_ck_of 721 (by decide +kernel)
theorem am_cd_123 : am_ck (⟨"SewnAheadModel", "tells", "(II)I"⟩, prog_7_method_7_code, 3, (some .int)) := am_ck_of 725 (by decide +kernel)
theorem am_cd_124 : am_ck (⟨"SewnAheadModel", "tear", "(I)I"⟩, prog_7_method_15_code, 2, (some .int)) := am_ck_of 730 (by decide +kernel)
theorem am_cd_125 : am_ck (⟨"SewnAheadModel", "copy", "(IIIII)I"⟩, prog_7_method_17_code, 7, (some .int)) := am_ck_of 734 (by decide +kernel)
theorem am_cd_126 : am_ck (⟨"SewnAheadModel", "fits", "(III)Z"⟩, prog_7_method_16_code, 3, (some .boolean)) := am_ck_of 737 (by decide +kernel)
theorem am_cd_127 : am_ck (⟨"SewnAheadModel", "mean", "(I)I"⟩, prog_7_method_18_code, 5, (some .int)) := am_ck_of 741 (by decide +kernel)
theorem am_cd_128 : am_ck (⟨"SewnAheadModel", "text", "(II)I"⟩, prog_7_method_19_code, 4, (some .int)) := am_ck_of 745 (by decide +kernel)
theorem am_cd_129 : am_ck (⟨"SewnAheadModel", "isText", "(I)Z"⟩, prog_7_method_10_code, 1, (some .boolean)) := am_ck_of 748 (by decide +kernel)
theorem am_cd_130 : am_ck (⟨"SewnAheadModel", "put", "(III)I"⟩, prog_7_method_20_code, 5, (some .int)) := am_ck_of 753 (by decide +kernel)
theorem am_cd_131 : am_ck (⟨"SewnAheadModel", "fault", "(I)I"⟩, prog_7_method_29_code, 2, (some .int)) := am_ck_of 757 (by decide +kernel)
theorem am_cd_132 : am_ck (⟨"SewnAheadModel", "faultOf", "(I)I"⟩, prog_7_method_28_code, 3, (some .int)) := am_ck_of 761 (by decide +kernel)
theorem am_cd_133 : am_ck (⟨"SewnAheadModel", "blanks", "(I)V"⟩, prog_7_method_23_code, 2, none) := am_ck_of 765 (by decide +kernel)
theorem am_cd_134 : am_ck (⟨"SewnAheadModel", "byteAt", "(II)I"⟩, prog_7_method_22_code, 3, (some .int)) := am_ck_of 769 (by decide +kernel)
theorem am_cd_135 : am_ck (⟨"SewnAheadModel", "takesYears", "(I)Z"⟩, prog_7_method_26_code, 4, (some .boolean)) := am_ck_of 773 (by decide +kernel)
theorem am_cd_136 : am_ck (⟨"SewnAheadModel", "isSign", "(I)Z"⟩, prog_7_method_25_code, 2, (some .boolean)) := am_ck_of 777 (by decide +kernel)
theorem am_cd_137 : am_ck (⟨"SewnAheadModel", "isScene", "(I)Z"⟩, prog_7_method_24_code, 2, (some .boolean)) := am_ck_of 781 (by decide +kernel)
theorem am_cd_138 : am_ck (⟨"SewnAheadModel", "takesLaw", "(I)Z"⟩, prog_7_method_27_code, 5, (some .boolean)) := am_ck_of 787 (by decide +kernel)
theorem am_cd_139 : am_ck (⟨"SewnAheadModel", "kindOf", "(I)I"⟩, prog_7_method_21_code, 1, (some .int)) := am_ck_of 790 (by decide +kernel)
theorem am_cd_140 : am_ck (⟨"SewnAheadModel", "cloth", "(I)I"⟩, prog_7_method_30_code, 3, (some .int)) := am_ck_of 794 (by decide +kernel)
theorem am_cd_141 : am_ck (⟨"SewnAheadModel", "copyAll", "(III)V"⟩, prog_7_method_8_code, 5, none) := am_ck_of 798 (by decide +kernel)
theorem am_cd_142 : am_ck (⟨"SewnAheadModel", "year", "(II)I"⟩, prog_7_method_42_code, 3, (some .int)) := am_ck_of 802 (by decide +kernel)
theorem am_cd_143 : am_ck (⟨"SewnAheadModel", "isYear", "(I)Z"⟩, prog_7_method_31_code, 2, (some .boolean)) := am_ck_of 806 (by decide +kernel)
theorem am_cd_144 : am_ck (⟨"SewnAheadModel", "plays", "()V"⟩, prog_7_method_36_code, 6, none) := am_ck_of 811 (by decide +kernel)
theorem am_cd_145 : am_ck (⟨"SewnAheadModel", "holds", "(II)Z"⟩, prog_7_method_35_code, 4, (some .boolean)) := am_ck_of 815 (by decide +kernel)
theorem am_cd_146 : am_ck (⟨"SewnAheadModel", "happenedAhead", "(III)Z"⟩, prog_7_method_34_code, 4, (some .boolean)) := am_ck_of 819 (by decide +kernel)
theorem am_cd_147 : am_ck (⟨"SewnAheadModel", "yearTells", "(II)I"⟩, prog_7_method_41_code, 3, (some .int)) := am_ck_of 823 (by decide +kernel)
theorem am_cd_148 : am_ck (⟨"SewnAheadModel", "law", "(II)I"⟩, prog_7_method_44_code, 3, (some .int)) := am_ck_of 827 (by decide +kernel)
theorem am_cd_149 : am_ck (⟨"SewnAheadModel", "isLaw", "(I)Z"⟩, prog_7_method_32_code, 2, (some .boolean)) := am_ck_of 831 (by decide +kernel)
theorem am_cd_150 : am_ck (⟨"SewnAheadModel", "lawTells", "(II)I"⟩, prog_7_method_43_code, 3, (some .int)) := am_ck_of 835 (by decide +kernel)
theorem am_cd_151 : am_ck (⟨"SewnAheadModel", "isBroken", "(I)Z"⟩, prog_7_method_38_code, 5, (some .boolean)) := am_ck_of 839 (by decide +kernel)
theorem am_cd_152 : am_ck (⟨"SewnAheadModel", "yearsOf", "(I)I"⟩, prog_7_method_37_code, 4, (some .int)) := am_ck_of 843 (by decide +kernel)
theorem am_cd_153 : am_ck (⟨"SewnAheadModel", "ones", "(I)I"⟩, prog_7_method_5_code, 3, (some .int)) := am_ck_of 846 (by decide +kernel)
theorem am_cd_154 : am_ck (⟨"SewnAheadModel", "mark", "(II)I"⟩, prog_7_method_46_code, 6, (some .int)) := am_ck_of 850 (by decide +kernel)
theorem am_cd_155 : am_ck (⟨"SewnAheadModel", "yearsThat", "(I)I"⟩, prog_7_method_45_code, 4, (some .int)) := am_ck_of 854 (by decide +kernel)
theorem am_cd_156 : am_ck (⟨"SewnAheadModel", "end", "(II)I"⟩, prog_7_method_47_code, 4, (some .int)) := am_ck_of 858 (by decide +kernel)
theorem am_cd_157 : am_ck (⟨"SewnAheadModel", "isTold", "(I)Z"⟩, prog_7_method_33_code, 1, (some .boolean)) := am_ck_of 861 (by decide +kernel)
theorem am_cd_158 : am_ck (⟨"SewnAheadModel", "sew", "(II)I"⟩, prog_7_method_50_code, 3, (some .int)) := am_ck_of 866 (by decide +kernel)
theorem am_cd_159 : am_ck (⟨"SewnAheadModel", "minds", "()V"⟩, prog_7_method_48_code, 1, none) := am_ck_of 870 (by decide +kernel)
theorem am_cd_160 : am_ck (⟨"SewnAheadModel", "sews", "(II)V"⟩, prog_7_method_49_code, 3, none) := am_ck_of 874 (by decide +kernel)
theorem am_cd_161 : am_ck (⟨"SewnAheadModel", "brokenNow", "()I"⟩, prog_7_method_39_code, 3, (some .int)) := am_ck_of 878 (by decide +kernel)
theorem am_cd_162 : am_ck (⟨"SewnAheadModel", "unpick", "(I)I"⟩, prog_7_method_51_code, 2, (some .int)) := am_ck_of 882 (by decide +kernel)
theorem am_cd_163 : am_ck (⟨"SewnAheadModel", "undo", "(I)I"⟩, prog_7_method_52_code, 3, (some .int)) := am_ck_of 886 (by decide +kernel)
theorem am_cd_164 : am_ck (⟨"SewnAheadModel", "keep", "(I)I"⟩, prog_7_method_53_code, 2, (some .int)) := am_ck_of 890 (by decide +kernel)
theorem am_cd_165 : am_ck (⟨"SewnAheadModel", "on", "(I)I"⟩, prog_7_method_54_code, 2, (some .int)) := am_ck_of 894 (by decide +kernel)
theorem am_cd_166 : am_ck (⟨"SewnAheadModel", "happens", "(I)I"⟩, prog_7_method_55_code, 2, (some .int)) := am_ck_of 898 (by decide +kernel)
theorem am_cd_167 : am_ck (⟨"SewnAheadModel", "by", "(I)I"⟩, prog_7_method_56_code, 2, (some .int)) := am_ck_of 902 (by decide +kernel)
theorem am_cd_168 : am_ck (⟨"SewnAheadModel", "broken", "()I"⟩, prog_7_method_57_code, 5, (some .int)) := am_ck_of 906 (by decide +kernel)
theorem am_cd_169 : am_ck (⟨"SewnAheadModel", "has", "(II)Z"⟩, prog_7_method_4_code, 2, (some .boolean)) := am_ck_of 909 (by decide +kernel)
theorem am_cd_170 : am_ck (⟨"SewnAheadModel", "can", "(I)I"⟩, prog_7_method_60_code, 4, (some .int)) := am_ck_of 913 (by decide +kernel)
theorem am_cd_171 : am_ck (⟨"SewnAheadModel", "lays", "()V"⟩, prog_7_method_58_code, 1, none) := am_ck_of 917 (by decide +kernel)
theorem am_cd_172 : am_ck (⟨"SewnAheadModel", "putsBack", "()V"⟩, prog_7_method_59_code, 1, none) := am_ck_of 921 (by decide +kernel)
theorem am_cd_173 : am_ck (⟨"SewnAheadModel", "safe", "(I)I"⟩, prog_7_method_61_code, 6, (some .int)) := am_ck_of 925 (by decide +kernel)
theorem am_cd_174 : am_ck (⟨"SewnAheadModel", "least", "(III)I"⟩, prog_7_method_67_code, 5, (some .int)) := am_ck_of 929 (by decide +kernel)
theorem am_cd_175 : am_ck (⟨"SewnAheadModel", "fewest", "(II)I"⟩, prog_7_method_66_code, 8, (some .int)) := am_ck_of 933 (by decide +kernel)
theorem am_cd_176 : am_ck (⟨"SewnAheadModel", "plans", "()I"⟩, prog_7_method_62_code, 3, (some .int)) := am_ck_of 938 (by decide +kernel)
theorem am_cd_177 : am_ck (⟨"SewnAheadModel", "does", "(I)I"⟩, prog_7_method_64_code, 6, (some .int)) := am_ck_of 942 (by decide +kernel)
theorem am_cd_178 : am_ck (⟨"SewnAheadModel", "canBe", "(II)Z"⟩, prog_7_method_63_code, 3, (some .boolean)) := am_ck_of 946 (by decide +kernel)
theorem am_cd_179 : am_ck (⟨"SewnAheadModel", "tellsPlan", "(II)V"⟩, prog_7_method_65_code, 5, none) := am_ck_of 950 (by decide +kernel)
theorem am_cd_180 : am_ck (⟨"SewnAheadModel", "ways", "(III)I"⟩, prog_7_method_68_code, 9, (some .int)) := am_ck_of 954 (by decide +kernel)
theorem am_cd_181 : am_ck (⟨"SewnAheadModel", "avert", "(II)I"⟩, prog_7_method_69_code, 4, (some .int)) := am_ck_of 958 (by decide +kernel)
theorem am_cd_182 : am_ck (⟨"SewnAheadModel", "judge", "(I)I"⟩, prog_7_method_70_code, 6, (some .int)) := am_ck_of 962 (by decide +kernel)
theorem am_cd_183 : am_ck (⟨"SewnAheadModel", "happening", "()I"⟩, prog_7_method_40_code, 3, (some .int)) := am_ck_of 967 (by decide +kernel)
theorem am_cd_184 : am_ck (⟨"SewnAheadModel", "was", "(II)I"⟩, prog_7_method_73_code, 7, (some .int)) := am_ck_of 971 (by decide +kernel)
theorem am_cd_185 : am_ck (⟨"SewnAheadModel", "against", "(I)I"⟩, prog_7_method_71_code, 4, (some .int)) := am_ck_of 975 (by decide +kernel)
theorem am_cd_186 : am_ck (⟨"SewnAheadModel", "isSo", "(I)Z"⟩, prog_7_method_72_code, 4, (some .boolean)) := am_ck_of 979 (by decide +kernel)
theorem am_cd_187 : am_ck (⟨"SewnAheadModel", "kinds", "(II)I"⟩, prog_7_method_74_code, 7, (some .int)) := am_ck_of 983 (by decide +kernel)
theorem am_cd_188 : am_ck (⟨"SewnAheadModel", "needed", "()I"⟩, prog_7_method_75_code, 4, (some .int)) := am_ck_of 987 (by decide +kernel)
theorem am_cd_189 : am_ck (⟨"SewnAheadModel", "forged", "(I)I"⟩, prog_7_method_76_code, 9, (some .int)) := am_ck_of 991 (by decide +kernel)
theorem am_cd_190 : am_ck (⟨"SewnAheadModel", "odds", "(II)I"⟩, prog_7_method_78_code, 9, (some .int)) := am_ck_of 995 (by decide +kernel)
theorem am_cd_191 : am_ck (⟨"SewnAheadModel", "chance", "(II)I"⟩, prog_7_method_77_code, 6, (some .int)) := am_ck_of 999 (by decide +kernel)
theorem am_cd_192 : am_ck (⟨"SewnAheadModel", "lots", "(II)I"⟩, prog_7_method_79_code, 7, (some .int)) := am_ck_of 1003 (by decide +kernel)
theorem am_cd_193 : am_ck (⟨"SewnAheadModel", "asked", "()I"⟩, prog_7_method_80_code, 1, (some .int)) := am_ck_of 1012 (by decide +kernel)
theorem am_cd_194 : am_ck (⟨"SewnAheadModel", "upper", "()J"⟩, prog_7_method_81_code, 1, (some .long)) := am_ck_of 1016 (by decide +kernel)
theorem am_cd_195 : am_ck (⟨"SewnAheadModel", "lower", "()J"⟩, prog_7_method_82_code, 1, (some .long)) := am_ck_of 1020 (by decide +kernel)
theorem am_cd_196 : am_ck (⟨"SewnAheadModel", "count", "(I)I"⟩, prog_7_method_85_code, 2, (some .int)) := am_ck_of 1024 (by decide +kernel)
theorem am_cd_197 : am_ck (⟨"SewnAheadModel", "barsMany", "()I"⟩, prog_7_method_83_code, 3, (some .int)) := am_ck_of 1028 (by decide +kernel)
theorem am_cd_198 : am_ck (⟨"SewnAheadModel", "thereOf", "([II)I"⟩, prog_7_method_84_code, 4, (some .int)) := am_ck_of 1031 (by decide +kernel)
theorem am_cd_199 : am_ck (⟨"SewnAheadModel", "finding", "()I"⟩, prog_7_method_86_code, 1, (some .int)) := am_ck_of 1035 (by decide +kernel)
theorem am_cd_200 : am_ck (⟨"SewnAheadModel", "findings", "(I)I"⟩, prog_7_method_87_code, 2, (some .int)) := am_ck_of 1039 (by decide +kernel)
theorem am_cd_201 : am_ck (⟨"SewnAheadModel", "digest", "()J"⟩, prog_7_method_89_code, 3, (some .long)) := am_ck_of 1043 (by decide +kernel)
theorem am_cd_202 : am_ck (⟨"SewnAheadModel", "mix", "(J)V"⟩, prog_7_method_88_code, 3, none) := am_ck_of 1049 (by decide +kernel)
theorem am_cm_0 : ∀ q ∈ am_mt_0, am_ck q := List.forall_mem_cons.mpr ⟨am_cd_0, List.forall_mem_cons.mpr ⟨am_cd_1, List.forall_mem_cons.mpr ⟨am_cd_2, List.forall_mem_cons.mpr ⟨am_cd_3, List.forall_mem_cons.mpr ⟨am_cd_4, List.forall_mem_cons.mpr ⟨am_cd_5, List.forall_mem_cons.mpr ⟨am_cd_6, List.forall_mem_cons.mpr ⟨am_cd_7, List.forall_mem_cons.mpr ⟨am_cd_8, List.forall_mem_cons.mpr ⟨am_cd_9, List.forall_mem_cons.mpr ⟨am_cd_10, List.forall_mem_cons.mpr ⟨am_cd_11, List.forall_mem_cons.mpr ⟨am_cd_12, List.forall_mem_cons.mpr ⟨am_cd_13, List.forall_mem_cons.mpr ⟨am_cd_14, List.forall_mem_cons.mpr ⟨am_cd_15, fun _ h => absurd h List.not_mem_nil⟩⟩⟩⟩⟩⟩⟩⟩⟩⟩⟩⟩⟩⟩⟩⟩
theorem am_cm_1 : ∀ q ∈ am_mt_1, am_ck q := List.forall_mem_cons.mpr ⟨am_cd_16, List.forall_mem_cons.mpr ⟨am_cd_17, List.forall_mem_cons.mpr ⟨am_cd_18, List.forall_mem_cons.mpr ⟨am_cd_19, List.forall_mem_cons.mpr ⟨am_cd_20, List.forall_mem_cons.mpr ⟨am_cd_21, List.forall_mem_cons.mpr ⟨am_cd_22, List.forall_mem_cons.mpr ⟨am_cd_23, List.forall_mem_cons.mpr ⟨am_cd_24, List.forall_mem_cons.mpr ⟨am_cd_25, List.forall_mem_cons.mpr ⟨am_cd_26, List.forall_mem_cons.mpr ⟨am_cd_27, List.forall_mem_cons.mpr ⟨am_cd_28, List.forall_mem_cons.mpr ⟨am_cd_29, List.forall_mem_cons.mpr ⟨am_cd_30, List.forall_mem_cons.mpr ⟨am_cd_31, fun _ h => absurd h List.not_mem_nil⟩⟩⟩⟩⟩⟩⟩⟩⟩⟩⟩⟩⟩⟩⟩⟩
theorem am_cm_2 : ∀ q ∈ am_mt_2, am_ck q := List.forall_mem_cons.mpr ⟨am_cd_32, List.forall_mem_cons.mpr ⟨am_cd_33, List.forall_mem_cons.mpr ⟨am_cd_34, List.forall_mem_cons.mpr ⟨am_cd_35, List.forall_mem_cons.mpr ⟨am_cd_36, List.forall_mem_cons.mpr ⟨am_cd_37, List.forall_mem_cons.mpr ⟨am_cd_38, List.forall_mem_cons.mpr ⟨am_cd_39, List.forall_mem_cons.mpr ⟨am_cd_40, List.forall_mem_cons.mpr ⟨am_cd_41, List.forall_mem_cons.mpr ⟨am_cd_42, List.forall_mem_cons.mpr ⟨am_cd_43, List.forall_mem_cons.mpr ⟨am_cd_44, List.forall_mem_cons.mpr ⟨am_cd_45, List.forall_mem_cons.mpr ⟨am_cd_46, List.forall_mem_cons.mpr ⟨am_cd_47, fun _ h => absurd h List.not_mem_nil⟩⟩⟩⟩⟩⟩⟩⟩⟩⟩⟩⟩⟩⟩⟩⟩
theorem am_cm_3 : ∀ q ∈ am_mt_3, am_ck q := List.forall_mem_cons.mpr ⟨am_cd_48, List.forall_mem_cons.mpr ⟨am_cd_49, List.forall_mem_cons.mpr ⟨am_cd_50, List.forall_mem_cons.mpr ⟨am_cd_51, List.forall_mem_cons.mpr ⟨am_cd_52, List.forall_mem_cons.mpr ⟨am_cd_53, List.forall_mem_cons.mpr ⟨am_cd_54, List.forall_mem_cons.mpr ⟨am_cd_55, List.forall_mem_cons.mpr ⟨am_cd_56, List.forall_mem_cons.mpr ⟨am_cd_57, List.forall_mem_cons.mpr ⟨am_cd_58, List.forall_mem_cons.mpr ⟨am_cd_59, List.forall_mem_cons.mpr ⟨am_cd_60, List.forall_mem_cons.mpr ⟨am_cd_61, List.forall_mem_cons.mpr ⟨am_cd_62, List.forall_mem_cons.mpr ⟨am_cd_63, fun _ h => absurd h List.not_mem_nil⟩⟩⟩⟩⟩⟩⟩⟩⟩⟩⟩⟩⟩⟩⟩⟩
theorem am_cm_4 : ∀ q ∈ am_mt_4, am_ck q := List.forall_mem_cons.mpr ⟨am_cd_64, List.forall_mem_cons.mpr ⟨am_cd_65, List.forall_mem_cons.mpr ⟨am_cd_66, List.forall_mem_cons.mpr ⟨am_cd_67, List.forall_mem_cons.mpr ⟨am_cd_68, List.forall_mem_cons.mpr ⟨am_cd_69, List.forall_mem_cons.mpr ⟨am_cd_70, List.forall_mem_cons.mpr ⟨am_cd_71, List.forall_mem_cons.mpr ⟨am_cd_72, List.forall_mem_cons.mpr ⟨am_cd_73, List.forall_mem_cons.mpr ⟨am_cd_74, List.forall_mem_cons.mpr ⟨am_cd_75, List.forall_mem_cons.mpr ⟨am_cd_76, List.forall_mem_cons.mpr ⟨am_cd_77, List.forall_mem_cons.mpr ⟨am_cd_78, List.forall_mem_cons.mpr ⟨am_cd_79, fun _ h => absurd h List.not_mem_nil⟩⟩⟩⟩⟩⟩⟩⟩⟩⟩⟩⟩⟩⟩⟩⟩
theorem am_cm_5 : ∀ q ∈ am_mt_5, am_ck q := List.forall_mem_cons.mpr ⟨am_cd_80, List.forall_mem_cons.mpr ⟨am_cd_81, List.forall_mem_cons.mpr ⟨am_cd_82, List.forall_mem_cons.mpr ⟨am_cd_83, List.forall_mem_cons.mpr ⟨am_cd_84, List.forall_mem_cons.mpr ⟨am_cd_85, List.forall_mem_cons.mpr ⟨am_cd_86, List.forall_mem_cons.mpr ⟨am_cd_87, List.forall_mem_cons.mpr ⟨am_cd_88, List.forall_mem_cons.mpr ⟨am_cd_89, List.forall_mem_cons.mpr ⟨am_cd_90, List.forall_mem_cons.mpr ⟨am_cd_91, List.forall_mem_cons.mpr ⟨am_cd_92, List.forall_mem_cons.mpr ⟨am_cd_93, List.forall_mem_cons.mpr ⟨am_cd_94, List.forall_mem_cons.mpr ⟨am_cd_95, fun _ h => absurd h List.not_mem_nil⟩⟩⟩⟩⟩⟩⟩⟩⟩⟩⟩⟩⟩⟩⟩⟩
theorem am_cm_6 : ∀ q ∈ am_mt_6, am_ck q := List.forall_mem_cons.mpr ⟨am_cd_96, List.forall_mem_cons.mpr ⟨am_cd_97, List.forall_mem_cons.mpr ⟨am_cd_98, List.forall_mem_cons.mpr ⟨am_cd_99, List.forall_mem_cons.mpr ⟨am_cd_100, List.forall_mem_cons.mpr ⟨am_cd_101, List.forall_mem_cons.mpr ⟨am_cd_102, List.forall_mem_cons.mpr ⟨am_cd_103, List.forall_mem_cons.mpr ⟨am_cd_104, List.forall_mem_cons.mpr ⟨am_cd_105, List.forall_mem_cons.mpr ⟨am_cd_106, List.forall_mem_cons.mpr ⟨am_cd_107, List.forall_mem_cons.mpr ⟨am_cd_108, List.forall_mem_cons.mpr ⟨am_cd_109, List.forall_mem_cons.mpr ⟨am_cd_110, List.forall_mem_cons.mpr ⟨am_cd_111, fun _ h => absurd h List.not_mem_nil⟩⟩⟩⟩⟩⟩⟩⟩⟩⟩⟩⟩⟩⟩⟩⟩
theorem am_cm_7 : ∀ q ∈ am_mt_7, am_ck q := List.forall_mem_cons.mpr ⟨am_cd_112, List.forall_mem_cons.mpr ⟨am_cd_113, List.forall_mem_cons.mpr ⟨am_cd_114, List.forall_mem_cons.mpr ⟨am_cd_115, List.forall_mem_cons.mpr ⟨am_cd_116, List.forall_mem_cons.mpr ⟨am_cd_117, List.forall_mem_cons.mpr ⟨am_cd_118, List.forall_mem_cons.mpr ⟨am_cd_119, List.forall_mem_cons.mpr ⟨am_cd_120, List.forall_mem_cons.mpr ⟨am_cd_121, List.forall_mem_cons.mpr ⟨am_cd_122, List.forall_mem_cons.mpr ⟨am_cd_123, List.forall_mem_cons.mpr ⟨am_cd_124, List.forall_mem_cons.mpr ⟨am_cd_125, List.forall_mem_cons.mpr ⟨am_cd_126, List.forall_mem_cons.mpr ⟨am_cd_127, fun _ h => absurd h List.not_mem_nil⟩⟩⟩⟩⟩⟩⟩⟩⟩⟩⟩⟩⟩⟩⟩⟩
theorem am_cm_8 : ∀ q ∈ am_mt_8, am_ck q := List.forall_mem_cons.mpr ⟨am_cd_128, List.forall_mem_cons.mpr ⟨am_cd_129, List.forall_mem_cons.mpr ⟨am_cd_130, List.forall_mem_cons.mpr ⟨am_cd_131, List.forall_mem_cons.mpr ⟨am_cd_132, List.forall_mem_cons.mpr ⟨am_cd_133, List.forall_mem_cons.mpr ⟨am_cd_134, List.forall_mem_cons.mpr ⟨am_cd_135, List.forall_mem_cons.mpr ⟨am_cd_136, List.forall_mem_cons.mpr ⟨am_cd_137, List.forall_mem_cons.mpr ⟨am_cd_138, List.forall_mem_cons.mpr ⟨am_cd_139, List.forall_mem_cons.mpr ⟨am_cd_140, List.forall_mem_cons.mpr ⟨am_cd_141, List.forall_mem_cons.mpr ⟨am_cd_142, List.forall_mem_cons.mpr ⟨am_cd_143, fun _ h => absurd h List.not_mem_nil⟩⟩⟩⟩⟩⟩⟩⟩⟩⟩⟩⟩⟩⟩⟩⟩
theorem am_cm_9 : ∀ q ∈ am_mt_9, am_ck q := List.forall_mem_cons.mpr ⟨am_cd_144, List.forall_mem_cons.mpr ⟨am_cd_145, List.forall_mem_cons.mpr ⟨am_cd_146, List.forall_mem_cons.mpr ⟨am_cd_147, List.forall_mem_cons.mpr ⟨am_cd_148, List.forall_mem_cons.mpr ⟨am_cd_149, List.forall_mem_cons.mpr ⟨am_cd_150, List.forall_mem_cons.mpr ⟨am_cd_151, List.forall_mem_cons.mpr ⟨am_cd_152, List.forall_mem_cons.mpr ⟨am_cd_153, List.forall_mem_cons.mpr ⟨am_cd_154, List.forall_mem_cons.mpr ⟨am_cd_155, List.forall_mem_cons.mpr ⟨am_cd_156, List.forall_mem_cons.mpr ⟨am_cd_157, List.forall_mem_cons.mpr ⟨am_cd_158, List.forall_mem_cons.mpr ⟨am_cd_159, fun _ h => absurd h List.not_mem_nil⟩⟩⟩⟩⟩⟩⟩⟩⟩⟩⟩⟩⟩⟩⟩⟩
theorem am_cm_10 : ∀ q ∈ am_mt_10, am_ck q := List.forall_mem_cons.mpr ⟨am_cd_160, List.forall_mem_cons.mpr ⟨am_cd_161, List.forall_mem_cons.mpr ⟨am_cd_162, List.forall_mem_cons.mpr ⟨am_cd_163, List.forall_mem_cons.mpr ⟨am_cd_164, List.forall_mem_cons.mpr ⟨am_cd_165, List.forall_mem_cons.mpr ⟨am_cd_166, List.forall_mem_cons.mpr ⟨am_cd_167, List.forall_mem_cons.mpr ⟨am_cd_168, List.forall_mem_cons.mpr ⟨am_cd_169, List.forall_mem_cons.mpr ⟨am_cd_170, List.forall_mem_cons.mpr ⟨am_cd_171, List.forall_mem_cons.mpr ⟨am_cd_172, List.forall_mem_cons.mpr ⟨am_cd_173, List.forall_mem_cons.mpr ⟨am_cd_174, List.forall_mem_cons.mpr ⟨am_cd_175, fun _ h => absurd h List.not_mem_nil⟩⟩⟩⟩⟩⟩⟩⟩⟩⟩⟩⟩⟩⟩⟩⟩
theorem am_cm_11 : ∀ q ∈ am_mt_11, am_ck q := List.forall_mem_cons.mpr ⟨am_cd_176, List.forall_mem_cons.mpr ⟨am_cd_177, List.forall_mem_cons.mpr ⟨am_cd_178, List.forall_mem_cons.mpr ⟨am_cd_179, List.forall_mem_cons.mpr ⟨am_cd_180, List.forall_mem_cons.mpr ⟨am_cd_181, List.forall_mem_cons.mpr ⟨am_cd_182, List.forall_mem_cons.mpr ⟨am_cd_183, List.forall_mem_cons.mpr ⟨am_cd_184, List.forall_mem_cons.mpr ⟨am_cd_185, List.forall_mem_cons.mpr ⟨am_cd_186, List.forall_mem_cons.mpr ⟨am_cd_187, List.forall_mem_cons.mpr ⟨am_cd_188, List.forall_mem_cons.mpr ⟨am_cd_189, List.forall_mem_cons.mpr ⟨am_cd_190, List.forall_mem_cons.mpr ⟨am_cd_191, fun _ h => absurd h List.not_mem_nil⟩⟩⟩⟩⟩⟩⟩⟩⟩⟩⟩⟩⟩⟩⟩⟩
theorem am_cm_12 : ∀ q ∈ am_mt_12, am_ck q := List.forall_mem_cons.mpr ⟨am_cd_192, List.forall_mem_cons.mpr ⟨am_cd_193, List.forall_mem_cons.mpr ⟨am_cd_194, List.forall_mem_cons.mpr ⟨am_cd_195, List.forall_mem_cons.mpr ⟨am_cd_196, List.forall_mem_cons.mpr ⟨am_cd_197, List.forall_mem_cons.mpr ⟨am_cd_198, List.forall_mem_cons.mpr ⟨am_cd_199, List.forall_mem_cons.mpr ⟨am_cd_200, List.forall_mem_cons.mpr ⟨am_cd_201, List.forall_mem_cons.mpr ⟨am_cd_202, fun _ h => absurd h List.not_mem_nil⟩⟩⟩⟩⟩⟩⟩⟩⟩⟩⟩
theorem am_cm : ∀ q ∈ am_mt0, am_ck q := List.forall_mem_append.mpr ⟨am_cm_0, List.forall_mem_append.mpr ⟨am_cm_1, List.forall_mem_append.mpr ⟨am_cm_2, List.forall_mem_append.mpr ⟨am_cm_3, List.forall_mem_append.mpr ⟨am_cm_4, List.forall_mem_append.mpr ⟨am_cm_5, List.forall_mem_append.mpr ⟨am_cm_6, List.forall_mem_append.mpr ⟨am_cm_7, List.forall_mem_append.mpr ⟨am_cm_8, List.forall_mem_append.mpr ⟨am_cm_9, List.forall_mem_append.mpr ⟨am_cm_10, List.forall_mem_append.mpr ⟨am_cm_11, am_cm_12⟩⟩⟩⟩⟩⟩⟩⟩⟩⟩⟩⟩
def am_md : MethodName × ByteArray × Nat × Option FieldType := (⟨"", "", ""⟩, .empty, 0, none)
abbrev am_y (i : Nat) : MethodName := (am_mt.getD i am_md).1
abbrev am_c (i : Nat) : ByteArray := (am_mt.getD i am_md).2.1
abbrev am_l (i : Nat) : Nat := (am_mt.getD i am_md).2.2.1
abbrev am_r (i : Nat) : Option FieldType := (am_mt.getD i am_md).2.2.2
theorem am_bigw {args : Array Value} {s : State} (h : ∀ w ∈ lw_tbl, w.before args s = true) : ∀ w ∈ am_big, w.before args s = true := fun w hw => h w (List.mem_filter.mp hw).1
theorem am_bigg {w : Cond} (h : w ∈ am_big) : w ∈ am_big ∧ ((w.onTables && w.keeps) = true ∨ ∃ ty, w = .arrayClass ty) := ⟨h, good_of_word (List.mem_filter.mp h).2⟩
theorem am_mtl : am_mt0.length = 203 := by decide +kernel
theorem am_code {i : Nat} (h : i < 203) : Cond.code (am_y i) (am_c i) (am_l i) (am_r i) ∈ am_big := by
  have h0 : i < am_mt0.length := by rw [am_mtl]; exact h
  have e : am_mt.getD i am_md = am_mt0[i] := by
    rw [List.getD_eq_getElem?_getD, am_mt, List.getElem?_append_left h0, List.getElem?_eq_getElem h0]; rfl
  have := am_cm am_mt0[i] (List.getElem_mem h0)
  unfold am_y am_c am_l am_r
  rw [e]
  exact this
end
section
/-! THE SMALL MACHINE: logical cells 0, 1, .. (ints, longs, references by number, kinds), and what stands for them on the real heap -/
/-- ints, longs, references (0 none, b + 1 the cell b), kind and size, how many cells -/
abbrev aN : Type := (Nat → Nat → Int32) × (Nat → Nat → Int64) × (Nat → Nat → Nat) × (Nat → Nat × Nat) × Nat
abbrev aX : Type := Nat × (Nat → Int32)
abbrev aL : Type := List (Option Value)
abbrev aO : Type := Option Value → aN → Prop
/-- base, script, LETTERS, PARENTS, the classes' numbers and slots, the classes of int[], Row[], Cloth[] -/
abbrev aG : Type := Nat × Nat × Nat × Nat × va_G × ClassId × ClassId × ClassId
abbrev up2 {α : Type} (f : Nat → Nat → α) (i k : Nat) (v : α) : Nat → Nat → α := fun j => if j = i then va_up (f i) k v else f j
abbrev up1 {α : Type} (f : Nat → α) (i : Nat) (v : α) : Nat → α := fun j => if j = i then v else f j
abbrev vI (N : aN) : Nat → Nat → Int32 := N.1
abbrev vL (N : aN) : Nat → Nat → Int64 := N.2.1
abbrev vR (N : aN) : Nat → Nat → Nat := N.2.2.1
abbrev sH (N : aN) : Nat → Nat × Nat := N.2.2.2.1
abbrev nC (N : aN) : Nat := N.2.2.2.2
abbrev sI (N : aN) (a k : Nat) (x : Int32) : aN := (up2 N.1 a k x, N.2)
abbrev sL (N : aN) (a k : Nat) (x : Int64) : aN := (N.1, up2 N.2.1 a k x, N.2.2)
abbrev sR (N : aN) (a k : Nat) (x : Nat) : aN := (N.1, N.2.1, up2 N.2.2.1 a k x, N.2.2.2)
/-- a whole int array anew -/
abbrev sA (N : aN) (a : Nat) (f : Nat → Int32) : aN := (up1 N.1 a f, N.2)
/-- a new cell -/
abbrev sN (N : aN) (kd len : Nat) : aN := (up1 N.1 (nC N) (fun _ => 0), up1 N.2.1 (nC N) (fun _ => 0), up1 N.2.2.1 (nC N) (fun _ => 0), up1 N.2.2.2.1 (nC N) (kd, len), nC N + 1)
def am_let (j : Nat) : Int32 := ([108, 98, 103, 101, 107, 115] : List Int32).getD j 0
def am_par (j : Nat) : Int32 := ([-9, 0, 0, 0, 1, 3] : List Int32).getD j 0
def gA (G : aG) (i : Nat) : Nat := if i = 1000000 then G.2.1 else if i = 1000001 then G.2.2.1 else if i = 1000002 then G.2.2.2.1 else G.1 + i
abbrev gD (G : aG) : va_G := G.2.2.2.2.1
abbrev gI (G : aG) : ClassId := G.2.2.2.2.2.1
abbrev gR (G : aG) : ClassId := G.2.2.2.2.2.2.1
abbrev gC (G : aG) : ClassId := G.2.2.2.2.2.2.2
def rV (G : aG) : Value → Value
  | .ref i => .ref (gA G i)
  | v => v
def rO (G : aG) (r : Nat) : Option Nat := if r = 0 then none else some (G.1 + (r - 1))
def fV (G : aG) (N : aN) (ci i k : Nat) : Value := if am_ft ci k = 1 then .long (vL N i k) else if am_ft ci k = 2 then va_rf (rO G (vR N i k)) else .int (vI N i k)
def cE (G : aG) (N : aN) (i : Nat) : va_E :=
  if (sH N i).1 = 0 then .inl (gI G, (sH N i).2, .inl (vI N i))
  else if (sH N i).1 = 1 then .inl (gR G, (sH N i).2, .inr (.inr (.inr (.inr (fun j => rO G (vR N i j))))))
  else if (sH N i).1 = 2 then .inl (gC G, (sH N i).2, .inr (.inr (.inr (.inr (fun j => rO G (vR N i j))))))
  else .inr ((sH N i).1 - 10, (List.range (sH N i).2).map (fV G N ((sH N i).1 - 10) i))
def wsL (G : aG) (N : aN) : va_W := (List.range (nC N)).map (fun i => (G.1 + i, cE G N i))
def aW (G : aG) (N : aN) (H : Heap) : Prop := va_P (gD G) am_cl (wsL G N) H ∧ H.size = G.1 + nC N ∧ nC N ≤ 1000
abbrev gB (G : aG) : Nat → Prop := fun q => G.1 ≤ q
abbrev aT (G : aG) : List (ClassId × FieldType) := [(gI G, .int), (gR G, .object am_R2), (gC G, .object am_R0)]
def am_nm : List (String × Nat × MethodName × String) := [("SewnAhead", 20, ⟨"SewnAhead$Cloth", "<init>", "()V"⟩, "SewnAhead"), ("SewnAhead", 34, ⟨"SewnAhead$Plans", "<init>", "()V"⟩, "SewnAhead"), ("SewnAhead$Plans", 11, ⟨"SewnAhead$Cloth", "<init>", "()V"⟩, "SewnAhead"), ("SewnAhead$Reader", 48, ⟨"SewnAhead", "isScene", "(I)Z"⟩, "SewnAhead"), ("SewnAhead$Cloth", 62, ⟨"SewnAhead", "isScene", "(I)Z"⟩, "SewnAhead"), ("SewnAhead$Plans", 93, ⟨"SewnAhead", "happeningBit", "(I)I"⟩, "SewnAhead")]
/-- what holds of the tables and of what was there before, at every method's start -/
def aK (G : aG) (X : aX) (s : State) : Prop :=
  va_K (gD G) am_cl (aT G) s ∧ (∀ q ∈ am_nm, va_Nw (.methodLinkNest q.1 q.2.1 q.2.2.1 q.2.2.2) s) ∧
  (va_Nw (.fieldLinkNest "SewnAhead$Reader" 62 "SewnAhead" "LETTERS" "[C" "SewnAhead") s ∧ va_Nw (.fieldLinkNest "SewnAhead$Cloth" 91 "SewnAhead" "PARENTS" "[I" "SewnAhead") s) ∧
  (va_AO am_R2 s ∧ va_AO am_R0 s) ∧
  (va_Z "SewnAhead" "LETTERS" "[C" (.ref G.2.2.1) (gB G) s s.heap ∧ va_Z "SewnAhead" "PARENTS" "[I" (.ref G.2.2.2.1) (gB G) s s.heap ∧
   va_T .char G.2.2.1 6 (fun j => .int (am_let j)) (gB G) s s.heap ∧ va_T .int G.2.2.2.1 6 (fun j => .int (am_par j)) (gB G) s s.heap) ∧
  va_X G.2.1 X.1 X.2 s s.heap ∧ G.2.1 < G.1 ∧ G.1 ≤ s.heap.size
theorem aK.moved {G : aG} {X : aX} {s U : State} (h : aK G X s) (hvm : s.vm.Alike U.vm) (hM : ∀ a i x h, va_Nw (.methodLinkNest a i x h) s → va_Nw (.methodLinkNest a i x h) U) (hF : ∀ a i b n d h, va_Nw (.fieldLinkNest a i b n d h) s → va_Nw (.fieldLinkNest a i b n d h) U)
    (hH : ∀ q : Nat, q < G.1 → U.heap[q]? = s.heap[q]?) (hz : G.1 ≤ U.heap.size) : aK G X U := by
  obtain ⟨h1, h2, ⟨h3, h4⟩, ⟨h5, h6⟩, ⟨h7, h8, h9, h10⟩, h11, h12, h13⟩ := h
  have hk : ∀ a : Nat, a < s.heap.size → ¬ gB G a → U.heap[a]? = s.heap[a]? := fun a _ h => hH a (Nat.not_le.mp h)
  exact ⟨h1.moved hvm, fun q hq => hM _ _ _ _ (h2 q hq), ⟨hF _ _ _ _ _ _ h3, hF _ _ _ _ _ _ h4⟩, ⟨h5.moved hvm, h6.moved hvm⟩, ⟨(h7.moved hvm).kept hk, (h8.moved hvm).kept hk, (h9.moved hvm).kept hk, (h10.moved hvm).kept hk⟩, (h11.moved hvm).kept (hH _ h12), h12, hz⟩
theorem aK.warm {G : aG} {X : aX} {s U : State} (h : aK G X s) (hW : s.WarmedH U.vm) (hH : ∀ q : Nat, q < G.1 → U.heap[q]? = s.heap[q]?) (hz : G.1 ≤ U.heap.size) : aK G X U :=
  h.moved hW.alike (fun _ _ _ _ z => va_Nw.warmM hW z) (fun _ _ _ _ _ _ z => va_Nw.warmF hW z) hH hz
theorem aK.calling {G : aG} {X : aX} {U : State} (h : aK G X U) (g : JFrame) (mk : MethodId) (a : Array Value) : aK G X (U.calling g mk a) :=
  h.moved (U := U.calling g mk a) (Vm.Alike.refl U.vm) (fun _ _ _ _ z => va_Nw.same rfl rfl z) (fun _ _ _ _ _ _ z => va_Nw.same rfl rfl z) (fun _ _ => rfl) h.2.2.2.2.2.2.2
/-! locals -/
def las (G : aG) : Nat → aL → List (Nat × Value)
  | _, [] => []
  | i, none :: t => las G (i + 1) t
  | i, some v :: t => (i, rV G v) :: las G (i + 1) t
def isLg : Option Value → Bool
  | some (.long _) => true
  | some (.double _) => true
  | _ => false
def lvc : aL → Nat → Value → aL
  | [], _, _ => []
  | _ :: t, 0, v => some v :: t
  | x :: t, 1, v => (if isLg x then none else x) :: lvc t 0 v
  | x :: t, i + 2, v => x :: lvc t (i + 1) v
def lvd : aL → Nat → Value → aL
  | [], _, _ => []
  | [_], 0, v => [some v]
  | _ :: _ :: t, 0, v => some v :: none :: t
  | x :: t, 1, v => (if isLg x then none else x) :: lvd t 0 v
  | x :: t, i + 2, v => x :: lvd t (i + 1) v
/-- the arguments as locals -/
def lva : List Value → aL
  | [] => []
  | .long x :: t => some (.long x) :: none :: lva t
  | v :: t => some v :: lva t
def lve (args : List Value) (n : Nat) : aL := lva args ++ List.replicate (n - (lva args).length) none
abbrev pR : Option Value → List Value → List Value
  | none, st => st
  | some v, st => v :: st
/-! contracts -/
def aC (mid d : Nat) (p : Program) (R : Room) (s : State) (m : MethodId) (args : Array Value) (meth : Method) (c : Code) : Prop :=
  p.tables.exec = Jvm.exec ∧ c.code = am_c mid ∧ c.maxLocals = am_l mid ∧ s.vm.findClass (am_y mid).cls = some m.cls ∧ (∀ w ∈ am_big, w.before args s = true) ∧ meth.name = (am_y mid).name ∧ d ≤ R.frames ∧ 60 * d ≤ R.locals
def aRt (mid pc : Nat) (r : Option Value) : Prop :=
  (r = none ∧ decode (am_c mid) pc = .ok (.return_, 1) ∧ am_r mid = none) ∨ (∃ x, r = some (.int x) ∧ decode (am_c mid) pc = .ok (.ireturn, 1) ∧ (am_r mid = some .int ∨ (am_r mid = some .boolean ∧ (x = 0 ∨ x = 1)))) ∨ ∃ x, r = some (.long x) ∧ decode (am_c mid) pc = .ok (.lreturn, 1) ∧ am_r mid = some .long
def aRet (mid : Nat) (G : aG) (p : Program) (l : Launch) (e : Env) (R : Room) (s : State) (m : MethodId) (args : Array Value) (below : List Frame) (meth : Method) (c : Code) (mc ms : Nat) (Q : State → Prop) (post : aO) : Prop :=
  ∀ (H : Heap) (locs : List Loc) (cells slots : Nat) (lsr : Array Slot) (pc : Nat) (r : Option Value) (N : aN), post r N → aW G N H → va_S (gB G) s.heap H locs → cells ≤ mc → slots ≤ ms → aRt mid pc r → W p l e R s m args below meth c H locs cells slots Q (F0 m pc lsr ((pR r []).map (rV G)))
/-- the machine, at pc of the method mid with these locals, stack and cells, comes to its end with post; calls may go d deep; it may make bc cells of bs slots -/
def wp (X : aX) (d mid bc bs pc : Nat) (ls : aL) (st : List Value) (N : aN) (post : aO) : Prop :=
  ∀ (G : aG) (p : Program) (l : Launch) (e : Env) (R : Room) (s : State) (m : MethodId) (args : Array Value) (below : List Frame) (meth : Method) (c : Code) (mc ms : Nat) (Q : State → Prop),
    aC mid d p R s m args meth c → aK G X s → mc ≤ R.cells ∧ ms ≤ R.slots → aRet mid G p l e R s m args below meth c mc ms Q post →
    ∀ (H : Heap) (locs : List Loc) (cells slots : Nat) (lsr : Array Slot), aW G N H → va_S (gB G) s.heap H locs → cells + bc ≤ mc → slots + bs ≤ ms → lv_has lsr (am_l mid) (las G 0 ls) → ls.length = am_l mid →
    W p l e R s m args below meth c H locs cells slots Q (F0 m pc lsr (st.map (rV G)))
def aPc (X : aX) (G : aG) (args : List Value) (N : aN) : Array Value → State → Prop := fun v U => v = (args.map (rV G)).toArray ∧ aW G N U.heap ∧ aK G X U
def aQc (G : aG) (post : aO) : Array Value → State → Outcome → State → Prop := fun _ st o t => (∃ (r : Option Value) (N : aN), o = .returned (r.map (rV G)) ∧ post r N ∧ aW G N t.heap) ∧ va_F (gB G) st t
abbrev aRm (d bc bs : Nat) : Room := { frames := d, cells := bc, slots := bs, locals := 60 * d }
def CallOk (X : aX) (d bc bs mid : Nat) (args : List Value) (N : aN) (post : aO) : Prop :=
  ∀ (G : aG) (l : Launch), Met l (am_y mid) (.code (am_y mid) (am_c mid) (am_l mid) (am_r mid) :: am_big) (aRm d bc bs) (aPc X G args N) (aQc G post) bc bs (gB G)
theorem CallOk.mono {X : aX} {d bc bs mid : Nat} {args : List Value} {N : aN} {post post' : aO} (h : CallOk X d bc bs mid args N post) (hp : ∀ r N', post r N' → post' r N') : CallOk X d bc bs mid args N post' := by
  intro G l
  have h1 := h G l
  intro p e ha hc hk s m args' below hf happ hP hT
  obtain ⟨k, o, a1, a2, a3, ⟨⟨r, N', b1, b2, b3⟩, b4⟩, b5⟩ := h1 p e ha hc hk s m args' below hf happ hP hT
  exact ⟨k, o, a1, a2, a3, ⟨⟨r, N', b1, hp r N' b2, b3⟩, b4⟩, b5⟩
theorem wp.mono {X : aX} {d mid bc bs pc : Nat} {ls : aL} {st : List Value} {N : aN} {post post' : aO} (h : wp X d mid bc bs pc ls st N post) (hp : ∀ r N', post r N' → post' r N') : wp X d mid bc bs pc ls st N post' := by
  intro G p l e R s m args below meth c mc ms Q hC hK hR hret
  exact h G p l e R s m args below meth c mc ms Q hC hK hR (fun H locs cells slots lsr pc r N a1 => hret H locs cells slots lsr pc r N (hp r N a1))
end
section
/-! locals: rows -/
theorem las_mem {G : aG} : ∀ (ls : aL) (i i0 : Nat) (v : Value), ls[i]? = some (some v) → (i0 + i, rV G v) ∈ las G i0 ls
  | [], i, i0, v, h => by simp at h
  | x :: t, 0, i0, v, h => by
    rw [List.getElem?_cons_zero] at h
    cases h
    exact List.mem_cons_self
  | none :: t, i + 1, i0, v, h => by
    rw [List.getElem?_cons_succ] at h
    have := las_mem (G := G) t i (i0 + 1) v h
    rw [show i0 + 1 + i = i0 + (i + 1) by omega] at this
    exact this
  | some w :: t, i + 1, i0, v, h => by
    rw [List.getElem?_cons_succ] at h
    have := las_mem (G := G) t i (i0 + 1) v h
    rw [show i0 + 1 + i = i0 + (i + 1) by omega] at this
    exact List.mem_cons_of_mem _ this
theorem las_of {G : aG} : ∀ (ls : aL) (i0 : Nat) (q : Nat × Value), q ∈ las G i0 ls → ∃ i v, q = (i0 + i, rV G v) ∧ ls[i]? = some (some v)
  | [], i0, q, h => by simp [las] at h
  | none :: t, i0, q, h => by
    obtain ⟨i, v, h1, h2⟩ := las_of t (i0 + 1) q h
    exact ⟨i + 1, v, by rw [h1, show i0 + 1 + i = i0 + (i + 1) by omega], by rw [List.getElem?_cons_succ]; exact h2⟩
  | some w :: t, i0, q, h => by
    rcases List.mem_cons.mp h with h | h
    · exact ⟨0, w, h, rfl⟩
    · obtain ⟨i, v, h1, h2⟩ := las_of t (i0 + 1) q h
      exact ⟨i + 1, v, by rw [h1, show i0 + 1 + i = i0 + (i + 1) by omega], by rw [List.getElem?_cons_succ]; exact h2⟩
theorem las_at {G : aG} {ls : aL} {n i : Nat} {v : Value} {lsr : Array Slot} (hl : lv_has lsr n (las G 0 ls)) (h : ls[i]? = some (some v)) : lsr[i]? = some (.val (rV G v)) := by
  have := hl.2.2 _ (las_mem ls i 0 v h)
  rwa [Nat.zero_add] at this
theorem lvh_mono {lsr : Array Slot} {n : Nat} {a b : List (Nat × Value)} (h : lv_has lsr n a) (hb : ∀ q ∈ b, q ∈ a) : lv_has lsr n b := ⟨h.1, h.2.1, fun q hq => h.2.2 q (hb q hq)⟩
theorem lvc_len : ∀ (ls : aL) (i : Nat) (v : Value), (lvc ls i v).length = ls.length
  | [], _, _ => rfl
  | _ :: t, 0, v => rfl
  | x :: t, 1, v => by simp [lvc, lvc_len t 0 v]
  | x :: t, i + 2, v => by simp [lvc, lvc_len t (i + 1) v]
theorem lvd_len : ∀ (ls : aL) (i : Nat) (v : Value), (lvd ls i v).length = ls.length
  | [], _, _ => rfl
  | [_], 0, v => rfl
  | _ :: _ :: t, 0, v => rfl
  | x :: t, 1, v => by simp [lvd, lvd_len t 0 v]
  | x :: t, i + 2, v => by simp [lvd, lvd_len t (i + 1) v]
theorem rV_cat (G : aG) (v : Value) : (rV G v).category = v.category := by cases v <;> rfl
theorem lvc_at : ∀ (ls : aL) (i j : Nat) (v w : Value), (lvc ls i v)[j]? = some (some w) → (j = i ∧ w = v) ∨ (j ≠ i ∧ ls[j]? = some (some w) ∧ ¬ (j + 1 = i ∧ w.category = 2 ∧ isLg (some w) = true))
  | [], i, j, v, w, h => by simp [lvc] at h
  | _ :: t, 0, 0, v, w, h => by simp [lvc] at h; exact Or.inl ⟨rfl, h.symm⟩
  | x :: t, 0, j + 1, v, w, h => by
    simp only [lvc, List.getElem?_cons_succ] at h
    exact Or.inr ⟨by omega, by simpa using h, by omega⟩
  | x :: t, 1, 0, v, w, h => by
    simp only [lvc, List.getElem?_cons_zero] at h
    refine Or.inr ⟨by omega, ?_, ?_⟩
    · by_cases hx : isLg x = true
      · simp [hx] at h
      · simp [hx] at h; simp [h]
    · intro hq
      by_cases hx : isLg x = true
      · simp [hx] at h
      · simp [hx] at h; rw [h] at hx; exact hx hq.2.2
  | x :: t, 1, j + 1, v, w, h => by
    simp only [lvc, List.getElem?_cons_succ] at h
    rcases lvc_at t 0 j v w h with ⟨h1, h2⟩ | ⟨h1, h2, h3⟩
    · exact Or.inl ⟨by omega, h2⟩
    · exact Or.inr ⟨by omega, by simpa using h2, by omega⟩
  | x :: t, i + 2, 0, v, w, h => by
    simp only [lvc, List.getElem?_cons_zero] at h
    exact Or.inr ⟨by omega, by simpa using h, by omega⟩
  | x :: t, i + 2, j + 1, v, w, h => by
    simp only [lvc, List.getElem?_cons_succ] at h
    rcases lvc_at t (i + 1) j v w h with ⟨h1, h2⟩ | ⟨h1, h2, h3⟩
    · exact Or.inl ⟨by omega, h2⟩
    · exact Or.inr ⟨by omega, by simpa using h2, fun q => h3 ⟨by omega, q.2⟩⟩
theorem lvd_at : ∀ (ls : aL) (i j : Nat) (v w : Value), i + 1 < ls.length → (lvd ls i v)[j]? = some (some w) → (j = i ∧ w = v) ∨ (j ≠ i ∧ j ≠ i + 1 ∧ ls[j]? = some (some w) ∧ ¬ (j + 1 = i ∧ w.category = 2 ∧ isLg (some w) = true))
  | [], i, j, v, w, hi, h => by simp [lvd] at h
  | [_], 0, j, v, w, hi, h => by simp at hi
  | _ :: _ :: t, 0, 0, v, w, hi, h => by simp [lvd] at h; exact Or.inl ⟨rfl, h.symm⟩
  | _ :: _ :: t, 0, 1, v, w, hi, h => by simp [lvd] at h
  | x :: y :: t, 0, j + 2, v, w, hi, h => by
    simp only [lvd, List.getElem?_cons_succ] at h
    exact Or.inr ⟨by omega, by omega, by simpa using h, by omega⟩
  | x :: t, 1, 0, v, w, hi, h => by
    simp only [lvd, List.getElem?_cons_zero] at h
    refine Or.inr ⟨by omega, by omega, ?_, ?_⟩
    · by_cases hx : isLg x = true
      · simp [hx] at h
      · simp [hx] at h; simp [h]
    · intro hq
      by_cases hx : isLg x = true
      · simp [hx] at h
      · simp [hx] at h; rw [h] at hx; exact hx hq.2.2
  | x :: t, 1, j + 1, v, w, hi, h => by
    simp only [lvd, List.getElem?_cons_succ] at h
    rcases lvd_at t 0 j v w (by simp at hi; omega) h with ⟨h1, h2⟩ | ⟨h1, h2, h3, h4⟩
    · exact Or.inl ⟨by omega, h2⟩
    · exact Or.inr ⟨by omega, by omega, by simpa using h3, by omega⟩
  | x :: t, i + 2, 0, v, w, hi, h => by
    simp only [lvd, List.getElem?_cons_zero] at h
    exact Or.inr ⟨by omega, by omega, by simpa using h, by omega⟩
  | x :: t, i + 2, j + 1, v, w, hi, h => by
    simp only [lvd, List.getElem?_cons_succ] at h
    rcases lvd_at t (i + 1) j v w (by simp at hi; omega) h with ⟨h1, h2⟩ | ⟨h1, h2, h3, h4⟩
    · exact Or.inl ⟨by omega, h2⟩
    · exact Or.inr ⟨by omega, by omega, by simpa using h3, fun q => h4 ⟨by omega, q.2⟩⟩
theorem isLg_noF {w : Value} (h : w.category = 2) : isLg (some w) = true := by
  cases w <;> simp_all [Value.category, isLg]
theorem las_st1 {G : aG} {ls : aL} {i : Nat} {v : Value} : ∀ q ∈ las G 0 (lvc ls i v), q ∈ (i, rV G v) :: (las G 0 ls).filter (fun q => !(q.1 == i) && !(q.1 + 1 == i && q.2.category == 2)) := by
  intro q hq
  obtain ⟨j, w, rfl, h⟩ := las_of _ _ _ hq
  rw [Nat.zero_add]
  rcases lvc_at _ _ _ _ _ h with ⟨h1, h2⟩ | ⟨h1, h2, h3⟩
  · rw [h1, h2]; exact List.mem_cons_self
  · refine List.mem_cons_of_mem _ (List.mem_filter.mpr ⟨?_, ?_⟩)
    · have := las_mem (G := G) ls j 0 w h2
      rwa [Nat.zero_add] at this
    · simp only [rV_cat, Bool.and_eq_true, Bool.not_eq_true', beq_eq_false_iff_ne, ne_eq, Bool.and_eq_false_iff]
      refine ⟨h1, ?_⟩
      by_cases hj : j + 1 = i
      · right
        intro hc
        exact h3 ⟨hj, hc, isLg_noF hc⟩
      · exact Or.inl hj
theorem las_st2 {G : aG} {ls : aL} {i : Nat} {v : Value} (hi : i + 1 < ls.length) : ∀ q ∈ las G 0 (lvd ls i v), q ∈ (i, rV G v) :: (las G 0 ls).filter (fun q => !(q.1 == i) && (!(q.1 == i + 1) && !(q.1 + 1 == i && q.2.category == 2))) := by
  intro q hq
  obtain ⟨j, w, rfl, h⟩ := las_of _ _ _ hq
  rw [Nat.zero_add]
  rcases lvd_at _ _ _ _ _ hi h with ⟨h1, h2⟩ | ⟨h1, h1', h2, h3⟩
  · rw [h1, h2]; exact List.mem_cons_self
  · refine List.mem_cons_of_mem _ (List.mem_filter.mpr ⟨?_, ?_⟩)
    · have := las_mem (G := G) ls j 0 w h2
      rwa [Nat.zero_add] at this
    · simp only [rV_cat, Bool.and_eq_true, Bool.not_eq_true', beq_eq_false_iff_ne, ne_eq, Bool.and_eq_false_iff]
      refine ⟨h1, h1', ?_⟩
      by_cases hj : j + 1 = i
      · right
        intro hc
        exact h3 ⟨hj, hc, isLg_noF hc⟩
      · exact Or.inl hj
end
section
variable {X : aX} {d mid bc bs pc : Nat} {ls : aL} {st : List Value} {N : aN} {post : aO}
theorem wr_iconst {n : Int} {v : Int32} (hd : decode (am_c mid) pc = .ok (.iconst n, 1)) (hv : Int32.ofInt n = v) (k : wp X d mid bc bs (pc + 1) ls (.int v :: st) N post) : wp X d mid bc bs pc ls (st) N post := by
  intro G p l e R s m args below meth c mc ms Q hC hK hR hret H locs cells slots lsr hW hS hc hs hl hn
  obtain ⟨hx, hb, hml, hown, hts, hnm, hdf, hdl⟩ := id hC
  exact lv_iconst hx hb hd hv (k G p l e R s m args below meth c mc ms Q hC hK hR hret H locs cells slots lsr hW hS hc hs hl hn)
theorem wr_bipush {n : Int} {v : Int32} (hd : decode (am_c mid) pc = .ok (.bipush n, 2)) (hv : (Int8.ofInt n).toInt32 = v) (k : wp X d mid bc bs (pc + 2) ls (.int v :: st) N post) : wp X d mid bc bs pc ls (st) N post := by
  intro G p l e R s m args below meth c mc ms Q hC hK hR hret H locs cells slots lsr hW hS hc hs hl hn
  obtain ⟨hx, hb, hml, hown, hts, hnm, hdf, hdl⟩ := id hC
  exact lv_bipush hx hb hd hv (k G p l e R s m args below meth c mc ms Q hC hK hR hret H locs cells slots lsr hW hS hc hs hl hn)
theorem wr_sipush {n : Int} {v : Int32} (hd : decode (am_c mid) pc = .ok (.sipush n, 3)) (hv : (Int16.ofInt n).toInt32 = v) (k : wp X d mid bc bs (pc + 3) ls (.int v :: st) N post) : wp X d mid bc bs pc ls (st) N post := by
  intro G p l e R s m args below meth c mc ms Q hC hK hR hret H locs cells slots lsr hW hS hc hs hl hn
  obtain ⟨hx, hb, hml, hown, hts, hnm, hdf, hdl⟩ := id hC
  exact lv_sipush hx hb hd hv (k G p l e R s m args below meth c mc ms Q hC hK hR hret H locs cells slots lsr hW hS hc hs hl hn)
theorem wr_lconst {n : Fin 2} {v : Int64} (hd : decode (am_c mid) pc = .ok (.lconst n, 1)) (hv : Int64.ofNat (n : Nat) = v) (k : wp X d mid bc bs (pc + 1) ls (.long v :: st) N post) : wp X d mid bc bs pc ls (st) N post := by
  intro G p l e R s m args below meth c mc ms Q hC hK hR hret H locs cells slots lsr hW hS hc hs hl hn
  obtain ⟨hx, hb, hml, hown, hts, hnm, hdf, hdl⟩ := id hC
  exact lv_lconst hx hb hd hv (k G p l e R s m args below meth c mc ms Q hC hK hR hret H locs cells slots lsr hW hS hc hs hl hn)
theorem wr_ldc {i : Nat} {v : Int32} (hd : decode (am_c mid) pc = .ok (.ldc i, 2)) (hv : Cond.constant (am_y mid).cls i v ∈ am_big) (k : wp X d mid bc bs (pc + 2) ls (.int v :: st) N post) : wp X d mid bc bs pc ls (st) N post := by
  intro G p l e R s m args below meth c mc ms Q hC hK hR hret H locs cells slots lsr hW hS hc hs hl hn
  obtain ⟨hx, hb, hml, hown, hts, hnm, hdf, hdl⟩ := id hC
  exact lv_ldc hx hb hown (hts _ hv) hd (k G p l e R s m args below meth c mc ms Q hC hK hR hret H locs cells slots lsr hW hS hc hs hl hn)
theorem wr_ldcw {i : Nat} {v : Int32} (hd : decode (am_c mid) pc = .ok (.ldc_w i, 3)) (hv : Cond.constant (am_y mid).cls i v ∈ am_big) (k : wp X d mid bc bs (pc + 3) ls (.int v :: st) N post) : wp X d mid bc bs pc ls (st) N post := by
  intro G p l e R s m args below meth c mc ms Q hC hK hR hret H locs cells slots lsr hW hS hc hs hl hn
  obtain ⟨hx, hb, hml, hown, hts, hnm, hdf, hdl⟩ := id hC
  exact lv_ldcw hx hb hown (hts _ hv) hd (k G p l e R s m args below meth c mc ms Q hC hK hR hret H locs cells slots lsr hW hS hc hs hl hn)
theorem wr_ldc2 {i : Nat} {v : Int64} (hd : decode (am_c mid) pc = .ok (.ldc2_w i, 3)) (hv : Cond.constantLong (am_y mid).cls i v ∈ am_big) (k : wp X d mid bc bs (pc + 3) ls (.long v :: st) N post) : wp X d mid bc bs pc ls (st) N post := by
  intro G p l e R s m args below meth c mc ms Q hC hK hR hret H locs cells slots lsr hW hS hc hs hl hn
  obtain ⟨hx, hb, hml, hown, hts, hnm, hdf, hdl⟩ := id hC
  exact lv_ldc2 hx hb hown (hts _ hv) hd (k G p l e R s m args below meth c mc ms Q hC hK hR hret H locs cells slots lsr hW hS hc hs hl hn)
theorem wr_iload_n {q : Fin 4} {i : Nat} {x : Int32} (hd : decode (am_c mid) pc = .ok (.iload_n q, 1)) (hq : (q : Nat) = i) (hv : ls[i]? = some (some (.int x))) (k : wp X d mid bc bs (pc + 1) ls (.int x :: st) N post) : wp X d mid bc bs pc ls (st) N post := by
  intro G p l e R s m args below meth c mc ms Q hC hK hR hret H locs cells slots lsr hW hS hc hs hl hn
  obtain ⟨hx, hb, hml, hown, hts, hnm, hdf, hdl⟩ := id hC
  exact lv_iload_n hx hb hd hq (las_at hl hv) (k G p l e R s m args below meth c mc ms Q hC hK hR hret H locs cells slots lsr hW hS hc hs hl hn)
theorem wr_iload {i : Nat} {x : Int32} (hd : decode (am_c mid) pc = .ok (.iload i, 2)) (hv : ls[i]? = some (some (.int x))) (k : wp X d mid bc bs (pc + 2) ls (.int x :: st) N post) : wp X d mid bc bs pc ls (st) N post := by
  intro G p l e R s m args below meth c mc ms Q hC hK hR hret H locs cells slots lsr hW hS hc hs hl hn
  obtain ⟨hx, hb, hml, hown, hts, hnm, hdf, hdl⟩ := id hC
  exact lv_iload hx hb hd (las_at hl hv) (k G p l e R s m args below meth c mc ms Q hC hK hR hret H locs cells slots lsr hW hS hc hs hl hn)
theorem wr_istore_n {q : Fin 4} {i : Nat} {x : Int32} (hd : decode (am_c mid) pc = .ok (.istore_n q, 1)) (hq : (q : Nat) = i) (hi : i < am_l mid) (k : wp X d mid bc bs (pc + 1) (lvc ls i (.int x)) (st) N post) : wp X d mid bc bs pc ls (.int x :: st) N post := by
  intro G p l e R s m args below meth c mc ms Q hC hK hR hret H locs cells slots lsr hW hS hc hs hl hn
  obtain ⟨hx, hb, hml, hown, hts, hnm, hdf, hdl⟩ := id hC
  exact lv_istore_n hx hb hd hq hl hi rfl (fun lsr' hl' => (k G p l e R s m args below meth c mc ms Q hC hK hR hret H locs cells slots lsr' hW hS hc hs (lvh_mono hl' (las_st1)) (by rw [lvc_len]; exact hn)))
theorem wr_istore {i : Nat} {x : Int32} (hd : decode (am_c mid) pc = .ok (.istore i, 2)) (hi : i < am_l mid) (k : wp X d mid bc bs (pc + 2) (lvc ls i (.int x)) (st) N post) : wp X d mid bc bs pc ls (.int x :: st) N post := by
  intro G p l e R s m args below meth c mc ms Q hC hK hR hret H locs cells slots lsr hW hS hc hs hl hn
  obtain ⟨hx, hb, hml, hown, hts, hnm, hdf, hdl⟩ := id hC
  exact lv_istore hx hb hd hl hi rfl (fun lsr' hl' => (k G p l e R s m args below meth c mc ms Q hC hK hR hret H locs cells slots lsr' hW hS hc hs (lvh_mono hl' (las_st1)) (by rw [lvc_len]; exact hn)))
theorem wr_lload_n {q : Fin 4} {i : Nat} {x : Int64} (hd : decode (am_c mid) pc = .ok (.lload_n q, 1)) (hq : (q : Nat) = i) (hv : ls[i]? = some (some (.long x))) (k : wp X d mid bc bs (pc + 1) ls (.long x :: st) N post) : wp X d mid bc bs pc ls (st) N post := by
  intro G p l e R s m args below meth c mc ms Q hC hK hR hret H locs cells slots lsr hW hS hc hs hl hn
  obtain ⟨hx, hb, hml, hown, hts, hnm, hdf, hdl⟩ := id hC
  exact lv_lload_n hx hb hd hq (las_at hl hv) (k G p l e R s m args below meth c mc ms Q hC hK hR hret H locs cells slots lsr hW hS hc hs hl hn)
theorem wr_lload {i : Nat} {x : Int64} (hd : decode (am_c mid) pc = .ok (.lload i, 2)) (hv : ls[i]? = some (some (.long x))) (k : wp X d mid bc bs (pc + 2) ls (.long x :: st) N post) : wp X d mid bc bs pc ls (st) N post := by
  intro G p l e R s m args below meth c mc ms Q hC hK hR hret H locs cells slots lsr hW hS hc hs hl hn
  obtain ⟨hx, hb, hml, hown, hts, hnm, hdf, hdl⟩ := id hC
  exact lv_lload hx hb hd (las_at hl hv) (k G p l e R s m args below meth c mc ms Q hC hK hR hret H locs cells slots lsr hW hS hc hs hl hn)
theorem wr_lstore_n {q : Fin 4} {i : Nat} {x : Int64} (hd : decode (am_c mid) pc = .ok (.lstore_n q, 1)) (hq : (q : Nat) = i) (hi : i + 1 < am_l mid) (k : wp X d mid bc bs (pc + 1) (lvd ls i (.long x)) (st) N post) : wp X d mid bc bs pc ls (.long x :: st) N post := by
  intro G p l e R s m args below meth c mc ms Q hC hK hR hret H locs cells slots lsr hW hS hc hs hl hn
  obtain ⟨hx, hb, hml, hown, hts, hnm, hdf, hdl⟩ := id hC
  exact lv_lstore_n hx hb hd hq hl hi rfl (fun lsr' hl' => (k G p l e R s m args below meth c mc ms Q hC hK hR hret H locs cells slots lsr' hW hS hc hs (lvh_mono hl' (las_st2 (by omega))) (by rw [lvd_len]; exact hn)))
theorem wr_lstore {i : Nat} {x : Int64} (hd : decode (am_c mid) pc = .ok (.lstore i, 2)) (hi : i + 1 < am_l mid) (k : wp X d mid bc bs (pc + 2) (lvd ls i (.long x)) (st) N post) : wp X d mid bc bs pc ls (.long x :: st) N post := by
  intro G p l e R s m args below meth c mc ms Q hC hK hR hret H locs cells slots lsr hW hS hc hs hl hn
  obtain ⟨hx, hb, hml, hown, hts, hnm, hdf, hdl⟩ := id hC
  exact lv_lstore hx hb hd hl hi rfl (fun lsr' hl' => (k G p l e R s m args below meth c mc ms Q hC hK hR hret H locs cells slots lsr' hW hS hc hs (lvh_mono hl' (las_st2 (by omega))) (by rw [lvd_len]; exact hn)))
theorem wr_aload_n {q : Fin 4} {i : Nat} {x : Nat} (hd : decode (am_c mid) pc = .ok (.aload_n q, 1)) (hq : (q : Nat) = i) (hv : ls[i]? = some (some (.ref x))) (k : wp X d mid bc bs (pc + 1) ls (.ref x :: st) N post) : wp X d mid bc bs pc ls (st) N post := by
  intro G p l e R s m args below meth c mc ms Q hC hK hR hret H locs cells slots lsr hW hS hc hs hl hn
  obtain ⟨hx, hb, hml, hown, hts, hnm, hdf, hdl⟩ := id hC
  exact lv_aload_n hx hb hd hq (las_at hl hv) (k G p l e R s m args below meth c mc ms Q hC hK hR hret H locs cells slots lsr hW hS hc hs hl hn)
theorem wr_aload {i : Nat} {x : Nat} (hd : decode (am_c mid) pc = .ok (.aload i, 2)) (hv : ls[i]? = some (some (.ref x))) (k : wp X d mid bc bs (pc + 2) ls (.ref x :: st) N post) : wp X d mid bc bs pc ls (st) N post := by
  intro G p l e R s m args below meth c mc ms Q hC hK hR hret H locs cells slots lsr hW hS hc hs hl hn
  obtain ⟨hx, hb, hml, hown, hts, hnm, hdf, hdl⟩ := id hC
  exact lv_aload hx hb hd (las_at hl hv) (k G p l e R s m args below meth c mc ms Q hC hK hR hret H locs cells slots lsr hW hS hc hs hl hn)
theorem wr_astore_n {q : Fin 4} {i : Nat} {x : Nat} (hd : decode (am_c mid) pc = .ok (.astore_n q, 1)) (hq : (q : Nat) = i) (hi : i < am_l mid) (k : wp X d mid bc bs (pc + 1) (lvc ls i (.ref x)) (st) N post) : wp X d mid bc bs pc ls (.ref x :: st) N post := by
  intro G p l e R s m args below meth c mc ms Q hC hK hR hret H locs cells slots lsr hW hS hc hs hl hn
  obtain ⟨hx, hb, hml, hown, hts, hnm, hdf, hdl⟩ := id hC
  exact lv_astore_n hx hb hd hq hl hi rfl (fun lsr' hl' => (k G p l e R s m args below meth c mc ms Q hC hK hR hret H locs cells slots lsr' hW hS hc hs (lvh_mono hl' (las_st1)) (by rw [lvc_len]; exact hn)))
theorem wr_astore {i : Nat} {x : Nat} (hd : decode (am_c mid) pc = .ok (.astore i, 2)) (hi : i < am_l mid) (k : wp X d mid bc bs (pc + 2) (lvc ls i (.ref x)) (st) N post) : wp X d mid bc bs pc ls (.ref x :: st) N post := by
  intro G p l e R s m args below meth c mc ms Q hC hK hR hret H locs cells slots lsr hW hS hc hs hl hn
  obtain ⟨hx, hb, hml, hown, hts, hnm, hdf, hdl⟩ := id hC
  exact lv_astore hx hb hd hl hi rfl (fun lsr' hl' => (k G p l e R s m args below meth c mc ms Q hC hK hR hret H locs cells slots lsr' hW hS hc hs (lvh_mono hl' (las_st1)) (by rw [lvc_len]; exact hn)))
theorem wr_iinc {i : Nat} {n : Int} {x v : Int32} (hd : decode (am_c mid) pc = .ok (.iinc i n, 3)) (hv : ls[i]? = some (some (.int x))) (hn0 : Int32.ofInt n = v) (hi : i < am_l mid) (k : wp X d mid bc bs (pc + 3) (lvc ls i (.int (x + v))) st N post) : wp X d mid bc bs pc ls st N post := by
  intro G p l e R s m args below meth c mc ms Q hC hK hR hret H locs cells slots lsr hW hS hc hs hl hn
  obtain ⟨hx, hb, hml, hown, hts, hnm, hdf, hdl⟩ := id hC
  have hm := las_mem (G := G) ls i 0 _ hv
  rw [Nat.zero_add] at hm
  obtain ⟨q, hq⟩ := List.getElem?_of_mem hm
  subst hn0
  exact lv_iinc (v := x + Int32.ofInt n) hx hb hd hl hq rfl hi rfl (fun lsr' hl' => (k G p l e R s m args below meth c mc ms Q hC hK hR hret H locs cells slots lsr' hW hS hc hs (lvh_mono hl' las_st1) (by rw [lvc_len]; exact hn)))
theorem wr_iadd {x y : Int32} (hd : decode (am_c mid) pc = .ok (.iadd, 1))  (k : wp X d mid bc bs (pc + 1) ls (.int (x + y) :: st) N post) : wp X d mid bc bs pc ls (.int y :: .int x :: st) N post := by
  intro G p l e R s m args below meth c mc ms Q hC hK hR hret H locs cells slots lsr hW hS hc hs hl hn
  obtain ⟨hx, hb, hml, hown, hts, hnm, hdf, hdl⟩ := id hC
  exact lv_iadd hx hb hd (k G p l e R s m args below meth c mc ms Q hC hK hR hret H locs cells slots lsr hW hS hc hs hl hn)
theorem wr_isub {x y : Int32} (hd : decode (am_c mid) pc = .ok (.isub, 1))  (k : wp X d mid bc bs (pc + 1) ls (.int (x - y) :: st) N post) : wp X d mid bc bs pc ls (.int y :: .int x :: st) N post := by
  intro G p l e R s m args below meth c mc ms Q hC hK hR hret H locs cells slots lsr hW hS hc hs hl hn
  obtain ⟨hx, hb, hml, hown, hts, hnm, hdf, hdl⟩ := id hC
  exact lv_isub hx hb hd (k G p l e R s m args below meth c mc ms Q hC hK hR hret H locs cells slots lsr hW hS hc hs hl hn)
theorem wr_imul {x y : Int32} (hd : decode (am_c mid) pc = .ok (.imul, 1))  (k : wp X d mid bc bs (pc + 1) ls (.int (x * y) :: st) N post) : wp X d mid bc bs pc ls (.int y :: .int x :: st) N post := by
  intro G p l e R s m args below meth c mc ms Q hC hK hR hret H locs cells slots lsr hW hS hc hs hl hn
  obtain ⟨hx, hb, hml, hown, hts, hnm, hdf, hdl⟩ := id hC
  exact lv_imul hx hb hd (k G p l e R s m args below meth c mc ms Q hC hK hR hret H locs cells slots lsr hW hS hc hs hl hn)
theorem wr_iand {x y : Int32} (hd : decode (am_c mid) pc = .ok (.iand, 1))  (k : wp X d mid bc bs (pc + 1) ls (.int (x &&& y) :: st) N post) : wp X d mid bc bs pc ls (.int y :: .int x :: st) N post := by
  intro G p l e R s m args below meth c mc ms Q hC hK hR hret H locs cells slots lsr hW hS hc hs hl hn
  obtain ⟨hx, hb, hml, hown, hts, hnm, hdf, hdl⟩ := id hC
  exact lv_iand hx hb hd (k G p l e R s m args below meth c mc ms Q hC hK hR hret H locs cells slots lsr hW hS hc hs hl hn)
theorem wr_ior {x y : Int32} (hd : decode (am_c mid) pc = .ok (.ior, 1))  (k : wp X d mid bc bs (pc + 1) ls (.int (x ||| y) :: st) N post) : wp X d mid bc bs pc ls (.int y :: .int x :: st) N post := by
  intro G p l e R s m args below meth c mc ms Q hC hK hR hret H locs cells slots lsr hW hS hc hs hl hn
  obtain ⟨hx, hb, hml, hown, hts, hnm, hdf, hdl⟩ := id hC
  exact lv_ior hx hb hd (k G p l e R s m args below meth c mc ms Q hC hK hR hret H locs cells slots lsr hW hS hc hs hl hn)
theorem wr_ixor {x y : Int32} (hd : decode (am_c mid) pc = .ok (.ixor, 1))  (k : wp X d mid bc bs (pc + 1) ls (.int (x ^^^ y) :: st) N post) : wp X d mid bc bs pc ls (.int y :: .int x :: st) N post := by
  intro G p l e R s m args below meth c mc ms Q hC hK hR hret H locs cells slots lsr hW hS hc hs hl hn
  obtain ⟨hx, hb, hml, hown, hts, hnm, hdf, hdl⟩ := id hC
  exact lv_ixor hx hb hd (k G p l e R s m args below meth c mc ms Q hC hK hR hret H locs cells slots lsr hW hS hc hs hl hn)
theorem wr_ishl {x y : Int32} (hd : decode (am_c mid) pc = .ok (.ishl, 1))  (k : wp X d mid bc bs (pc + 1) ls (.int (x <<< (y &&& 31)) :: st) N post) : wp X d mid bc bs pc ls (.int y :: .int x :: st) N post := by
  intro G p l e R s m args below meth c mc ms Q hC hK hR hret H locs cells slots lsr hW hS hc hs hl hn
  obtain ⟨hx, hb, hml, hown, hts, hnm, hdf, hdl⟩ := id hC
  exact lv_ishl hx hb hd (k G p l e R s m args below meth c mc ms Q hC hK hR hret H locs cells slots lsr hW hS hc hs hl hn)
theorem wr_ishr {x y : Int32} (hd : decode (am_c mid) pc = .ok (.ishr, 1))  (k : wp X d mid bc bs (pc + 1) ls (.int (x >>> (y &&& 31)) :: st) N post) : wp X d mid bc bs pc ls (.int y :: .int x :: st) N post := by
  intro G p l e R s m args below meth c mc ms Q hC hK hR hret H locs cells slots lsr hW hS hc hs hl hn
  obtain ⟨hx, hb, hml, hown, hts, hnm, hdf, hdl⟩ := id hC
  exact lv_ishr hx hb hd (k G p l e R s m args below meth c mc ms Q hC hK hR hret H locs cells slots lsr hW hS hc hs hl hn)
theorem wr_iushr {x y : Int32} (hd : decode (am_c mid) pc = .ok (.iushr, 1))  (k : wp X d mid bc bs (pc + 1) ls (.int (x.toUInt32 >>> (y.toUInt32 &&& Int32.toUInt32 31)).toInt32 :: st) N post) : wp X d mid bc bs pc ls (.int y :: .int x :: st) N post := by
  intro G p l e R s m args below meth c mc ms Q hC hK hR hret H locs cells slots lsr hW hS hc hs hl hn
  obtain ⟨hx, hb, hml, hown, hts, hnm, hdf, hdl⟩ := id hC
  exact lv_iushr hx hb hd rfl (k G p l e R s m args below meth c mc ms Q hC hK hR hret H locs cells slots lsr hW hS hc hs hl hn)
theorem wr_idiv {x y : Int32} (hd : decode (am_c mid) pc = .ok (.idiv, 1)) (h0 : ¬ y = 0) (k : wp X d mid bc bs (pc + 1) ls (.int (x / y) :: st) N post) : wp X d mid bc bs pc ls (.int y :: .int x :: st) N post := by
  intro G p l e R s m args below meth c mc ms Q hC hK hR hret H locs cells slots lsr hW hS hc hs hl hn
  obtain ⟨hx, hb, hml, hown, hts, hnm, hdf, hdl⟩ := id hC
  exact lv_idiv hx hb hd h0 (k G p l e R s m args below meth c mc ms Q hC hK hR hret H locs cells slots lsr hW hS hc hs hl hn)
theorem wr_irem {x y : Int32} (hd : decode (am_c mid) pc = .ok (.irem, 1)) (h0 : ¬ y = 0) (k : wp X d mid bc bs (pc + 1) ls (.int (x - x / y * y) :: st) N post) : wp X d mid bc bs pc ls (.int y :: .int x :: st) N post := by
  intro G p l e R s m args below meth c mc ms Q hC hK hR hret H locs cells slots lsr hW hS hc hs hl hn
  obtain ⟨hx, hb, hml, hown, hts, hnm, hdf, hdl⟩ := id hC
  exact lv_irem hx hb hd h0 (k G p l e R s m args below meth c mc ms Q hC hK hR hret H locs cells slots lsr hW hS hc hs hl hn)
theorem wr_ladd {x y : Int64} (hd : decode (am_c mid) pc = .ok (.ladd, 1))  (k : wp X d mid bc bs (pc + 1) ls (.long (x + y) :: st) N post) : wp X d mid bc bs pc ls (.long y :: .long x :: st) N post := by
  intro G p l e R s m args below meth c mc ms Q hC hK hR hret H locs cells slots lsr hW hS hc hs hl hn
  obtain ⟨hx, hb, hml, hown, hts, hnm, hdf, hdl⟩ := id hC
  exact lv_ladd hx hb hd (k G p l e R s m args below meth c mc ms Q hC hK hR hret H locs cells slots lsr hW hS hc hs hl hn)
theorem wr_lmul {x y : Int64} (hd : decode (am_c mid) pc = .ok (.lmul, 1))  (k : wp X d mid bc bs (pc + 1) ls (.long (x * y) :: st) N post) : wp X d mid bc bs pc ls (.long y :: .long x :: st) N post := by
  intro G p l e R s m args below meth c mc ms Q hC hK hR hret H locs cells slots lsr hW hS hc hs hl hn
  obtain ⟨hx, hb, hml, hown, hts, hnm, hdf, hdl⟩ := id hC
  exact lv_lmul hx hb hd (k G p l e R s m args below meth c mc ms Q hC hK hR hret H locs cells slots lsr hW hS hc hs hl hn)
theorem wr_ldiv {x y : Int64} (hd : decode (am_c mid) pc = .ok (.ldiv, 1)) (h0 : ¬ y = 0) (k : wp X d mid bc bs (pc + 1) ls (.long (x / y) :: st) N post) : wp X d mid bc bs pc ls (.long y :: .long x :: st) N post := by
  intro G p l e R s m args below meth c mc ms Q hC hK hR hret H locs cells slots lsr hW hS hc hs hl hn
  obtain ⟨hx, hb, hml, hown, hts, hnm, hdf, hdl⟩ := id hC
  exact lv_ldiv hx hb hd h0 (k G p l e R s m args below meth c mc ms Q hC hK hR hret H locs cells slots lsr hW hS hc hs hl hn)
theorem wr_lrem {x y : Int64} (hd : decode (am_c mid) pc = .ok (.lrem, 1)) (h0 : ¬ y = 0) (k : wp X d mid bc bs (pc + 1) ls (.long (x - x / y * y) :: st) N post) : wp X d mid bc bs pc ls (.long y :: .long x :: st) N post := by
  intro G p l e R s m args below meth c mc ms Q hC hK hR hret H locs cells slots lsr hW hS hc hs hl hn
  obtain ⟨hx, hb, hml, hown, hts, hnm, hdf, hdl⟩ := id hC
  exact lv_lrem hx hb hd h0 (k G p l e R s m args below meth c mc ms Q hC hK hR hret H locs cells slots lsr hW hS hc hs hl hn)
theorem wr_lcmp {x y : Int64} (hd : decode (am_c mid) pc = .ok (.lcmp, 1))  (k : wp X d mid bc bs (pc + 1) ls (.int (lg_cmp x y) :: st) N post) : wp X d mid bc bs pc ls (.long y :: .long x :: st) N post := by
  intro G p l e R s m args below meth c mc ms Q hC hK hR hret H locs cells slots lsr hW hS hc hs hl hn
  obtain ⟨hx, hb, hml, hown, hts, hnm, hdf, hdl⟩ := id hC
  exact W.lcmp hx hb hd (k G p l e R s m args below meth c mc ms Q hC hK hR hret H locs cells slots lsr hW hS hc hs hl hn)
theorem wr_i2l {x : Int32} (hd : decode (am_c mid) pc = .ok (.i2l, 1))  (k : wp X d mid bc bs (pc + 1) ls (.long x.toInt64 :: st) N post) : wp X d mid bc bs pc ls (.int x :: st) N post := by
  intro G p l e R s m args below meth c mc ms Q hC hK hR hret H locs cells slots lsr hW hS hc hs hl hn
  obtain ⟨hx, hb, hml, hown, hts, hnm, hdf, hdl⟩ := id hC
  exact lv_i2l hx hb hd rfl (k G p l e R s m args below meth c mc ms Q hC hK hR hret H locs cells slots lsr hW hS hc hs hl hn)
theorem wr_l2i {x : Int64} (hd : decode (am_c mid) pc = .ok (.l2i, 1))  (k : wp X d mid bc bs (pc + 1) ls (.int x.toInt32 :: st) N post) : wp X d mid bc bs pc ls (.long x :: st) N post := by
  intro G p l e R s m args below meth c mc ms Q hC hK hR hret H locs cells slots lsr hW hS hc hs hl hn
  obtain ⟨hx, hb, hml, hown, hts, hnm, hdf, hdl⟩ := id hC
  exact lv_l2i hx hb hd rfl (k G p l e R s m args below meth c mc ms Q hC hK hR hret H locs cells slots lsr hW hS hc hs hl hn)
theorem wr_i2b {x : Int32} (hd : decode (am_c mid) pc = .ok (.i2b, 1))  (k : wp X d mid bc bs (pc + 1) ls (.int x.toInt8.toInt32 :: st) N post) : wp X d mid bc bs pc ls (.int x :: st) N post := by
  intro G p l e R s m args below meth c mc ms Q hC hK hR hret H locs cells slots lsr hW hS hc hs hl hn
  obtain ⟨hx, hb, hml, hown, hts, hnm, hdf, hdl⟩ := id hC
  exact lv_i2b hx hb hd rfl (k G p l e R s m args below meth c mc ms Q hC hK hR hret H locs cells slots lsr hW hS hc hs hl hn)
theorem wr_dup {v : Value} (hd : decode (am_c mid) pc = .ok (.dup, 1)) (hv : v.category = 1) (k : wp X d mid bc bs (pc + 1) ls (v :: v :: st) N post) : wp X d mid bc bs pc ls (v :: st) N post := by
  intro G p l e R s m args below meth c mc ms Q hC hK hR hret H locs cells slots lsr hW hS hc hs hl hn
  obtain ⟨hx, hb, hml, hown, hts, hnm, hdf, hdl⟩ := id hC
  exact lv_dup hx hb hd ((rV_cat G v).trans hv) (k G p l e R s m args below meth c mc ms Q hC hK hR hret H locs cells slots lsr hW hS hc hs hl hn)
theorem wr_dup2 {v w : Value} (hd : decode (am_c mid) pc = .ok (.dup2, 1)) (hv : v.category = 1) (hw : w.category = 1) (k : wp X d mid bc bs (pc + 1) ls (v :: w :: v :: w :: st) N post) : wp X d mid bc bs pc ls (v :: w :: st) N post := by
  intro G p l e R s m args below meth c mc ms Q hC hK hR hret H locs cells slots lsr hW hS hc hs hl hn
  obtain ⟨hx, hb, hml, hown, hts, hnm, hdf, hdl⟩ := id hC
  exact lv_dup2_11 hx hb hd ((rV_cat G v).trans hv) ((rV_cat G w).trans hw) (k G p l e R s m args below meth c mc ms Q hC hK hR hret H locs cells slots lsr hW hS hc hs hl hn)
theorem wr_if_eq {x : Int32} {off : Int} {t : Nat} (hd : decode (am_c mid) pc = .ok (.ifCond .eq off, 3)) (ht : (pc : Int) + off = (t : Int)) (k : x = 0 → wp X d mid bc bs t ls st N post) (k2 : ¬ x = 0 → wp X d mid bc bs (pc + 3) ls st N post) : wp X d mid bc bs pc ls (.int x :: st) N post := by
  intro G p l e R s m args below meth c mc ms Q hC hK hR hret H locs cells slots lsr hW hS hc hs hl hn
  obtain ⟨hx, hb, hml, hown, hts, hnm, hdf, hdl⟩ := id hC
  exact lv_if_eq hx hb hd ht (fun h => (k h G p l e R s m args below meth c mc ms Q hC hK hR hret H locs cells slots lsr hW hS hc hs hl hn)) (fun h => (k2 h G p l e R s m args below meth c mc ms Q hC hK hR hret H locs cells slots lsr hW hS hc hs hl hn))
theorem wr_icmp_eq {x y : Int32} {off : Int} {t : Nat} (hd : decode (am_c mid) pc = .ok (.if_icmp .eq off, 3)) (ht : (pc : Int) + off = (t : Int)) (k : x = y → wp X d mid bc bs t ls st N post) (k2 : ¬ x = y → wp X d mid bc bs (pc + 3) ls st N post) : wp X d mid bc bs pc ls (.int y :: .int x :: st) N post := by
  intro G p l e R s m args below meth c mc ms Q hC hK hR hret H locs cells slots lsr hW hS hc hs hl hn
  obtain ⟨hx, hb, hml, hown, hts, hnm, hdf, hdl⟩ := id hC
  exact lv_icmp_eq hx hb hd ht (fun h => (k h G p l e R s m args below meth c mc ms Q hC hK hR hret H locs cells slots lsr hW hS hc hs hl hn)) (fun h => (k2 h G p l e R s m args below meth c mc ms Q hC hK hR hret H locs cells slots lsr hW hS hc hs hl hn))
theorem wr_if_ne {x : Int32} {off : Int} {t : Nat} (hd : decode (am_c mid) pc = .ok (.ifCond .ne off, 3)) (ht : (pc : Int) + off = (t : Int)) (k : ¬ x = 0 → wp X d mid bc bs t ls st N post) (k2 : x = 0 → wp X d mid bc bs (pc + 3) ls st N post) : wp X d mid bc bs pc ls (.int x :: st) N post := by
  intro G p l e R s m args below meth c mc ms Q hC hK hR hret H locs cells slots lsr hW hS hc hs hl hn
  obtain ⟨hx, hb, hml, hown, hts, hnm, hdf, hdl⟩ := id hC
  exact lv_if_ne hx hb hd ht (fun h => (k h G p l e R s m args below meth c mc ms Q hC hK hR hret H locs cells slots lsr hW hS hc hs hl hn)) (fun h => (k2 h G p l e R s m args below meth c mc ms Q hC hK hR hret H locs cells slots lsr hW hS hc hs hl hn))
theorem wr_icmp_ne {x y : Int32} {off : Int} {t : Nat} (hd : decode (am_c mid) pc = .ok (.if_icmp .ne off, 3)) (ht : (pc : Int) + off = (t : Int)) (k : ¬ x = y → wp X d mid bc bs t ls st N post) (k2 : x = y → wp X d mid bc bs (pc + 3) ls st N post) : wp X d mid bc bs pc ls (.int y :: .int x :: st) N post := by
  intro G p l e R s m args below meth c mc ms Q hC hK hR hret H locs cells slots lsr hW hS hc hs hl hn
  obtain ⟨hx, hb, hml, hown, hts, hnm, hdf, hdl⟩ := id hC
  exact lv_icmp_ne hx hb hd ht (fun h => (k h G p l e R s m args below meth c mc ms Q hC hK hR hret H locs cells slots lsr hW hS hc hs hl hn)) (fun h => (k2 h G p l e R s m args below meth c mc ms Q hC hK hR hret H locs cells slots lsr hW hS hc hs hl hn))
theorem wr_if_lt {x : Int32} {off : Int} {t : Nat} (hd : decode (am_c mid) pc = .ok (.ifCond .lt off, 3)) (ht : (pc : Int) + off = (t : Int)) (k : x < 0 → wp X d mid bc bs t ls st N post) (k2 : ¬ x < 0 → wp X d mid bc bs (pc + 3) ls st N post) : wp X d mid bc bs pc ls (.int x :: st) N post := by
  intro G p l e R s m args below meth c mc ms Q hC hK hR hret H locs cells slots lsr hW hS hc hs hl hn
  obtain ⟨hx, hb, hml, hown, hts, hnm, hdf, hdl⟩ := id hC
  exact lv_if_lt hx hb hd ht (fun h => (k h G p l e R s m args below meth c mc ms Q hC hK hR hret H locs cells slots lsr hW hS hc hs hl hn)) (fun h => (k2 h G p l e R s m args below meth c mc ms Q hC hK hR hret H locs cells slots lsr hW hS hc hs hl hn))
theorem wr_icmp_lt {x y : Int32} {off : Int} {t : Nat} (hd : decode (am_c mid) pc = .ok (.if_icmp .lt off, 3)) (ht : (pc : Int) + off = (t : Int)) (k : x < y → wp X d mid bc bs t ls st N post) (k2 : ¬ x < y → wp X d mid bc bs (pc + 3) ls st N post) : wp X d mid bc bs pc ls (.int y :: .int x :: st) N post := by
  intro G p l e R s m args below meth c mc ms Q hC hK hR hret H locs cells slots lsr hW hS hc hs hl hn
  obtain ⟨hx, hb, hml, hown, hts, hnm, hdf, hdl⟩ := id hC
  exact lv_icmp_lt hx hb hd ht (fun h => (k h G p l e R s m args below meth c mc ms Q hC hK hR hret H locs cells slots lsr hW hS hc hs hl hn)) (fun h => (k2 h G p l e R s m args below meth c mc ms Q hC hK hR hret H locs cells slots lsr hW hS hc hs hl hn))
theorem wr_if_ge {x : Int32} {off : Int} {t : Nat} (hd : decode (am_c mid) pc = .ok (.ifCond .ge off, 3)) (ht : (pc : Int) + off = (t : Int)) (k : 0 ≤ x → wp X d mid bc bs t ls st N post) (k2 : ¬ 0 ≤ x → wp X d mid bc bs (pc + 3) ls st N post) : wp X d mid bc bs pc ls (.int x :: st) N post := by
  intro G p l e R s m args below meth c mc ms Q hC hK hR hret H locs cells slots lsr hW hS hc hs hl hn
  obtain ⟨hx, hb, hml, hown, hts, hnm, hdf, hdl⟩ := id hC
  exact lv_if_ge hx hb hd ht (fun h => (k h G p l e R s m args below meth c mc ms Q hC hK hR hret H locs cells slots lsr hW hS hc hs hl hn)) (fun h => (k2 h G p l e R s m args below meth c mc ms Q hC hK hR hret H locs cells slots lsr hW hS hc hs hl hn))
theorem wr_icmp_ge {x y : Int32} {off : Int} {t : Nat} (hd : decode (am_c mid) pc = .ok (.if_icmp .ge off, 3)) (ht : (pc : Int) + off = (t : Int)) (k : y ≤ x → wp X d mid bc bs t ls st N post) (k2 : ¬ y ≤ x → wp X d mid bc bs (pc + 3) ls st N post) : wp X d mid bc bs pc ls (.int y :: .int x :: st) N post := by
  intro G p l e R s m args below meth c mc ms Q hC hK hR hret H locs cells slots lsr hW hS hc hs hl hn
  obtain ⟨hx, hb, hml, hown, hts, hnm, hdf, hdl⟩ := id hC
  exact lv_icmp_ge hx hb hd ht (fun h => (k h G p l e R s m args below meth c mc ms Q hC hK hR hret H locs cells slots lsr hW hS hc hs hl hn)) (fun h => (k2 h G p l e R s m args below meth c mc ms Q hC hK hR hret H locs cells slots lsr hW hS hc hs hl hn))
theorem wr_if_gt {x : Int32} {off : Int} {t : Nat} (hd : decode (am_c mid) pc = .ok (.ifCond .gt off, 3)) (ht : (pc : Int) + off = (t : Int)) (k : 0 < x → wp X d mid bc bs t ls st N post) (k2 : ¬ 0 < x → wp X d mid bc bs (pc + 3) ls st N post) : wp X d mid bc bs pc ls (.int x :: st) N post := by
  intro G p l e R s m args below meth c mc ms Q hC hK hR hret H locs cells slots lsr hW hS hc hs hl hn
  obtain ⟨hx, hb, hml, hown, hts, hnm, hdf, hdl⟩ := id hC
  exact lv_if_gt hx hb hd ht (fun h => (k h G p l e R s m args below meth c mc ms Q hC hK hR hret H locs cells slots lsr hW hS hc hs hl hn)) (fun h => (k2 h G p l e R s m args below meth c mc ms Q hC hK hR hret H locs cells slots lsr hW hS hc hs hl hn))
theorem wr_icmp_gt {x y : Int32} {off : Int} {t : Nat} (hd : decode (am_c mid) pc = .ok (.if_icmp .gt off, 3)) (ht : (pc : Int) + off = (t : Int)) (k : y < x → wp X d mid bc bs t ls st N post) (k2 : ¬ y < x → wp X d mid bc bs (pc + 3) ls st N post) : wp X d mid bc bs pc ls (.int y :: .int x :: st) N post := by
  intro G p l e R s m args below meth c mc ms Q hC hK hR hret H locs cells slots lsr hW hS hc hs hl hn
  obtain ⟨hx, hb, hml, hown, hts, hnm, hdf, hdl⟩ := id hC
  exact lv_icmp_gt hx hb hd ht (fun h => (k h G p l e R s m args below meth c mc ms Q hC hK hR hret H locs cells slots lsr hW hS hc hs hl hn)) (fun h => (k2 h G p l e R s m args below meth c mc ms Q hC hK hR hret H locs cells slots lsr hW hS hc hs hl hn))
theorem wr_if_le {x : Int32} {off : Int} {t : Nat} (hd : decode (am_c mid) pc = .ok (.ifCond .le off, 3)) (ht : (pc : Int) + off = (t : Int)) (k : x ≤ 0 → wp X d mid bc bs t ls st N post) (k2 : ¬ x ≤ 0 → wp X d mid bc bs (pc + 3) ls st N post) : wp X d mid bc bs pc ls (.int x :: st) N post := by
  intro G p l e R s m args below meth c mc ms Q hC hK hR hret H locs cells slots lsr hW hS hc hs hl hn
  obtain ⟨hx, hb, hml, hown, hts, hnm, hdf, hdl⟩ := id hC
  exact lv_if_le hx hb hd ht (fun h => (k h G p l e R s m args below meth c mc ms Q hC hK hR hret H locs cells slots lsr hW hS hc hs hl hn)) (fun h => (k2 h G p l e R s m args below meth c mc ms Q hC hK hR hret H locs cells slots lsr hW hS hc hs hl hn))
theorem wr_icmp_le {x y : Int32} {off : Int} {t : Nat} (hd : decode (am_c mid) pc = .ok (.if_icmp .le off, 3)) (ht : (pc : Int) + off = (t : Int)) (k : x ≤ y → wp X d mid bc bs t ls st N post) (k2 : ¬ x ≤ y → wp X d mid bc bs (pc + 3) ls st N post) : wp X d mid bc bs pc ls (.int y :: .int x :: st) N post := by
  intro G p l e R s m args below meth c mc ms Q hC hK hR hret H locs cells slots lsr hW hS hc hs hl hn
  obtain ⟨hx, hb, hml, hown, hts, hnm, hdf, hdl⟩ := id hC
  exact lv_icmp_le hx hb hd ht (fun h => (k h G p l e R s m args below meth c mc ms Q hC hK hR hret H locs cells slots lsr hW hS hc hs hl hn)) (fun h => (k2 h G p l e R s m args below meth c mc ms Q hC hK hR hret H locs cells slots lsr hW hS hc hs hl hn))
theorem wr_goto {off : Int} {t : Nat} (hd : decode (am_c mid) pc = .ok (.goto off, 3)) (ht : (pc : Int) + off = (t : Int)) (k : wp X d mid bc bs t ls st N post) : wp X d mid bc bs pc ls st N post := by
  intro G p l e R s m args below meth c mc ms Q hC hK hR hret H locs cells slots lsr hW hS hc hs hl hn
  obtain ⟨hx, hb, hml, hown, hts, hnm, hdf, hdl⟩ := id hC
  exact lv_goto hx hb hd ht (k G p l e R s m args below meth c mc ms Q hC hK hR hret H locs cells slots lsr hW hS hc hs hl hn)
theorem wr_ret {r : Option Value} (hr : aRt mid pc r) (hp : post r N) : wp X d mid bc bs pc ls (pR r []) N post := by
  intro G p l e R s m args below meth c mc ms Q hC hK hR hret H locs cells slots lsr hW hS hc hs hl hn
  obtain ⟨hx, hb, hml, hown, hts, hnm, hdf, hdl⟩ := id hC
  exact hret H locs cells slots lsr pc r N hp hW hS (by omega) (by omega) hr
end
section
/-! the classes, by number -/
abbrev qR (ci : Nat) : String := (am_cl.getD ci (am_R0, am_T0, 0)).1
abbrev qT (ci : Nat) : u_T := (am_cl.getD ci (am_R0, am_T0, 0)).2.1
abbrev qM (ci : Nat) : Nat := (am_cl.getD ci (am_R0, am_T0, 0)).2.2
def qY (ci : Nat) : Nat → FieldType := match ci with
  | 0 => am_t0
  | 1 => am_t1
  | 2 => am_t2
  | 3 => am_t3
  | _ => am_t4
theorem q_cl {ci : Nat} (h : ci < 5) : am_cl[ci]? = some (qR ci, qT ci, qM ci) := by
  rcases (show ci = 0 ∨ ci = 1 ∨ ci = 2 ∨ ci = 3 ∨ ci = 4 by omega) with rfl | rfl | rfl | rfl | rfl <;> rfl
theorem q_in {ci : Nat} (h : ci < 5) : ∀ w ∈ u_ws (qR ci) (qT ci) (qM ci), w ∈ am_big := by
  rcases (show ci = 0 ∨ ci = 1 ∨ ci = 2 ∨ ci = 3 ∨ ci = 4 by omega) with rfl | rfl | rfl | rfl | rfl
  · exact am_w0
  · exact am_w1
  · exact am_w2
  · exact am_w3
  · exact am_w4
theorem q_ty {ci : Nat} (h : ci < 5) : ∀ k, k < qM ci → parseFieldDescriptor (qT ci k).2.2.1 = some (qY ci k) := by
  rcases (show ci = 0 ∨ ci = 1 ∨ ci = 2 ∨ ci = 3 ∨ ci = 4 by omega) with rfl | rfl | rfl | rfl | rfl
  · exact am_ty0
  · exact am_ty1
  · exact am_ty2
  · exact am_ty3
  · exact am_ty4
theorem q_nm {ci : Nat} (h : ci < 5) : ∀ a, a < qM ci → ∀ b, b < qM ci → a ≠ b → (qT ci a).2.1 ≠ (qT ci b).2.1 := by
  rcases (show ci = 0 ∨ ci = 1 ∨ ci = 2 ∨ ci = 3 ∨ ci = 4 by omega) with rfl | rfl | rfl | rfl | rfl
  · exact am_n0
  · exact am_n1
  · exact am_n2
  · exact am_n3
  · exact am_n4
theorem q_dc : ∀ ci, ci < 5 → ∀ k, k < qM ci → (qT ci k).1 = qR ci := by decide +kernel
theorem q_f0 : ∀ ci, ci < 5 → ∀ k, k < qM ci → am_ft ci k = 0 → qY ci k = .int ∧ (qT ci k).2.2.2 = false := by decide +kernel
theorem q_f1 : ∀ ci, ci < 5 → ∀ k, k < qM ci → am_ft ci k = 1 → qY ci k = .long ∧ (qT ci k).2.2.2 = false := by decide +kernel
theorem q_f3 : ∀ ci, ci < 5 → ∀ k, k < qM ci → am_ft ci k = 3 → qY ci k = .boolean ∧ (qT ci k).2.2.2 = false := by decide +kernel
theorem q_f2 : ∀ ci, ci < 5 → ∀ k, k < qM ci → am_ft ci k = 2 → qY ci k ∈ ([.array .int, .object am_R0, .object am_R1, .array (.object am_R0), .array (.object am_R2)] : List FieldType) ∧ (qT ci k).2.2.2 = true := by decide +kernel
/-! cells -/
section Cells
variable {G : aG} {N : aN}
theorem ws_at {a : Nat} (h : a < nC N) : (wsL G N)[a]? = some (G.1 + a, cE G N a) := by
  simp [wsL, h]
theorem ws_len : (wsL G N).length = nC N := by simp [wsL]
theorem cE_int {a n : Nat} (h : sH N a = (0, n)) : cE G N a = .inl (gI G, n, .inl (vI N a)) := by
  unfold cE; rw [h]; rfl
theorem cE_row {a n : Nat} (h : sH N a = (1, n)) : cE G N a = .inl (gR G, n, .inr (.inr (.inr (.inr (fun j => rO G (vR N a j)))))) := by
  unfold cE; rw [h]; rfl
theorem cE_clo {a n : Nat} (h : sH N a = (2, n)) : cE G N a = .inl (gC G, n, .inr (.inr (.inr (.inr (fun j => rO G (vR N a j)))))) := by
  unfold cE; rw [h]; rfl
theorem cE_obj {a ci M : Nat} (h : sH N a = (10 + ci, M)) : cE G N a = .inr (ci, (List.range M).map (fV G N ci a)) := by
  unfold cE; rw [h]
  have e : 10 + ci - 10 = ci := by omega
  simp only [e]
  rw [if_neg (by omega), if_neg (by omega), if_neg (by omega)]
theorem gA_lt {a : Nat} (h : a < nC N) (hn : nC N ≤ 1000) : gA G a = G.1 + a := by
  unfold gA
  rw [if_neg (by omega), if_neg (by omega), if_neg (by omega)]
theorem ws_ix {i : Nat} {q : Nat × va_E} (h : (wsL G N)[i]? = some q) : i < nC N ∧ q = (G.1 + i, cE G N i) := by
  have hl : i < nC N := by have := (List.getElem?_eq_some_iff.mp h).1; rwa [ws_len] at this
  rw [ws_at hl] at h
  exact ⟨hl, (Option.some.inj h).symm⟩
theorem wsD : va_D (gB G) (wsL G N) := by
  refine ⟨fun i j x y hi hj hxy => ?_, fun k q hk => ?_⟩
  · obtain ⟨-, rfl⟩ := ws_ix hi
    obtain ⟨-, rfl⟩ := ws_ix hj
    dsimp only at hxy
    omega
  · obtain ⟨-, rfl⟩ := ws_ix hk
    exact Nat.le_add_right _ _
theorem ws_set {N' : aN} {a : Nat} {e : va_E} (hn : nC N' = nC N) (ha : a < nC N) (he : e = cE G N' a) (ho : ∀ j, j ≠ a → cE G N' j = cE G N j) : (wsL G N).set a (G.1 + a, e) = wsL G N' := by
  apply List.ext_getElem?
  intro i
  by_cases hi : i < nC N
  · rw [ws_at (N := N') (by omega)]
    by_cases hia : i = a
    · subst hia
      rw [List.getElem?_set_self (by rw [ws_len]; exact hi), he]
    · rw [List.getElem?_set_ne (Ne.symm hia), ws_at hi, ho i hia]
  · rw [List.getElem?_eq_none (by rw [List.length_set, ws_len]; omega), List.getElem?_eq_none (by rw [ws_len]; omega)]
theorem fs_set {M k : Nat} {f g : Nat → Value} {v : Value} (hk : k < M) (hv : g k = v) (ho : ∀ j, j ≠ k → g j = f j) : ((List.range M).map f).set k v = (List.range M).map g := by
  apply List.ext_getElem?
  intro i
  by_cases hi : i = k
  · subst hi
    rw [List.getElem?_set_self (by simpa using hk)]
    simp [hk, hv]
  · rw [List.getElem?_set_ne (Ne.symm hi)]
    by_cases hM : i < M
    · simp [hM, ho i hi]
    · rw [List.getElem?_eq_none (by simpa using hM), List.getElem?_eq_none (by simpa using hM)]
theorem cE_cg {N' : aN} {j : Nat} (h1 : vI N' j = vI N j) (h2 : vL N' j = vL N j) (h3 : vR N' j = vR N j) (h4 : sH N' j = sH N j) : cE G N' j = cE G N j := by
  have hf : ∀ ci, fV G N' ci j = fV G N ci j := fun ci => by funext k; unfold fV; rw [h1, h2, h3]
  unfold cE
  rw [h1, h3, h4, hf]
theorem cE_sI {a j k : Nat} {x : Int32} (h : j ≠ a) : cE G (sI N a k x) j = cE G N j := cE_cg (if_neg h) rfl rfl rfl
theorem cE_sL {a j k : Nat} {x : Int64} (h : j ≠ a) : cE G (sL N a k x) j = cE G N j := cE_cg rfl (if_neg h) rfl rfl
theorem cE_sR {a j k : Nat} {x : Nat} (h : j ≠ a) : cE G (sR N a k x) j = cE G N j := cE_cg rfl rfl (if_neg h) rfl
theorem cE_sA {a j : Nat} {f : Nat → Int32} (h : j ≠ a) : cE G (sA N a f) j = cE G N j := cE_cg (if_neg h) rfl rfl rfl
end Cells

section R2
variable {X : aX} {d mid bc bs pc : Nat} {ls : aL} {st : List Value} {N : aN} {post : aO}
theorem wr_getI {ci k0 idx a : Nat} (ha : a < nC N) (hsh : sH N a = (10 + ci, qM ci)) (hci : ci < 5) (hk : k0 < qM ci) (hln : Cond.fieldLink (am_y mid).cls idx (qR ci) (qT ci k0).2.1 (qT ci k0).2.2.1 ∈ am_big) (hft : am_ft ci k0 = 0 ∨ am_ft ci k0 = 3)  (hd : decode (am_c mid) pc = .ok (.getfield idx, 3)) (k : wp X d mid bc bs (pc + 3) ls (.int (vI N a k0) :: st) N post) : wp X d mid bc bs pc ls (.ref a :: st) N post := by
  intro G p l e R s m args below meth c mc ms Q hC hK hR hret H locs cells slots lsr hW hS hc hs hl hn
  obtain ⟨hx, hb, hml, hown, hts, hnm, hdf, hdl⟩ := id hC
  have he := ws_at (G := G) ha
  rw [cE_obj hsh] at he
  have hg : rV G (.ref a) = .ref (G.1 + a) := by show Value.ref _ = _; rw [gA_lt ha hW.2.2]
  show W p l e R s m args below meth c H locs cells slots Q (F0 m pc lsr (rV G (.ref a) :: st.map (rV G)))
  rw [hg]
  refine va_get hx hb hts (q_in hci) hown hK.1 hW.1 a he (q_cl hci) k0 hk (hts _ hln) (fun x h => by rw [q_dc ci hci k0 hk] at h; exact h) (v := rV G (.int (vI N a k0))) ?_ hd (k G p l e R s m args below meth c mc ms Q hC hK hR hret H locs cells slots lsr hW hS hc hs hl hn)
  simp only [List.getElem?_map, List.getElem?_range hk, Option.map_some]
  rcases hft with h | h <;> simp [fV, h, rV]
theorem wr_getL {ci k0 idx a : Nat} (ha : a < nC N) (hsh : sH N a = (10 + ci, qM ci)) (hci : ci < 5) (hk : k0 < qM ci) (hln : Cond.fieldLink (am_y mid).cls idx (qR ci) (qT ci k0).2.1 (qT ci k0).2.2.1 ∈ am_big) (hft : am_ft ci k0 = 1)  (hd : decode (am_c mid) pc = .ok (.getfield idx, 3)) (k : wp X d mid bc bs (pc + 3) ls (.long (vL N a k0) :: st) N post) : wp X d mid bc bs pc ls (.ref a :: st) N post := by
  intro G p l e R s m args below meth c mc ms Q hC hK hR hret H locs cells slots lsr hW hS hc hs hl hn
  obtain ⟨hx, hb, hml, hown, hts, hnm, hdf, hdl⟩ := id hC
  have he := ws_at (G := G) ha
  rw [cE_obj hsh] at he
  have hg : rV G (.ref a) = .ref (G.1 + a) := by show Value.ref _ = _; rw [gA_lt ha hW.2.2]
  show W p l e R s m args below meth c H locs cells slots Q (F0 m pc lsr (rV G (.ref a) :: st.map (rV G)))
  rw [hg]
  refine va_get hx hb hts (q_in hci) hown hK.1 hW.1 a he (q_cl hci) k0 hk (hts _ hln) (fun x h => by rw [q_dc ci hci k0 hk] at h; exact h) (v := rV G (.long (vL N a k0))) ?_ hd (k G p l e R s m args below meth c mc ms Q hC hK hR hret H locs cells slots lsr hW hS hc hs hl hn)
  simp only [List.getElem?_map, List.getElem?_range hk, Option.map_some]
  simp [fV, hft, rV]
theorem wr_getR {ci k0 idx a : Nat} (ha : a < nC N) (hsh : sH N a = (10 + ci, qM ci)) (hci : ci < 5) (hk : k0 < qM ci) (hln : Cond.fieldLink (am_y mid).cls idx (qR ci) (qT ci k0).2.1 (qT ci k0).2.2.1 ∈ am_big) (hft : am_ft ci k0 = 2) (h0 : vR N a k0 ≠ 0) (h1 : vR N a k0 ≤ nC N) (hd : decode (am_c mid) pc = .ok (.getfield idx, 3)) (k : wp X d mid bc bs (pc + 3) ls (.ref (vR N a k0 - 1) :: st) N post) : wp X d mid bc bs pc ls (.ref a :: st) N post := by
  intro G p l e R s m args below meth c mc ms Q hC hK hR hret H locs cells slots lsr hW hS hc hs hl hn
  obtain ⟨hx, hb, hml, hown, hts, hnm, hdf, hdl⟩ := id hC
  have he := ws_at (G := G) ha
  rw [cE_obj hsh] at he
  have hg : rV G (.ref a) = .ref (G.1 + a) := by show Value.ref _ = _; rw [gA_lt ha hW.2.2]
  show W p l e R s m args below meth c H locs cells slots Q (F0 m pc lsr (rV G (.ref a) :: st.map (rV G)))
  rw [hg]
  refine va_get hx hb hts (q_in hci) hown hK.1 hW.1 a he (q_cl hci) k0 hk (hts _ hln) (fun x h => by rw [q_dc ci hci k0 hk] at h; exact h) (v := rV G (.ref (vR N a k0 - 1))) ?_ hd (k G p l e R s m args below meth c mc ms Q hC hK hR hret H locs cells slots lsr hW hS hc hs hl hn)
  simp only [List.getElem?_map, List.getElem?_range hk, Option.map_some]
  have e : rV G (.ref (vR N a k0 - 1)) = .ref (G.1 + (vR N a k0 - 1)) := by show Value.ref _ = _; rw [gA_lt (N := N) (by omega) hW.2.2]
  rw [e]
  simp [fV, hft, rO, h0, va_rf]
section Put
variable {p : Program} {l : Launch} {e : Env} {R : Room} {s : State} {m : MethodId} {args : Array Value} {below : List Frame} {meth : Method} {c : Code} {H : Heap} {locs : List Loc} {cells slots : Nat} {Q : State → Prop} {cc : ByteArray} {lsr : Array Slot} {rest : List Value} {G : aG}
theorem am_put (hx : p.tables.exec = Jvm.exec) (hb : c.code = cc) {own : String} {ci index a k : Nat} (hts : ∀ w ∈ am_big, w.before args s = true) (hown : s.vm.findClass own = some m.cls) (hK : va_K (gD G) am_cl (aT G) s) (hW : aW G N H) (hS : va_S (gB G) s.heap H locs) (ha : a < nC N) (hsh : sH N a = (10 + ci, qM ci)) (hci : ci < 5) (hk : k < qM ci) (hln : Cond.fieldLink own index (qR ci) (qT ci k).2.1 (qT ci k).2.2.1 ∈ am_big)
    (hfin : (qT ci k).2.2.2 = false ∨ ((qT ci k).2.2.2 = true ∧ meth.name = "<init>" ∧ qR ci = own)) {v : Value} (hn : narrow (qY ci k) v = v) (hfit : fits (qY ci k) v = true) {N' : aN} (hn' : nC N' = nC N) (hsh' : sH N' a = sH N a) (hv : fV G N' ci a k = v) (ho : ∀ j, j ≠ k → fV G N' ci a j = fV G N ci a j) (hoc : ∀ j, j ≠ a → cE G N' j = cE G N j)
    (hd : decode cc pc = .ok (.putfield index, 3)) (kk : ∀ (H1 : Heap) (locs1 : List Loc), aW G N' H1 → va_S (gB G) s.heap H1 locs1 → W p l e R s m args below meth c H1 locs1 cells slots Q (F0 m (pc + 3) lsr rest)) : W p l e R s m args below meth c H locs cells slots Q (F0 m pc lsr (v :: .ref (G.1 + a) :: rest)) := by
  have hc := q_cl hci
  have hD : va_D (gB G) (wsL G N) := wsD
  have he := ws_at (G := G) ha
  rw [cE_obj hsh] at he
  have hap := va_apart (own := own) hts (q_in hci) (qY ci) (q_ty hci) (q_nm hci) hK hc
  obtain ⟨r, h1, cell, q1, q2, q3, q4⟩ := hW.1 a _ he
  have hr : r = (qR ci, qT ci, qM ci) := Option.some.inj (h1.symm.trans hc)
  subst hr
  obtain ⟨hSl, hfc, kC, hkC, hkind⟩ := hK.1 ci _ hc
  obtain ⟨cf, kf, fi, f, hi, hsl⟩ := hSl k hk
  have hlay := hts _ (q_in hci _ (u_in_lay hk))
  have hst := (u_facts hfc hkC (u_lays hts (q_in hci) hk) hi).1
  have hsame : ∀ x, s.fieldFound? (qT ci k).1 (qT ci k).2.1 (qT ci k).2.2.1 = some x → s.fieldFound? (qR ci) (qT ci k).2.1 (qT ci k).2.2.1 = some x := fun x h => by rw [q_dc ci hci k hk] at h; exact h
  have fin : ∀ (H' : Heap), H'[G.1 + a]? = some (cell.setSlot f.slot v) → H'.size = H.size → (∀ q : Nat, q ≠ G.1 + a → H'[q]? = H[q]?) → aW G N' H' := by
    intro H' e1 e2 e3
    rw [hsl] at e1
    refine ⟨?_, by rw [e2, hn', hW.2.1], by rw [hn']; exact hW.2.2⟩
    have := hW.1.set hD he (e := .inr (ci, ((List.range (qM ci)).map (fV G N ci a)).set k v)) ⟨_, hc, t_OB.to (V := updV (vp_V ((List.range (qM ci)).map (fV G N ci a))) k v) ⟨_, e1, q2, q3, t_set q4 hap hk v⟩ (fun j _ => vp_updV_set (by simpa using hk) v j)⟩ e3
    rw [fs_set hk hv ho, ← cE_obj (G := G) (hsh'.trans hsh), ws_set hn' ha rfl hoc] at this
    exact this
  rcases hfin with hfin | ⟨hfin, hin2, hown2⟩
  · unfold u_lay at hlay
    rw [if_neg (by rw [hfin]; decide)] at hlay
    have h6 := u_store hfc hkC hkind hlay hi (q_ty hci k hk) hn hfit
    refine W.putK hx hb (f := f) ⟨hown, hts _ hln, ⟨_, _, _, hsame _ hi⟩, hst⟩ (by rw [q2]; exact h6) q1 q3 (by rw [hsl]; exact k2_hasslot (q4 k hk)) rfl rfl hd fun H' e1 e2 e3 => ?_
    exact kk H' _ (fin H' e1 e2 e3) (hS.put e2 e3 (Nat.le_add_right _ _))
  · unfold u_lay at hlay
    rw [if_pos hfin] at hlay
    have hcf : m.cls = cf := by
      obtain ⟨_, _, c', _, _, _, -, -, hf', -, -, -, hown3, -⟩ := Cond.laysFinal_spec hlay
      have e1 : c' = cf := by have := hi.symm.trans hf'; simp at this; exact this.1.symm
      rw [q_dc ci hci k hk, hown2] at hown3
      rw [← e1]; exact Option.some.inj (hown.symm.trans hown3)
    have h6 := u_fits hfc hkC hkind (Or.inr hlay) hi (q_ty hci k hk) hn hfit
    refine W.putFinK hx hb hown (hts _ hln) (hsame _ hi) hst hcf hin2 (by rw [q2]; exact h6) q1 q3 (by rw [hsl]; exact k2_hasslot (q4 k hk)) rfl rfl hd fun H' e1 e2 e3 => ?_
    exact kk H' _ (fin H' e1 e2 e3) (hS.put e2 e3 (Nat.le_add_right _ _))
end Put
theorem wr_putI {ci k0 idx a : Nat} {x : Int32} (ha : a < nC N) (hsh : sH N a = (10 + ci, qM ci)) (hci : ci < 5) (hk : k0 < qM ci) (hln : Cond.fieldLink (am_y mid).cls idx (qR ci) (qT ci k0).2.1 (qT ci k0).2.2.1 ∈ am_big) (hft : am_ft ci k0 = 0)  (hd : decode (am_c mid) pc = .ok (.putfield idx, 3)) (k : wp X d mid bc bs (pc + 3) ls st (sI N a k0 x) post) : wp X d mid bc bs pc ls (.int x :: .ref a :: st) N post := by
  intro G p l e R s m args below meth c mc ms Q hC hK hR hret H locs cells slots lsr hW hS hc hs hl hn
  obtain ⟨hx, hb, hml, hown, hts, hnm, hdf, hdl⟩ := id hC
  have hg : rV G (.ref a) = .ref (G.1 + a) := by show Value.ref _ = _; rw [gA_lt ha hW.2.2]
  show W p l e R s m args below meth c H locs cells slots Q (F0 m pc lsr (rV G (.int x) :: rV G (.ref a) :: st.map (rV G)))
  rw [hg]
  have hq := q_f0 ci hci k0 hk hft
  refine am_put (N' := sI N a k0 x) hx hb hts hown hK.1 hW hS ha hsh hci hk hln (Or.inl hq.2) ?_ ?_ rfl rfl ?_ ?_ (fun j hj => cE_sI hj) hd (fun H1 locs1 hW1 hS1 => (k G p l e R s m args below meth c mc ms Q hC hK hR hret H1 locs1 cells slots lsr hW1 hS1 hc hs hl hn))
  · rw [hq.1]; rfl
  · rw [hq.1]; rfl
  · simp [fV, hft, sI, vI, up2, va_up, rV]
  · intro j hj
    simp only [fV, vI, vL, vR, sI, up2, va_up, if_true, if_neg hj]
theorem wr_putZ {ci k0 idx a : Nat} {x : Int32} (ha : a < nC N) (hsh : sH N a = (10 + ci, qM ci)) (hci : ci < 5) (hk : k0 < qM ci) (hln : Cond.fieldLink (am_y mid).cls idx (qR ci) (qT ci k0).2.1 (qT ci k0).2.2.1 ∈ am_big) (hft : am_ft ci k0 = 3) (hz : x = 0 ∨ x = 1) (hd : decode (am_c mid) pc = .ok (.putfield idx, 3)) (k : wp X d mid bc bs (pc + 3) ls st (sI N a k0 x) post) : wp X d mid bc bs pc ls (.int x :: .ref a :: st) N post := by
  intro G p l e R s m args below meth c mc ms Q hC hK hR hret H locs cells slots lsr hW hS hc hs hl hn
  obtain ⟨hx, hb, hml, hown, hts, hnm, hdf, hdl⟩ := id hC
  have hg : rV G (.ref a) = .ref (G.1 + a) := by show Value.ref _ = _; rw [gA_lt ha hW.2.2]
  show W p l e R s m args below meth c H locs cells slots Q (F0 m pc lsr (rV G (.int x) :: rV G (.ref a) :: st.map (rV G)))
  rw [hg]
  have hq := q_f3 ci hci k0 hk hft
  refine am_put (N' := sI N a k0 x) hx hb hts hown hK.1 hW hS ha hsh hci hk hln (Or.inl hq.2) ?_ ?_ rfl rfl ?_ ?_ (fun j hj => cE_sI hj) hd (fun H1 locs1 hW1 hS1 => (k G p l e R s m args below meth c mc ms Q hC hK hR hret H1 locs1 cells slots lsr hW1 hS1 hc hs hl hn))
  · rw [hq.1]; rcases hz with rfl | rfl <;> rfl
  · rw [hq.1]; show fits .boolean (.int x) = true; rcases hz with rfl | rfl <;> decide
  · simp [fV, hft, sI, vI, up2, va_up, rV]
  · intro j hj
    simp only [fV, vI, vL, vR, sI, up2, va_up, if_true, if_neg hj]
theorem wr_putL {ci k0 idx a : Nat} {x : Int64} (ha : a < nC N) (hsh : sH N a = (10 + ci, qM ci)) (hci : ci < 5) (hk : k0 < qM ci) (hln : Cond.fieldLink (am_y mid).cls idx (qR ci) (qT ci k0).2.1 (qT ci k0).2.2.1 ∈ am_big) (hft : am_ft ci k0 = 1)  (hd : decode (am_c mid) pc = .ok (.putfield idx, 3)) (k : wp X d mid bc bs (pc + 3) ls st (sL N a k0 x) post) : wp X d mid bc bs pc ls (.long x :: .ref a :: st) N post := by
  intro G p l e R s m args below meth c mc ms Q hC hK hR hret H locs cells slots lsr hW hS hc hs hl hn
  obtain ⟨hx, hb, hml, hown, hts, hnm, hdf, hdl⟩ := id hC
  have hg : rV G (.ref a) = .ref (G.1 + a) := by show Value.ref _ = _; rw [gA_lt ha hW.2.2]
  show W p l e R s m args below meth c H locs cells slots Q (F0 m pc lsr (rV G (.long x) :: rV G (.ref a) :: st.map (rV G)))
  rw [hg]
  have hq := q_f1 ci hci k0 hk hft
  refine am_put (N' := sL N a k0 x) hx hb hts hown hK.1 hW hS ha hsh hci hk hln (Or.inl hq.2) ?_ ?_ rfl rfl ?_ ?_ (fun j hj => cE_sL hj) hd (fun H1 locs1 hW1 hS1 => (k G p l e R s m args below meth c mc ms Q hC hK hR hret H1 locs1 cells slots lsr hW1 hS1 hc hs hl hn))
  · rw [hq.1]; rfl
  · rw [hq.1]; rfl
  · simp [fV, hft, sL, vL, up2, va_up, rV]
  · intro j hj
    simp only [fV, vI, vL, vR, sL, up2, va_up, if_true, if_neg hj]
theorem wr_putR {ci k0 idx a : Nat} {x : Nat} (ha : a < nC N) (hsh : sH N a = (10 + ci, qM ci)) (hci : ci < 5) (hk : k0 < qM ci) (hln : Cond.fieldLink (am_y mid).cls idx (qR ci) (qT ci k0).2.1 (qT ci k0).2.2.1 ∈ am_big) (hft : am_ft ci k0 = 2) (hx0 : x < nC N) (hini : (am_y mid).name = "<init>") (hoc : qR ci = (am_y mid).cls) (hd : decode (am_c mid) pc = .ok (.putfield idx, 3)) (k : wp X d mid bc bs (pc + 3) ls st (sR N a k0 (x + 1)) post) : wp X d mid bc bs pc ls (.ref x :: .ref a :: st) N post := by
  intro G p l e R s m args below meth c mc ms Q hC hK hR hret H locs cells slots lsr hW hS hc hs hl hn
  obtain ⟨hx, hb, hml, hown, hts, hnm, hdf, hdl⟩ := id hC
  have hg : rV G (.ref a) = .ref (G.1 + a) := by show Value.ref _ = _; rw [gA_lt ha hW.2.2]
  show W p l e R s m args below meth c H locs cells slots Q (F0 m pc lsr (rV G (.ref x) :: rV G (.ref a) :: st.map (rV G)))
  rw [hg]
  have hq := q_f2 ci hci k0 hk hft
  have hq1 : qY ci k0 = .array .int ∨ qY ci k0 = .object am_R0 ∨ qY ci k0 = .object am_R1 ∨ qY ci k0 = .array (.object am_R0) ∨ qY ci k0 = .array (.object am_R2) := by simpa using hq.1
  refine am_put (N' := sR N a k0 (x + 1)) hx hb hts hown hK.1 hW hS ha hsh hci hk hln (Or.inr ⟨hq.2, hnm.trans hini, hoc⟩) ?_ ?_ rfl rfl ?_ ?_ (fun j hj => cE_sR hj) hd (fun H1 locs1 hW1 hS1 => (k G p l e R s m args below meth c mc ms Q hC hK hR hret H1 locs1 cells slots lsr hW1 hS1 hc hs hl hn))
  · rcases hq1 with h | h | h | h | h <;> rw [h] <;> rfl
  · rcases hq1 with h | h | h | h | h <;> rw [h] <;> rfl
  · have e : rV G (.ref x) = .ref (G.1 + x) := by show Value.ref _ = _; rw [gA_lt (N := N) hx0 hW.2.2]
    rw [e]
    simp [fV, hft, sR, vR, up2, va_up, rO, va_rf]
  · intro j hj
    simp only [fV, vI, vL, vR, sR, up2, va_up, if_true, if_neg hj]
theorem wr_iald {a n : Nat} {i : Int32} (ha : a < nC N) (hsh : sH N a = (0, n)) (hi : vp_in i n) (hd : decode (am_c mid) pc = .ok (.iaload, 1)) (k : wp X d mid bc bs (pc + 1) ls (.int (vI N a i.toNatClampNeg) :: st) N post) : wp X d mid bc bs pc ls (.int i :: .ref a :: st) N post := by
  intro G p l e R s m args below meth c mc ms Q hC hK hR hret H locs cells slots lsr hW hS hc hs hl hn
  obtain ⟨hx, hb, hml, hown, hts, hnm, hdf, hdl⟩ := id hC
  have he := ws_at (G := G) ha
  rw [cE_int hsh] at he
  have hg : rV G (.ref a) = .ref (G.1 + a) := by show Value.ref _ = _; rw [gA_lt ha hW.2.2]
  show W p l e R s m args below meth c H locs cells slots Q (F0 m pc lsr (.int i :: rV G (.ref a) :: st.map (rV G)))
  rw [hg]
  exact va_iald hx hb hK.1 hW.1 a 0 he rfl hi hd (k G p l e R s m args below meth c mc ms Q hC hK hR hret H locs cells slots lsr hW hS hc hs hl hn)
theorem wr_iast {a n : Nat} {i x : Int32} (ha : a < nC N) (hsh : sH N a = (0, n)) (hi : vp_in i n) (hd : decode (am_c mid) pc = .ok (.iastore, 1)) (k : wp X d mid bc bs (pc + 1) ls st (sI N a i.toNatClampNeg x) post) : wp X d mid bc bs pc ls (.int x :: .int i :: .ref a :: st) N post := by
  intro G p l e R s m args below meth c mc ms Q hC hK hR hret H locs cells slots lsr hW hS hc hs hl hn
  obtain ⟨hx, hb, hml, hown, hts, hnm, hdf, hdl⟩ := id hC
  have he := ws_at (G := G) ha
  rw [cE_int hsh] at he
  have hg : rV G (.ref a) = .ref (G.1 + a) := by show Value.ref _ = _; rw [gA_lt ha hW.2.2]
  show W p l e R s m args below meth c H locs cells slots Q (F0 m pc lsr (.int x :: .int i :: rV G (.ref a) :: st.map (rV G)))
  rw [hg]
  refine W.iast hx hb (hW.1 a _ he) ((hK.1.2 0 _ rfl).1 n (fun j => .int (vI N a j))) (fun q => by cases q) (by show ¬ (i < 0 ∨ (arrV _ _ _).slots.size ≤ _); rw [arrV_size]; exact hi) rfl rfl hd fun H1 e1 z oq => ?_
  have hS1 := hS.put (k := i.toNatClampNeg) z oq (show gB G (G.1 + a) from Nat.le_add_right _ _)
  have h1 := hW.1.set wsD he (e := .inl (gI G, n, .inl (upd (vI N a) i.toNatClampNeg x))) (H1 := H1) (by
    show H1[G.1 + a]? = some (vp_cell _ _)
    rw [e1]
    exact congrArg some ((congrArg (fun z => Cell.setSlot z i.toNatClampNeg (.int x)) (arrCell_eq (gI G) n (vI N a)).symm).trans (arr_store (gI G) n i.toNatClampNeg (vI N a) x))) oq
  rw [ws_set (G := G) (N := N) (N' := sI N a i.toNatClampNeg x) rfl ha (by rw [cE_int (N := sI N a i.toNatClampNeg x) (a := a) hsh]; simp only [vI, sI, up2, if_true]; rfl) (fun j hj => cE_sI hj)] at h1
  exact (k G p l e R s m args below meth c mc ms Q hC hK hR hret H1 _ cells slots lsr ⟨h1, by rw [z]; exact hW.2.1, hW.2.2⟩ hS1 hc hs hl hn)
theorem wr_aald {a n kd : Nat} {i : Int32} (ha : a < nC N) (hsh : sH N a = (kd, n)) (hkd : kd = 1 ∨ kd = 2) (hi : vp_in i n) (h0 : vR N a i.toNatClampNeg ≠ 0) (h1 : vR N a i.toNatClampNeg ≤ nC N) (hd : decode (am_c mid) pc = .ok (.aaload, 1)) (k : wp X d mid bc bs (pc + 1) ls (.ref (vR N a i.toNatClampNeg - 1) :: st) N post) : wp X d mid bc bs pc ls (.int i :: .ref a :: st) N post := by
  intro G p l e R s m args below meth c mc ms Q hC hK hR hret H locs cells slots lsr hW hS hc hs hl hn
  obtain ⟨hx, hb, hml, hown, hts, hnm, hdf, hdl⟩ := id hC
  have he := ws_at (G := G) ha
  have hg : rV G (.ref a) = .ref (G.1 + a) := by show Value.ref _ = _; rw [gA_lt ha hW.2.2]
  have ee : va_rf (rO G (vR N a i.toNatClampNeg)) = rV G (.ref (vR N a i.toNatClampNeg - 1)) := by
    show _ = Value.ref _
    rw [gA_lt (N := N) (by omega) hW.2.2]
    simp [rO, h0, va_rf]
  have kk := (k G p l e R s m args below meth c mc ms Q hC hK hR hret H locs cells slots lsr hW hS hc hs hl hn)
  rw [List.map_cons, ← ee] at kk
  show W p l e R s m args below meth c H locs cells slots Q (F0 m pc lsr (.int i :: rV G (.ref a) :: st.map (rV G)))
  rw [hg]
  rcases hkd with rfl | rfl
  · rw [cE_row hsh] at he
    exact va_aldq hx hb hK.1 hW.1 a 1 he rfl hi hd kk
  · rw [cE_clo hsh] at he
    exact va_aldq hx hb hK.1 hW.1 a 2 he rfl hi hd kk
theorem wr_alen {a n : Nat} (ha : a < nC N) (hsh : sH N a = (0, n)) (hd : decode (am_c mid) pc = .ok (.arraylength, 1)) (k : wp X d mid bc bs (pc + 1) ls (.int (Int32.ofNat n) :: st) N post) : wp X d mid bc bs pc ls (.ref a :: st) N post := by
  intro G p l e R s m args below meth c mc ms Q hC hK hR hret H locs cells slots lsr hW hS hc hs hl hn
  obtain ⟨hx, hb, hml, hown, hts, hnm, hdf, hdl⟩ := id hC
  have he := ws_at (G := G) ha
  rw [cE_int hsh] at he
  have hg : rV G (.ref a) = .ref (G.1 + a) := by show Value.ref _ = _; rw [gA_lt ha hW.2.2]
  show W p l e R s m args below meth c H locs cells slots Q (F0 m pc lsr (rV G (.ref a) :: st.map (rV G)))
  rw [hg]
  exact va_alen hx hb hK.1 hW.1 a 0 he rfl rfl hd (k G p l e R s m args below meth c mc ms Q hC hK hR hret H locs cells slots lsr hW hS hc hs hl hn)
theorem wr_alenR {a n kd : Nat} (ha : a < nC N) (hsh : sH N a = (kd, n)) (hkd : kd = 1 ∨ kd = 2) (hd : decode (am_c mid) pc = .ok (.arraylength, 1)) (k : wp X d mid bc bs (pc + 1) ls (.int (Int32.ofNat n) :: st) N post) : wp X d mid bc bs pc ls (.ref a :: st) N post := by
  intro G p l e R s m args below meth c mc ms Q hC hK hR hret H locs cells slots lsr hW hS hc hs hl hn
  obtain ⟨hx, hb, hml, hown, hts, hnm, hdf, hdl⟩ := id hC
  have he := ws_at (G := G) ha
  have hg : rV G (.ref a) = .ref (G.1 + a) := by show Value.ref _ = _; rw [gA_lt ha hW.2.2]
  show W p l e R s m args below meth c H locs cells slots Q (F0 m pc lsr (rV G (.ref a) :: st.map (rV G)))
  rw [hg]
  rcases hkd with rfl | rfl
  · rw [cE_row hsh] at he
    exact va_alen hx hb hK.1 hW.1 a 1 he rfl rfl hd (k G p l e R s m args below meth c mc ms Q hC hK hR hret H locs cells slots lsr hW hS hc hs hl hn)
  · rw [cE_clo hsh] at he
    exact va_alen hx hb hK.1 hW.1 a 2 he rfl rfl hd (k G p l e R s m args below meth c mc ms Q hC hK hR hret H locs cells slots lsr hW hS hc hs hl hn)
/-- what stood before: the script, LETTERS, PARENTS -/
theorem wr_sld {i : Int32} (hi : vp_in i X.1) (hd : decode (am_c mid) pc = .ok (.iaload, 1)) (k : wp X d mid bc bs (pc + 1) ls (.int (X.2 i.toNatClampNeg) :: st) N post) : wp X d mid bc bs pc ls (.int i :: .ref 1000000 :: st) N post := by
  intro G p l e R s m args below meth c mc ms Q hC hK hR hret H locs cells slots lsr hW hS hc hs hl hn
  obtain ⟨hx, hb, hml, hown, hts, hnm, hdf, hdl⟩ := id hC
  obtain ⟨-, -, -, -, -, hX, hb1, hb2⟩ := id hK
  exact va_sld (b := G.2.1) hx hb hX (by omega) (show ¬ gB G G.2.1 from Nat.not_le.mpr hb1) hS hi hd (k G p l e R s m args below meth c mc ms Q hC hK hR hret H locs cells slots lsr hW hS hc hs hl hn)
theorem wr_slen (hd : decode (am_c mid) pc = .ok (.arraylength, 1)) (k : wp X d mid bc bs (pc + 1) ls (.int (Int32.ofNat X.1) :: st) N post) : wp X d mid bc bs pc ls (.ref 1000000 :: st) N post := by
  intro G p l e R s m args below meth c mc ms Q hC hK hR hret H locs cells slots lsr hW hS hc hs hl hn
  obtain ⟨hx, hb, hml, hown, hts, hnm, hdf, hdl⟩ := id hC
  obtain ⟨-, -, -, -, -, hX, hb1, hb2⟩ := id hK
  exact va_slen (b := G.2.1) hx hb hX (by omega) (show ¬ gB G G.2.1 from Nat.not_le.mpr hb1) hS hd (k G p l e R s m args below meth c mc ms Q hC hK hR hret H locs cells slots lsr hW hS hc hs hl hn)
theorem wr_tc {i : Int32} (hi : vp_in i 6) (hd : decode (am_c mid) pc = .ok (.caload, 1)) (k : wp X d mid bc bs (pc + 1) ls (.int (am_let i.toNatClampNeg) :: st) N post) : wp X d mid bc bs pc ls (.int i :: .ref 1000001 :: st) N post := by
  intro G p l e R s m args below meth c mc ms Q hC hK hR hret H locs cells slots lsr hW hS hc hs hl hn
  obtain ⟨hx, hb, hml, hown, hts, hnm, hdf, hdl⟩ := id hC
  exact va_tc hx hb hK.2.2.2.2.1.2.2.1 hS hi rfl hd (k G p l e R s m args below meth c mc ms Q hC hK hR hret H locs cells slots lsr hW hS hc hs hl hn)
theorem wr_ti {i : Int32} (hi : vp_in i 6) (hd : decode (am_c mid) pc = .ok (.iaload, 1)) (k : wp X d mid bc bs (pc + 1) ls (.int (am_par i.toNatClampNeg) :: st) N post) : wp X d mid bc bs pc ls (.int i :: .ref 1000002 :: st) N post := by
  intro G p l e R s m args below meth c mc ms Q hC hK hR hret H locs cells slots lsr hW hS hc hs hl hn
  obtain ⟨hx, hb, hml, hown, hts, hnm, hdf, hdl⟩ := id hC
  exact va_ti hx hb hK.2.2.2.2.1.2.2.2 hS hi rfl hd (k G p l e R s m args below meth c mc ms Q hC hK hR hret H locs cells slots lsr hW hS hc hs hl hn)
theorem wr_gLet (hm : (am_y mid).cls = "SewnAhead$Reader") (hd : decode (am_c mid) pc = .ok (.getstatic 62, 3)) (k : wp X d mid bc bs (pc + 3) ls (.ref 1000001 :: st) N post) : wp X d mid bc bs pc ls st N post := by
  intro G p l e R s m args below meth c mc ms Q hC hK hR hret H locs cells slots lsr hW hS hc hs hl hn
  obtain ⟨hx, hb, hml, hown, hts, hnm, hdf, hdl⟩ := id hC
  rw [hm] at hown
  exact va_getsN hx hb hK.2.2.2.2.1.1 hS hown (va_Nw.use rfl hK.2.2.1.1) (fun x h => h) hd (k G p l e R s m args below meth c mc ms Q hC hK hR hret H locs cells slots lsr hW hS hc hs hl hn)
theorem wr_gPar (hm : (am_y mid).cls = "SewnAhead$Cloth") (hd : decode (am_c mid) pc = .ok (.getstatic 91, 3)) (k : wp X d mid bc bs (pc + 3) ls (.ref 1000002 :: st) N post) : wp X d mid bc bs pc ls st N post := by
  intro G p l e R s m args below meth c mc ms Q hC hK hR hret H locs cells slots lsr hW hS hc hs hl hn
  obtain ⟨hx, hb, hml, hown, hts, hnm, hdf, hdl⟩ := id hC
  rw [hm] at hown
  exact va_getsN hx hb hK.2.2.2.2.1.2.1 hS hown (va_Nw.use rfl hK.2.2.1.2) (fun x h => h) hd (k G p l e R s m args below meth c mc ms Q hC hK hR hret H locs cells slots lsr hW hS hc hs hl hn)
end R2
end
section
section R3
variable {X : aX} {d mid bc bs pc : Nat} {ls : aL} {st : List Value} {N : aN} {post : aO}
/-- behind a call -/
theorem am_after {p : Program} {l : Launch} {e : Env} {R : Room} {s : State} {m : MethodId} {args : Array Value} {below : List Frame} {meth : Method} {c : Code} {H : Heap} {locs : List Loc} {cells slots mc ms : Nat} {Q : State → Prop} {lsr : Array Slot} {st0 rest : List Value} {G : aG} {a : Array Value} {ps : aO}
    (hr : va_Run p l e R s m args below meth c H locs cells slots mc ms (F0 m pc lsr st0) rest (aQc G ps a) (gB G)) (hS : va_S (gB G) s.heap H locs)
    (kk : ∀ (r : Option Value) (N : aN) (H1 : Heap) (locs1 : List Loc), ps r N → aW G N H1 → va_S (gB G) s.heap H1 locs1 → W p l e R s m args below meth c H1 locs1 (cells + mc) (slots + ms) Q (F0 m (pc + 3) lsr ((r.map (rV G)).toList ++ rest))) : W p l e R s m args below meth c H locs cells slots Q (F0 m pc lsr st0) := by
  intro T hT X
  obtain ⟨v, st₀, t, T', L, h0, X', hL, e1, e2, ⟨⟨r, N, hv, hp, hw⟩, hz, hk⟩, st⟩ := hr T hT X
  cases hv
  rw [h0] at hz hk
  obtain ⟨t2, a1, b1⟩ := kk r N T'.heap (locs ++ L) hp (by rw [e1]; exact hw) ⟨Nat.le_trans hS.1 (by rw [e1]; exact hz), fun q h1 h2 => by rw [e1, hk q (Nat.lt_of_lt_of_le h1 hS.1) h2]; exact hS.2.1 q h1 h2, fun q hq => by
      rcases List.mem_append.mp hq with h | h
      · exact hS.2.2 q h
      · exact hL q h⟩ T' rfl X'
  exact ⟨t2, st t2 a1, b1⟩
theorem aPc_blind {G : aG} {as : List Value} : FrameBlind (aPc X G as N) := fun a U g mk h => ⟨h.1, h.2.1, h.2.2.calling g mk a⟩
theorem aPc_of {G : aG} {s U : State} {H : Heap} {locs : List Loc} {as : List Value} (hK : aK G X s) (hW : aW G N H) (hS : va_S (gB G) s.heap H locs) (hU : U.heap = H) (hw : s.WarmedH U.vm) : aPc X G as N (as.map (rV G)).toArray U :=
  ⟨rfl, by rw [hU]; exact hW, hK.warm hw (fun q hq => by rw [hU]; exact hS.2.1 q (Nat.lt_of_lt_of_le hq hK.2.2.2.2.2.2.2) (Nat.not_le.mpr hq)) (by rw [hU]; exact Nat.le_trans hK.2.2.2.2.2.2.2 hS.1)⟩
theorem am_good {y : MethodName} {cc : ByteArray} {n : Nat} {rt : Option FieldType} (h : Cond.code y cc n rt ∈ am_big) : GoodIn am_big (Cond.code y cc n rt :: am_big) := fun w hw => by
  rcases List.mem_cons.mp hw with rfl | hw
  · exact am_bigg h
  · exact am_bigg hw
/-- the callee's place: its words and the room -/
def am_pl (mid2 n : Nat) : Prop := mid2 < 203 ∧ (parseMethodDescriptor (am_y mid2).desc).map (fun d => d.parameters.length) = some n ∧ am_l mid2 ≤ 30 ∧ (am_y mid2).cls ≠ "java/lang/invoke/MethodHandle" ∧ (am_y mid2).cls ≠ "java/lang/invoke/VarHandle" ∧ Cond.initialized (am_y mid2).cls ∈ am_big
theorem am_pR {G : aG} {r : Option Value} {st : List Value} : (r.map (rV G)).toList ++ st.map (rV G) = (pR r st).map (rV G) := by cases r <;> rfl
theorem wr_invV {mid2 n idx b1 b2 c1 c2 : Nat} {a ci : Nat} {as : List Value} (hp2 : am_pl mid2 n) (hlen : as.length = n) (hst : (st.map fun v => v.category).sum ≤ 8) (hb1 : bc = b1 + c1) (hb2 : bs = b2 + c2) (ha : a < nC N) (hsh : sH N a = (10 + ci, qM ci)) (hci : ci < 5) (hcc : qR ci = (am_y mid2).cls) (hli : Cond.methodLink (am_y mid).cls idx (am_y mid2) ∈ am_big) (hin : Cond.instanceMethod (am_y mid2) ∈ am_big) (hse : Cond.selects (am_y mid2).cls (am_y mid2) (am_y mid2) ∈ am_big) (hd : decode (am_c mid) pc = .ok (.invokevirtual idx, 3)) (k0 : CallOk X d c1 c2 mid2 (.ref a :: as) N (fun r N' => wp X (d + 1) mid b1 b2 (pc + 3) ls (pR r st) N' post)) : wp X (d + 1) mid bc bs pc ls (as.reverse ++ .ref a :: st) N post := by
  intro G p l e R s m args below meth c mc ms Q hC hK hR hret H locs cells slots lsr hW hS hc hs hl hn
  obtain ⟨hx, hb, hml, hown, hts, hnm, hdf, hdl⟩ := id hC
  have k : ∀ r N', wp X (d + 1) mid b1 b2 (pc + 3) ls (pR r st) N' post → wp X (d + 1) mid b1 b2 (pc + 3) ls (pR r st) N' post := fun _ _ h => h
  obtain ⟨hm2, hds, hl2, hh1, hh2, hini⟩ := hp2
  have hcode := am_code hm2
  have hG := am_good hcode
  have hroom : 2 * (F0 m pc lsr ((as.reverse ++ .ref a :: st).map (rV G))).monitorRoom + ((st.map (rV G)).map fun v => v.category).sum ≤ 8 := by
    rw [List.map_map, show ((fun v => Value.category v) ∘ rV G) = fun v => v.category from funext fun v => rV_cat G v]
    exact lv_room (m := m) (pc := pc) (ls := lsr) (rest := []) hst
  have hstk : ((as.reverse ++ .ref a :: st).map (rV G)) = (as.map (rV G)).reverse ++ .ref (G.1 + a) :: st.map (rV G) := by
    rw [List.map_append, List.map_reverse, List.map_cons, show rV G (.ref a) = .ref (G.1 + a) by show Value.ref _ = _; rw [gA_lt ha hW.2.2]]
  have hargs : (.ref a :: as : List Value).map (rV G) = .ref (G.1 + a) :: as.map (rV G) := by
    rw [List.map_cons, show rV G (.ref a) = .ref (G.1 + a) by show Value.ref _ = _; rw [gA_lt ha hW.2.2]]
  have hPc : ∀ U : State, U.heap = H → s.WarmedH U.vm → aPc X G (.ref a :: as) N (.ref (G.1 + a) :: as.map (rV G) : List Value).toArray U := fun U hU hw => by
    have := aPc_of (as := .ref a :: as) hK hW hS hU hw
    rw [hargs] at this
    exact this
  have he := ws_at (G := G) ha
  rw [cE_obj hsh] at he
  have hrv := va_recv hK.1 hW.1 (q_cl hci) he
  rw [hcc] at hrv
  refine am_after (va_runV (As := as.map (rV G)) ⟨hx, hb, hml, hown, hts⟩ (k0 G l) ⟨callB_of (ws' := am_big) n hts hG rfl rfl rfl (hts _ hini) (hts _ hli) ⟨hh1, hh2, hds⟩ ⟨by show d + 1 ≤ R.frames; omega, by show 8 + (am_l mid2 + 11) + 60 * d ≤ R.locals; omega⟩, hts _ hin, hts _ hse⟩ ⟨aPc_blind, hrv, hPc⟩ rfl (by rw [List.length_map]; exact hlen) (hl.1) hstk hroom hd ⟨by omega, by omega⟩) hS (fun r N' H1 locs1 hp hW1 hS1 => ?_)
  rw [am_pR]
  exact k r N' hp G p l e R s m args below meth c mc ms Q hC hK hR hret H1 locs1 (cells + c1) (slots + c2) lsr hW1 hS1 (by omega) (by omega) hl hn
theorem wr_invS {mid2 n idx b1 b2 c1 c2 : Nat}  {as : List Value} (hp2 : am_pl mid2 n) (hlen : as.length = n) (hst : (st.map fun v => v.category).sum ≤ 8) (hb1 : bc = b1 + c1) (hb2 : bs = b2 + c2) (hli : Cond.methodLink (am_y mid).cls idx (am_y mid2) ∈ am_big) (hsa : Cond.static (am_y mid2) ∈ am_big) (hd : decode (am_c mid) pc = .ok (.invokestatic idx, 3)) (k0 : CallOk X d c1 c2 mid2 as N (fun r N' => wp X (d + 1) mid b1 b2 (pc + 3) ls (pR r st) N' post)) : wp X (d + 1) mid bc bs pc ls (as.reverse ++ st) N post := by
  intro G p l e R s m args below meth c mc ms Q hC hK hR hret H locs cells slots lsr hW hS hc hs hl hn
  obtain ⟨hx, hb, hml, hown, hts, hnm, hdf, hdl⟩ := id hC
  have k : ∀ r N', wp X (d + 1) mid b1 b2 (pc + 3) ls (pR r st) N' post → wp X (d + 1) mid b1 b2 (pc + 3) ls (pR r st) N' post := fun _ _ h => h
  obtain ⟨hm2, hds, hl2, hh1, hh2, hini⟩ := hp2
  have hcode := am_code hm2
  have hG := am_good hcode
  have hroom : 2 * (F0 m pc lsr ((as.reverse ++ st).map (rV G))).monitorRoom + ((st.map (rV G)).map fun v => v.category).sum ≤ 8 := by
    rw [List.map_map, show ((fun v => Value.category v) ∘ rV G) = fun v => v.category from funext fun v => rV_cat G v]
    exact lv_room (m := m) (pc := pc) (ls := lsr) (rest := []) hst
  have hstk : ((as.reverse ++ st).map (rV G)) = (as.map (rV G)).reverse ++ st.map (rV G) := by
    rw [List.map_append, List.map_reverse]
  have hargs : (as : List Value).map (rV G) = as.map (rV G) := by
    rfl
  have hPc : ∀ U : State, U.heap = H → s.WarmedH U.vm → aPc X G as N (as.map (rV G) : List Value).toArray U := fun U hU hw => by
    have := aPc_of (as := as) hK hW hS hU hw
    rw [hargs] at this
    exact this

  refine am_after (va_runS (As := as.map (rV G)) ⟨hx, hb, hml, hown, hts⟩ (k0 G l) ⟨callB_of (ws' := am_big) n hts hG rfl rfl rfl (hts _ hini) (hts _ hli) ⟨hh1, hh2, hds⟩ ⟨by show d + 1 ≤ R.frames; omega, by show 8 + (am_l mid2 + 11) + 60 * d ≤ R.locals; omega⟩, hts _ hsa⟩ ⟨aPc_blind, hPc⟩ rfl (by rw [List.length_map]; exact hlen) (hl.1) hstk hroom hd ⟨by omega, by omega⟩) hS (fun r N' H1 locs1 hp hW1 hS1 => ?_)
  rw [am_pR]
  exact k r N' hp G p l e R s m args below meth c mc ms Q hC hK hR hret H1 locs1 (cells + c1) (slots + c2) lsr hW1 hS1 (by omega) (by omega) hl hn
theorem wr_invI {mid2 n idx b1 b2 c1 c2 : Nat} {a : Nat} {as : List Value} (hp2 : am_pl mid2 n) (hlen : as.length = n) (hst : (st.map fun v => v.category).sum ≤ 8) (hb1 : bc = b1 + c1) (hb2 : bs = b2 + c2) (ha : a < nC N) (hli : Cond.methodLink (am_y mid).cls idx (am_y mid2) ∈ am_big) (hin : Cond.instanceMethod (am_y mid2) ∈ am_big) (hi1 : (am_y mid2).name = "<init>") (hi2 : am_r mid2 = none) (hd : decode (am_c mid) pc = .ok (.invokespecial idx, 3)) (k0 : CallOk X d c1 c2 mid2 (.ref a :: as) N (fun r N' => wp X (d + 1) mid b1 b2 (pc + 3) ls (pR r st) N' post)) : wp X (d + 1) mid bc bs pc ls (as.reverse ++ .ref a :: st) N post := by
  intro G p l e R s m args below meth c mc ms Q hC hK hR hret H locs cells slots lsr hW hS hc hs hl hn
  obtain ⟨hx, hb, hml, hown, hts, hnm, hdf, hdl⟩ := id hC
  have k : ∀ r N', wp X (d + 1) mid b1 b2 (pc + 3) ls (pR r st) N' post → wp X (d + 1) mid b1 b2 (pc + 3) ls (pR r st) N' post := fun _ _ h => h
  obtain ⟨hm2, hds, hl2, hh1, hh2, hini⟩ := hp2
  have hcode := am_code hm2
  have hG := am_good hcode
  have hroom : 2 * (F0 m pc lsr ((as.reverse ++ .ref a :: st).map (rV G))).monitorRoom + ((st.map (rV G)).map fun v => v.category).sum ≤ 8 := by
    rw [List.map_map, show ((fun v => Value.category v) ∘ rV G) = fun v => v.category from funext fun v => rV_cat G v]
    exact lv_room (m := m) (pc := pc) (ls := lsr) (rest := []) hst
  have hstk : ((as.reverse ++ .ref a :: st).map (rV G)) = (as.map (rV G)).reverse ++ .ref (G.1 + a) :: st.map (rV G) := by
    rw [List.map_append, List.map_reverse, List.map_cons, show rV G (.ref a) = .ref (G.1 + a) by show Value.ref _ = _; rw [gA_lt ha hW.2.2]]
  have hargs : (.ref a :: as : List Value).map (rV G) = .ref (G.1 + a) :: as.map (rV G) := by
    rw [List.map_cons, show rV G (.ref a) = .ref (G.1 + a) by show Value.ref _ = _; rw [gA_lt ha hW.2.2]]
  have hPc : ∀ U : State, U.heap = H → s.WarmedH U.vm → aPc X G (.ref a :: as) N (.ref (G.1 + a) :: as.map (rV G) : List Value).toArray U := fun U hU hw => by
    have := aPc_of (as := .ref a :: as) hK hW hS hU hw
    rw [hargs] at this
    exact this
  have k1 := k0 G l
  rw [hi2] at k1 hG
  refine am_after (va_runI (As := as.map (rV G)) ⟨hx, hb, hml, hown, hts⟩ k1 ⟨callB_of (ws' := am_big) n hts hG rfl rfl rfl (hts _ hini) (hts _ hli) ⟨hh1, hh2, hds⟩ ⟨by show d + 1 ≤ R.frames; omega, by show 8 + (am_l mid2 + 11) + 60 * d ≤ R.locals; omega⟩, hi1, hts _ hin⟩ ⟨aPc_blind, hPc⟩ rfl (by rw [List.length_map]; exact hlen) (hl.1) hstk hroom hd ⟨by omega, by omega⟩) hS (fun r N' H1 locs1 hp hW1 hS1 => ?_)
  rw [am_pR]
  exact k r N' hp G p l e R s m args below meth c mc ms Q hC hK hR hret H1 locs1 (cells + c1) (slots + c2) lsr hW1 hS1 (by omega) (by omega) hl hn
theorem wr_invSN {mid2 n idx b1 b2 c1 c2 : Nat} {host : String} {as : List Value} (hp2 : am_pl mid2 n) (hlen : as.length = n) (hst : (st.map fun v => v.category).sum ≤ 8) (hb1 : bc = b1 + c1) (hb2 : bs = b2 + c2) (hli : ((am_y mid).cls, idx, am_y mid2, host) ∈ am_nm) (hsa : Cond.static (am_y mid2) ∈ am_big) (hd : decode (am_c mid) pc = .ok (.invokestatic idx, 3)) (k0 : CallOk X d c1 c2 mid2 as N (fun r N' => wp X (d + 1) mid b1 b2 (pc + 3) ls (pR r st) N' post)) : wp X (d + 1) mid bc bs pc ls (as.reverse ++ st) N post := by
  intro G p l e R s m args below meth c mc ms Q hC hK hR hret H locs cells slots lsr hW hS hc hs hl hn
  obtain ⟨hx, hb, hml, hown, hts, hnm, hdf, hdl⟩ := id hC
  have k : ∀ r N', wp X (d + 1) mid b1 b2 (pc + 3) ls (pR r st) N' post → wp X (d + 1) mid b1 b2 (pc + 3) ls (pR r st) N' post := fun _ _ h => h
  obtain ⟨hm2, hds, hl2, hh1, hh2, hini⟩ := hp2
  have hcode := am_code hm2
  have hG := am_good hcode
  have hroom : 2 * (F0 m pc lsr ((as.reverse ++ st).map (rV G))).monitorRoom + ((st.map (rV G)).map fun v => v.category).sum ≤ 8 := by
    rw [List.map_map, show ((fun v => Value.category v) ∘ rV G) = fun v => v.category from funext fun v => rV_cat G v]
    exact lv_room (m := m) (pc := pc) (ls := lsr) (rest := []) hst
  have hstk : ((as.reverse ++ st).map (rV G)) = (as.map (rV G)).reverse ++ st.map (rV G) := by
    rw [List.map_append, List.map_reverse]
  have hargs : (as : List Value).map (rV G) = as.map (rV G) := by
    rfl
  have hPc : ∀ U : State, U.heap = H → s.WarmedH U.vm → aPc X G as N (as.map (rV G) : List Value).toArray U := fun U hU hw => by
    have := aPc_of (as := as) hK hW hS hU hw
    rw [hargs] at this
    exact this

  refine am_after (va_runSN (As := as.map (rV G)) ⟨hx, hb, hml, hown, hts⟩ (k0 G l) ⟨va_cnB (ws' := am_big) n hts hG rfl rfl rfl (hK.2.1 _ hli) (hts _ hini) ⟨hh1, hh2, hds⟩ ⟨by show d + 1 ≤ R.frames; omega, by show 8 + (am_l mid2 + 11) + 60 * d ≤ R.locals; omega⟩, hts _ hsa, trivial⟩ ⟨aPc_blind, hPc⟩ rfl (by rw [List.length_map]; exact hlen) (hl.1) hstk hroom hd ⟨by omega, by omega⟩) hS (fun r N' H1 locs1 hp hW1 hS1 => ?_)
  rw [am_pR]
  exact k r N' hp G p l e R s m args below meth c mc ms Q hC hK hR hret H1 locs1 (cells + c1) (slots + c2) lsr hW1 hS1 (by omega) (by omega) hl hn
theorem wr_invIN {mid2 n idx b1 b2 c1 c2 : Nat} {a : Nat} {host : String} {as : List Value} (hp2 : am_pl mid2 n) (hlen : as.length = n) (hst : (st.map fun v => v.category).sum ≤ 8) (hb1 : bc = b1 + c1) (hb2 : bs = b2 + c2) (ha : a < nC N) (hli : ((am_y mid).cls, idx, am_y mid2, host) ∈ am_nm) (hin : Cond.instanceMethod (am_y mid2) ∈ am_big) (hi1 : (am_y mid2).name = "<init>") (hi2 : am_r mid2 = none) (hd : decode (am_c mid) pc = .ok (.invokespecial idx, 3)) (k0 : CallOk X d c1 c2 mid2 (.ref a :: as) N (fun r N' => wp X (d + 1) mid b1 b2 (pc + 3) ls (pR r st) N' post)) : wp X (d + 1) mid bc bs pc ls (as.reverse ++ .ref a :: st) N post := by
  intro G p l e R s m args below meth c mc ms Q hC hK hR hret H locs cells slots lsr hW hS hc hs hl hn
  obtain ⟨hx, hb, hml, hown, hts, hnm, hdf, hdl⟩ := id hC
  have k : ∀ r N', wp X (d + 1) mid b1 b2 (pc + 3) ls (pR r st) N' post → wp X (d + 1) mid b1 b2 (pc + 3) ls (pR r st) N' post := fun _ _ h => h
  obtain ⟨hm2, hds, hl2, hh1, hh2, hini⟩ := hp2
  have hcode := am_code hm2
  have hG := am_good hcode
  have hroom : 2 * (F0 m pc lsr ((as.reverse ++ .ref a :: st).map (rV G))).monitorRoom + ((st.map (rV G)).map fun v => v.category).sum ≤ 8 := by
    rw [List.map_map, show ((fun v => Value.category v) ∘ rV G) = fun v => v.category from funext fun v => rV_cat G v]
    exact lv_room (m := m) (pc := pc) (ls := lsr) (rest := []) hst
  have hstk : ((as.reverse ++ .ref a :: st).map (rV G)) = (as.map (rV G)).reverse ++ .ref (G.1 + a) :: st.map (rV G) := by
    rw [List.map_append, List.map_reverse, List.map_cons, show rV G (.ref a) = .ref (G.1 + a) by show Value.ref _ = _; rw [gA_lt ha hW.2.2]]
  have hargs : (.ref a :: as : List Value).map (rV G) = .ref (G.1 + a) :: as.map (rV G) := by
    rw [List.map_cons, show rV G (.ref a) = .ref (G.1 + a) by show Value.ref _ = _; rw [gA_lt ha hW.2.2]]
  have hPc : ∀ U : State, U.heap = H → s.WarmedH U.vm → aPc X G (.ref a :: as) N (.ref (G.1 + a) :: as.map (rV G) : List Value).toArray U := fun U hU hw => by
    have := aPc_of (as := .ref a :: as) hK hW hS hU hw
    rw [hargs] at this
    exact this
  have k1 := k0 G l
  rw [hi2] at k1 hG
  refine am_after (va_runIN (As := as.map (rV G)) ⟨hx, hb, hml, hown, hts⟩ k1 ⟨va_cnB (ws' := am_big) n hts hG rfl rfl rfl (hK.2.1 _ hli) (hts _ hini) ⟨hh1, hh2, hds⟩ ⟨by show d + 1 ≤ R.frames; omega, by show 8 + (am_l mid2 + 11) + 60 * d ≤ R.locals; omega⟩, hi1, hts _ hin⟩ ⟨aPc_blind, hPc⟩ rfl (by rw [List.length_map]; exact hlen) (hl.1) hstk hroom hd ⟨by omega, by omega⟩) hS (fun r N' H1 locs1 hp hW1 hS1 => ?_)
  rw [am_pR]
  exact k r N' hp G p l e R s m args below meth c mc ms Q hC hK hR hret H1 locs1 (cells + c1) (slots + c2) lsr hW1 hS1 (by omega) (by omega) hl hn
/-- a method's contract out of the walk of its body -/
theorem lva_las {G : aG} : ∀ (as : List Value) (i : Nat), (∀ v ∈ as, ∀ x, v ≠ .double x) → las G i (lva as) = lv_args i (as.map (rV G))
  | [], _, _ => rfl
  | v :: t, i, h => by
    have ht := fun i => lva_las (G := G) t i (fun w hw => h w (List.mem_cons_of_mem _ hw))
    cases v with
    | long x =>
      show (i, rV G (.long x)) :: las G (i + 1 + 1) (lva t) = lv_args i (rV G (.long x) :: t.map (rV G))
      rw [ht]; rfl
    | double x => exact absurd rfl (h _ List.mem_cons_self x)
    | int x =>
      show (i, rV G (.int x)) :: las G (i + 1) (lva t) = lv_args i (rV G (.int x) :: t.map (rV G))
      rw [ht]; rfl
    | float x =>
      show (i, rV G (.float x)) :: las G (i + 1) (lva t) = lv_args i (rV G (.float x) :: t.map (rV G))
      rw [ht]; rfl
    | null =>
      show (i, rV G .null) :: las G (i + 1) (lva t) = lv_args i (rV G .null :: t.map (rV G))
      rw [ht]; rfl
    | ref x =>
      show (i, rV G (.ref x)) :: las G (i + 1) (lva t) = lv_args i (rV G (.ref x) :: t.map (rV G))
      rw [ht]; rfl
    | retAddr x =>
      show (i, rV G (.retAddr x)) :: las G (i + 1) (lva t) = lv_args i (rV G (.retAddr x) :: t.map (rV G))
      rw [ht]; rfl
theorem las_rep {G : aG} : ∀ (n i : Nat), las G i (List.replicate n none) = []
  | 0, _ => rfl
  | n + 1, i => las_rep n (i + 1)
theorem las_app {G : aG} : ∀ (a b : aL) (i : Nat), las G i (a ++ b) = las G i a ++ las G (i + a.length) b
  | [], b, i => rfl
  | none :: t, b, i => by
    show las G (i + 1) (t ++ b) = las G (i + 1) t ++ las G (i + (t.length + 1)) b
    rw [las_app t b (i + 1), show i + 1 + t.length = i + (t.length + 1) by omega]
  | some v :: t, b, i => by
    show (i, rV G v) :: las G (i + 1) (t ++ b) = (i, rV G v) :: (las G (i + 1) t ++ las G (i + (t.length + 1)) b)
    rw [las_app t b (i + 1), show i + 1 + t.length = i + (t.length + 1) by omega]
theorem lva_len {G : aG} : ∀ (as : List Value), (∀ v ∈ as, ∀ x, v ≠ .double x) → (lg_sl (as.map (rV G))).length = (lva as).length
  | [], _ => rfl
  | v :: t, h => by
    have ht := lva_len (G := G) t (fun w hw => h w (List.mem_cons_of_mem _ hw))
    have e : ∀ w : Value, (lg_sl (w :: t.map (rV G))).length = (if w.category = 2 then 2 else 1) + (lg_sl (t.map (rV G))).length := fun w => by
      simp only [lg_sl, List.flatMap_cons, List.length_append]
      by_cases hc : w.category = 2 <;> simp [hc]
    rw [List.map_cons, e, ht, rV_cat]
    cases v <;> first | exact absurd rfl (h _ List.mem_cons_self _) | (simp only [lva, Value.category, List.length_cons]; simp; omega)
theorem CallOk.intro {args : List Value} (hpl : plainName (am_y mid).cls = true) (hnd : (args.all fun v => match v with | .double _ => false | _ => true) = true) (hlen : (lva args).length ≤ am_l mid) (k : wp X d mid bc bs 0 (lve args (am_l mid)) [] N post) : CallOk X d bc bs mid args N post := by
  intro G l
  have hnd' : ∀ v ∈ args, ∀ x, v ≠ .double x := fun v hv x h => by
    have := List.all_eq_true.mp hnd v hv
    rw [h] at this
    cases this
  refine Met.ofW (cc := am_c mid) (maxL := am_l mid) (ret := am_r mid) hpl rfl ?_
  intro p e s m as below meth c s₁ B hml hP
  obtain ⟨rfl, hW, hK⟩ := hP
  have hts := atoms_spec (ws := Cond.code (am_y mid) (am_c mid) (am_l mid) (am_r mid) :: am_big) B.pre
  have hl := lv_entry (args.map (rV G)) (n := am_l mid) (by rw [lva_len args hnd']; exact hlen)
  rw [lg_entry_eq]
  generalize (lg_sl (args.map (rV G)) ++ List.replicate (am_l mid - (lg_sl (args.map (rV G))).length) Slot.unset).toArray = lsr at hl ⊢
  refine k G p l e (aRm d bc bs) s m _ below meth c bc bs _ ⟨B.exec, B.bytes, hml, findClass_of_methodNamed B.named, fun w hw => hts w (List.mem_cons_of_mem _ hw), (name_of_methodNamed B.named B.method).1, Nat.le_refl _, Nat.le_refl _⟩ hK ⟨Nat.le_refl _, Nat.le_refl _⟩ ?_ s.heap [] 0 0 lsr hW va_S.rf (by omega) (by omega) ?_ ?_
  · intro H locs cells slots lsr pc r N' hp hW' hS' hc1 hc2 hr
    refine W.widen hc1 hc2 ?_
    have hq : ∀ t : State, t.heap = H → s.WarmedH t.vm → aQc G post (args.map (rV G)).toArray s (.returned (r.map (rV G))) t := fun t ht _ => ⟨⟨r, N', rfl, hp, by rw [ht]; exact hW'⟩, hS'.F ht⟩
    have hf : ∀ q ∈ locs, gB G q.base := hS'.2.2
    rcases hr with ⟨rfl, hd, hr⟩ | ⟨x, rfl, hd, hr⟩ | ⟨x, rfl, hd, hr⟩
    · exact W.vret B.exec B.bytes (B.returns.trans hr) hq hf hd B.notSynchronized
    · rcases hr with hr | ⟨hr, hx⟩
      · exact W.iret B.exec B.bytes (B.returns.trans hr) hq hf hd B.notSynchronized
      · exact W.zret B.exec B.bytes (B.returns.trans hr) (by rcases hx with rfl | rfl <;> rfl) hq hf hd B.notSynchronized
    · exact W.lret B.exec B.bytes (B.returns.trans hr) hq hf hd B.notSynchronized
  · unfold lve
    rw [las_app, las_rep, List.append_nil, lva_las args 0 hnd']
    exact hl
  · unfold lve
    rw [List.length_append, List.length_replicate]
    omega
end R3
end
section
section R4
variable {X : aX} {d mid bc bs pc : Nat} {ls : aL} {st : List Value} {N : aN} {post : aO}
theorem cE_sN {G : aG} {kd len j : Nat} (h : j ≠ nC N) : cE G (sN N kd len) j = cE G N j := cE_cg (if_neg h) (if_neg h) (if_neg h) (if_neg h)
theorem ws_sN {G : aG} {kd len : Nat} : wsL G (sN N kd len) = wsL G N ++ [(G.1 + nC N, cE G (sN N kd len) (nC N))] := by
  have h : ∀ i ∈ List.range (nC N), (G.1 + i, cE G (sN N kd len) i) = (G.1 + i, cE G N i) := fun i hi => by
    rw [cE_sN (Nat.ne_of_lt (List.mem_range.mp hi))]
  show (List.range (nC N + 1)).map _ = _
  rw [List.range_succ, List.map_append, List.map_congr_left h]
  rfl
theorem sN_sh {kd len : Nat} : sH (sN N kd len) (nC N) = (kd, len) := by simp only [sH, sN, up1, if_true]
theorem q_fa : ∀ ci, ci < 5 → ∀ k, k < qM ci → am_ft ci k = 0 ∨ am_ft ci k = 1 ∨ am_ft ci k = 2 ∨ am_ft ci k = 3 := by decide +kernel
theorem q_de {G : aG} {ci k len : Nat} (hci : ci < 5) (hk : k < qM ci) : defaultValue (qY ci k) = fV G (sN N (10 + ci) len) ci (nC N) k := by
  rcases q_fa ci hci k hk with h | h | h | h
  · rw [(q_f0 ci hci k hk h).1]; simp only [fV, h, vI, sN, up1, if_true]; rfl
  · rw [(q_f1 ci hci k hk h).1]; simp only [fV, h, vL, sN, up1, if_true]; rfl
  · have hq1 : qY ci k = .array .int ∨ qY ci k = .object am_R0 ∨ qY ci k = .object am_R1 ∨ qY ci k = .array (.object am_R0) ∨ qY ci k = .array (.object am_R2) := by simpa using (q_f2 ci hci k hk h).1
    have e : fV G (sN N (10 + ci) len) ci (nC N) k = .null := by simp only [fV, h, vR, sN, up1, if_true]; rfl
    rw [e]
    rcases hq1 with h | h | h | h | h <;> rw [h] <;> rfl
  · rw [(q_f3 ci hci k hk h).1]; simp only [fV, h, vI, sN, up1, if_true]; rfl
theorem aW_push {G : aG} {H H1 : Heap} {kd len : Nat} (hW : aW G N H) (hn : nC N < 1000) (z : H1.size = G.1 + nC N + 1) (o1 : ∀ q, q < G.1 + nC N → H1[q]? = H[q]?) (he : va_at (gD G) am_cl (G.1 + nC N, cE G (sN N kd len) (nC N)) H1) : aW G (sN N kd len) H1 := by
  refine ⟨?_, by rw [z]; rfl, by show nC N + 1 ≤ 1000; omega⟩
  rw [ws_sN]
  refine va_P.app (hW.1.kept fun k q hk => ?_) (fun k q hk => ?_)
  · have := (hW.1 k q hk).lt
    exact o1 q.1 (by rw [hW.2.1] at this; exact this)
  · have hz : k < 1 := (List.getElem?_eq_some_iff.mp hk).1
    rw [show k = 0 by omega] at hk
    cases hk
    exact he
theorem vaS_push {G : aG} {s : State} {H H1 : Heap} {locs : List Loc} (hW : aW G N H) (hS : va_S (gB G) s.heap H locs) (z : H1.size = G.1 + nC N + 1) (o1 : ∀ q, q < G.1 + nC N → H1[q]? = H[q]?) : va_S (gB G) s.heap H1 locs :=
  ⟨Nat.le_trans hS.1 (by rw [z, hW.2.1]; omega), fun q h1 h2 => (o1 q (by have := Nat.lt_of_lt_of_le h1 hS.1; rw [hW.2.1] at this; exact this)).trans (hS.2.1 q h1 h2), hS.2.2⟩
theorem wr_new {ci idx b1 b2 : Nat} (hci : ci < 5) (hcl : Cond.classLink (am_y mid).cls idx (qR ci) ∈ am_big) (hins : Cond.instantiable (qR ci) (qM ci) ∈ am_big) (hini : Cond.initialized (qR ci) ∈ am_big) (hb1 : bc = b1 + 1) (hb2 : bs = b2 + qM ci) (hN : nC N < 1000) (hd : decode (am_c mid) pc = .ok (.new idx, 3)) (k : wp X d mid b1 b2 (pc + 3) ls (.ref (nC N) :: st) (sN N (10 + ci) (qM ci)) post) : wp X d mid bc bs pc ls st N post := by
  intro G p l e R s m args below meth c mc ms Q hC hK hR hret H locs cells slots lsr hW hS hc hs hl hn
  obtain ⟨hx, hb, hml, hown, hts, hnm, hdf, hdl⟩ := id hC
  have hKn := hK.1.1 ci _ (q_cl hci)
  have hg : rV G (.ref (nC N)) = .ref (G.1 + nC N) := by show Value.ref _ = _; rw [gA_lt (N := sN N (10 + ci) (qM ci)) (show nC N < nC N + 1 by omega) (show nC N + 1 ≤ 1000 by omega)]
  refine W.newcK hx hb hown (hts _ hcl) (hts _ hins) (hts _ hini) rfl hd (by omega) (by omega) hKn.2.1 hW.2.1 fun H1 kC hkC e1 z1 o1 => ?_
  have kk := (k G p l e R s m args below meth c mc ms Q hC hK hR hret H1 locs (cells + 1) (slots + qM ci) lsr (aW_push hW hN z1 o1 (by rw [cE_obj sN_sh]; exact ⟨_, q_cl hci, (u_born (qY ci) hts (q_in hci) hKn hkC e1 (q_ty hci)).to (fun j hj => by rw [q_de (N := N) (G := G) (len := qM ci) hci hj]; simp [vp_V, hj])⟩)) (vaS_push hW hS z1 o1) (by omega) (by omega) hl hn)
  rw [List.map_cons, hg] at kk
  exact kk
theorem wr_newI {len b1 b2 : Nat} {n : Int32} (h0 : ¬ n < 0) (hlen : n.toNatClampNeg = len) (hle : len ≤ 100000) (hac : Cond.arrayClass .int ∈ am_big) (hb1 : bc = b1 + 1) (hb2 : bs = b2 + len) (hN : nC N < 1000) (hd : decode (am_c mid) pc = .ok (.newarray .int, 2)) (k : wp X d mid b1 b2 (pc + 2) ls (.ref (nC N) :: st) (sN N 0 len) post) : wp X d mid bc bs pc ls (.int n :: st) N post := by
  intro G p l e R s m args below meth c mc ms Q hC hK hR hret H locs cells slots lsr hW hS hc hs hl hn
  obtain ⟨hx, hb, hml, hown, hts, hnm, hdf, hdl⟩ := id hC
  have hg : rV G (.ref (nC N)) = .ref (G.1 + nC N) := by show Value.ref _ = _; rw [gA_lt (N := sN N 0 len) (show nC N < nC N + 1 by omega) (show nC N + 1 ≤ 1000 by omega)]
  refine va_newaK (atype := .int) hx hb (hts _ hac) rfl hd rfl h0 hlen (by show len * 4 ≤ _; omega) (by omega) (by omega) hW.2.1 fun H1 cA e1 z1 o1 hAr hNm => ?_
  have hcA : cA = gI G := Option.some.inj (hNm.symm.trans (hK.1.2 0 _ rfl).2)
  subst hcA
  have kk := (k G p l e R s m args below meth c mc ms Q hC hK hR hret H1 locs (cells + 1) (slots + len) lsr (aW_push hW hN z1 o1 (by rw [cE_int sN_sh]; show H1[_]? = some (vp_cell _ _); rw [vp_cell_i]; simp only [vI, sN, up1, if_true]; exact e1)) (vaS_push hW hS z1 o1) (by omega) (by omega) hl hn)
  rw [List.map_cons, hg] at kk
  exact kk
theorem wr_newR {len b1 b2 idx kd : Nat} {C : String} {n : Int32} (hkd : (kd = 1 ∧ C = am_R2) ∨ (kd = 2 ∧ C = am_R0)) (h0 : ¬ n < 0) (hlen : n.toNatClampNeg = len) (hle : len ≤ 100000) (hcl : Cond.classLink (am_y mid).cls idx C ∈ am_big) (hb1 : bc = b1 + 1) (hb2 : bs = b2 + len) (hN : nC N < 1000) (hd : decode (am_c mid) pc = .ok (.anewarray idx, 3)) (k : wp X d mid b1 b2 (pc + 3) ls (.ref (nC N) :: st) (sN N kd len) post) : wp X d mid bc bs pc ls (.int n :: st) N post := by
  intro G p l e R s m args below meth c mc ms Q hC hK hR hret H locs cells slots lsr hW hS hc hs hl hn
  obtain ⟨hx, hb, hml, hown, hts, hnm, hdf, hdl⟩ := id hC
  have hg : rV G (.ref (nC N)) = .ref (G.1 + nC N) := by show Value.ref _ = _; rw [gA_lt (N := sN N kd len) (show nC N < nC N + 1 by omega) (show nC N + 1 ≤ 1000 by omega)]
  have hao : va_AO C s := by rcases hkd with ⟨-, rfl⟩ | ⟨-, rfl⟩; exact hK.2.2.2.1.1; exact hK.2.2.2.1.2
  subst hlen
  refine W.anew hx hb hown (hts _ hcl) (va_AO.use hao) rfl hd rfl h0 (by omega) (by omega) (by omega) fun cA kA comp f1 f2 f3 f4 => ?_
  generalize hH1 : H.push ({ cls := cA, slots := Array.replicate n.toNatClampNeg .null, vm := .none } : Cell) = H1
  have z1 : H1.size = G.1 + nC N + 1 := by rw [← hH1, Array.size_push, hW.2.1]
  have e1 : H1[G.1 + nC N]? = some (arrV cA n.toNatClampNeg (fun _ => .null)) := by rw [← hH1, ← hW.2.1, Array.getElem?_push_size, ← arrV_new]
  have o1 : ∀ q : Nat, q < G.1 + nC N → H1[q]? = H[q]? := fun q hq => by rw [← hH1, Array.getElem?_push, if_neg (by rw [hW.2.1]; omega)]
  have hat : va_at (gD G) am_cl (G.1 + nC N, cE G (sN N kd n.toNatClampNeg) (nC N)) H1 := by
    rcases hkd with ⟨rfl, rfl⟩ | ⟨rfl, rfl⟩
    · obtain ⟨-, -, -, -, -, g4⟩ := (hK.1.2 1 _ rfl).2
      have hcA : cA = gR G := Option.some.inj (f1.symm.trans g4)
      subst hcA
      rw [cE_row sN_sh]
      show H1[_]? = some (vp_cell _ _)
      rw [vp_cell_q]; simp only [vR, sN, up1, if_true]; exact e1
    · obtain ⟨-, -, -, -, -, g4⟩ := (hK.1.2 2 _ rfl).2
      have hcA : cA = gC G := Option.some.inj (f1.symm.trans g4)
      subst hcA
      rw [cE_clo sN_sh]
      show H1[_]? = some (vp_cell _ _)
      rw [vp_cell_q]; simp only [vR, sN, up1, if_true]; exact e1
  have kk := (k G p l e R s m args below meth c mc ms Q hC hK hR hret H1 locs (cells + 1) (slots + n.toNatClampNeg) lsr (aW_push hW hN z1 o1 hat) (vaS_push hW hS z1 o1) (by omega) (by omega) hl hn)
  rw [List.map_cons, hg] at kk
  rw [hW.2.1]
  exact kk
theorem wr_aast {a v n kd ci : Nat} {i : Int32} (ha : a < nC N) (hv : v < nC N) (hsh : sH N a = (kd, n)) (hsv : sH N v = (10 + ci, qM ci)) (hkd : (kd = 1 ∧ ci = 2) ∨ (kd = 2 ∧ ci = 0)) (hi : vp_in i n) (hd : decode (am_c mid) pc = .ok (.aastore, 1)) (k : wp X d mid bc bs (pc + 1) ls st (sR N a i.toNatClampNeg (v + 1)) post) : wp X d mid bc bs pc ls (.ref v :: .int i :: .ref a :: st) N post := by
  intro G p l e R s m args below meth c mc ms Q hC hK hR hret H locs cells slots lsr hW hS hc hs hl hn
  obtain ⟨hx, hb, hml, hown, hts, hnm, hdf, hdl⟩ := id hC
  have hg : rV G (.ref a) = .ref (G.1 + a) := by show Value.ref _ = _; rw [gA_lt ha hW.2.2]
  have hgv : rV G (.ref v) = .ref (G.1 + v) := by show Value.ref _ = _; rw [gA_lt hv hW.2.2]
  show W p l e R s m args below meth c H locs cells slots Q (F0 m pc lsr (rV G (.ref v) :: .int i :: rV G (.ref a) :: st.map (rV G)))
  rw [hg, hgv]
  have hci : ci < 5 := by omega
  have hcq := q_cl hci
  have he := ws_at (G := G) ha
  have hev := ws_at (G := G) hv
  rw [cE_obj hsv] at hev
  have hlt : i.toNatClampNeg < n := Nat.not_le.mp fun q => hi (Or.inr q)
  have h0 : ¬ i < 0 := fun q => hi (Or.inl q)
  obtain ⟨r', hr', cellV, g1, g2, g3, -⟩ := hW.1 v _ hev
  have hcls := (hK.1.1 ci _ hcq).2
  have hcell : ∃ (cA : ClassId) (t0 : Nat), (aT G)[t0]? = some (cA, .object (qR ci)) ∧ cE G N a = .inl (cA, n, .inr (.inr (.inr (.inr (fun j => rO G (vR N a j)))))) ∧ cE G (sR N a i.toNatClampNeg (v + 1)) a = .inl (cA, n, .inr (.inr (.inr (.inr (fun j => rO G (va_up (vR N a) i.toNatClampNeg (v + 1) j)))))) := by
    rcases hkd with ⟨rfl, rfl⟩ | ⟨rfl, rfl⟩
    · exact ⟨gR G, 1, rfl, cE_row hsh, by rw [cE_row (N := sR N a i.toNatClampNeg (v + 1)) hsh]; simp only [vR, sR, up2, if_true]⟩
    · exact ⟨gC G, 2, rfl, cE_clo hsh, by rw [cE_clo (N := sR N a i.toNatClampNeg (v + 1)) hsh]; simp only [vR, sR, up2, if_true]⟩
  obtain ⟨cA, t0, ht, hcE, hcE2⟩ := hcell
  rw [hcE] at he
  obtain ⟨kA, comp, k1, k2, k3, -⟩ := (hK.1.2 t0 _ ht).2
  have hcomp : comp = (gD G).1 ci := Option.some.inj (k3.symm.trans hcls.1)
  subst hcomp
  obtain ⟨kC, hkC, -⟩ := id hcls.2
  refine W.aast hx hb (hW.1 a _ he) (fun q h => by cases h) (fun h => by cases h) k1 k2 rfl hkC ⟨h0, by show _ < (arrV _ _ _).slots.size; rw [arrV_size]; exact hlt⟩ g1 (fun q h => by rw [g3] at h; cases h) (by rw [g2]; exact hkC) (by rw [g2]; exact va_assign hcls) rfl rfl hd fun H1 e1 z oq => ?_
  have hS1 := hS.put (k := i.toNatClampNeg) z oq (show gB G (G.1 + a) from Nat.le_add_right _ _)
  have h1 := hW.1.set wsD he (e := cE G (sR N a i.toNatClampNeg (v + 1)) a) (H1 := H1) (by
    rw [hcE2]
    show H1[G.1 + a]? = some (vp_cell _ _)
    rw [e1, vp_cell_q, vp_cell_q, arrV_store]
    congr 2
    funext q
    by_cases hq : q = i.toNatClampNeg
    · subst hq
      simp [updV, va_up, va_rf, rO]
    · simp [updV, va_up, hq]) oq
  rw [ws_set (G := G) (N := N) (N' := sR N a i.toNatClampNeg (v + 1)) rfl ha rfl (fun j hj => cE_sR hj)] at h1
  exact (k G p l e R s m args below meth c mc ms Q hC hK hR hret H1 _ cells slots lsr ⟨h1, by rw [z]; exact hW.2.1, hW.2.2⟩ hS1 hc hs hl hn)
theorem wr_obj {idx a : Nat} (hli : Cond.methodLink (am_y mid).cls idx objectInit ∈ am_big) (hin : Cond.instanceMethod objectInit ∈ am_big) (hco : Cond.code objectInit ⟨#[0xb1]⟩ 1 none ∈ am_big) (hst : (st.map fun v => v.category).sum ≤ 8) (hd : decode (am_c mid) pc = .ok (.invokespecial idx, 3)) (k : wp X (d + 1) mid bc bs (pc + 3) ls st N post) : wp X (d + 1) mid bc bs pc ls (.ref a :: st) N post := by
  intro G p l e R s m args below meth c mc ms Q hC hK hR hret H locs cells slots lsr hW hS hc hs hl hn
  obtain ⟨hx, hb, hml, hown, hts, hnm, hdf, hdl⟩ := id hC
  refine W.objInit hx hb hown (hts _ hli) (hts _ hin) (hts _ hco) rfl (hl.1.trans hml.symm) rfl hd (by omega) ?_ (k G p l e R s m args below meth c mc ms Q hC hK hR hret H locs cells slots lsr hW hS hc hs hl hn)
  have : ((st.map (rV G)).map fun v => v.category).sum ≤ 8 := by
    rw [List.map_map, show ((fun v => Value.category v) ∘ rV G) = fun v => v.category from funext fun v => rV_cat G v]
    exact hst
  show 2 * 0 + _ + 12 ≤ _
  omega
theorem nfw_ac : nativeFrameWords "java/lang/System" "arraycopy" 5 ≤ 20 := by decide +kernel
theorem wr_copy {idx a0 a n0 n1 : Nat} {sp dp n : Int32} (hli : Cond.methodLink (am_y mid).cls idx arraycopyName ∈ am_big) (hna : Cond.native arraycopyName ∈ am_big) (hsa : Cond.static arraycopyName ∈ am_big) (hini : Cond.initialized "java/lang/System" ∈ am_big) (hst : (st.map fun v => v.category).sum ≤ 8) (ha0 : a0 < nC N) (ha : a < nC N) (hs0 : sH N a0 = (0, n0)) (hs1 : sH N a = (0, n1))
    (h1 : ¬ sp < 0) (h2 : ¬ dp < 0) (h3 : ¬ n < 0) (h4 : sp.toNatClampNeg + n.toNatClampNeg ≤ n0) (h5 : dp.toNatClampNeg + n.toNatClampNeg ≤ n1) (hd : decode (am_c mid) pc = .ok (.invokestatic idx, 3)) (k : wp X (d + 1) mid bc bs (pc + 3) ls st (sA N a (va_cpy (vI N a0) (vI N a) sp.toNatClampNeg dp.toNatClampNeg n.toNatClampNeg)) post) : wp X (d + 1) mid bc bs pc ls (.int n :: .int dp :: .ref a :: .int sp :: .ref a0 :: st) N post := by
  intro G p l e R s m args below meth c mc ms Q hC hK hR hret H locs cells slots lsr hW hS hc hs hl hn
  obtain ⟨hx, hb, hml, hown, hts, hnm, hdf, hdl⟩ := id hC
  have hg : rV G (.ref a) = .ref (G.1 + a) := by show Value.ref _ = _; rw [gA_lt ha hW.2.2]
  have hg0 : rV G (.ref a0) = .ref (G.1 + a0) := by show Value.ref _ = _; rw [gA_lt ha0 hW.2.2]
  show W p l e R s m args below meth c H locs cells slots Q (F0 m pc lsr (.int n :: .int dp :: rV G (.ref a) :: .int sp :: rV G (.ref a0) :: st.map (rV G)))
  rw [hg, hg0]
  have e0 := ws_at (G := G) ha0
  rw [cE_int hs0] at e0
  have e1 := ws_at (G := G) ha
  rw [cE_int hs1] at e1
  have nn : ∀ z : Int32, ¬ z < 0 → z.toInt = (z.toNatClampNeg : Int) := by
    intro z hz
    have : (0 : Int) ≤ z.toInt := by
      have := Int32.not_lt.mp hz
      simpa using Int32.le_iff_toInt_le.mp this
    show z.toInt = ((z.toInt.toNat : Nat) : Int)
    omega
  have hsum : ((st.map (rV G)).map fun v => v.category).sum ≤ 8 := by
    rw [List.map_map, show ((fun v => Value.category v) ∘ rV G) = fun v => v.category from funext fun v => rV_cat G v]
    exact hst
  have hnf := nfw_ac
  have hc0 : H[G.1 + a0]? = some (vp_cell (gI G) (n0, .inl (vI N a0))) := hW.1 a0 _ e0
  have hc1 : H[G.1 + a]? = some (vp_cell (gI G) (n1, .inl (vI N a))) := hW.1 a _ e1
  intro T hT Y
  obtain ⟨-, k0, hk0, cm0, hkk0⟩ := (hK.1.2 0 _ rfl).1 n0 (fun j => .int (vI N a0 j))
  obtain ⟨-, k1, hk1, cm1, hkk1⟩ := (hK.1.2 0 _ rfl).1 n1 (fun j => .int (vI N a j))
  obtain ⟨vm', Y', step⟩ := Y.arraycopy hx hown (hts _ hli) (hts _ hna) (hts _ hsa) (hts _ hini) (src := G.1 + a0) (dst := G.1 + a) (cs := vp_cell (gI G) (n0, .inl (vI N a0))) (cd := vp_cell (gI G) (n1, .inl (vI N a))) (srcPos := sp) (destPos := dp) (n := n) (by rw [hT]; exact hc0) (by rw [hT]; exact hc1)
    (fun _ h => by cases h) (fun _ h => by cases h) (fun h => by cases h) (fun h => by cases h) hk0 hk1 hkk0 hkk1 (by simp [refKind]) h1 h2 h3
    (by rw [nn sp h1, nn n h3]; show ¬ _ > ((arrV (gI G) n0 (fun j => .int (vI N a0 j))).slots.size : Int); rw [arrV_size]; omega)
    (by rw [nn dp h2, nn n h3]; show ¬ _ > ((arrV (gI G) n1 (fun j => .int (vI N a j))).slots.size : Int); rw [arrV_size]; omega)
    (fun vm₁ _ i hi => by
      have e : (vp_cell (gI G) (n0, .inl (vI N a0))).slots.getD (sp.toNatClampNeg + i) .null = .int (vI N a0 (sp.toNatClampNeg + i)) := by
        show (arrV (gI G) n0 (fun j => .int (vI N a0 j))).slots.getD _ _ = _
        rw [Array.getD_eq_getD_getElem?, arrV_read _ _ (by omega)]
        rfl
      refine ⟨?_, ?_⟩
      · rw [e]
        rfl
      · rw [e]
        exact trivial)
    (g := F0 m pc lsr (.int n :: .int dp :: .ref (G.1 + a) :: .int sp :: .ref (G.1 + a0) :: st.map (rV G))) rfl (hl.1.trans hml.symm) (rest := st.map (rV G)) rfl (by rw [hb]; exact hd) (by omega) (by show 2 * 0 + _ + _ ≤ _; omega)
  have ee : copied (vp_cell (gI G) (n0, .inl (vI N a0))) (vp_cell (gI G) (n1, .inl (vI N a))) sp dp n = vp_cell (gI G) (n1, .inl (va_cpy (vI N a0) (vI N a) sp.toNatClampNeg dp.toNatClampNeg n.toNatClampNeg)) := va_copied (fun z => .int z) (gI G) (gI G) (vI N a0) (vI N a) h4
  rw [ee] at Y' step
  have hl2 : G.1 + a < H.size := (Array.getElem?_eq_some_iff.mp hc1).1
  have hheap : ((T.setVm vm').setCell (G.1 + a) (vp_cell (gI G) (n1, .inl (va_cpy (vI N a0) (vI N a) sp.toNatClampNeg dp.toNatClampNeg n.toNatClampNeg)))).heap = H.setIfInBounds (G.1 + a) (vp_cell (gI G) (n1, .inl (va_cpy (vI N a0) (vI N a) sp.toNatClampNeg dp.toNatClampNeg n.toNatClampNeg))) := by rw [← hT]; rfl
  have oq : ∀ q : Nat, q ≠ G.1 + a → (H.setIfInBounds (G.1 + a) (vp_cell (gI G) (n1, .inl (va_cpy (vI N a0) (vI N a) sp.toNatClampNeg dp.toNatClampNeg n.toNatClampNeg))))[q]? = H[q]? := fun q hq => by simp [Array.getElem?_setIfInBounds, Ne.symm hq]
  have hP1 := hW.1.set wsD e1 (e := .inl (gI G, n1, .inl (va_cpy (vI N a0) (vI N a) sp.toNatClampNeg dp.toNatClampNeg n.toNatClampNeg))) (show (H.setIfInBounds (G.1 + a) _)[G.1 + a]? = some _ by simp [Array.getElem?_setIfInBounds, hl2]) oq
  rw [ws_set (G := G) (N := N) (N' := sA N a (va_cpy (vI N a0) (vI N a) sp.toNatClampNeg dp.toNatClampNeg n.toNatClampNeg)) rfl ha (by rw [cE_int (N := sA N a _) (a := a) hs1]; simp only [vI, sA, up1, if_true]) (fun j hj => cE_sA hj)] at hP1
  obtain ⟨t, a1, b1⟩ := (k G p l e R s m args below meth c mc ms Q hC hK hR hret _ _ cells slots lsr ⟨hP1, by simp; exact hW.2.1, hW.2.2⟩ ⟨by simp; exact hS.1, fun q g1 g2 => by
      rw [oq q (fun e => g2 (by rw [e]; exact Nat.le_add_right _ _))]
      exact hS.2.1 q g1 g2, fun q hq => by
      rcases List.mem_append.mp hq with h | h
      · exact hS.2.2 q h
      · obtain ⟨z, -, hz⟩ := List.mem_map.mp h
        rw [← hz]
        exact Nat.le_add_right _ _⟩ hc hs hl hn) _ hheap Y'
  exact ⟨t, step t a1, b1⟩
/-! switches -/
def swk (J : Nat → Prop) (dt : Nat) (x : Int32) : List (Int32 × Nat) → Prop
  | [] => J dt
  | (v, t) :: r => (x = v → J t) ∧ (¬ x = v → swk J dt x r)
theorem swk_spec {J : Nat → Prop} {dt : Nat} {x : Int32} : ∀ (ts : List (Int32 × Nat)), swk J dt x ts → (∃ (j : Nat) (q : Int32 × Nat), ts[j]? = some q ∧ q.1 = x ∧ J q.2) ∨ ((∀ q ∈ ts, q.1 ≠ x) ∧ J dt)
  | [], h => Or.inr ⟨fun q hq => by simp at hq, h⟩
  | (v, t) :: r, h => by
    by_cases hv : x = v
    · exact Or.inl ⟨0, (v, t), rfl, hv.symm, h.1 hv⟩
    · rcases swk_spec r (h.2 hv) with ⟨j, q, h1, h2⟩ | ⟨h1, h2⟩
      · exact Or.inl ⟨j + 1, q, by simpa using h1, h2⟩
      · refine Or.inr ⟨fun q hq => ?_, h2⟩
        rcases List.mem_cons.mp hq with rfl | hq
        · exact fun e => hv e.symm
        · exact h1 q hq
theorem wr_tsw {dflt lo hi : Int} {offs : Array Int} {len dt : Nat} {x : Int32} {ts : List (Int32 × Nat)} (hd : decode (am_c mid) pc = .ok (.tableswitch dflt lo hi offs, len)) (hts : ts.map (fun q => (q.1.toInt, (q.2 : Int))) = offs.toList.mapIdx (fun j o => (lo + (j : Int), (pc : Int) + o))) (hhi : hi = lo + (offs.size : Int) - 1) (hdt : (pc : Int) + dflt = (dt : Int)) (k : swk (fun t => wp X d mid bc bs t ls st N post) dt x ts) : wp X d mid bc bs pc ls (.int x :: st) N post := by
  have at' : ∀ (j : Nat) (q : Int32 × Nat), ts[j]? = some q → ∃ o, offs[j]? = some o ∧ q.1.toInt = lo + (j : Int) ∧ (q.2 : Int) = (pc : Int) + o := by
    intro j q hq
    have h1 : (ts.map (fun q => (q.1.toInt, (q.2 : Int))))[j]? = some (q.1.toInt, (q.2 : Int)) := by rw [List.getElem?_map, hq]; rfl
    rw [hts, List.getElem?_mapIdx] at h1
    cases ho : offs.toList[j]? with
    | none => rw [ho] at h1; cases h1
    | some o =>
      rw [ho] at h1
      have h2 := Option.some.inj h1
      exact ⟨o, by rw [← Array.getElem?_toList]; exact ho, (congrArg Prod.fst h2).symm, (congrArg Prod.snd h2).symm⟩
  have hlen : ts.length = offs.size := by
    have := congrArg List.length hts
    simpa using this
  rcases swk_spec ts k with ⟨j, q, h1, h2, h3⟩ | ⟨h1, h2⟩
  · obtain ⟨o, g1, g2, g3⟩ := at' j q h1
    have hj : j < offs.size := (Array.getElem?_eq_some_iff.mp g1).1
    rw [h2] at g2
    intro G p l e R s m args below meth c mc ms Q hC hK hR hret H locs cells slots lsr hW hS hc hs hl hn
    obtain ⟨hx, hb, hml, hown, hts, hnm, hdf, hdl⟩ := id hC
    refine lv_tableIn (tgt := q.2) hx hb hd (by omega) (by omega) (off := o) ?_ g3.symm (h3 G p l e R s m args below meth c mc ms Q hC hK hR hret H locs cells slots lsr hW hS hc hs hl hn)
    rw [show (x.toInt - lo).toNat = j by omega]
    exact g1
  · intro G p l e R s m args below meth c mc ms Q hC hK hR hret H locs cells slots lsr hW hS hc hs hl hn
    obtain ⟨hx, hb, hml, hown, hts, hnm, hdf, hdl⟩ := id hC
    refine lv_tableOut (tgt := dt) hx hb hd ?_ hdt (h2 G p l e R s m args below meth c mc ms Q hC hK hR hret H locs cells slots lsr hW hS hc hs hl hn)
    by_cases hlt : x.toInt < lo
    · exact Or.inl hlt
    · right
      apply Int.not_le.mp
      intro hle
      have hj : (x.toInt - lo).toNat < ts.length := by rw [hlen]; omega
      obtain ⟨o, -, g2, -⟩ := at' _ _ (List.getElem?_eq_getElem hj)
      refine h1 ts[(x.toInt - lo).toNat] (List.getElem_mem hj) (Int32.toInt_inj.mp ?_)
      rw [g2]; omega
theorem wr_lsw_off {J : Nat → Prop} {dt : Nat} {x : Int32} {dflt : Int} (hdt : (pc : Int) + dflt = (dt : Int)) : ∀ (ts : List (Int32 × Nat)) (ps : List (Int × Int)), ts.map (fun q => (q.1.toInt, (q.2 : Int))) = ps.map (fun q => (q.1, (pc : Int) + q.2)) → swk J dt x ts → ∃ t : Nat, (pc : Int) + Op.lookupswitch.offset ps dflt x.toInt = (t : Int) ∧ J t
  | [], [], _, h => ⟨dt, hdt, h⟩
  | (v, t) :: r, (a, o) :: ps, he, h => by
    rw [List.map_cons, List.map_cons] at he
    injection he with e1 e2
    have ea : v.toInt = a := congrArg Prod.fst e1
    have eo : (t : Int) = (pc : Int) + o := congrArg Prod.snd e1
    by_cases hv : x = v
    · refine ⟨t, ?_, h.1 hv⟩
      rw [Op.lookupswitch.offset_cons, if_pos (by rw [hv, ea]), eo]
    · obtain ⟨t', h1, h2⟩ := wr_lsw_off hdt r ps e2 (h.2 hv)
      exact ⟨t', by rw [lv_osw hv ea]; exact h1, h2⟩
  | [], _ :: _, he, _ => by simp at he
  | _ :: _, [], he, _ => by simp at he
theorem wr_lsw {dflt : Int} {ps : Array (Int × Int)} {len dt : Nat} {x : Int32} {ts : List (Int32 × Nat)} (hd : decode (am_c mid) pc = .ok (.lookupswitch dflt ps, len)) (hp : (ps.toList.zip (ps.toList.drop 1)).all (fun (a, next) => a.1 < next.1) = true) (hts : ts.map (fun q => (q.1.toInt, (q.2 : Int))) = ps.toList.map (fun q => (q.1, (pc : Int) + q.2))) (hdt : (pc : Int) + dflt = (dt : Int)) (k : swk (fun t => wp X d mid bc bs t ls st N post) dt x ts) : wp X d mid bc bs pc ls (.int x :: st) N post := by
  obtain ⟨t, h1, h2⟩ := wr_lsw_off hdt ts ps.toList hts k
  intro G p l e R s m args below meth c mc ms Q hC hK hR hret H locs cells slots lsr hW hS hc hs hl hn
  obtain ⟨hx, hb, hml, hown, hts, hnm, hdf, hdl⟩ := id hC
  exact lv_lookup (tgt := t) hx hb hd hp rfl h1 (h2 G p l e R s m args below meth c mc ms Q hC hK hR hret H locs cells slots lsr hW hS hc hs hl hn)
end R4
end
