section
-- ===== PART A: goes FIRST, ahead of the names: the tables' words, and 'selects' of the private methods out of them =====
/-- a private method of a class that the tables say can be made, by its rows of tables_1 -/
def lw_okq (q : MethodName × Nat) : Prop := (q.1.cls ≠ "java/lang/invoke/MethodHandle" ∧ q.1.cls ≠ "java/lang/invoke/VarHandle") ∧ Cond.instantiable q.1.cls q.2 ∈ tables_1 ∧ Cond.privateMethod q.1 ∈ tables_1 ∧ Cond.instanceMethod q.1 ∈ tables_1
theorem lw_p0 : lw_okq (⟨"SewnAhead", "refuse", "(I)I"⟩, 11) := ⟨⟨by decide +kernel, by decide +kernel⟩, List.mem_of_getElem? (i := 12) (by decide +kernel), List.mem_of_getElem? (i := 179) (by decide +kernel), List.mem_of_getElem? (i := 180) (by decide +kernel)⟩
theorem lw_p1 : lw_okq (⟨"SewnAhead", "refusePlace", "(LSewnAhead$Row;I)I"⟩, 11) := ⟨⟨by decide +kernel, by decide +kernel⟩, List.mem_of_getElem? (i := 12) (by decide +kernel), List.mem_of_getElem? (i := 197) (by decide +kernel), List.mem_of_getElem? (i := 198) (by decide +kernel)⟩
theorem lw_p2 : lw_okq (⟨"SewnAhead$Cloth", "gapFor", "(I)I"⟩, 13) := ⟨⟨by decide +kernel, by decide +kernel⟩, List.mem_of_getElem? (i := 22) (by decide +kernel), List.mem_of_getElem? (i := 308) (by decide +kernel), List.mem_of_getElem? (i := 309) (by decide +kernel)⟩
theorem lw_p3 : lw_okq (⟨"SewnAhead$Cloth", "lawHoldingIn", "(I)I"⟩, 13) := ⟨⟨by decide +kernel, by decide +kernel⟩, List.mem_of_getElem? (i := 22) (by decide +kernel), List.mem_of_getElem? (i := 312) (by decide +kernel), List.mem_of_getElem? (i := 313) (by decide +kernel)⟩
theorem lw_p4 : lw_okq (⟨"SewnAhead$Cloth", "holds", "(II)Z"⟩, 13) := ⟨⟨by decide +kernel, by decide +kernel⟩, List.mem_of_getElem? (i := 22) (by decide +kernel), List.mem_of_getElem? (i := 316) (by decide +kernel), List.mem_of_getElem? (i := 317) (by decide +kernel)⟩
theorem lw_p5 : lw_okq (⟨"SewnAhead", "isYear", "(I)Z"⟩, 11) := ⟨⟨by decide +kernel, by decide +kernel⟩, List.mem_of_getElem? (i := 12) (by decide +kernel), List.mem_of_getElem? (i := 325) (by decide +kernel), List.mem_of_getElem? (i := 326) (by decide +kernel)⟩
theorem lw_p6 : lw_okq (⟨"SewnAhead", "ofYear", "(II)I"⟩, 11) := ⟨⟨by decide +kernel, by decide +kernel⟩, List.mem_of_getElem? (i := 12) (by decide +kernel), List.mem_of_getElem? (i := 329) (by decide +kernel), List.mem_of_getElem? (i := 330) (by decide +kernel)⟩
theorem lw_p7 : lw_okq (⟨"SewnAhead", "isLaw", "(I)Z"⟩, 11) := ⟨⟨by decide +kernel, by decide +kernel⟩, List.mem_of_getElem? (i := 12) (by decide +kernel), List.mem_of_getElem? (i := 337) (by decide +kernel), List.mem_of_getElem? (i := 338) (by decide +kernel)⟩
theorem lw_p8 : lw_okq (⟨"SewnAhead", "ofLaw", "(II)I"⟩, 11) := ⟨⟨by decide +kernel, by decide +kernel⟩, List.mem_of_getElem? (i := 12) (by decide +kernel), List.mem_of_getElem? (i := 341) (by decide +kernel), List.mem_of_getElem? (i := 342) (by decide +kernel)⟩
theorem lw_p9 : lw_okq (⟨"SewnAhead$Cloth", "isBrokenIn", "(II)Z"⟩, 13) := ⟨⟨by decide +kernel, by decide +kernel⟩, List.mem_of_getElem? (i := 22) (by decide +kernel), List.mem_of_getElem? (i := 349) (by decide +kernel), List.mem_of_getElem? (i := 350) (by decide +kernel)⟩
theorem lw_p10 : lw_okq (⟨"SewnAhead", "stitched", "(II)I"⟩, 11) := ⟨⟨by decide +kernel, by decide +kernel⟩, List.mem_of_getElem? (i := 12) (by decide +kernel), List.mem_of_getElem? (i := 388) (by decide +kernel), List.mem_of_getElem? (i := 389) (by decide +kernel)⟩
theorem lw_p11 : lw_okq (⟨"SewnAhead", "isWholeWhateverIsSewn", "(I)Z"⟩, 11) := ⟨⟨by decide +kernel, by decide +kernel⟩, List.mem_of_getElem? (i := 12) (by decide +kernel), List.mem_of_getElem? (i := 464) (by decide +kernel), List.mem_of_getElem? (i := 465) (by decide +kernel)⟩
theorem lw_p12 : lw_okq (⟨"SewnAhead", "fewestInto", "(I)I"⟩, 11) := ⟨⟨by decide +kernel, by decide +kernel⟩, List.mem_of_getElem? (i := 12) (by decide +kernel), List.mem_of_getElem? (i := 481) (by decide +kernel), List.mem_of_getElem? (i := 482) (by decide +kernel)⟩
theorem lw_p13 : lw_okq (⟨"SewnAhead$Plans", "goOn", "(II)V"⟩, 8) := ⟨⟨by decide +kernel, by decide +kernel⟩, List.mem_of_getElem? (i := 85) (by decide +kernel), List.mem_of_getElem? (i := 490) (by decide +kernel), List.mem_of_getElem? (i := 491) (by decide +kernel)⟩
theorem lw_p14 : lw_okq (⟨"SewnAhead$Plans", "add", "()V"⟩, 8) := ⟨⟨by decide +kernel, by decide +kernel⟩, List.mem_of_getElem? (i := 85) (by decide +kernel), List.mem_of_getElem? (i := 494) (by decide +kernel), List.mem_of_getElem? (i := 495) (by decide +kernel)⟩
theorem lw_p15 : lw_okq (⟨"SewnAhead$Plans", "isAllowed", "(II)Z"⟩, 8) := ⟨⟨by decide +kernel, by decide +kernel⟩, List.mem_of_getElem? (i := 85) (by decide +kernel), List.mem_of_getElem? (i := 499) (by decide +kernel), List.mem_of_getElem? (i := 500) (by decide +kernel)⟩
def lw_privs_1 : List (MethodName × Nat) := [(⟨"SewnAhead", "refuse", "(I)I"⟩, 11), (⟨"SewnAhead", "refusePlace", "(LSewnAhead$Row;I)I"⟩, 11), (⟨"SewnAhead$Cloth", "gapFor", "(I)I"⟩, 13), (⟨"SewnAhead$Cloth", "lawHoldingIn", "(I)I"⟩, 13), (⟨"SewnAhead$Cloth", "holds", "(II)Z"⟩, 13), (⟨"SewnAhead", "isYear", "(I)Z"⟩, 11), (⟨"SewnAhead", "ofYear", "(II)I"⟩, 11), (⟨"SewnAhead", "isLaw", "(I)Z"⟩, 11), (⟨"SewnAhead", "ofLaw", "(II)I"⟩, 11), (⟨"SewnAhead$Cloth", "isBrokenIn", "(II)Z"⟩, 13), (⟨"SewnAhead", "stitched", "(II)I"⟩, 11), (⟨"SewnAhead", "isWholeWhateverIsSewn", "(I)Z"⟩, 11), (⟨"SewnAhead", "fewestInto", "(I)I"⟩, 11), (⟨"SewnAhead$Plans", "goOn", "(II)V"⟩, 8), (⟨"SewnAhead$Plans", "add", "()V"⟩, 8), (⟨"SewnAhead$Plans", "isAllowed", "(II)Z"⟩, 8)]
theorem lw_r1 : ∀ q ∈ lw_privs_1, lw_okq q := List.forall_mem_cons.mpr ⟨lw_p0, List.forall_mem_cons.mpr ⟨lw_p1, List.forall_mem_cons.mpr ⟨lw_p2, List.forall_mem_cons.mpr ⟨lw_p3, List.forall_mem_cons.mpr ⟨lw_p4, List.forall_mem_cons.mpr ⟨lw_p5, List.forall_mem_cons.mpr ⟨lw_p6, List.forall_mem_cons.mpr ⟨lw_p7, List.forall_mem_cons.mpr ⟨lw_p8, List.forall_mem_cons.mpr ⟨lw_p9, List.forall_mem_cons.mpr ⟨lw_p10, List.forall_mem_cons.mpr ⟨lw_p11, List.forall_mem_cons.mpr ⟨lw_p12, List.forall_mem_cons.mpr ⟨lw_p13, List.forall_mem_cons.mpr ⟨lw_p14, List.forall_mem_cons.mpr ⟨lw_p15, fun _ h => absurd h List.not_mem_nil⟩⟩⟩⟩⟩⟩⟩⟩⟩⟩⟩⟩⟩⟩⟩⟩
theorem lw_p16 : lw_okq (⟨"SewnAhead$Plans", "fits", "(I)Z"⟩, 8) := ⟨⟨by decide +kernel, by decide +kernel⟩, List.mem_of_getElem? (i := 85) (by decide +kernel), List.mem_of_getElem? (i := 506) (by decide +kernel), List.mem_of_getElem? (i := 507) (by decide +kernel)⟩
theorem lw_p17 : lw_okq (⟨"SewnAhead", "tellFraction", "(JJ)V"⟩, 11) := ⟨⟨by decide +kernel, by decide +kernel⟩, List.mem_of_getElem? (i := 12) (by decide +kernel), List.mem_of_getElem? (i := 522) (by decide +kernel), List.mem_of_getElem? (i := 523) (by decide +kernel)⟩
theorem lw_p18 : lw_okq (⟨"SewnAhead", "refuseHistory", "(I)I"⟩, 11) := ⟨⟨by decide +kernel, by decide +kernel⟩, List.mem_of_getElem? (i := 12) (by decide +kernel), List.mem_of_getElem? (i := 546) (by decide +kernel), List.mem_of_getElem? (i := 547) (by decide +kernel)⟩
theorem lw_p19 : lw_okq (⟨"SewnAhead", "firstChanged", "([I)I"⟩, 11) := ⟨⟨by decide +kernel, by decide +kernel⟩, List.mem_of_getElem? (i := 12) (by decide +kernel), List.mem_of_getElem? (i := 567) (by decide +kernel), List.mem_of_getElem? (i := 568) (by decide +kernel)⟩
theorem lw_p20 : lw_okq (⟨"SewnAhead", "keptCloths", "()I"⟩, 11) := ⟨⟨by decide +kernel, by decide +kernel⟩, List.mem_of_getElem? (i := 12) (by decide +kernel), List.mem_of_getElem? (i := 607) (by decide +kernel), List.mem_of_getElem? (i := 608) (by decide +kernel)⟩
theorem lw_p21 : lw_okq (⟨"SewnAheadModel", "found", "(I)I"⟩, 20) := ⟨⟨by decide +kernel, by decide +kernel⟩, List.mem_of_getElem? (i := 629) (by decide +kernel), List.mem_of_getElem? (i := 707) (by decide +kernel), List.mem_of_getElem? (i := 708) (by decide +kernel)⟩
theorem lw_p22 : lw_okq (⟨"SewnAheadModel", "anew", "(II)V"⟩, 20) := ⟨⟨by decide +kernel, by decide +kernel⟩, List.mem_of_getElem? (i := 629) (by decide +kernel), List.mem_of_getElem? (i := 711) (by decide +kernel), List.mem_of_getElem? (i := 712) (by decide +kernel)⟩
theorem lw_p23 : lw_okq (⟨"SewnAheadModel", "tells", "(II)I"⟩, 20) := ⟨⟨by decide +kernel, by decide +kernel⟩, List.mem_of_getElem? (i := 629) (by decide +kernel), List.mem_of_getElem? (i := 723) (by decide +kernel), List.mem_of_getElem? (i := 724) (by decide +kernel)⟩
theorem lw_p24 : lw_okq (⟨"SewnAheadModel", "faultOf", "(I)I"⟩, 20) := ⟨⟨by decide +kernel, by decide +kernel⟩, List.mem_of_getElem? (i := 629) (by decide +kernel), List.mem_of_getElem? (i := 759) (by decide +kernel), List.mem_of_getElem? (i := 760) (by decide +kernel)⟩
theorem lw_p25 : lw_okq (⟨"SewnAheadModel", "blanks", "(I)V"⟩, 20) := ⟨⟨by decide +kernel, by decide +kernel⟩, List.mem_of_getElem? (i := 629) (by decide +kernel), List.mem_of_getElem? (i := 763) (by decide +kernel), List.mem_of_getElem? (i := 764) (by decide +kernel)⟩
theorem lw_p26 : lw_okq (⟨"SewnAheadModel", "byteAt", "(II)I"⟩, 20) := ⟨⟨by decide +kernel, by decide +kernel⟩, List.mem_of_getElem? (i := 629) (by decide +kernel), List.mem_of_getElem? (i := 767) (by decide +kernel), List.mem_of_getElem? (i := 768) (by decide +kernel)⟩
theorem lw_p27 : lw_okq (⟨"SewnAheadModel", "takesYears", "(I)Z"⟩, 20) := ⟨⟨by decide +kernel, by decide +kernel⟩, List.mem_of_getElem? (i := 629) (by decide +kernel), List.mem_of_getElem? (i := 771) (by decide +kernel), List.mem_of_getElem? (i := 772) (by decide +kernel)⟩
theorem lw_p28 : lw_okq (⟨"SewnAheadModel", "isSign", "(I)Z"⟩, 20) := ⟨⟨by decide +kernel, by decide +kernel⟩, List.mem_of_getElem? (i := 629) (by decide +kernel), List.mem_of_getElem? (i := 775) (by decide +kernel), List.mem_of_getElem? (i := 776) (by decide +kernel)⟩
theorem lw_p29 : lw_okq (⟨"SewnAheadModel", "isScene", "(I)Z"⟩, 20) := ⟨⟨by decide +kernel, by decide +kernel⟩, List.mem_of_getElem? (i := 629) (by decide +kernel), List.mem_of_getElem? (i := 779) (by decide +kernel), List.mem_of_getElem? (i := 780) (by decide +kernel)⟩
theorem lw_p30 : lw_okq (⟨"SewnAheadModel", "takesLaw", "(I)Z"⟩, 20) := ⟨⟨by decide +kernel, by decide +kernel⟩, List.mem_of_getElem? (i := 629) (by decide +kernel), List.mem_of_getElem? (i := 785) (by decide +kernel), List.mem_of_getElem? (i := 786) (by decide +kernel)⟩
theorem lw_p31 : lw_okq (⟨"SewnAheadModel", "copyAll", "(III)V"⟩, 20) := ⟨⟨by decide +kernel, by decide +kernel⟩, List.mem_of_getElem? (i := 629) (by decide +kernel), List.mem_of_getElem? (i := 796) (by decide +kernel), List.mem_of_getElem? (i := 797) (by decide +kernel)⟩
def lw_privs_2 : List (MethodName × Nat) := [(⟨"SewnAhead$Plans", "fits", "(I)Z"⟩, 8), (⟨"SewnAhead", "tellFraction", "(JJ)V"⟩, 11), (⟨"SewnAhead", "refuseHistory", "(I)I"⟩, 11), (⟨"SewnAhead", "firstChanged", "([I)I"⟩, 11), (⟨"SewnAhead", "keptCloths", "()I"⟩, 11), (⟨"SewnAheadModel", "found", "(I)I"⟩, 20), (⟨"SewnAheadModel", "anew", "(II)V"⟩, 20), (⟨"SewnAheadModel", "tells", "(II)I"⟩, 20), (⟨"SewnAheadModel", "faultOf", "(I)I"⟩, 20), (⟨"SewnAheadModel", "blanks", "(I)V"⟩, 20), (⟨"SewnAheadModel", "byteAt", "(II)I"⟩, 20), (⟨"SewnAheadModel", "takesYears", "(I)Z"⟩, 20), (⟨"SewnAheadModel", "isSign", "(I)Z"⟩, 20), (⟨"SewnAheadModel", "isScene", "(I)Z"⟩, 20), (⟨"SewnAheadModel", "takesLaw", "(I)Z"⟩, 20), (⟨"SewnAheadModel", "copyAll", "(III)V"⟩, 20)]
theorem lw_r2 : ∀ q ∈ lw_privs_2, lw_okq q := List.forall_mem_cons.mpr ⟨lw_p16, List.forall_mem_cons.mpr ⟨lw_p17, List.forall_mem_cons.mpr ⟨lw_p18, List.forall_mem_cons.mpr ⟨lw_p19, List.forall_mem_cons.mpr ⟨lw_p20, List.forall_mem_cons.mpr ⟨lw_p21, List.forall_mem_cons.mpr ⟨lw_p22, List.forall_mem_cons.mpr ⟨lw_p23, List.forall_mem_cons.mpr ⟨lw_p24, List.forall_mem_cons.mpr ⟨lw_p25, List.forall_mem_cons.mpr ⟨lw_p26, List.forall_mem_cons.mpr ⟨lw_p27, List.forall_mem_cons.mpr ⟨lw_p28, List.forall_mem_cons.mpr ⟨lw_p29, List.forall_mem_cons.mpr ⟨lw_p30, List.forall_mem_cons.mpr ⟨lw_p31, fun _ h => absurd h List.not_mem_nil⟩⟩⟩⟩⟩⟩⟩⟩⟩⟩⟩⟩⟩⟩⟩⟩
theorem lw_p32 : lw_okq (⟨"SewnAheadModel", "isYear", "(I)Z"⟩, 20) := ⟨⟨by decide +kernel, by decide +kernel⟩, List.mem_of_getElem? (i := 629) (by decide +kernel), List.mem_of_getElem? (i := 804) (by decide +kernel), List.mem_of_getElem? (i := 805) (by decide +kernel)⟩
theorem lw_p33 : lw_okq (⟨"SewnAheadModel", "plays", "()V"⟩, 20) := ⟨⟨by decide +kernel, by decide +kernel⟩, List.mem_of_getElem? (i := 629) (by decide +kernel), List.mem_of_getElem? (i := 809) (by decide +kernel), List.mem_of_getElem? (i := 810) (by decide +kernel)⟩
theorem lw_p34 : lw_okq (⟨"SewnAheadModel", "holds", "(II)Z"⟩, 20) := ⟨⟨by decide +kernel, by decide +kernel⟩, List.mem_of_getElem? (i := 629) (by decide +kernel), List.mem_of_getElem? (i := 813) (by decide +kernel), List.mem_of_getElem? (i := 814) (by decide +kernel)⟩
theorem lw_p35 : lw_okq (⟨"SewnAheadModel", "happenedAhead", "(III)Z"⟩, 20) := ⟨⟨by decide +kernel, by decide +kernel⟩, List.mem_of_getElem? (i := 629) (by decide +kernel), List.mem_of_getElem? (i := 817) (by decide +kernel), List.mem_of_getElem? (i := 818) (by decide +kernel)⟩
theorem lw_p36 : lw_okq (⟨"SewnAheadModel", "yearTells", "(II)I"⟩, 20) := ⟨⟨by decide +kernel, by decide +kernel⟩, List.mem_of_getElem? (i := 629) (by decide +kernel), List.mem_of_getElem? (i := 821) (by decide +kernel), List.mem_of_getElem? (i := 822) (by decide +kernel)⟩
theorem lw_p37 : lw_okq (⟨"SewnAheadModel", "isLaw", "(I)Z"⟩, 20) := ⟨⟨by decide +kernel, by decide +kernel⟩, List.mem_of_getElem? (i := 629) (by decide +kernel), List.mem_of_getElem? (i := 829) (by decide +kernel), List.mem_of_getElem? (i := 830) (by decide +kernel)⟩
theorem lw_p38 : lw_okq (⟨"SewnAheadModel", "lawTells", "(II)I"⟩, 20) := ⟨⟨by decide +kernel, by decide +kernel⟩, List.mem_of_getElem? (i := 629) (by decide +kernel), List.mem_of_getElem? (i := 833) (by decide +kernel), List.mem_of_getElem? (i := 834) (by decide +kernel)⟩
theorem lw_p39 : lw_okq (⟨"SewnAheadModel", "isBroken", "(I)Z"⟩, 20) := ⟨⟨by decide +kernel, by decide +kernel⟩, List.mem_of_getElem? (i := 629) (by decide +kernel), List.mem_of_getElem? (i := 837) (by decide +kernel), List.mem_of_getElem? (i := 838) (by decide +kernel)⟩
theorem lw_p40 : lw_okq (⟨"SewnAheadModel", "yearsOf", "(I)I"⟩, 20) := ⟨⟨by decide +kernel, by decide +kernel⟩, List.mem_of_getElem? (i := 629) (by decide +kernel), List.mem_of_getElem? (i := 841) (by decide +kernel), List.mem_of_getElem? (i := 842) (by decide +kernel)⟩
theorem lw_p41 : lw_okq (⟨"SewnAheadModel", "yearsThat", "(I)I"⟩, 20) := ⟨⟨by decide +kernel, by decide +kernel⟩, List.mem_of_getElem? (i := 629) (by decide +kernel), List.mem_of_getElem? (i := 852) (by decide +kernel), List.mem_of_getElem? (i := 853) (by decide +kernel)⟩
theorem lw_p42 : lw_okq (⟨"SewnAheadModel", "minds", "()V"⟩, 20) := ⟨⟨by decide +kernel, by decide +kernel⟩, List.mem_of_getElem? (i := 629) (by decide +kernel), List.mem_of_getElem? (i := 868) (by decide +kernel), List.mem_of_getElem? (i := 869) (by decide +kernel)⟩
theorem lw_p43 : lw_okq (⟨"SewnAheadModel", "sews", "(II)V"⟩, 20) := ⟨⟨by decide +kernel, by decide +kernel⟩, List.mem_of_getElem? (i := 629) (by decide +kernel), List.mem_of_getElem? (i := 872) (by decide +kernel), List.mem_of_getElem? (i := 873) (by decide +kernel)⟩
theorem lw_p44 : lw_okq (⟨"SewnAheadModel", "brokenNow", "()I"⟩, 20) := ⟨⟨by decide +kernel, by decide +kernel⟩, List.mem_of_getElem? (i := 629) (by decide +kernel), List.mem_of_getElem? (i := 876) (by decide +kernel), List.mem_of_getElem? (i := 877) (by decide +kernel)⟩
theorem lw_p45 : lw_okq (⟨"SewnAheadModel", "lays", "()V"⟩, 20) := ⟨⟨by decide +kernel, by decide +kernel⟩, List.mem_of_getElem? (i := 629) (by decide +kernel), List.mem_of_getElem? (i := 915) (by decide +kernel), List.mem_of_getElem? (i := 916) (by decide +kernel)⟩
theorem lw_p46 : lw_okq (⟨"SewnAheadModel", "putsBack", "()V"⟩, 20) := ⟨⟨by decide +kernel, by decide +kernel⟩, List.mem_of_getElem? (i := 629) (by decide +kernel), List.mem_of_getElem? (i := 919) (by decide +kernel), List.mem_of_getElem? (i := 920) (by decide +kernel)⟩
theorem lw_p47 : lw_okq (⟨"SewnAheadModel", "fewest", "(II)I"⟩, 20) := ⟨⟨by decide +kernel, by decide +kernel⟩, List.mem_of_getElem? (i := 629) (by decide +kernel), List.mem_of_getElem? (i := 931) (by decide +kernel), List.mem_of_getElem? (i := 932) (by decide +kernel)⟩
def lw_privs_3 : List (MethodName × Nat) := [(⟨"SewnAheadModel", "isYear", "(I)Z"⟩, 20), (⟨"SewnAheadModel", "plays", "()V"⟩, 20), (⟨"SewnAheadModel", "holds", "(II)Z"⟩, 20), (⟨"SewnAheadModel", "happenedAhead", "(III)Z"⟩, 20), (⟨"SewnAheadModel", "yearTells", "(II)I"⟩, 20), (⟨"SewnAheadModel", "isLaw", "(I)Z"⟩, 20), (⟨"SewnAheadModel", "lawTells", "(II)I"⟩, 20), (⟨"SewnAheadModel", "isBroken", "(I)Z"⟩, 20), (⟨"SewnAheadModel", "yearsOf", "(I)I"⟩, 20), (⟨"SewnAheadModel", "yearsThat", "(I)I"⟩, 20), (⟨"SewnAheadModel", "minds", "()V"⟩, 20), (⟨"SewnAheadModel", "sews", "(II)V"⟩, 20), (⟨"SewnAheadModel", "brokenNow", "()I"⟩, 20), (⟨"SewnAheadModel", "lays", "()V"⟩, 20), (⟨"SewnAheadModel", "putsBack", "()V"⟩, 20), (⟨"SewnAheadModel", "fewest", "(II)I"⟩, 20)]
theorem lw_r3 : ∀ q ∈ lw_privs_3, lw_okq q := List.forall_mem_cons.mpr ⟨lw_p32, List.forall_mem_cons.mpr ⟨lw_p33, List.forall_mem_cons.mpr ⟨lw_p34, List.forall_mem_cons.mpr ⟨lw_p35, List.forall_mem_cons.mpr ⟨lw_p36, List.forall_mem_cons.mpr ⟨lw_p37, List.forall_mem_cons.mpr ⟨lw_p38, List.forall_mem_cons.mpr ⟨lw_p39, List.forall_mem_cons.mpr ⟨lw_p40, List.forall_mem_cons.mpr ⟨lw_p41, List.forall_mem_cons.mpr ⟨lw_p42, List.forall_mem_cons.mpr ⟨lw_p43, List.forall_mem_cons.mpr ⟨lw_p44, List.forall_mem_cons.mpr ⟨lw_p45, List.forall_mem_cons.mpr ⟨lw_p46, List.forall_mem_cons.mpr ⟨lw_p47, fun _ h => absurd h List.not_mem_nil⟩⟩⟩⟩⟩⟩⟩⟩⟩⟩⟩⟩⟩⟩⟩⟩
theorem lw_p48 : lw_okq (⟨"SewnAheadModel", "plans", "()I"⟩, 20) := ⟨⟨by decide +kernel, by decide +kernel⟩, List.mem_of_getElem? (i := 629) (by decide +kernel), List.mem_of_getElem? (i := 936) (by decide +kernel), List.mem_of_getElem? (i := 937) (by decide +kernel)⟩
theorem lw_p49 : lw_okq (⟨"SewnAheadModel", "does", "(I)I"⟩, 20) := ⟨⟨by decide +kernel, by decide +kernel⟩, List.mem_of_getElem? (i := 629) (by decide +kernel), List.mem_of_getElem? (i := 940) (by decide +kernel), List.mem_of_getElem? (i := 941) (by decide +kernel)⟩
theorem lw_p50 : lw_okq (⟨"SewnAheadModel", "canBe", "(II)Z"⟩, 20) := ⟨⟨by decide +kernel, by decide +kernel⟩, List.mem_of_getElem? (i := 629) (by decide +kernel), List.mem_of_getElem? (i := 944) (by decide +kernel), List.mem_of_getElem? (i := 945) (by decide +kernel)⟩
theorem lw_p51 : lw_okq (⟨"SewnAheadModel", "tellsPlan", "(II)V"⟩, 20) := ⟨⟨by decide +kernel, by decide +kernel⟩, List.mem_of_getElem? (i := 629) (by decide +kernel), List.mem_of_getElem? (i := 948) (by decide +kernel), List.mem_of_getElem? (i := 949) (by decide +kernel)⟩
theorem lw_p52 : lw_okq (⟨"SewnAheadModel", "happening", "()I"⟩, 20) := ⟨⟨by decide +kernel, by decide +kernel⟩, List.mem_of_getElem? (i := 629) (by decide +kernel), List.mem_of_getElem? (i := 965) (by decide +kernel), List.mem_of_getElem? (i := 966) (by decide +kernel)⟩
theorem lw_p53 : lw_okq (⟨"SewnAheadModel", "against", "(I)I"⟩, 20) := ⟨⟨by decide +kernel, by decide +kernel⟩, List.mem_of_getElem? (i := 629) (by decide +kernel), List.mem_of_getElem? (i := 973) (by decide +kernel), List.mem_of_getElem? (i := 974) (by decide +kernel)⟩
theorem lw_p54 : lw_okq (⟨"SewnAheadModel", "isSo", "(I)Z"⟩, 20) := ⟨⟨by decide +kernel, by decide +kernel⟩, List.mem_of_getElem? (i := 629) (by decide +kernel), List.mem_of_getElem? (i := 977) (by decide +kernel), List.mem_of_getElem? (i := 978) (by decide +kernel)⟩
theorem lw_p55 : lw_okq (⟨"SewnAheadModel", "chance", "(II)I"⟩, 20) := ⟨⟨by decide +kernel, by decide +kernel⟩, List.mem_of_getElem? (i := 629) (by decide +kernel), List.mem_of_getElem? (i := 997) (by decide +kernel), List.mem_of_getElem? (i := 998) (by decide +kernel)⟩
theorem lw_p56 : lw_okq (⟨"SewnAheadModel", "barsMany", "()I"⟩, 20) := ⟨⟨by decide +kernel, by decide +kernel⟩, List.mem_of_getElem? (i := 629) (by decide +kernel), List.mem_of_getElem? (i := 1026) (by decide +kernel), List.mem_of_getElem? (i := 1027) (by decide +kernel)⟩
theorem lw_p57 : lw_okq (⟨"SewnAheadModel", "mix", "(J)V"⟩, 20) := ⟨⟨by decide +kernel, by decide +kernel⟩, List.mem_of_getElem? (i := 629) (by decide +kernel), List.mem_of_getElem? (i := 1047) (by decide +kernel), List.mem_of_getElem? (i := 1048) (by decide +kernel)⟩
def lw_privs_4 : List (MethodName × Nat) := [(⟨"SewnAheadModel", "plans", "()I"⟩, 20), (⟨"SewnAheadModel", "does", "(I)I"⟩, 20), (⟨"SewnAheadModel", "canBe", "(II)Z"⟩, 20), (⟨"SewnAheadModel", "tellsPlan", "(II)V"⟩, 20), (⟨"SewnAheadModel", "happening", "()I"⟩, 20), (⟨"SewnAheadModel", "against", "(I)I"⟩, 20), (⟨"SewnAheadModel", "isSo", "(I)Z"⟩, 20), (⟨"SewnAheadModel", "chance", "(II)I"⟩, 20), (⟨"SewnAheadModel", "barsMany", "()I"⟩, 20), (⟨"SewnAheadModel", "mix", "(J)V"⟩, 20)]
theorem lw_r4 : ∀ q ∈ lw_privs_4, lw_okq q := List.forall_mem_cons.mpr ⟨lw_p48, List.forall_mem_cons.mpr ⟨lw_p49, List.forall_mem_cons.mpr ⟨lw_p50, List.forall_mem_cons.mpr ⟨lw_p51, List.forall_mem_cons.mpr ⟨lw_p52, List.forall_mem_cons.mpr ⟨lw_p53, List.forall_mem_cons.mpr ⟨lw_p54, List.forall_mem_cons.mpr ⟨lw_p55, List.forall_mem_cons.mpr ⟨lw_p56, List.forall_mem_cons.mpr ⟨lw_p57, fun _ h => absurd h List.not_mem_nil⟩⟩⟩⟩⟩⟩⟩⟩⟩⟩
def lw_privs : List (MethodName × Nat) := lw_privs_1 ++ (lw_privs_2 ++ (lw_privs_3 ++ (lw_privs_4)))
def lw_tbl : List Cond := k2_sels lw_privs ++ tables_1
theorem lw_privs_ok : ∀ q ∈ lw_privs, lw_okq q := by
  show ∀ q ∈ lw_privs_1 ++ (lw_privs_2 ++ (lw_privs_3 ++ (lw_privs_4))), lw_okq q
  exact List.forall_mem_append.mpr ⟨lw_r1, List.forall_mem_append.mpr ⟨lw_r2, List.forall_mem_append.mpr ⟨lw_r3, lw_r4⟩⟩⟩
-- ===== end of PART A; then your names; then what follows =====
/-! THE CLAIM OUT OF ONE WALK OF THE LAW'S BODY. Your part is whole_start (and what it stands on); all else here is the same for every law, but numbers. -/
def R_law : String := "SewnAheadLaw"
def lw_P (b : Addr) (xs : List Int32) (args : Array Value) (s : State) : Prop := args = #[.ref b] ∧ s.IntsAt b xs ∧ xs.length ≤ 384 ∧ (Jvm.Cond.and given_1 narrow_1).before args s = true
def lw_Q (_ : Array Value) (s : State) (o : Outcome) (t : State) : Prop := o = .returned (some (.int 1)) ∧ Framed s o t [] 600000 7302250
def lw_Z (below : List Frame) (a : Array Value) (s : State) : State → Prop := fun t => ∃ o, t.status = .running ∧ Ended t below o ∧ lw_Q a s o t
/-- the law's own end, with 1 on the stack, nothing written that was there before, its room as the claim has it -/
theorem lw_ret {p : Program} {l : Launch} {e : Env} {s : State} {m : MethodId} {below : List Frame} {meth : Method} {c : Code} {b : Nat} (hx : p.tables.exec = Jvm.exec) (hb : c.code = code) (hr : meth.sig.returnType = ret) (hlocks : meth.locks = false) {pc : Nat} {H : Heap} {ls : Array Slot} (hdg : decode code pc = .ok (.ireturn, 1)) : W p l e room_1 s m #[Value.ref b] below meth c H [] 600000 7302250 (lw_Z below #[Value.ref b] s) (F0 m pc ls [.int 1]) := by
  intro T hT X
  obtain ⟨fs, hret, hrun, hended, hW, hframe⟩ := X.leave (v := some (.int 1)) (hlocks := hlocks) (fun h => by rw [hr] at h; cases h)
  have hmeth' : T.vm.method? m = some meth := X.method'
  refine ⟨T.setFrames fs, ?_, .returned (some (.int 1)), hrun, hended, rfl, ⟨_, rfl⟩, hW, hframe⟩
  jvm_step X.here [X.here.top, hx, hb, hdg, hmeth', hr, ret, narrow_b1]
  (try refine ⟨rfl, ?_⟩); (try refine ⟨rfl, ?_⟩)
  first | (intro acts; rw [hret _ acts rfl rfl rfl]) | rw [hret _ _ rfl rfl rfl]
  exact Steps.refl _
/-- what holds at the law's entry: the machine, the code, the tables' words (any of lw_tbl by 'hts w (by decide +kernel)'), the script of L ints xs at the cell b, what the Statement gives of the start (any of its parts by flat_of_before) -/
def lw_At (p : Program) (s : State) (m : MethodId) (meth : Method) (c : Code) (b L : Nat) (xs : Nat → Int32) : Prop :=
  p.tables.exec = Jvm.exec ∧ c.code = code ∧ meth.sig.returnType = ret ∧ c.maxLocals = 4 ∧ s.vm.findClass R_law = some m.cls ∧ (∀ w ∈ lw_tbl, w.before #[Value.ref b] s = true) ∧ va_X b L xs s s.heap ∧ b < s.heap.size ∧ meth.locks = false ∧ (Jvm.Cond.and given_1 narrow_1).before #[Value.ref b] s = true
end
section
def am_big : List Cond := lw_tbl.filter goodWord
def am_R0 : String := "SewnAhead$Cloth"
def am_T0 : u_T := fun k => match k with
  | 0 => ("SewnAhead$Cloth", "years", "I", false)
  | 1 => ("SewnAhead$Cloth", "what", "[I", true)
  | 2 => ("SewnAhead$Cloth", "scene", "[I", true)
  | 3 => ("SewnAhead$Cloth", "laws", "I", false)
  | 4 => ("SewnAhead$Cloth", "kind", "[I", true)
  | 5 => ("SewnAhead$Cloth", "cause", "[I", true)
  | 6 => ("SewnAhead$Cloth", "end", "[I", true)
  | 7 => ("SewnAhead$Cloth", "stitches", "I", false)
  | 8 => ("SewnAhead$Cloth", "stitchYear", "[I", true)
  | 9 => ("SewnAhead$Cloth", "whatBefore", "[I", true)
  | 10 => ("SewnAhead$Cloth", "sceneBefore", "[I", true)
  | 11 => ("SewnAhead$Cloth", "happening", "[I", true)
  | _ => ("SewnAhead$Cloth", "maker", "[I", true)
def am_t0 : Nat → FieldType := fun k => match k with
  | 0 => .int
  | 1 => .array .int
  | 2 => .array .int
  | 3 => .int
  | 4 => .array .int
  | 5 => .array .int
  | 6 => .array .int
  | 7 => .int
  | 8 => .array .int
  | 9 => .array .int
  | 10 => .array .int
  | 11 => .array .int
  | _ => .array .int
theorem am_n0 : ∀ a, a < 13 → ∀ b, b < 13 → a ≠ b → (am_T0 a).2.1 ≠ (am_T0 b).2.1 := by decide +kernel
theorem am_ty0 : ∀ k, k < 13 → parseFieldDescriptor (am_T0 k).2.2.1 = some (am_t0 k) := by decide +kernel
theorem am_w0 : ∀ w ∈ u_ws am_R0 am_T0 13, w ∈ am_big := by decide +kernel
def am_R1 : String := "SewnAhead$Plans"
def am_T1 : u_T := fun k => match k with
  | 0 => ("SewnAhead$Plans", "tried", "LSewnAhead$Cloth;", true)
  | 1 => ("SewnAhead$Plans", "plan", "[I", true)
  | 2 => ("SewnAhead$Plans", "wanted", "[I", true)
  | 3 => ("SewnAhead$Plans", "mostStitches", "I", false)
  | 4 => ("SewnAhead$Plans", "wholeAlone", "Z", false)
  | 5 => ("SewnAhead$Plans", "plainAlone", "Z", false)
  | 6 => ("SewnAhead$Plans", "number", "I", false)
  | _ => ("SewnAhead$Plans", "first", "[I", true)
def am_t1 : Nat → FieldType := fun k => match k with
  | 0 => .object "SewnAhead$Cloth"
  | 1 => .array .int
  | 2 => .array .int
  | 3 => .int
  | 4 => .boolean
  | 5 => .boolean
  | 6 => .int
  | _ => .array .int
theorem am_n1 : ∀ a, a < 8 → ∀ b, b < 8 → a ≠ b → (am_T1 a).2.1 ≠ (am_T1 b).2.1 := by decide +kernel
theorem am_ty1 : ∀ k, k < 8 → parseFieldDescriptor (am_T1 k).2.2.1 = some (am_t1 k) := by decide +kernel
theorem am_w1 : ∀ w ∈ u_ws am_R1 am_T1 8, w ∈ am_big := by decide +kernel
def am_R2 : String := "SewnAhead$Row"
def am_T2 : u_T := fun k => match k with
  | 0 => ("SewnAhead$Row", "places", "[I", true)
  | _ => ("SewnAhead$Row", "size", "I", false)
def am_t2 : Nat → FieldType := fun k => match k with
  | 0 => .array .int
  | _ => .int
theorem am_n2 : ∀ a, a < 2 → ∀ b, b < 2 → a ≠ b → (am_T2 a).2.1 ≠ (am_T2 b).2.1 := by decide +kernel
theorem am_ty2 : ∀ k, k < 2 → parseFieldDescriptor (am_T2 k).2.2.1 = some (am_t2 k) := by decide +kernel
theorem am_w2 : ∀ w ∈ u_ws am_R2 am_T2 2, w ∈ am_big := by decide +kernel
def am_R3 : String := "SewnAhead"
def am_T3 : u_T := fun k => match k with
  | 0 => ("SewnAhead", "rows", "[LSewnAhead$Row;", true)
  | 1 => ("SewnAhead", "texts", "[LSewnAhead$Row;", true)
  | 2 => ("SewnAhead", "cloth", "LSewnAhead$Cloth;", true)
  | 3 => ("SewnAhead", "aside", "LSewnAhead$Cloth;", true)
  | 4 => ("SewnAhead", "kept", "[LSewnAhead$Cloth;", true)
  | 5 => ("SewnAhead", "plans", "LSewnAhead$Plans;", true)
  | 6 => ("SewnAhead", "found", "[I", true)
  | 7 => ("SewnAhead", "latestFound", "I", false)
  | 8 => ("SewnAhead", "told", "I", false)
  | 9 => ("SewnAhead", "upperTold", "J", false)
  | _ => ("SewnAhead", "lowerTold", "J", false)
def am_t3 : Nat → FieldType := fun k => match k with
  | 0 => .array (.object "SewnAhead$Row")
  | 1 => .array (.object "SewnAhead$Row")
  | 2 => .object "SewnAhead$Cloth"
  | 3 => .object "SewnAhead$Cloth"
  | 4 => .array (.object "SewnAhead$Cloth")
  | 5 => .object "SewnAhead$Plans"
  | 6 => .array .int
  | 7 => .int
  | 8 => .int
  | 9 => .long
  | _ => .long
theorem am_n3 : ∀ a, a < 11 → ∀ b, b < 11 → a ≠ b → (am_T3 a).2.1 ≠ (am_T3 b).2.1 := by decide +kernel
theorem am_ty3 : ∀ k, k < 11 → parseFieldDescriptor (am_T3 k).2.2.1 = some (am_t3 k) := by decide +kernel
theorem am_w3 : ∀ w ∈ u_ws am_R3 am_T3 11, w ∈ am_big := by decide +kernel
def am_R4 : String := "SewnAheadModel"
def am_T4 : u_T := fun k => match k with
  | 0 => ("SewnAheadModel", "w", "[I", true)
  | 1 => ("SewnAheadModel", "stitches", "I", false)
  | 2 => ("SewnAheadModel", "keptStitches", "[I", true)
  | 3 => ("SewnAheadModel", "rows", "[I", true)
  | 4 => ("SewnAheadModel", "rowSize", "[I", true)
  | 5 => ("SewnAheadModel", "texts", "[I", true)
  | 6 => ("SewnAheadModel", "textSize", "[I", true)
  | 7 => ("SewnAheadModel", "held", "[I", true)
  | 8 => ("SewnAheadModel", "finding", "I", false)
  | 9 => ("SewnAheadModel", "findings", "[I", true)
  | 10 => ("SewnAheadModel", "asked", "I", false)
  | 11 => ("SewnAheadModel", "upper", "J", false)
  | 12 => ("SewnAheadModel", "lower", "J", false)
  | 13 => ("SewnAheadModel", "position", "I", false)
  | 14 => ("SewnAheadModel", "what", "[I", true)
  | 15 => ("SewnAheadModel", "cause", "[I", true)
  | 16 => ("SewnAheadModel", "without", "I", false)
  | 17 => ("SewnAheadModel", "change", "[I", true)
  | 18 => ("SewnAheadModel", "bestPlan", "I", false)
  | _ => ("SewnAheadModel", "h", "J", false)
def am_t4 : Nat → FieldType := fun k => match k with
  | 0 => .array .int
  | 1 => .int
  | 2 => .array .int
  | 3 => .array .int
  | 4 => .array .int
  | 5 => .array .int
  | 6 => .array .int
  | 7 => .array .int
  | 8 => .int
  | 9 => .array .int
  | 10 => .int
  | 11 => .long
  | 12 => .long
  | 13 => .int
  | 14 => .array .int
  | 15 => .array .int
  | 16 => .int
  | 17 => .array .int
  | 18 => .int
  | _ => .long
theorem am_n4 : ∀ a, a < 20 → ∀ b, b < 20 → a ≠ b → (am_T4 a).2.1 ≠ (am_T4 b).2.1 := by decide +kernel
theorem am_ty4 : ∀ k, k < 20 → parseFieldDescriptor (am_T4 k).2.2.1 = some (am_t4 k) := by decide +kernel
theorem am_w4 : ∀ w ∈ u_ws am_R4 am_T4 20, w ∈ am_big := by decide +kernel
abbrev am_cl : List vw_C := [(am_R0, am_T0, 13), (am_R1, am_T1, 8), (am_R2, am_T2, 2), (am_R3, am_T3, 11), (am_R4, am_T4, 20)]
def am_ft : Nat → Nat → Nat := fun ci k => match ci with
  | 0 => ([0, 2, 2, 0, 2, 2, 2, 0, 2, 2, 2, 2, 2] : List Nat).getD k 0
  | 1 => ([2, 2, 2, 0, 3, 3, 0, 2] : List Nat).getD k 0
  | 2 => ([2, 0] : List Nat).getD k 0
  | 3 => ([2, 2, 2, 2, 2, 2, 2, 0, 0, 1, 1] : List Nat).getD k 0
  | _ => ([2, 0, 2, 2, 2, 2, 2, 2, 0, 2, 0, 1, 1, 0, 2, 2, 0, 2, 0, 1] : List Nat).getD k 0
abbrev k_S_init : Nat := 0
abbrev k_O_init : Nat := 1
abbrev k_C_init : Nat := 2
abbrev k_P_init : Nat := 3
abbrev k_R_init : Nat := 4
abbrev k_J_max : Nat := 5
abbrev k_S_row : Nat := 6
abbrev k_S_isRow : Nat := 7
abbrev k_S_refuse : Nat := 8
abbrev k_R_begin : Nat := 9
abbrev k_J_min : Nat := 10
abbrev k_J_fill : Nat := 11
abbrev k_S_lay : Nat := 12
abbrev k_S_refusePlace : Nat := 13
abbrev k_R_isMissing : Nat := 14
abbrev k_R_has : Nat := 15
abbrev k_S_at : Nat := 16
abbrev k_S_tear : Nat := 17
abbrev k_R_remove : Nat := 18
abbrev k_S_copy : Nat := 19
abbrev k_R_hasSpan : Nat := 20
abbrev k_S_mean : Nat := 21
abbrev k_S_text : Nat := 22
abbrev k_S_isText : Nat := 23
abbrev k_S_put : Nat := 24
abbrev k_S_fault : Nat := 25
abbrev k_D_read : Nat := 26
abbrev k_C_clear : Nat := 27
abbrev k_D_pastBlanks : Nat := 28
abbrev k_D_signAt : Nat := 29
abbrev k_D_isYearSign : Nat := 30
abbrev k_S_isScene : Nat := 31
abbrev k_C_addYear : Nat := 32
abbrev k_C_set : Nat := 33
abbrev k_D_readLaws : Nat := 34
abbrev k_D_kindOf : Nat := 35
abbrev k_C_addLaw : Nat := 36
abbrev k_S_cloth : Nat := 37
abbrev k_C_take : Nat := 38
abbrev k_C_settleFrom : Nat := 39
abbrev k_C_settle : Nat := 40
abbrev k_C_gapFor : Nat := 41
abbrev k_C_lawHoldingIn : Nat := 42
abbrev k_C_holds : Nat := 43
abbrev k_S_year : Nat := 44
abbrev k_S_isYear : Nat := 45
abbrev k_S_ofYear : Nat := 46
abbrev k_S_law : Nat := 47
abbrev k_S_isLaw : Nat := 48
abbrev k_S_ofLaw : Nat := 49
abbrev k_C_isBroken : Nat := 50
abbrev k_C_isBrokenIn : Nat := 51
abbrev k_C_isOfKind : Nat := 52
abbrev k_S_mark : Nat := 53
abbrev k_C_yearsWith : Nat := 54
abbrev k_J_bitCount : Nat := 55
abbrev k_C_yearsThatAre : Nat := 56
abbrev k_S_end : Nat := 57
abbrev k_S_sew : Nat := 58
abbrev k_S_stitched : Nat := 59
abbrev k_C_allows : Nat := 60
abbrev k_C_stitch : Nat := 61
abbrev k_C_change : Nat := 62
abbrev k_C_brokenLaws : Nat := 63
abbrev k_S_unpick : Nat := 64
abbrev k_S_undo : Nat := 65
abbrev k_C_unstitch : Nat := 66
abbrev k_S_keep : Nat := 67
abbrev k_S_isKeptPlace : Nat := 68
abbrev k_S_on : Nat := 69
abbrev k_S_happens : Nat := 70
abbrev k_S_by : Nat := 71
abbrev k_S_broken : Nat := 72
abbrev k_C_firstYearOf : Nat := 73
abbrev k_J_numberOfTrailingZeros : Nat := 74
abbrev k_S_can : Nat := 75
abbrev k_S_safe : Nat := 76
abbrev k_S_isWholeWhateverIsSewn : Nat := 77
abbrev k_S_least : Nat := 78
abbrev k_P_begin : Nat := 79
abbrev k_P_want : Nat := 80
abbrev k_S_fewestInto : Nat := 81
abbrev k_P_seek : Nat := 82
abbrev k_P_goOn : Nat := 83
abbrev k_P_add : Nat := 84
abbrev k_P_isAllowed : Nat := 85
abbrev k_P_fits : Nat := 86
abbrev k_S_happeningBit : Nat := 87
abbrev k_C_isAnyBrokenIn : Nat := 88
abbrev k_S_ways : Nat := 89
abbrev k_S_tellFraction : Nat := 90
abbrev k_S_commonDivisor : Nat := 91
abbrev k_S_avert : Nat := 92
abbrev k_S_judge : Nat := 93
abbrev k_C_yearsWithSomething : Nat := 94
abbrev k_S_was : Nat := 95
abbrev k_S_refuseHistory : Nat := 96
abbrev k_C_happensAs : Nat := 97
abbrev k_S_kinds : Nat := 98
abbrev k_S_needed : Nat := 99
abbrev k_S_forged : Nat := 100
abbrev k_S_firstChanged : Nat := 101
abbrev k_S_odds : Nat := 102
abbrev k_S_lots : Nat := 103
abbrev k_S_asked : Nat := 104
abbrev k_S_upper : Nat := 105
abbrev k_S_lower : Nat := 106
abbrev k_S_count : Nat := 107
abbrev k_C_lawsOfKind : Nat := 108
abbrev k_S_thatAreThere : Nat := 109
abbrev k_S_keptCloths : Nat := 110
abbrev k_S_finding : Nat := 111
abbrev k_S_findings : Nat := 112
abbrev k_S_digest : Nat := 113
abbrev k_S_foldRows : Nat := 114
abbrev k_M_init : Nat := 115
abbrev k_M_row : Nat := 116
abbrev k_M_isRow : Nat := 117
abbrev k_M_in : Nat := 118
abbrev k_M_found : Nat := 119
abbrev k_M_anew : Nat := 120
abbrev k_M_lay : Nat := 121
abbrev k_M_at : Nat := 122
abbrev k_M_tells : Nat := 123
abbrev k_M_tear : Nat := 124
abbrev k_M_copy : Nat := 125
abbrev k_M_fits : Nat := 126
abbrev k_M_mean : Nat := 127
abbrev k_M_text : Nat := 128
abbrev k_M_isText : Nat := 129
abbrev k_M_put : Nat := 130
abbrev k_M_fault : Nat := 131
abbrev k_M_faultOf : Nat := 132
abbrev k_M_blanks : Nat := 133
abbrev k_M_byteAt : Nat := 134
abbrev k_M_takesYears : Nat := 135
abbrev k_M_isSign : Nat := 136
abbrev k_M_isScene : Nat := 137
abbrev k_M_takesLaw : Nat := 138
abbrev k_M_kindOf : Nat := 139
abbrev k_M_cloth : Nat := 140
abbrev k_M_copyAll : Nat := 141
abbrev k_M_year : Nat := 142
abbrev k_M_isYear : Nat := 143
abbrev k_M_plays : Nat := 144
abbrev k_M_holds : Nat := 145
abbrev k_M_happenedAhead : Nat := 146
abbrev k_M_yearTells : Nat := 147
abbrev k_M_law : Nat := 148
abbrev k_M_isLaw : Nat := 149
abbrev k_M_lawTells : Nat := 150
abbrev k_M_isBroken : Nat := 151
abbrev k_M_yearsOf : Nat := 152
abbrev k_M_ones : Nat := 153
abbrev k_M_mark : Nat := 154
abbrev k_M_yearsThat : Nat := 155
abbrev k_M_end : Nat := 156
abbrev k_M_isTold : Nat := 157
abbrev k_M_sew : Nat := 158
abbrev k_M_minds : Nat := 159
abbrev k_M_sews : Nat := 160
abbrev k_M_brokenNow : Nat := 161
abbrev k_M_unpick : Nat := 162
abbrev k_M_undo : Nat := 163
abbrev k_M_keep : Nat := 164
abbrev k_M_on : Nat := 165
abbrev k_M_happens : Nat := 166
abbrev k_M_by : Nat := 167
abbrev k_M_broken : Nat := 168
abbrev k_M_has : Nat := 169
abbrev k_M_can : Nat := 170
abbrev k_M_lays : Nat := 171
abbrev k_M_putsBack : Nat := 172
abbrev k_M_safe : Nat := 173
abbrev k_M_least : Nat := 174
abbrev k_M_fewest : Nat := 175
abbrev k_M_plans : Nat := 176
abbrev k_M_does : Nat := 177
abbrev k_M_canBe : Nat := 178
abbrev k_M_tellsPlan : Nat := 179
abbrev k_M_ways : Nat := 180
abbrev k_M_avert : Nat := 181
abbrev k_M_judge : Nat := 182
abbrev k_M_happening : Nat := 183
abbrev k_M_was : Nat := 184
abbrev k_M_against : Nat := 185
abbrev k_M_isSo : Nat := 186
abbrev k_M_kinds : Nat := 187
abbrev k_M_needed : Nat := 188
abbrev k_M_forged : Nat := 189
abbrev k_M_odds : Nat := 190
abbrev k_M_chance : Nat := 191
abbrev k_M_lots : Nat := 192
abbrev k_M_asked : Nat := 193
abbrev k_M_upper : Nat := 194
abbrev k_M_lower : Nat := 195
abbrev k_M_count : Nat := 196
abbrev k_M_barsMany : Nat := 197
abbrev k_M_thereOf : Nat := 198
abbrev k_M_finding : Nat := 199
abbrev k_M_findings : Nat := 200
abbrev k_M_digest : Nat := 201
abbrev k_M_mix : Nat := 202
abbrev k_L_law : Nat := 203
abbrev am_Q : Type := MethodName × ByteArray × Nat × Option FieldType
def am_mt_0 : List am_Q := [
  (⟨"SewnAhead", "<init>", "()V"⟩, prog_1_method_1_code, 2, none),
  (⟨"java/lang/Object", "<init>", "()V"⟩, object_method_1_code, 1, none),
  (⟨"SewnAhead$Cloth", "<init>", "()V"⟩, prog_2_method_1_code, 1, none),
  (⟨"SewnAhead$Plans", "<init>", "()V"⟩, prog_3_method_1_code, 1, none),
  (⟨"SewnAhead$Row", "<init>", "(I)V"⟩, prog_5_method_1_code, 2, none),
  (⟨"java/lang/Math", "max", "(II)I"⟩, prog_9_method_65_code, 2, (some .int)),
  (⟨"SewnAhead", "row", "(II)I"⟩, prog_1_method_2_code, 3, (some .int)),
  (⟨"SewnAhead", "isRow", "(I)Z"⟩, prog_1_method_43_code, 1, (some .boolean)),
  (⟨"SewnAhead", "refuse", "(I)I"⟩, prog_1_method_49_code, 2, (some .int)),
  (⟨"SewnAhead$Row", "begin", "(II)V"⟩, prog_5_method_5_code, 3, none),
  (⟨"java/lang/Math", "min", "(II)I"⟩, prog_9_method_69_code, 2, (some .int)),
  (⟨"java/util/Arrays", "fill", "([II)V"⟩, prog_11_method_103_code, 4, none),
  (⟨"SewnAhead", "lay", "(III)I"⟩, prog_1_method_3_code, 5, (some .int)),
  (⟨"SewnAhead", "refusePlace", "(LSewnAhead$Row;I)I"⟩, prog_1_method_50_code, 3, (some .int)),
  (⟨"SewnAhead$Row", "isMissing", "()Z"⟩, prog_5_method_2_code, 1, (some .boolean)),
  (⟨"SewnAhead$Row", "has", "(I)Z"⟩, prog_5_method_3_code, 2, (some .boolean))]
def am_mt_1 : List am_Q := [
  (⟨"SewnAhead", "at", "(II)I"⟩, prog_1_method_4_code, 4, (some .int)),
  (⟨"SewnAhead", "tear", "(I)I"⟩, prog_1_method_5_code, 2, (some .int)),
  (⟨"SewnAhead$Row", "remove", "()V"⟩, prog_5_method_6_code, 1, none),
  (⟨"SewnAhead", "copy", "(IIIII)I"⟩, prog_1_method_6_code, 6, (some .int)),
  (⟨"SewnAhead$Row", "hasSpan", "(II)Z"⟩, prog_5_method_4_code, 3, (some .boolean)),
  (⟨"SewnAhead", "mean", "(I)I"⟩, prog_1_method_7_code, 6, (some .int)),
  (⟨"SewnAhead", "text", "(II)I"⟩, prog_1_method_8_code, 3, (some .int)),
  (⟨"SewnAhead", "isText", "(I)Z"⟩, prog_1_method_44_code, 1, (some .boolean)),
  (⟨"SewnAhead", "put", "(III)I"⟩, prog_1_method_9_code, 6, (some .int)),
  (⟨"SewnAhead", "fault", "(I)I"⟩, prog_1_method_10_code, 2, (some .int)),
  (⟨"SewnAhead$Reader", "read", "(LSewnAhead$Row;LSewnAhead$Cloth;)I"⟩, prog_4_method_2_code, 5, (some .int)),
  (⟨"SewnAhead$Cloth", "clear", "()V"⟩, prog_2_method_2_code, 1, none),
  (⟨"SewnAhead$Reader", "pastBlanks", "(LSewnAhead$Row;I)I"⟩, prog_4_method_4_code, 3, (some .int)),
  (⟨"SewnAhead$Reader", "signAt", "(LSewnAhead$Row;I)I"⟩, prog_4_method_5_code, 2, (some .int)),
  (⟨"SewnAhead$Reader", "isYearSign", "(I)Z"⟩, prog_4_method_6_code, 1, (some .boolean)),
  (⟨"SewnAhead", "isScene", "(I)Z"⟩, prog_1_method_46_code, 1, (some .boolean))]
def am_mt_2 : List am_Q := [
  (⟨"SewnAhead$Cloth", "addYear", "(I)V"⟩, prog_2_method_4_code, 2, none),
  (⟨"SewnAhead$Cloth", "set", "(III)V"⟩, prog_2_method_6_code, 4, none),
  (⟨"SewnAhead$Reader", "readLaws", "(LSewnAhead$Row;ILSewnAhead$Cloth;)I"⟩, prog_4_method_3_code, 8, (some .int)),
  (⟨"SewnAhead$Reader", "kindOf", "(I)I"⟩, prog_4_method_7_code, 2, (some .int)),
  (⟨"SewnAhead$Cloth", "addLaw", "(III)V"⟩, prog_2_method_5_code, 4, none),
  (⟨"SewnAhead", "cloth", "(I)I"⟩, prog_1_method_11_code, 3, (some .int)),
  (⟨"SewnAhead$Cloth", "take", "(LSewnAhead$Cloth;)V"⟩, prog_2_method_3_code, 2, none),
  (⟨"SewnAhead$Cloth", "settleFrom", "(I)V"⟩, prog_2_method_11_code, 3, none),
  (⟨"SewnAhead$Cloth", "settle", "(I)V"⟩, prog_2_method_12_code, 3, none),
  (⟨"SewnAhead$Cloth", "gapFor", "(I)I"⟩, prog_2_method_13_code, 3, (some .int)),
  (⟨"SewnAhead$Cloth", "lawHoldingIn", "(I)I"⟩, prog_2_method_14_code, 3, (some .int)),
  (⟨"SewnAhead$Cloth", "holds", "(II)Z"⟩, prog_2_method_15_code, 5, (some .boolean)),
  (⟨"SewnAhead", "year", "(II)I"⟩, prog_1_method_12_code, 3, (some .int)),
  (⟨"SewnAhead", "isYear", "(I)Z"⟩, prog_1_method_47_code, 2, (some .boolean)),
  (⟨"SewnAhead", "ofYear", "(II)I"⟩, prog_1_method_53_code, 3, (some .int)),
  (⟨"SewnAhead", "law", "(II)I"⟩, prog_1_method_13_code, 3, (some .int))]
def am_mt_3 : List am_Q := [
  (⟨"SewnAhead", "isLaw", "(I)Z"⟩, prog_1_method_48_code, 2, (some .boolean)),
  (⟨"SewnAhead", "ofLaw", "(II)I"⟩, prog_1_method_54_code, 3, (some .int)),
  (⟨"SewnAhead$Cloth", "isBroken", "(I)Z"⟩, prog_2_method_23_code, 3, (some .boolean)),
  (⟨"SewnAhead$Cloth", "isBrokenIn", "(II)Z"⟩, prog_2_method_22_code, 4, (some .boolean)),
  (⟨"SewnAhead$Cloth", "isOfKind", "(II)Z"⟩, prog_2_method_20_code, 3, (some .boolean)),
  (⟨"SewnAhead", "mark", "(II)I"⟩, prog_1_method_14_code, 5, (some .int)),
  (⟨"SewnAhead$Cloth", "yearsWith", "(I)I"⟩, prog_2_method_17_code, 4, (some .int)),
  (⟨"java/lang/Integer", "bitCount", "(I)I"⟩, prog_8_method_49_code, 1, (some .int)),
  (⟨"SewnAhead$Cloth", "yearsThatAre", "(I)I"⟩, prog_2_method_19_code, 4, (some .int)),
  (⟨"SewnAhead", "end", "(II)I"⟩, prog_1_method_15_code, 4, (some .int)),
  (⟨"SewnAhead", "sew", "(II)I"⟩, prog_1_method_16_code, 3, (some .int)),
  (⟨"SewnAhead", "stitched", "(II)I"⟩, prog_1_method_52_code, 3, (some .int)),
  (⟨"SewnAhead$Cloth", "allows", "(II)Z"⟩, prog_2_method_7_code, 3, (some .boolean)),
  (⟨"SewnAhead$Cloth", "stitch", "(II)V"⟩, prog_2_method_9_code, 3, none),
  (⟨"SewnAhead$Cloth", "change", "(II)V"⟩, prog_2_method_8_code, 3, none),
  (⟨"SewnAhead$Cloth", "brokenLaws", "()I"⟩, prog_2_method_25_code, 3, (some .int))]
def am_mt_4 : List am_Q := [
  (⟨"SewnAhead", "unpick", "(I)I"⟩, prog_1_method_17_code, 2, (some .int)),
  (⟨"SewnAhead", "undo", "(I)I"⟩, prog_1_method_18_code, 3, (some .int)),
  (⟨"SewnAhead$Cloth", "unstitch", "(I)V"⟩, prog_2_method_10_code, 3, none),
  (⟨"SewnAhead", "keep", "(I)I"⟩, prog_1_method_19_code, 2, (some .int)),
  (⟨"SewnAhead", "isKeptPlace", "(I)Z"⟩, prog_1_method_45_code, 1, (some .boolean)),
  (⟨"SewnAhead", "on", "(I)I"⟩, prog_1_method_20_code, 2, (some .int)),
  (⟨"SewnAhead", "happens", "(I)I"⟩, prog_1_method_21_code, 2, (some .int)),
  (⟨"SewnAhead", "by", "(I)I"⟩, prog_1_method_22_code, 2, (some .int)),
  (⟨"SewnAhead", "broken", "()I"⟩, prog_1_method_23_code, 2, (some .int)),
  (⟨"SewnAhead$Cloth", "firstYearOf", "(I)I"⟩, prog_2_method_26_code, 4, (some .int)),
  (⟨"java/lang/Integer", "numberOfTrailingZeros", "(I)I"⟩, prog_8_method_48_code, 2, (some .int)),
  (⟨"SewnAhead", "can", "(I)I"⟩, prog_1_method_24_code, 4, (some .int)),
  (⟨"SewnAhead", "safe", "(I)I"⟩, prog_1_method_25_code, 4, (some .int)),
  (⟨"SewnAhead", "isWholeWhateverIsSewn", "(I)Z"⟩, prog_1_method_55_code, 3, (some .boolean)),
  (⟨"SewnAhead", "least", "(III)I"⟩, prog_1_method_26_code, 4, (some .int)),
  (⟨"SewnAhead$Plans", "begin", "(ZZ)V"⟩, prog_3_method_2_code, 3, none)]
def am_mt_5 : List am_Q := [
  (⟨"SewnAhead$Plans", "want", "(II)V"⟩, prog_3_method_3_code, 3, none),
  (⟨"SewnAhead", "fewestInto", "(I)I"⟩, prog_1_method_56_code, 3, (some .int)),
  (⟨"SewnAhead$Plans", "seek", "(LSewnAhead$Cloth;I)I"⟩, prog_3_method_4_code, 3, (some .int)),
  (⟨"SewnAhead$Plans", "goOn", "(II)V"⟩, prog_3_method_5_code, 7, none),
  (⟨"SewnAhead$Plans", "add", "()V"⟩, prog_3_method_8_code, 1, none),
  (⟨"SewnAhead$Plans", "isAllowed", "(II)Z"⟩, prog_3_method_6_code, 3, (some .boolean)),
  (⟨"SewnAhead$Plans", "fits", "(I)Z"⟩, prog_3_method_7_code, 2, (some .boolean)),
  (⟨"SewnAhead", "happeningBit", "(I)I"⟩, prog_1_method_58_code, 1, (some .int)),
  (⟨"SewnAhead$Cloth", "isAnyBrokenIn", "(I)Z"⟩, prog_2_method_24_code, 3, (some .boolean)),
  (⟨"SewnAhead", "ways", "(III)I"⟩, prog_1_method_27_code, 4, (some .int)),
  (⟨"SewnAhead", "tellFraction", "(JJ)V"⟩, prog_1_method_59_code, 7, none),
  (⟨"SewnAhead", "commonDivisor", "(JJ)J"⟩, prog_1_method_60_code, 7, (some .long)),
  (⟨"SewnAhead", "avert", "(II)I"⟩, prog_1_method_28_code, 4, (some .int)),
  (⟨"SewnAhead", "judge", "(I)I"⟩, prog_1_method_29_code, 4, (some .int)),
  (⟨"SewnAhead$Cloth", "yearsWithSomething", "()I"⟩, prog_2_method_18_code, 1, (some .int)),
  (⟨"SewnAhead", "was", "(II)I"⟩, prog_1_method_30_code, 6, (some .int))]
def am_mt_6 : List am_Q := [
  (⟨"SewnAhead", "refuseHistory", "(I)I"⟩, prog_1_method_51_code, 5, (some .int)),
  (⟨"SewnAhead$Cloth", "happensAs", "([I)Z"⟩, prog_2_method_16_code, 3, (some .boolean)),
  (⟨"SewnAhead", "kinds", "(II)I"⟩, prog_1_method_31_code, 6, (some .int)),
  (⟨"SewnAhead", "needed", "()I"⟩, prog_1_method_32_code, 3, (some .int)),
  (⟨"SewnAhead", "forged", "(I)I"⟩, prog_1_method_33_code, 4, (some .int)),
  (⟨"SewnAhead", "firstChanged", "([I)I"⟩, prog_1_method_57_code, 3, (some .int)),
  (⟨"SewnAhead", "odds", "(II)I"⟩, prog_1_method_34_code, 7, (some .int)),
  (⟨"SewnAhead", "lots", "(II)I"⟩, prog_1_method_35_code, 7, (some .int)),
  (⟨"SewnAhead", "asked", "()I"⟩, prog_1_method_36_code, 1, (some .int)),
  (⟨"SewnAhead", "upper", "()J"⟩, prog_1_method_37_code, 1, (some .long)),
  (⟨"SewnAhead", "lower", "()J"⟩, prog_1_method_38_code, 1, (some .long)),
  (⟨"SewnAhead", "count", "(I)I"⟩, prog_1_method_39_code, 2, (some .int)),
  (⟨"SewnAhead$Cloth", "lawsOfKind", "(I)I"⟩, prog_2_method_21_code, 4, (some .int)),
  (⟨"SewnAhead", "thatAreThere", "([LSewnAhead$Row;)I"⟩, prog_1_method_61_code, 3, (some .int)),
  (⟨"SewnAhead", "keptCloths", "()I"⟩, prog_1_method_62_code, 3, (some .int)),
  (⟨"SewnAhead", "finding", "()I"⟩, prog_1_method_40_code, 1, (some .int))]
def am_mt_7 : List am_Q := [
  (⟨"SewnAhead", "findings", "(I)I"⟩, prog_1_method_41_code, 2, (some .int)),
  (⟨"SewnAhead", "digest", "()J"⟩, prog_1_method_42_code, 5, (some .long)),
  (⟨"SewnAhead", "foldRows", "(J[LSewnAhead$Row;)J"⟩, prog_1_method_63_code, 6, (some .long)),
  (⟨"SewnAheadModel", "<init>", "()V"⟩, prog_7_method_1_code, 2, none),
  (⟨"SewnAheadModel", "row", "(II)I"⟩, prog_7_method_12_code, 3, (some .int)),
  (⟨"SewnAheadModel", "isRow", "(I)Z"⟩, prog_7_method_9_code, 1, (some .boolean)),
  (⟨"SewnAheadModel", "in", "(JJJ)Z"⟩, prog_7_method_3_code, 6, (some .boolean)),
  (⟨"SewnAheadModel", "found", "(I)I"⟩, prog_7_method_6_code, 2, (some .int)),
  (⟨"SewnAheadModel", "anew", "(II)V"⟩, prog_7_method_11_code, 4, none),
  (⟨"SewnAheadModel", "lay", "(III)I"⟩, prog_7_method_13_code, 5, (some .int)),
  (⟨"SewnAheadModel", "at", "(II)I"⟩, prog_7_method_14_code, 3, (some .int)),
  (⟨"SewnAheadModel", "tells", "(II)I"⟩, prog_7_method_7_code, 3, (some .int)),
  (⟨"SewnAheadModel", "tear", "(I)I"⟩, prog_7_method_15_code, 2, (some .int)),
  (⟨"SewnAheadModel", "copy", "(IIIII)I"⟩, prog_7_method_17_code, 7, (some .int)),
  (⟨"SewnAheadModel", "fits", "(III)Z"⟩, prog_7_method_16_code, 3, (some .boolean)),
  (⟨"SewnAheadModel", "mean", "(I)I"⟩, prog_7_method_18_code, 5, (some .int))]
def am_mt_8 : List am_Q := [
  (⟨"SewnAheadModel", "text", "(II)I"⟩, prog_7_method_19_code, 4, (some .int)),
  (⟨"SewnAheadModel", "isText", "(I)Z"⟩, prog_7_method_10_code, 1, (some .boolean)),
  (⟨"SewnAheadModel", "put", "(III)I"⟩, prog_7_method_20_code, 5, (some .int)),
  (⟨"SewnAheadModel", "fault", "(I)I"⟩, prog_7_method_29_code, 2, (some .int)),
  (⟨"SewnAheadModel", "faultOf", "(I)I"⟩, prog_7_method_28_code, 3, (some .int)),
  (⟨"SewnAheadModel", "blanks", "(I)V"⟩, prog_7_method_23_code, 2, none),
  (⟨"SewnAheadModel", "byteAt", "(II)I"⟩, prog_7_method_22_code, 3, (some .int)),
  (⟨"SewnAheadModel", "takesYears", "(I)Z"⟩, prog_7_method_26_code, 4, (some .boolean)),
  (⟨"SewnAheadModel", "isSign", "(I)Z"⟩, prog_7_method_25_code, 2, (some .boolean)),
  (⟨"SewnAheadModel", "isScene", "(I)Z"⟩, prog_7_method_24_code, 2, (some .boolean)),
  (⟨"SewnAheadModel", "takesLaw", "(I)Z"⟩, prog_7_method_27_code, 5, (some .boolean)),
  (⟨"SewnAheadModel", "kindOf", "(I)I"⟩, prog_7_method_21_code, 1, (some .int)),
  (⟨"SewnAheadModel", "cloth", "(I)I"⟩, prog_7_method_30_code, 3, (some .int)),
  (⟨"SewnAheadModel", "copyAll", "(III)V"⟩, prog_7_method_8_code, 5, none),
  (⟨"SewnAheadModel", "year", "(II)I"⟩, prog_7_method_42_code, 3, (some .int)),
  (⟨"SewnAheadModel", "isYear", "(I)Z"⟩, prog_7_method_31_code, 2, (some .boolean))]
def am_mt_9 : List am_Q := [
  (⟨"SewnAheadModel", "plays", "()V"⟩, prog_7_method_36_code, 6, none),
  (⟨"SewnAheadModel", "holds", "(II)Z"⟩, prog_7_method_35_code, 4, (some .boolean)),
  (⟨"SewnAheadModel", "happenedAhead", "(III)Z"⟩, prog_7_method_34_code, 4, (some .boolean)),
  (⟨"SewnAheadModel", "yearTells", "(II)I"⟩, prog_7_method_41_code, 3, (some .int)),
  (⟨"SewnAheadModel", "law", "(II)I"⟩, prog_7_method_44_code, 3, (some .int)),
  (⟨"SewnAheadModel", "isLaw", "(I)Z"⟩, prog_7_method_32_code, 2, (some .boolean)),
  (⟨"SewnAheadModel", "lawTells", "(II)I"⟩, prog_7_method_43_code, 3, (some .int)),
  (⟨"SewnAheadModel", "isBroken", "(I)Z"⟩, prog_7_method_38_code, 5, (some .boolean)),
  (⟨"SewnAheadModel", "yearsOf", "(I)I"⟩, prog_7_method_37_code, 4, (some .int)),
  (⟨"SewnAheadModel", "ones", "(I)I"⟩, prog_7_method_5_code, 3, (some .int)),
  (⟨"SewnAheadModel", "mark", "(II)I"⟩, prog_7_method_46_code, 6, (some .int)),
  (⟨"SewnAheadModel", "yearsThat", "(I)I"⟩, prog_7_method_45_code, 4, (some .int)),
  (⟨"SewnAheadModel", "end", "(II)I"⟩, prog_7_method_47_code, 4, (some .int)),
  (⟨"SewnAheadModel", "isTold", "(I)Z"⟩, prog_7_method_33_code, 1, (some .boolean)),
  (⟨"SewnAheadModel", "sew", "(II)I"⟩, prog_7_method_50_code, 3, (some .int)),
  (⟨"SewnAheadModel", "minds", "()V"⟩, prog_7_method_48_code, 1, none)]
def am_mt_10 : List am_Q := [
  (⟨"SewnAheadModel", "sews", "(II)V"⟩, prog_7_method_49_code, 3, none),
  (⟨"SewnAheadModel", "brokenNow", "()I"⟩, prog_7_method_39_code, 3, (some .int)),
  (⟨"SewnAheadModel", "unpick", "(I)I"⟩, prog_7_method_51_code, 2, (some .int)),
  (⟨"SewnAheadModel", "undo", "(I)I"⟩, prog_7_method_52_code, 3, (some .int)),
  (⟨"SewnAheadModel", "keep", "(I)I"⟩, prog_7_method_53_code, 2, (some .int)),
  (⟨"SewnAheadModel", "on", "(I)I"⟩, prog_7_method_54_code, 2, (some .int)),
  (⟨"SewnAheadModel", "happens", "(I)I"⟩, prog_7_method_55_code, 2, (some .int)),
  (⟨"SewnAheadModel", "by", "(I)I"⟩, prog_7_method_56_code, 2, (some .int)),
  (⟨"SewnAheadModel", "broken", "()I"⟩, prog_7_method_57_code, 5, (some .int)),
  (⟨"SewnAheadModel", "has", "(II)Z"⟩, prog_7_method_4_code, 2, (some .boolean)),
  (⟨"SewnAheadModel", "can", "(I)I"⟩, prog_7_method_60_code, 4, (some .int)),
  (⟨"SewnAheadModel", "lays", "()V"⟩, prog_7_method_58_code, 1, none),
  (⟨"SewnAheadModel", "putsBack", "()V"⟩, prog_7_method_59_code, 1, none),
  (⟨"SewnAheadModel", "safe", "(I)I"⟩, prog_7_method_61_code, 6, (some .int)),
  (⟨"SewnAheadModel", "least", "(III)I"⟩, prog_7_method_67_code, 5, (some .int)),
  (⟨"SewnAheadModel", "fewest", "(II)I"⟩, prog_7_method_66_code, 8, (some .int))]
def am_mt_11 : List am_Q := [
  (⟨"SewnAheadModel", "plans", "()I"⟩, prog_7_method_62_code, 3, (some .int)),
  (⟨"SewnAheadModel", "does", "(I)I"⟩, prog_7_method_64_code, 6, (some .int)),
  (⟨"SewnAheadModel", "canBe", "(II)Z"⟩, prog_7_method_63_code, 3, (some .boolean)),
  (⟨"SewnAheadModel", "tellsPlan", "(II)V"⟩, prog_7_method_65_code, 5, none),
  (⟨"SewnAheadModel", "ways", "(III)I"⟩, prog_7_method_68_code, 9, (some .int)),
  (⟨"SewnAheadModel", "avert", "(II)I"⟩, prog_7_method_69_code, 4, (some .int)),
  (⟨"SewnAheadModel", "judge", "(I)I"⟩, prog_7_method_70_code, 6, (some .int)),
  (⟨"SewnAheadModel", "happening", "()I"⟩, prog_7_method_40_code, 3, (some .int)),
  (⟨"SewnAheadModel", "was", "(II)I"⟩, prog_7_method_73_code, 7, (some .int)),
  (⟨"SewnAheadModel", "against", "(I)I"⟩, prog_7_method_71_code, 4, (some .int)),
  (⟨"SewnAheadModel", "isSo", "(I)Z"⟩, prog_7_method_72_code, 4, (some .boolean)),
  (⟨"SewnAheadModel", "kinds", "(II)I"⟩, prog_7_method_74_code, 7, (some .int)),
  (⟨"SewnAheadModel", "needed", "()I"⟩, prog_7_method_75_code, 4, (some .int)),
  (⟨"SewnAheadModel", "forged", "(I)I"⟩, prog_7_method_76_code, 9, (some .int)),
  (⟨"SewnAheadModel", "odds", "(II)I"⟩, prog_7_method_78_code, 9, (some .int)),
  (⟨"SewnAheadModel", "chance", "(II)I"⟩, prog_7_method_77_code, 6, (some .int))]
def am_mt_12 : List am_Q := [
  (⟨"SewnAheadModel", "lots", "(II)I"⟩, prog_7_method_79_code, 7, (some .int)),
  (⟨"SewnAheadModel", "asked", "()I"⟩, prog_7_method_80_code, 1, (some .int)),
  (⟨"SewnAheadModel", "upper", "()J"⟩, prog_7_method_81_code, 1, (some .long)),
  (⟨"SewnAheadModel", "lower", "()J"⟩, prog_7_method_82_code, 1, (some .long)),
  (⟨"SewnAheadModel", "count", "(I)I"⟩, prog_7_method_85_code, 2, (some .int)),
  (⟨"SewnAheadModel", "barsMany", "()I"⟩, prog_7_method_83_code, 3, (some .int)),
  (⟨"SewnAheadModel", "thereOf", "([II)I"⟩, prog_7_method_84_code, 4, (some .int)),
  (⟨"SewnAheadModel", "finding", "()I"⟩, prog_7_method_86_code, 1, (some .int)),
  (⟨"SewnAheadModel", "findings", "(I)I"⟩, prog_7_method_87_code, 2, (some .int)),
  (⟨"SewnAheadModel", "digest", "()J"⟩, prog_7_method_89_code, 3, (some .long)),
  (⟨"SewnAheadModel", "mix", "(J)V"⟩, prog_7_method_88_code, 3, none)]
def am_mt0 : List am_Q := am_mt_0 ++ (am_mt_1 ++ (am_mt_2 ++ (am_mt_3 ++ (am_mt_4 ++ (am_mt_5 ++ (am_mt_6 ++ (am_mt_7 ++ (am_mt_8 ++ (am_mt_9 ++ (am_mt_10 ++ (am_mt_11 ++ (am_mt_12))))))))))))
def am_mt : List am_Q := am_mt0 ++ [(⟨"SewnAheadLaw", "law", "([I)Z"⟩, code, 4, (some .boolean))]
def am_ck (q : am_Q) : Prop := Cond.code q.1 q.2.1 q.2.2.1 q.2.2.2 ∈ am_big
theorem am_ck_of {q : am_Q} (p : Nat) (h : tables_1[p]? = some (Cond.code q.1 q.2.1 q.2.2.1 q.2.2.2)) : am_ck q := List.mem_filter.mpr ⟨List.mem_append_right _ (List.mem_of_getElem? h), rfl⟩
theorem am_cd_0 : am_ck (⟨"SewnAhead", "<init>", "()V"⟩, prog_1_method_1_code, 2, none) := am_ck_of 15 (by decide +kernel)
theorem am_cd_1 : am_ck (⟨"java/lang/Object", "<init>", "()V"⟩, object_method_1_code, 1, none) := am_ck_of 18 (by decide +kernel)
theorem am_cd_2 : am_ck (⟨"SewnAhead$Cloth", "<init>", "()V"⟩, prog_2_method_1_code, 1, none) := am_ck_of 25 (by decide +kernel)
theorem am_cd_3 : am_ck (⟨"SewnAhead$Plans", "<init>", "()V"⟩, prog_3_method_1_code, 1, none) := am_ck_of 88 (by decide +kernel)
theorem am_cd_4 : am_ck (⟨"SewnAhead$Row", "<init>", "(I)V"⟩, prog_5_method_1_code, 2, none) := am_ck_of 121 (by decide +kernel)
theorem am_cd_5 : am_ck (⟨"java/lang/Math", "max", "(II)I"⟩, prog_9_method_65_code, 2, (some .int)) := am_ck_of 125 (by decide +kernel)
theorem am_cd_6 : am_ck (⟨"SewnAhead", "row", "(II)I"⟩, prog_1_method_2_code, 3, (some .int)) := am_ck_of 174 (by decide +kernel)
theorem am_cd_7 : am_ck (⟨"SewnAhead", "isRow", "(I)Z"⟩, prog_1_method_43_code, 1, (some .boolean)) := am_ck_of 177 (by decide +kernel)
theorem am_cd_8 : am_ck (⟨"SewnAhead", "refuse", "(I)I"⟩, prog_1_method_49_code, 2, (some .int)) := am_ck_of 181 (by decide +kernel)
theorem am_cd_9 : am_ck (⟨"SewnAhead$Row", "begin", "(II)V"⟩, prog_5_method_5_code, 3, none) := am_ck_of 185 (by decide +kernel)
theorem am_cd_10 : am_ck (⟨"java/lang/Math", "min", "(II)I"⟩, prog_9_method_69_code, 2, (some .int)) := am_ck_of 188 (by decide +kernel)
theorem am_cd_11 : am_ck (⟨"java/util/Arrays", "fill", "([II)V"⟩, prog_11_method_103_code, 4, none) := am_ck_of 191 (by decide +kernel)
theorem am_cd_12 : am_ck (⟨"SewnAhead", "lay", "(III)I"⟩, prog_1_method_3_code, 5, (some .int)) := am_ck_of 195 (by decide +kernel)
theorem am_cd_13 : am_ck (⟨"SewnAhead", "refusePlace", "(LSewnAhead$Row;I)I"⟩, prog_1_method_50_code, 3, (some .int)) := am_ck_of 199 (by decide +kernel)
theorem am_cd_14 : am_ck (⟨"SewnAhead$Row", "isMissing", "()Z"⟩, prog_5_method_2_code, 1, (some .boolean)) := am_ck_of 203 (by decide +kernel)
theorem am_cd_15 : am_ck (⟨"SewnAhead$Row", "has", "(I)Z"⟩, prog_5_method_3_code, 2, (some .boolean)) := am_ck_of 207 (by decide +kernel)
theorem am_cd_16 : am_ck (⟨"SewnAhead", "at", "(II)I"⟩, prog_1_method_4_code, 4, (some .int)) := am_ck_of 211 (by decide +kernel)
theorem am_cd_17 : am_ck (⟨"SewnAhead", "tear", "(I)I"⟩, prog_1_method_5_code, 2, (some .int)) := am_ck_of 215 (by decide +kernel)
theorem am_cd_18 : am_ck (⟨"SewnAhead$Row", "remove", "()V"⟩, prog_5_method_6_code, 1, none) := am_ck_of 219 (by decide +kernel)
theorem am_cd_19 : am_ck (⟨"SewnAhead", "copy", "(IIIII)I"⟩, prog_1_method_6_code, 6, (some .int)) := am_ck_of 223 (by decide +kernel)
theorem am_cd_20 : am_ck (⟨"SewnAhead$Row", "hasSpan", "(II)Z"⟩, prog_5_method_4_code, 3, (some .boolean)) := am_ck_of 227 (by decide +kernel)
theorem am_cd_21 : am_ck (⟨"SewnAhead", "mean", "(I)I"⟩, prog_1_method_7_code, 6, (some .int)) := am_ck_of 234 (by decide +kernel)
theorem am_cd_22 : am_ck (⟨"SewnAhead", "text", "(II)I"⟩, prog_1_method_8_code, 3, (some .int)) := am_ck_of 238 (by decide +kernel)
theorem am_cd_23 : am_ck (⟨"SewnAhead", "isText", "(I)Z"⟩, prog_1_method_44_code, 1, (some .boolean)) := am_ck_of 241 (by decide +kernel)
theorem am_cd_24 : am_ck (⟨"SewnAhead", "put", "(III)I"⟩, prog_1_method_9_code, 6, (some .int)) := am_ck_of 245 (by decide +kernel)
theorem am_cd_25 : am_ck (⟨"SewnAhead", "fault", "(I)I"⟩, prog_1_method_10_code, 2, (some .int)) := am_ck_of 249 (by decide +kernel)
theorem am_cd_26 : am_ck (⟨"SewnAhead$Reader", "read", "(LSewnAhead$Row;LSewnAhead$Cloth;)I"⟩, prog_4_method_2_code, 5, (some .int)) := am_ck_of 252 (by decide +kernel)
theorem am_cd_27 : am_ck (⟨"SewnAhead$Cloth", "clear", "()V"⟩, prog_2_method_2_code, 1, none) := am_ck_of 256 (by decide +kernel)
theorem am_cd_28 : am_ck (⟨"SewnAhead$Reader", "pastBlanks", "(LSewnAhead$Row;I)I"⟩, prog_4_method_4_code, 3, (some .int)) := am_ck_of 259 (by decide +kernel)
theorem am_cd_29 : am_ck (⟨"SewnAhead$Reader", "signAt", "(LSewnAhead$Row;I)I"⟩, prog_4_method_5_code, 2, (some .int)) := am_ck_of 262 (by decide +kernel)
theorem am_cd_30 : am_ck (⟨"SewnAhead$Reader", "isYearSign", "(I)Z"⟩, prog_4_method_6_code, 1, (some .boolean)) := am_ck_of 266 (by decide +kernel)
theorem am_cd_31 : am_ck (⟨"SewnAhead", "isScene", "(I)Z"⟩, prog_1_method_46_code, 1, (some .boolean)) := am_ck_of 269 (by decide +kernel)
theorem am_cd_32 : am_ck (⟨"SewnAhead$Cloth", "addYear", "(I)V"⟩, prog_2_method_4_code, 2, none) := am_ck_of 273 (by decide +kernel)
theorem am_cd_33 : am_ck (⟨"SewnAhead$Cloth", "set", "(III)V"⟩, prog_2_method_6_code, 4, none) := am_ck_of 277 (by decide +kernel)
theorem am_cd_34 : am_ck (⟨"SewnAhead$Reader", "readLaws", "(LSewnAhead$Row;ILSewnAhead$Cloth;)I"⟩, prog_4_method_3_code, 8, (some .int)) := am_ck_of 280 (by decide +kernel)
theorem am_cd_35 : am_ck (⟨"SewnAhead$Reader", "kindOf", "(I)I"⟩, prog_4_method_7_code, 2, (some .int)) := am_ck_of 283 (by decide +kernel)
theorem am_cd_36 : am_ck (⟨"SewnAhead$Cloth", "addLaw", "(III)V"⟩, prog_2_method_5_code, 4, none) := am_ck_of 289 (by decide +kernel)
theorem am_cd_37 : am_ck (⟨"SewnAhead", "cloth", "(I)I"⟩, prog_1_method_11_code, 3, (some .int)) := am_ck_of 293 (by decide +kernel)
theorem am_cd_38 : am_ck (⟨"SewnAhead$Cloth", "take", "(LSewnAhead$Cloth;)V"⟩, prog_2_method_3_code, 2, none) := am_ck_of 297 (by decide +kernel)
theorem am_cd_39 : am_ck (⟨"SewnAhead$Cloth", "settleFrom", "(I)V"⟩, prog_2_method_11_code, 3, none) := am_ck_of 302 (by decide +kernel)
theorem am_cd_40 : am_ck (⟨"SewnAhead$Cloth", "settle", "(I)V"⟩, prog_2_method_12_code, 3, none) := am_ck_of 306 (by decide +kernel)
theorem am_cd_41 : am_ck (⟨"SewnAhead$Cloth", "gapFor", "(I)I"⟩, prog_2_method_13_code, 3, (some .int)) := am_ck_of 310 (by decide +kernel)
theorem am_cd_42 : am_ck (⟨"SewnAhead$Cloth", "lawHoldingIn", "(I)I"⟩, prog_2_method_14_code, 3, (some .int)) := am_ck_of 314 (by decide +kernel)
theorem am_cd_43 : am_ck (⟨"SewnAhead$Cloth", "holds", "(II)Z"⟩, prog_2_method_15_code, 5, (some .boolean)) := am_ck_of 318 (by decide +kernel)
theorem am_cd_44 : am_ck (⟨"SewnAhead", "year", "(II)I"⟩, prog_1_method_12_code, 3, (some .int)) := am_ck_of 323 (by decide +kernel)
theorem am_cd_45 : am_ck (⟨"SewnAhead", "isYear", "(I)Z"⟩, prog_1_method_47_code, 2, (some .boolean)) := am_ck_of 327 (by decide +kernel)
theorem am_cd_46 : am_ck (⟨"SewnAhead", "ofYear", "(II)I"⟩, prog_1_method_53_code, 3, (some .int)) := am_ck_of 331 (by decide +kernel)
theorem am_cd_47 : am_ck (⟨"SewnAhead", "law", "(II)I"⟩, prog_1_method_13_code, 3, (some .int)) := am_ck_of 335 (by decide +kernel)
theorem am_cd_48 : am_ck (⟨"SewnAhead", "isLaw", "(I)Z"⟩, prog_1_method_48_code, 2, (some .boolean)) := am_ck_of 339 (by decide +kernel)
theorem am_cd_49 : am_ck (⟨"SewnAhead", "ofLaw", "(II)I"⟩, prog_1_method_54_code, 3, (some .int)) := am_ck_of 343 (by decide +kernel)
theorem am_cd_50 : am_ck (⟨"SewnAhead$Cloth", "isBroken", "(I)Z"⟩, prog_2_method_23_code, 3, (some .boolean)) := am_ck_of 347 (by decide +kernel)
theorem am_cd_51 : am_ck (⟨"SewnAhead$Cloth", "isBrokenIn", "(II)Z"⟩, prog_2_method_22_code, 4, (some .boolean)) := am_ck_of 351 (by decide +kernel)
theorem am_cd_52 : am_ck (⟨"SewnAhead$Cloth", "isOfKind", "(II)Z"⟩, prog_2_method_20_code, 3, (some .boolean)) := am_ck_of 355 (by decide +kernel)
theorem am_cd_53 : am_ck (⟨"SewnAhead", "mark", "(II)I"⟩, prog_1_method_14_code, 5, (some .int)) := am_ck_of 362 (by decide +kernel)
theorem am_cd_54 : am_ck (⟨"SewnAhead$Cloth", "yearsWith", "(I)I"⟩, prog_2_method_17_code, 4, (some .int)) := am_ck_of 367 (by decide +kernel)
theorem am_cd_55 : am_ck (⟨"java/lang/Integer", "bitCount", "(I)I"⟩, prog_8_method_49_code, 1, (some .int)) := am_ck_of 370 (by decide +kernel)
theorem am_cd_56 : am_ck (⟨"SewnAhead$Cloth", "yearsThatAre", "(I)I"⟩, prog_2_method_19_code, 4, (some .int)) := am_ck_of 377 (by decide +kernel)
theorem am_cd_57 : am_ck (⟨"SewnAhead", "end", "(II)I"⟩, prog_1_method_15_code, 4, (some .int)) := am_ck_of 381 (by decide +kernel)
theorem am_cd_58 : am_ck (⟨"SewnAhead", "sew", "(II)I"⟩, prog_1_method_16_code, 3, (some .int)) := am_ck_of 386 (by decide +kernel)
theorem am_cd_59 : am_ck (⟨"SewnAhead", "stitched", "(II)I"⟩, prog_1_method_52_code, 3, (some .int)) := am_ck_of 390 (by decide +kernel)
theorem am_cd_60 : am_ck (⟨"SewnAhead$Cloth", "allows", "(II)Z"⟩, prog_2_method_7_code, 3, (some .boolean)) := am_ck_of 394 (by decide +kernel)
theorem am_cd_61 : am_ck (⟨"SewnAhead$Cloth", "stitch", "(II)V"⟩, prog_2_method_9_code, 3, none) := am_ck_of 399 (by decide +kernel)
theorem am_cd_62 : am_ck (⟨"SewnAhead$Cloth", "change", "(II)V"⟩, prog_2_method_8_code, 3, none) := am_ck_of 403 (by decide +kernel)
theorem am_cd_63 : am_ck (⟨"SewnAhead$Cloth", "brokenLaws", "()I"⟩, prog_2_method_25_code, 3, (some .int)) := am_ck_of 408 (by decide +kernel)
theorem am_cd_64 : am_ck (⟨"SewnAhead", "unpick", "(I)I"⟩, prog_1_method_17_code, 2, (some .int)) := am_ck_of 413 (by decide +kernel)
theorem am_cd_65 : am_ck (⟨"SewnAhead", "undo", "(I)I"⟩, prog_1_method_18_code, 3, (some .int)) := am_ck_of 417 (by decide +kernel)
theorem am_cd_66 : am_ck (⟨"SewnAhead$Cloth", "unstitch", "(I)V"⟩, prog_2_method_10_code, 3, none) := am_ck_of 421 (by decide +kernel)
theorem am_cd_67 : am_ck (⟨"SewnAhead", "keep", "(I)I"⟩, prog_1_method_19_code, 2, (some .int)) := am_ck_of 425 (by decide +kernel)
theorem am_cd_68 : am_ck (⟨"SewnAhead", "isKeptPlace", "(I)Z"⟩, prog_1_method_45_code, 1, (some .boolean)) := am_ck_of 428 (by decide +kernel)
theorem am_cd_69 : am_ck (⟨"SewnAhead", "on", "(I)I"⟩, prog_1_method_20_code, 2, (some .int)) := am_ck_of 432 (by decide +kernel)
theorem am_cd_70 : am_ck (⟨"SewnAhead", "happens", "(I)I"⟩, prog_1_method_21_code, 2, (some .int)) := am_ck_of 436 (by decide +kernel)
theorem am_cd_71 : am_ck (⟨"SewnAhead", "by", "(I)I"⟩, prog_1_method_22_code, 2, (some .int)) := am_ck_of 440 (by decide +kernel)
theorem am_cd_72 : am_ck (⟨"SewnAhead", "broken", "()I"⟩, prog_1_method_23_code, 2, (some .int)) := am_ck_of 444 (by decide +kernel)
theorem am_cd_73 : am_ck (⟨"SewnAhead$Cloth", "firstYearOf", "(I)I"⟩, prog_2_method_26_code, 4, (some .int)) := am_ck_of 448 (by decide +kernel)
theorem am_cd_74 : am_ck (⟨"java/lang/Integer", "numberOfTrailingZeros", "(I)I"⟩, prog_8_method_48_code, 2, (some .int)) := am_ck_of 452 (by decide +kernel)
theorem am_cd_75 : am_ck (⟨"SewnAhead", "can", "(I)I"⟩, prog_1_method_24_code, 4, (some .int)) := am_ck_of 457 (by decide +kernel)
theorem am_cd_76 : am_ck (⟨"SewnAhead", "safe", "(I)I"⟩, prog_1_method_25_code, 4, (some .int)) := am_ck_of 462 (by decide +kernel)
theorem am_cd_77 : am_ck (⟨"SewnAhead", "isWholeWhateverIsSewn", "(I)Z"⟩, prog_1_method_55_code, 3, (some .boolean)) := am_ck_of 466 (by decide +kernel)
theorem am_cd_78 : am_ck (⟨"SewnAhead", "least", "(III)I"⟩, prog_1_method_26_code, 4, (some .int)) := am_ck_of 470 (by decide +kernel)
theorem am_cd_79 : am_ck (⟨"SewnAhead$Plans", "begin", "(ZZ)V"⟩, prog_3_method_2_code, 3, none) := am_ck_of 474 (by decide +kernel)
theorem am_cd_80 : am_ck (⟨"SewnAhead$Plans", "want", "(II)V"⟩, prog_3_method_3_code, 3, none) := am_ck_of 479 (by decide +kernel)
theorem am_cd_81 : am_ck (⟨"SewnAhead", "fewestInto", "(I)I"⟩, prog_1_method_56_code, 3, (some .int)) := am_ck_of 483 (by decide +kernel)
theorem am_cd_82 : am_ck (⟨"SewnAhead$Plans", "seek", "(LSewnAhead$Cloth;I)I"⟩, prog_3_method_4_code, 3, (some .int)) := am_ck_of 487 (by decide +kernel)
theorem am_cd_83 : am_ck (⟨"SewnAhead$Plans", "goOn", "(II)V"⟩, prog_3_method_5_code, 7, none) := am_ck_of 492 (by decide +kernel)
theorem am_cd_84 : am_ck (⟨"SewnAhead$Plans", "add", "()V"⟩, prog_3_method_8_code, 1, none) := am_ck_of 496 (by decide +kernel)
theorem am_cd_85 : am_ck (⟨"SewnAhead$Plans", "isAllowed", "(II)Z"⟩, prog_3_method_6_code, 3, (some .boolean)) := am_ck_of 501 (by decide +kernel)
theorem am_cd_86 : am_ck (⟨"SewnAhead$Plans", "fits", "(I)Z"⟩, prog_3_method_7_code, 2, (some .boolean)) := am_ck_of 508 (by decide +kernel)
theorem am_cd_87 : am_ck (⟨"SewnAhead", "happeningBit", "(I)I"⟩, prog_1_method_58_code, 1, (some .int)) := am_ck_of 511 (by decide +kernel)
theorem am_cd_88 : am_ck (⟨"SewnAhead$Cloth", "isAnyBrokenIn", "(I)Z"⟩, prog_2_method_24_code, 3, (some .boolean)) := am_ck_of 515 (by decide +kernel)
theorem am_cd_89 : am_ck (⟨"SewnAhead", "ways", "(III)I"⟩, prog_1_method_27_code, 4, (some .int)) := am_ck_of 520 (by decide +kernel)
theorem am_cd_90 : am_ck (⟨"SewnAhead", "tellFraction", "(JJ)V"⟩, prog_1_method_59_code, 7, none) := am_ck_of 524 (by decide +kernel)
theorem am_cd_91 : am_ck (⟨"SewnAhead", "commonDivisor", "(JJ)J"⟩, prog_1_method_60_code, 7, (some .long)) := am_ck_of 527 (by decide +kernel)
theorem am_cd_92 : am_ck (⟨"SewnAhead", "avert", "(II)I"⟩, prog_1_method_28_code, 4, (some .int)) := am_ck_of 531 (by decide +kernel)
theorem am_cd_93 : am_ck (⟨"SewnAhead", "judge", "(I)I"⟩, prog_1_method_29_code, 4, (some .int)) := am_ck_of 535 (by decide +kernel)
theorem am_cd_94 : am_ck (⟨"SewnAhead$Cloth", "yearsWithSomething", "()I"⟩, prog_2_method_18_code, 1, (some .int)) := am_ck_of 540 (by decide +kernel)
theorem am_cd_95 : am_ck (⟨"SewnAhead", "was", "(II)I"⟩, prog_1_method_30_code, 6, (some .int)) := am_ck_of 544 (by decide +kernel)
theorem am_cd_96 : am_ck (⟨"SewnAhead", "refuseHistory", "(I)I"⟩, prog_1_method_51_code, 5, (some .int)) := am_ck_of 548 (by decide +kernel)
theorem am_cd_97 : am_ck (⟨"SewnAhead$Cloth", "happensAs", "([I)Z"⟩, prog_2_method_16_code, 3, (some .boolean)) := am_ck_of 552 (by decide +kernel)
theorem am_cd_98 : am_ck (⟨"SewnAhead", "kinds", "(II)I"⟩, prog_1_method_31_code, 6, (some .int)) := am_ck_of 556 (by decide +kernel)
theorem am_cd_99 : am_ck (⟨"SewnAhead", "needed", "()I"⟩, prog_1_method_32_code, 3, (some .int)) := am_ck_of 560 (by decide +kernel)
theorem am_cd_100 : am_ck (⟨"SewnAhead", "forged", "(I)I"⟩, prog_1_method_33_code, 4, (some .int)) := am_ck_of 564 (by decide +kernel)
theorem am_cd_101 : am_ck (⟨"SewnAhead", "firstChanged", "([I)I"⟩, prog_1_method_57_code, 3, (some .int)) := am_ck_of 569 (by decide +kernel)
theorem am_cd_102 : am_ck (⟨"SewnAhead", "odds", "(II)I"⟩, prog_1_method_34_code, 7, (some .int)) := am_ck_of 573 (by decide +kernel)
theorem am_cd_103 : am_ck (⟨"SewnAhead", "lots", "(II)I"⟩, prog_1_method_35_code, 7, (some .int)) := am_ck_of 578 (by decide +kernel)
theorem am_cd_104 : am_ck (⟨"SewnAhead", "asked", "()I"⟩, prog_1_method_36_code, 1, (some .int)) := am_ck_of 586 (by decide +kernel)
theorem am_cd_105 : am_ck (⟨"SewnAhead", "upper", "()J"⟩, prog_1_method_37_code, 1, (some .long)) := am_ck_of 590 (by decide +kernel)
theorem am_cd_106 : am_ck (⟨"SewnAhead", "lower", "()J"⟩, prog_1_method_38_code, 1, (some .long)) := am_ck_of 594 (by decide +kernel)
theorem am_cd_107 : am_ck (⟨"SewnAhead", "count", "(I)I"⟩, prog_1_method_39_code, 2, (some .int)) := am_ck_of 598 (by decide +kernel)
theorem am_cd_108 : am_ck (⟨"SewnAhead$Cloth", "lawsOfKind", "(I)I"⟩, prog_2_method_21_code, 4, (some .int)) := am_ck_of 602 (by decide +kernel)
theorem am_cd_109 : am_ck (⟨"SewnAhead", "thatAreThere", "([LSewnAhead$Row;)I"⟩, prog_1_method_61_code, 3, (some .int)) := am_ck_of 605 (by decide +kernel)
theorem am_cd_110 : am_ck (⟨"SewnAhead", "keptCloths", "()I"⟩, prog_1_method_62_code, 3, (some .int)) := am_ck_of 609 (by decide +kernel)
theorem am_cd_111 : am_ck (⟨"SewnAhead", "finding", "()I"⟩, prog_1_method_40_code, 1, (some .int)) := am_ck_of 613 (by decide +kernel)
theorem am_cd_112 : am_ck (⟨"SewnAhead", "findings", "(I)I"⟩, prog_1_method_41_code, 2, (some .int)) := am_ck_of 617 (by decide +kernel)
theorem am_cd_113 : am_ck (⟨"SewnAhead", "digest", "()J"⟩, prog_1_method_42_code, 5, (some .long)) := am_ck_of 621 (by decide +kernel)
theorem am_cd_114 : am_ck (⟨"SewnAhead", "foldRows", "(J[LSewnAhead$Row;)J"⟩, prog_1_method_63_code, 6, (some .long)) := am_ck_of 627 (by decide +kernel)
theorem am_cd_115 : am_ck (⟨"SewnAheadModel", "<init>", "()V"⟩, prog_7_method_1_code, 2, none) := am_ck_of 632 (by decide +kernel)
theorem am_cd_116 : am_ck (⟨"SewnAheadModel", "row", "(II)I"⟩, prog_7_method_12_code, 3, (some .int)) := am_ck_of 698 (by decide +kernel)
theorem am_cd_117 : am_ck (⟨"SewnAheadModel", "isRow", "(I)Z"⟩, prog_7_method_9_code, 1, (some .boolean)) := am_ck_of 701 (by decide +kernel)
theorem am_cd_118 : am_ck (⟨"SewnAheadModel", "in", "(JJJ)Z"⟩, prog_7_method_3_code, 6, (some .boolean)) := am_ck_of 705 (by decide +kernel)
theorem am_cd_119 : am_ck (⟨"SewnAheadModel", "found", "(I)I"⟩, prog_7_method_6_code, 2, (some .int)) := am_ck_of 709 (by decide +kernel)
theorem am_cd_120 : am_ck (⟨"SewnAheadModel", "anew", "(II)V"⟩, prog_7_method_11_code, 4, none) := am_ck_of 713 (by decide +kernel)
theorem am_cd_121 : am_ck (⟨"SewnAheadModel", "lay", "(III)I"⟩, prog_7_method_13_code, 5, (some .int)) := am_ck_of 717 (by decide +kernel)
theorem am_cd_122 : am_ck (⟨"SewnAheadModel", "at", "(II)I"⟩, prog_7_method_14_code, 3, (some .int)) := am_ck_of 721 (by decide +kernel)
theorem am_cd_123 : am_ck (⟨"SewnAheadModel", "tells", "(II)I"⟩, prog_7_method_7_code, 3, (some .int)) := am_ck_of 725 (by decide +kernel)
theorem am_cd_124 : am_ck (⟨"SewnAheadModel", "tear", "(I)I"⟩, prog_7_method_15_code, 2, (some .int)) := am_ck_of 730 (by decide +kernel)
theorem am_cd_125 : am_ck (⟨"SewnAheadModel", "copy", "(IIIII)I"⟩, prog_7_method_17_code, 7, (some .int)) := am_ck_of 734 (by decide +kernel)
theorem am_cd_126 : am_ck (⟨"SewnAheadModel", "fits", "(III)Z"⟩, prog_7_method_16_code, 3, (some .boolean)) := am_ck_of 737 (by decide +kernel)
theorem am_cd_127 : am_ck (⟨"SewnAheadModel", "mean", "(I)I"⟩, prog_7_method_18_code, 5, (some .int)) := am_ck_of 741 (by decide +kernel)
theorem am_cd_128 : am_ck (⟨"SewnAheadModel", "text", "(II)I"⟩, prog_7_method_19_code, 4, (some .int)) := am_ck_of 745 (by decide +kernel)
theorem am_cd_129 : am_ck (⟨"SewnAheadModel", "isText", "(I)Z"⟩, prog_7_method_10_code, 1, (some .boolean)) := am_ck_of 748 (by decide +kernel)
theorem am_cd_130 : am_ck (⟨"SewnAheadModel", "put", "(III)I"⟩, prog_7_method_20_code, 5, (some .int)) := am_ck_of 753 (by decide +kernel)
theorem am_cd_131 : am_ck (⟨"SewnAheadModel", "fault", "(I)I"⟩, prog_7_method_29_code, 2, (some .int)) := am_ck_of 757 (by decide +kernel)
theorem am_cd_132 : am_ck (⟨"SewnAheadModel", "faultOf", "(I)I"⟩, prog_7_method_28_code, 3, (some .int)) := am_ck_of 761 (by decide +kernel)
theorem am_cd_133 : am_ck (⟨"SewnAheadModel", "blanks", "(I)V"⟩, prog_7_method_23_code, 2, none) := am_ck_of 765 (by decide +kernel)
theorem am_cd_134 : am_ck (⟨"SewnAheadModel", "byteAt", "(II)I"⟩, prog_7_method_22_code, 3, (some .int)) := am_ck_of 769 (by decide +kernel)
theorem am_cd_135 : am_ck (⟨"SewnAheadModel", "takesYears", "(I)Z"⟩, prog_7_method_26_code, 4, (some .boolean)) := am_ck_of 773 (by decide +kernel)
theorem am_cd_136 : am_ck (⟨"SewnAheadModel", "isSign", "(I)Z"⟩, prog_7_method_25_code, 2, (some .boolean)) := am_ck_of 777 (by decide +kernel)
theorem am_cd_137 : am_ck (⟨"SewnAheadModel", "isScene", "(I)Z"⟩, prog_7_method_24_code, 2, (some .boolean)) := am_ck_of 781 (by decide +kernel)
theorem am_cd_138 : am_ck (⟨"SewnAheadModel", "takesLaw", "(I)Z"⟩, prog_7_method_27_code, 5, (some .boolean)) := am_ck_of 787 (by decide +kernel)
theorem am_cd_139 : am_ck (⟨"SewnAheadModel", "kindOf", "(I)I"⟩, prog_7_method_21_code, 1, (some .int)) := am_ck_of 790 (by decide +kernel)
theorem am_cd_140 : am_ck (⟨"SewnAheadModel", "cloth", "(I)I"⟩, prog_7_method_30_code, 3, (some .int)) := am_ck_of 794 (by decide +kernel)
theorem am_cd_141 : am_ck (⟨"SewnAheadModel", "copyAll", "(III)V"⟩, prog_7_method_8_code, 5, none) := am_ck_of 798 (by decide +kernel)
theorem am_cd_142 : am_ck (⟨"SewnAheadModel", "year", "(II)I"⟩, prog_7_method_42_code, 3, (some .int)) := am_ck_of 802 (by decide +kernel)
theorem am_cd_143 : am_ck (⟨"SewnAheadModel", "isYear", "(I)Z"⟩, prog_7_method_31_code, 2, (some .boolean)) := am_ck_of 806 (by decide +kernel)
theorem am_cd_144 : am_ck (⟨"SewnAheadModel", "plays", "()V"⟩, prog_7_method_36_code, 6, none) := am_ck_of 811 (by decide +kernel)
theorem am_cd_145 : am_ck (⟨"SewnAheadModel", "holds", "(II)Z"⟩, prog_7_method_35_code, 4, (some .boolean)) := am_ck_of 815 (by decide +kernel)
theorem am_cd_146 : am_ck (⟨"SewnAheadModel", "happenedAhead", "(III)Z"⟩, prog_7_method_34_code, 4, (some .boolean)) := am_ck_of 819 (by decide +kernel)
theorem am_cd_147 : am_ck (⟨"SewnAheadModel", "yearTells", "(II)I"⟩, prog_7_method_41_code, 3, (some .int)) := am_ck_of 823 (by decide +kernel)
theorem am_cd_148 : am_ck (⟨"SewnAheadModel", "law", "(II)I"⟩, prog_7_method_44_code, 3, (some .int)) := am_ck_of 827 (by decide +kernel)
theorem am_cd_149 : am_ck (⟨"SewnAheadModel", "isLaw", "(I)Z"⟩, prog_7_method_32_code, 2, (some .boolean)) := am_ck_of 831 (by decide +kernel)
theorem am_cd_150 : am_ck (⟨"SewnAheadModel", "lawTells", "(II)I"⟩, prog_7_method_43_code, 3, (some .int)) := am_ck_of 835 (by decide +kernel)
theorem am_cd_151 : am_ck (⟨"SewnAheadModel", "isBroken", "(I)Z"⟩, prog_7_method_38_code, 5, (some .boolean)) := am_ck_of 839 (by decide +kernel)
theorem am_cd_152 : am_ck (⟨"SewnAheadModel", "yearsOf", "(I)I"⟩, prog_7_method_37_code, 4, (some .int)) := am_ck_of 843 (by decide +kernel)
theorem am_cd_153 : am_ck (⟨"SewnAheadModel", "ones", "(I)I"⟩, prog_7_method_5_code, 3, (some .int)) := am_ck_of 846 (by decide +kernel)
theorem am_cd_154 : am_ck (⟨"SewnAheadModel", "mark", "(II)I"⟩, prog_7_method_46_code, 6, (some .int)) := am_ck_of 850 (by decide +kernel)
theorem am_cd_155 : am_ck (⟨"SewnAheadModel", "yearsThat", "(I)I"⟩, prog_7_method_45_code, 4, (some .int)) := am_ck_of 854 (by decide +kernel)
theorem am_cd_156 : am_ck (⟨"SewnAheadModel", "end", "(II)I"⟩, prog_7_method_47_code, 4, (some .int)) := am_ck_of 858 (by decide +kernel)
theorem am_cd_157 : am_ck (⟨"SewnAheadModel", "isTold", "(I)Z"⟩, prog_7_method_33_code, 1, (some .boolean)) := am_ck_of 861 (by decide +kernel)
theorem am_cd_158 : am_ck (⟨"SewnAheadModel", "sew", "(II)I"⟩, prog_7_method_50_code, 3, (some .int)) := am_ck_of 866 (by decide +kernel)
theorem am_cd_159 : am_ck (⟨"SewnAheadModel", "minds", "()V"⟩, prog_7_method_48_code, 1, none) := am_ck_of 870 (by decide +kernel)
theorem am_cd_160 : am_ck (⟨"SewnAheadModel", "sews", "(II)V"⟩, prog_7_method_49_code, 3, none) := am_ck_of 874 (by decide +kernel)
theorem am_cd_161 : am_ck (⟨"SewnAheadModel", "brokenNow", "()I"⟩, prog_7_method_39_code, 3, (some .int)) := am_ck_of 878 (by decide +kernel)
theorem am_cd_162 : am_ck (⟨"SewnAheadModel", "unpick", "(I)I"⟩, prog_7_method_51_code, 2, (some .int)) := am_ck_of 882 (by decide +kernel)
theorem am_cd_163 : am_ck (⟨"SewnAheadModel", "undo", "(I)I"⟩, prog_7_method_52_code, 3, (some .int)) := am_ck_of 886 (by decide +kernel)
theorem am_cd_164 : am_ck (⟨"SewnAheadModel", "keep", "(I)I"⟩, prog_7_method_53_code, 2, (some .int)) := am_ck_of 890 (by decide +kernel)
theorem am_cd_165 : am_ck (⟨"SewnAheadModel", "on", "(I)I"⟩, prog_7_method_54_code, 2, (some .int)) := am_ck_of 894 (by decide +kernel)
theorem am_cd_166 : am_ck (⟨"SewnAheadModel", "happens", "(I)I"⟩, prog_7_method_55_code, 2, (some .int)) := am_ck_of 898 (by decide +kernel)
theorem am_cd_167 : am_ck (⟨"SewnAheadModel", "by", "(I)I"⟩, prog_7_method_56_code, 2, (some .int)) := am_ck_of 902 (by decide +kernel)
theorem am_cd_168 : am_ck (⟨"SewnAheadModel", "broken", "()I"⟩, prog_7_method_57_code, 5, (some .int)) := am_ck_of 906 (by decide +kernel)
theorem am_cd_169 : am_ck (⟨"SewnAheadModel", "has", "(II)Z"⟩, prog_7_method_4_code, 2, (some .boolean)) := am_ck_of 909 (by decide +kernel)
theorem am_cd_170 : am_ck (⟨"SewnAheadModel", "can", "(I)I"⟩, prog_7_method_60_code, 4, (some .int)) := am_ck_of 913 (by decide +kernel)
theorem am_cd_171 : am_ck (⟨"SewnAheadModel", "lays", "()V"⟩, prog_7_method_58_code, 1, none) := am_ck_of 917 (by decide +kernel)
theorem am_cd_172 : am_ck (⟨"SewnAheadModel", "putsBack", "()V"⟩, prog_7_method_59_code, 1, none) := am_ck_of 921 (by decide +kernel)
theorem am_cd_173 : am_ck (⟨"SewnAheadModel", "safe", "(I)I"⟩, prog_7_method_61_code, 6, (some .int)) := am_ck_of 925 (by decide +kernel)
theorem am_cd_174 : am_ck (⟨"SewnAheadModel", "least", "(III)I"⟩, prog_7_method_67_code, 5, (some .int)) := am_ck_of 929 (by decide +kernel)
theorem am_cd_175 : am_ck (⟨"SewnAheadModel", "fewest", "(II)I"⟩, prog_7_method_66_code, 8, (some .int)) := am_ck_of 933 (by decide +kernel)
theorem am_cd_176 : am_ck (⟨"SewnAheadModel", "plans", "()I"⟩, prog_7_method_62_code, 3, (some .int)) := am_ck_of 938 (by decide +kernel)
theorem am_cd_177 : am_ck (⟨"SewnAheadModel", "does", "(I)I"⟩, prog_7_method_64_code, 6, (some .int)) := am_ck_of 942 (by decide +kernel)
theorem am_cd_178 : am_ck (⟨"SewnAheadModel", "canBe", "(II)Z"⟩, prog_7_method_63_code, 3, (some .boolean)) := am_ck_of 946 (by decide +kernel)
theorem am_cd_179 : am_ck (⟨"SewnAheadModel", "tellsPlan", "(II)V"⟩, prog_7_method_65_code, 5, none) := am_ck_of 950 (by decide +kernel)
theorem am_cd_180 : am_ck (⟨"SewnAheadModel", "ways", "(III)I"⟩, prog_7_method_68_code, 9, (some .int)) := am_ck_of 954 (by decide +kernel)
theorem am_cd_181 : am_ck (⟨"SewnAheadModel", "avert", "(II)I"⟩, prog_7_method_69_code, 4, (some .int)) := am_ck_of 958 (by decide +kernel)
theorem am_cd_182 : am_ck (⟨"SewnAheadModel", "judge", "(I)I"⟩, prog_7_method_70_code, 6, (some .int)) := am_ck_of 962 (by decide +kernel)
theorem am_cd_183 : am_ck (⟨"SewnAheadModel", "happening", "()I"⟩, prog_7_method_40_code, 3, (some .int)) := am_ck_of 967 (by decide +kernel)
theorem am_cd_184 : am_ck (⟨"SewnAheadModel", "was", "(II)I"⟩, prog_7_method_73_code, 7, (some .int)) := am_ck_of 971 (by decide +kernel)
theorem am_cd_185 : am_ck (⟨"SewnAheadModel", "against", "(I)I"⟩, prog_7_method_71_code, 4, (some .int)) := am_ck_of 975 (by decide +kernel)
theorem am_cd_186 : am_ck (⟨"SewnAheadModel", "isSo", "(I)Z"⟩, prog_7_method_72_code, 4, (some .boolean)) := am_ck_of 979 (by decide +kernel)
theorem am_cd_187 : am_ck (⟨"SewnAheadModel", "kinds", "(II)I"⟩, prog_7_method_74_code, 7, (some .int)) := am_ck_of 983 (by decide +kernel)
theorem am_cd_188 : am_ck (⟨"SewnAheadModel", "needed", "()I"⟩, prog_7_method_75_code, 4, (some .int)) := am_ck_of 987 (by decide +kernel)
theorem am_cd_189 : am_ck (⟨"SewnAheadModel", "forged", "(I)I"⟩, prog_7_method_76_code, 9, (some .int)) := am_ck_of 991 (by decide +kernel)
theorem am_cd_190 : am_ck (⟨"SewnAheadModel", "odds", "(II)I"⟩, prog_7_method_78_code, 9, (some .int)) := am_ck_of 995 (by decide +kernel)
theorem am_cd_191 : am_ck (⟨"SewnAheadModel", "chance", "(II)I"⟩, prog_7_method_77_code, 6, (some .int)) := am_ck_of 999 (by decide +kernel)
theorem am_cd_192 : am_ck (⟨"SewnAheadModel", "lots", "(II)I"⟩, prog_7_method_79_code, 7, (some .int)) := am_ck_of 1003 (by decide +kernel)
theorem am_cd_193 : am_ck (⟨"SewnAheadModel", "asked", "()I"⟩, prog_7_method_80_code, 1, (some .int)) := am_ck_of 1012 (by decide +kernel)
theorem am_cd_194 : am_ck (⟨"SewnAheadModel", "upper", "()J"⟩, prog_7_method_81_code, 1, (some .long)) := am_ck_of 1016 (by decide +kernel)
theorem am_cd_195 : am_ck (⟨"SewnAheadModel", "lower", "()J"⟩, prog_7_method_82_code, 1, (some .long)) := am_ck_of 1020 (by decide +kernel)
theorem am_cd_196 : am_ck (⟨"SewnAheadModel", "count", "(I)I"⟩, prog_7_method_85_code, 2, (some .int)) := am_ck_of 1024 (by decide +kernel)
theorem am_cd_197 : am_ck (⟨"SewnAheadModel", "barsMany", "()I"⟩, prog_7_method_83_code, 3, (some .int)) := am_ck_of 1028 (by decide +kernel)
theorem am_cd_198 : am_ck (⟨"SewnAheadModel", "thereOf", "([II)I"⟩, prog_7_method_84_code, 4, (some .int)) := am_ck_of 1031 (by decide +kernel)
theorem am_cd_199 : am_ck (⟨"SewnAheadModel", "finding", "()I"⟩, prog_7_method_86_code, 1, (some .int)) := am_ck_of 1035 (by decide +kernel)
theorem am_cd_200 : am_ck (⟨"SewnAheadModel", "findings", "(I)I"⟩, prog_7_method_87_code, 2, (some .int)) := am_ck_of 1039 (by decide +kernel)
theorem am_cd_201 : am_ck (⟨"SewnAheadModel", "digest", "()J"⟩, prog_7_method_89_code, 3, (some .long)) := am_ck_of 1043 (by decide +kernel)
theorem am_cd_202 : am_ck (⟨"SewnAheadModel", "mix", "(J)V"⟩, prog_7_method_88_code, 3, none) := am_ck_of 1049 (by decide +kernel)
theorem am_cm_0 : ∀ q ∈ am_mt_0, am_ck q := List.forall_mem_cons.mpr ⟨am_cd_0, List.forall_mem_cons.mpr ⟨am_cd_1, List.forall_mem_cons.mpr ⟨am_cd_2, List.forall_mem_cons.mpr ⟨am_cd_3, List.forall_mem_cons.mpr ⟨am_cd_4, List.forall_mem_cons.mpr ⟨am_cd_5, List.forall_mem_cons.mpr ⟨am_cd_6, List.forall_mem_cons.mpr ⟨am_cd_7, List.forall_mem_cons.mpr ⟨am_cd_8, List.forall_mem_cons.mpr ⟨am_cd_9, List.forall_mem_cons.mpr ⟨am_cd_10, List.forall_mem_cons.mpr ⟨am_cd_11, List.forall_mem_cons.mpr ⟨am_cd_12, List.forall_mem_cons.mpr ⟨am_cd_13, List.forall_mem_cons.mpr ⟨am_cd_14, List.forall_mem_cons.mpr ⟨am_cd_15, fun _ h => absurd h List.not_mem_nil⟩⟩⟩⟩⟩⟩⟩⟩⟩⟩⟩⟩⟩⟩⟩⟩
theorem am_cm_1 : ∀ q ∈ am_mt_1, am_ck q := List.forall_mem_cons.mpr ⟨am_cd_16, List.forall_mem_cons.mpr ⟨am_cd_17, List.forall_mem_cons.mpr ⟨am_cd_18, List.forall_mem_cons.mpr ⟨am_cd_19, List.forall_mem_cons.mpr ⟨am_cd_20, List.forall_mem_cons.mpr ⟨am_cd_21, List.forall_mem_cons.mpr ⟨am_cd_22, List.forall_mem_cons.mpr ⟨am_cd_23, List.forall_mem_cons.mpr ⟨am_cd_24, List.forall_mem_cons.mpr ⟨am_cd_25, List.forall_mem_cons.mpr ⟨am_cd_26, List.forall_mem_cons.mpr ⟨am_cd_27, List.forall_mem_cons.mpr ⟨am_cd_28, List.forall_mem_cons.mpr ⟨am_cd_29, List.forall_mem_cons.mpr ⟨am_cd_30, List.forall_mem_cons.mpr ⟨am_cd_31, fun _ h => absurd h List.not_mem_nil⟩⟩⟩⟩⟩⟩⟩⟩⟩⟩⟩⟩⟩⟩⟩⟩
theorem am_cm_2 : ∀ q ∈ am_mt_2, am_ck q := List.forall_mem_cons.mpr ⟨am_cd_32, List.forall_mem_cons.mpr ⟨am_cd_33, List.forall_mem_cons.mpr ⟨am_cd_34, List.forall_mem_cons.mpr ⟨am_cd_35, List.forall_mem_cons.mpr ⟨am_cd_36, List.forall_mem_cons.mpr ⟨am_cd_37, List.forall_mem_cons.mpr ⟨am_cd_38, List.forall_mem_cons.mpr ⟨am_cd_39, List.forall_mem_cons.mpr ⟨am_cd_40, List.forall_mem_cons.mpr ⟨am_cd_41, List.forall_mem_cons.mpr ⟨am_cd_42, List.forall_mem_cons.mpr ⟨am_cd_43, List.forall_mem_cons.mpr ⟨am_cd_44, List.forall_mem_cons.mpr ⟨am_cd_45, List.forall_mem_cons.mpr ⟨am_cd_46, List.forall_mem_cons.mpr ⟨am_cd_47, fun _ h => absurd h List.not_mem_nil⟩⟩⟩⟩⟩⟩⟩⟩⟩⟩⟩⟩⟩⟩⟩⟩
theorem am_cm_3 : ∀ q ∈ am_mt_3, am_ck q := List.forall_mem_cons.mpr ⟨am_cd_48, List.forall_mem_cons.mpr ⟨am_cd_49, List.forall_mem_cons.mpr ⟨am_cd_50, List.forall_mem_cons.mpr ⟨am_cd_51, List.forall_mem_cons.mpr ⟨am_cd_52, List.forall_mem_cons.mpr ⟨am_cd_53, List.forall_mem_cons.mpr ⟨am_cd_54, List.forall_mem_cons.mpr ⟨am_cd_55, List.forall_mem_cons.mpr ⟨am_cd_56, List.forall_mem_cons.mpr ⟨am_cd_57, List.forall_mem_cons.mpr ⟨am_cd_58, List.forall_mem_cons.mpr ⟨am_cd_59, List.forall_mem_cons.mpr ⟨am_cd_60, List.forall_mem_cons.mpr ⟨am_cd_61, List.forall_mem_cons.mpr ⟨am_cd_62, List.forall_mem_cons.mpr ⟨am_cd_63, fun _ h => absurd h List.not_mem_nil⟩⟩⟩⟩⟩⟩⟩⟩⟩⟩⟩⟩⟩⟩⟩⟩
theorem am_cm_4 : ∀ q ∈ am_mt_4, am_ck q := List.forall_mem_cons.mpr ⟨am_cd_64, List.forall_mem_cons.mpr ⟨am_cd_65, List.forall_mem_cons.mpr ⟨am_cd_66, List.forall_mem_cons.mpr ⟨am_cd_67, List.forall_mem_cons.mpr ⟨am_cd_68, List.forall_mem_cons.mpr ⟨am_cd_69, List.forall_mem_cons.mpr ⟨am_cd_70, List.forall_mem_cons.mpr ⟨am_cd_71, List.forall_mem_cons.mpr ⟨am_cd_72, List.forall_mem_cons.mpr ⟨am_cd_73, List.forall_mem_cons.mpr ⟨am_cd_74, List.forall_mem_cons.mpr ⟨am_cd_75, List.forall_mem_cons.mpr ⟨am_cd_76, List.forall_mem_cons.mpr ⟨am_cd_77, List.forall_mem_cons.mpr ⟨am_cd_78, List.forall_mem_cons.mpr ⟨am_cd_79, fun _ h => absurd h List.not_mem_nil⟩⟩⟩⟩⟩⟩⟩⟩⟩⟩⟩⟩⟩⟩⟩⟩
theorem am_cm_5 : ∀ q ∈ am_mt_5, am_ck q := List.forall_mem_cons.mpr ⟨am_cd_80, List.forall_mem_cons.mpr ⟨am_cd_81, List.forall_mem_cons.mpr ⟨am_cd_82, List.forall_mem_cons.mpr ⟨am_cd_83, List.forall_mem_cons.mpr ⟨am_cd_84, List.forall_mem_cons.mpr ⟨am_cd_85, List.forall_mem_cons.mpr ⟨am_cd_86, List.forall_mem_cons.mpr ⟨am_cd_87, List.forall_mem_cons.mpr ⟨am_cd_88, List.forall_mem_cons.mpr ⟨am_cd_89, List.forall_mem_cons.mpr ⟨am_cd_90, List.forall_mem_cons.mpr ⟨am_cd_91, List.forall_mem_cons.mpr ⟨am_cd_92, List.forall_mem_cons.mpr ⟨am_cd_93, List.forall_mem_cons.mpr ⟨am_cd_94, List.forall_mem_cons.mpr ⟨am_cd_95, fun _ h => absurd h List.not_mem_nil⟩⟩⟩⟩⟩⟩⟩⟩⟩⟩⟩⟩⟩⟩⟩⟩
theorem am_cm_6 : ∀ q ∈ am_mt_6, am_ck q := List.forall_mem_cons.mpr ⟨am_cd_96, List.forall_mem_cons.mpr ⟨am_cd_97, List.forall_mem_cons.mpr ⟨am_cd_98, List.forall_mem_cons.mpr ⟨am_cd_99, List.forall_mem_cons.mpr ⟨am_cd_100, List.forall_mem_cons.mpr ⟨am_cd_101, List.forall_mem_cons.mpr ⟨am_cd_102, List.forall_mem_cons.mpr ⟨am_cd_103, List.forall_mem_cons.mpr ⟨am_cd_104, List.forall_mem_cons.mpr ⟨am_cd_105, List.forall_mem_cons.mpr ⟨am_cd_106, List.forall_mem_cons.mpr ⟨am_cd_107, List.forall_mem_cons.mpr ⟨am_cd_108, List.forall_mem_cons.mpr ⟨am_cd_109, List.forall_mem_cons.mpr ⟨am_cd_110, List.forall_mem_cons.mpr ⟨am_cd_111, fun _ h => absurd h List.not_mem_nil⟩⟩⟩⟩⟩⟩⟩⟩⟩⟩⟩⟩⟩⟩⟩⟩
theorem am_cm_7 : ∀ q ∈ am_mt_7, am_ck q := List.forall_mem_cons.mpr ⟨am_cd_112, List.forall_mem_cons.mpr ⟨am_cd_113, List.forall_mem_cons.mpr ⟨am_cd_114, List.forall_mem_cons.mpr ⟨am_cd_115, List.forall_mem_cons.mpr ⟨am_cd_116, List.forall_mem_cons.mpr ⟨am_cd_117, List.forall_mem_cons.mpr ⟨am_cd_118, List.forall_mem_cons.mpr ⟨am_cd_119, List.forall_mem_cons.mpr ⟨am_cd_120, List.forall_mem_cons.mpr ⟨am_cd_121, List.forall_mem_cons.mpr ⟨am_cd_122, List.forall_mem_cons.mpr ⟨am_cd_123, List.forall_mem_cons.mpr ⟨am_cd_124, List.forall_mem_cons.mpr ⟨am_cd_125, List.forall_mem_cons.mpr ⟨am_cd_126, List.forall_mem_cons.mpr ⟨am_cd_127, fun _ h => absurd h List.not_mem_nil⟩⟩⟩⟩⟩⟩⟩⟩⟩⟩⟩⟩⟩⟩⟩⟩
theorem am_cm_8 : ∀ q ∈ am_mt_8, am_ck q := List.forall_mem_cons.mpr ⟨am_cd_128, List.forall_mem_cons.mpr ⟨am_cd_129, List.forall_mem_cons.mpr ⟨am_cd_130, List.forall_mem_cons.mpr ⟨am_cd_131, List.forall_mem_cons.mpr ⟨am_cd_132, List.forall_mem_cons.mpr ⟨am_cd_133, List.forall_mem_cons.mpr ⟨am_cd_134, List.forall_mem_cons.mpr ⟨am_cd_135, List.forall_mem_cons.mpr ⟨am_cd_136, List.forall_mem_cons.mpr ⟨am_cd_137, List.forall_mem_cons.mpr ⟨am_cd_138, List.forall_mem_cons.mpr ⟨am_cd_139, List.forall_mem_cons.mpr ⟨am_cd_140, List.forall_mem_cons.mpr ⟨am_cd_141, List.forall_mem_cons.mpr ⟨am_cd_142, List.forall_mem_cons.mpr ⟨am_cd_143, fun _ h => absurd h List.not_mem_nil⟩⟩⟩⟩⟩⟩⟩⟩⟩⟩⟩⟩⟩⟩⟩⟩
theorem am_cm_9 : ∀ q ∈ am_mt_9, am_ck q := List.forall_mem_cons.mpr ⟨am_cd_144, List.forall_mem_cons.mpr ⟨am_cd_145, List.forall_mem_cons.mpr ⟨am_cd_146, List.forall_mem_cons.mpr ⟨am_cd_147, List.forall_mem_cons.mpr ⟨am_cd_148, List.forall_mem_cons.mpr ⟨am_cd_149, List.forall_mem_cons.mpr ⟨am_cd_150, List.forall_mem_cons.mpr ⟨am_cd_151, List.forall_mem_cons.mpr ⟨am_cd_152, List.forall_mem_cons.mpr ⟨am_cd_153, List.forall_mem_cons.mpr ⟨am_cd_154, List.forall_mem_cons.mpr ⟨am_cd_155, List.forall_mem_cons.mpr ⟨am_cd_156, List.forall_mem_cons.mpr ⟨am_cd_157, List.forall_mem_cons.mpr ⟨am_cd_158, List.forall_mem_cons.mpr ⟨am_cd_159, fun _ h => absurd h List.not_mem_nil⟩⟩⟩⟩⟩⟩⟩⟩⟩⟩⟩⟩⟩⟩⟩⟩
theorem am_cm_10 : ∀ q ∈ am_mt_10, am_ck q := List.forall_mem_cons.mpr ⟨am_cd_160, List.forall_mem_cons.mpr ⟨am_cd_161, List.forall_mem_cons.mpr ⟨am_cd_162, List.forall_mem_cons.mpr ⟨am_cd_163, List.forall_mem_cons.mpr ⟨am_cd_164, List.forall_mem_cons.mpr ⟨am_cd_165, List.forall_mem_cons.mpr ⟨am_cd_166, List.forall_mem_cons.mpr ⟨am_cd_167, List.forall_mem_cons.mpr ⟨am_cd_168, List.forall_mem_cons.mpr ⟨am_cd_169, List.forall_mem_cons.mpr ⟨am_cd_170, List.forall_mem_cons.mpr ⟨am_cd_171, List.forall_mem_cons.mpr ⟨am_cd_172, List.forall_mem_cons.mpr ⟨am_cd_173, List.forall_mem_cons.mpr ⟨am_cd_174, List.forall_mem_cons.mpr ⟨am_cd_175, fun _ h => absurd h List.not_mem_nil⟩⟩⟩⟩⟩⟩⟩⟩⟩⟩⟩⟩⟩⟩⟩⟩
theorem am_cm_11 : ∀ q ∈ am_mt_11, am_ck q := List.forall_mem_cons.mpr ⟨am_cd_176, List.forall_mem_cons.mpr ⟨am_cd_177, List.forall_mem_cons.mpr ⟨am_cd_178, List.forall_mem_cons.mpr ⟨am_cd_179, List.forall_mem_cons.mpr ⟨am_cd_180, List.forall_mem_cons.mpr ⟨am_cd_181, List.forall_mem_cons.mpr ⟨am_cd_182, List.forall_mem_cons.mpr ⟨am_cd_183, List.forall_mem_cons.mpr ⟨am_cd_184, List.forall_mem_cons.mpr ⟨am_cd_185, List.forall_mem_cons.mpr ⟨am_cd_186, List.forall_mem_cons.mpr ⟨am_cd_187, List.forall_mem_cons.mpr ⟨am_cd_188, List.forall_mem_cons.mpr ⟨am_cd_189, List.forall_mem_cons.mpr ⟨am_cd_190, List.forall_mem_cons.mpr ⟨am_cd_191, fun _ h => absurd h List.not_mem_nil⟩⟩⟩⟩⟩⟩⟩⟩⟩⟩⟩⟩⟩⟩⟩⟩
theorem am_cm_12 : ∀ q ∈ am_mt_12, am_ck q := List.forall_mem_cons.mpr ⟨am_cd_192, List.forall_mem_cons.mpr ⟨am_cd_193, List.forall_mem_cons.mpr ⟨am_cd_194, List.forall_mem_cons.mpr ⟨am_cd_195, List.forall_mem_cons.mpr ⟨am_cd_196, List.forall_mem_cons.mpr ⟨am_cd_197, List.forall_mem_cons.mpr ⟨am_cd_198, List.forall_mem_cons.mpr ⟨am_cd_199, List.forall_mem_cons.mpr ⟨am_cd_200, List.forall_mem_cons.mpr ⟨am_cd_201, List.forall_mem_cons.mpr ⟨am_cd_202, fun _ h => absurd h List.not_mem_nil⟩⟩⟩⟩⟩⟩⟩⟩⟩⟩⟩
theorem am_cm : ∀ q ∈ am_mt0, am_ck q := List.forall_mem_append.mpr ⟨am_cm_0, List.forall_mem_append.mpr ⟨am_cm_1, List.forall_mem_append.mpr ⟨am_cm_2, List.forall_mem_append.mpr ⟨am_cm_3, List.forall_mem_append.mpr ⟨am_cm_4, List.forall_mem_append.mpr ⟨am_cm_5, List.forall_mem_append.mpr ⟨am_cm_6, List.forall_mem_append.mpr ⟨am_cm_7, List.forall_mem_append.mpr ⟨am_cm_8, List.forall_mem_append.mpr ⟨am_cm_9, List.forall_mem_append.mpr ⟨am_cm_10, List.forall_mem_append.mpr ⟨am_cm_11, am_cm_12⟩⟩⟩⟩⟩⟩⟩⟩⟩⟩⟩⟩
def am_md : MethodName × ByteArray × Nat × Option FieldType := (⟨"", "", ""⟩, .empty, 0, none)
abbrev am_y (i : Nat) : MethodName := (am_mt.getD i am_md).1
abbrev am_c (i : Nat) : ByteArray := (am_mt.getD i am_md).2.1
abbrev am_l (i : Nat) : Nat := (am_mt.getD i am_md).2.2.1
abbrev am_r (i : Nat) : Option FieldType := (am_mt.getD i am_md).2.2.2
theorem am_bigw {args : Array Value} {s : State} (h : ∀ w ∈ lw_tbl, w.before args s = true) : ∀ w ∈ am_big, w.before args s = true := fun w hw => h w (List.mem_filter.mp hw).1
theorem am_bigg {w : Cond} (h : w ∈ am_big) : w ∈ am_big ∧ ((w.onTables && w.keeps) = true ∨ ∃ ty, w = .arrayClass ty) := ⟨h, good_of_word (List.mem_filter.mp h).2⟩
theorem am_mtl : am_mt0.length = 203 := by decide +kernel
theorem am_code {i : Nat} (h : i < 203) : Cond.code (am_y i) (am_c i) (am_l i) (am_r i) ∈ am_big := by
  have h0 : i < am_mt0.length := by rw [am_mtl]; exact h
  have e : am_mt.getD i am_md = am_mt0[i] := by
    rw [List.getD_eq_getElem?_getD, am_mt, List.getElem?_append_left h0, List.getElem?_eq_getElem h0]; rfl
  have := am_cm am_mt0[i] (List.getElem_mem h0)
  unfold am_y am_c am_l am_r
  rw [e]
  exact this
end
section
/-! THE SMALL MACHINE: logical cells 0, 1, .. (ints, longs, references by number, kinds), and what stands for them on the real heap -/
/-- ints, longs, references (0 none, b + 1 the cell b), kind and size, how many cells -/
abbrev aN : Type := (Nat → Nat → Int32) × (Nat → Nat → Int64) × (Nat → Nat → Nat) × (Nat → Nat × Nat) × Nat
abbrev aX : Type := Nat × (Nat → Int32)
abbrev aL : Type := List (Option Value)
abbrev aO : Type := Option Value → aN → Prop
/-- base, script, LETTERS, PARENTS, the classes' numbers and slots, the classes of int[], Row[], Cloth[] -/
abbrev aG : Type := Nat × Nat × Nat × Nat × va_G × ClassId × ClassId × ClassId
abbrev up2 {α : Type} (f : Nat → Nat → α) (i k : Nat) (v : α) : Nat → Nat → α := fun j => if j = i then va_up (f i) k v else f j
abbrev up1 {α : Type} (f : Nat → α) (i : Nat) (v : α) : Nat → α := fun j => if j = i then v else f j
abbrev vI (N : aN) : Nat → Nat → Int32 := N.1
abbrev vL (N : aN) : Nat → Nat → Int64 := N.2.1
abbrev vR (N : aN) : Nat → Nat → Nat := N.2.2.1
abbrev sH (N : aN) : Nat → Nat × Nat := N.2.2.2.1
abbrev nC (N : aN) : Nat := N.2.2.2.2
abbrev sI (N : aN) (a k : Nat) (x : Int32) : aN := (up2 N.1 a k x, N.2)
abbrev sL (N : aN) (a k : Nat) (x : Int64) : aN := (N.1, up2 N.2.1 a k x, N.2.2)
abbrev sR (N : aN) (a k : Nat) (x : Nat) : aN := (N.1, N.2.1, up2 N.2.2.1 a k x, N.2.2.2)
/-- a whole int array anew -/
abbrev sA (N : aN) (a : Nat) (f : Nat → Int32) : aN := (up1 N.1 a f, N.2)
/-- a new cell -/
abbrev sN (N : aN) (kd len : Nat) : aN := (up1 N.1 (nC N) (fun _ => 0), up1 N.2.1 (nC N) (fun _ => 0), up1 N.2.2.1 (nC N) (fun _ => 0), up1 N.2.2.2.1 (nC N) (kd, len), nC N + 1)
def am_let (j : Nat) : Int32 := ([108, 98, 103, 101, 107, 115] : List Int32).getD j 0
def am_par (j : Nat) : Int32 := ([-9, 0, 0, 0, 1, 3] : List Int32).getD j 0
def gA (G : aG) (i : Nat) : Nat := if i = 1000000 then G.2.1 else if i = 1000001 then G.2.2.1 else if i = 1000002 then G.2.2.2.1 else G.1 + i
abbrev gD (G : aG) : va_G := G.2.2.2.2.1
abbrev gI (G : aG) : ClassId := G.2.2.2.2.2.1
abbrev gR (G : aG) : ClassId := G.2.2.2.2.2.2.1
abbrev gC (G : aG) : ClassId := G.2.2.2.2.2.2.2
def rV (G : aG) : Value → Value
  | .ref i => .ref (gA G i)
  | v => v
def rO (G : aG) (r : Nat) : Option Nat := if r = 0 then none else some (G.1 + (r - 1))
def fV (G : aG) (N : aN) (ci i k : Nat) : Value := if am_ft ci k = 1 then .long (vL N i k) else if am_ft ci k = 2 then va_rf (rO G (vR N i k)) else .int (vI N i k)
def cE (G : aG) (N : aN) (i : Nat) : va_E :=
  if (sH N i).1 = 0 then .inl (gI G, (sH N i).2, .inl (vI N i))
  else if (sH N i).1 = 1 then .inl (gR G, (sH N i).2, .inr (.inr (.inr (.inr (fun j => rO G (vR N i j))))))
  else if (sH N i).1 = 2 then .inl (gC G, (sH N i).2, .inr (.inr (.inr (.inr (fun j => rO G (vR N i j))))))
  else .inr ((sH N i).1 - 10, (List.range (sH N i).2).map (fV G N ((sH N i).1 - 10) i))
def wsL (G : aG) (N : aN) : va_W := (List.range (nC N)).map (fun i => (G.1 + i, cE G N i))
def aW (G : aG) (N : aN) (H : Heap) : Prop := va_P (gD G) am_cl (wsL G N) H ∧ H.size = G.1 + nC N ∧ nC N ≤ 1000
abbrev gB (G : aG) : Nat → Prop := fun q => G.1 ≤ q
abbrev aT (G : aG) : List (ClassId × FieldType) := [(gI G, .int), (gR G, .object am_R2), (gC G, .object am_R0)]
def am_nm : List (String × Nat × MethodName × String) := [("SewnAhead", 20, ⟨"SewnAhead$Cloth", "<init>", "()V"⟩, "SewnAhead"), ("SewnAhead", 34, ⟨"SewnAhead$Plans", "<init>", "()V"⟩, "SewnAhead"), ("SewnAhead$Plans", 11, ⟨"SewnAhead$Cloth", "<init>", "()V"⟩, "SewnAhead"), ("SewnAhead$Reader", 48, ⟨"SewnAhead", "isScene", "(I)Z"⟩, "SewnAhead"), ("SewnAhead$Cloth", 62, ⟨"SewnAhead", "isScene", "(I)Z"⟩, "SewnAhead"), ("SewnAhead$Plans", 93, ⟨"SewnAhead", "happeningBit", "(I)I"⟩, "SewnAhead")]
/-- what holds of the tables and of what was there before, at every method's start -/
def aK (G : aG) (X : aX) (s : State) : Prop :=
  va_K (gD G) am_cl (aT G) s ∧ (∀ q ∈ am_nm, va_Nw (.methodLinkNest q.1 q.2.1 q.2.2.1 q.2.2.2) s) ∧
  (va_Nw (.fieldLinkNest "SewnAhead$Reader" 62 "SewnAhead" "LETTERS" "[C" "SewnAhead") s ∧ va_Nw (.fieldLinkNest "SewnAhead$Cloth" 91 "SewnAhead" "PARENTS" "[I" "SewnAhead") s) ∧
  (va_AO am_R2 s ∧ va_AO am_R0 s) ∧
  (va_Z "SewnAhead" "LETTERS" "[C" (.ref G.2.2.1) (gB G) s s.heap ∧ va_Z "SewnAhead" "PARENTS" "[I" (.ref G.2.2.2.1) (gB G) s s.heap ∧
   va_T .char G.2.2.1 6 (fun j => .int (am_let j)) (gB G) s s.heap ∧ va_T .int G.2.2.2.1 6 (fun j => .int (am_par j)) (gB G) s s.heap) ∧
  va_X G.2.1 X.1 X.2 s s.heap ∧ G.2.1 < G.1 ∧ G.1 ≤ s.heap.size
theorem aK.moved {G : aG} {X : aX} {s U : State} (h : aK G X s) (hvm : s.vm.Alike U.vm) (hM : ∀ a i x h, va_Nw (.methodLinkNest a i x h) s → va_Nw (.methodLinkNest a i x h) U) (hF : ∀ a i b n d h, va_Nw (.fieldLinkNest a i b n d h) s → va_Nw (.fieldLinkNest a i b n d h) U)
    (hH : ∀ q : Nat, q < G.1 → U.heap[q]? = s.heap[q]?) (hz : G.1 ≤ U.heap.size) : aK G X U := by
  obtain ⟨h1, h2, ⟨h3, h4⟩, ⟨h5, h6⟩, ⟨h7, h8, h9, h10⟩, h11, h12, h13⟩ := h
  have hk : ∀ a : Nat, a < s.heap.size → ¬ gB G a → U.heap[a]? = s.heap[a]? := fun a _ h => hH a (Nat.not_le.mp h)
  exact ⟨h1.moved hvm, fun q hq => hM _ _ _ _ (h2 q hq), ⟨hF _ _ _ _ _ _ h3, hF _ _ _ _ _ _ h4⟩, ⟨h5.moved hvm, h6.moved hvm⟩, ⟨(h7.moved hvm).kept hk, (h8.moved hvm).kept hk, (h9.moved hvm).kept hk, (h10.moved hvm).kept hk⟩, (h11.moved hvm).kept (hH _ h12), h12, hz⟩
theorem aK.warm {G : aG} {X : aX} {s U : State} (h : aK G X s) (hW : s.WarmedH U.vm) (hH : ∀ q : Nat, q < G.1 → U.heap[q]? = s.heap[q]?) (hz : G.1 ≤ U.heap.size) : aK G X U :=
  h.moved hW.alike (fun _ _ _ _ z => va_Nw.warmM hW z) (fun _ _ _ _ _ _ z => va_Nw.warmF hW z) hH hz
theorem aK.calling {G : aG} {X : aX} {U : State} (h : aK G X U) (g : JFrame) (mk : MethodId) (a : Array Value) : aK G X (U.calling g mk a) :=
  h.moved (U := U.calling g mk a) (Vm.Alike.refl U.vm) (fun _ _ _ _ z => va_Nw.same rfl rfl z) (fun _ _ _ _ _ _ z => va_Nw.same rfl rfl z) (fun _ _ => rfl) h.2.2.2.2.2.2.2
/-! locals -/
def las (G : aG) : Nat → aL → List (Nat × Value)
  | _, [] => []
  | i, none :: t => las G (i + 1) t
  | i, some v :: t => (i, rV G v) :: las G (i + 1) t
def isLg : Option Value → Bool
  | some (.long _) => true
  | some (.double _) => true
  | _ => false
def lvc : aL → Nat → Value → aL
  | [], _, _ => []
  | _ :: t, 0, v => some v :: t
  | x :: t, 1, v => (if isLg x then none else x) :: lvc t 0 v
  | x :: t, i + 2, v => x :: lvc t (i + 1) v
def lvd : aL → Nat → Value → aL
  | [], _, _ => []
  | [_], 0, v => [some v]
  | _ :: _ :: t, 0, v => some v :: none :: t
  | x :: t, 1, v => (if isLg x then none else x) :: lvd t 0 v
  | x :: t, i + 2, v => x :: lvd t (i + 1) v
/-- the arguments as locals -/
def lva : List Value → aL
  | [] => []
  | .long x :: t => some (.long x) :: none :: lva t
  | v :: t => some v :: lva t
def lve (args : List Value) (n : Nat) : aL := lva args ++ List.replicate (n - (lva args).length) none
abbrev pR : Option Value → List Value → List Value
  | none, st => st
  | some v, st => v :: st
/-! contracts -/
def aC (mid d : Nat) (p : Program) (R : Room) (s : State) (m : MethodId) (args : Array Value) (meth : Method) (c : Code) : Prop :=
  p.tables.exec = Jvm.exec ∧ c.code = am_c mid ∧ c.maxLocals = am_l mid ∧ s.vm.findClass (am_y mid).cls = some m.cls ∧ (∀ w ∈ am_big, w.before args s = true) ∧ meth.name = (am_y mid).name ∧ d ≤ R.frames ∧ 60 * d ≤ R.locals
def aRt (mid pc : Nat) (r : Option Value) : Prop :=
  (r = none ∧ decode (am_c mid) pc = .ok (.return_, 1) ∧ am_r mid = none) ∨ (∃ x, r = some (.int x) ∧ decode (am_c mid) pc = .ok (.ireturn, 1) ∧ (am_r mid = some .int ∨ (am_r mid = some .boolean ∧ (x = 0 ∨ x = 1)))) ∨ ∃ x, r = some (.long x) ∧ decode (am_c mid) pc = .ok (.lreturn, 1) ∧ am_r mid = some .long
def aRet (mid : Nat) (G : aG) (p : Program) (l : Launch) (e : Env) (R : Room) (s : State) (m : MethodId) (args : Array Value) (below : List Frame) (meth : Method) (c : Code) (mc ms : Nat) (Q : State → Prop) (post : aO) : Prop :=
  ∀ (H : Heap) (locs : List Loc) (cells slots : Nat) (lsr : Array Slot) (pc : Nat) (r : Option Value) (N : aN), post r N → aW G N H → va_S (gB G) s.heap H locs → cells ≤ mc → slots ≤ ms → aRt mid pc r → W p l e R s m args below meth c H locs cells slots Q (F0 m pc lsr ((pR r []).map (rV G)))
/-- the machine, at pc of the method mid with these locals, stack and cells, comes to its end with post; calls may go d deep; it may make bc cells of bs slots -/
def wp (X : aX) (d mid bc bs pc : Nat) (ls : aL) (st : List Value) (N : aN) (post : aO) : Prop :=
  ∀ (G : aG) (p : Program) (l : Launch) (e : Env) (R : Room) (s : State) (m : MethodId) (args : Array Value) (below : List Frame) (meth : Method) (c : Code) (mc ms : Nat) (Q : State → Prop),
    aC mid d p R s m args meth c → aK G X s → mc ≤ R.cells ∧ ms ≤ R.slots → aRet mid G p l e R s m args below meth c mc ms Q post →
    ∀ (H : Heap) (locs : List Loc) (cells slots : Nat) (lsr : Array Slot), aW G N H → va_S (gB G) s.heap H locs → cells + bc ≤ mc → slots + bs ≤ ms → lv_has lsr (am_l mid) (las G 0 ls) → ls.length = am_l mid →
    W p l e R s m args below meth c H locs cells slots Q (F0 m pc lsr (st.map (rV G)))
def aPc (X : aX) (G : aG) (args : List Value) (N : aN) : Array Value → State → Prop := fun v U => v = (args.map (rV G)).toArray ∧ aW G N U.heap ∧ aK G X U
def aQc (G : aG) (post : aO) : Array Value → State → Outcome → State → Prop := fun _ st o t => (∃ (r : Option Value) (N : aN), o = .returned (r.map (rV G)) ∧ post r N ∧ aW G N t.heap) ∧ va_F (gB G) st t
abbrev aRm (d bc bs : Nat) : Room := { frames := d, cells := bc, slots := bs, locals := 60 * d }
def CallOk (X : aX) (d bc bs mid : Nat) (args : List Value) (N : aN) (post : aO) : Prop :=
  ∀ (G : aG) (l : Launch), Met l (am_y mid) (.code (am_y mid) (am_c mid) (am_l mid) (am_r mid) :: am_big) (aRm d bc bs) (aPc X G args N) (aQc G post) bc bs (gB G)
theorem CallOk.mono {X : aX} {d bc bs mid : Nat} {args : List Value} {N : aN} {post post' : aO} (h : CallOk X d bc bs mid args N post) (hp : ∀ r N', post r N' → post' r N') : CallOk X d bc bs mid args N post' := by
  intro G l
  have h1 := h G l
  intro p e ha hc hk s m args' below hf happ hP hT
  obtain ⟨k, o, a1, a2, a3, ⟨⟨r, N', b1, b2, b3⟩, b4⟩, b5⟩ := h1 p e ha hc hk s m args' below hf happ hP hT
  exact ⟨k, o, a1, a2, a3, ⟨⟨r, N', b1, hp r N' b2, b3⟩, b4⟩, b5⟩
theorem wp.mono {X : aX} {d mid bc bs pc : Nat} {ls : aL} {st : List Value} {N : aN} {post post' : aO} (h : wp X d mid bc bs pc ls st N post) (hp : ∀ r N', post r N' → post' r N') : wp X d mid bc bs pc ls st N post' := by
  intro G p l e R s m args below meth c mc ms Q hC hK hR hret
  exact h G p l e R s m args below meth c mc ms Q hC hK hR (fun H locs cells slots lsr pc r N a1 => hret H locs cells slots lsr pc r N (hp r N a1))
end
section
/-! locals: rows -/
theorem las_mem {G : aG} : ∀ (ls : aL) (i i0 : Nat) (v : Value), ls[i]? = some (some v) → (i0 + i, rV G v) ∈ las G i0 ls
  | [], i, i0, v, h => by simp at h
  | x :: t, 0, i0, v, h => by
    rw [List.getElem?_cons_zero] at h
    cases h
    exact List.mem_cons_self
  | none :: t, i + 1, i0, v, h => by
    rw [List.getElem?_cons_succ] at h
    have := las_mem (G := G) t i (i0 + 1) v h
    rw [show i0 + 1 + i = i0 + (i + 1) by omega] at this
    exact this
  | some w :: t, i + 1, i0, v, h => by
    rw [List.getElem?_cons_succ] at h
    have := las_mem (G := G) t i (i0 + 1) v h
    rw [show i0 + 1 + i = i0 + (i + 1) by omega] at this
    exact List.mem_cons_of_mem _ this
theorem las_of {G : aG} : ∀ (ls : aL) (i0 : Nat) (q : Nat × Value), q ∈ las G i0 ls → ∃ i v, q = (i0 + i, rV G v) ∧ ls[i]? = some (some v)
  | [], i0, q, h => by simp [las] at h
  | none :: t, i0, q, h => by
    obtain ⟨i, v, h1, h2⟩ := las_of t (i0 + 1) q h
    exact ⟨i + 1, v, by rw [h1, show i0 + 1 + i = i0 + (i + 1) by omega], by rw [List.getElem?_cons_succ]; exact h2⟩
  | some w :: t, i0, q, h => by
    rcases List.mem_cons.mp h with h | h
    · exact ⟨0, w, h, rfl⟩
    · obtain ⟨i, v, h1, h2⟩ := las_of t (i0 + 1) q h
      exact ⟨i + 1, v, by rw [h1, show i0 + 1 + i = i0 + (i + 1) by omega], by rw [List.getElem?_cons_succ]; exact h2⟩
theorem las_at {G : aG} {ls : aL} {n i : Nat} {v : Value} {lsr : Array Slot} (hl : lv_has lsr n (las G 0 ls)) (h : ls[i]? = some (some v)) : lsr[i]? = some (.val (rV G v)) := by
  have := hl.2.2 _ (las_mem ls i 0 v h)
  rwa [Nat.zero_add] at this
theorem lvh_mono {lsr : Array Slot} {n : Nat} {a b : List (Nat × Value)} (h : lv_has lsr n a) (hb : ∀ q ∈ b, q ∈ a) : lv_has lsr n b := ⟨h.1, h.2.1, fun q hq => h.2.2 q (hb q hq)⟩
theorem lvc_len : ∀ (ls : aL) (i : Nat) (v : Value), (lvc ls i v).length = ls.length
  | [], _, _ => rfl
  | _ :: t, 0, v => rfl
  | x :: t, 1, v => by simp [lvc, lvc_len t 0 v]
  | x :: t, i + 2, v => by simp [lvc, lvc_len t (i + 1) v]
theorem lvd_len : ∀ (ls : aL) (i : Nat) (v : Value), (lvd ls i v).length = ls.length
  | [], _, _ => rfl
  | [_], 0, v => rfl
  | _ :: _ :: t, 0, v => rfl
  | x :: t, 1, v => by simp [lvd, lvd_len t 0 v]
  | x :: t, i + 2, v => by simp [lvd, lvd_len t (i + 1) v]
theorem rV_cat (G : aG) (v : Value) : (rV G v).category = v.category := by cases v <;> rfl
theorem lvc_at : ∀ (ls : aL) (i j : Nat) (v w : Value), (lvc ls i v)[j]? = some (some w) → (j = i ∧ w = v) ∨ (j ≠ i ∧ ls[j]? = some (some w) ∧ ¬ (j + 1 = i ∧ w.category = 2 ∧ isLg (some w) = true))
  | [], i, j, v, w, h => by simp [lvc] at h
  | _ :: t, 0, 0, v, w, h => by simp [lvc] at h; exact Or.inl ⟨rfl, h.symm⟩
  | x :: t, 0, j + 1, v, w, h => by
    simp only [lvc, List.getElem?_cons_succ] at h
    exact Or.inr ⟨by omega, by simpa using h, by omega⟩
  | x :: t, 1, 0, v, w, h => by
    simp only [lvc, List.getElem?_cons_zero] at h
    refine Or.inr ⟨by omega, ?_, ?_⟩
    · by_cases hx : isLg x = true
      · simp [hx] at h
      · simp [hx] at h; simp [h]
    · intro hq
      by_cases hx : isLg x = true
      · simp [hx] at h
      · simp [hx] at h; rw [h] at hx; exact hx hq.2.2
  | x :: t, 1, j + 1, v, w, h => by
    simp only [lvc, List.getElem?_cons_succ] at h
    rcases lvc_at t 0 j v w h with ⟨h1, h2⟩ | ⟨h1, h2, h3⟩
    · exact Or.inl ⟨by omega, h2⟩
    · exact Or.inr ⟨by omega, by simpa using h2, by omega⟩
  | x :: t, i + 2, 0, v, w, h => by
    simp only [lvc, List.getElem?_cons_zero] at h
    exact Or.inr ⟨by omega, by simpa using h, by omega⟩
  | x :: t, i + 2, j + 1, v, w, h => by
    simp only [lvc, List.getElem?_cons_succ] at h
    rcases lvc_at t (i + 1) j v w h with ⟨h1, h2⟩ | ⟨h1, h2, h3⟩
    · exact Or.inl ⟨by omega, h2⟩
    · exact Or.inr ⟨by omega, by simpa using h2, fun q => h3 ⟨by omega, q.2⟩⟩
theorem lvd_at : ∀ (ls : aL) (i j : Nat) (v w : Value), i + 1 < ls.length → (lvd ls i v)[j]? = some (some w) → (j = i ∧ w = v) ∨ (j ≠ i ∧ j ≠ i + 1 ∧ ls[j]? = some (some w) ∧ ¬ (j + 1 = i ∧ w.category = 2 ∧ isLg (some w) = true))
  | [], i, j, v, w, hi, h => by simp [lvd] at h
  | [_], 0, j, v, w, hi, h => by simp at hi
  | _ :: _ :: t, 0, 0, v, w, hi, h => by simp [lvd] at h; exact Or.inl ⟨rfl, h.symm⟩
  | _ :: _ :: t, 0, 1, v, w, hi, h => by simp [lvd] at h
  | x :: y :: t, 0, j + 2, v, w, hi, h => by
    simp only [lvd, List.getElem?_cons_succ] at h
    exact Or.inr ⟨by omega, by omega, by simpa using h, by omega⟩
  | x :: t, 1, 0, v, w, hi, h => by
    simp only [lvd, List.getElem?_cons_zero] at h
    refine Or.inr ⟨by omega, by omega, ?_, ?_⟩
    · by_cases hx : isLg x = true
      · simp [hx] at h
      · simp [hx] at h; simp [h]
    · intro hq
      by_cases hx : isLg x = true
      · simp [hx] at h
      · simp [hx] at h; rw [h] at hx; exact hx hq.2.2
  | x :: t, 1, j + 1, v, w, hi, h => by
    simp only [lvd, List.getElem?_cons_succ] at h
    rcases lvd_at t 0 j v w (by simp at hi; omega) h with ⟨h1, h2⟩ | ⟨h1, h2, h3, h4⟩
    · exact Or.inl ⟨by omega, h2⟩
    · exact Or.inr ⟨by omega, by omega, by simpa using h3, by omega⟩
  | x :: t, i + 2, 0, v, w, hi, h => by
    simp only [lvd, List.getElem?_cons_zero] at h
    exact Or.inr ⟨by omega, by omega, by simpa using h, by omega⟩
  | x :: t, i + 2, j + 1, v, w, hi, h => by
    simp only [lvd, List.getElem?_cons_succ] at h
    rcases lvd_at t (i + 1) j v w (by simp at hi; omega) h with ⟨h1, h2⟩ | ⟨h1, h2, h3, h4⟩
    · exact Or.inl ⟨by omega, h2⟩
    · exact Or.inr ⟨by omega, by omega, by simpa using h3, fun q => h4 ⟨by omega, q.2⟩⟩
theorem isLg_noF {w : Value} (h : w.category = 2) : isLg (some w) = true := by
  cases w <;> simp_all [Value.category, isLg]
theorem las_st1 {G : aG} {ls : aL} {i : Nat} {v : Value} : ∀ q ∈ las G 0 (lvc ls i v), q ∈ (i, rV G v) :: (las G 0 ls).filter (fun q => !(q.1 == i) && !(q.1 + 1 == i && q.2.category == 2)) := by
  intro q hq
  obtain ⟨j, w, rfl, h⟩ := las_of _ _ _ hq
  rw [Nat.zero_add]
  rcases lvc_at _ _ _ _ _ h with ⟨h1, h2⟩ | ⟨h1, h2, h3⟩
  · rw [h1, h2]; exact List.mem_cons_self
  · refine List.mem_cons_of_mem _ (List.mem_filter.mpr ⟨?_, ?_⟩)
    · have := las_mem (G := G) ls j 0 w h2
      rwa [Nat.zero_add] at this
    · simp only [rV_cat, Bool.and_eq_true, Bool.not_eq_true', beq_eq_false_iff_ne, ne_eq, Bool.and_eq_false_iff]
      refine ⟨h1, ?_⟩
      by_cases hj : j + 1 = i
      · right
        intro hc
        exact h3 ⟨hj, hc, isLg_noF hc⟩
      · exact Or.inl hj
theorem las_st2 {G : aG} {ls : aL} {i : Nat} {v : Value} (hi : i + 1 < ls.length) : ∀ q ∈ las G 0 (lvd ls i v), q ∈ (i, rV G v) :: (las G 0 ls).filter (fun q => !(q.1 == i) && (!(q.1 == i + 1) && !(q.1 + 1 == i && q.2.category == 2))) := by
  intro q hq
  obtain ⟨j, w, rfl, h⟩ := las_of _ _ _ hq
  rw [Nat.zero_add]
  rcases lvd_at _ _ _ _ _ hi h with ⟨h1, h2⟩ | ⟨h1, h1', h2, h3⟩
  · rw [h1, h2]; exact List.mem_cons_self
  · refine List.mem_cons_of_mem _ (List.mem_filter.mpr ⟨?_, ?_⟩)
    · have := las_mem (G := G) ls j 0 w h2
      rwa [Nat.zero_add] at this
    · simp only [rV_cat, Bool.and_eq_true, Bool.not_eq_true', beq_eq_false_iff_ne, ne_eq, Bool.and_eq_false_iff]
      refine ⟨h1, h1', ?_⟩
      by_cases hj : j + 1 = i
      · right
        intro hc
        exact h3 ⟨hj, hc, isLg_noF hc⟩
      · exact Or.inl hj
end
section
variable {X : aX} {d mid bc bs pc : Nat} {ls : aL} {st : List Value} {N : aN} {post : aO}
theorem wr_iconst {n : Int} {v : Int32} (hd : decode (am_c mid) pc = .ok (.iconst n, 1)) (hv : Int32.ofInt n = v) (k : wp X d mid bc bs (pc + 1) ls (.int v :: st) N post) : wp X d mid bc bs pc ls (st) N post := by
  intro G p l e R s m args below meth c mc ms Q hC hK hR hret H locs cells slots lsr hW hS hc hs hl hn
  obtain ⟨hx, hb, hml, hown, hts, hnm, hdf, hdl⟩ := id hC
  exact lv_iconst hx hb hd hv (k G p l e R s m args below meth c mc ms Q hC hK hR hret H locs cells slots lsr hW hS hc hs hl hn)
theorem wr_bipush {n : Int} {v : Int32} (hd : decode (am_c mid) pc = .ok (.bipush n, 2)) (hv : (Int8.ofInt n).toInt32 = v) (k : wp X d mid bc bs (pc + 2) ls (.int v :: st) N post) : wp X d mid bc bs pc ls (st) N post := by
  intro G p l e R s m args below meth c mc ms Q hC hK hR hret H locs cells slots lsr hW hS hc hs hl hn
  obtain ⟨hx, hb, hml, hown, hts, hnm, hdf, hdl⟩ := id hC
  exact lv_bipush hx hb hd hv (k G p l e R s m args below meth c mc ms Q hC hK hR hret H locs cells slots lsr hW hS hc hs hl hn)
theorem wr_sipush {n : Int} {v : Int32} (hd : decode (am_c mid) pc = .ok (.sipush n, 3)) (hv : (Int16.ofInt n).toInt32 = v) (k : wp X d mid bc bs (pc + 3) ls (.int v :: st) N post) : wp X d mid bc bs pc ls (st) N post := by
  intro G p l e R s m args below meth c mc ms Q hC hK hR hret H locs cells slots lsr hW hS hc hs hl hn
  obtain ⟨hx, hb, hml, hown, hts, hnm, hdf, hdl⟩ := id hC
  exact lv_sipush hx hb hd hv (k G p l e R s m args below meth c mc ms Q hC hK hR hret H locs cells slots lsr hW hS hc hs hl hn)
theorem wr_lconst {n : Fin 2} {v : Int64} (hd : decode (am_c mid) pc = .ok (.lconst n, 1)) (hv : Int64.ofNat (n : Nat) = v) (k : wp X d mid bc bs (pc + 1) ls (.long v :: st) N post) : wp X d mid bc bs pc ls (st) N post := by
  intro G p l e R s m args below meth c mc ms Q hC hK hR hret H locs cells slots lsr hW hS hc hs hl hn
  obtain ⟨hx, hb, hml, hown, hts, hnm, hdf, hdl⟩ := id hC
  exact lv_lconst hx hb hd hv (k G p l e R s m args below meth c mc ms Q hC hK hR hret H locs cells slots lsr hW hS hc hs hl hn)
theorem wr_ldc {i : Nat} {v : Int32} (hd : decode (am_c mid) pc = .ok (.ldc i, 2)) (hv : Cond.constant (am_y mid).cls i v ∈ am_big) (k : wp X d mid bc bs (pc + 2) ls (.int v :: st) N post) : wp X d mid bc bs pc ls (st) N post := by
  intro G p l e R s m args below meth c mc ms Q hC hK hR hret H locs cells slots lsr hW hS hc hs hl hn
  obtain ⟨hx, hb, hml, hown, hts, hnm, hdf, hdl⟩ := id hC
  exact lv_ldc hx hb hown (hts _ hv) hd (k G p l e R s m args below meth c mc ms Q hC hK hR hret H locs cells slots lsr hW hS hc hs hl hn)
theorem wr_ldcw {i : Nat} {v : Int32} (hd : decode (am_c mid) pc = .ok (.ldc_w i, 3)) (hv : Cond.constant (am_y mid).cls i v ∈ am_big) (k : wp X d mid bc bs (pc + 3) ls (.int v :: st) N post) : wp X d mid bc bs pc ls (st) N post := by
  intro G p l e R s m args below meth c mc ms Q hC hK hR hret H locs cells slots lsr hW hS hc hs hl hn
  obtain ⟨hx, hb, hml, hown, hts, hnm, hdf, hdl⟩ := id hC
  exact lv_ldcw hx hb hown (hts _ hv) hd (k G p l e R s m args below meth c mc ms Q hC hK hR hret H locs cells slots lsr hW hS hc hs hl hn)
theorem wr_ldc2 {i : Nat} {v : Int64} (hd : decode (am_c mid) pc = .ok (.ldc2_w i, 3)) (hv : Cond.constantLong (am_y mid).cls i v ∈ am_big) (k : wp X d mid bc bs (pc + 3) ls (.long v :: st) N post) : wp X d mid bc bs pc ls (st) N post := by
  intro G p l e R s m args below meth c mc ms Q hC hK hR hret H locs cells slots lsr hW hS hc hs hl hn
  obtain ⟨hx, hb, hml, hown, hts, hnm, hdf, hdl⟩ := id hC
  exact lv_ldc2 hx hb hown (hts _ hv) hd (k G p l e R s m args below meth c mc ms Q hC hK hR hret H locs cells slots lsr hW hS hc hs hl hn)
theorem wr_iload_n {q : Fin 4} {i : Nat} {x : Int32} (hd : decode (am_c mid) pc = .ok (.iload_n q, 1)) (hq : (q : Nat) = i) (hv : ls[i]? = some (some (.int x))) (k : wp X d mid bc bs (pc + 1) ls (.int x :: st) N post) : wp X d mid bc bs pc ls (st) N post := by
  intro G p l e R s m args below meth c mc ms Q hC hK hR hret H locs cells slots lsr hW hS hc hs hl hn
  obtain ⟨hx, hb, hml, hown, hts, hnm, hdf, hdl⟩ := id hC
  exact lv_iload_n hx hb hd hq (las_at hl hv) (k G p l e R s m args below meth c mc ms Q hC hK hR hret H locs cells slots lsr hW hS hc hs hl hn)
theorem wr_iload {i : Nat} {x : Int32} (hd : decode (am_c mid) pc = .ok (.iload i, 2)) (hv : ls[i]? = some (some (.int x))) (k : wp X d mid bc bs (pc + 2) ls (.int x :: st) N post) : wp X d mid bc bs pc ls (st) N post := by
  intro G p l e R s m args below meth c mc ms Q hC hK hR hret H locs cells slots lsr hW hS hc hs hl hn
  obtain ⟨hx, hb, hml, hown, hts, hnm, hdf, hdl⟩ := id hC
  exact lv_iload hx hb hd (las_at hl hv) (k G p l e R s m args below meth c mc ms Q hC hK hR hret H locs cells slots lsr hW hS hc hs hl hn)
theorem wr_istore_n {q : Fin 4} {i : Nat} {x : Int32} (hd : decode (am_c mid) pc = .ok (.istore_n q, 1)) (hq : (q : Nat) = i) (hi : i < am_l mid) (k : wp X d mid bc bs (pc + 1) (lvc ls i (.int x)) (st) N post) : wp X d mid bc bs pc ls (.int x :: st) N post := by
  intro G p l e R s m args below meth c mc ms Q hC hK hR hret H locs cells slots lsr hW hS hc hs hl hn
  obtain ⟨hx, hb, hml, hown, hts, hnm, hdf, hdl⟩ := id hC
  exact lv_istore_n hx hb hd hq hl hi rfl (fun lsr' hl' => (k G p l e R s m args below meth c mc ms Q hC hK hR hret H locs cells slots lsr' hW hS hc hs (lvh_mono hl' (las_st1)) (by rw [lvc_len]; exact hn)))
theorem wr_istore {i : Nat} {x : Int32} (hd : decode (am_c mid) pc = .ok (.istore i, 2)) (hi : i < am_l mid) (k : wp X d mid bc bs (pc + 2) (lvc ls i (.int x)) (st) N post) : wp X d mid bc bs pc ls (.int x :: st) N post := by
  intro G p l e R s m args below meth c mc ms Q hC hK hR hret H locs cells slots lsr hW hS hc hs hl hn
  obtain ⟨hx, hb, hml, hown, hts, hnm, hdf, hdl⟩ := id hC
  exact lv_istore hx hb hd hl hi rfl (fun lsr' hl' => (k G p l e R s m args below meth c mc ms Q hC hK hR hret H locs cells slots lsr' hW hS hc hs (lvh_mono hl' (las_st1)) (by rw [lvc_len]; exact hn)))
theorem wr_lload_n {q : Fin 4} {i : Nat} {x : Int64} (hd : decode (am_c mid) pc = .ok (.lload_n q, 1)) (hq : (q : Nat) = i) (hv : ls[i]? = some (some (.long x))) (k : wp X d mid bc bs (pc + 1) ls (.long x :: st) N post) : wp X d mid bc bs pc ls (st) N post := by
  intro G p l e R s m args below meth c mc ms Q hC hK hR hret H locs cells slots lsr hW hS hc hs hl hn
  obtain ⟨hx, hb, hml, hown, hts, hnm, hdf, hdl⟩ := id hC
  exact lv_lload_n hx hb hd hq (las_at hl hv) (k G p l e R s m args below meth c mc ms Q hC hK hR hret H locs cells slots lsr hW hS hc hs hl hn)
theorem wr_lload {i : Nat} {x : Int64} (hd : decode (am_c mid) pc = .ok (.lload i, 2)) (hv : ls[i]? = some (some (.long x))) (k : wp X d mid bc bs (pc + 2) ls (.long x :: st) N post) : wp X d mid bc bs pc ls (st) N post := by
  intro G p l e R s m args below meth c mc ms Q hC hK hR hret H locs cells slots lsr hW hS hc hs hl hn
  obtain ⟨hx, hb, hml, hown, hts, hnm, hdf, hdl⟩ := id hC
  exact lv_lload hx hb hd (las_at hl hv) (k G p l e R s m args below meth c mc ms Q hC hK hR hret H locs cells slots lsr hW hS hc hs hl hn)
theorem wr_lstore_n {q : Fin 4} {i : Nat} {x : Int64} (hd : decode (am_c mid) pc = .ok (.lstore_n q, 1)) (hq : (q : Nat) = i) (hi : i + 1 < am_l mid) (k : wp X d mid bc bs (pc + 1) (lvd ls i (.long x)) (st) N post) : wp X d mid bc bs pc ls (.long x :: st) N post := by
  intro G p l e R s m args below meth c mc ms Q hC hK hR hret H locs cells slots lsr hW hS hc hs hl hn
  obtain ⟨hx, hb, hml, hown, hts, hnm, hdf, hdl⟩ := id hC
  exact lv_lstore_n hx hb hd hq hl hi rfl (fun lsr' hl' => (k G p l e R s m args below meth c mc ms Q hC hK hR hret H locs cells slots lsr' hW hS hc hs (lvh_mono hl' (las_st2 (by omega))) (by rw [lvd_len]; exact hn)))
theorem wr_lstore {i : Nat} {x : Int64} (hd : decode (am_c mid) pc = .ok (.lstore i, 2)) (hi : i + 1 < am_l mid) (k : wp X d mid bc bs (pc + 2) (lvd ls i (.long x)) (st) N post) : wp X d mid bc bs pc ls (.long x :: st) N post := by
  intro G p l e R s m args below meth c mc ms Q hC hK hR hret H locs cells slots lsr hW hS hc hs hl hn
  obtain ⟨hx, hb, hml, hown, hts, hnm, hdf, hdl⟩ := id hC
  exact lv_lstore hx hb hd hl hi rfl (fun lsr' hl' => (k G p l e R s m args below meth c mc ms Q hC hK hR hret H locs cells slots lsr' hW hS hc hs (lvh_mono hl' (las_st2 (by omega))) (by rw [lvd_len]; exact hn)))
theorem wr_aload_n {q : Fin 4} {i : Nat} {x : Nat} (hd : decode (am_c mid) pc = .ok (.aload_n q, 1)) (hq : (q : Nat) = i) (hv : ls[i]? = some (some (.ref x))) (k : wp X d mid bc bs (pc + 1) ls (.ref x :: st) N post) : wp X d mid bc bs pc ls (st) N post := by
  intro G p l e R s m args below meth c mc ms Q hC hK hR hret H locs cells slots lsr hW hS hc hs hl hn
  obtain ⟨hx, hb, hml, hown, hts, hnm, hdf, hdl⟩ := id hC
  exact lv_aload_n hx hb hd hq (las_at hl hv) (k G p l e R s m args below meth c mc ms Q hC hK hR hret H locs cells slots lsr hW hS hc hs hl hn)
theorem wr_aload {i : Nat} {x : Nat} (hd : decode (am_c mid) pc = .ok (.aload i, 2)) (hv : ls[i]? = some (some (.ref x))) (k : wp X d mid bc bs (pc + 2) ls (.ref x :: st) N post) : wp X d mid bc bs pc ls (st) N post := by
  intro G p l e R s m args below meth c mc ms Q hC hK hR hret H locs cells slots lsr hW hS hc hs hl hn
  obtain ⟨hx, hb, hml, hown, hts, hnm, hdf, hdl⟩ := id hC
  exact lv_aload hx hb hd (las_at hl hv) (k G p l e R s m args below meth c mc ms Q hC hK hR hret H locs cells slots lsr hW hS hc hs hl hn)
theorem wr_astore_n {q : Fin 4} {i : Nat} {x : Nat} (hd : decode (am_c mid) pc = .ok (.astore_n q, 1)) (hq : (q : Nat) = i) (hi : i < am_l mid) (k : wp X d mid bc bs (pc + 1) (lvc ls i (.ref x)) (st) N post) : wp X d mid bc bs pc ls (.ref x :: st) N post := by
  intro G p l e R s m args below meth c mc ms Q hC hK hR hret H locs cells slots lsr hW hS hc hs hl hn
  obtain ⟨hx, hb, hml, hown, hts, hnm, hdf, hdl⟩ := id hC
  exact lv_astore_n hx hb hd hq hl hi rfl (fun lsr' hl' => (k G p l e R s m args below meth c mc ms Q hC hK hR hret H locs cells slots lsr' hW hS hc hs (lvh_mono hl' (las_st1)) (by rw [lvc_len]; exact hn)))
theorem wr_astore {i : Nat} {x : Nat} (hd : decode (am_c mid) pc = .ok (.astore i, 2)) (hi : i < am_l mid) (k : wp X d mid bc bs (pc + 2) (lvc ls i (.ref x)) (st) N post) : wp X d mid bc bs pc ls (.ref x :: st) N post := by
  intro G p l e R s m args below meth c mc ms Q hC hK hR hret H locs cells slots lsr hW hS hc hs hl hn
  obtain ⟨hx, hb, hml, hown, hts, hnm, hdf, hdl⟩ := id hC
  exact lv_astore hx hb hd hl hi rfl (fun lsr' hl' => (k G p l e R s m args below meth c mc ms Q hC hK hR hret H locs cells slots lsr' hW hS hc hs (lvh_mono hl' (las_st1)) (by rw [lvc_len]; exact hn)))
theorem wr_iinc {i : Nat} {n : Int} {x v : Int32} (hd : decode (am_c mid) pc = .ok (.iinc i n, 3)) (hv : ls[i]? = some (some (.int x))) (hn0 : Int32.ofInt n = v) (hi : i < am_l mid) (k : wp X d mid bc bs (pc + 3) (lvc ls i (.int (x + v))) st N post) : wp X d mid bc bs pc ls st N post := by
  intro G p l e R s m args below meth c mc ms Q hC hK hR hret H locs cells slots lsr hW hS hc hs hl hn
  obtain ⟨hx, hb, hml, hown, hts, hnm, hdf, hdl⟩ := id hC
  have hm := las_mem (G := G) ls i 0 _ hv
  rw [Nat.zero_add] at hm
  obtain ⟨q, hq⟩ := List.getElem?_of_mem hm
  subst hn0
  exact lv_iinc (v := x + Int32.ofInt n) hx hb hd hl hq rfl hi rfl (fun lsr' hl' => (k G p l e R s m args below meth c mc ms Q hC hK hR hret H locs cells slots lsr' hW hS hc hs (lvh_mono hl' las_st1) (by rw [lvc_len]; exact hn)))
theorem wr_iadd {x y : Int32} (hd : decode (am_c mid) pc = .ok (.iadd, 1))  (k : wp X d mid bc bs (pc + 1) ls (.int (x + y) :: st) N post) : wp X d mid bc bs pc ls (.int y :: .int x :: st) N post := by
  intro G p l e R s m args below meth c mc ms Q hC hK hR hret H locs cells slots lsr hW hS hc hs hl hn
  obtain ⟨hx, hb, hml, hown, hts, hnm, hdf, hdl⟩ := id hC
  exact lv_iadd hx hb hd (k G p l e R s m args below meth c mc ms Q hC hK hR hret H locs cells slots lsr hW hS hc hs hl hn)
theorem wr_isub {x y : Int32} (hd : decode (am_c mid) pc = .ok (.isub, 1))  (k : wp X d mid bc bs (pc + 1) ls (.int (x - y) :: st) N post) : wp X d mid bc bs pc ls (.int y :: .int x :: st) N post := by
  intro G p l e R s m args below meth c mc ms Q hC hK hR hret H locs cells slots lsr hW hS hc hs hl hn
  obtain ⟨hx, hb, hml, hown, hts, hnm, hdf, hdl⟩ := id hC
  exact lv_isub hx hb hd (k G p l e R s m args below meth c mc ms Q hC hK hR hret H locs cells slots lsr hW hS hc hs hl hn)
theorem wr_imul {x y : Int32} (hd : decode (am_c mid) pc = .ok (.imul, 1))  (k : wp X d mid bc bs (pc + 1) ls (.int (x * y) :: st) N post) : wp X d mid bc bs pc ls (.int y :: .int x :: st) N post := by
  intro G p l e R s m args below meth c mc ms Q hC hK hR hret H locs cells slots lsr hW hS hc hs hl hn
  obtain ⟨hx, hb, hml, hown, hts, hnm, hdf, hdl⟩ := id hC
  exact lv_imul hx hb hd (k G p l e R s m args below meth c mc ms Q hC hK hR hret H locs cells slots lsr hW hS hc hs hl hn)
theorem wr_iand {x y : Int32} (hd : decode (am_c mid) pc = .ok (.iand, 1))  (k : wp X d mid bc bs (pc + 1) ls (.int (x &&& y) :: st) N post) : wp X d mid bc bs pc ls (.int y :: .int x :: st) N post := by
  intro G p l e R s m args below meth c mc ms Q hC hK hR hret H locs cells slots lsr hW hS hc hs hl hn
  obtain ⟨hx, hb, hml, hown, hts, hnm, hdf, hdl⟩ := id hC
  exact lv_iand hx hb hd (k G p l e R s m args below meth c mc ms Q hC hK hR hret H locs cells slots lsr hW hS hc hs hl hn)
theorem wr_ior {x y : Int32} (hd : decode (am_c mid) pc = .ok (.ior, 1))  (k : wp X d mid bc bs (pc + 1) ls (.int (x ||| y) :: st) N post) : wp X d mid bc bs pc ls (.int y :: .int x :: st) N post := by
  intro G p l e R s m args below meth c mc ms Q hC hK hR hret H locs cells slots lsr hW hS hc hs hl hn
  obtain ⟨hx, hb, hml, hown, hts, hnm, hdf, hdl⟩ := id hC
  exact lv_ior hx hb hd (k G p l e R s m args below meth c mc ms Q hC hK hR hret H locs cells slots lsr hW hS hc hs hl hn)
theorem wr_ixor {x y : Int32} (hd : decode (am_c mid) pc = .ok (.ixor, 1))  (k : wp X d mid bc bs (pc + 1) ls (.int (x ^^^ y) :: st) N post) : wp X d mid bc bs pc ls (.int y :: .int x :: st) N post := by
  intro G p l e R s m args below meth c mc ms Q hC hK hR hret H locs cells slots lsr hW hS hc hs hl hn
  obtain ⟨hx, hb, hml, hown, hts, hnm, hdf, hdl⟩ := id hC
  exact lv_ixor hx hb hd (k G p l e R s m args below meth c mc ms Q hC hK hR hret H locs cells slots lsr hW hS hc hs hl hn)
theorem wr_ishl {x y : Int32} (hd : decode (am_c mid) pc = .ok (.ishl, 1))  (k : wp X d mid bc bs (pc + 1) ls (.int (x <<< (y &&& 31)) :: st) N post) : wp X d mid bc bs pc ls (.int y :: .int x :: st) N post := by
  intro G p l e R s m args below meth c mc ms Q hC hK hR hret H locs cells slots lsr hW hS hc hs hl hn
  obtain ⟨hx, hb, hml, hown, hts, hnm, hdf, hdl⟩ := id hC
  exact lv_ishl hx hb hd (k G p l e R s m args below meth c mc ms Q hC hK hR hret H locs cells slots lsr hW hS hc hs hl hn)
theorem wr_ishr {x y : Int32} (hd : decode (am_c mid) pc = .ok (.ishr, 1))  (k : wp X d mid bc bs (pc + 1) ls (.int (x >>> (y &&& 31)) :: st) N post) : wp X d mid bc bs pc ls (.int y :: .int x :: st) N post := by
  intro G p l e R s m args below meth c mc ms Q hC hK hR hret H locs cells slots lsr hW hS hc hs hl hn
  obtain ⟨hx, hb, hml, hown, hts, hnm, hdf, hdl⟩ := id hC
  exact lv_ishr hx hb hd (k G p l e R s m args below meth c mc ms Q hC hK hR hret H locs cells slots lsr hW hS hc hs hl hn)
theorem wr_iushr {x y : Int32} (hd : decode (am_c mid) pc = .ok (.iushr, 1))  (k : wp X d mid bc bs (pc + 1) ls (.int (x.toUInt32 >>> (y.toUInt32 &&& Int32.toUInt32 31)).toInt32 :: st) N post) : wp X d mid bc bs pc ls (.int y :: .int x :: st) N post := by
  intro G p l e R s m args below meth c mc ms Q hC hK hR hret H locs cells slots lsr hW hS hc hs hl hn
  obtain ⟨hx, hb, hml, hown, hts, hnm, hdf, hdl⟩ := id hC
  exact lv_iushr hx hb hd rfl (k G p l e R s m args below meth c mc ms Q hC hK hR hret H locs cells slots lsr hW hS hc hs hl hn)
theorem wr_idiv {x y : Int32} (hd : decode (am_c mid) pc = .ok (.idiv, 1)) (h0 : ¬ y = 0) (k : wp X d mid bc bs (pc + 1) ls (.int (x / y) :: st) N post) : wp X d mid bc bs pc ls (.int y :: .int x :: st) N post := by
  intro G p l e R s m args below meth c mc ms Q hC hK hR hret H locs cells slots lsr hW hS hc hs hl hn
  obtain ⟨hx, hb, hml, hown, hts, hnm, hdf, hdl⟩ := id hC
  exact lv_idiv hx hb hd h0 (k G p l e R s m args below meth c mc ms Q hC hK hR hret H locs cells slots lsr hW hS hc hs hl hn)
theorem wr_irem {x y : Int32} (hd : decode (am_c mid) pc = .ok (.irem, 1)) (h0 : ¬ y = 0) (k : wp X d mid bc bs (pc + 1) ls (.int (x - x / y * y) :: st) N post) : wp X d mid bc bs pc ls (.int y :: .int x :: st) N post := by
  intro G p l e R s m args below meth c mc ms Q hC hK hR hret H locs cells slots lsr hW hS hc hs hl hn
  obtain ⟨hx, hb, hml, hown, hts, hnm, hdf, hdl⟩ := id hC
  exact lv_irem hx hb hd h0 (k G p l e R s m args below meth c mc ms Q hC hK hR hret H locs cells slots lsr hW hS hc hs hl hn)
theorem wr_ladd {x y : Int64} (hd : decode (am_c mid) pc = .ok (.ladd, 1))  (k : wp X d mid bc bs (pc + 1) ls (.long (x + y) :: st) N post) : wp X d mid bc bs pc ls (.long y :: .long x :: st) N post := by
  intro G p l e R s m args below meth c mc ms Q hC hK hR hret H locs cells slots lsr hW hS hc hs hl hn
  obtain ⟨hx, hb, hml, hown, hts, hnm, hdf, hdl⟩ := id hC
  exact lv_ladd hx hb hd (k G p l e R s m args below meth c mc ms Q hC hK hR hret H locs cells slots lsr hW hS hc hs hl hn)
theorem wr_lmul {x y : Int64} (hd : decode (am_c mid) pc = .ok (.lmul, 1))  (k : wp X d mid bc bs (pc + 1) ls (.long (x * y) :: st) N post) : wp X d mid bc bs pc ls (.long y :: .long x :: st) N post := by
  intro G p l e R s m args below meth c mc ms Q hC hK hR hret H locs cells slots lsr hW hS hc hs hl hn
  obtain ⟨hx, hb, hml, hown, hts, hnm, hdf, hdl⟩ := id hC
  exact lv_lmul hx hb hd (k G p l e R s m args below meth c mc ms Q hC hK hR hret H locs cells slots lsr hW hS hc hs hl hn)
theorem wr_ldiv {x y : Int64} (hd : decode (am_c mid) pc = .ok (.ldiv, 1)) (h0 : ¬ y = 0) (k : wp X d mid bc bs (pc + 1) ls (.long (x / y) :: st) N post) : wp X d mid bc bs pc ls (.long y :: .long x :: st) N post := by
  intro G p l e R s m args below meth c mc ms Q hC hK hR hret H locs cells slots lsr hW hS hc hs hl hn
  obtain ⟨hx, hb, hml, hown, hts, hnm, hdf, hdl⟩ := id hC
  exact lv_ldiv hx hb hd h0 (k G p l e R s m args below meth c mc ms Q hC hK hR hret H locs cells slots lsr hW hS hc hs hl hn)
theorem wr_lrem {x y : Int64} (hd : decode (am_c mid) pc = .ok (.lrem, 1)) (h0 : ¬ y = 0) (k : wp X d mid bc bs (pc + 1) ls (.long (x - x / y * y) :: st) N post) : wp X d mid bc bs pc ls (.long y :: .long x :: st) N post := by
  intro G p l e R s m args below meth c mc ms Q hC hK hR hret H locs cells slots lsr hW hS hc hs hl hn
  obtain ⟨hx, hb, hml, hown, hts, hnm, hdf, hdl⟩ := id hC
  exact lv_lrem hx hb hd h0 (k G p l e R s m args below meth c mc ms Q hC hK hR hret H locs cells slots lsr hW hS hc hs hl hn)
theorem wr_lcmp {x y : Int64} (hd : decode (am_c mid) pc = .ok (.lcmp, 1))  (k : wp X d mid bc bs (pc + 1) ls (.int (lg_cmp x y) :: st) N post) : wp X d mid bc bs pc ls (.long y :: .long x :: st) N post := by
  intro G p l e R s m args below meth c mc ms Q hC hK hR hret H locs cells slots lsr hW hS hc hs hl hn
  obtain ⟨hx, hb, hml, hown, hts, hnm, hdf, hdl⟩ := id hC
  exact W.lcmp hx hb hd (k G p l e R s m args below meth c mc ms Q hC hK hR hret H locs cells slots lsr hW hS hc hs hl hn)
theorem wr_i2l {x : Int32} (hd : decode (am_c mid) pc = .ok (.i2l, 1))  (k : wp X d mid bc bs (pc + 1) ls (.long x.toInt64 :: st) N post) : wp X d mid bc bs pc ls (.int x :: st) N post := by
  intro G p l e R s m args below meth c mc ms Q hC hK hR hret H locs cells slots lsr hW hS hc hs hl hn
  obtain ⟨hx, hb, hml, hown, hts, hnm, hdf, hdl⟩ := id hC
  exact lv_i2l hx hb hd rfl (k G p l e R s m args below meth c mc ms Q hC hK hR hret H locs cells slots lsr hW hS hc hs hl hn)
theorem wr_l2i {x : Int64} (hd : decode (am_c mid) pc = .ok (.l2i, 1))  (k : wp X d mid bc bs (pc + 1) ls (.int x.toInt32 :: st) N post) : wp X d mid bc bs pc ls (.long x :: st) N post := by
  intro G p l e R s m args below meth c mc ms Q hC hK hR hret H locs cells slots lsr hW hS hc hs hl hn
  obtain ⟨hx, hb, hml, hown, hts, hnm, hdf, hdl⟩ := id hC
  exact lv_l2i hx hb hd rfl (k G p l e R s m args below meth c mc ms Q hC hK hR hret H locs cells slots lsr hW hS hc hs hl hn)
theorem wr_i2b {x : Int32} (hd : decode (am_c mid) pc = .ok (.i2b, 1))  (k : wp X d mid bc bs (pc + 1) ls (.int x.toInt8.toInt32 :: st) N post) : wp X d mid bc bs pc ls (.int x :: st) N post := by
  intro G p l e R s m args below meth c mc ms Q hC hK hR hret H locs cells slots lsr hW hS hc hs hl hn
  obtain ⟨hx, hb, hml, hown, hts, hnm, hdf, hdl⟩ := id hC
  exact lv_i2b hx hb hd rfl (k G p l e R s m args below meth c mc ms Q hC hK hR hret H locs cells slots lsr hW hS hc hs hl hn)
theorem wr_dup {v : Value} (hd : decode (am_c mid) pc = .ok (.dup, 1)) (hv : v.category = 1) (k : wp X d mid bc bs (pc + 1) ls (v :: v :: st) N post) : wp X d mid bc bs pc ls (v :: st) N post := by
  intro G p l e R s m args below meth c mc ms Q hC hK hR hret H locs cells slots lsr hW hS hc hs hl hn
  obtain ⟨hx, hb, hml, hown, hts, hnm, hdf, hdl⟩ := id hC
  exact lv_dup hx hb hd ((rV_cat G v).trans hv) (k G p l e R s m args below meth c mc ms Q hC hK hR hret H locs cells slots lsr hW hS hc hs hl hn)
theorem wr_dup2 {v w : Value} (hd : decode (am_c mid) pc = .ok (.dup2, 1)) (hv : v.category = 1) (hw : w.category = 1) (k : wp X d mid bc bs (pc + 1) ls (v :: w :: v :: w :: st) N post) : wp X d mid bc bs pc ls (v :: w :: st) N post := by
  intro G p l e R s m args below meth c mc ms Q hC hK hR hret H locs cells slots lsr hW hS hc hs hl hn
  obtain ⟨hx, hb, hml, hown, hts, hnm, hdf, hdl⟩ := id hC
  exact lv_dup2_11 hx hb hd ((rV_cat G v).trans hv) ((rV_cat G w).trans hw) (k G p l e R s m args below meth c mc ms Q hC hK hR hret H locs cells slots lsr hW hS hc hs hl hn)
theorem wr_if_eq {x : Int32} {off : Int} {t : Nat} (hd : decode (am_c mid) pc = .ok (.ifCond .eq off, 3)) (ht : (pc : Int) + off = (t : Int)) (k : x = 0 → wp X d mid bc bs t ls st N post) (k2 : ¬ x = 0 → wp X d mid bc bs (pc + 3) ls st N post) : wp X d mid bc bs pc ls (.int x :: st) N post := by
  intro G p l e R s m args below meth c mc ms Q hC hK hR hret H locs cells slots lsr hW hS hc hs hl hn
  obtain ⟨hx, hb, hml, hown, hts, hnm, hdf, hdl⟩ := id hC
  exact lv_if_eq hx hb hd ht (fun h => (k h G p l e R s m args below meth c mc ms Q hC hK hR hret H locs cells slots lsr hW hS hc hs hl hn)) (fun h => (k2 h G p l e R s m args below meth c mc ms Q hC hK hR hret H locs cells slots lsr hW hS hc hs hl hn))
theorem wr_icmp_eq {x y : Int32} {off : Int} {t : Nat} (hd : decode (am_c mid) pc = .ok (.if_icmp .eq off, 3)) (ht : (pc : Int) + off = (t : Int)) (k : x = y → wp X d mid bc bs t ls st N post) (k2 : ¬ x = y → wp X d mid bc bs (pc + 3) ls st N post) : wp X d mid bc bs pc ls (.int y :: .int x :: st) N post := by
  intro G p l e R s m args below meth c mc ms Q hC hK hR hret H locs cells slots lsr hW hS hc hs hl hn
  obtain ⟨hx, hb, hml, hown, hts, hnm, hdf, hdl⟩ := id hC
  exact lv_icmp_eq hx hb hd ht (fun h => (k h G p l e R s m args below meth c mc ms Q hC hK hR hret H locs cells slots lsr hW hS hc hs hl hn)) (fun h => (k2 h G p l e R s m args below meth c mc ms Q hC hK hR hret H locs cells slots lsr hW hS hc hs hl hn))
theorem wr_if_ne {x : Int32} {off : Int} {t : Nat} (hd : decode (am_c mid) pc = .ok (.ifCond .ne off, 3)) (ht : (pc : Int) + off = (t : Int)) (k : ¬ x = 0 → wp X d mid bc bs t ls st N post) (k2 : x = 0 → wp X d mid bc bs (pc + 3) ls st N post) : wp X d mid bc bs pc ls (.int x :: st) N post := by
  intro G p l e R s m args below meth c mc ms Q hC hK hR hret H locs cells slots lsr hW hS hc hs hl hn
  obtain ⟨hx, hb, hml, hown, hts, hnm, hdf, hdl⟩ := id hC
  exact lv_if_ne hx hb hd ht (fun h => (k h G p l e R s m args below meth c mc ms Q hC hK hR hret H locs cells slots lsr hW hS hc hs hl hn)) (fun h => (k2 h G p l e R s m args below meth c mc ms Q hC hK hR hret H locs cells slots lsr hW hS hc hs hl hn))
theorem wr_icmp_ne {x y : Int32} {off : Int} {t : Nat} (hd : decode (am_c mid) pc = .ok (.if_icmp .ne off, 3)) (ht : (pc : Int) + off = (t : Int)) (k : ¬ x = y → wp X d mid bc bs t ls st N post) (k2 : x = y → wp X d mid bc bs (pc + 3) ls st N post) : wp X d mid bc bs pc ls (.int y :: .int x :: st) N post := by
  intro G p l e R s m args below meth c mc ms Q hC hK hR hret H locs cells slots lsr hW hS hc hs hl hn
  obtain ⟨hx, hb, hml, hown, hts, hnm, hdf, hdl⟩ := id hC
  exact lv_icmp_ne hx hb hd ht (fun h => (k h G p l e R s m args below meth c mc ms Q hC hK hR hret H locs cells slots lsr hW hS hc hs hl hn)) (fun h => (k2 h G p l e R s m args below meth c mc ms Q hC hK hR hret H locs cells slots lsr hW hS hc hs hl hn))
theorem wr_if_lt {x : Int32} {off : Int} {t : Nat} (hd : decode (am_c mid) pc = .ok (.ifCond .lt off, 3)) (ht : (pc : Int) + off = (t : Int)) (k : x < 0 → wp X d mid bc bs t ls st N post) (k2 : ¬ x < 0 → wp X d mid bc bs (pc + 3) ls st N post) : wp X d mid bc bs pc ls (.int x :: st) N post := by
  intro G p l e R s m args below meth c mc ms Q hC hK hR hret H locs cells slots lsr hW hS hc hs hl hn
  obtain ⟨hx, hb, hml, hown, hts, hnm, hdf, hdl⟩ := id hC
  exact lv_if_lt hx hb hd ht (fun h => (k h G p l e R s m args below meth c mc ms Q hC hK hR hret H locs cells slots lsr hW hS hc hs hl hn)) (fun h => (k2 h G p l e R s m args below meth c mc ms Q hC hK hR hret H locs cells slots lsr hW hS hc hs hl hn))
theorem wr_icmp_lt {x y : Int32} {off : Int} {t : Nat} (hd : decode (am_c mid) pc = .ok (.if_icmp .lt off, 3)) (ht : (pc : Int) + off = (t : Int)) (k : x < y → wp X d mid bc bs t ls st N post) (k2 : ¬ x < y → wp X d mid bc bs (pc + 3) ls st N post) : wp X d mid bc bs pc ls (.int y :: .int x :: st) N post := by
  intro G p l e R s m args below meth c mc ms Q hC hK hR hret H locs cells slots lsr hW hS hc hs hl hn
  obtain ⟨hx, hb, hml, hown, hts, hnm, hdf, hdl⟩ := id hC
  exact lv_icmp_lt hx hb hd ht (fun h => (k h G p l e R s m args below meth c mc ms Q hC hK hR hret H locs cells slots lsr hW hS hc hs hl hn)) (fun h => (k2 h G p l e R s m args below meth c mc ms Q hC hK hR hret H locs cells slots lsr hW hS hc hs hl hn))
theorem wr_if_ge {x : Int32} {off : Int} {t : Nat} (hd : decode (am_c mid) pc = .ok (.ifCond .ge off, 3)) (ht : (pc : Int) + off = (t : Int)) (k : 0 ≤ x → wp X d mid bc bs t ls st N post) (k2 : ¬ 0 ≤ x → wp X d mid bc bs (pc + 3) ls st N post) : wp X d mid bc bs pc ls (.int x :: st) N post := by
  intro G p l e R s m args below meth c mc ms Q hC hK hR hret H locs cells slots lsr hW hS hc hs hl hn
  obtain ⟨hx, hb, hml, hown, hts, hnm, hdf, hdl⟩ := id hC
  exact lv_if_ge hx hb hd ht (fun h => (k h G p l e R s m args below meth c mc ms Q hC hK hR hret H locs cells slots lsr hW hS hc hs hl hn)) (fun h => (k2 h G p l e R s m args below meth c mc ms Q hC hK hR hret H locs cells slots lsr hW hS hc hs hl hn))
theorem wr_icmp_ge {x y : Int32} {off : Int} {t : Nat} (hd : decode (am_c mid) pc = .ok (.if_icmp .ge off, 3)) (ht : (pc : Int) + off = (t : Int)) (k : y ≤ x → wp X d mid bc bs t ls st N post) (k2 : ¬ y ≤ x → wp X d mid bc bs (pc + 3) ls st N post) : wp X d mid bc bs pc ls (.int y :: .int x :: st) N post := by
  intro G p l e R s m args below meth c mc ms Q hC hK hR hret H locs cells slots lsr hW hS hc hs hl hn
  obtain ⟨hx, hb, hml, hown, hts, hnm, hdf, hdl⟩ := id hC
  exact lv_icmp_ge hx hb hd ht (fun h => (k h G p l e R s m args below meth c mc ms Q hC hK hR hret H locs cells slots lsr hW hS hc hs hl hn)) (fun h => (k2 h G p l e R s m args below meth c mc ms Q hC hK hR hret H locs cells slots lsr hW hS hc hs hl hn))
theorem wr_if_gt {x : Int32} {off : Int} {t : Nat} (hd : decode (am_c mid) pc = .ok (.ifCond .gt off, 3)) (ht : (pc : Int) + off = (t : Int)) (k : 0 < x → wp X d mid bc bs t ls st N post) (k2 : ¬ 0 < x → wp X d mid bc bs (pc + 3) ls st N post) : wp X d mid bc bs pc ls (.int x :: st) N post := by
  intro G p l e R s m args below meth c mc ms Q hC hK hR hret H locs cells slots lsr hW hS hc hs hl hn
  obtain ⟨hx, hb, hml, hown, hts, hnm, hdf, hdl⟩ := id hC
  exact lv_if_gt hx hb hd ht (fun h => (k h G p l e R s m args below meth c mc ms Q hC hK hR hret H locs cells slots lsr hW hS hc hs hl hn)) (fun h => (k2 h G p l e R s m args below meth c mc ms Q hC hK hR hret H locs cells slots lsr hW hS hc hs hl hn))
theorem wr_icmp_gt {x y : Int32} {off : Int} {t : Nat} (hd : decode (am_c mid) pc = .ok (.if_icmp .gt off, 3)) (ht : (pc : Int) + off = (t : Int)) (k : y < x → wp X d mid bc bs t ls st N post) (k2 : ¬ y < x → wp X d mid bc bs (pc + 3) ls st N post) : wp X d mid bc bs pc ls (.int y :: .int x :: st) N post := by
  intro G p l e R s m args below meth c mc ms Q hC hK hR hret H locs cells slots lsr hW hS hc hs hl hn
  obtain ⟨hx, hb, hml, hown, hts, hnm, hdf, hdl⟩ := id hC
  exact lv_icmp_gt hx hb hd ht (fun h => (k h G p l e R s m args below meth c mc ms Q hC hK hR hret H locs cells slots lsr hW hS hc hs hl hn)) (fun h => (k2 h G p l e R s m args below meth c mc ms Q hC hK hR hret H locs cells slots lsr hW hS hc hs hl hn))
theorem wr_if_le {x : Int32} {off : Int} {t : Nat} (hd : decode (am_c mid) pc = .ok (.ifCond .le off, 3)) (ht : (pc : Int) + off = (t : Int)) (k : x ≤ 0 → wp X d mid bc bs t ls st N post) (k2 : ¬ x ≤ 0 → wp X d mid bc bs (pc + 3) ls st N post) : wp X d mid bc bs pc ls (.int x :: st) N post := by
  intro G p l e R s m args below meth c mc ms Q hC hK hR hret H locs cells slots lsr hW hS hc hs hl hn
  obtain ⟨hx, hb, hml, hown, hts, hnm, hdf, hdl⟩ := id hC
  exact lv_if_le hx hb hd ht (fun h => (k h G p l e R s m args below meth c mc ms Q hC hK hR hret H locs cells slots lsr hW hS hc hs hl hn)) (fun h => (k2 h G p l e R s m args below meth c mc ms Q hC hK hR hret H locs cells slots lsr hW hS hc hs hl hn))
theorem wr_icmp_le {x y : Int32} {off : Int} {t : Nat} (hd : decode (am_c mid) pc = .ok (.if_icmp .le off, 3)) (ht : (pc : Int) + off = (t : Int)) (k : x ≤ y → wp X d mid bc bs t ls st N post) (k2 : ¬ x ≤ y → wp X d mid bc bs (pc + 3) ls st N post) : wp X d mid bc bs pc ls (.int y :: .int x :: st) N post := by
  intro G p l e R s m args below meth c mc ms Q hC hK hR hret H locs cells slots lsr hW hS hc hs hl hn
  obtain ⟨hx, hb, hml, hown, hts, hnm, hdf, hdl⟩ := id hC
  exact lv_icmp_le hx hb hd ht (fun h => (k h G p l e R s m args below meth c mc ms Q hC hK hR hret H locs cells slots lsr hW hS hc hs hl hn)) (fun h => (k2 h G p l e R s m args below meth c mc ms Q hC hK hR hret H locs cells slots lsr hW hS hc hs hl hn))
theorem wr_goto {off : Int} {t : Nat} (hd : decode (am_c mid) pc = .ok (.goto off, 3)) (ht : (pc : Int) + off = (t : Int)) (k : wp X d mid bc bs t ls st N post) : wp X d mid bc bs pc ls st N post := by
  intro G p l e R s m args below meth c mc ms Q hC hK hR hret H locs cells slots lsr hW hS hc hs hl hn
  obtain ⟨hx, hb, hml, hown, hts, hnm, hdf, hdl⟩ := id hC
  exact lv_goto hx hb hd ht (k G p l e R s m args below meth c mc ms Q hC hK hR hret H locs cells slots lsr hW hS hc hs hl hn)
theorem wr_ret {r : Option Value} (hr : aRt mid pc r) (hp : post r N) : wp X d mid bc bs pc ls (pR r []) N post := by
  intro G p l e R s m args below meth c mc ms Q hC hK hR hret H locs cells slots lsr hW hS hc hs hl hn
  obtain ⟨hx, hb, hml, hown, hts, hnm, hdf, hdl⟩ := id hC
  exact hret H locs cells slots lsr pc r N hp hW hS (by omega) (by omega) hr
end
section
/-! the classes, by number -/
abbrev qR (ci : Nat) : String := (am_cl.getD ci (am_R0, am_T0, 0)).1
abbrev qT (ci : Nat) : u_T := (am_cl.getD ci (am_R0, am_T0, 0)).2.1
abbrev qM (ci : Nat) : Nat := (am_cl.getD ci (am_R0, am_T0, 0)).2.2
def qY (ci : Nat) : Nat → FieldType := match ci with
  | 0 => am_t0
  | 1 => am_t1
  | 2 => am_t2
  | 3 => am_t3
  | _ => am_t4
theorem q_cl {ci : Nat} (h : ci < 5) : am_cl[ci]? = some (qR ci, qT ci, qM ci) := by
  rcases (show ci = 0 ∨ ci = 1 ∨ ci = 2 ∨ ci = 3 ∨ ci = 4 by omega) with rfl | rfl | rfl | rfl | rfl <;> rfl
theorem q_in {ci : Nat} (h : ci < 5) : ∀ w ∈ u_ws (qR ci) (qT ci) (qM ci), w ∈ am_big := by
  rcases (show ci = 0 ∨ ci = 1 ∨ ci = 2 ∨ ci = 3 ∨ ci = 4 by omega) with rfl | rfl | rfl | rfl | rfl
  · exact am_w0
  · exact am_w1
  · exact am_w2
  · exact am_w3
  · exact am_w4
theorem q_ty {ci : Nat} (h : ci < 5) : ∀ k, k < qM ci → parseFieldDescriptor (qT ci k).2.2.1 = some (qY ci k) := by
  rcases (show ci = 0 ∨ ci = 1 ∨ ci = 2 ∨ ci = 3 ∨ ci = 4 by omega) with rfl | rfl | rfl | rfl | rfl
  · exact am_ty0
  · exact am_ty1
  · exact am_ty2
  · exact am_ty3
  · exact am_ty4
theorem q_nm {ci : Nat} (h : ci < 5) : ∀ a, a < qM ci → ∀ b, b < qM ci → a ≠ b → (qT ci a).2.1 ≠ (qT ci b).2.1 := by
  rcases (show ci = 0 ∨ ci = 1 ∨ ci = 2 ∨ ci = 3 ∨ ci = 4 by omega) with rfl | rfl | rfl | rfl | rfl
  · exact am_n0
  · exact am_n1
  · exact am_n2
  · exact am_n3
  · exact am_n4
theorem q_dc : ∀ ci, ci < 5 → ∀ k, k < qM ci → (qT ci k).1 = qR ci := by decide +kernel
theorem q_f0 : ∀ ci, ci < 5 → ∀ k, k < qM ci → am_ft ci k = 0 → qY ci k = .int ∧ (qT ci k).2.2.2 = false := by decide +kernel
theorem q_f1 : ∀ ci, ci < 5 → ∀ k, k < qM ci → am_ft ci k = 1 → qY ci k = .long ∧ (qT ci k).2.2.2 = false := by decide +kernel
theorem q_f3 : ∀ ci, ci < 5 → ∀ k, k < qM ci → am_ft ci k = 3 → qY ci k = .boolean ∧ (qT ci k).2.2.2 = false := by decide +kernel
theorem q_f2 : ∀ ci, ci < 5 → ∀ k, k < qM ci → am_ft ci k = 2 → qY ci k ∈ ([.array .int, .object am_R0, .object am_R1, .array (.object am_R0), .array (.object am_R2)] : List FieldType) ∧ (qT ci k).2.2.2 = true := by decide +kernel
/-! cells -/
section Cells
variable {G : aG} {N : aN}
theorem ws_at {a : Nat} (h : a < nC N) : (wsL G N)[a]? = some (G.1 + a, cE G N a) := by
  simp [wsL, h]
theorem ws_len : (wsL G N).length = nC N := by simp [wsL]
theorem cE_int {a n : Nat} (h : sH N a = (0, n)) : cE G N a = .inl (gI G, n, .inl (vI N a)) := by
  unfold cE; rw [h]; rfl
theorem cE_row {a n : Nat} (h : sH N a = (1, n)) : cE G N a = .inl (gR G, n, .inr (.inr (.inr (.inr (fun j => rO G (vR N a j)))))) := by
  unfold cE; rw [h]; rfl
theorem cE_clo {a n : Nat} (h : sH N a = (2, n)) : cE G N a = .inl (gC G, n, .inr (.inr (.inr (.inr (fun j => rO G (vR N a j)))))) := by
  unfold cE; rw [h]; rfl
theorem cE_obj {a ci M : Nat} (h : sH N a = (10 + ci, M)) : cE G N a = .inr (ci, (List.range M).map (fV G N ci a)) := by
  unfold cE; rw [h]
  have e : 10 + ci - 10 = ci := by omega
  simp only [e]
  rw [if_neg (by omega), if_neg (by omega), if_neg (by omega)]
theorem gA_lt {a : Nat} (h : a < nC N) (hn : nC N ≤ 1000) : gA G a = G.1 + a := by
  unfold gA
  rw [if_neg (by omega), if_neg (by omega), if_neg (by omega)]
theorem ws_ix {i : Nat} {q : Nat × va_E} (h : (wsL G N)[i]? = some q) : i < nC N ∧ q = (G.1 + i, cE G N i) := by
  have hl : i < nC N := by have := (List.getElem?_eq_some_iff.mp h).1; rwa [ws_len] at this
  rw [ws_at hl] at h
  exact ⟨hl, (Option.some.inj h).symm⟩
theorem wsD : va_D (gB G) (wsL G N) := by
  refine ⟨fun i j x y hi hj hxy => ?_, fun k q hk => ?_⟩
  · obtain ⟨-, rfl⟩ := ws_ix hi
    obtain ⟨-, rfl⟩ := ws_ix hj
    dsimp only at hxy
    omega
  · obtain ⟨-, rfl⟩ := ws_ix hk
    exact Nat.le_add_right _ _
theorem ws_set {N' : aN} {a : Nat} {e : va_E} (hn : nC N' = nC N) (ha : a < nC N) (he : e = cE G N' a) (ho : ∀ j, j ≠ a → cE G N' j = cE G N j) : (wsL G N).set a (G.1 + a, e) = wsL G N' := by
  apply List.ext_getElem?
  intro i
  by_cases hi : i < nC N
  · rw [ws_at (N := N') (by omega)]
    by_cases hia : i = a
    · subst hia
      rw [List.getElem?_set_self (by rw [ws_len]; exact hi), he]
    · rw [List.getElem?_set_ne (Ne.symm hia), ws_at hi, ho i hia]
  · rw [List.getElem?_eq_none (by rw [List.length_set, ws_len]; omega), List.getElem?_eq_none (by rw [ws_len]; omega)]
theorem fs_set {M k : Nat} {f g : Nat → Value} {v : Value} (hk : k < M) (hv : g k = v) (ho : ∀ j, j ≠ k → g j = f j) : ((List.range M).map f).set k v = (List.range M).map g := by
  apply List.ext_getElem?
  intro i
  by_cases hi : i = k
  · subst hi
    rw [List.getElem?_set_self (by simpa using hk)]
    simp [hk, hv]
  · rw [List.getElem?_set_ne (Ne.symm hi)]
    by_cases hM : i < M
    · simp [hM, ho i hi]
    · rw [List.getElem?_eq_none (by simpa using hM), List.getElem?_eq_none (by simpa using hM)]
theorem cE_cg {N' : aN} {j : Nat} (h1 : vI N' j = vI N j) (h2 : vL N' j = vL N j) (h3 : vR N' j = vR N j) (h4 : sH N' j = sH N j) : cE G N' j = cE G N j := by
  have hf : ∀ ci, fV G N' ci j = fV G N ci j := fun ci => by funext k; unfold fV; rw [h1, h2, h3]
  unfold cE
  rw [h1, h3, h4, hf]
theorem cE_sI {a j k : Nat} {x : Int32} (h : j ≠ a) : cE G (sI N a k x) j = cE G N j := cE_cg (if_neg h) rfl rfl rfl
theorem cE_sL {a j k : Nat} {x : Int64} (h : j ≠ a) : cE G (sL N a k x) j = cE G N j := cE_cg rfl (if_neg h) rfl rfl
theorem cE_sR {a j k : Nat} {x : Nat} (h : j ≠ a) : cE G (sR N a k x) j = cE G N j := cE_cg rfl rfl (if_neg h) rfl
theorem cE_sA {a j : Nat} {f : Nat → Int32} (h : j ≠ a) : cE G (sA N a f) j = cE G N j := cE_cg (if_neg h) rfl rfl rfl
end Cells

section R2
variable {X : aX} {d mid bc bs pc : Nat} {ls : aL} {st : List Value} {N : aN} {post : aO}
theorem wr_getI {ci k0 idx a : Nat} (ha : a < nC N) (hsh : sH N a = (10 + ci, qM ci)) (hci : ci < 5) (hk : k0 < qM ci) (hln : Cond.fieldLink (am_y mid).cls idx (qR ci) (qT ci k0).2.1 (qT ci k0).2.2.1 ∈ am_big) (hft : am_ft ci k0 = 0 ∨ am_ft ci k0 = 3)  (hd : decode (am_c mid) pc = .ok (.getfield idx, 3)) (k : wp X d mid bc bs (pc + 3) ls (.int (vI N a k0) :: st) N post) : wp X d mid bc bs pc ls (.ref a :: st) N post := by
  intro G p l e R s m args below meth c mc ms Q hC hK hR hret H locs cells slots lsr hW hS hc hs hl hn
  obtain ⟨hx, hb, hml, hown, hts, hnm, hdf, hdl⟩ := id hC
  have he := ws_at (G := G) ha
  rw [cE_obj hsh] at he
  have hg : rV G (.ref a) = .ref (G.1 + a) := by show Value.ref _ = _; rw [gA_lt ha hW.2.2]
  show W p l e R s m args below meth c H locs cells slots Q (F0 m pc lsr (rV G (.ref a) :: st.map (rV G)))
  rw [hg]
  refine va_get hx hb hts (q_in hci) hown hK.1 hW.1 a he (q_cl hci) k0 hk (hts _ hln) (fun x h => by rw [q_dc ci hci k0 hk] at h; exact h) (v := rV G (.int (vI N a k0))) ?_ hd (k G p l e R s m args below meth c mc ms Q hC hK hR hret H locs cells slots lsr hW hS hc hs hl hn)
  simp only [List.getElem?_map, List.getElem?_range hk, Option.map_some]
  rcases hft with h | h <;> simp [fV, h, rV]
theorem wr_getL {ci k0 idx a : Nat} (ha : a < nC N) (hsh : sH N a = (10 + ci, qM ci)) (hci : ci < 5) (hk : k0 < qM ci) (hln : Cond.fieldLink (am_y mid).cls idx (qR ci) (qT ci k0).2.1 (qT ci k0).2.2.1 ∈ am_big) (hft : am_ft ci k0 = 1)  (hd : decode (am_c mid) pc = .ok (.getfield idx, 3)) (k : wp X d mid bc bs (pc + 3) ls (.long (vL N a k0) :: st) N post) : wp X d mid bc bs pc ls (.ref a :: st) N post := by
  intro G p l e R s m args below meth c mc ms Q hC hK hR hret H locs cells slots lsr hW hS hc hs hl hn
  obtain ⟨hx, hb, hml, hown, hts, hnm, hdf, hdl⟩ := id hC
  have he := ws_at (G := G) ha
  rw [cE_obj hsh] at he
  have hg : rV G (.ref a) = .ref (G.1 + a) := by show Value.ref _ = _; rw [gA_lt ha hW.2.2]
  show W p l e R s m args below meth c H locs cells slots Q (F0 m pc lsr (rV G (.ref a) :: st.map (rV G)))
  rw [hg]
  refine va_get hx hb hts (q_in hci) hown hK.1 hW.1 a he (q_cl hci) k0 hk (hts _ hln) (fun x h => by rw [q_dc ci hci k0 hk] at h; exact h) (v := rV G (.long (vL N a k0))) ?_ hd (k G p l e R s m args below meth c mc ms Q hC hK hR hret H locs cells slots lsr hW hS hc hs hl hn)
  simp only [List.getElem?_map, List.getElem?_range hk, Option.map_some]
  simp [fV, hft, rV]
theorem wr_getR {ci k0 idx a : Nat} (ha : a < nC N) (hsh : sH N a = (10 + ci, qM ci)) (hci : ci < 5) (hk : k0 < qM ci) (hln : Cond.fieldLink (am_y mid).cls idx (qR ci) (qT ci k0).2.1 (qT ci k0).2.2.1 ∈ am_big) (hft : am_ft ci k0 = 2) (h0 : vR N a k0 ≠ 0) (h1 : vR N a k0 ≤ nC N) (hd : decode (am_c mid) pc = .ok (.getfield idx, 3)) (k : wp X d mid bc bs (pc + 3) ls (.ref (vR N a k0 - 1) :: st) N post) : wp X d mid bc bs pc ls (.ref a :: st) N post := by
  intro G p l e R s m args below meth c mc ms Q hC hK hR hret H locs cells slots lsr hW hS hc hs hl hn
  obtain ⟨hx, hb, hml, hown, hts, hnm, hdf, hdl⟩ := id hC
  have he := ws_at (G := G) ha
  rw [cE_obj hsh] at he
  have hg : rV G (.ref a) = .ref (G.1 + a) := by show Value.ref _ = _; rw [gA_lt ha hW.2.2]
  show W p l e R s m args below meth c H locs cells slots Q (F0 m pc lsr (rV G (.ref a) :: st.map (rV G)))
  rw [hg]
  refine va_get hx hb hts (q_in hci) hown hK.1 hW.1 a he (q_cl hci) k0 hk (hts _ hln) (fun x h => by rw [q_dc ci hci k0 hk] at h; exact h) (v := rV G (.ref (vR N a k0 - 1))) ?_ hd (k G p l e R s m args below meth c mc ms Q hC hK hR hret H locs cells slots lsr hW hS hc hs hl hn)
  simp only [List.getElem?_map, List.getElem?_range hk, Option.map_some]
  have e : rV G (.ref (vR N a k0 - 1)) = .ref (G.1 + (vR N a k0 - 1)) := by show Value.ref _ = _; rw [gA_lt (N := N) (by omega) hW.2.2]
  rw [e]
  simp [fV, hft, rO, h0, va_rf]
section Put
variable {p : Program} {l : Launch} {e : Env} {R : Room} {s : State} {m : MethodId} {args : Array Value} {below : List Frame} {meth : Method} {c : Code} {H : Heap} {locs : List Loc} {cells slots : Nat} {Q : State → Prop} {cc : ByteArray} {lsr : Array Slot} {rest : List Value} {G : aG}
theorem am_put (hx : p.tables.exec = Jvm.exec) (hb : c.code = cc) {own : String} {ci index a k : Nat} (hts : ∀ w ∈ am_big, w.before args s = true) (hown : s.vm.findClass own = some m.cls) (hK : va_K (gD G) am_cl (aT G) s) (hW : aW G N H) (hS : va_S (gB G) s.heap H locs) (ha : a < nC N) (hsh : sH N a = (10 + ci, qM ci)) (hci : ci < 5) (hk : k < qM ci) (hln : Cond.fieldLink own index (qR ci) (qT ci k).2.1 (qT ci k).2.2.1 ∈ am_big)
    (hfin : (qT ci k).2.2.2 = false ∨ ((qT ci k).2.2.2 = true ∧ meth.name = "<init>" ∧ qR ci = own)) {v : Value} (hn : narrow (qY ci k) v = v) (hfit : fits (qY ci k) v = true) {N' : aN} (hn' : nC N' = nC N) (hsh' : sH N' a = sH N a) (hv : fV G N' ci a k = v) (ho : ∀ j, j ≠ k → fV G N' ci a j = fV G N ci a j) (hoc : ∀ j, j ≠ a → cE G N' j = cE G N j)
    (hd : decode cc pc = .ok (.putfield index, 3)) (kk : ∀ (H1 : Heap) (locs1 : List Loc), aW G N' H1 → va_S (gB G) s.heap H1 locs1 → W p l e R s m args below meth c H1 locs1 cells slots Q (F0 m (pc + 3) lsr rest)) : W p l e R s m args below meth c H locs cells slots Q (F0 m pc lsr (v :: .ref (G.1 + a) :: rest)) := by
  have hc := q_cl hci
  have hD : va_D (gB G) (wsL G N) := wsD
  have he := ws_at (G := G) ha
  rw [cE_obj hsh] at he
  have hap := va_apart (own := own) hts (q_in hci) (qY ci) (q_ty hci) (q_nm hci) hK hc
  obtain ⟨r, h1, cell, q1, q2, q3, q4⟩ := hW.1 a _ he
  have hr : r = (qR ci, qT ci, qM ci) := Option.some.inj (h1.symm.trans hc)
  subst hr
  obtain ⟨hSl, hfc, kC, hkC, hkind⟩ := hK.1 ci _ hc
  obtain ⟨cf, kf, fi, f, hi, hsl⟩ := hSl k hk
  have hlay := hts _ (q_in hci _ (u_in_lay hk))
  have hst := (u_facts hfc hkC (u_lays hts (q_in hci) hk) hi).1
  have hsame : ∀ x, s.fieldFound? (qT ci k).1 (qT ci k).2.1 (qT ci k).2.2.1 = some x → s.fieldFound? (qR ci) (qT ci k).2.1 (qT ci k).2.2.1 = some x := fun x h => by rw [q_dc ci hci k hk] at h; exact h
  have fin : ∀ (H' : Heap), H'[G.1 + a]? = some (cell.setSlot f.slot v) → H'.size = H.size → (∀ q : Nat, q ≠ G.1 + a → H'[q]? = H[q]?) → aW G N' H' := by
    intro H' e1 e2 e3
    rw [hsl] at e1
    refine ⟨?_, by rw [e2, hn', hW.2.1], by rw [hn']; exact hW.2.2⟩
    have := hW.1.set hD he (e := .inr (ci, ((List.range (qM ci)).map (fV G N ci a)).set k v)) ⟨_, hc, t_OB.to (V := updV (vp_V ((List.range (qM ci)).map (fV G N ci a))) k v) ⟨_, e1, q2, q3, t_set q4 hap hk v⟩ (fun j _ => vp_updV_set (by simpa using hk) v j)⟩ e3
    rw [fs_set hk hv ho, ← cE_obj (G := G) (hsh'.trans hsh), ws_set hn' ha rfl hoc] at this
    exact this
  rcases hfin with hfin | ⟨hfin, hin2, hown2⟩
  · unfold u_lay at hlay
    rw [if_neg (by rw [hfin]; decide)] at hlay
    have h6 := u_store hfc hkC hkind hlay hi (q_ty hci k hk) hn hfit
    refine W.putK hx hb (f := f) ⟨hown, hts _ hln, ⟨_, _, _, hsame _ hi⟩, hst⟩ (by rw [q2]; exact h6) q1 q3 (by rw [hsl]; exact k2_hasslot (q4 k hk)) rfl rfl hd fun H' e1 e2 e3 => ?_
    exact kk H' _ (fin H' e1 e2 e3) (hS.put e2 e3 (Nat.le_add_right _ _))
  · unfold u_lay at hlay
    rw [if_pos hfin] at hlay
    have hcf : m.cls = cf := by
      obtain ⟨_, _, c', _, _, _, -, -, hf', -, -, -, hown3, -⟩ := Cond.laysFinal_spec hlay
      have e1 : c' = cf := by have := hi.symm.trans hf'; simp at this; exact this.1.symm
      rw [q_dc ci hci k hk, hown2] at hown3
      rw [← e1]; exact Option.some.inj (hown.symm.trans hown3)
    have h6 := u_fits hfc hkC hkind (Or.inr hlay) hi (q_ty hci k hk) hn hfit
    refine W.putFinK hx hb hown (hts _ hln) (hsame _ hi) hst hcf hin2 (by rw [q2]; exact h6) q1 q3 (by rw [hsl]; exact k2_hasslot (q4 k hk)) rfl rfl hd fun H' e1 e2 e3 => ?_
    exact kk H' _ (fin H' e1 e2 e3) (hS.put e2 e3 (Nat.le_add_right _ _))
end Put
theorem wr_putI {ci k0 idx a : Nat} {x : Int32} (ha : a < nC N) (hsh : sH N a = (10 + ci, qM ci)) (hci : ci < 5) (hk : k0 < qM ci) (hln : Cond.fieldLink (am_y mid).cls idx (qR ci) (qT ci k0).2.1 (qT ci k0).2.2.1 ∈ am_big) (hft : am_ft ci k0 = 0)  (hd : decode (am_c mid) pc = .ok (.putfield idx, 3)) (k : wp X d mid bc bs (pc + 3) ls st (sI N a k0 x) post) : wp X d mid bc bs pc ls (.int x :: .ref a :: st) N post := by
  intro G p l e R s m args below meth c mc ms Q hC hK hR hret H locs cells slots lsr hW hS hc hs hl hn
  obtain ⟨hx, hb, hml, hown, hts, hnm, hdf, hdl⟩ := id hC
  have hg : rV G (.ref a) = .ref (G.1 + a) := by show Value.ref _ = _; rw [gA_lt ha hW.2.2]
  show W p l e R s m args below meth c H locs cells slots Q (F0 m pc lsr (rV G (.int x) :: rV G (.ref a) :: st.map (rV G)))
  rw [hg]
  have hq := q_f0 ci hci k0 hk hft
  refine am_put (N' := sI N a k0 x) hx hb hts hown hK.1 hW hS ha hsh hci hk hln (Or.inl hq.2) ?_ ?_ rfl rfl ?_ ?_ (fun j hj => cE_sI hj) hd (fun H1 locs1 hW1 hS1 => (k G p l e R s m args below meth c mc ms Q hC hK hR hret H1 locs1 cells slots lsr hW1 hS1 hc hs hl hn))
  · rw [hq.1]; rfl
  · rw [hq.1]; rfl
  · simp [fV, hft, sI, vI, up2, va_up, rV]
  · intro j hj
    simp only [fV, vI, vL, vR, sI, up2, va_up, if_true, if_neg hj]
theorem wr_putZ {ci k0 idx a : Nat} {x : Int32} (ha : a < nC N) (hsh : sH N a = (10 + ci, qM ci)) (hci : ci < 5) (hk : k0 < qM ci) (hln : Cond.fieldLink (am_y mid).cls idx (qR ci) (qT ci k0).2.1 (qT ci k0).2.2.1 ∈ am_big) (hft : am_ft ci k0 = 3) (hz : x = 0 ∨ x = 1) (hd : decode (am_c mid) pc = .ok (.putfield idx, 3)) (k : wp X d mid bc bs (pc + 3) ls st (sI N a k0 x) post) : wp X d mid bc bs pc ls (.int x :: .ref a :: st) N post := by
  intro G p l e R s m args below meth c mc ms Q hC hK hR hret H locs cells slots lsr hW hS hc hs hl hn
  obtain ⟨hx, hb, hml, hown, hts, hnm, hdf, hdl⟩ := id hC
  have hg : rV G (.ref a) = .ref (G.1 + a) := by show Value.ref _ = _; rw [gA_lt ha hW.2.2]
  show W p l e R s m args below meth c H locs cells slots Q (F0 m pc lsr (rV G (.int x) :: rV G (.ref a) :: st.map (rV G)))
  rw [hg]
  have hq := q_f3 ci hci k0 hk hft
  refine am_put (N' := sI N a k0 x) hx hb hts hown hK.1 hW hS ha hsh hci hk hln (Or.inl hq.2) ?_ ?_ rfl rfl ?_ ?_ (fun j hj => cE_sI hj) hd (fun H1 locs1 hW1 hS1 => (k G p l e R s m args below meth c mc ms Q hC hK hR hret H1 locs1 cells slots lsr hW1 hS1 hc hs hl hn))
  · rw [hq.1]; rcases hz with rfl | rfl <;> rfl
  · rw [hq.1]; show fits .boolean (.int x) = true; rcases hz with rfl | rfl <;> decide
  · simp [fV, hft, sI, vI, up2, va_up, rV]
  · intro j hj
    simp only [fV, vI, vL, vR, sI, up2, va_up, if_true, if_neg hj]
theorem wr_putL {ci k0 idx a : Nat} {x : Int64} (ha : a < nC N) (hsh : sH N a = (10 + ci, qM ci)) (hci : ci < 5) (hk : k0 < qM ci) (hln : Cond.fieldLink (am_y mid).cls idx (qR ci) (qT ci k0).2.1 (qT ci k0).2.2.1 ∈ am_big) (hft : am_ft ci k0 = 1)  (hd : decode (am_c mid) pc = .ok (.putfield idx, 3)) (k : wp X d mid bc bs (pc + 3) ls st (sL N a k0 x) post) : wp X d mid bc bs pc ls (.long x :: .ref a :: st) N post := by
  intro G p l e R s m args below meth c mc ms Q hC hK hR hret H locs cells slots lsr hW hS hc hs hl hn
  obtain ⟨hx, hb, hml, hown, hts, hnm, hdf, hdl⟩ := id hC
  have hg : rV G (.ref a) = .ref (G.1 + a) := by show Value.ref _ = _; rw [gA_lt ha hW.2.2]
  show W p l e R s m args below meth c H locs cells slots Q (F0 m pc lsr (rV G (.long x) :: rV G (.ref a) :: st.map (rV G)))
  rw [hg]
  have hq := q_f1 ci hci k0 hk hft
  refine am_put (N' := sL N a k0 x) hx hb hts hown hK.1 hW hS ha hsh hci hk hln (Or.inl hq.2) ?_ ?_ rfl rfl ?_ ?_ (fun j hj => cE_sL hj) hd (fun H1 locs1 hW1 hS1 => (k G p l e R s m args below meth c mc ms Q hC hK hR hret H1 locs1 cells slots lsr hW1 hS1 hc hs hl hn))
  · rw [hq.1]; rfl
  · rw [hq.1]; rfl
  · simp [fV, hft, sL, vL, up2, va_up, rV]
  · intro j hj
    simp only [fV, vI, vL, vR, sL, up2, va_up, if_true, if_neg hj]
theorem wr_putR {ci k0 idx a : Nat} {x : Nat} (ha : a < nC N) (hsh : sH N a = (10 + ci, qM ci)) (hci : ci < 5) (hk : k0 < qM ci) (hln : Cond.fieldLink (am_y mid).cls idx (qR ci) (qT ci k0).2.1 (qT ci k0).2.2.1 ∈ am_big) (hft : am_ft ci k0 = 2) (hx0 : x < nC N) (hini : (am_y mid).name = "<init>") (hoc : qR ci = (am_y mid).cls) (hd : decode (am_c mid) pc = .ok (.putfield idx, 3)) (k : wp X d mid bc bs (pc + 3) ls st (sR N a k0 (x + 1)) post) : wp X d mid bc bs pc ls (.ref x :: .ref a :: st) N post := by
  intro G p l e R s m args below meth c mc ms Q hC hK hR hret H locs cells slots lsr hW hS hc hs hl hn
  obtain ⟨hx, hb, hml, hown, hts, hnm, hdf, hdl⟩ := id hC
  have hg : rV G (.ref a) = .ref (G.1 + a) := by show Value.ref _ = _; rw [gA_lt ha hW.2.2]
  show W p l e R s m args below meth c H locs cells slots Q (F0 m pc lsr (rV G (.ref x) :: rV G (.ref a) :: st.map (rV G)))
  rw [hg]
  have hq := q_f2 ci hci k0 hk hft
  have hq1 : qY ci k0 = .array .int ∨ qY ci k0 = .object am_R0 ∨ qY ci k0 = .object am_R1 ∨ qY ci k0 = .array (.object am_R0) ∨ qY ci k0 = .array (.object am_R2) := by simpa using hq.1
  refine am_put (N' := sR N a k0 (x + 1)) hx hb hts hown hK.1 hW hS ha hsh hci hk hln (Or.inr ⟨hq.2, hnm.trans hini, hoc⟩) ?_ ?_ rfl rfl ?_ ?_ (fun j hj => cE_sR hj) hd (fun H1 locs1 hW1 hS1 => (k G p l e R s m args below meth c mc ms Q hC hK hR hret H1 locs1 cells slots lsr hW1 hS1 hc hs hl hn))
  · rcases hq1 with h | h | h | h | h <;> rw [h] <;> rfl
  · rcases hq1 with h | h | h | h | h <;> rw [h] <;> rfl
  · have e : rV G (.ref x) = .ref (G.1 + x) := by show Value.ref _ = _; rw [gA_lt (N := N) hx0 hW.2.2]
    rw [e]
    simp [fV, hft, sR, vR, up2, va_up, rO, va_rf]
  · intro j hj
    simp only [fV, vI, vL, vR, sR, up2, va_up, if_true, if_neg hj]
theorem wr_iald {a n : Nat} {i : Int32} (ha : a < nC N) (hsh : sH N a = (0, n)) (hi : vp_in i n) (hd : decode (am_c mid) pc = .ok (.iaload, 1)) (k : wp X d mid bc bs (pc + 1) ls (.int (vI N a i.toNatClampNeg) :: st) N post) : wp X d mid bc bs pc ls (.int i :: .ref a :: st) N post := by
  intro G p l e R s m args below meth c mc ms Q hC hK hR hret H locs cells slots lsr hW hS hc hs hl hn
  obtain ⟨hx, hb, hml, hown, hts, hnm, hdf, hdl⟩ := id hC
  have he := ws_at (G := G) ha
  rw [cE_int hsh] at he
  have hg : rV G (.ref a) = .ref (G.1 + a) := by show Value.ref _ = _; rw [gA_lt ha hW.2.2]
  show W p l e R s m args below meth c H locs cells slots Q (F0 m pc lsr (.int i :: rV G (.ref a) :: st.map (rV G)))
  rw [hg]
  exact va_iald hx hb hK.1 hW.1 a 0 he rfl hi hd (k G p l e R s m args below meth c mc ms Q hC hK hR hret H locs cells slots lsr hW hS hc hs hl hn)
theorem wr_iast {a n : Nat} {i x : Int32} (ha : a < nC N) (hsh : sH N a = (0, n)) (hi : vp_in i n) (hd : decode (am_c mid) pc = .ok (.iastore, 1)) (k : wp X d mid bc bs (pc + 1) ls st (sI N a i.toNatClampNeg x) post) : wp X d mid bc bs pc ls (.int x :: .int i :: .ref a :: st) N post := by
  intro G p l e R s m args below meth c mc ms Q hC hK hR hret H locs cells slots lsr hW hS hc hs hl hn
  obtain ⟨hx, hb, hml, hown, hts, hnm, hdf, hdl⟩ := id hC
  have he := ws_at (G := G) ha
  rw [cE_int hsh] at he
  have hg : rV G (.ref a) = .ref (G.1 + a) := by show Value.ref _ = _; rw [gA_lt ha hW.2.2]
  show W p l e R s m args below meth c H locs cells slots Q (F0 m pc lsr (.int x :: .int i :: rV G (.ref a) :: st.map (rV G)))
  rw [hg]
  refine W.iast hx hb (hW.1 a _ he) ((hK.1.2 0 _ rfl).1 n (fun j => .int (vI N a j))) (fun q => by cases q) (by show ¬ (i < 0 ∨ (arrV _ _ _).slots.size ≤ _); rw [arrV_size]; exact hi) rfl rfl hd fun H1 e1 z oq => ?_
  have hS1 := hS.put (k := i.toNatClampNeg) z oq (show gB G (G.1 + a) from Nat.le_add_right _ _)
  have h1 := hW.1.set wsD he (e := .inl (gI G, n, .inl (upd (vI N a) i.toNatClampNeg x))) (H1 := H1) (by
    show H1[G.1 + a]? = some (vp_cell _ _)
    rw [e1]
    exact congrArg some ((congrArg (fun z => Cell.setSlot z i.toNatClampNeg (.int x)) (arrCell_eq (gI G) n (vI N a)).symm).trans (arr_store (gI G) n i.toNatClampNeg (vI N a) x))) oq
  rw [ws_set (G := G) (N := N) (N' := sI N a i.toNatClampNeg x) rfl ha (by rw [cE_int (N := sI N a i.toNatClampNeg x) (a := a) hsh]; simp only [vI, sI, up2, if_true]; rfl) (fun j hj => cE_sI hj)] at h1
  exact (k G p l e R s m args below meth c mc ms Q hC hK hR hret H1 _ cells slots lsr ⟨h1, by rw [z]; exact hW.2.1, hW.2.2⟩ hS1 hc hs hl hn)
theorem wr_aald {a n kd : Nat} {i : Int32} (ha : a < nC N) (hsh : sH N a = (kd, n)) (hkd : kd = 1 ∨ kd = 2) (hi : vp_in i n) (h0 : vR N a i.toNatClampNeg ≠ 0) (h1 : vR N a i.toNatClampNeg ≤ nC N) (hd : decode (am_c mid) pc = .ok (.aaload, 1)) (k : wp X d mid bc bs (pc + 1) ls (.ref (vR N a i.toNatClampNeg - 1) :: st) N post) : wp X d mid bc bs pc ls (.int i :: .ref a :: st) N post := by
  intro G p l e R s m args below meth c mc ms Q hC hK hR hret H locs cells slots lsr hW hS hc hs hl hn
  obtain ⟨hx, hb, hml, hown, hts, hnm, hdf, hdl⟩ := id hC
  have he := ws_at (G := G) ha
  have hg : rV G (.ref a) = .ref (G.1 + a) := by show Value.ref _ = _; rw [gA_lt ha hW.2.2]
  have ee : va_rf (rO G (vR N a i.toNatClampNeg)) = rV G (.ref (vR N a i.toNatClampNeg - 1)) := by
    show _ = Value.ref _
    rw [gA_lt (N := N) (by omega) hW.2.2]
    simp [rO, h0, va_rf]
  have kk := (k G p l e R s m args below meth c mc ms Q hC hK hR hret H locs cells slots lsr hW hS hc hs hl hn)
  rw [List.map_cons, ← ee] at kk
  show W p l e R s m args below meth c H locs cells slots Q (F0 m pc lsr (.int i :: rV G (.ref a) :: st.map (rV G)))
  rw [hg]
  rcases hkd with rfl | rfl
  · rw [cE_row hsh] at he
    exact va_aldq hx hb hK.1 hW.1 a 1 he rfl hi hd kk
  · rw [cE_clo hsh] at he
    exact va_aldq hx hb hK.1 hW.1 a 2 he rfl hi hd kk
theorem wr_alen {a n : Nat} (ha : a < nC N) (hsh : sH N a = (0, n)) (hd : decode (am_c mid) pc = .ok (.arraylength, 1)) (k : wp X d mid bc bs (pc + 1) ls (.int (Int32.ofNat n) :: st) N post) : wp X d mid bc bs pc ls (.ref a :: st) N post := by
  intro G p l e R s m args below meth c mc ms Q hC hK hR hret H locs cells slots lsr hW hS hc hs hl hn
  obtain ⟨hx, hb, hml, hown, hts, hnm, hdf, hdl⟩ := id hC
  have he := ws_at (G := G) ha
  rw [cE_int hsh] at he
  have hg : rV G (.ref a) = .ref (G.1 + a) := by show Value.ref _ = _; rw [gA_lt ha hW.2.2]
  show W p l e R s m args below meth c H locs cells slots Q (F0 m pc lsr (rV G (.ref a) :: st.map (rV G)))
  rw [hg]
  exact va_alen hx hb hK.1 hW.1 a 0 he rfl rfl hd (k G p l e R s m args below meth c mc ms Q hC hK hR hret H locs cells slots lsr hW hS hc hs hl hn)
theorem wr_alenR {a n kd : Nat} (ha : a < nC N) (hsh : sH N a = (kd, n)) (hkd : kd = 1 ∨ kd = 2) (hd : decode (am_c mid) pc = .ok (.arraylength, 1)) (k : wp X d mid bc bs (pc + 1) ls (.int (Int32.ofNat n) :: st) N post) : wp X d mid bc bs pc ls (.ref a :: st) N post := by
  intro G p l e R s m args below meth c mc ms Q hC hK hR hret H locs cells slots lsr hW hS hc hs hl hn
  obtain ⟨hx, hb, hml, hown, hts, hnm, hdf, hdl⟩ := id hC
  have he := ws_at (G := G) ha
  have hg : rV G (.ref a) = .ref (G.1 + a) := by show Value.ref _ = _; rw [gA_lt ha hW.2.2]
  show W p l e R s m args below meth c H locs cells slots Q (F0 m pc lsr (rV G (.ref a) :: st.map (rV G)))
  rw [hg]
  rcases hkd with rfl | rfl
  · rw [cE_row hsh] at he
    exact va_alen hx hb hK.1 hW.1 a 1 he rfl rfl hd (k G p l e R s m args below meth c mc ms Q hC hK hR hret H locs cells slots lsr hW hS hc hs hl hn)
  · rw [cE_clo hsh] at he
    exact va_alen hx hb hK.1 hW.1 a 2 he rfl rfl hd (k G p l e R s m args below meth c mc ms Q hC hK hR hret H locs cells slots lsr hW hS hc hs hl hn)
/-- what stood before: the script, LETTERS, PARENTS -/
theorem wr_sld {i : Int32} (hi : vp_in i X.1) (hd : decode (am_c mid) pc = .ok (.iaload, 1)) (k : wp X d mid bc bs (pc + 1) ls (.int (X.2 i.toNatClampNeg) :: st) N post) : wp X d mid bc bs pc ls (.int i :: .ref 1000000 :: st) N post := by
  intro G p l e R s m args below meth c mc ms Q hC hK hR hret H locs cells slots lsr hW hS hc hs hl hn
  obtain ⟨hx, hb, hml, hown, hts, hnm, hdf, hdl⟩ := id hC
  obtain ⟨-, -, -, -, -, hX, hb1, hb2⟩ := id hK
  exact va_sld (b := G.2.1) hx hb hX (by omega) (show ¬ gB G G.2.1 from Nat.not_le.mpr hb1) hS hi hd (k G p l e R s m args below meth c mc ms Q hC hK hR hret H locs cells slots lsr hW hS hc hs hl hn)
theorem wr_slen (hd : decode (am_c mid) pc = .ok (.arraylength, 1)) (k : wp X d mid bc bs (pc + 1) ls (.int (Int32.ofNat X.1) :: st) N post) : wp X d mid bc bs pc ls (.ref 1000000 :: st) N post := by
  intro G p l e R s m args below meth c mc ms Q hC hK hR hret H locs cells slots lsr hW hS hc hs hl hn
  obtain ⟨hx, hb, hml, hown, hts, hnm, hdf, hdl⟩ := id hC
  obtain ⟨-, -, -, -, -, hX, hb1, hb2⟩ := id hK
  exact va_slen (b := G.2.1) hx hb hX (by omega) (show ¬ gB G G.2.1 from Nat.not_le.mpr hb1) hS hd (k G p l e R s m args below meth c mc ms Q hC hK hR hret H locs cells slots lsr hW hS hc hs hl hn)
theorem wr_tc {i : Int32} (hi : vp_in i 6) (hd : decode (am_c mid) pc = .ok (.caload, 1)) (k : wp X d mid bc bs (pc + 1) ls (.int (am_let i.toNatClampNeg) :: st) N post) : wp X d mid bc bs pc ls (.int i :: .ref 1000001 :: st) N post := by
  intro G p l e R s m args below meth c mc ms Q hC hK hR hret H locs cells slots lsr hW hS hc hs hl hn
  obtain ⟨hx, hb, hml, hown, hts, hnm, hdf, hdl⟩ := id hC
  exact va_tc hx hb hK.2.2.2.2.1.2.2.1 hS hi rfl hd (k G p l e R s m args below meth c mc ms Q hC hK hR hret H locs cells slots lsr hW hS hc hs hl hn)
theorem wr_ti {i : Int32} (hi : vp_in i 6) (hd : decode (am_c mid) pc = .ok (.iaload, 1)) (k : wp X d mid bc bs (pc + 1) ls (.int (am_par i.toNatClampNeg) :: st) N post) : wp X d mid bc bs pc ls (.int i :: .ref 1000002 :: st) N post := by
  intro G p l e R s m args below meth c mc ms Q hC hK hR hret H locs cells slots lsr hW hS hc hs hl hn
  obtain ⟨hx, hb, hml, hown, hts, hnm, hdf, hdl⟩ := id hC
  exact va_ti hx hb hK.2.2.2.2.1.2.2.2 hS hi rfl hd (k G p l e R s m args below meth c mc ms Q hC hK hR hret H locs cells slots lsr hW hS hc hs hl hn)
theorem wr_gLet (hm : (am_y mid).cls = "SewnAhead$Reader") (hd : decode (am_c mid) pc = .ok (.getstatic 62, 3)) (k : wp X d mid bc bs (pc + 3) ls (.ref 1000001 :: st) N post) : wp X d mid bc bs pc ls st N post := by
  intro G p l e R s m args below meth c mc ms Q hC hK hR hret H locs cells slots lsr hW hS hc hs hl hn
  obtain ⟨hx, hb, hml, hown, hts, hnm, hdf, hdl⟩ := id hC
  rw [hm] at hown
  exact va_getsN hx hb hK.2.2.2.2.1.1 hS hown (va_Nw.use rfl hK.2.2.1.1) (fun x h => h) hd (k G p l e R s m args below meth c mc ms Q hC hK hR hret H locs cells slots lsr hW hS hc hs hl hn)
theorem wr_gPar (hm : (am_y mid).cls = "SewnAhead$Cloth") (hd : decode (am_c mid) pc = .ok (.getstatic 91, 3)) (k : wp X d mid bc bs (pc + 3) ls (.ref 1000002 :: st) N post) : wp X d mid bc bs pc ls st N post := by
  intro G p l e R s m args below meth c mc ms Q hC hK hR hret H locs cells slots lsr hW hS hc hs hl hn
  obtain ⟨hx, hb, hml, hown, hts, hnm, hdf, hdl⟩ := id hC
  rw [hm] at hown
  exact va_getsN hx hb hK.2.2.2.2.1.2.1 hS hown (va_Nw.use rfl hK.2.2.1.2) (fun x h => h) hd (k G p l e R s m args below meth c mc ms Q hC hK hR hret H locs cells slots lsr hW hS hc hs hl hn)
end R2
end
section
section R3
variable {X : aX} {d mid bc bs pc : Nat} {ls : aL} {st : List Value} {N : aN} {post : aO}
/-- behind a call -/
theorem am_after {p : Program} {l : Launch} {e : Env} {R : Room} {s : State} {m : MethodId} {args : Array Value} {below : List Frame} {meth : Method} {c : Code} {H : Heap} {locs : List Loc} {cells slots mc ms : Nat} {Q : State → Prop} {lsr : Array Slot} {st0 rest : List Value} {G : aG} {a : Array Value} {ps : aO}
    (hr : va_Run p l e R s m args below meth c H locs cells slots mc ms (F0 m pc lsr st0) rest (aQc G ps a) (gB G)) (hS : va_S (gB G) s.heap H locs)
    (kk : ∀ (r : Option Value) (N : aN) (H1 : Heap) (locs1 : List Loc), ps r N → aW G N H1 → va_S (gB G) s.heap H1 locs1 → W p l e R s m args below meth c H1 locs1 (cells + mc) (slots + ms) Q (F0 m (pc + 3) lsr ((r.map (rV G)).toList ++ rest))) : W p l e R s m args below meth c H locs cells slots Q (F0 m pc lsr st0) := by
  intro T hT X
  obtain ⟨v, st₀, t, T', L, h0, X', hL, e1, e2, ⟨⟨r, N, hv, hp, hw⟩, hz, hk⟩, st⟩ := hr T hT X
  cases hv
  rw [h0] at hz hk
  obtain ⟨t2, a1, b1⟩ := kk r N T'.heap (locs ++ L) hp (by rw [e1]; exact hw) ⟨Nat.le_trans hS.1 (by rw [e1]; exact hz), fun q h1 h2 => by rw [e1, hk q (Nat.lt_of_lt_of_le h1 hS.1) h2]; exact hS.2.1 q h1 h2, fun q hq => by
      rcases List.mem_append.mp hq with h | h
      · exact hS.2.2 q h
      · exact hL q h⟩ T' rfl X'
  exact ⟨t2, st t2 a1, b1⟩
theorem aPc_blind {G : aG} {as : List Value} : FrameBlind (aPc X G as N) := fun a U g mk h => ⟨h.1, h.2.1, h.2.2.calling g mk a⟩
theorem aPc_of {G : aG} {s U : State} {H : Heap} {locs : List Loc} {as : List Value} (hK : aK G X s) (hW : aW G N H) (hS : va_S (gB G) s.heap H locs) (hU : U.heap = H) (hw : s.WarmedH U.vm) : aPc X G as N (as.map (rV G)).toArray U :=
  ⟨rfl, by rw [hU]; exact hW, hK.warm hw (fun q hq => by rw [hU]; exact hS.2.1 q (Nat.lt_of_lt_of_le hq hK.2.2.2.2.2.2.2) (Nat.not_le.mpr hq)) (by rw [hU]; exact Nat.le_trans hK.2.2.2.2.2.2.2 hS.1)⟩
theorem am_good {y : MethodName} {cc : ByteArray} {n : Nat} {rt : Option FieldType} (h : Cond.code y cc n rt ∈ am_big) : GoodIn am_big (Cond.code y cc n rt :: am_big) := fun w hw => by
  rcases List.mem_cons.mp hw with rfl | hw
  · exact am_bigg h
  · exact am_bigg hw
/-- the callee's place: its words and the room -/
def am_pl (mid2 n : Nat) : Prop := mid2 < 203 ∧ (parseMethodDescriptor (am_y mid2).desc).map (fun d => d.parameters.length) = some n ∧ am_l mid2 ≤ 30 ∧ (am_y mid2).cls ≠ "java/lang/invoke/MethodHandle" ∧ (am_y mid2).cls ≠ "java/lang/invoke/VarHandle" ∧ Cond.initialized (am_y mid2).cls ∈ am_big
theorem am_pR {G : aG} {r : Option Value} {st : List Value} : (r.map (rV G)).toList ++ st.map (rV G) = (pR r st).map (rV G) := by cases r <;> rfl
theorem wr_invV {mid2 n idx b1 b2 c1 c2 : Nat} {a ci : Nat} {as : List Value} (hp2 : am_pl mid2 n) (hlen : as.length = n) (hst : (st.map fun v => v.category).sum ≤ 8) (hb1 : bc = b1 + c1) (hb2 : bs = b2 + c2) (ha : a < nC N) (hsh : sH N a = (10 + ci, qM ci)) (hci : ci < 5) (hcc : qR ci = (am_y mid2).cls) (hli : Cond.methodLink (am_y mid).cls idx (am_y mid2) ∈ am_big) (hin : Cond.instanceMethod (am_y mid2) ∈ am_big) (hse : Cond.selects (am_y mid2).cls (am_y mid2) (am_y mid2) ∈ am_big) (hd : decode (am_c mid) pc = .ok (.invokevirtual idx, 3)) (k0 : CallOk X d c1 c2 mid2 (.ref a :: as) N (fun r N' => wp X (d + 1) mid b1 b2 (pc + 3) ls (pR r st) N' post)) : wp X (d + 1) mid bc bs pc ls (as.reverse ++ .ref a :: st) N post := by
  intro G p l e R s m args below meth c mc ms Q hC hK hR hret H locs cells slots lsr hW hS hc hs hl hn
  obtain ⟨hx, hb, hml, hown, hts, hnm, hdf, hdl⟩ := id hC
  have k : ∀ r N', wp X (d + 1) mid b1 b2 (pc + 3) ls (pR r st) N' post → wp X (d + 1) mid b1 b2 (pc + 3) ls (pR r st) N' post := fun _ _ h => h
  obtain ⟨hm2, hds, hl2, hh1, hh2, hini⟩ := hp2
  have hcode := am_code hm2
  have hG := am_good hcode
  have hroom : 2 * (F0 m pc lsr ((as.reverse ++ .ref a :: st).map (rV G))).monitorRoom + ((st.map (rV G)).map fun v => v.category).sum ≤ 8 := by
    rw [List.map_map, show ((fun v => Value.category v) ∘ rV G) = fun v => v.category from funext fun v => rV_cat G v]
    exact lv_room (m := m) (pc := pc) (ls := lsr) (rest := []) hst
  have hstk : ((as.reverse ++ .ref a :: st).map (rV G)) = (as.map (rV G)).reverse ++ .ref (G.1 + a) :: st.map (rV G) := by
    rw [List.map_append, List.map_reverse, List.map_cons, show rV G (.ref a) = .ref (G.1 + a) by show Value.ref _ = _; rw [gA_lt ha hW.2.2]]
  have hargs : (.ref a :: as : List Value).map (rV G) = .ref (G.1 + a) :: as.map (rV G) := by
    rw [List.map_cons, show rV G (.ref a) = .ref (G.1 + a) by show Value.ref _ = _; rw [gA_lt ha hW.2.2]]
  have hPc : ∀ U : State, U.heap = H → s.WarmedH U.vm → aPc X G (.ref a :: as) N (.ref (G.1 + a) :: as.map (rV G) : List Value).toArray U := fun U hU hw => by
    have := aPc_of (as := .ref a :: as) hK hW hS hU hw
    rw [hargs] at this
    exact this
  have he := ws_at (G := G) ha
  rw [cE_obj hsh] at he
  have hrv := va_recv hK.1 hW.1 (q_cl hci) he
  rw [hcc] at hrv
  refine am_after (va_runV (As := as.map (rV G)) ⟨hx, hb, hml, hown, hts⟩ (k0 G l) ⟨callB_of (ws' := am_big) n hts hG rfl rfl rfl (hts _ hini) (hts _ hli) ⟨hh1, hh2, hds⟩ ⟨by show d + 1 ≤ R.frames; omega, by show 8 + (am_l mid2 + 11) + 60 * d ≤ R.locals; omega⟩, hts _ hin, hts _ hse⟩ ⟨aPc_blind, hrv, hPc⟩ rfl (by rw [List.length_map]; exact hlen) (hl.1) hstk hroom hd ⟨by omega, by omega⟩) hS (fun r N' H1 locs1 hp hW1 hS1 => ?_)
  rw [am_pR]
  exact k r N' hp G p l e R s m args below meth c mc ms Q hC hK hR hret H1 locs1 (cells + c1) (slots + c2) lsr hW1 hS1 (by omega) (by omega) hl hn
theorem wr_invS {mid2 n idx b1 b2 c1 c2 : Nat}  {as : List Value} (hp2 : am_pl mid2 n) (hlen : as.length = n) (hst : (st.map fun v => v.category).sum ≤ 8) (hb1 : bc = b1 + c1) (hb2 : bs = b2 + c2) (hli : Cond.methodLink (am_y mid).cls idx (am_y mid2) ∈ am_big) (hsa : Cond.static (am_y mid2) ∈ am_big) (hd : decode (am_c mid) pc = .ok (.invokestatic idx, 3)) (k0 : CallOk X d c1 c2 mid2 as N (fun r N' => wp X (d + 1) mid b1 b2 (pc + 3) ls (pR r st) N' post)) : wp X (d + 1) mid bc bs pc ls (as.reverse ++ st) N post := by
  intro G p l e R s m args below meth c mc ms Q hC hK hR hret H locs cells slots lsr hW hS hc hs hl hn
  obtain ⟨hx, hb, hml, hown, hts, hnm, hdf, hdl⟩ := id hC
  have k : ∀ r N', wp X (d + 1) mid b1 b2 (pc + 3) ls (pR r st) N' post → wp X (d + 1) mid b1 b2 (pc + 3) ls (pR r st) N' post := fun _ _ h => h
  obtain ⟨hm2, hds, hl2, hh1, hh2, hini⟩ := hp2
  have hcode := am_code hm2
  have hG := am_good hcode
  have hroom : 2 * (F0 m pc lsr ((as.reverse ++ st).map (rV G))).monitorRoom + ((st.map (rV G)).map fun v => v.category).sum ≤ 8 := by
    rw [List.map_map, show ((fun v => Value.category v) ∘ rV G) = fun v => v.category from funext fun v => rV_cat G v]
    exact lv_room (m := m) (pc := pc) (ls := lsr) (rest := []) hst
  have hstk : ((as.reverse ++ st).map (rV G)) = (as.map (rV G)).reverse ++ st.map (rV G) := by
    rw [List.map_append, List.map_reverse]
  have hargs : (as : List Value).map (rV G) = as.map (rV G) := by
    rfl
  have hPc : ∀ U : State, U.heap = H → s.WarmedH U.vm → aPc X G as N (as.map (rV G) : List Value).toArray U := fun U hU hw => by
    have := aPc_of (as := as) hK hW hS hU hw
    rw [hargs] at this
    exact this

  refine am_after (va_runS (As := as.map (rV G)) ⟨hx, hb, hml, hown, hts⟩ (k0 G l) ⟨callB_of (ws' := am_big) n hts hG rfl rfl rfl (hts _ hini) (hts _ hli) ⟨hh1, hh2, hds⟩ ⟨by show d + 1 ≤ R.frames; omega, by show 8 + (am_l mid2 + 11) + 60 * d ≤ R.locals; omega⟩, hts _ hsa⟩ ⟨aPc_blind, hPc⟩ rfl (by rw [List.length_map]; exact hlen) (hl.1) hstk hroom hd ⟨by omega, by omega⟩) hS (fun r N' H1 locs1 hp hW1 hS1 => ?_)
  rw [am_pR]
  exact k r N' hp G p l e R s m args below meth c mc ms Q hC hK hR hret H1 locs1 (cells + c1) (slots + c2) lsr hW1 hS1 (by omega) (by omega) hl hn
theorem wr_invI {mid2 n idx b1 b2 c1 c2 : Nat} {a : Nat} {as : List Value} (hp2 : am_pl mid2 n) (hlen : as.length = n) (hst : (st.map fun v => v.category).sum ≤ 8) (hb1 : bc = b1 + c1) (hb2 : bs = b2 + c2) (ha : a < nC N) (hli : Cond.methodLink (am_y mid).cls idx (am_y mid2) ∈ am_big) (hin : Cond.instanceMethod (am_y mid2) ∈ am_big) (hi1 : (am_y mid2).name = "<init>") (hi2 : am_r mid2 = none) (hd : decode (am_c mid) pc = .ok (.invokespecial idx, 3)) (k0 : CallOk X d c1 c2 mid2 (.ref a :: as) N (fun r N' => wp X (d + 1) mid b1 b2 (pc + 3) ls (pR r st) N' post)) : wp X (d + 1) mid bc bs pc ls (as.reverse ++ .ref a :: st) N post := by
  intro G p l e R s m args below meth c mc ms Q hC hK hR hret H locs cells slots lsr hW hS hc hs hl hn
  obtain ⟨hx, hb, hml, hown, hts, hnm, hdf, hdl⟩ := id hC
  have k : ∀ r N', wp X (d + 1) mid b1 b2 (pc + 3) ls (pR r st) N' post → wp X (d + 1) mid b1 b2 (pc + 3) ls (pR r st) N' post := fun _ _ h => h
  obtain ⟨hm2, hds, hl2, hh1, hh2, hini⟩ := hp2
  have hcode := am_code hm2
  have hG := am_good hcode
  have hroom : 2 * (F0 m pc lsr ((as.reverse ++ .ref a :: st).map (rV G))).monitorRoom + ((st.map (rV G)).map fun v => v.category).sum ≤ 8 := by
    rw [List.map_map, show ((fun v => Value.category v) ∘ rV G) = fun v => v.category from funext fun v => rV_cat G v]
    exact lv_room (m := m) (pc := pc) (ls := lsr) (rest := []) hst
  have hstk : ((as.reverse ++ .ref a :: st).map (rV G)) = (as.map (rV G)).reverse ++ .ref (G.1 + a) :: st.map (rV G) := by
    rw [List.map_append, List.map_reverse, List.map_cons, show rV G (.ref a) = .ref (G.1 + a) by show Value.ref _ = _; rw [gA_lt ha hW.2.2]]
  have hargs : (.ref a :: as : List Value).map (rV G) = .ref (G.1 + a) :: as.map (rV G) := by
    rw [List.map_cons, show rV G (.ref a) = .ref (G.1 + a) by show Value.ref _ = _; rw [gA_lt ha hW.2.2]]
  have hPc : ∀ U : State, U.heap = H → s.WarmedH U.vm → aPc X G (.ref a :: as) N (.ref (G.1 + a) :: as.map (rV G) : List Value).toArray U := fun U hU hw => by
    have := aPc_of (as := .ref a :: as) hK hW hS hU hw
    rw [hargs] at this
    exact this
  have k1 := k0 G l
  rw [hi2] at k1 hG
  refine am_after (va_runI (As := as.map (rV G)) ⟨hx, hb, hml, hown, hts⟩ k1 ⟨callB_of (ws' := am_big) n hts hG rfl rfl rfl (hts _ hini) (hts _ hli) ⟨hh1, hh2, hds⟩ ⟨by show d + 1 ≤ R.frames; omega, by show 8 + (am_l mid2 + 11) + 60 * d ≤ R.locals; omega⟩, hi1, hts _ hin⟩ ⟨aPc_blind, hPc⟩ rfl (by rw [List.length_map]; exact hlen) (hl.1) hstk hroom hd ⟨by omega, by omega⟩) hS (fun r N' H1 locs1 hp hW1 hS1 => ?_)
  rw [am_pR]
  exact k r N' hp G p l e R s m args below meth c mc ms Q hC hK hR hret H1 locs1 (cells + c1) (slots + c2) lsr hW1 hS1 (by omega) (by omega) hl hn
theorem wr_invSN {mid2 n idx b1 b2 c1 c2 : Nat} {host : String} {as : List Value} (hp2 : am_pl mid2 n) (hlen : as.length = n) (hst : (st.map fun v => v.category).sum ≤ 8) (hb1 : bc = b1 + c1) (hb2 : bs = b2 + c2) (hli : ((am_y mid).cls, idx, am_y mid2, host) ∈ am_nm) (hsa : Cond.static (am_y mid2) ∈ am_big) (hd : decode (am_c mid) pc = .ok (.invokestatic idx, 3)) (k0 : CallOk X d c1 c2 mid2 as N (fun r N' => wp X (d + 1) mid b1 b2 (pc + 3) ls (pR r st) N' post)) : wp X (d + 1) mid bc bs pc ls (as.reverse ++ st) N post := by
  intro G p l e R s m args below meth c mc ms Q hC hK hR hret H locs cells slots lsr hW hS hc hs hl hn
  obtain ⟨hx, hb, hml, hown, hts, hnm, hdf, hdl⟩ := id hC
  have k : ∀ r N', wp X (d + 1) mid b1 b2 (pc + 3) ls (pR r st) N' post → wp X (d + 1) mid b1 b2 (pc + 3) ls (pR r st) N' post := fun _ _ h => h
  obtain ⟨hm2, hds, hl2, hh1, hh2, hini⟩ := hp2
  have hcode := am_code hm2
  have hG := am_good hcode
  have hroom : 2 * (F0 m pc lsr ((as.reverse ++ st).map (rV G))).monitorRoom + ((st.map (rV G)).map fun v => v.category).sum ≤ 8 := by
    rw [List.map_map, show ((fun v => Value.category v) ∘ rV G) = fun v => v.category from funext fun v => rV_cat G v]
    exact lv_room (m := m) (pc := pc) (ls := lsr) (rest := []) hst
  have hstk : ((as.reverse ++ st).map (rV G)) = (as.map (rV G)).reverse ++ st.map (rV G) := by
    rw [List.map_append, List.map_reverse]
  have hargs : (as : List Value).map (rV G) = as.map (rV G) := by
    rfl
  have hPc : ∀ U : State, U.heap = H → s.WarmedH U.vm → aPc X G as N (as.map (rV G) : List Value).toArray U := fun U hU hw => by
    have := aPc_of (as := as) hK hW hS hU hw
    rw [hargs] at this
    exact this

  refine am_after (va_runSN (As := as.map (rV G)) ⟨hx, hb, hml, hown, hts⟩ (k0 G l) ⟨va_cnB (ws' := am_big) n hts hG rfl rfl rfl (hK.2.1 _ hli) (hts _ hini) ⟨hh1, hh2, hds⟩ ⟨by show d + 1 ≤ R.frames; omega, by show 8 + (am_l mid2 + 11) + 60 * d ≤ R.locals; omega⟩, hts _ hsa, trivial⟩ ⟨aPc_blind, hPc⟩ rfl (by rw [List.length_map]; exact hlen) (hl.1) hstk hroom hd ⟨by omega, by omega⟩) hS (fun r N' H1 locs1 hp hW1 hS1 => ?_)
  rw [am_pR]
  exact k r N' hp G p l e R s m args below meth c mc ms Q hC hK hR hret H1 locs1 (cells + c1) (slots + c2) lsr hW1 hS1 (by omega) (by omega) hl hn
theorem wr_invIN {mid2 n idx b1 b2 c1 c2 : Nat} {a : Nat} {host : String} {as : List Value} (hp2 : am_pl mid2 n) (hlen : as.length = n) (hst : (st.map fun v => v.category).sum ≤ 8) (hb1 : bc = b1 + c1) (hb2 : bs = b2 + c2) (ha : a < nC N) (hli : ((am_y mid).cls, idx, am_y mid2, host) ∈ am_nm) (hin : Cond.instanceMethod (am_y mid2) ∈ am_big) (hi1 : (am_y mid2).name = "<init>") (hi2 : am_r mid2 = none) (hd : decode (am_c mid) pc = .ok (.invokespecial idx, 3)) (k0 : CallOk X d c1 c2 mid2 (.ref a :: as) N (fun r N' => wp X (d + 1) mid b1 b2 (pc + 3) ls (pR r st) N' post)) : wp X (d + 1) mid bc bs pc ls (as.reverse ++ .ref a :: st) N post := by
  intro G p l e R s m args below meth c mc ms Q hC hK hR hret H locs cells slots lsr hW hS hc hs hl hn
  obtain ⟨hx, hb, hml, hown, hts, hnm, hdf, hdl⟩ := id hC
  have k : ∀ r N', wp X (d + 1) mid b1 b2 (pc + 3) ls (pR r st) N' post → wp X (d + 1) mid b1 b2 (pc + 3) ls (pR r st) N' post := fun _ _ h => h
  obtain ⟨hm2, hds, hl2, hh1, hh2, hini⟩ := hp2
  have hcode := am_code hm2
  have hG := am_good hcode
  have hroom : 2 * (F0 m pc lsr ((as.reverse ++ .ref a :: st).map (rV G))).monitorRoom + ((st.map (rV G)).map fun v => v.category).sum ≤ 8 := by
    rw [List.map_map, show ((fun v => Value.category v) ∘ rV G) = fun v => v.category from funext fun v => rV_cat G v]
    exact lv_room (m := m) (pc := pc) (ls := lsr) (rest := []) hst
  have hstk : ((as.reverse ++ .ref a :: st).map (rV G)) = (as.map (rV G)).reverse ++ .ref (G.1 + a) :: st.map (rV G) := by
    rw [List.map_append, List.map_reverse, List.map_cons, show rV G (.ref a) = .ref (G.1 + a) by show Value.ref _ = _; rw [gA_lt ha hW.2.2]]
  have hargs : (.ref a :: as : List Value).map (rV G) = .ref (G.1 + a) :: as.map (rV G) := by
    rw [List.map_cons, show rV G (.ref a) = .ref (G.1 + a) by show Value.ref _ = _; rw [gA_lt ha hW.2.2]]
  have hPc : ∀ U : State, U.heap = H → s.WarmedH U.vm → aPc X G (.ref a :: as) N (.ref (G.1 + a) :: as.map (rV G) : List Value).toArray U := fun U hU hw => by
    have := aPc_of (as := .ref a :: as) hK hW hS hU hw
    rw [hargs] at this
    exact this
  have k1 := k0 G l
  rw [hi2] at k1 hG
  refine am_after (va_runIN (As := as.map (rV G)) ⟨hx, hb, hml, hown, hts⟩ k1 ⟨va_cnB (ws' := am_big) n hts hG rfl rfl rfl (hK.2.1 _ hli) (hts _ hini) ⟨hh1, hh2, hds⟩ ⟨by show d + 1 ≤ R.frames; omega, by show 8 + (am_l mid2 + 11) + 60 * d ≤ R.locals; omega⟩, hi1, hts _ hin⟩ ⟨aPc_blind, hPc⟩ rfl (by rw [List.length_map]; exact hlen) (hl.1) hstk hroom hd ⟨by omega, by omega⟩) hS (fun r N' H1 locs1 hp hW1 hS1 => ?_)
  rw [am_pR]
  exact k r N' hp G p l e R s m args below meth c mc ms Q hC hK hR hret H1 locs1 (cells + c1) (slots + c2) lsr hW1 hS1 (by omega) (by omega) hl hn
/-- a method's contract out of the walk of its body -/
theorem lva_las {G : aG} : ∀ (as : List Value) (i : Nat), (∀ v ∈ as, ∀ x, v ≠ .double x) → las G i (lva as) = lv_args i (as.map (rV G))
  | [], _, _ => rfl
  | v :: t, i, h => by
    have ht := fun i => lva_las (G := G) t i (fun w hw => h w (List.mem_cons_of_mem _ hw))
    cases v with
    | long x =>
      show (i, rV G (.long x)) :: las G (i + 1 + 1) (lva t) = lv_args i (rV G (.long x) :: t.map (rV G))
      rw [ht]; rfl
    | double x => exact absurd rfl (h _ List.mem_cons_self x)
    | int x =>
      show (i, rV G (.int x)) :: las G (i + 1) (lva t) = lv_args i (rV G (.int x) :: t.map (rV G))
      rw [ht]; rfl
    | float x =>
      show (i, rV G (.float x)) :: las G (i + 1) (lva t) = lv_args i (rV G (.float x) :: t.map (rV G))
      rw [ht]; rfl
    | null =>
      show (i, rV G .null) :: las G (i + 1) (lva t) = lv_args i (rV G .null :: t.map (rV G))
      rw [ht]; rfl
    | ref x =>
      show (i, rV G (.ref x)) :: las G (i + 1) (lva t) = lv_args i (rV G (.ref x) :: t.map (rV G))
      rw [ht]; rfl
    | retAddr x =>
      show (i, rV G (.retAddr x)) :: las G (i + 1) (lva t) = lv_args i (rV G (.retAddr x) :: t.map (rV G))
      rw [ht]; rfl
theorem las_rep {G : aG} : ∀ (n i : Nat), las G i (List.replicate n none) = []
  | 0, _ => rfl
  | n + 1, i => las_rep n (i + 1)
theorem las_app {G : aG} : ∀ (a b : aL) (i : Nat), las G i (a ++ b) = las G i a ++ las G (i + a.length) b
  | [], b, i => rfl
  | none :: t, b, i => by
    show las G (i + 1) (t ++ b) = las G (i + 1) t ++ las G (i + (t.length + 1)) b
    rw [las_app t b (i + 1), show i + 1 + t.length = i + (t.length + 1) by omega]
  | some v :: t, b, i => by
    show (i, rV G v) :: las G (i + 1) (t ++ b) = (i, rV G v) :: (las G (i + 1) t ++ las G (i + (t.length + 1)) b)
    rw [las_app t b (i + 1), show i + 1 + t.length = i + (t.length + 1) by omega]
theorem lva_len {G : aG} : ∀ (as : List Value), (∀ v ∈ as, ∀ x, v ≠ .double x) → (lg_sl (as.map (rV G))).length = (lva as).length
  | [], _ => rfl
  | v :: t, h => by
    have ht := lva_len (G := G) t (fun w hw => h w (List.mem_cons_of_mem _ hw))
    have e : ∀ w : Value, (lg_sl (w :: t.map (rV G))).length = (if w.category = 2 then 2 else 1) + (lg_sl (t.map (rV G))).length := fun w => by
      simp only [lg_sl, List.flatMap_cons, List.length_append]
      by_cases hc : w.category = 2 <;> simp [hc]
    rw [List.map_cons, e, ht, rV_cat]
    cases v <;> first | exact absurd rfl (h _ List.mem_cons_self _) | (simp only [lva, Value.category, List.length_cons]; simp; omega)
theorem CallOk.intro {args : List Value} (hpl : plainName (am_y mid).cls = true) (hnd : (args.all fun v => match v with | .double _ => false | _ => true) = true) (hlen : (lva args).length ≤ am_l mid) (k : wp X d mid bc bs 0 (lve args (am_l mid)) [] N post) : CallOk X d bc bs mid args N post := by
  intro G l
  have hnd' : ∀ v ∈ args, ∀ x, v ≠ .double x := fun v hv x h => by
    have := List.all_eq_true.mp hnd v hv
    rw [h] at this
    cases this
  refine Met.ofW (cc := am_c mid) (maxL := am_l mid) (ret := am_r mid) hpl rfl ?_
  intro p e s m as below meth c s₁ B hml hP
  obtain ⟨rfl, hW, hK⟩ := hP
  have hts := atoms_spec (ws := Cond.code (am_y mid) (am_c mid) (am_l mid) (am_r mid) :: am_big) B.pre
  have hl := lv_entry (args.map (rV G)) (n := am_l mid) (by rw [lva_len args hnd']; exact hlen)
  rw [lg_entry_eq]
  generalize (lg_sl (args.map (rV G)) ++ List.replicate (am_l mid - (lg_sl (args.map (rV G))).length) Slot.unset).toArray = lsr at hl ⊢
  refine k G p l e (aRm d bc bs) s m _ below meth c bc bs _ ⟨B.exec, B.bytes, hml, findClass_of_methodNamed B.named, fun w hw => hts w (List.mem_cons_of_mem _ hw), (name_of_methodNamed B.named B.method).1, Nat.le_refl _, Nat.le_refl _⟩ hK ⟨Nat.le_refl _, Nat.le_refl _⟩ ?_ s.heap [] 0 0 lsr hW va_S.rf (by omega) (by omega) ?_ ?_
  · intro H locs cells slots lsr pc r N' hp hW' hS' hc1 hc2 hr
    refine W.widen hc1 hc2 ?_
    have hq : ∀ t : State, t.heap = H → s.WarmedH t.vm → aQc G post (args.map (rV G)).toArray s (.returned (r.map (rV G))) t := fun t ht _ => ⟨⟨r, N', rfl, hp, by rw [ht]; exact hW'⟩, hS'.F ht⟩
    have hf : ∀ q ∈ locs, gB G q.base := hS'.2.2
    rcases hr with ⟨rfl, hd, hr⟩ | ⟨x, rfl, hd, hr⟩ | ⟨x, rfl, hd, hr⟩
    · exact W.vret B.exec B.bytes (B.returns.trans hr) hq hf hd B.notSynchronized
    · rcases hr with hr | ⟨hr, hx⟩
      · exact W.iret B.exec B.bytes (B.returns.trans hr) hq hf hd B.notSynchronized
      · exact W.zret B.exec B.bytes (B.returns.trans hr) (by rcases hx with rfl | rfl <;> rfl) hq hf hd B.notSynchronized
    · exact W.lret B.exec B.bytes (B.returns.trans hr) hq hf hd B.notSynchronized
  · unfold lve
    rw [las_app, las_rep, List.append_nil, lva_las args 0 hnd']
    exact hl
  · unfold lve
    rw [List.length_append, List.length_replicate]
    omega
end R3
end
section
section R4
variable {X : aX} {d mid bc bs pc : Nat} {ls : aL} {st : List Value} {N : aN} {post : aO}
theorem cE_sN {G : aG} {kd len j : Nat} (h : j ≠ nC N) : cE G (sN N kd len) j = cE G N j := cE_cg (if_neg h) (if_neg h) (if_neg h) (if_neg h)
theorem ws_sN {G : aG} {kd len : Nat} : wsL G (sN N kd len) = wsL G N ++ [(G.1 + nC N, cE G (sN N kd len) (nC N))] := by
  have h : ∀ i ∈ List.range (nC N), (G.1 + i, cE G (sN N kd len) i) = (G.1 + i, cE G N i) := fun i hi => by
    rw [cE_sN (Nat.ne_of_lt (List.mem_range.mp hi))]
  show (List.range (nC N + 1)).map _ = _
  rw [List.range_succ, List.map_append, List.map_congr_left h]
  rfl
theorem sN_sh {kd len : Nat} : sH (sN N kd len) (nC N) = (kd, len) := by simp only [sH, sN, up1, if_true]
theorem q_fa : ∀ ci, ci < 5 → ∀ k, k < qM ci → am_ft ci k = 0 ∨ am_ft ci k = 1 ∨ am_ft ci k = 2 ∨ am_ft ci k = 3 := by decide +kernel
theorem q_de {G : aG} {ci k len : Nat} (hci : ci < 5) (hk : k < qM ci) : defaultValue (qY ci k) = fV G (sN N (10 + ci) len) ci (nC N) k := by
  rcases q_fa ci hci k hk with h | h | h | h
  · rw [(q_f0 ci hci k hk h).1]; simp only [fV, h, vI, sN, up1, if_true]; rfl
  · rw [(q_f1 ci hci k hk h).1]; simp only [fV, h, vL, sN, up1, if_true]; rfl
  · have hq1 : qY ci k = .array .int ∨ qY ci k = .object am_R0 ∨ qY ci k = .object am_R1 ∨ qY ci k = .array (.object am_R0) ∨ qY ci k = .array (.object am_R2) := by simpa using (q_f2 ci hci k hk h).1
    have e : fV G (sN N (10 + ci) len) ci (nC N) k = .null := by simp only [fV, h, vR, sN, up1, if_true]; rfl
    rw [e]
    rcases hq1 with h | h | h | h | h <;> rw [h] <;> rfl
  · rw [(q_f3 ci hci k hk h).1]; simp only [fV, h, vI, sN, up1, if_true]; rfl
theorem aW_push {G : aG} {H H1 : Heap} {kd len : Nat} (hW : aW G N H) (hn : nC N < 1000) (z : H1.size = G.1 + nC N + 1) (o1 : ∀ q, q < G.1 + nC N → H1[q]? = H[q]?) (he : va_at (gD G) am_cl (G.1 + nC N, cE G (sN N kd len) (nC N)) H1) : aW G (sN N kd len) H1 := by
  refine ⟨?_, by rw [z]; rfl, by show nC N + 1 ≤ 1000; omega⟩
  rw [ws_sN]
  refine va_P.app (hW.1.kept fun k q hk => ?_) (fun k q hk => ?_)
  · have := (hW.1 k q hk).lt
    exact o1 q.1 (by rw [hW.2.1] at this; exact this)
  · have hz : k < 1 := (List.getElem?_eq_some_iff.mp hk).1
    rw [show k = 0 by omega] at hk
    cases hk
    exact he
theorem vaS_push {G : aG} {s : State} {H H1 : Heap} {locs : List Loc} (hW : aW G N H) (hS : va_S (gB G) s.heap H locs) (z : H1.size = G.1 + nC N + 1) (o1 : ∀ q, q < G.1 + nC N → H1[q]? = H[q]?) : va_S (gB G) s.heap H1 locs :=
  ⟨Nat.le_trans hS.1 (by rw [z, hW.2.1]; omega), fun q h1 h2 => (o1 q (by have := Nat.lt_of_lt_of_le h1 hS.1; rw [hW.2.1] at this; exact this)).trans (hS.2.1 q h1 h2), hS.2.2⟩
theorem wr_new {ci idx b1 b2 : Nat} (hci : ci < 5) (hcl : Cond.classLink (am_y mid).cls idx (qR ci) ∈ am_big) (hins : Cond.instantiable (qR ci) (qM ci) ∈ am_big) (hini : Cond.initialized (qR ci) ∈ am_big) (hb1 : bc = b1 + 1) (hb2 : bs = b2 + qM ci) (hN : nC N < 1000) (hd : decode (am_c mid) pc = .ok (.new idx, 3)) (k : wp X d mid b1 b2 (pc + 3) ls (.ref (nC N) :: st) (sN N (10 + ci) (qM ci)) post) : wp X d mid bc bs pc ls st N post := by
  intro G p l e R s m args below meth c mc ms Q hC hK hR hret H locs cells slots lsr hW hS hc hs hl hn
  obtain ⟨hx, hb, hml, hown, hts, hnm, hdf, hdl⟩ := id hC
  have hKn := hK.1.1 ci _ (q_cl hci)
  have hg : rV G (.ref (nC N)) = .ref (G.1 + nC N) := by show Value.ref _ = _; rw [gA_lt (N := sN N (10 + ci) (qM ci)) (show nC N < nC N + 1 by omega) (show nC N + 1 ≤ 1000 by omega)]
  refine W.newcK hx hb hown (hts _ hcl) (hts _ hins) (hts _ hini) rfl hd (by omega) (by omega) hKn.2.1 hW.2.1 fun H1 kC hkC e1 z1 o1 => ?_
  have kk := (k G p l e R s m args below meth c mc ms Q hC hK hR hret H1 locs (cells + 1) (slots + qM ci) lsr (aW_push hW hN z1 o1 (by rw [cE_obj sN_sh]; exact ⟨_, q_cl hci, (u_born (qY ci) hts (q_in hci) hKn hkC e1 (q_ty hci)).to (fun j hj => by rw [q_de (N := N) (G := G) (len := qM ci) hci hj]; simp [vp_V, hj])⟩)) (vaS_push hW hS z1 o1) (by omega) (by omega) hl hn)
  rw [List.map_cons, hg] at kk
  exact kk
theorem wr_newI {len b1 b2 : Nat} {n : Int32} (h0 : ¬ n < 0) (hlen : n.toNatClampNeg = len) (hle : len ≤ 100000) (hac : Cond.arrayClass .int ∈ am_big) (hb1 : bc = b1 + 1) (hb2 : bs = b2 + len) (hN : nC N < 1000) (hd : decode (am_c mid) pc = .ok (.newarray .int, 2)) (k : wp X d mid b1 b2 (pc + 2) ls (.ref (nC N) :: st) (sN N 0 len) post) : wp X d mid bc bs pc ls (.int n :: st) N post := by
  intro G p l e R s m args below meth c mc ms Q hC hK hR hret H locs cells slots lsr hW hS hc hs hl hn
  obtain ⟨hx, hb, hml, hown, hts, hnm, hdf, hdl⟩ := id hC
  have hg : rV G (.ref (nC N)) = .ref (G.1 + nC N) := by show Value.ref _ = _; rw [gA_lt (N := sN N 0 len) (show nC N < nC N + 1 by omega) (show nC N + 1 ≤ 1000 by omega)]
  refine va_newaK (atype := .int) hx hb (hts _ hac) rfl hd rfl h0 hlen (by show len * 4 ≤ _; omega) (by omega) (by omega) hW.2.1 fun H1 cA e1 z1 o1 hAr hNm => ?_
  have hcA : cA = gI G := Option.some.inj (hNm.symm.trans (hK.1.2 0 _ rfl).2)
  subst hcA
  have kk := (k G p l e R s m args below meth c mc ms Q hC hK hR hret H1 locs (cells + 1) (slots + len) lsr (aW_push hW hN z1 o1 (by rw [cE_int sN_sh]; show H1[_]? = some (vp_cell _ _); rw [vp_cell_i]; simp only [vI, sN, up1, if_true]; exact e1)) (vaS_push hW hS z1 o1) (by omega) (by omega) hl hn)
  rw [List.map_cons, hg] at kk
  exact kk
theorem wr_newR {len b1 b2 idx kd : Nat} {C : String} {n : Int32} (hkd : (kd = 1 ∧ C = am_R2) ∨ (kd = 2 ∧ C = am_R0)) (h0 : ¬ n < 0) (hlen : n.toNatClampNeg = len) (hle : len ≤ 100000) (hcl : Cond.classLink (am_y mid).cls idx C ∈ am_big) (hb1 : bc = b1 + 1) (hb2 : bs = b2 + len) (hN : nC N < 1000) (hd : decode (am_c mid) pc = .ok (.anewarray idx, 3)) (k : wp X d mid b1 b2 (pc + 3) ls (.ref (nC N) :: st) (sN N kd len) post) : wp X d mid bc bs pc ls (.int n :: st) N post := by
  intro G p l e R s m args below meth c mc ms Q hC hK hR hret H locs cells slots lsr hW hS hc hs hl hn
  obtain ⟨hx, hb, hml, hown, hts, hnm, hdf, hdl⟩ := id hC
  have hg : rV G (.ref (nC N)) = .ref (G.1 + nC N) := by show Value.ref _ = _; rw [gA_lt (N := sN N kd len) (show nC N < nC N + 1 by omega) (show nC N + 1 ≤ 1000 by omega)]
  have hao : va_AO C s := by rcases hkd with ⟨-, rfl⟩ | ⟨-, rfl⟩; exact hK.2.2.2.1.1; exact hK.2.2.2.1.2
  subst hlen
  refine W.anew hx hb hown (hts _ hcl) (va_AO.use hao) rfl hd rfl h0 (by omega) (by omega) (by omega) fun cA kA comp f1 f2 f3 f4 => ?_
  generalize hH1 : H.push ({ cls := cA, slots := Array.replicate n.toNatClampNeg .null, vm := .none } : Cell) = H1
  have z1 : H1.size = G.1 + nC N + 1 := by rw [← hH1, Array.size_push, hW.2.1]
  have e1 : H1[G.1 + nC N]? = some (arrV cA n.toNatClampNeg (fun _ => .null)) := by rw [← hH1, ← hW.2.1, Array.getElem?_push_size, ← arrV_new]
  have o1 : ∀ q : Nat, q < G.1 + nC N → H1[q]? = H[q]? := fun q hq => by rw [← hH1, Array.getElem?_push, if_neg (by rw [hW.2.1]; omega)]
  have hat : va_at (gD G) am_cl (G.1 + nC N, cE G (sN N kd n.toNatClampNeg) (nC N)) H1 := by
    rcases hkd with ⟨rfl, rfl⟩ | ⟨rfl, rfl⟩
    · obtain ⟨-, -, -, -, -, g4⟩ := (hK.1.2 1 _ rfl).2
      have hcA : cA = gR G := Option.some.inj (f1.symm.trans g4)
      subst hcA
      rw [cE_row sN_sh]
      show H1[_]? = some (vp_cell _ _)
      rw [vp_cell_q]; simp only [vR, sN, up1, if_true]; exact e1
    · obtain ⟨-, -, -, -, -, g4⟩ := (hK.1.2 2 _ rfl).2
      have hcA : cA = gC G := Option.some.inj (f1.symm.trans g4)
      subst hcA
      rw [cE_clo sN_sh]
      show H1[_]? = some (vp_cell _ _)
      rw [vp_cell_q]; simp only [vR, sN, up1, if_true]; exact e1
  have kk := (k G p l e R s m args below meth c mc ms Q hC hK hR hret H1 locs (cells + 1) (slots + n.toNatClampNeg) lsr (aW_push hW hN z1 o1 hat) (vaS_push hW hS z1 o1) (by omega) (by omega) hl hn)
  rw [List.map_cons, hg] at kk
  rw [hW.2.1]
  exact kk
theorem wr_aast {a v n kd ci : Nat} {i : Int32} (ha : a < nC N) (hv : v < nC N) (hsh : sH N a = (kd, n)) (hsv : sH N v = (10 + ci, qM ci)) (hkd : (kd = 1 ∧ ci = 2) ∨ (kd = 2 ∧ ci = 0)) (hi : vp_in i n) (hd : decode (am_c mid) pc = .ok (.aastore, 1)) (k : wp X d mid bc bs (pc + 1) ls st (sR N a i.toNatClampNeg (v + 1)) post) : wp X d mid bc bs pc ls (.ref v :: .int i :: .ref a :: st) N post := by
  intro G p l e R s m args below meth c mc ms Q hC hK hR hret H locs cells slots lsr hW hS hc hs hl hn
  obtain ⟨hx, hb, hml, hown, hts, hnm, hdf, hdl⟩ := id hC
  have hg : rV G (.ref a) = .ref (G.1 + a) := by show Value.ref _ = _; rw [gA_lt ha hW.2.2]
  have hgv : rV G (.ref v) = .ref (G.1 + v) := by show Value.ref _ = _; rw [gA_lt hv hW.2.2]
  show W p l e R s m args below meth c H locs cells slots Q (F0 m pc lsr (rV G (.ref v) :: .int i :: rV G (.ref a) :: st.map (rV G)))
  rw [hg, hgv]
  have hci : ci < 5 := by omega
  have hcq := q_cl hci
  have he := ws_at (G := G) ha
  have hev := ws_at (G := G) hv
  rw [cE_obj hsv] at hev
  have hlt : i.toNatClampNeg < n := Nat.not_le.mp fun q => hi (Or.inr q)
  have h0 : ¬ i < 0 := fun q => hi (Or.inl q)
  obtain ⟨r', hr', cellV, g1, g2, g3, -⟩ := hW.1 v _ hev
  have hcls := (hK.1.1 ci _ hcq).2
  have hcell : ∃ (cA : ClassId) (t0 : Nat), (aT G)[t0]? = some (cA, .object (qR ci)) ∧ cE G N a = .inl (cA, n, .inr (.inr (.inr (.inr (fun j => rO G (vR N a j)))))) ∧ cE G (sR N a i.toNatClampNeg (v + 1)) a = .inl (cA, n, .inr (.inr (.inr (.inr (fun j => rO G (va_up (vR N a) i.toNatClampNeg (v + 1) j)))))) := by
    rcases hkd with ⟨rfl, rfl⟩ | ⟨rfl, rfl⟩
    · exact ⟨gR G, 1, rfl, cE_row hsh, by rw [cE_row (N := sR N a i.toNatClampNeg (v + 1)) hsh]; simp only [vR, sR, up2, if_true]⟩
    · exact ⟨gC G, 2, rfl, cE_clo hsh, by rw [cE_clo (N := sR N a i.toNatClampNeg (v + 1)) hsh]; simp only [vR, sR, up2, if_true]⟩
  obtain ⟨cA, t0, ht, hcE, hcE2⟩ := hcell
  rw [hcE] at he
  obtain ⟨kA, comp, k1, k2, k3, -⟩ := (hK.1.2 t0 _ ht).2
  have hcomp : comp = (gD G).1 ci := Option.some.inj (k3.symm.trans hcls.1)
  subst hcomp
  obtain ⟨kC, hkC, -⟩ := id hcls.2
  refine W.aast hx hb (hW.1 a _ he) (fun q h => by cases h) (fun h => by cases h) k1 k2 rfl hkC ⟨h0, by show _ < (arrV _ _ _).slots.size; rw [arrV_size]; exact hlt⟩ g1 (fun q h => by rw [g3] at h; cases h) (by rw [g2]; exact hkC) (by rw [g2]; exact va_assign hcls) rfl rfl hd fun H1 e1 z oq => ?_
  have hS1 := hS.put (k := i.toNatClampNeg) z oq (show gB G (G.1 + a) from Nat.le_add_right _ _)
  have h1 := hW.1.set wsD he (e := cE G (sR N a i.toNatClampNeg (v + 1)) a) (H1 := H1) (by
    rw [hcE2]
    show H1[G.1 + a]? = some (vp_cell _ _)
    rw [e1, vp_cell_q, vp_cell_q, arrV_store]
    congr 2
    funext q
    by_cases hq : q = i.toNatClampNeg
    · subst hq
      simp [updV, va_up, va_rf, rO]
    · simp [updV, va_up, hq]) oq
  rw [ws_set (G := G) (N := N) (N' := sR N a i.toNatClampNeg (v + 1)) rfl ha rfl (fun j hj => cE_sR hj)] at h1
  exact (k G p l e R s m args below meth c mc ms Q hC hK hR hret H1 _ cells slots lsr ⟨h1, by rw [z]; exact hW.2.1, hW.2.2⟩ hS1 hc hs hl hn)
theorem wr_obj {idx a : Nat} (hli : Cond.methodLink (am_y mid).cls idx objectInit ∈ am_big) (hin : Cond.instanceMethod objectInit ∈ am_big) (hco : Cond.code objectInit ⟨#[0xb1]⟩ 1 none ∈ am_big) (hst : (st.map fun v => v.category).sum ≤ 8) (hd : decode (am_c mid) pc = .ok (.invokespecial idx, 3)) (k : wp X (d + 1) mid bc bs (pc + 3) ls st N post) : wp X (d + 1) mid bc bs pc ls (.ref a :: st) N post := by
  intro G p l e R s m args below meth c mc ms Q hC hK hR hret H locs cells slots lsr hW hS hc hs hl hn
  obtain ⟨hx, hb, hml, hown, hts, hnm, hdf, hdl⟩ := id hC
  refine W.objInit hx hb hown (hts _ hli) (hts _ hin) (hts _ hco) rfl (hl.1.trans hml.symm) rfl hd (by omega) ?_ (k G p l e R s m args below meth c mc ms Q hC hK hR hret H locs cells slots lsr hW hS hc hs hl hn)
  have : ((st.map (rV G)).map fun v => v.category).sum ≤ 8 := by
    rw [List.map_map, show ((fun v => Value.category v) ∘ rV G) = fun v => v.category from funext fun v => rV_cat G v]
    exact hst
  show 2 * 0 + _ + 12 ≤ _
  omega
theorem nfw_ac : nativeFrameWords "java/lang/System" "arraycopy" 5 ≤ 20 := by decide +kernel
theorem wr_copy {idx a0 a n0 n1 : Nat} {sp dp n : Int32} (hli : Cond.methodLink (am_y mid).cls idx arraycopyName ∈ am_big) (hna : Cond.native arraycopyName ∈ am_big) (hsa : Cond.static arraycopyName ∈ am_big) (hini : Cond.initialized "java/lang/System" ∈ am_big) (hst : (st.map fun v => v.category).sum ≤ 8) (ha0 : a0 < nC N) (ha : a < nC N) (hs0 : sH N a0 = (0, n0)) (hs1 : sH N a = (0, n1))
    (h1 : ¬ sp < 0) (h2 : ¬ dp < 0) (h3 : ¬ n < 0) (h4 : sp.toNatClampNeg + n.toNatClampNeg ≤ n0) (h5 : dp.toNatClampNeg + n.toNatClampNeg ≤ n1) (hd : decode (am_c mid) pc = .ok (.invokestatic idx, 3)) (k : wp X (d + 1) mid bc bs (pc + 3) ls st (sA N a (va_cpy (vI N a0) (vI N a) sp.toNatClampNeg dp.toNatClampNeg n.toNatClampNeg)) post) : wp X (d + 1) mid bc bs pc ls (.int n :: .int dp :: .ref a :: .int sp :: .ref a0 :: st) N post := by
  intro G p l e R s m args below meth c mc ms Q hC hK hR hret H locs cells slots lsr hW hS hc hs hl hn
  obtain ⟨hx, hb, hml, hown, hts, hnm, hdf, hdl⟩ := id hC
  have hg : rV G (.ref a) = .ref (G.1 + a) := by show Value.ref _ = _; rw [gA_lt ha hW.2.2]
  have hg0 : rV G (.ref a0) = .ref (G.1 + a0) := by show Value.ref _ = _; rw [gA_lt ha0 hW.2.2]
  show W p l e R s m args below meth c H locs cells slots Q (F0 m pc lsr (.int n :: .int dp :: rV G (.ref a) :: .int sp :: rV G (.ref a0) :: st.map (rV G)))
  rw [hg, hg0]
  have e0 := ws_at (G := G) ha0
  rw [cE_int hs0] at e0
  have e1 := ws_at (G := G) ha
  rw [cE_int hs1] at e1
  have nn : ∀ z : Int32, ¬ z < 0 → z.toInt = (z.toNatClampNeg : Int) := by
    intro z hz
    have : (0 : Int) ≤ z.toInt := by
      have := Int32.not_lt.mp hz
      simpa using Int32.le_iff_toInt_le.mp this
    show z.toInt = ((z.toInt.toNat : Nat) : Int)
    omega
  have hsum : ((st.map (rV G)).map fun v => v.category).sum ≤ 8 := by
    rw [List.map_map, show ((fun v => Value.category v) ∘ rV G) = fun v => v.category from funext fun v => rV_cat G v]
    exact hst
  have hnf := nfw_ac
  have hc0 : H[G.1 + a0]? = some (vp_cell (gI G) (n0, .inl (vI N a0))) := hW.1 a0 _ e0
  have hc1 : H[G.1 + a]? = some (vp_cell (gI G) (n1, .inl (vI N a))) := hW.1 a _ e1
  intro T hT Y
  obtain ⟨-, k0, hk0, cm0, hkk0⟩ := (hK.1.2 0 _ rfl).1 n0 (fun j => .int (vI N a0 j))
  obtain ⟨-, k1, hk1, cm1, hkk1⟩ := (hK.1.2 0 _ rfl).1 n1 (fun j => .int (vI N a j))
  obtain ⟨vm', Y', step⟩ := Y.arraycopy hx hown (hts _ hli) (hts _ hna) (hts _ hsa) (hts _ hini) (src := G.1 + a0) (dst := G.1 + a) (cs := vp_cell (gI G) (n0, .inl (vI N a0))) (cd := vp_cell (gI G) (n1, .inl (vI N a))) (srcPos := sp) (destPos := dp) (n := n) (by rw [hT]; exact hc0) (by rw [hT]; exact hc1)
    (fun _ h => by cases h) (fun _ h => by cases h) (fun h => by cases h) (fun h => by cases h) hk0 hk1 hkk0 hkk1 (by simp [refKind]) h1 h2 h3
    (by rw [nn sp h1, nn n h3]; show ¬ _ > ((arrV (gI G) n0 (fun j => .int (vI N a0 j))).slots.size : Int); rw [arrV_size]; omega)
    (by rw [nn dp h2, nn n h3]; show ¬ _ > ((arrV (gI G) n1 (fun j => .int (vI N a j))).slots.size : Int); rw [arrV_size]; omega)
    (fun vm₁ _ i hi => by
      have e : (vp_cell (gI G) (n0, .inl (vI N a0))).slots.getD (sp.toNatClampNeg + i) .null = .int (vI N a0 (sp.toNatClampNeg + i)) := by
        show (arrV (gI G) n0 (fun j => .int (vI N a0 j))).slots.getD _ _ = _
        rw [Array.getD_eq_getD_getElem?, arrV_read _ _ (by omega)]
        rfl
      refine ⟨?_, ?_⟩
      · rw [e]
        rfl
      · rw [e]
        exact trivial)
    (g := F0 m pc lsr (.int n :: .int dp :: .ref (G.1 + a) :: .int sp :: .ref (G.1 + a0) :: st.map (rV G))) rfl (hl.1.trans hml.symm) (rest := st.map (rV G)) rfl (by rw [hb]; exact hd) (by omega) (by show 2 * 0 + _ + _ ≤ _; omega)
  have ee : copied (vp_cell (gI G) (n0, .inl (vI N a0))) (vp_cell (gI G) (n1, .inl (vI N a))) sp dp n = vp_cell (gI G) (n1, .inl (va_cpy (vI N a0) (vI N a) sp.toNatClampNeg dp.toNatClampNeg n.toNatClampNeg)) := va_copied (fun z => .int z) (gI G) (gI G) (vI N a0) (vI N a) h4
  rw [ee] at Y' step
  have hl2 : G.1 + a < H.size := (Array.getElem?_eq_some_iff.mp hc1).1
  have hheap : ((T.setVm vm').setCell (G.1 + a) (vp_cell (gI G) (n1, .inl (va_cpy (vI N a0) (vI N a) sp.toNatClampNeg dp.toNatClampNeg n.toNatClampNeg)))).heap = H.setIfInBounds (G.1 + a) (vp_cell (gI G) (n1, .inl (va_cpy (vI N a0) (vI N a) sp.toNatClampNeg dp.toNatClampNeg n.toNatClampNeg))) := by rw [← hT]; rfl
  have oq : ∀ q : Nat, q ≠ G.1 + a → (H.setIfInBounds (G.1 + a) (vp_cell (gI G) (n1, .inl (va_cpy (vI N a0) (vI N a) sp.toNatClampNeg dp.toNatClampNeg n.toNatClampNeg))))[q]? = H[q]? := fun q hq => by simp [Array.getElem?_setIfInBounds, Ne.symm hq]
  have hP1 := hW.1.set wsD e1 (e := .inl (gI G, n1, .inl (va_cpy (vI N a0) (vI N a) sp.toNatClampNeg dp.toNatClampNeg n.toNatClampNeg))) (show (H.setIfInBounds (G.1 + a) _)[G.1 + a]? = some _ by simp [Array.getElem?_setIfInBounds, hl2]) oq
  rw [ws_set (G := G) (N := N) (N' := sA N a (va_cpy (vI N a0) (vI N a) sp.toNatClampNeg dp.toNatClampNeg n.toNatClampNeg)) rfl ha (by rw [cE_int (N := sA N a _) (a := a) hs1]; simp only [vI, sA, up1, if_true]) (fun j hj => cE_sA hj)] at hP1
  obtain ⟨t, a1, b1⟩ := (k G p l e R s m args below meth c mc ms Q hC hK hR hret _ _ cells slots lsr ⟨hP1, by simp; exact hW.2.1, hW.2.2⟩ ⟨by simp; exact hS.1, fun q g1 g2 => by
      rw [oq q (fun e => g2 (by rw [e]; exact Nat.le_add_right _ _))]
      exact hS.2.1 q g1 g2, fun q hq => by
      rcases List.mem_append.mp hq with h | h
      · exact hS.2.2 q h
      · obtain ⟨z, -, hz⟩ := List.mem_map.mp h
        rw [← hz]
        exact Nat.le_add_right _ _⟩ hc hs hl hn) _ hheap Y'
  exact ⟨t, step t a1, b1⟩
/-! switches -/
def swk (J : Nat → Prop) (dt : Nat) (x : Int32) : List (Int32 × Nat) → Prop
  | [] => J dt
  | (v, t) :: r => (x = v → J t) ∧ (¬ x = v → swk J dt x r)
theorem swk_spec {J : Nat → Prop} {dt : Nat} {x : Int32} : ∀ (ts : List (Int32 × Nat)), swk J dt x ts → (∃ (j : Nat) (q : Int32 × Nat), ts[j]? = some q ∧ q.1 = x ∧ J q.2) ∨ ((∀ q ∈ ts, q.1 ≠ x) ∧ J dt)
  | [], h => Or.inr ⟨fun q hq => by simp at hq, h⟩
  | (v, t) :: r, h => by
    by_cases hv : x = v
    · exact Or.inl ⟨0, (v, t), rfl, hv.symm, h.1 hv⟩
    · rcases swk_spec r (h.2 hv) with ⟨j, q, h1, h2⟩ | ⟨h1, h2⟩
      · exact Or.inl ⟨j + 1, q, by simpa using h1, h2⟩
      · refine Or.inr ⟨fun q hq => ?_, h2⟩
        rcases List.mem_cons.mp hq with rfl | hq
        · exact fun e => hv e.symm
        · exact h1 q hq
theorem wr_tsw {dflt lo hi : Int} {offs : Array Int} {len dt : Nat} {x : Int32} {ts : List (Int32 × Nat)} (hd : decode (am_c mid) pc = .ok (.tableswitch dflt lo hi offs, len)) (hts : ts.map (fun q => (q.1.toInt, (q.2 : Int))) = offs.toList.mapIdx (fun j o => (lo + (j : Int), (pc : Int) + o))) (hhi : hi = lo + (offs.size : Int) - 1) (hdt : (pc : Int) + dflt = (dt : Int)) (k : swk (fun t => wp X d mid bc bs t ls st N post) dt x ts) : wp X d mid bc bs pc ls (.int x :: st) N post := by
  have at' : ∀ (j : Nat) (q : Int32 × Nat), ts[j]? = some q → ∃ o, offs[j]? = some o ∧ q.1.toInt = lo + (j : Int) ∧ (q.2 : Int) = (pc : Int) + o := by
    intro j q hq
    have h1 : (ts.map (fun q => (q.1.toInt, (q.2 : Int))))[j]? = some (q.1.toInt, (q.2 : Int)) := by rw [List.getElem?_map, hq]; rfl
    rw [hts, List.getElem?_mapIdx] at h1
    cases ho : offs.toList[j]? with
    | none => rw [ho] at h1; cases h1
    | some o =>
      rw [ho] at h1
      have h2 := Option.some.inj h1
      exact ⟨o, by rw [← Array.getElem?_toList]; exact ho, (congrArg Prod.fst h2).symm, (congrArg Prod.snd h2).symm⟩
  have hlen : ts.length = offs.size := by
    have := congrArg List.length hts
    simpa using this
  rcases swk_spec ts k with ⟨j, q, h1, h2, h3⟩ | ⟨h1, h2⟩
  · obtain ⟨o, g1, g2, g3⟩ := at' j q h1
    have hj : j < offs.size := (Array.getElem?_eq_some_iff.mp g1).1
    rw [h2] at g2
    intro G p l e R s m args below meth c mc ms Q hC hK hR hret H locs cells slots lsr hW hS hc hs hl hn
    obtain ⟨hx, hb, hml, hown, hts, hnm, hdf, hdl⟩ := id hC
    refine lv_tableIn (tgt := q.2) hx hb hd (by omega) (by omega) (off := o) ?_ g3.symm (h3 G p l e R s m args below meth c mc ms Q hC hK hR hret H locs cells slots lsr hW hS hc hs hl hn)
    rw [show (x.toInt - lo).toNat = j by omega]
    exact g1
  · intro G p l e R s m args below meth c mc ms Q hC hK hR hret H locs cells slots lsr hW hS hc hs hl hn
    obtain ⟨hx, hb, hml, hown, hts, hnm, hdf, hdl⟩ := id hC
    refine lv_tableOut (tgt := dt) hx hb hd ?_ hdt (h2 G p l e R s m args below meth c mc ms Q hC hK hR hret H locs cells slots lsr hW hS hc hs hl hn)
    by_cases hlt : x.toInt < lo
    · exact Or.inl hlt
    · right
      apply Int.not_le.mp
      intro hle
      have hj : (x.toInt - lo).toNat < ts.length := by rw [hlen]; omega
      obtain ⟨o, -, g2, -⟩ := at' _ _ (List.getElem?_eq_getElem hj)
      refine h1 ts[(x.toInt - lo).toNat] (List.getElem_mem hj) (Int32.toInt_inj.mp ?_)
      rw [g2]; omega
theorem wr_lsw_off {J : Nat → Prop} {dt : Nat} {x : Int32} {dflt : Int} (hdt : (pc : Int) + dflt = (dt : Int)) : ∀ (ts : List (Int32 × Nat)) (ps : List (Int × Int)), ts.map (fun q => (q.1.toInt, (q.2 : Int))) = ps.map (fun q => (q.1, (pc : Int) + q.2)) → swk J dt x ts → ∃ t : Nat, (pc : Int) + Op.lookupswitch.offset ps dflt x.toInt = (t : Int) ∧ J t
  | [], [], _, h => ⟨dt, hdt, h⟩
  | (v, t) :: r, (a, o) :: ps, he, h => by
    rw [List.map_cons, List.map_cons] at he
    injection he with e1 e2
    have ea : v.toInt = a := congrArg Prod.fst e1
    have eo : (t : Int) = (pc : Int) + o := congrArg Prod.snd e1
    by_cases hv : x = v
    · refine ⟨t, ?_, h.1 hv⟩
      rw [Op.lookupswitch.offset_cons, if_pos (by rw [hv, ea]), eo]
    · obtain ⟨t', h1, h2⟩ := wr_lsw_off hdt r ps e2 (h.2 hv)
      exact ⟨t', by rw [lv_osw hv ea]; exact h1, h2⟩
  | [], _ :: _, he, _ => by simp at he
  | _ :: _, [], he, _ => by simp at he
theorem wr_lsw {dflt : Int} {ps : Array (Int × Int)} {len dt : Nat} {x : Int32} {ts : List (Int32 × Nat)} (hd : decode (am_c mid) pc = .ok (.lookupswitch dflt ps, len)) (hp : (ps.toList.zip (ps.toList.drop 1)).all (fun (a, next) => a.1 < next.1) = true) (hts : ts.map (fun q => (q.1.toInt, (q.2 : Int))) = ps.toList.map (fun q => (q.1, (pc : Int) + q.2))) (hdt : (pc : Int) + dflt = (dt : Int)) (k : swk (fun t => wp X d mid bc bs t ls st N post) dt x ts) : wp X d mid bc bs pc ls (.int x :: st) N post := by
  obtain ⟨t, h1, h2⟩ := wr_lsw_off hdt ts ps.toList hts k
  intro G p l e R s m args below meth c mc ms Q hC hK hR hret H locs cells slots lsr hW hS hc hs hl hn
  obtain ⟨hx, hb, hml, hown, hts, hnm, hdf, hdl⟩ := id hC
  exact lv_lookup (tgt := t) hx hb hd hp rfl h1 (h2 G p l e R s m args below meth c mc ms Q hC hK hR hret H locs cells slots lsr hW hS hc hs hl hn)
end R4
end
section
/-! the cells as they stand behind the two constructors -/
def shl : List (Nat × Nat) := [(13, 11), (1, 6), (1, 4), (10, 13), (0, 5), (0, 5), (0, 8), (0, 8), (0, 8), (0, 40), (0, 40), (0, 40), (0, 5), (0, 5), (10, 13), (0, 5), (0, 5), (0, 8), (0, 8), (0, 8), (0, 40), (0, 40), (0, 40), (0, 5), (0, 5), (2, 3), (11, 8), (10, 13), (0, 5), (0, 5), (0, 8), (0, 8), (0, 8), (0, 40), (0, 40), (0, 40), (0, 5), (0, 5), (0, 5), (0, 5), (0, 5), (0, 6), (12, 2), (0, 40), (12, 2), (0, 40), (12, 2), (0, 40), (12, 2), (0, 40), (12, 2), (0, 40), (12, 2), (0, 40), (12, 2), (0, 60), (12, 2), (0, 60), (12, 2), (0, 60), (12, 2), (0, 60), (10, 13), (0, 5), (0, 5), (0, 8), (0, 8), (0, 8), (0, 40), (0, 40), (0, 40), (0, 5), (0, 5), (10, 13), (0, 5), (0, 5), (0, 8), (0, 8), (0, 8), (0, 40), (0, 40), (0, 40), (0, 5), (0, 5), (10, 13), (0, 5), (0, 5), (0, 8), (0, 8), (0, 8), (0, 40), (0, 40), (0, 40), (0, 5), (0, 5), (14, 20), (0, 5976), (0, 3), (0, 240), (0, 6), (0, 240), (0, 4), (0, 40), (0, 6), (0, 5), (0, 5), (0, 5)]
def vrl : List (List Nat) := [[2, 3, 4, 15, 26, 27, 42, 0, 0, 0, 0], [43, 45, 47, 49, 51, 53], [55, 57, 59, 61], [0, 5, 6, 0, 7, 8, 9, 0, 10, 11, 12, 13, 14], [], [], [], [], [], [], [], [], [], [], [0, 16, 17, 0, 18, 19, 20, 0, 21, 22, 23, 24, 25], [], [], [], [], [], [], [], [], [], [], [63, 74, 85], [28, 39, 40, 0, 0, 0, 0, 41], [0, 29, 30, 0, 31, 32, 33, 0, 34, 35, 36, 37, 38], [], [], [], [], [], [], [], [], [], [], [], [], [], [], [44, 0], [], [46, 0], [], [48, 0], [], [50, 0], [], [52, 0], [], [54, 0], [], [56, 0], [], [58, 0], [], [60, 0], [], [62, 0], [], [0, 64, 65, 0, 66, 67, 68, 0, 69, 70, 71, 72, 73], [], [], [], [], [], [], [], [], [], [], [0, 75, 76, 0, 77, 78, 79, 0, 80, 81, 82, 83, 84], [], [], [], [], [], [], [], [], [], [], [0, 86, 87, 0, 88, 89, 90, 0, 91, 92, 93, 94, 95], [], [], [], [], [], [], [], [], [], [], [97, 0, 98, 99, 100, 101, 102, 103, 0, 104, 0, 0, 0, 0, 105, 106, 0, 107, 0, 0], [], [], [], [], [], [], [], [], [], [], []]
def sh0 (i : Nat) : Nat × Nat := shl.getD i (99, 0)
def vr0 (i k : Nat) : Nat := (vrl.getD i []).getD k 0
abbrev mk (vi : Nat → Nat → Int32) (vl : Nat → Nat → Int64) : aN := (vi, vl, vr0, sh0, 107)
theorem sq_0 : sh0 0 = (13, 11) := rfl
theorem lq_0 : 0 < 107 := by decide
theorem vq_0_0 : vr0 0 0 = 1 + 1 := rfl
theorem vq_0_1 : vr0 0 1 = 2 + 1 := rfl
theorem vq_0_2 : vr0 0 2 = 3 + 1 := rfl
theorem vq_0_3 : vr0 0 3 = 14 + 1 := rfl
theorem vq_0_4 : vr0 0 4 = 25 + 1 := rfl
theorem vq_0_5 : vr0 0 5 = 26 + 1 := rfl
theorem vq_0_6 : vr0 0 6 = 41 + 1 := rfl
theorem sq_1 : sh0 1 = (1, 6) := rfl
theorem lq_1 : 1 < 107 := by decide
theorem sq_2 : sh0 2 = (1, 4) := rfl
theorem lq_2 : 2 < 107 := by decide
theorem sq_3 : sh0 3 = (10, 13) := rfl
theorem lq_3 : 3 < 107 := by decide
theorem vq_3_1 : vr0 3 1 = 4 + 1 := rfl
theorem vq_3_2 : vr0 3 2 = 5 + 1 := rfl
theorem vq_3_4 : vr0 3 4 = 6 + 1 := rfl
theorem vq_3_5 : vr0 3 5 = 7 + 1 := rfl
theorem vq_3_6 : vr0 3 6 = 8 + 1 := rfl
theorem vq_3_8 : vr0 3 8 = 9 + 1 := rfl
theorem vq_3_9 : vr0 3 9 = 10 + 1 := rfl
theorem vq_3_10 : vr0 3 10 = 11 + 1 := rfl
theorem vq_3_11 : vr0 3 11 = 12 + 1 := rfl
theorem vq_3_12 : vr0 3 12 = 13 + 1 := rfl
theorem sq_4 : sh0 4 = (0, 5) := rfl
theorem lq_4 : 4 < 107 := by decide
theorem sq_5 : sh0 5 = (0, 5) := rfl
theorem lq_5 : 5 < 107 := by decide
theorem sq_6 : sh0 6 = (0, 8) := rfl
theorem lq_6 : 6 < 107 := by decide
theorem sq_7 : sh0 7 = (0, 8) := rfl
theorem lq_7 : 7 < 107 := by decide
theorem sq_8 : sh0 8 = (0, 8) := rfl
theorem lq_8 : 8 < 107 := by decide
theorem sq_9 : sh0 9 = (0, 40) := rfl
theorem lq_9 : 9 < 107 := by decide
theorem sq_10 : sh0 10 = (0, 40) := rfl
theorem lq_10 : 10 < 107 := by decide
theorem sq_11 : sh0 11 = (0, 40) := rfl
theorem lq_11 : 11 < 107 := by decide
theorem sq_12 : sh0 12 = (0, 5) := rfl
theorem lq_12 : 12 < 107 := by decide
theorem sq_13 : sh0 13 = (0, 5) := rfl
theorem lq_13 : 13 < 107 := by decide
theorem sq_14 : sh0 14 = (10, 13) := rfl
theorem lq_14 : 14 < 107 := by decide
theorem vq_14_1 : vr0 14 1 = 15 + 1 := rfl
theorem vq_14_2 : vr0 14 2 = 16 + 1 := rfl
theorem vq_14_4 : vr0 14 4 = 17 + 1 := rfl
theorem vq_14_5 : vr0 14 5 = 18 + 1 := rfl
theorem vq_14_6 : vr0 14 6 = 19 + 1 := rfl
theorem vq_14_8 : vr0 14 8 = 20 + 1 := rfl
theorem vq_14_9 : vr0 14 9 = 21 + 1 := rfl
theorem vq_14_10 : vr0 14 10 = 22 + 1 := rfl
theorem vq_14_11 : vr0 14 11 = 23 + 1 := rfl
theorem vq_14_12 : vr0 14 12 = 24 + 1 := rfl
theorem sq_15 : sh0 15 = (0, 5) := rfl
theorem lq_15 : 15 < 107 := by decide
theorem sq_16 : sh0 16 = (0, 5) := rfl
theorem lq_16 : 16 < 107 := by decide
theorem sq_17 : sh0 17 = (0, 8) := rfl
theorem lq_17 : 17 < 107 := by decide
theorem sq_18 : sh0 18 = (0, 8) := rfl
theorem lq_18 : 18 < 107 := by decide
theorem sq_19 : sh0 19 = (0, 8) := rfl
theorem lq_19 : 19 < 107 := by decide
theorem sq_20 : sh0 20 = (0, 40) := rfl
theorem lq_20 : 20 < 107 := by decide
theorem sq_21 : sh0 21 = (0, 40) := rfl
theorem lq_21 : 21 < 107 := by decide
theorem sq_22 : sh0 22 = (0, 40) := rfl
theorem lq_22 : 22 < 107 := by decide
theorem sq_23 : sh0 23 = (0, 5) := rfl
theorem lq_23 : 23 < 107 := by decide
theorem sq_24 : sh0 24 = (0, 5) := rfl
theorem lq_24 : 24 < 107 := by decide
theorem sq_25 : sh0 25 = (2, 3) := rfl
theorem lq_25 : 25 < 107 := by decide
theorem sq_26 : sh0 26 = (11, 8) := rfl
theorem lq_26 : 26 < 107 := by decide
theorem vq_26_0 : vr0 26 0 = 27 + 1 := rfl
theorem vq_26_1 : vr0 26 1 = 38 + 1 := rfl
theorem vq_26_2 : vr0 26 2 = 39 + 1 := rfl
theorem vq_26_7 : vr0 26 7 = 40 + 1 := rfl
theorem sq_27 : sh0 27 = (10, 13) := rfl
theorem lq_27 : 27 < 107 := by decide
theorem vq_27_1 : vr0 27 1 = 28 + 1 := rfl
theorem vq_27_2 : vr0 27 2 = 29 + 1 := rfl
theorem vq_27_4 : vr0 27 4 = 30 + 1 := rfl
theorem vq_27_5 : vr0 27 5 = 31 + 1 := rfl
theorem vq_27_6 : vr0 27 6 = 32 + 1 := rfl
theorem vq_27_8 : vr0 27 8 = 33 + 1 := rfl
theorem vq_27_9 : vr0 27 9 = 34 + 1 := rfl
theorem vq_27_10 : vr0 27 10 = 35 + 1 := rfl
theorem vq_27_11 : vr0 27 11 = 36 + 1 := rfl
theorem vq_27_12 : vr0 27 12 = 37 + 1 := rfl
theorem sq_28 : sh0 28 = (0, 5) := rfl
theorem lq_28 : 28 < 107 := by decide
theorem sq_29 : sh0 29 = (0, 5) := rfl
theorem lq_29 : 29 < 107 := by decide
theorem sq_30 : sh0 30 = (0, 8) := rfl
theorem lq_30 : 30 < 107 := by decide
theorem sq_31 : sh0 31 = (0, 8) := rfl
theorem lq_31 : 31 < 107 := by decide
theorem sq_32 : sh0 32 = (0, 8) := rfl
theorem lq_32 : 32 < 107 := by decide
theorem sq_33 : sh0 33 = (0, 40) := rfl
theorem lq_33 : 33 < 107 := by decide
theorem sq_34 : sh0 34 = (0, 40) := rfl
theorem lq_34 : 34 < 107 := by decide
theorem sq_35 : sh0 35 = (0, 40) := rfl
theorem lq_35 : 35 < 107 := by decide
theorem sq_36 : sh0 36 = (0, 5) := rfl
theorem lq_36 : 36 < 107 := by decide
theorem sq_37 : sh0 37 = (0, 5) := rfl
theorem lq_37 : 37 < 107 := by decide
theorem sq_38 : sh0 38 = (0, 5) := rfl
theorem lq_38 : 38 < 107 := by decide
theorem sq_39 : sh0 39 = (0, 5) := rfl
theorem lq_39 : 39 < 107 := by decide
theorem sq_40 : sh0 40 = (0, 5) := rfl
theorem lq_40 : 40 < 107 := by decide
theorem sq_41 : sh0 41 = (0, 6) := rfl
theorem lq_41 : 41 < 107 := by decide
theorem sq_42 : sh0 42 = (12, 2) := rfl
theorem lq_42 : 42 < 107 := by decide
theorem vq_42_0 : vr0 42 0 = 43 + 1 := rfl
theorem sq_43 : sh0 43 = (0, 40) := rfl
theorem lq_43 : 43 < 107 := by decide
theorem sq_44 : sh0 44 = (12, 2) := rfl
theorem lq_44 : 44 < 107 := by decide
theorem vq_44_0 : vr0 44 0 = 45 + 1 := rfl
theorem sq_45 : sh0 45 = (0, 40) := rfl
theorem lq_45 : 45 < 107 := by decide
theorem sq_46 : sh0 46 = (12, 2) := rfl
theorem lq_46 : 46 < 107 := by decide
theorem vq_46_0 : vr0 46 0 = 47 + 1 := rfl
theorem sq_47 : sh0 47 = (0, 40) := rfl
theorem lq_47 : 47 < 107 := by decide
theorem sq_48 : sh0 48 = (12, 2) := rfl
theorem lq_48 : 48 < 107 := by decide
theorem vq_48_0 : vr0 48 0 = 49 + 1 := rfl
theorem sq_49 : sh0 49 = (0, 40) := rfl
theorem lq_49 : 49 < 107 := by decide
theorem sq_50 : sh0 50 = (12, 2) := rfl
theorem lq_50 : 50 < 107 := by decide
theorem vq_50_0 : vr0 50 0 = 51 + 1 := rfl
theorem sq_51 : sh0 51 = (0, 40) := rfl
theorem lq_51 : 51 < 107 := by decide
theorem sq_52 : sh0 52 = (12, 2) := rfl
theorem lq_52 : 52 < 107 := by decide
theorem vq_52_0 : vr0 52 0 = 53 + 1 := rfl
theorem sq_53 : sh0 53 = (0, 40) := rfl
theorem lq_53 : 53 < 107 := by decide
theorem sq_54 : sh0 54 = (12, 2) := rfl
theorem lq_54 : 54 < 107 := by decide
theorem vq_54_0 : vr0 54 0 = 55 + 1 := rfl
theorem sq_55 : sh0 55 = (0, 60) := rfl
theorem lq_55 : 55 < 107 := by decide
theorem sq_56 : sh0 56 = (12, 2) := rfl
theorem lq_56 : 56 < 107 := by decide
theorem vq_56_0 : vr0 56 0 = 57 + 1 := rfl
theorem sq_57 : sh0 57 = (0, 60) := rfl
theorem lq_57 : 57 < 107 := by decide
theorem sq_58 : sh0 58 = (12, 2) := rfl
theorem lq_58 : 58 < 107 := by decide
theorem vq_58_0 : vr0 58 0 = 59 + 1 := rfl
theorem sq_59 : sh0 59 = (0, 60) := rfl
theorem lq_59 : 59 < 107 := by decide
theorem sq_60 : sh0 60 = (12, 2) := rfl
theorem lq_60 : 60 < 107 := by decide
theorem vq_60_0 : vr0 60 0 = 61 + 1 := rfl
theorem sq_61 : sh0 61 = (0, 60) := rfl
theorem lq_61 : 61 < 107 := by decide
theorem sq_62 : sh0 62 = (10, 13) := rfl
theorem lq_62 : 62 < 107 := by decide
theorem vq_62_1 : vr0 62 1 = 63 + 1 := rfl
theorem vq_62_2 : vr0 62 2 = 64 + 1 := rfl
theorem vq_62_4 : vr0 62 4 = 65 + 1 := rfl
theorem vq_62_5 : vr0 62 5 = 66 + 1 := rfl
theorem vq_62_6 : vr0 62 6 = 67 + 1 := rfl
theorem vq_62_8 : vr0 62 8 = 68 + 1 := rfl
theorem vq_62_9 : vr0 62 9 = 69 + 1 := rfl
theorem vq_62_10 : vr0 62 10 = 70 + 1 := rfl
theorem vq_62_11 : vr0 62 11 = 71 + 1 := rfl
theorem vq_62_12 : vr0 62 12 = 72 + 1 := rfl
theorem sq_63 : sh0 63 = (0, 5) := rfl
theorem lq_63 : 63 < 107 := by decide
theorem sq_64 : sh0 64 = (0, 5) := rfl
theorem lq_64 : 64 < 107 := by decide
theorem sq_65 : sh0 65 = (0, 8) := rfl
theorem lq_65 : 65 < 107 := by decide
theorem sq_66 : sh0 66 = (0, 8) := rfl
theorem lq_66 : 66 < 107 := by decide
theorem sq_67 : sh0 67 = (0, 8) := rfl
theorem lq_67 : 67 < 107 := by decide
theorem sq_68 : sh0 68 = (0, 40) := rfl
theorem lq_68 : 68 < 107 := by decide
theorem sq_69 : sh0 69 = (0, 40) := rfl
theorem lq_69 : 69 < 107 := by decide
theorem sq_70 : sh0 70 = (0, 40) := rfl
theorem lq_70 : 70 < 107 := by decide
theorem sq_71 : sh0 71 = (0, 5) := rfl
theorem lq_71 : 71 < 107 := by decide
theorem sq_72 : sh0 72 = (0, 5) := rfl
theorem lq_72 : 72 < 107 := by decide
theorem sq_73 : sh0 73 = (10, 13) := rfl
theorem lq_73 : 73 < 107 := by decide
theorem vq_73_1 : vr0 73 1 = 74 + 1 := rfl
theorem vq_73_2 : vr0 73 2 = 75 + 1 := rfl
theorem vq_73_4 : vr0 73 4 = 76 + 1 := rfl
theorem vq_73_5 : vr0 73 5 = 77 + 1 := rfl
theorem vq_73_6 : vr0 73 6 = 78 + 1 := rfl
theorem vq_73_8 : vr0 73 8 = 79 + 1 := rfl
theorem vq_73_9 : vr0 73 9 = 80 + 1 := rfl
theorem vq_73_10 : vr0 73 10 = 81 + 1 := rfl
theorem vq_73_11 : vr0 73 11 = 82 + 1 := rfl
theorem vq_73_12 : vr0 73 12 = 83 + 1 := rfl
theorem sq_74 : sh0 74 = (0, 5) := rfl
theorem lq_74 : 74 < 107 := by decide
theorem sq_75 : sh0 75 = (0, 5) := rfl
theorem lq_75 : 75 < 107 := by decide
theorem sq_76 : sh0 76 = (0, 8) := rfl
theorem lq_76 : 76 < 107 := by decide
theorem sq_77 : sh0 77 = (0, 8) := rfl
theorem lq_77 : 77 < 107 := by decide
theorem sq_78 : sh0 78 = (0, 8) := rfl
theorem lq_78 : 78 < 107 := by decide
theorem sq_79 : sh0 79 = (0, 40) := rfl
theorem lq_79 : 79 < 107 := by decide
theorem sq_80 : sh0 80 = (0, 40) := rfl
theorem lq_80 : 80 < 107 := by decide
theorem sq_81 : sh0 81 = (0, 40) := rfl
theorem lq_81 : 81 < 107 := by decide
theorem sq_82 : sh0 82 = (0, 5) := rfl
theorem lq_82 : 82 < 107 := by decide
theorem sq_83 : sh0 83 = (0, 5) := rfl
theorem lq_83 : 83 < 107 := by decide
theorem sq_84 : sh0 84 = (10, 13) := rfl
theorem lq_84 : 84 < 107 := by decide
theorem vq_84_1 : vr0 84 1 = 85 + 1 := rfl
theorem vq_84_2 : vr0 84 2 = 86 + 1 := rfl
theorem vq_84_4 : vr0 84 4 = 87 + 1 := rfl
theorem vq_84_5 : vr0 84 5 = 88 + 1 := rfl
theorem vq_84_6 : vr0 84 6 = 89 + 1 := rfl
theorem vq_84_8 : vr0 84 8 = 90 + 1 := rfl
theorem vq_84_9 : vr0 84 9 = 91 + 1 := rfl
theorem vq_84_10 : vr0 84 10 = 92 + 1 := rfl
theorem vq_84_11 : vr0 84 11 = 93 + 1 := rfl
theorem vq_84_12 : vr0 84 12 = 94 + 1 := rfl
theorem sq_85 : sh0 85 = (0, 5) := rfl
theorem lq_85 : 85 < 107 := by decide
theorem sq_86 : sh0 86 = (0, 5) := rfl
theorem lq_86 : 86 < 107 := by decide
theorem sq_87 : sh0 87 = (0, 8) := rfl
theorem lq_87 : 87 < 107 := by decide
theorem sq_88 : sh0 88 = (0, 8) := rfl
theorem lq_88 : 88 < 107 := by decide
theorem sq_89 : sh0 89 = (0, 8) := rfl
theorem lq_89 : 89 < 107 := by decide
theorem sq_90 : sh0 90 = (0, 40) := rfl
theorem lq_90 : 90 < 107 := by decide
theorem sq_91 : sh0 91 = (0, 40) := rfl
theorem lq_91 : 91 < 107 := by decide
theorem sq_92 : sh0 92 = (0, 40) := rfl
theorem lq_92 : 92 < 107 := by decide
theorem sq_93 : sh0 93 = (0, 5) := rfl
theorem lq_93 : 93 < 107 := by decide
theorem sq_94 : sh0 94 = (0, 5) := rfl
theorem lq_94 : 94 < 107 := by decide
theorem sq_95 : sh0 95 = (14, 20) := rfl
theorem lq_95 : 95 < 107 := by decide
theorem vq_95_0 : vr0 95 0 = 96 + 1 := rfl
theorem vq_95_2 : vr0 95 2 = 97 + 1 := rfl
theorem vq_95_3 : vr0 95 3 = 98 + 1 := rfl
theorem vq_95_4 : vr0 95 4 = 99 + 1 := rfl
theorem vq_95_5 : vr0 95 5 = 100 + 1 := rfl
theorem vq_95_6 : vr0 95 6 = 101 + 1 := rfl
theorem vq_95_7 : vr0 95 7 = 102 + 1 := rfl
theorem vq_95_9 : vr0 95 9 = 103 + 1 := rfl
theorem vq_95_14 : vr0 95 14 = 104 + 1 := rfl
theorem vq_95_15 : vr0 95 15 = 105 + 1 := rfl
theorem vq_95_17 : vr0 95 17 = 106 + 1 := rfl
theorem sq_96 : sh0 96 = (0, 5976) := rfl
theorem lq_96 : 96 < 107 := by decide
theorem sq_97 : sh0 97 = (0, 3) := rfl
theorem lq_97 : 97 < 107 := by decide
theorem sq_98 : sh0 98 = (0, 240) := rfl
theorem lq_98 : 98 < 107 := by decide
theorem sq_99 : sh0 99 = (0, 6) := rfl
theorem lq_99 : 99 < 107 := by decide
theorem sq_100 : sh0 100 = (0, 240) := rfl
theorem lq_100 : 100 < 107 := by decide
theorem sq_101 : sh0 101 = (0, 4) := rfl
theorem lq_101 : 101 < 107 := by decide
theorem sq_102 : sh0 102 = (0, 40) := rfl
theorem lq_102 : 102 < 107 := by decide
theorem sq_103 : sh0 103 = (0, 6) := rfl
theorem lq_103 : 103 < 107 := by decide
theorem sq_104 : sh0 104 = (0, 5) := rfl
theorem lq_104 : 104 < 107 := by decide
theorem sq_105 : sh0 105 = (0, 5) := rfl
theorem lq_105 : 105 < 107 := by decide
theorem sq_106 : sh0 106 = (0, 5) := rfl
theorem lq_106 : 106 < 107 := by decide
def isCl (b : Nat) : Prop := b = 3 ∨ b = 14 ∨ b = 27 ∨ b = 62 ∨ b = 73 ∨ b = 84
def isRw (b : Nat) : Prop := b = 42 ∨ b = 44 ∨ b = 46 ∨ b = 48 ∨ b = 50 ∨ b = 52 ∨ b = 54 ∨ b = 56 ∨ b = 58 ∨ b = 60
theorem isCl_3 : isCl 3 := by simp [isCl]
theorem isCl_14 : isCl 14 := by simp [isCl]
theorem isCl_27 : isCl 27 := by simp [isCl]
theorem isCl_62 : isCl 62 := by simp [isCl]
theorem isCl_73 : isCl 73 := by simp [isCl]
theorem isCl_84 : isCl 84 := by simp [isCl]
theorem isRw_42 : isRw 42 := by simp [isRw]
theorem isRw_44 : isRw 44 := by simp [isRw]
theorem isRw_46 : isRw 46 := by simp [isRw]
theorem isRw_48 : isRw 48 := by simp [isRw]
theorem isRw_50 : isRw 50 := by simp [isRw]
theorem isRw_52 : isRw 52 := by simp [isRw]
theorem isRw_54 : isRw 54 := by simp [isRw]
theorem isRw_56 : isRw 56 := by simp [isRw]
theorem isRw_58 : isRw 58 := by simp [isRw]
theorem isRw_60 : isRw 60 := by simp [isRw]
theorem cl_lt {b : Nat} (h : isCl b) (j : Nat) (hj : j ≤ 10) : b + j < 107 := by unfold isCl at h; omega
theorem cl_lt0 {b : Nat} (h : isCl b) : b < 107 := by unfold isCl at h; omega
theorem cl_s0 {b : Nat} (h : isCl b) : sh0 b = (10 + 0, qM 0) := by rcases h with rfl | rfl | rfl | rfl | rfl | rfl <;> rfl
theorem cl_s1 {b : Nat} (h : isCl b) : sh0 (b + 1) = (0, 5) := by rcases h with rfl | rfl | rfl | rfl | rfl | rfl <;> rfl
theorem cl_v1 {b : Nat} (h : isCl b) : vr0 b 1 = b + 1 + 1 := by rcases h with rfl | rfl | rfl | rfl | rfl | rfl <;> rfl
theorem cl_s2 {b : Nat} (h : isCl b) : sh0 (b + 2) = (0, 5) := by rcases h with rfl | rfl | rfl | rfl | rfl | rfl <;> rfl
theorem cl_v2 {b : Nat} (h : isCl b) : vr0 b 2 = b + 2 + 1 := by rcases h with rfl | rfl | rfl | rfl | rfl | rfl <;> rfl
theorem cl_s3 {b : Nat} (h : isCl b) : sh0 (b + 3) = (0, 8) := by rcases h with rfl | rfl | rfl | rfl | rfl | rfl <;> rfl
theorem cl_v4 {b : Nat} (h : isCl b) : vr0 b 4 = b + 3 + 1 := by rcases h with rfl | rfl | rfl | rfl | rfl | rfl <;> rfl
theorem cl_s4 {b : Nat} (h : isCl b) : sh0 (b + 4) = (0, 8) := by rcases h with rfl | rfl | rfl | rfl | rfl | rfl <;> rfl
theorem cl_v5 {b : Nat} (h : isCl b) : vr0 b 5 = b + 4 + 1 := by rcases h with rfl | rfl | rfl | rfl | rfl | rfl <;> rfl
theorem cl_s5 {b : Nat} (h : isCl b) : sh0 (b + 5) = (0, 8) := by rcases h with rfl | rfl | rfl | rfl | rfl | rfl <;> rfl
theorem cl_v6 {b : Nat} (h : isCl b) : vr0 b 6 = b + 5 + 1 := by rcases h with rfl | rfl | rfl | rfl | rfl | rfl <;> rfl
theorem cl_s6 {b : Nat} (h : isCl b) : sh0 (b + 6) = (0, 40) := by rcases h with rfl | rfl | rfl | rfl | rfl | rfl <;> rfl
theorem cl_v8 {b : Nat} (h : isCl b) : vr0 b 8 = b + 6 + 1 := by rcases h with rfl | rfl | rfl | rfl | rfl | rfl <;> rfl
theorem cl_s7 {b : Nat} (h : isCl b) : sh0 (b + 7) = (0, 40) := by rcases h with rfl | rfl | rfl | rfl | rfl | rfl <;> rfl
theorem cl_v9 {b : Nat} (h : isCl b) : vr0 b 9 = b + 7 + 1 := by rcases h with rfl | rfl | rfl | rfl | rfl | rfl <;> rfl
theorem cl_s8 {b : Nat} (h : isCl b) : sh0 (b + 8) = (0, 40) := by rcases h with rfl | rfl | rfl | rfl | rfl | rfl <;> rfl
theorem cl_v10 {b : Nat} (h : isCl b) : vr0 b 10 = b + 8 + 1 := by rcases h with rfl | rfl | rfl | rfl | rfl | rfl <;> rfl
theorem cl_s9 {b : Nat} (h : isCl b) : sh0 (b + 9) = (0, 5) := by rcases h with rfl | rfl | rfl | rfl | rfl | rfl <;> rfl
theorem cl_v11 {b : Nat} (h : isCl b) : vr0 b 11 = b + 9 + 1 := by rcases h with rfl | rfl | rfl | rfl | rfl | rfl <;> rfl
theorem cl_s10 {b : Nat} (h : isCl b) : sh0 (b + 10) = (0, 5) := by rcases h with rfl | rfl | rfl | rfl | rfl | rfl <;> rfl
theorem cl_v12 {b : Nat} (h : isCl b) : vr0 b 12 = b + 10 + 1 := by rcases h with rfl | rfl | rfl | rfl | rfl | rfl <;> rfl
def rl (r : Nat) : Nat := if r < 54 then 40 else 60
theorem rw_lt0 {b : Nat} (h : isRw b) : b < 107 := by unfold isRw at h; omega
theorem rw_lt1 {b : Nat} (h : isRw b) : b + 1 < 107 := by unfold isRw at h; omega
theorem rw_s0 {b : Nat} (h : isRw b) : sh0 b = (10 + 2, qM 2) := by rcases h with rfl | rfl | rfl | rfl | rfl | rfl | rfl | rfl | rfl | rfl <;> rfl
theorem rw_s1 {b : Nat} (h : isRw b) : sh0 (b + 1) = (0, rl b) := by rcases h with rfl | rfl | rfl | rfl | rfl | rfl | rfl | rfl | rfl | rfl <;> rfl
theorem rw_v0 {b : Nat} (h : isRw b) : vr0 b 0 = b + 1 + 1 := by rcases h with rfl | rfl | rfl | rfl | rfl | rfl | rfl | rfl | rfl | rfl <;> rfl
theorem vin_lt {i : Int32} {n : Nat} (h : vp_in i n) : i.toNatClampNeg < n := Nat.not_le.mp fun q => h (Or.inr q)
theorem rows_v {j : Nat} (h : j < 6) : vr0 1 j = 42 + 2 * j + 1 := by
  rcases (show j = 0 ∨ j = 1 ∨ j = 2 ∨ j = 3 ∨ j = 4 ∨ j = 5 by omega) with rfl | rfl | rfl | rfl | rfl | rfl <;> rfl
theorem texts_v {j : Nat} (h : j < 4) : vr0 2 j = 54 + 2 * j + 1 := by
  rcases (show j = 0 ∨ j = 1 ∨ j = 2 ∨ j = 3 by omega) with rfl | rfl | rfl | rfl <;> rfl
theorem kept_v {j : Nat} (h : j < 3) : vr0 25 j = 62 + 11 * j + 1 := by
  rcases (show j = 0 ∨ j = 1 ∨ j = 2 by omega) with rfl | rfl | rfl <;> rfl
theorem rows_i {j : Nat} (h : j < 6) : isRw (42 + 2 * j) := by unfold isRw; omega
theorem texts_i {j : Nat} (h : j < 4) : isRw (54 + 2 * j) := by unfold isRw; omega
theorem kept_i {j : Nat} (h : j < 3) : isCl (62 + 11 * j) := by unfold isCl; omega
/-- rows or texts -/
def isRA (t : Nat) : Prop := t = 1 ∨ t = 2
def rn (t : Nat) : Nat := if t = 1 then 6 else 4
def re (t j : Nat) : Nat := 30 + 12 * t + 2 * j
theorem ra_lt {t : Nat} (h : isRA t) : t < 107 := by unfold isRA at h; omega
theorem ra_s {t : Nat} (h : isRA t) : sh0 t = (1, rn t) := by rcases h with rfl | rfl <;> rfl
theorem ra_v {t j : Nat} (h : isRA t) (hj : j < rn t) : vr0 t j = re t j + 1 := by
  rcases h with rfl | rfl
  · exact rows_v hj
  · exact texts_v hj
theorem ra_i {t j : Nat} (h : isRA t) (hj : j < rn t) : isRw (re t j) := by
  rcases h with rfl | rfl
  · exact rows_i hj
  · exact texts_i hj
section R5
variable {X : aX} {d mid bc bs pc : Nat} {ls : aL} {st : List Value} {N : aN} {post : aO}
theorem wr_getR2 {ci k0 idx a b : Nat} (ha : a < nC N) (hsh : sH N a = (10 + ci, qM ci)) (hci : ci < 5) (hk : k0 < qM ci) (hln : Cond.fieldLink (am_y mid).cls idx (qR ci) (qT ci k0).2.1 (qT ci k0).2.2.1 ∈ am_big) (hft : am_ft ci k0 = 2) (hv : vR N a k0 = b + 1) (hb : b < nC N) (hd : decode (am_c mid) pc = .ok (.getfield idx, 3)) (k : wp X d mid bc bs (pc + 3) ls (.ref b :: st) N post) : wp X d mid bc bs pc ls (.ref a :: st) N post :=
  wr_getR ha hsh hci hk hln hft (by rw [hv]; omega) (by rw [hv]; omega) hd (by rw [hv]; exact k)
theorem wr_aald2 {a n kd b : Nat} {i : Int32} (ha : a < nC N) (hsh : sH N a = (kd, n)) (hkd : kd = 1 ∨ kd = 2) (hi : vp_in i n) (hv : vR N a i.toNatClampNeg = b + 1) (hb : b < nC N) (hd : decode (am_c mid) pc = .ok (.aaload, 1)) (k : wp X d mid bc bs (pc + 1) ls (.ref b :: st) N post) : wp X d mid bc bs pc ls (.int i :: .ref a :: st) N post :=
  wr_aald ha hsh hkd hi (by rw [hv]; omega) (by rw [hv]; omega) hd (by rw [hv]; exact k)
end R5
theorem am_at {w : Cond} (p : Nat) (h : tables_1[p]? = some w) (hg : goodWord w = true) : w ∈ am_big := List.mem_filter.mpr ⟨List.mem_append_right _ (List.mem_of_getElem? h), hg⟩
theorem am_as {w : Cond} (p : Nat) (h : (k2_sels lw_privs)[p]? = some w) (hg : goodWord w = true) : w ∈ am_big := List.mem_filter.mpr ⟨List.mem_append_left _ (List.mem_of_getElem? h), hg⟩
theorem lf_C_9 : Cond.fieldLink "SewnAhead$Cloth" 9 (qR 0) (qT 0 0).2.1 (qT 0 0).2.2.1 ∈ am_big := am_at 27 (by decide +kernel) rfl
theorem lf_D_31 : Cond.fieldLink "SewnAhead$Reader" 31 (qR 0) (qT 0 0).2.1 (qT 0 0).2.2.1 ∈ am_big := am_at 28 (by decide +kernel) rfl
theorem lf_P_56 : Cond.fieldLink "SewnAhead$Plans" 56 (qR 0) (qT 0 0).2.1 (qT 0 0).2.2.1 ∈ am_big := am_at 29 (by decide +kernel) rfl
theorem lf_S_118 : Cond.fieldLink "SewnAhead" 118 (qR 0) (qT 0 0).2.1 (qT 0 0).2.2.1 ∈ am_big := am_at 30 (by decide +kernel) rfl
theorem lf_C_15 : Cond.fieldLink "SewnAhead$Cloth" 15 (qR 0) (qT 0 1).2.1 (qT 0 1).2.2.1 ∈ am_big := am_at 31 (by decide +kernel) rfl
theorem lf_P_62 : Cond.fieldLink "SewnAhead$Plans" 62 (qR 0) (qT 0 1).2.1 (qT 0 1).2.2.1 ∈ am_big := am_at 32 (by decide +kernel) rfl
theorem lf_S_179 : Cond.fieldLink "SewnAhead" 179 (qR 0) (qT 0 1).2.1 (qT 0 1).2.2.1 ∈ am_big := am_at 33 (by decide +kernel) rfl
theorem lf_C_19 : Cond.fieldLink "SewnAhead$Cloth" 19 (qR 0) (qT 0 2).2.1 (qT 0 2).2.2.1 ∈ am_big := am_at 34 (by decide +kernel) rfl
theorem lf_P_65 : Cond.fieldLink "SewnAhead$Plans" 65 (qR 0) (qT 0 2).2.1 (qT 0 2).2.2.1 ∈ am_big := am_at 35 (by decide +kernel) rfl
theorem lf_S_278 : Cond.fieldLink "SewnAhead" 278 (qR 0) (qT 0 2).2.1 (qT 0 2).2.2.1 ∈ am_big := am_at 36 (by decide +kernel) rfl
theorem lf_C_22 : Cond.fieldLink "SewnAhead$Cloth" 22 (qR 0) (qT 0 3).2.1 (qT 0 3).2.2.1 ∈ am_big := am_at 37 (by decide +kernel) rfl
theorem lf_S_225 : Cond.fieldLink "SewnAhead" 225 (qR 0) (qT 0 3).2.1 (qT 0 3).2.2.1 ∈ am_big := am_at 38 (by decide +kernel) rfl
theorem lf_C_25 : Cond.fieldLink "SewnAhead$Cloth" 25 (qR 0) (qT 0 4).2.1 (qT 0 4).2.2.1 ∈ am_big := am_at 39 (by decide +kernel) rfl
theorem lf_S_222 : Cond.fieldLink "SewnAhead" 222 (qR 0) (qT 0 4).2.1 (qT 0 4).2.2.1 ∈ am_big := am_at 40 (by decide +kernel) rfl
theorem lf_C_28 : Cond.fieldLink "SewnAhead$Cloth" 28 (qR 0) (qT 0 5).2.1 (qT 0 5).2.2.1 ∈ am_big := am_at 41 (by decide +kernel) rfl
theorem lf_S_137 : Cond.fieldLink "SewnAhead" 137 (qR 0) (qT 0 5).2.1 (qT 0 5).2.2.1 ∈ am_big := am_at 42 (by decide +kernel) rfl
theorem lf_C_31 : Cond.fieldLink "SewnAhead$Cloth" 31 (qR 0) (qT 0 6).2.1 (qT 0 6).2.2.1 ∈ am_big := am_at 43 (by decide +kernel) rfl
theorem lf_S_143 : Cond.fieldLink "SewnAhead" 143 (qR 0) (qT 0 6).2.1 (qT 0 6).2.2.1 ∈ am_big := am_at 44 (by decide +kernel) rfl
theorem lf_C_34 : Cond.fieldLink "SewnAhead$Cloth" 34 (qR 0) (qT 0 7).2.1 (qT 0 7).2.2.1 ∈ am_big := am_at 45 (by decide +kernel) rfl
theorem lf_S_157 : Cond.fieldLink "SewnAhead" 157 (qR 0) (qT 0 7).2.1 (qT 0 7).2.2.1 ∈ am_big := am_at 46 (by decide +kernel) rfl
theorem lf_C_37 : Cond.fieldLink "SewnAhead$Cloth" 37 (qR 0) (qT 0 8).2.1 (qT 0 8).2.2.1 ∈ am_big := am_at 47 (by decide +kernel) rfl
theorem lf_C_40 : Cond.fieldLink "SewnAhead$Cloth" 40 (qR 0) (qT 0 9).2.1 (qT 0 9).2.2.1 ∈ am_big := am_at 48 (by decide +kernel) rfl
theorem lf_C_43 : Cond.fieldLink "SewnAhead$Cloth" 43 (qR 0) (qT 0 10).2.1 (qT 0 10).2.2.1 ∈ am_big := am_at 49 (by decide +kernel) rfl
theorem lf_C_46 : Cond.fieldLink "SewnAhead$Cloth" 46 (qR 0) (qT 0 11).2.1 (qT 0 11).2.2.1 ∈ am_big := am_at 50 (by decide +kernel) rfl
theorem lf_P_90 : Cond.fieldLink "SewnAhead$Plans" 90 (qR 0) (qT 0 11).2.1 (qT 0 11).2.2.1 ∈ am_big := am_at 51 (by decide +kernel) rfl
theorem lf_S_228 : Cond.fieldLink "SewnAhead" 228 (qR 0) (qT 0 11).2.1 (qT 0 11).2.2.1 ∈ am_big := am_at 52 (by decide +kernel) rfl
theorem lf_C_49 : Cond.fieldLink "SewnAhead$Cloth" 49 (qR 0) (qT 0 12).2.1 (qT 0 12).2.2.1 ∈ am_big := am_at 53 (by decide +kernel) rfl
theorem lf_S_169 : Cond.fieldLink "SewnAhead" 169 (qR 0) (qT 0 12).2.1 (qT 0 12).2.2.1 ∈ am_big := am_at 54 (by decide +kernel) rfl
theorem lf_P_12 : Cond.fieldLink "SewnAhead$Plans" 12 (qR 1) (qT 1 0).2.1 (qT 1 0).2.2.1 ∈ am_big := am_at 92 (by decide +kernel) rfl
theorem lf_P_18 : Cond.fieldLink "SewnAhead$Plans" 18 (qR 1) (qT 1 1).2.1 (qT 1 1).2.2.1 ∈ am_big := am_at 93 (by decide +kernel) rfl
theorem lf_P_22 : Cond.fieldLink "SewnAhead$Plans" 22 (qR 1) (qT 1 2).2.1 (qT 1 2).2.2.1 ∈ am_big := am_at 94 (by decide +kernel) rfl
theorem lf_P_25 : Cond.fieldLink "SewnAhead$Plans" 25 (qR 1) (qT 1 3).2.1 (qT 1 3).2.2.1 ∈ am_big := am_at 95 (by decide +kernel) rfl
theorem lf_P_29 : Cond.fieldLink "SewnAhead$Plans" 29 (qR 1) (qT 1 4).2.1 (qT 1 4).2.2.1 ∈ am_big := am_at 96 (by decide +kernel) rfl
theorem lf_P_33 : Cond.fieldLink "SewnAhead$Plans" 33 (qR 1) (qT 1 5).2.1 (qT 1 5).2.2.1 ∈ am_big := am_at 97 (by decide +kernel) rfl
theorem lf_P_36 : Cond.fieldLink "SewnAhead$Plans" 36 (qR 1) (qT 1 6).2.1 (qT 1 6).2.2.1 ∈ am_big := am_at 98 (by decide +kernel) rfl
theorem lf_P_39 : Cond.fieldLink "SewnAhead$Plans" 39 (qR 1) (qT 1 7).2.1 (qT 1 7).2.2.1 ∈ am_big := am_at 99 (by decide +kernel) rfl
theorem lf_S_234 : Cond.fieldLink "SewnAhead" 234 (qR 1) (qT 1 7).2.1 (qT 1 7).2.2.1 ∈ am_big := am_at 100 (by decide +kernel) rfl
theorem lf_R_19 : Cond.fieldLink "SewnAhead$Row" 19 (qR 2) (qT 2 0).2.1 (qT 2 0).2.2.1 ∈ am_big := am_at 126 (by decide +kernel) rfl
theorem lf_S_76 : Cond.fieldLink "SewnAhead" 76 (qR 2) (qT 2 0).2.1 (qT 2 0).2.2.1 ∈ am_big := am_at 127 (by decide +kernel) rfl
theorem lf_D_58 : Cond.fieldLink "SewnAhead$Reader" 58 (qR 2) (qT 2 0).2.1 (qT 2 0).2.2.1 ∈ am_big := am_at 128 (by decide +kernel) rfl
theorem lf_R_9 : Cond.fieldLink "SewnAhead$Row" 9 (qR 2) (qT 2 1).2.1 (qT 2 1).2.2.1 ∈ am_big := am_at 129 (by decide +kernel) rfl
theorem lf_D_39 : Cond.fieldLink "SewnAhead$Reader" 39 (qR 2) (qT 2 1).2.1 (qT 2 1).2.2.1 ∈ am_big := am_at 130 (by decide +kernel) rfl
theorem lf_S_96 : Cond.fieldLink "SewnAhead" 96 (qR 2) (qT 2 1).2.1 (qT 2 1).2.2.1 ∈ am_big := am_at 131 (by decide +kernel) rfl
theorem lf_S_11 : Cond.fieldLink "SewnAhead" 11 (qR 3) (qT 3 0).2.1 (qT 3 0).2.2.1 ∈ am_big := am_at 137 (by decide +kernel) rfl
theorem lf_S_15 : Cond.fieldLink "SewnAhead" 15 (qR 3) (qT 3 1).2.1 (qT 3 1).2.2.1 ∈ am_big := am_at 138 (by decide +kernel) rfl
theorem lf_S_21 : Cond.fieldLink "SewnAhead" 21 (qR 3) (qT 3 2).2.1 (qT 3 2).2.2.1 ∈ am_big := am_at 139 (by decide +kernel) rfl
theorem lf_S_25 : Cond.fieldLink "SewnAhead" 25 (qR 3) (qT 3 3).2.1 (qT 3 3).2.2.1 ∈ am_big := am_at 140 (by decide +kernel) rfl
theorem lf_S_28 : Cond.fieldLink "SewnAhead" 28 (qR 3) (qT 3 4).2.1 (qT 3 4).2.2.1 ∈ am_big := am_at 141 (by decide +kernel) rfl
theorem lf_S_35 : Cond.fieldLink "SewnAhead" 35 (qR 3) (qT 3 5).2.1 (qT 3 5).2.2.1 ∈ am_big := am_at 142 (by decide +kernel) rfl
theorem lf_S_39 : Cond.fieldLink "SewnAhead" 39 (qR 3) (qT 3 6).2.1 (qT 3 6).2.2.1 ∈ am_big := am_at 143 (by decide +kernel) rfl
theorem lf_S_43 : Cond.fieldLink "SewnAhead" 43 (qR 3) (qT 3 7).2.1 (qT 3 7).2.2.1 ∈ am_big := am_at 144 (by decide +kernel) rfl
theorem lf_S_47 : Cond.fieldLink "SewnAhead" 47 (qR 3) (qT 3 8).2.1 (qT 3 8).2.2.1 ∈ am_big := am_at 145 (by decide +kernel) rfl
theorem lf_S_50 : Cond.fieldLink "SewnAhead" 50 (qR 3) (qT 3 9).2.1 (qT 3 9).2.2.1 ∈ am_big := am_at 146 (by decide +kernel) rfl
theorem lf_S_54 : Cond.fieldLink "SewnAhead" 54 (qR 3) (qT 3 10).2.1 (qT 3 10).2.2.1 ∈ am_big := am_at 147 (by decide +kernel) rfl
theorem lf_M_7 : Cond.fieldLink "SewnAheadModel" 7 (qR 4) (qT 4 0).2.1 (qT 4 0).2.2.1 ∈ am_big := am_at 634 (by decide +kernel) rfl
theorem lf_M_127 : Cond.fieldLink "SewnAheadModel" 127 (qR 4) (qT 4 1).2.1 (qT 4 1).2.2.1 ∈ am_big := am_at 635 (by decide +kernel) rfl
theorem lf_M_13 : Cond.fieldLink "SewnAheadModel" 13 (qR 4) (qT 4 2).2.1 (qT 4 2).2.2.1 ∈ am_big := am_at 636 (by decide +kernel) rfl
theorem lf_M_16 : Cond.fieldLink "SewnAheadModel" 16 (qR 4) (qT 4 3).2.1 (qT 4 3).2.2.1 ∈ am_big := am_at 637 (by decide +kernel) rfl
theorem lf_M_19 : Cond.fieldLink "SewnAheadModel" 19 (qR 4) (qT 4 4).2.1 (qT 4 4).2.2.1 ∈ am_big := am_at 638 (by decide +kernel) rfl
theorem lf_M_22 : Cond.fieldLink "SewnAheadModel" 22 (qR 4) (qT 4 5).2.1 (qT 4 5).2.2.1 ∈ am_big := am_at 639 (by decide +kernel) rfl
theorem lf_M_25 : Cond.fieldLink "SewnAheadModel" 25 (qR 4) (qT 4 6).2.1 (qT 4 6).2.2.1 ∈ am_big := am_at 640 (by decide +kernel) rfl
theorem lf_M_28 : Cond.fieldLink "SewnAheadModel" 28 (qR 4) (qT 4 7).2.1 (qT 4 7).2.2.1 ∈ am_big := am_at 641 (by decide +kernel) rfl
theorem lf_M_51 : Cond.fieldLink "SewnAheadModel" 51 (qR 4) (qT 4 8).2.1 (qT 4 8).2.2.1 ∈ am_big := am_at 642 (by decide +kernel) rfl
theorem lf_M_31 : Cond.fieldLink "SewnAheadModel" 31 (qR 4) (qT 4 9).2.1 (qT 4 9).2.2.1 ∈ am_big := am_at 643 (by decide +kernel) rfl
theorem lf_M_54 : Cond.fieldLink "SewnAheadModel" 54 (qR 4) (qT 4 10).2.1 (qT 4 10).2.2.1 ∈ am_big := am_at 644 (by decide +kernel) rfl
theorem lf_M_209 : Cond.fieldLink "SewnAheadModel" 209 (qR 4) (qT 4 11).2.1 (qT 4 11).2.2.1 ∈ am_big := am_at 645 (by decide +kernel) rfl
theorem lf_M_34 : Cond.fieldLink "SewnAheadModel" 34 (qR 4) (qT 4 12).2.1 (qT 4 12).2.2.1 ∈ am_big := am_at 646 (by decide +kernel) rfl
theorem lf_M_91 : Cond.fieldLink "SewnAheadModel" 91 (qR 4) (qT 4 13).2.1 (qT 4 13).2.2.1 ∈ am_big := am_at 647 (by decide +kernel) rfl
theorem lf_M_38 : Cond.fieldLink "SewnAheadModel" 38 (qR 4) (qT 4 14).2.1 (qT 4 14).2.2.1 ∈ am_big := am_at 648 (by decide +kernel) rfl
theorem lf_M_41 : Cond.fieldLink "SewnAheadModel" 41 (qR 4) (qT 4 15).2.1 (qT 4 15).2.2.1 ∈ am_big := am_at 649 (by decide +kernel) rfl
theorem lf_M_44 : Cond.fieldLink "SewnAheadModel" 44 (qR 4) (qT 4 16).2.1 (qT 4 16).2.2.1 ∈ am_big := am_at 650 (by decide +kernel) rfl
theorem lf_M_48 : Cond.fieldLink "SewnAheadModel" 48 (qR 4) (qT 4 17).2.1 (qT 4 17).2.2.1 ∈ am_big := am_at 651 (by decide +kernel) rfl
theorem lf_M_200 : Cond.fieldLink "SewnAheadModel" 200 (qR 4) (qT 4 18).2.1 (qT 4 18).2.2.1 ∈ am_big := am_at 652 (by decide +kernel) rfl
theorem lf_M_245 : Cond.fieldLink "SewnAheadModel" 245 (qR 4) (qT 4 19).2.1 (qT 4 19).2.2.1 ∈ am_big := am_at 653 (by decide +kernel) rfl
theorem lm_L_9 : Cond.methodLink "SewnAheadLaw" 9 (am_y 0) ∈ am_big := am_at 13 (by decide +kernel) rfl
theorem lm_S_3 : Cond.methodLink "SewnAhead" 3 (am_y 1) ∈ am_big := am_at 16 (by decide +kernel) rfl
theorem lm_C_3 : Cond.methodLink "SewnAhead$Cloth" 3 (am_y 1) ∈ am_big := am_at 26 (by decide +kernel) rfl
theorem lm_P_3 : Cond.methodLink "SewnAhead$Plans" 3 (am_y 1) ∈ am_big := am_at 89 (by decide +kernel) rfl
theorem lm_S_57 : Cond.methodLink "SewnAhead" 57 (am_y 4) ∈ am_big := am_at 119 (by decide +kernel) rfl
theorem lm_R_1 : Cond.methodLink "SewnAhead$Row" 1 (am_y 1) ∈ am_big := am_at 122 (by decide +kernel) rfl
theorem lm_R_13 : Cond.methodLink "SewnAhead$Row" 13 (am_y 5) ∈ am_big := am_at 123 (by decide +kernel) rfl
theorem lm_L_13 : Cond.methodLink "SewnAheadLaw" 13 (am_y 6) ∈ am_big := am_at 171 (by decide +kernel) rfl
theorem lm_S_60 : Cond.methodLink "SewnAhead" 60 (am_y 7) ∈ am_big := am_at 175 (by decide +kernel) rfl
theorem lm_S_64 : Cond.methodLink "SewnAhead" 64 (am_y 8) ∈ am_big := am_at 178 (by decide +kernel) rfl
theorem lm_S_68 : Cond.methodLink "SewnAhead" 68 (am_y 9) ∈ am_big := am_at 182 (by decide +kernel) rfl
theorem lm_R_23 : Cond.methodLink "SewnAhead$Row" 23 (am_y 10) ∈ am_big := am_at 186 (by decide +kernel) rfl
theorem lm_R_26 : Cond.methodLink "SewnAhead$Row" 26 (am_y 11) ∈ am_big := am_at 189 (by decide +kernel) rfl
theorem lm_L_18 : Cond.methodLink "SewnAheadLaw" 18 (am_y 12) ∈ am_big := am_at 192 (by decide +kernel) rfl
theorem lm_S_72 : Cond.methodLink "SewnAhead" 72 (am_y 13) ∈ am_big := am_at 196 (by decide +kernel) rfl
theorem lm_S_79 : Cond.methodLink "SewnAhead" 79 (am_y 14) ∈ am_big := am_at 200 (by decide +kernel) rfl
theorem lm_S_275 : Cond.methodLink "SewnAhead" 275 (am_y 15) ∈ am_big := am_at 204 (by decide +kernel) rfl
theorem lm_L_23 : Cond.methodLink "SewnAheadLaw" 23 (am_y 16) ∈ am_big := am_at 208 (by decide +kernel) rfl
theorem lm_L_27 : Cond.methodLink "SewnAheadLaw" 27 (am_y 17) ∈ am_big := am_at 212 (by decide +kernel) rfl
theorem lm_S_83 : Cond.methodLink "SewnAhead" 83 (am_y 18) ∈ am_big := am_at 216 (by decide +kernel) rfl
theorem lm_L_32 : Cond.methodLink "SewnAheadLaw" 32 (am_y 19) ∈ am_big := am_at 220 (by decide +kernel) rfl
theorem lm_S_86 : Cond.methodLink "SewnAhead" 86 (am_y 20) ∈ am_big := am_at 224 (by decide +kernel) rfl
theorem lm_L_37 : Cond.methodLink "SewnAheadLaw" 37 (am_y 21) ∈ am_big := am_at 231 (by decide +kernel) rfl
theorem lm_L_41 : Cond.methodLink "SewnAheadLaw" 41 (am_y 22) ∈ am_big := am_at 235 (by decide +kernel) rfl
theorem lm_S_99 : Cond.methodLink "SewnAhead" 99 (am_y 23) ∈ am_big := am_at 239 (by decide +kernel) rfl
theorem lm_L_45 : Cond.methodLink "SewnAheadLaw" 45 (am_y 24) ∈ am_big := am_at 242 (by decide +kernel) rfl
theorem lm_L_49 : Cond.methodLink "SewnAheadLaw" 49 (am_y 25) ∈ am_big := am_at 246 (by decide +kernel) rfl
theorem lm_S_102 : Cond.methodLink "SewnAhead" 102 (am_y 26) ∈ am_big := am_at 250 (by decide +kernel) rfl
theorem lm_D_9 : Cond.methodLink "SewnAhead$Reader" 9 (am_y 27) ∈ am_big := am_at 253 (by decide +kernel) rfl
theorem lm_D_14 : Cond.methodLink "SewnAhead$Reader" 14 (am_y 28) ∈ am_big := am_at 257 (by decide +kernel) rfl
theorem lm_D_20 : Cond.methodLink "SewnAhead$Reader" 20 (am_y 29) ∈ am_big := am_at 260 (by decide +kernel) rfl
theorem lm_D_55 : Cond.methodLink "SewnAhead$Reader" 55 (am_y 15) ∈ am_big := am_at 263 (by decide +kernel) rfl
theorem lm_D_23 : Cond.methodLink "SewnAhead$Reader" 23 (am_y 30) ∈ am_big := am_at 264 (by decide +kernel) rfl
theorem lm_D_27 : Cond.methodLink "SewnAhead$Reader" 27 (am_y 32) ∈ am_big := am_at 270 (by decide +kernel) rfl
theorem lm_C_58 : Cond.methodLink "SewnAhead$Cloth" 58 (am_y 33) ∈ am_big := am_at 274 (by decide +kernel) rfl
theorem lm_D_35 : Cond.methodLink "SewnAhead$Reader" 35 (am_y 34) ∈ am_big := am_at 278 (by decide +kernel) rfl
theorem lm_D_44 : Cond.methodLink "SewnAhead$Reader" 44 (am_y 35) ∈ am_big := am_at 281 (by decide +kernel) rfl
theorem lm_D_51 : Cond.methodLink "SewnAhead$Reader" 51 (am_y 36) ∈ am_big := am_at 286 (by decide +kernel) rfl
theorem lm_L_53 : Cond.methodLink "SewnAheadLaw" 53 (am_y 37) ∈ am_big := am_at 290 (by decide +kernel) rfl
theorem lm_S_108 : Cond.methodLink "SewnAhead" 108 (am_y 38) ∈ am_big := am_at 294 (by decide +kernel) rfl
theorem lm_S_112 : Cond.methodLink "SewnAhead" 112 (am_y 39) ∈ am_big := am_at 299 (by decide +kernel) rfl
theorem lm_C_74 : Cond.methodLink "SewnAhead$Cloth" 74 (am_y 40) ∈ am_big := am_at 303 (by decide +kernel) rfl
theorem lm_C_77 : Cond.methodLink "SewnAhead$Cloth" 77 (am_y 41) ∈ am_big := am_at 307 (by decide +kernel) rfl
theorem lm_C_81 : Cond.methodLink "SewnAhead$Cloth" 81 (am_y 42) ∈ am_big := am_at 311 (by decide +kernel) rfl
theorem lm_C_84 : Cond.methodLink "SewnAhead$Cloth" 84 (am_y 43) ∈ am_big := am_at 315 (by decide +kernel) rfl
theorem lm_S_115 : Cond.methodLink "SewnAhead" 115 (am_y 27) ∈ am_big := am_at 319 (by decide +kernel) rfl
theorem lm_L_57 : Cond.methodLink "SewnAheadLaw" 57 (am_y 44) ∈ am_big := am_at 320 (by decide +kernel) rfl
theorem lm_S_121 : Cond.methodLink "SewnAhead" 121 (am_y 45) ∈ am_big := am_at 324 (by decide +kernel) rfl
theorem lm_S_124 : Cond.methodLink "SewnAhead" 124 (am_y 46) ∈ am_big := am_at 328 (by decide +kernel) rfl
theorem lm_L_61 : Cond.methodLink "SewnAheadLaw" 61 (am_y 47) ∈ am_big := am_at 332 (by decide +kernel) rfl
theorem lm_S_128 : Cond.methodLink "SewnAhead" 128 (am_y 48) ∈ am_big := am_at 336 (by decide +kernel) rfl
theorem lm_S_131 : Cond.methodLink "SewnAhead" 131 (am_y 49) ∈ am_big := am_at 340 (by decide +kernel) rfl
theorem lm_S_281 : Cond.methodLink "SewnAhead" 281 (am_y 50) ∈ am_big := am_at 344 (by decide +kernel) rfl
theorem lm_C_103 : Cond.methodLink "SewnAhead$Cloth" 103 (am_y 51) ∈ am_big := am_at 348 (by decide +kernel) rfl
theorem lm_C_94 : Cond.methodLink "SewnAhead$Cloth" 94 (am_y 52) ∈ am_big := am_at 352 (by decide +kernel) rfl
theorem lm_C_97 : Cond.methodLink "SewnAhead$Cloth" 97 (am_y 5) ∈ am_big := am_at 358 (by decide +kernel) rfl
theorem lm_L_65 : Cond.methodLink "SewnAheadLaw" 65 (am_y 53) ∈ am_big := am_at 359 (by decide +kernel) rfl
theorem lm_S_134 : Cond.methodLink "SewnAhead" 134 (am_y 52) ∈ am_big := am_at 363 (by decide +kernel) rfl
theorem lm_S_140 : Cond.methodLink "SewnAhead" 140 (am_y 54) ∈ am_big := am_at 364 (by decide +kernel) rfl
theorem lm_S_146 : Cond.methodLink "SewnAhead" 146 (am_y 55) ∈ am_big := am_at 368 (by decide +kernel) rfl
theorem lm_S_151 : Cond.methodLink "SewnAhead" 151 (am_y 56) ∈ am_big := am_at 374 (by decide +kernel) rfl
theorem lm_L_69 : Cond.methodLink "SewnAheadLaw" 69 (am_y 57) ∈ am_big := am_at 378 (by decide +kernel) rfl
theorem lm_S_154 : Cond.methodLink "SewnAhead" 154 (am_y 31) ∈ am_big := am_at 382 (by decide +kernel) rfl
theorem lm_L_73 : Cond.methodLink "SewnAheadLaw" 73 (am_y 58) ∈ am_big := am_at 383 (by decide +kernel) rfl
theorem lm_S_160 : Cond.methodLink "SewnAhead" 160 (am_y 59) ∈ am_big := am_at 387 (by decide +kernel) rfl
theorem lm_S_206 : Cond.methodLink "SewnAhead" 206 (am_y 60) ∈ am_big := am_at 391 (by decide +kernel) rfl
theorem lm_S_251 : Cond.methodLink "SewnAhead" 251 (am_y 61) ∈ am_big := am_at 396 (by decide +kernel) rfl
theorem lm_C_66 : Cond.methodLink "SewnAhead$Cloth" 66 (am_y 62) ∈ am_big := am_at 400 (by decide +kernel) rfl
theorem lm_C_70 : Cond.methodLink "SewnAhead$Cloth" 70 (am_y 39) ∈ am_big := am_at 404 (by decide +kernel) rfl
theorem lm_S_172 : Cond.methodLink "SewnAhead" 172 (am_y 63) ∈ am_big := am_at 405 (by decide +kernel) rfl
theorem lm_C_106 : Cond.methodLink "SewnAhead$Cloth" 106 (am_y 50) ∈ am_big := am_at 409 (by decide +kernel) rfl
theorem lm_L_77 : Cond.methodLink "SewnAheadLaw" 77 (am_y 64) ∈ am_big := am_at 410 (by decide +kernel) rfl
theorem lm_L_81 : Cond.methodLink "SewnAheadLaw" 81 (am_y 65) ∈ am_big := am_at 414 (by decide +kernel) rfl
theorem lm_S_163 : Cond.methodLink "SewnAhead" 163 (am_y 66) ∈ am_big := am_at 418 (by decide +kernel) rfl
theorem lm_L_85 : Cond.methodLink "SewnAheadLaw" 85 (am_y 67) ∈ am_big := am_at 422 (by decide +kernel) rfl
theorem lm_S_166 : Cond.methodLink "SewnAhead" 166 (am_y 68) ∈ am_big := am_at 426 (by decide +kernel) rfl
theorem lm_L_89 : Cond.methodLink "SewnAheadLaw" 89 (am_y 69) ∈ am_big := am_at 429 (by decide +kernel) rfl
theorem lm_L_93 : Cond.methodLink "SewnAheadLaw" 93 (am_y 70) ∈ am_big := am_at 433 (by decide +kernel) rfl
theorem lm_L_97 : Cond.methodLink "SewnAheadLaw" 97 (am_y 71) ∈ am_big := am_at 437 (by decide +kernel) rfl
theorem lm_L_101 : Cond.methodLink "SewnAheadLaw" 101 (am_y 72) ∈ am_big := am_at 441 (by decide +kernel) rfl
theorem lm_S_176 : Cond.methodLink "SewnAhead" 176 (am_y 73) ∈ am_big := am_at 445 (by decide +kernel) rfl
theorem lm_C_88 : Cond.methodLink "SewnAhead$Cloth" 88 (am_y 54) ∈ am_big := am_at 449 (by decide +kernel) rfl
theorem lm_C_109 : Cond.methodLink "SewnAhead$Cloth" 109 (am_y 74) ∈ am_big := am_at 450 (by decide +kernel) rfl
theorem lm_L_106 : Cond.methodLink "SewnAheadLaw" 106 (am_y 75) ∈ am_big := am_at 454 (by decide +kernel) rfl
theorem lm_S_182 : Cond.methodLink "SewnAhead" 182 (am_y 33) ∈ am_big := am_at 458 (by decide +kernel) rfl
theorem lm_L_110 : Cond.methodLink "SewnAheadLaw" 110 (am_y 76) ∈ am_big := am_at 459 (by decide +kernel) rfl
theorem lm_S_186 : Cond.methodLink "SewnAhead" 186 (am_y 77) ∈ am_big := am_at 463 (by decide +kernel) rfl
theorem lm_L_114 : Cond.methodLink "SewnAheadLaw" 114 (am_y 78) ∈ am_big := am_at 467 (by decide +kernel) rfl
theorem lm_S_189 : Cond.methodLink "SewnAhead" 189 (am_y 79) ∈ am_big := am_at 471 (by decide +kernel) rfl
theorem lm_P_42 : Cond.methodLink "SewnAhead$Plans" 42 (am_y 11) ∈ am_big := am_at 475 (by decide +kernel) rfl
theorem lm_S_192 : Cond.methodLink "SewnAhead" 192 (am_y 80) ∈ am_big := am_at 476 (by decide +kernel) rfl
theorem lm_S_195 : Cond.methodLink "SewnAhead" 195 (am_y 81) ∈ am_big := am_at 480 (by decide +kernel) rfl
theorem lm_S_198 : Cond.methodLink "SewnAhead" 198 (am_y 82) ∈ am_big := am_at 484 (by decide +kernel) rfl
theorem lm_P_48 : Cond.methodLink "SewnAhead$Plans" 48 (am_y 38) ∈ am_big := am_at 488 (by decide +kernel) rfl
theorem lm_P_52 : Cond.methodLink "SewnAhead$Plans" 52 (am_y 83) ∈ am_big := am_at 489 (by decide +kernel) rfl
theorem lm_P_59 : Cond.methodLink "SewnAhead$Plans" 59 (am_y 84) ∈ am_big := am_at 493 (by decide +kernel) rfl
theorem lm_P_68 : Cond.methodLink "SewnAhead$Plans" 68 (am_y 85) ∈ am_big := am_at 498 (by decide +kernel) rfl
theorem lm_P_87 : Cond.methodLink "SewnAhead$Plans" 87 (am_y 60) ∈ am_big := am_at 502 (by decide +kernel) rfl
theorem lm_P_72 : Cond.methodLink "SewnAhead$Plans" 72 (am_y 62) ∈ am_big := am_at 503 (by decide +kernel) rfl
theorem lm_P_75 : Cond.methodLink "SewnAhead$Plans" 75 (am_y 40) ∈ am_big := am_at 504 (by decide +kernel) rfl
theorem lm_P_79 : Cond.methodLink "SewnAhead$Plans" 79 (am_y 86) ∈ am_big := am_at 505 (by decide +kernel) rfl
theorem lm_P_97 : Cond.methodLink "SewnAhead$Plans" 97 (am_y 88) ∈ am_big := am_at 512 (by decide +kernel) rfl
theorem lm_P_83 : Cond.methodLink "SewnAhead$Plans" 83 (am_y 33) ∈ am_big := am_at 516 (by decide +kernel) rfl
theorem lm_L_118 : Cond.methodLink "SewnAheadLaw" 118 (am_y 89) ∈ am_big := am_at 517 (by decide +kernel) rfl
theorem lm_S_202 : Cond.methodLink "SewnAhead" 202 (am_y 90) ∈ am_big := am_at 521 (by decide +kernel) rfl
theorem lm_S_284 : Cond.methodLink "SewnAhead" 284 (am_y 91) ∈ am_big := am_at 525 (by decide +kernel) rfl
theorem lm_L_122 : Cond.methodLink "SewnAheadLaw" 122 (am_y 92) ∈ am_big := am_at 528 (by decide +kernel) rfl
theorem lm_L_126 : Cond.methodLink "SewnAheadLaw" 126 (am_y 93) ∈ am_big := am_at 532 (by decide +kernel) rfl
theorem lm_S_209 : Cond.methodLink "SewnAhead" 209 (am_y 62) ∈ am_big := am_at 536 (by decide +kernel) rfl
theorem lm_S_212 : Cond.methodLink "SewnAhead" 212 (am_y 94) ∈ am_big := am_at 537 (by decide +kernel) rfl
theorem lm_L_130 : Cond.methodLink "SewnAheadLaw" 130 (am_y 95) ∈ am_big := am_at 541 (by decide +kernel) rfl
theorem lm_S_215 : Cond.methodLink "SewnAhead" 215 (am_y 96) ∈ am_big := am_at 545 (by decide +kernel) rfl
theorem lm_S_218 : Cond.methodLink "SewnAhead" 218 (am_y 97) ∈ am_big := am_at 549 (by decide +kernel) rfl
theorem lm_L_134 : Cond.methodLink "SewnAheadLaw" 134 (am_y 98) ∈ am_big := am_at 553 (by decide +kernel) rfl
theorem lm_L_138 : Cond.methodLink "SewnAheadLaw" 138 (am_y 99) ∈ am_big := am_at 557 (by decide +kernel) rfl
theorem lm_L_142 : Cond.methodLink "SewnAheadLaw" 142 (am_y 100) ∈ am_big := am_at 561 (by decide +kernel) rfl
theorem lm_S_231 : Cond.methodLink "SewnAhead" 231 (am_y 87) ∈ am_big := am_at 565 (by decide +kernel) rfl
theorem lm_S_237 : Cond.methodLink "SewnAhead" 237 (am_y 101) ∈ am_big := am_at 566 (by decide +kernel) rfl
theorem lm_L_146 : Cond.methodLink "SewnAheadLaw" 146 (am_y 102) ∈ am_big := am_at 570 (by decide +kernel) rfl
theorem lm_L_150 : Cond.methodLink "SewnAheadLaw" 150 (am_y 103) ∈ am_big := am_at 575 (by decide +kernel) rfl
theorem lm_L_154 : Cond.methodLink "SewnAheadLaw" 154 (am_y 104) ∈ am_big := am_at 583 (by decide +kernel) rfl
theorem lm_L_158 : Cond.methodLink "SewnAheadLaw" 158 (am_y 105) ∈ am_big := am_at 587 (by decide +kernel) rfl
theorem lm_L_163 : Cond.methodLink "SewnAheadLaw" 163 (am_y 106) ∈ am_big := am_at 591 (by decide +kernel) rfl
theorem lm_L_167 : Cond.methodLink "SewnAheadLaw" 167 (am_y 107) ∈ am_big := am_at 595 (by decide +kernel) rfl
theorem lm_S_254 : Cond.methodLink "SewnAhead" 254 (am_y 108) ∈ am_big := am_at 599 (by decide +kernel) rfl
theorem lm_S_257 : Cond.methodLink "SewnAhead" 257 (am_y 109) ∈ am_big := am_at 603 (by decide +kernel) rfl
theorem lm_S_261 : Cond.methodLink "SewnAhead" 261 (am_y 110) ∈ am_big := am_at 606 (by decide +kernel) rfl
theorem lm_L_171 : Cond.methodLink "SewnAheadLaw" 171 (am_y 111) ∈ am_big := am_at 610 (by decide +kernel) rfl
theorem lm_L_175 : Cond.methodLink "SewnAheadLaw" 175 (am_y 112) ∈ am_big := am_at 614 (by decide +kernel) rfl
theorem lm_L_179 : Cond.methodLink "SewnAheadLaw" 179 (am_y 113) ∈ am_big := am_at 618 (by decide +kernel) rfl
theorem lm_S_268 : Cond.methodLink "SewnAhead" 268 (am_y 107) ∈ am_big := am_at 624 (by decide +kernel) rfl
theorem lm_S_271 : Cond.methodLink "SewnAhead" 271 (am_y 114) ∈ am_big := am_at 625 (by decide +kernel) rfl
theorem lm_L_12 : Cond.methodLink "SewnAheadLaw" 12 (am_y 115) ∈ am_big := am_at 630 (by decide +kernel) rfl
theorem lm_M_1 : Cond.methodLink "SewnAheadModel" 1 (am_y 1) ∈ am_big := am_at 633 (by decide +kernel) rfl
theorem lm_L_17 : Cond.methodLink "SewnAheadLaw" 17 (am_y 116) ∈ am_big := am_at 695 (by decide +kernel) rfl
theorem lm_M_65 : Cond.methodLink "SewnAheadModel" 65 (am_y 117) ∈ am_big := am_at 699 (by decide +kernel) rfl
theorem lm_M_59 : Cond.methodLink "SewnAheadModel" 59 (am_y 118) ∈ am_big := am_at 703 (by decide +kernel) rfl
theorem lm_M_69 : Cond.methodLink "SewnAheadModel" 69 (am_y 119) ∈ am_big := am_at 706 (by decide +kernel) rfl
theorem lm_M_73 : Cond.methodLink "SewnAheadModel" 73 (am_y 120) ∈ am_big := am_at 710 (by decide +kernel) rfl
theorem lm_L_22 : Cond.methodLink "SewnAheadLaw" 22 (am_y 121) ∈ am_big := am_at 714 (by decide +kernel) rfl
theorem lm_M_77 : Cond.methodLink "SewnAheadModel" 77 (am_y 122) ∈ am_big := am_at 718 (by decide +kernel) rfl
theorem lm_M_81 : Cond.methodLink "SewnAheadModel" 81 (am_y 123) ∈ am_big := am_at 722 (by decide +kernel) rfl
theorem lm_L_26 : Cond.methodLink "SewnAheadLaw" 26 (am_y 122) ∈ am_big := am_at 726 (by decide +kernel) rfl
theorem lm_L_31 : Cond.methodLink "SewnAheadLaw" 31 (am_y 124) ∈ am_big := am_at 727 (by decide +kernel) rfl
theorem lm_L_36 : Cond.methodLink "SewnAheadLaw" 36 (am_y 125) ∈ am_big := am_at 731 (by decide +kernel) rfl
theorem lm_M_84 : Cond.methodLink "SewnAheadModel" 84 (am_y 126) ∈ am_big := am_at 735 (by decide +kernel) rfl
theorem lm_L_40 : Cond.methodLink "SewnAheadLaw" 40 (am_y 127) ∈ am_big := am_at 738 (by decide +kernel) rfl
theorem lm_L_44 : Cond.methodLink "SewnAheadLaw" 44 (am_y 128) ∈ am_big := am_at 742 (by decide +kernel) rfl
theorem lm_M_88 : Cond.methodLink "SewnAheadModel" 88 (am_y 129) ∈ am_big := am_at 746 (by decide +kernel) rfl
theorem lm_L_48 : Cond.methodLink "SewnAheadLaw" 48 (am_y 130) ∈ am_big := am_at 750 (by decide +kernel) rfl
theorem lm_L_52 : Cond.methodLink "SewnAheadLaw" 52 (am_y 131) ∈ am_big := am_at 754 (by decide +kernel) rfl
theorem lm_M_120 : Cond.methodLink "SewnAheadModel" 120 (am_y 132) ∈ am_big := am_at 758 (by decide +kernel) rfl
theorem lm_M_110 : Cond.methodLink "SewnAheadModel" 110 (am_y 133) ∈ am_big := am_at 762 (by decide +kernel) rfl
theorem lm_M_94 : Cond.methodLink "SewnAheadModel" 94 (am_y 134) ∈ am_big := am_at 766 (by decide +kernel) rfl
theorem lm_M_114 : Cond.methodLink "SewnAheadModel" 114 (am_y 135) ∈ am_big := am_at 770 (by decide +kernel) rfl
theorem lm_M_104 : Cond.methodLink "SewnAheadModel" 104 (am_y 136) ∈ am_big := am_at 774 (by decide +kernel) rfl
theorem lm_M_101 : Cond.methodLink "SewnAheadModel" 101 (am_y 137) ∈ am_big := am_at 778 (by decide +kernel) rfl
theorem lm_M_117 : Cond.methodLink "SewnAheadModel" 117 (am_y 138) ∈ am_big := am_at 784 (by decide +kernel) rfl
theorem lm_M_107 : Cond.methodLink "SewnAheadModel" 107 (am_y 139) ∈ am_big := am_at 788 (by decide +kernel) rfl
theorem lm_L_56 : Cond.methodLink "SewnAheadLaw" 56 (am_y 140) ∈ am_big := am_at 791 (by decide +kernel) rfl
theorem lm_M_123 : Cond.methodLink "SewnAheadModel" 123 (am_y 141) ∈ am_big := am_at 795 (by decide +kernel) rfl
theorem lm_L_60 : Cond.methodLink "SewnAheadLaw" 60 (am_y 142) ∈ am_big := am_at 799 (by decide +kernel) rfl
theorem lm_M_151 : Cond.methodLink "SewnAheadModel" 151 (am_y 143) ∈ am_big := am_at 803 (by decide +kernel) rfl
theorem lm_M_145 : Cond.methodLink "SewnAheadModel" 145 (am_y 144) ∈ am_big := am_at 808 (by decide +kernel) rfl
theorem lm_M_135 : Cond.methodLink "SewnAheadModel" 135 (am_y 145) ∈ am_big := am_at 812 (by decide +kernel) rfl
theorem lm_M_132 : Cond.methodLink "SewnAheadModel" 132 (am_y 146) ∈ am_big := am_at 816 (by decide +kernel) rfl
theorem lm_M_156 : Cond.methodLink "SewnAheadModel" 156 (am_y 147) ∈ am_big := am_at 820 (by decide +kernel) rfl
theorem lm_L_64 : Cond.methodLink "SewnAheadLaw" 64 (am_y 148) ∈ am_big := am_at 824 (by decide +kernel) rfl
theorem lm_M_159 : Cond.methodLink "SewnAheadModel" 159 (am_y 149) ∈ am_big := am_at 828 (by decide +kernel) rfl
theorem lm_M_162 : Cond.methodLink "SewnAheadModel" 162 (am_y 150) ∈ am_big := am_at 832 (by decide +kernel) rfl
theorem lm_M_148 : Cond.methodLink "SewnAheadModel" 148 (am_y 151) ∈ am_big := am_at 836 (by decide +kernel) rfl
theorem lm_M_139 : Cond.methodLink "SewnAheadModel" 139 (am_y 152) ∈ am_big := am_at 840 (by decide +kernel) rfl
theorem lm_M_142 : Cond.methodLink "SewnAheadModel" 142 (am_y 153) ∈ am_big := am_at 844 (by decide +kernel) rfl
theorem lm_L_68 : Cond.methodLink "SewnAheadLaw" 68 (am_y 154) ∈ am_big := am_at 847 (by decide +kernel) rfl
theorem lm_M_165 : Cond.methodLink "SewnAheadModel" 165 (am_y 155) ∈ am_big := am_at 851 (by decide +kernel) rfl
theorem lm_L_72 : Cond.methodLink "SewnAheadLaw" 72 (am_y 156) ∈ am_big := am_at 855 (by decide +kernel) rfl
theorem lm_M_168 : Cond.methodLink "SewnAheadModel" 168 (am_y 157) ∈ am_big := am_at 859 (by decide +kernel) rfl
theorem lm_L_76 : Cond.methodLink "SewnAheadLaw" 76 (am_y 158) ∈ am_big := am_at 863 (by decide +kernel) rfl
theorem lm_M_171 : Cond.methodLink "SewnAheadModel" 171 (am_y 159) ∈ am_big := am_at 867 (by decide +kernel) rfl
theorem lm_M_174 : Cond.methodLink "SewnAheadModel" 174 (am_y 160) ∈ am_big := am_at 871 (by decide +kernel) rfl
theorem lm_M_177 : Cond.methodLink "SewnAheadModel" 177 (am_y 161) ∈ am_big := am_at 875 (by decide +kernel) rfl
theorem lm_L_80 : Cond.methodLink "SewnAheadLaw" 80 (am_y 162) ∈ am_big := am_at 879 (by decide +kernel) rfl
theorem lm_L_84 : Cond.methodLink "SewnAheadLaw" 84 (am_y 163) ∈ am_big := am_at 883 (by decide +kernel) rfl
theorem lm_L_88 : Cond.methodLink "SewnAheadLaw" 88 (am_y 164) ∈ am_big := am_at 887 (by decide +kernel) rfl
theorem lm_L_92 : Cond.methodLink "SewnAheadLaw" 92 (am_y 165) ∈ am_big := am_at 891 (by decide +kernel) rfl
theorem lm_L_96 : Cond.methodLink "SewnAheadLaw" 96 (am_y 166) ∈ am_big := am_at 895 (by decide +kernel) rfl
theorem lm_L_100 : Cond.methodLink "SewnAheadLaw" 100 (am_y 167) ∈ am_big := am_at 899 (by decide +kernel) rfl
theorem lm_L_105 : Cond.methodLink "SewnAheadLaw" 105 (am_y 168) ∈ am_big := am_at 903 (by decide +kernel) rfl
theorem lm_M_181 : Cond.methodLink "SewnAheadModel" 181 (am_y 169) ∈ am_big := am_at 907 (by decide +kernel) rfl
theorem lm_L_109 : Cond.methodLink "SewnAheadLaw" 109 (am_y 170) ∈ am_big := am_at 910 (by decide +kernel) rfl
theorem lm_M_184 : Cond.methodLink "SewnAheadModel" 184 (am_y 171) ∈ am_big := am_at 914 (by decide +kernel) rfl
theorem lm_M_187 : Cond.methodLink "SewnAheadModel" 187 (am_y 172) ∈ am_big := am_at 918 (by decide +kernel) rfl
theorem lm_L_113 : Cond.methodLink "SewnAheadLaw" 113 (am_y 173) ∈ am_big := am_at 922 (by decide +kernel) rfl
theorem lm_L_117 : Cond.methodLink "SewnAheadLaw" 117 (am_y 174) ∈ am_big := am_at 926 (by decide +kernel) rfl
theorem lm_M_203 : Cond.methodLink "SewnAheadModel" 203 (am_y 175) ∈ am_big := am_at 930 (by decide +kernel) rfl
theorem lm_M_194 : Cond.methodLink "SewnAheadModel" 194 (am_y 176) ∈ am_big := am_at 935 (by decide +kernel) rfl
theorem lm_M_197 : Cond.methodLink "SewnAheadModel" 197 (am_y 177) ∈ am_big := am_at 939 (by decide +kernel) rfl
theorem lm_M_190 : Cond.methodLink "SewnAheadModel" 190 (am_y 178) ∈ am_big := am_at 943 (by decide +kernel) rfl
theorem lm_M_206 : Cond.methodLink "SewnAheadModel" 206 (am_y 179) ∈ am_big := am_at 947 (by decide +kernel) rfl
theorem lm_L_121 : Cond.methodLink "SewnAheadLaw" 121 (am_y 180) ∈ am_big := am_at 951 (by decide +kernel) rfl
theorem lm_L_125 : Cond.methodLink "SewnAheadLaw" 125 (am_y 181) ∈ am_big := am_at 955 (by decide +kernel) rfl
theorem lm_L_129 : Cond.methodLink "SewnAheadLaw" 129 (am_y 182) ∈ am_big := am_at 959 (by decide +kernel) rfl
theorem lm_M_214 : Cond.methodLink "SewnAheadModel" 214 (am_y 183) ∈ am_big := am_at 964 (by decide +kernel) rfl
theorem lm_L_133 : Cond.methodLink "SewnAheadLaw" 133 (am_y 184) ∈ am_big := am_at 968 (by decide +kernel) rfl
theorem lm_M_217 : Cond.methodLink "SewnAheadModel" 217 (am_y 185) ∈ am_big := am_at 972 (by decide +kernel) rfl
theorem lm_M_220 : Cond.methodLink "SewnAheadModel" 220 (am_y 186) ∈ am_big := am_at 976 (by decide +kernel) rfl
theorem lm_L_137 : Cond.methodLink "SewnAheadLaw" 137 (am_y 187) ∈ am_big := am_at 980 (by decide +kernel) rfl
theorem lm_L_141 : Cond.methodLink "SewnAheadLaw" 141 (am_y 188) ∈ am_big := am_at 984 (by decide +kernel) rfl
theorem lm_L_145 : Cond.methodLink "SewnAheadLaw" 145 (am_y 189) ∈ am_big := am_at 988 (by decide +kernel) rfl
theorem lm_L_149 : Cond.methodLink "SewnAheadLaw" 149 (am_y 190) ∈ am_big := am_at 992 (by decide +kernel) rfl
theorem lm_M_223 : Cond.methodLink "SewnAheadModel" 223 (am_y 191) ∈ am_big := am_at 996 (by decide +kernel) rfl
theorem lm_L_153 : Cond.methodLink "SewnAheadLaw" 153 (am_y 192) ∈ am_big := am_at 1000 (by decide +kernel) rfl
theorem lm_L_157 : Cond.methodLink "SewnAheadLaw" 157 (am_y 193) ∈ am_big := am_at 1009 (by decide +kernel) rfl
theorem lm_L_162 : Cond.methodLink "SewnAheadLaw" 162 (am_y 194) ∈ am_big := am_at 1013 (by decide +kernel) rfl
theorem lm_L_166 : Cond.methodLink "SewnAheadLaw" 166 (am_y 195) ∈ am_big := am_at 1017 (by decide +kernel) rfl
theorem lm_L_170 : Cond.methodLink "SewnAheadLaw" 170 (am_y 196) ∈ am_big := am_at 1021 (by decide +kernel) rfl
theorem lm_M_236 : Cond.methodLink "SewnAheadModel" 236 (am_y 197) ∈ am_big := am_at 1025 (by decide +kernel) rfl
theorem lm_M_239 : Cond.methodLink "SewnAheadModel" 239 (am_y 198) ∈ am_big := am_at 1029 (by decide +kernel) rfl
theorem lm_L_174 : Cond.methodLink "SewnAheadLaw" 174 (am_y 199) ∈ am_big := am_at 1032 (by decide +kernel) rfl
theorem lm_L_178 : Cond.methodLink "SewnAheadLaw" 178 (am_y 200) ∈ am_big := am_at 1036 (by decide +kernel) rfl
theorem lm_L_182 : Cond.methodLink "SewnAheadLaw" 182 (am_y 201) ∈ am_big := am_at 1040 (by decide +kernel) rfl
theorem lm_M_250 : Cond.methodLink "SewnAheadModel" 250 (am_y 196) ∈ am_big := am_at 1045 (by decide +kernel) rfl
theorem lm_M_253 : Cond.methodLink "SewnAheadModel" 253 (am_y 202) ∈ am_big := am_at 1046 (by decide +kernel) rfl
theorem lk_J_265 : Cond.constant "java/lang/Integer" 265 1431655765 ∈ am_big := am_at 371 (by decide +kernel) rfl
theorem lk_J_266 : Cond.constant "java/lang/Integer" 266 858993459 ∈ am_big := am_at 372 (by decide +kernel) rfl
theorem lk_J_267 : Cond.constant "java/lang/Integer" 267 252645135 ∈ am_big := am_at 373 (by decide +kernel) rfl
theorem lk_J_264 : Cond.constant "java/lang/Integer" 264 65536 ∈ am_big := am_at 453 (by decide +kernel) rfl
theorem lk_M_193 : Cond.constant "SewnAheadModel" 193 1000000 ∈ am_big := am_at 934 (by decide +kernel) rfl
theorem lj_S_241 : Cond.constantLong "SewnAhead" 241 6 ∈ am_big := am_at 574 (by decide +kernel) rfl
theorem lj_S_243 : Cond.constantLong "SewnAhead" 243 2147483647 ∈ am_big := am_at 579 (by decide +kernel) rfl
theorem lj_S_245 : Cond.constantLong "SewnAhead" 245 48271 ∈ am_big := am_at 580 (by decide +kernel) rfl
theorem lj_S_247 : Cond.constantLong "SewnAhead" 247 32 ∈ am_big := am_at 581 (by decide +kernel) rfl
theorem lj_S_249 : Cond.constantLong "SewnAhead" 249 5 ∈ am_big := am_at 582 (by decide +kernel) rfl
theorem lj_S_264 : Cond.constantLong "SewnAhead" 264 17 ∈ am_big := am_at 622 (by decide +kernel) rfl
theorem lj_S_266 : Cond.constantLong "SewnAhead" 266 31 ∈ am_big := am_at 623 (by decide +kernel) rfl
theorem lj_M_57 : Cond.constantLong "SewnAheadModel" 57 5 ∈ am_big := am_at 702 (by decide +kernel) rfl
theorem lj_M_63 : Cond.constantLong "SewnAheadModel" 63 3 ∈ am_big := am_at 749 (by decide +kernel) rfl
theorem lj_M_97 : Cond.constantLong "SewnAheadModel" 97 48 ∈ am_big := am_at 782 (by decide +kernel) rfl
theorem lj_M_99 : Cond.constantLong "SewnAheadModel" 99 52 ∈ am_big := am_at 783 (by decide +kernel) rfl
theorem lj_M_154 : Cond.constantLong "SewnAheadModel" 154 2 ∈ am_big := am_at 807 (by decide +kernel) rfl
theorem lj_M_130 : Cond.constantLong "SewnAheadModel" 130 4 ∈ am_big := am_at 862 (by decide +kernel) rfl
theorem lj_M_212 : Cond.constantLong "SewnAheadModel" 212 6 ∈ am_big := am_at 963 (by decide +kernel) rfl
theorem lj_M_226 : Cond.constantLong "SewnAheadModel" 226 10 ∈ am_big := am_at 1004 (by decide +kernel) rfl
theorem lj_M_228 : Cond.constantLong "SewnAheadModel" 228 2147483646 ∈ am_big := am_at 1005 (by decide +kernel) rfl
theorem lj_M_230 : Cond.constantLong "SewnAheadModel" 230 48271 ∈ am_big := am_at 1006 (by decide +kernel) rfl
theorem lj_M_232 : Cond.constantLong "SewnAheadModel" 232 2147483647 ∈ am_big := am_at 1007 (by decide +kernel) rfl
theorem lj_M_234 : Cond.constantLong "SewnAheadModel" 234 32 ∈ am_big := am_at 1008 (by decide +kernel) rfl
theorem lj_M_248 : Cond.constantLong "SewnAheadModel" 248 17 ∈ am_big := am_at 1044 (by decide +kernel) rfl
theorem lj_M_243 : Cond.constantLong "SewnAheadModel" 243 31 ∈ am_big := am_at 1050 (by decide +kernel) rfl
theorem lc_L_7 : Cond.classLink "SewnAheadLaw" 7 (qR 3) ∈ am_big := am_at 11 (by decide +kernel) rfl
theorem lc_S_9 : Cond.classLink "SewnAhead" 9 (qR 2) ∈ am_big := am_at 19 (by decide +kernel) rfl
theorem lc_S_18 : Cond.classLink "SewnAhead" 18 (qR 0) ∈ am_big := am_at 21 (by decide +kernel) rfl
theorem lc_S_32 : Cond.classLink "SewnAhead" 32 (qR 1) ∈ am_big := am_at 84 (by decide +kernel) rfl
theorem lc_P_9 : Cond.classLink "SewnAhead$Plans" 9 (qR 0) ∈ am_big := am_at 90 (by decide +kernel) rfl
theorem lc_L_10 : Cond.classLink "SewnAheadLaw" 10 (qR 4) ∈ am_big := am_at 628 (by decide +kernel) rfl
theorem in_J : Cond.initialized "java/lang/Integer" ∈ am_big := am_at 10 (by decide +kernel) rfl
theorem in_D : Cond.initialized "SewnAhead$Reader" ∈ am_big := am_at 9 (by decide +kernel) rfl
theorem in_java_lang_System : Cond.initialized "java/lang/System" ∈ am_big := am_at 8 (by decide +kernel) rfl
theorem in_java_util_Arrays : Cond.initialized "java/util/Arrays" ∈ am_big := am_at 7 (by decide +kernel) rfl
theorem in_M : Cond.initialized "SewnAheadModel" ∈ am_big := am_at 6 (by decide +kernel) rfl
theorem in_java_lang_Math : Cond.initialized "java/lang/Math" ∈ am_big := am_at 5 (by decide +kernel) rfl
theorem in_R : Cond.initialized "SewnAhead$Row" ∈ am_big := am_at 4 (by decide +kernel) rfl
theorem in_P : Cond.initialized "SewnAhead$Plans" ∈ am_big := am_at 3 (by decide +kernel) rfl
theorem in_C : Cond.initialized "SewnAhead$Cloth" ∈ am_big := am_at 2 (by decide +kernel) rfl
theorem in_S : Cond.initialized "SewnAhead" ∈ am_big := am_at 1 (by decide +kernel) rfl
theorem in_L : Cond.initialized "SewnAheadLaw" ∈ am_big := am_at 0 (by decide +kernel) rfl
theorem im_0 : Cond.instanceMethod (am_y 0) ∈ am_big := am_at 14 (by decide +kernel) rfl
theorem im_1 : Cond.instanceMethod (am_y 1) ∈ am_big := am_at 17 (by decide +kernel) rfl
theorem im_2 : Cond.instanceMethod (am_y 2) ∈ am_big := am_at 24 (by decide +kernel) rfl
theorem im_3 : Cond.instanceMethod (am_y 3) ∈ am_big := am_at 87 (by decide +kernel) rfl
theorem im_4 : Cond.instanceMethod (am_y 4) ∈ am_big := am_at 120 (by decide +kernel) rfl
theorem it_5 : Cond.static (am_y 5) ∈ am_big := am_at 124 (by decide +kernel) rfl
theorem im_6 : Cond.instanceMethod (am_y 6) ∈ am_big := am_at 172 (by decide +kernel) rfl
theorem is_6 : Cond.selects (am_y 6).cls (am_y 6) (am_y 6) ∈ am_big := am_at 173 (by decide +kernel) rfl
theorem it_7 : Cond.static (am_y 7) ∈ am_big := am_at 176 (by decide +kernel) rfl
theorem im_8 : Cond.instanceMethod (am_y 8) ∈ am_big := am_at 180 (by decide +kernel) rfl
theorem is_8 : Cond.selects (am_y 8).cls (am_y 8) (am_y 8) ∈ am_big := am_as 0 (by decide +kernel) rfl
theorem im_9 : Cond.instanceMethod (am_y 9) ∈ am_big := am_at 183 (by decide +kernel) rfl
theorem is_9 : Cond.selects (am_y 9).cls (am_y 9) (am_y 9) ∈ am_big := am_at 184 (by decide +kernel) rfl
theorem it_10 : Cond.static (am_y 10) ∈ am_big := am_at 187 (by decide +kernel) rfl
theorem it_11 : Cond.static (am_y 11) ∈ am_big := am_at 190 (by decide +kernel) rfl
theorem im_12 : Cond.instanceMethod (am_y 12) ∈ am_big := am_at 193 (by decide +kernel) rfl
theorem is_12 : Cond.selects (am_y 12).cls (am_y 12) (am_y 12) ∈ am_big := am_at 194 (by decide +kernel) rfl
theorem im_13 : Cond.instanceMethod (am_y 13) ∈ am_big := am_at 198 (by decide +kernel) rfl
theorem is_13 : Cond.selects (am_y 13).cls (am_y 13) (am_y 13) ∈ am_big := am_as 1 (by decide +kernel) rfl
theorem im_14 : Cond.instanceMethod (am_y 14) ∈ am_big := am_at 201 (by decide +kernel) rfl
theorem is_14 : Cond.selects (am_y 14).cls (am_y 14) (am_y 14) ∈ am_big := am_at 202 (by decide +kernel) rfl
theorem im_15 : Cond.instanceMethod (am_y 15) ∈ am_big := am_at 205 (by decide +kernel) rfl
theorem is_15 : Cond.selects (am_y 15).cls (am_y 15) (am_y 15) ∈ am_big := am_at 206 (by decide +kernel) rfl
theorem im_16 : Cond.instanceMethod (am_y 16) ∈ am_big := am_at 209 (by decide +kernel) rfl
theorem is_16 : Cond.selects (am_y 16).cls (am_y 16) (am_y 16) ∈ am_big := am_at 210 (by decide +kernel) rfl
theorem im_17 : Cond.instanceMethod (am_y 17) ∈ am_big := am_at 213 (by decide +kernel) rfl
theorem is_17 : Cond.selects (am_y 17).cls (am_y 17) (am_y 17) ∈ am_big := am_at 214 (by decide +kernel) rfl
theorem im_18 : Cond.instanceMethod (am_y 18) ∈ am_big := am_at 217 (by decide +kernel) rfl
theorem is_18 : Cond.selects (am_y 18).cls (am_y 18) (am_y 18) ∈ am_big := am_at 218 (by decide +kernel) rfl
theorem im_19 : Cond.instanceMethod (am_y 19) ∈ am_big := am_at 221 (by decide +kernel) rfl
theorem is_19 : Cond.selects (am_y 19).cls (am_y 19) (am_y 19) ∈ am_big := am_at 222 (by decide +kernel) rfl
theorem im_20 : Cond.instanceMethod (am_y 20) ∈ am_big := am_at 225 (by decide +kernel) rfl
theorem is_20 : Cond.selects (am_y 20).cls (am_y 20) (am_y 20) ∈ am_big := am_at 226 (by decide +kernel) rfl
theorem im_21 : Cond.instanceMethod (am_y 21) ∈ am_big := am_at 232 (by decide +kernel) rfl
theorem is_21 : Cond.selects (am_y 21).cls (am_y 21) (am_y 21) ∈ am_big := am_at 233 (by decide +kernel) rfl
theorem im_22 : Cond.instanceMethod (am_y 22) ∈ am_big := am_at 236 (by decide +kernel) rfl
theorem is_22 : Cond.selects (am_y 22).cls (am_y 22) (am_y 22) ∈ am_big := am_at 237 (by decide +kernel) rfl
theorem it_23 : Cond.static (am_y 23) ∈ am_big := am_at 240 (by decide +kernel) rfl
theorem im_24 : Cond.instanceMethod (am_y 24) ∈ am_big := am_at 243 (by decide +kernel) rfl
theorem is_24 : Cond.selects (am_y 24).cls (am_y 24) (am_y 24) ∈ am_big := am_at 244 (by decide +kernel) rfl
theorem im_25 : Cond.instanceMethod (am_y 25) ∈ am_big := am_at 247 (by decide +kernel) rfl
theorem is_25 : Cond.selects (am_y 25).cls (am_y 25) (am_y 25) ∈ am_big := am_at 248 (by decide +kernel) rfl
theorem it_26 : Cond.static (am_y 26) ∈ am_big := am_at 251 (by decide +kernel) rfl
theorem im_27 : Cond.instanceMethod (am_y 27) ∈ am_big := am_at 254 (by decide +kernel) rfl
theorem is_27 : Cond.selects (am_y 27).cls (am_y 27) (am_y 27) ∈ am_big := am_at 255 (by decide +kernel) rfl
theorem it_28 : Cond.static (am_y 28) ∈ am_big := am_at 258 (by decide +kernel) rfl
theorem it_29 : Cond.static (am_y 29) ∈ am_big := am_at 261 (by decide +kernel) rfl
theorem it_30 : Cond.static (am_y 30) ∈ am_big := am_at 265 (by decide +kernel) rfl
theorem it_31 : Cond.static (am_y 31) ∈ am_big := am_at 268 (by decide +kernel) rfl
theorem im_32 : Cond.instanceMethod (am_y 32) ∈ am_big := am_at 271 (by decide +kernel) rfl
theorem is_32 : Cond.selects (am_y 32).cls (am_y 32) (am_y 32) ∈ am_big := am_at 272 (by decide +kernel) rfl
theorem im_33 : Cond.instanceMethod (am_y 33) ∈ am_big := am_at 275 (by decide +kernel) rfl
theorem is_33 : Cond.selects (am_y 33).cls (am_y 33) (am_y 33) ∈ am_big := am_at 276 (by decide +kernel) rfl
theorem it_34 : Cond.static (am_y 34) ∈ am_big := am_at 279 (by decide +kernel) rfl
theorem it_35 : Cond.static (am_y 35) ∈ am_big := am_at 282 (by decide +kernel) rfl
theorem im_36 : Cond.instanceMethod (am_y 36) ∈ am_big := am_at 287 (by decide +kernel) rfl
theorem is_36 : Cond.selects (am_y 36).cls (am_y 36) (am_y 36) ∈ am_big := am_at 288 (by decide +kernel) rfl
theorem im_37 : Cond.instanceMethod (am_y 37) ∈ am_big := am_at 291 (by decide +kernel) rfl
theorem is_37 : Cond.selects (am_y 37).cls (am_y 37) (am_y 37) ∈ am_big := am_at 292 (by decide +kernel) rfl
theorem im_38 : Cond.instanceMethod (am_y 38) ∈ am_big := am_at 295 (by decide +kernel) rfl
theorem is_38 : Cond.selects (am_y 38).cls (am_y 38) (am_y 38) ∈ am_big := am_at 296 (by decide +kernel) rfl
theorem im_39 : Cond.instanceMethod (am_y 39) ∈ am_big := am_at 300 (by decide +kernel) rfl
theorem is_39 : Cond.selects (am_y 39).cls (am_y 39) (am_y 39) ∈ am_big := am_at 301 (by decide +kernel) rfl
theorem im_40 : Cond.instanceMethod (am_y 40) ∈ am_big := am_at 304 (by decide +kernel) rfl
theorem is_40 : Cond.selects (am_y 40).cls (am_y 40) (am_y 40) ∈ am_big := am_at 305 (by decide +kernel) rfl
theorem im_41 : Cond.instanceMethod (am_y 41) ∈ am_big := am_at 309 (by decide +kernel) rfl
theorem is_41 : Cond.selects (am_y 41).cls (am_y 41) (am_y 41) ∈ am_big := am_as 2 (by decide +kernel) rfl
theorem im_42 : Cond.instanceMethod (am_y 42) ∈ am_big := am_at 313 (by decide +kernel) rfl
theorem is_42 : Cond.selects (am_y 42).cls (am_y 42) (am_y 42) ∈ am_big := am_as 3 (by decide +kernel) rfl
theorem im_43 : Cond.instanceMethod (am_y 43) ∈ am_big := am_at 317 (by decide +kernel) rfl
theorem is_43 : Cond.selects (am_y 43).cls (am_y 43) (am_y 43) ∈ am_big := am_as 4 (by decide +kernel) rfl
theorem im_44 : Cond.instanceMethod (am_y 44) ∈ am_big := am_at 321 (by decide +kernel) rfl
theorem is_44 : Cond.selects (am_y 44).cls (am_y 44) (am_y 44) ∈ am_big := am_at 322 (by decide +kernel) rfl
theorem im_45 : Cond.instanceMethod (am_y 45) ∈ am_big := am_at 326 (by decide +kernel) rfl
theorem is_45 : Cond.selects (am_y 45).cls (am_y 45) (am_y 45) ∈ am_big := am_as 5 (by decide +kernel) rfl
theorem im_46 : Cond.instanceMethod (am_y 46) ∈ am_big := am_at 330 (by decide +kernel) rfl
theorem is_46 : Cond.selects (am_y 46).cls (am_y 46) (am_y 46) ∈ am_big := am_as 6 (by decide +kernel) rfl
theorem im_47 : Cond.instanceMethod (am_y 47) ∈ am_big := am_at 333 (by decide +kernel) rfl
theorem is_47 : Cond.selects (am_y 47).cls (am_y 47) (am_y 47) ∈ am_big := am_at 334 (by decide +kernel) rfl
theorem im_48 : Cond.instanceMethod (am_y 48) ∈ am_big := am_at 338 (by decide +kernel) rfl
theorem is_48 : Cond.selects (am_y 48).cls (am_y 48) (am_y 48) ∈ am_big := am_as 7 (by decide +kernel) rfl
theorem im_49 : Cond.instanceMethod (am_y 49) ∈ am_big := am_at 342 (by decide +kernel) rfl
theorem is_49 : Cond.selects (am_y 49).cls (am_y 49) (am_y 49) ∈ am_big := am_as 8 (by decide +kernel) rfl
theorem im_50 : Cond.instanceMethod (am_y 50) ∈ am_big := am_at 345 (by decide +kernel) rfl
theorem is_50 : Cond.selects (am_y 50).cls (am_y 50) (am_y 50) ∈ am_big := am_at 346 (by decide +kernel) rfl
theorem im_51 : Cond.instanceMethod (am_y 51) ∈ am_big := am_at 350 (by decide +kernel) rfl
theorem is_51 : Cond.selects (am_y 51).cls (am_y 51) (am_y 51) ∈ am_big := am_as 9 (by decide +kernel) rfl
theorem im_52 : Cond.instanceMethod (am_y 52) ∈ am_big := am_at 353 (by decide +kernel) rfl
theorem is_52 : Cond.selects (am_y 52).cls (am_y 52) (am_y 52) ∈ am_big := am_at 354 (by decide +kernel) rfl
theorem im_53 : Cond.instanceMethod (am_y 53) ∈ am_big := am_at 360 (by decide +kernel) rfl
theorem is_53 : Cond.selects (am_y 53).cls (am_y 53) (am_y 53) ∈ am_big := am_at 361 (by decide +kernel) rfl
theorem im_54 : Cond.instanceMethod (am_y 54) ∈ am_big := am_at 365 (by decide +kernel) rfl
theorem is_54 : Cond.selects (am_y 54).cls (am_y 54) (am_y 54) ∈ am_big := am_at 366 (by decide +kernel) rfl
theorem it_55 : Cond.static (am_y 55) ∈ am_big := am_at 369 (by decide +kernel) rfl
theorem im_56 : Cond.instanceMethod (am_y 56) ∈ am_big := am_at 375 (by decide +kernel) rfl
theorem is_56 : Cond.selects (am_y 56).cls (am_y 56) (am_y 56) ∈ am_big := am_at 376 (by decide +kernel) rfl
theorem im_57 : Cond.instanceMethod (am_y 57) ∈ am_big := am_at 379 (by decide +kernel) rfl
theorem is_57 : Cond.selects (am_y 57).cls (am_y 57) (am_y 57) ∈ am_big := am_at 380 (by decide +kernel) rfl
theorem im_58 : Cond.instanceMethod (am_y 58) ∈ am_big := am_at 384 (by decide +kernel) rfl
theorem is_58 : Cond.selects (am_y 58).cls (am_y 58) (am_y 58) ∈ am_big := am_at 385 (by decide +kernel) rfl
theorem im_59 : Cond.instanceMethod (am_y 59) ∈ am_big := am_at 389 (by decide +kernel) rfl
theorem is_59 : Cond.selects (am_y 59).cls (am_y 59) (am_y 59) ∈ am_big := am_as 10 (by decide +kernel) rfl
theorem im_60 : Cond.instanceMethod (am_y 60) ∈ am_big := am_at 392 (by decide +kernel) rfl
theorem is_60 : Cond.selects (am_y 60).cls (am_y 60) (am_y 60) ∈ am_big := am_at 393 (by decide +kernel) rfl
theorem im_61 : Cond.instanceMethod (am_y 61) ∈ am_big := am_at 397 (by decide +kernel) rfl
theorem is_61 : Cond.selects (am_y 61).cls (am_y 61) (am_y 61) ∈ am_big := am_at 398 (by decide +kernel) rfl
theorem im_62 : Cond.instanceMethod (am_y 62) ∈ am_big := am_at 401 (by decide +kernel) rfl
theorem is_62 : Cond.selects (am_y 62).cls (am_y 62) (am_y 62) ∈ am_big := am_at 402 (by decide +kernel) rfl
theorem im_63 : Cond.instanceMethod (am_y 63) ∈ am_big := am_at 406 (by decide +kernel) rfl
theorem is_63 : Cond.selects (am_y 63).cls (am_y 63) (am_y 63) ∈ am_big := am_at 407 (by decide +kernel) rfl
theorem im_64 : Cond.instanceMethod (am_y 64) ∈ am_big := am_at 411 (by decide +kernel) rfl
theorem is_64 : Cond.selects (am_y 64).cls (am_y 64) (am_y 64) ∈ am_big := am_at 412 (by decide +kernel) rfl
theorem im_65 : Cond.instanceMethod (am_y 65) ∈ am_big := am_at 415 (by decide +kernel) rfl
theorem is_65 : Cond.selects (am_y 65).cls (am_y 65) (am_y 65) ∈ am_big := am_at 416 (by decide +kernel) rfl
theorem im_66 : Cond.instanceMethod (am_y 66) ∈ am_big := am_at 419 (by decide +kernel) rfl
theorem is_66 : Cond.selects (am_y 66).cls (am_y 66) (am_y 66) ∈ am_big := am_at 420 (by decide +kernel) rfl
theorem im_67 : Cond.instanceMethod (am_y 67) ∈ am_big := am_at 423 (by decide +kernel) rfl
theorem is_67 : Cond.selects (am_y 67).cls (am_y 67) (am_y 67) ∈ am_big := am_at 424 (by decide +kernel) rfl
theorem it_68 : Cond.static (am_y 68) ∈ am_big := am_at 427 (by decide +kernel) rfl
theorem im_69 : Cond.instanceMethod (am_y 69) ∈ am_big := am_at 430 (by decide +kernel) rfl
theorem is_69 : Cond.selects (am_y 69).cls (am_y 69) (am_y 69) ∈ am_big := am_at 431 (by decide +kernel) rfl
theorem im_70 : Cond.instanceMethod (am_y 70) ∈ am_big := am_at 434 (by decide +kernel) rfl
theorem is_70 : Cond.selects (am_y 70).cls (am_y 70) (am_y 70) ∈ am_big := am_at 435 (by decide +kernel) rfl
theorem im_71 : Cond.instanceMethod (am_y 71) ∈ am_big := am_at 438 (by decide +kernel) rfl
theorem is_71 : Cond.selects (am_y 71).cls (am_y 71) (am_y 71) ∈ am_big := am_at 439 (by decide +kernel) rfl
theorem im_72 : Cond.instanceMethod (am_y 72) ∈ am_big := am_at 442 (by decide +kernel) rfl
theorem is_72 : Cond.selects (am_y 72).cls (am_y 72) (am_y 72) ∈ am_big := am_at 443 (by decide +kernel) rfl
theorem im_73 : Cond.instanceMethod (am_y 73) ∈ am_big := am_at 446 (by decide +kernel) rfl
theorem is_73 : Cond.selects (am_y 73).cls (am_y 73) (am_y 73) ∈ am_big := am_at 447 (by decide +kernel) rfl
theorem it_74 : Cond.static (am_y 74) ∈ am_big := am_at 451 (by decide +kernel) rfl
theorem im_75 : Cond.instanceMethod (am_y 75) ∈ am_big := am_at 455 (by decide +kernel) rfl
theorem is_75 : Cond.selects (am_y 75).cls (am_y 75) (am_y 75) ∈ am_big := am_at 456 (by decide +kernel) rfl
theorem im_76 : Cond.instanceMethod (am_y 76) ∈ am_big := am_at 460 (by decide +kernel) rfl
theorem is_76 : Cond.selects (am_y 76).cls (am_y 76) (am_y 76) ∈ am_big := am_at 461 (by decide +kernel) rfl
theorem im_77 : Cond.instanceMethod (am_y 77) ∈ am_big := am_at 465 (by decide +kernel) rfl
theorem is_77 : Cond.selects (am_y 77).cls (am_y 77) (am_y 77) ∈ am_big := am_as 11 (by decide +kernel) rfl
theorem im_78 : Cond.instanceMethod (am_y 78) ∈ am_big := am_at 468 (by decide +kernel) rfl
theorem is_78 : Cond.selects (am_y 78).cls (am_y 78) (am_y 78) ∈ am_big := am_at 469 (by decide +kernel) rfl
theorem im_79 : Cond.instanceMethod (am_y 79) ∈ am_big := am_at 472 (by decide +kernel) rfl
theorem is_79 : Cond.selects (am_y 79).cls (am_y 79) (am_y 79) ∈ am_big := am_at 473 (by decide +kernel) rfl
theorem im_80 : Cond.instanceMethod (am_y 80) ∈ am_big := am_at 477 (by decide +kernel) rfl
theorem is_80 : Cond.selects (am_y 80).cls (am_y 80) (am_y 80) ∈ am_big := am_at 478 (by decide +kernel) rfl
theorem im_81 : Cond.instanceMethod (am_y 81) ∈ am_big := am_at 482 (by decide +kernel) rfl
theorem is_81 : Cond.selects (am_y 81).cls (am_y 81) (am_y 81) ∈ am_big := am_as 12 (by decide +kernel) rfl
theorem im_82 : Cond.instanceMethod (am_y 82) ∈ am_big := am_at 485 (by decide +kernel) rfl
theorem is_82 : Cond.selects (am_y 82).cls (am_y 82) (am_y 82) ∈ am_big := am_at 486 (by decide +kernel) rfl
theorem im_83 : Cond.instanceMethod (am_y 83) ∈ am_big := am_at 491 (by decide +kernel) rfl
theorem is_83 : Cond.selects (am_y 83).cls (am_y 83) (am_y 83) ∈ am_big := am_as 13 (by decide +kernel) rfl
theorem im_84 : Cond.instanceMethod (am_y 84) ∈ am_big := am_at 495 (by decide +kernel) rfl
theorem is_84 : Cond.selects (am_y 84).cls (am_y 84) (am_y 84) ∈ am_big := am_as 14 (by decide +kernel) rfl
theorem im_85 : Cond.instanceMethod (am_y 85) ∈ am_big := am_at 500 (by decide +kernel) rfl
theorem is_85 : Cond.selects (am_y 85).cls (am_y 85) (am_y 85) ∈ am_big := am_as 15 (by decide +kernel) rfl
theorem im_86 : Cond.instanceMethod (am_y 86) ∈ am_big := am_at 507 (by decide +kernel) rfl
theorem is_86 : Cond.selects (am_y 86).cls (am_y 86) (am_y 86) ∈ am_big := am_as 16 (by decide +kernel) rfl
theorem it_87 : Cond.static (am_y 87) ∈ am_big := am_at 510 (by decide +kernel) rfl
theorem im_88 : Cond.instanceMethod (am_y 88) ∈ am_big := am_at 513 (by decide +kernel) rfl
theorem is_88 : Cond.selects (am_y 88).cls (am_y 88) (am_y 88) ∈ am_big := am_at 514 (by decide +kernel) rfl
theorem im_89 : Cond.instanceMethod (am_y 89) ∈ am_big := am_at 518 (by decide +kernel) rfl
theorem is_89 : Cond.selects (am_y 89).cls (am_y 89) (am_y 89) ∈ am_big := am_at 519 (by decide +kernel) rfl
theorem im_90 : Cond.instanceMethod (am_y 90) ∈ am_big := am_at 523 (by decide +kernel) rfl
theorem is_90 : Cond.selects (am_y 90).cls (am_y 90) (am_y 90) ∈ am_big := am_as 17 (by decide +kernel) rfl
theorem it_91 : Cond.static (am_y 91) ∈ am_big := am_at 526 (by decide +kernel) rfl
theorem im_92 : Cond.instanceMethod (am_y 92) ∈ am_big := am_at 529 (by decide +kernel) rfl
theorem is_92 : Cond.selects (am_y 92).cls (am_y 92) (am_y 92) ∈ am_big := am_at 530 (by decide +kernel) rfl
theorem im_93 : Cond.instanceMethod (am_y 93) ∈ am_big := am_at 533 (by decide +kernel) rfl
theorem is_93 : Cond.selects (am_y 93).cls (am_y 93) (am_y 93) ∈ am_big := am_at 534 (by decide +kernel) rfl
theorem im_94 : Cond.instanceMethod (am_y 94) ∈ am_big := am_at 538 (by decide +kernel) rfl
theorem is_94 : Cond.selects (am_y 94).cls (am_y 94) (am_y 94) ∈ am_big := am_at 539 (by decide +kernel) rfl
theorem im_95 : Cond.instanceMethod (am_y 95) ∈ am_big := am_at 542 (by decide +kernel) rfl
theorem is_95 : Cond.selects (am_y 95).cls (am_y 95) (am_y 95) ∈ am_big := am_at 543 (by decide +kernel) rfl
theorem im_96 : Cond.instanceMethod (am_y 96) ∈ am_big := am_at 547 (by decide +kernel) rfl
theorem is_96 : Cond.selects (am_y 96).cls (am_y 96) (am_y 96) ∈ am_big := am_as 18 (by decide +kernel) rfl
theorem im_97 : Cond.instanceMethod (am_y 97) ∈ am_big := am_at 550 (by decide +kernel) rfl
theorem is_97 : Cond.selects (am_y 97).cls (am_y 97) (am_y 97) ∈ am_big := am_at 551 (by decide +kernel) rfl
theorem im_98 : Cond.instanceMethod (am_y 98) ∈ am_big := am_at 554 (by decide +kernel) rfl
theorem is_98 : Cond.selects (am_y 98).cls (am_y 98) (am_y 98) ∈ am_big := am_at 555 (by decide +kernel) rfl
theorem im_99 : Cond.instanceMethod (am_y 99) ∈ am_big := am_at 558 (by decide +kernel) rfl
theorem is_99 : Cond.selects (am_y 99).cls (am_y 99) (am_y 99) ∈ am_big := am_at 559 (by decide +kernel) rfl
theorem im_100 : Cond.instanceMethod (am_y 100) ∈ am_big := am_at 562 (by decide +kernel) rfl
theorem is_100 : Cond.selects (am_y 100).cls (am_y 100) (am_y 100) ∈ am_big := am_at 563 (by decide +kernel) rfl
theorem im_101 : Cond.instanceMethod (am_y 101) ∈ am_big := am_at 568 (by decide +kernel) rfl
theorem is_101 : Cond.selects (am_y 101).cls (am_y 101) (am_y 101) ∈ am_big := am_as 19 (by decide +kernel) rfl
theorem im_102 : Cond.instanceMethod (am_y 102) ∈ am_big := am_at 571 (by decide +kernel) rfl
theorem is_102 : Cond.selects (am_y 102).cls (am_y 102) (am_y 102) ∈ am_big := am_at 572 (by decide +kernel) rfl
theorem im_103 : Cond.instanceMethod (am_y 103) ∈ am_big := am_at 576 (by decide +kernel) rfl
theorem is_103 : Cond.selects (am_y 103).cls (am_y 103) (am_y 103) ∈ am_big := am_at 577 (by decide +kernel) rfl
theorem im_104 : Cond.instanceMethod (am_y 104) ∈ am_big := am_at 584 (by decide +kernel) rfl
theorem is_104 : Cond.selects (am_y 104).cls (am_y 104) (am_y 104) ∈ am_big := am_at 585 (by decide +kernel) rfl
theorem im_105 : Cond.instanceMethod (am_y 105) ∈ am_big := am_at 588 (by decide +kernel) rfl
theorem is_105 : Cond.selects (am_y 105).cls (am_y 105) (am_y 105) ∈ am_big := am_at 589 (by decide +kernel) rfl
theorem im_106 : Cond.instanceMethod (am_y 106) ∈ am_big := am_at 592 (by decide +kernel) rfl
theorem is_106 : Cond.selects (am_y 106).cls (am_y 106) (am_y 106) ∈ am_big := am_at 593 (by decide +kernel) rfl
theorem im_107 : Cond.instanceMethod (am_y 107) ∈ am_big := am_at 596 (by decide +kernel) rfl
theorem is_107 : Cond.selects (am_y 107).cls (am_y 107) (am_y 107) ∈ am_big := am_at 597 (by decide +kernel) rfl
theorem im_108 : Cond.instanceMethod (am_y 108) ∈ am_big := am_at 600 (by decide +kernel) rfl
theorem is_108 : Cond.selects (am_y 108).cls (am_y 108) (am_y 108) ∈ am_big := am_at 601 (by decide +kernel) rfl
theorem it_109 : Cond.static (am_y 109) ∈ am_big := am_at 604 (by decide +kernel) rfl
theorem im_110 : Cond.instanceMethod (am_y 110) ∈ am_big := am_at 608 (by decide +kernel) rfl
theorem is_110 : Cond.selects (am_y 110).cls (am_y 110) (am_y 110) ∈ am_big := am_as 20 (by decide +kernel) rfl
theorem im_111 : Cond.instanceMethod (am_y 111) ∈ am_big := am_at 611 (by decide +kernel) rfl
theorem is_111 : Cond.selects (am_y 111).cls (am_y 111) (am_y 111) ∈ am_big := am_at 612 (by decide +kernel) rfl
theorem im_112 : Cond.instanceMethod (am_y 112) ∈ am_big := am_at 615 (by decide +kernel) rfl
theorem is_112 : Cond.selects (am_y 112).cls (am_y 112) (am_y 112) ∈ am_big := am_at 616 (by decide +kernel) rfl
theorem im_113 : Cond.instanceMethod (am_y 113) ∈ am_big := am_at 619 (by decide +kernel) rfl
theorem is_113 : Cond.selects (am_y 113).cls (am_y 113) (am_y 113) ∈ am_big := am_at 620 (by decide +kernel) rfl
theorem it_114 : Cond.static (am_y 114) ∈ am_big := am_at 626 (by decide +kernel) rfl
theorem im_115 : Cond.instanceMethod (am_y 115) ∈ am_big := am_at 631 (by decide +kernel) rfl
theorem im_116 : Cond.instanceMethod (am_y 116) ∈ am_big := am_at 696 (by decide +kernel) rfl
theorem is_116 : Cond.selects (am_y 116).cls (am_y 116) (am_y 116) ∈ am_big := am_at 697 (by decide +kernel) rfl
theorem it_117 : Cond.static (am_y 117) ∈ am_big := am_at 700 (by decide +kernel) rfl
theorem it_118 : Cond.static (am_y 118) ∈ am_big := am_at 704 (by decide +kernel) rfl
theorem im_119 : Cond.instanceMethod (am_y 119) ∈ am_big := am_at 708 (by decide +kernel) rfl
theorem is_119 : Cond.selects (am_y 119).cls (am_y 119) (am_y 119) ∈ am_big := am_as 21 (by decide +kernel) rfl
theorem im_120 : Cond.instanceMethod (am_y 120) ∈ am_big := am_at 712 (by decide +kernel) rfl
theorem is_120 : Cond.selects (am_y 120).cls (am_y 120) (am_y 120) ∈ am_big := am_as 22 (by decide +kernel) rfl
theorem im_121 : Cond.instanceMethod (am_y 121) ∈ am_big := am_at 715 (by decide +kernel) rfl
theorem is_121 : Cond.selects (am_y 121).cls (am_y 121) (am_y 121) ∈ am_big := am_at 716 (by decide +kernel) rfl
theorem im_122 : Cond.instanceMethod (am_y 122) ∈ am_big := am_at 719 (by decide +kernel) rfl
theorem is_122 : Cond.selects (am_y 122).cls (am_y 122) (am_y 122) ∈ am_big := am_at 720 (by decide +kernel) rfl
theorem im_123 : Cond.instanceMethod (am_y 123) ∈ am_big := am_at 724 (by decide +kernel) rfl
theorem is_123 : Cond.selects (am_y 123).cls (am_y 123) (am_y 123) ∈ am_big := am_as 23 (by decide +kernel) rfl
theorem im_124 : Cond.instanceMethod (am_y 124) ∈ am_big := am_at 728 (by decide +kernel) rfl
theorem is_124 : Cond.selects (am_y 124).cls (am_y 124) (am_y 124) ∈ am_big := am_at 729 (by decide +kernel) rfl
theorem im_125 : Cond.instanceMethod (am_y 125) ∈ am_big := am_at 732 (by decide +kernel) rfl
theorem is_125 : Cond.selects (am_y 125).cls (am_y 125) (am_y 125) ∈ am_big := am_at 733 (by decide +kernel) rfl
theorem it_126 : Cond.static (am_y 126) ∈ am_big := am_at 736 (by decide +kernel) rfl
theorem im_127 : Cond.instanceMethod (am_y 127) ∈ am_big := am_at 739 (by decide +kernel) rfl
theorem is_127 : Cond.selects (am_y 127).cls (am_y 127) (am_y 127) ∈ am_big := am_at 740 (by decide +kernel) rfl
theorem im_128 : Cond.instanceMethod (am_y 128) ∈ am_big := am_at 743 (by decide +kernel) rfl
theorem is_128 : Cond.selects (am_y 128).cls (am_y 128) (am_y 128) ∈ am_big := am_at 744 (by decide +kernel) rfl
theorem it_129 : Cond.static (am_y 129) ∈ am_big := am_at 747 (by decide +kernel) rfl
theorem im_130 : Cond.instanceMethod (am_y 130) ∈ am_big := am_at 751 (by decide +kernel) rfl
theorem is_130 : Cond.selects (am_y 130).cls (am_y 130) (am_y 130) ∈ am_big := am_at 752 (by decide +kernel) rfl
theorem im_131 : Cond.instanceMethod (am_y 131) ∈ am_big := am_at 755 (by decide +kernel) rfl
theorem is_131 : Cond.selects (am_y 131).cls (am_y 131) (am_y 131) ∈ am_big := am_at 756 (by decide +kernel) rfl
theorem im_132 : Cond.instanceMethod (am_y 132) ∈ am_big := am_at 760 (by decide +kernel) rfl
theorem is_132 : Cond.selects (am_y 132).cls (am_y 132) (am_y 132) ∈ am_big := am_as 24 (by decide +kernel) rfl
theorem im_133 : Cond.instanceMethod (am_y 133) ∈ am_big := am_at 764 (by decide +kernel) rfl
theorem is_133 : Cond.selects (am_y 133).cls (am_y 133) (am_y 133) ∈ am_big := am_as 25 (by decide +kernel) rfl
theorem im_134 : Cond.instanceMethod (am_y 134) ∈ am_big := am_at 768 (by decide +kernel) rfl
theorem is_134 : Cond.selects (am_y 134).cls (am_y 134) (am_y 134) ∈ am_big := am_as 26 (by decide +kernel) rfl
theorem im_135 : Cond.instanceMethod (am_y 135) ∈ am_big := am_at 772 (by decide +kernel) rfl
theorem is_135 : Cond.selects (am_y 135).cls (am_y 135) (am_y 135) ∈ am_big := am_as 27 (by decide +kernel) rfl
theorem im_136 : Cond.instanceMethod (am_y 136) ∈ am_big := am_at 776 (by decide +kernel) rfl
theorem is_136 : Cond.selects (am_y 136).cls (am_y 136) (am_y 136) ∈ am_big := am_as 28 (by decide +kernel) rfl
theorem im_137 : Cond.instanceMethod (am_y 137) ∈ am_big := am_at 780 (by decide +kernel) rfl
theorem is_137 : Cond.selects (am_y 137).cls (am_y 137) (am_y 137) ∈ am_big := am_as 29 (by decide +kernel) rfl
theorem im_138 : Cond.instanceMethod (am_y 138) ∈ am_big := am_at 786 (by decide +kernel) rfl
theorem is_138 : Cond.selects (am_y 138).cls (am_y 138) (am_y 138) ∈ am_big := am_as 30 (by decide +kernel) rfl
theorem it_139 : Cond.static (am_y 139) ∈ am_big := am_at 789 (by decide +kernel) rfl
theorem im_140 : Cond.instanceMethod (am_y 140) ∈ am_big := am_at 792 (by decide +kernel) rfl
theorem is_140 : Cond.selects (am_y 140).cls (am_y 140) (am_y 140) ∈ am_big := am_at 793 (by decide +kernel) rfl
theorem im_141 : Cond.instanceMethod (am_y 141) ∈ am_big := am_at 797 (by decide +kernel) rfl
theorem is_141 : Cond.selects (am_y 141).cls (am_y 141) (am_y 141) ∈ am_big := am_as 31 (by decide +kernel) rfl
theorem im_142 : Cond.instanceMethod (am_y 142) ∈ am_big := am_at 800 (by decide +kernel) rfl
theorem is_142 : Cond.selects (am_y 142).cls (am_y 142) (am_y 142) ∈ am_big := am_at 801 (by decide +kernel) rfl
theorem im_143 : Cond.instanceMethod (am_y 143) ∈ am_big := am_at 805 (by decide +kernel) rfl
theorem is_143 : Cond.selects (am_y 143).cls (am_y 143) (am_y 143) ∈ am_big := am_as 32 (by decide +kernel) rfl
theorem im_144 : Cond.instanceMethod (am_y 144) ∈ am_big := am_at 810 (by decide +kernel) rfl
theorem is_144 : Cond.selects (am_y 144).cls (am_y 144) (am_y 144) ∈ am_big := am_as 33 (by decide +kernel) rfl
theorem im_145 : Cond.instanceMethod (am_y 145) ∈ am_big := am_at 814 (by decide +kernel) rfl
theorem is_145 : Cond.selects (am_y 145).cls (am_y 145) (am_y 145) ∈ am_big := am_as 34 (by decide +kernel) rfl
theorem im_146 : Cond.instanceMethod (am_y 146) ∈ am_big := am_at 818 (by decide +kernel) rfl
theorem is_146 : Cond.selects (am_y 146).cls (am_y 146) (am_y 146) ∈ am_big := am_as 35 (by decide +kernel) rfl
theorem im_147 : Cond.instanceMethod (am_y 147) ∈ am_big := am_at 822 (by decide +kernel) rfl
theorem is_147 : Cond.selects (am_y 147).cls (am_y 147) (am_y 147) ∈ am_big := am_as 36 (by decide +kernel) rfl
theorem im_148 : Cond.instanceMethod (am_y 148) ∈ am_big := am_at 825 (by decide +kernel) rfl
theorem is_148 : Cond.selects (am_y 148).cls (am_y 148) (am_y 148) ∈ am_big := am_at 826 (by decide +kernel) rfl
theorem im_149 : Cond.instanceMethod (am_y 149) ∈ am_big := am_at 830 (by decide +kernel) rfl
theorem is_149 : Cond.selects (am_y 149).cls (am_y 149) (am_y 149) ∈ am_big := am_as 37 (by decide +kernel) rfl
theorem im_150 : Cond.instanceMethod (am_y 150) ∈ am_big := am_at 834 (by decide +kernel) rfl
theorem is_150 : Cond.selects (am_y 150).cls (am_y 150) (am_y 150) ∈ am_big := am_as 38 (by decide +kernel) rfl
theorem im_151 : Cond.instanceMethod (am_y 151) ∈ am_big := am_at 838 (by decide +kernel) rfl
theorem is_151 : Cond.selects (am_y 151).cls (am_y 151) (am_y 151) ∈ am_big := am_as 39 (by decide +kernel) rfl
theorem im_152 : Cond.instanceMethod (am_y 152) ∈ am_big := am_at 842 (by decide +kernel) rfl
theorem is_152 : Cond.selects (am_y 152).cls (am_y 152) (am_y 152) ∈ am_big := am_as 40 (by decide +kernel) rfl
theorem it_153 : Cond.static (am_y 153) ∈ am_big := am_at 845 (by decide +kernel) rfl
theorem im_154 : Cond.instanceMethod (am_y 154) ∈ am_big := am_at 848 (by decide +kernel) rfl
theorem is_154 : Cond.selects (am_y 154).cls (am_y 154) (am_y 154) ∈ am_big := am_at 849 (by decide +kernel) rfl
theorem im_155 : Cond.instanceMethod (am_y 155) ∈ am_big := am_at 853 (by decide +kernel) rfl
theorem is_155 : Cond.selects (am_y 155).cls (am_y 155) (am_y 155) ∈ am_big := am_as 41 (by decide +kernel) rfl
theorem im_156 : Cond.instanceMethod (am_y 156) ∈ am_big := am_at 856 (by decide +kernel) rfl
theorem is_156 : Cond.selects (am_y 156).cls (am_y 156) (am_y 156) ∈ am_big := am_at 857 (by decide +kernel) rfl
theorem it_157 : Cond.static (am_y 157) ∈ am_big := am_at 860 (by decide +kernel) rfl
theorem im_158 : Cond.instanceMethod (am_y 158) ∈ am_big := am_at 864 (by decide +kernel) rfl
theorem is_158 : Cond.selects (am_y 158).cls (am_y 158) (am_y 158) ∈ am_big := am_at 865 (by decide +kernel) rfl
theorem im_159 : Cond.instanceMethod (am_y 159) ∈ am_big := am_at 869 (by decide +kernel) rfl
theorem is_159 : Cond.selects (am_y 159).cls (am_y 159) (am_y 159) ∈ am_big := am_as 42 (by decide +kernel) rfl
theorem im_160 : Cond.instanceMethod (am_y 160) ∈ am_big := am_at 873 (by decide +kernel) rfl
theorem is_160 : Cond.selects (am_y 160).cls (am_y 160) (am_y 160) ∈ am_big := am_as 43 (by decide +kernel) rfl
theorem im_161 : Cond.instanceMethod (am_y 161) ∈ am_big := am_at 877 (by decide +kernel) rfl
theorem is_161 : Cond.selects (am_y 161).cls (am_y 161) (am_y 161) ∈ am_big := am_as 44 (by decide +kernel) rfl
theorem im_162 : Cond.instanceMethod (am_y 162) ∈ am_big := am_at 880 (by decide +kernel) rfl
theorem is_162 : Cond.selects (am_y 162).cls (am_y 162) (am_y 162) ∈ am_big := am_at 881 (by decide +kernel) rfl
theorem im_163 : Cond.instanceMethod (am_y 163) ∈ am_big := am_at 884 (by decide +kernel) rfl
theorem is_163 : Cond.selects (am_y 163).cls (am_y 163) (am_y 163) ∈ am_big := am_at 885 (by decide +kernel) rfl
theorem im_164 : Cond.instanceMethod (am_y 164) ∈ am_big := am_at 888 (by decide +kernel) rfl
theorem is_164 : Cond.selects (am_y 164).cls (am_y 164) (am_y 164) ∈ am_big := am_at 889 (by decide +kernel) rfl
theorem im_165 : Cond.instanceMethod (am_y 165) ∈ am_big := am_at 892 (by decide +kernel) rfl
theorem is_165 : Cond.selects (am_y 165).cls (am_y 165) (am_y 165) ∈ am_big := am_at 893 (by decide +kernel) rfl
theorem im_166 : Cond.instanceMethod (am_y 166) ∈ am_big := am_at 896 (by decide +kernel) rfl
theorem is_166 : Cond.selects (am_y 166).cls (am_y 166) (am_y 166) ∈ am_big := am_at 897 (by decide +kernel) rfl
theorem im_167 : Cond.instanceMethod (am_y 167) ∈ am_big := am_at 900 (by decide +kernel) rfl
theorem is_167 : Cond.selects (am_y 167).cls (am_y 167) (am_y 167) ∈ am_big := am_at 901 (by decide +kernel) rfl
theorem im_168 : Cond.instanceMethod (am_y 168) ∈ am_big := am_at 904 (by decide +kernel) rfl
theorem is_168 : Cond.selects (am_y 168).cls (am_y 168) (am_y 168) ∈ am_big := am_at 905 (by decide +kernel) rfl
theorem it_169 : Cond.static (am_y 169) ∈ am_big := am_at 908 (by decide +kernel) rfl
theorem im_170 : Cond.instanceMethod (am_y 170) ∈ am_big := am_at 911 (by decide +kernel) rfl
theorem is_170 : Cond.selects (am_y 170).cls (am_y 170) (am_y 170) ∈ am_big := am_at 912 (by decide +kernel) rfl
theorem im_171 : Cond.instanceMethod (am_y 171) ∈ am_big := am_at 916 (by decide +kernel) rfl
theorem is_171 : Cond.selects (am_y 171).cls (am_y 171) (am_y 171) ∈ am_big := am_as 45 (by decide +kernel) rfl
theorem im_172 : Cond.instanceMethod (am_y 172) ∈ am_big := am_at 920 (by decide +kernel) rfl
theorem is_172 : Cond.selects (am_y 172).cls (am_y 172) (am_y 172) ∈ am_big := am_as 46 (by decide +kernel) rfl
theorem im_173 : Cond.instanceMethod (am_y 173) ∈ am_big := am_at 923 (by decide +kernel) rfl
theorem is_173 : Cond.selects (am_y 173).cls (am_y 173) (am_y 173) ∈ am_big := am_at 924 (by decide +kernel) rfl
theorem im_174 : Cond.instanceMethod (am_y 174) ∈ am_big := am_at 927 (by decide +kernel) rfl
theorem is_174 : Cond.selects (am_y 174).cls (am_y 174) (am_y 174) ∈ am_big := am_at 928 (by decide +kernel) rfl
theorem im_175 : Cond.instanceMethod (am_y 175) ∈ am_big := am_at 932 (by decide +kernel) rfl
theorem is_175 : Cond.selects (am_y 175).cls (am_y 175) (am_y 175) ∈ am_big := am_as 47 (by decide +kernel) rfl
theorem im_176 : Cond.instanceMethod (am_y 176) ∈ am_big := am_at 937 (by decide +kernel) rfl
theorem is_176 : Cond.selects (am_y 176).cls (am_y 176) (am_y 176) ∈ am_big := am_as 48 (by decide +kernel) rfl
theorem im_177 : Cond.instanceMethod (am_y 177) ∈ am_big := am_at 941 (by decide +kernel) rfl
theorem is_177 : Cond.selects (am_y 177).cls (am_y 177) (am_y 177) ∈ am_big := am_as 49 (by decide +kernel) rfl
theorem im_178 : Cond.instanceMethod (am_y 178) ∈ am_big := am_at 945 (by decide +kernel) rfl
theorem is_178 : Cond.selects (am_y 178).cls (am_y 178) (am_y 178) ∈ am_big := am_as 50 (by decide +kernel) rfl
theorem im_179 : Cond.instanceMethod (am_y 179) ∈ am_big := am_at 949 (by decide +kernel) rfl
theorem is_179 : Cond.selects (am_y 179).cls (am_y 179) (am_y 179) ∈ am_big := am_as 51 (by decide +kernel) rfl
theorem im_180 : Cond.instanceMethod (am_y 180) ∈ am_big := am_at 952 (by decide +kernel) rfl
theorem is_180 : Cond.selects (am_y 180).cls (am_y 180) (am_y 180) ∈ am_big := am_at 953 (by decide +kernel) rfl
theorem im_181 : Cond.instanceMethod (am_y 181) ∈ am_big := am_at 956 (by decide +kernel) rfl
theorem is_181 : Cond.selects (am_y 181).cls (am_y 181) (am_y 181) ∈ am_big := am_at 957 (by decide +kernel) rfl
theorem im_182 : Cond.instanceMethod (am_y 182) ∈ am_big := am_at 960 (by decide +kernel) rfl
theorem is_182 : Cond.selects (am_y 182).cls (am_y 182) (am_y 182) ∈ am_big := am_at 961 (by decide +kernel) rfl
theorem im_183 : Cond.instanceMethod (am_y 183) ∈ am_big := am_at 966 (by decide +kernel) rfl
theorem is_183 : Cond.selects (am_y 183).cls (am_y 183) (am_y 183) ∈ am_big := am_as 52 (by decide +kernel) rfl
theorem im_184 : Cond.instanceMethod (am_y 184) ∈ am_big := am_at 969 (by decide +kernel) rfl
theorem is_184 : Cond.selects (am_y 184).cls (am_y 184) (am_y 184) ∈ am_big := am_at 970 (by decide +kernel) rfl
theorem im_185 : Cond.instanceMethod (am_y 185) ∈ am_big := am_at 974 (by decide +kernel) rfl
theorem is_185 : Cond.selects (am_y 185).cls (am_y 185) (am_y 185) ∈ am_big := am_as 53 (by decide +kernel) rfl
theorem im_186 : Cond.instanceMethod (am_y 186) ∈ am_big := am_at 978 (by decide +kernel) rfl
theorem is_186 : Cond.selects (am_y 186).cls (am_y 186) (am_y 186) ∈ am_big := am_as 54 (by decide +kernel) rfl
theorem im_187 : Cond.instanceMethod (am_y 187) ∈ am_big := am_at 981 (by decide +kernel) rfl
theorem is_187 : Cond.selects (am_y 187).cls (am_y 187) (am_y 187) ∈ am_big := am_at 982 (by decide +kernel) rfl
theorem im_188 : Cond.instanceMethod (am_y 188) ∈ am_big := am_at 985 (by decide +kernel) rfl
theorem is_188 : Cond.selects (am_y 188).cls (am_y 188) (am_y 188) ∈ am_big := am_at 986 (by decide +kernel) rfl
theorem im_189 : Cond.instanceMethod (am_y 189) ∈ am_big := am_at 989 (by decide +kernel) rfl
theorem is_189 : Cond.selects (am_y 189).cls (am_y 189) (am_y 189) ∈ am_big := am_at 990 (by decide +kernel) rfl
theorem im_190 : Cond.instanceMethod (am_y 190) ∈ am_big := am_at 993 (by decide +kernel) rfl
theorem is_190 : Cond.selects (am_y 190).cls (am_y 190) (am_y 190) ∈ am_big := am_at 994 (by decide +kernel) rfl
theorem im_191 : Cond.instanceMethod (am_y 191) ∈ am_big := am_at 998 (by decide +kernel) rfl
theorem is_191 : Cond.selects (am_y 191).cls (am_y 191) (am_y 191) ∈ am_big := am_as 55 (by decide +kernel) rfl
theorem im_192 : Cond.instanceMethod (am_y 192) ∈ am_big := am_at 1001 (by decide +kernel) rfl
theorem is_192 : Cond.selects (am_y 192).cls (am_y 192) (am_y 192) ∈ am_big := am_at 1002 (by decide +kernel) rfl
theorem im_193 : Cond.instanceMethod (am_y 193) ∈ am_big := am_at 1010 (by decide +kernel) rfl
theorem is_193 : Cond.selects (am_y 193).cls (am_y 193) (am_y 193) ∈ am_big := am_at 1011 (by decide +kernel) rfl
theorem im_194 : Cond.instanceMethod (am_y 194) ∈ am_big := am_at 1014 (by decide +kernel) rfl
theorem is_194 : Cond.selects (am_y 194).cls (am_y 194) (am_y 194) ∈ am_big := am_at 1015 (by decide +kernel) rfl
theorem im_195 : Cond.instanceMethod (am_y 195) ∈ am_big := am_at 1018 (by decide +kernel) rfl
theorem is_195 : Cond.selects (am_y 195).cls (am_y 195) (am_y 195) ∈ am_big := am_at 1019 (by decide +kernel) rfl
theorem im_196 : Cond.instanceMethod (am_y 196) ∈ am_big := am_at 1022 (by decide +kernel) rfl
theorem is_196 : Cond.selects (am_y 196).cls (am_y 196) (am_y 196) ∈ am_big := am_at 1023 (by decide +kernel) rfl
theorem im_197 : Cond.instanceMethod (am_y 197) ∈ am_big := am_at 1027 (by decide +kernel) rfl
theorem is_197 : Cond.selects (am_y 197).cls (am_y 197) (am_y 197) ∈ am_big := am_as 56 (by decide +kernel) rfl
theorem it_198 : Cond.static (am_y 198) ∈ am_big := am_at 1030 (by decide +kernel) rfl
theorem im_199 : Cond.instanceMethod (am_y 199) ∈ am_big := am_at 1033 (by decide +kernel) rfl
theorem is_199 : Cond.selects (am_y 199).cls (am_y 199) (am_y 199) ∈ am_big := am_at 1034 (by decide +kernel) rfl
theorem im_200 : Cond.instanceMethod (am_y 200) ∈ am_big := am_at 1037 (by decide +kernel) rfl
theorem is_200 : Cond.selects (am_y 200).cls (am_y 200) (am_y 200) ∈ am_big := am_at 1038 (by decide +kernel) rfl
theorem im_201 : Cond.instanceMethod (am_y 201) ∈ am_big := am_at 1041 (by decide +kernel) rfl
theorem is_201 : Cond.selects (am_y 201).cls (am_y 201) (am_y 201) ∈ am_big := am_at 1042 (by decide +kernel) rfl
theorem im_202 : Cond.instanceMethod (am_y 202) ∈ am_big := am_at 1048 (by decide +kernel) rfl
theorem is_202 : Cond.selects (am_y 202).cls (am_y 202) (am_y 202) ∈ am_big := am_as 57 (by decide +kernel) rfl
theorem pl_0 : am_pl 0 0 := ⟨by decide, by decide +kernel, by decide +kernel, by decide +kernel, by decide +kernel, in_S⟩
theorem pl_2 : am_pl 2 0 := ⟨by decide, by decide +kernel, by decide +kernel, by decide +kernel, by decide +kernel, in_C⟩
theorem pl_3 : am_pl 3 0 := ⟨by decide, by decide +kernel, by decide +kernel, by decide +kernel, by decide +kernel, in_P⟩
theorem pl_4 : am_pl 4 1 := ⟨by decide, by decide +kernel, by decide +kernel, by decide +kernel, by decide +kernel, in_R⟩
theorem pl_5 : am_pl 5 2 := ⟨by decide, by decide +kernel, by decide +kernel, by decide +kernel, by decide +kernel, in_java_lang_Math⟩
theorem pl_6 : am_pl 6 2 := ⟨by decide, by decide +kernel, by decide +kernel, by decide +kernel, by decide +kernel, in_S⟩
theorem pl_7 : am_pl 7 1 := ⟨by decide, by decide +kernel, by decide +kernel, by decide +kernel, by decide +kernel, in_S⟩
theorem pl_8 : am_pl 8 1 := ⟨by decide, by decide +kernel, by decide +kernel, by decide +kernel, by decide +kernel, in_S⟩
theorem pl_9 : am_pl 9 2 := ⟨by decide, by decide +kernel, by decide +kernel, by decide +kernel, by decide +kernel, in_R⟩
theorem pl_10 : am_pl 10 2 := ⟨by decide, by decide +kernel, by decide +kernel, by decide +kernel, by decide +kernel, in_java_lang_Math⟩
theorem pl_11 : am_pl 11 2 := ⟨by decide, by decide +kernel, by decide +kernel, by decide +kernel, by decide +kernel, in_java_util_Arrays⟩
theorem pl_12 : am_pl 12 3 := ⟨by decide, by decide +kernel, by decide +kernel, by decide +kernel, by decide +kernel, in_S⟩
theorem pl_13 : am_pl 13 2 := ⟨by decide, by decide +kernel, by decide +kernel, by decide +kernel, by decide +kernel, in_S⟩
theorem pl_14 : am_pl 14 0 := ⟨by decide, by decide +kernel, by decide +kernel, by decide +kernel, by decide +kernel, in_R⟩
theorem pl_15 : am_pl 15 1 := ⟨by decide, by decide +kernel, by decide +kernel, by decide +kernel, by decide +kernel, in_R⟩
theorem pl_16 : am_pl 16 2 := ⟨by decide, by decide +kernel, by decide +kernel, by decide +kernel, by decide +kernel, in_S⟩
theorem pl_17 : am_pl 17 1 := ⟨by decide, by decide +kernel, by decide +kernel, by decide +kernel, by decide +kernel, in_S⟩
theorem pl_18 : am_pl 18 0 := ⟨by decide, by decide +kernel, by decide +kernel, by decide +kernel, by decide +kernel, in_R⟩
theorem pl_19 : am_pl 19 5 := ⟨by decide, by decide +kernel, by decide +kernel, by decide +kernel, by decide +kernel, in_S⟩
theorem pl_20 : am_pl 20 2 := ⟨by decide, by decide +kernel, by decide +kernel, by decide +kernel, by decide +kernel, in_R⟩
theorem pl_21 : am_pl 21 1 := ⟨by decide, by decide +kernel, by decide +kernel, by decide +kernel, by decide +kernel, in_S⟩
theorem pl_22 : am_pl 22 2 := ⟨by decide, by decide +kernel, by decide +kernel, by decide +kernel, by decide +kernel, in_S⟩
theorem pl_23 : am_pl 23 1 := ⟨by decide, by decide +kernel, by decide +kernel, by decide +kernel, by decide +kernel, in_S⟩
theorem pl_24 : am_pl 24 3 := ⟨by decide, by decide +kernel, by decide +kernel, by decide +kernel, by decide +kernel, in_S⟩
theorem pl_25 : am_pl 25 1 := ⟨by decide, by decide +kernel, by decide +kernel, by decide +kernel, by decide +kernel, in_S⟩
theorem pl_26 : am_pl 26 2 := ⟨by decide, by decide +kernel, by decide +kernel, by decide +kernel, by decide +kernel, in_D⟩
theorem pl_27 : am_pl 27 0 := ⟨by decide, by decide +kernel, by decide +kernel, by decide +kernel, by decide +kernel, in_C⟩
theorem pl_28 : am_pl 28 2 := ⟨by decide, by decide +kernel, by decide +kernel, by decide +kernel, by decide +kernel, in_D⟩
theorem pl_29 : am_pl 29 2 := ⟨by decide, by decide +kernel, by decide +kernel, by decide +kernel, by decide +kernel, in_D⟩
theorem pl_30 : am_pl 30 1 := ⟨by decide, by decide +kernel, by decide +kernel, by decide +kernel, by decide +kernel, in_D⟩
theorem pl_31 : am_pl 31 1 := ⟨by decide, by decide +kernel, by decide +kernel, by decide +kernel, by decide +kernel, in_S⟩
theorem pl_32 : am_pl 32 1 := ⟨by decide, by decide +kernel, by decide +kernel, by decide +kernel, by decide +kernel, in_C⟩
theorem pl_33 : am_pl 33 3 := ⟨by decide, by decide +kernel, by decide +kernel, by decide +kernel, by decide +kernel, in_C⟩
theorem pl_34 : am_pl 34 3 := ⟨by decide, by decide +kernel, by decide +kernel, by decide +kernel, by decide +kernel, in_D⟩
theorem pl_35 : am_pl 35 1 := ⟨by decide, by decide +kernel, by decide +kernel, by decide +kernel, by decide +kernel, in_D⟩
theorem pl_36 : am_pl 36 3 := ⟨by decide, by decide +kernel, by decide +kernel, by decide +kernel, by decide +kernel, in_C⟩
theorem pl_37 : am_pl 37 1 := ⟨by decide, by decide +kernel, by decide +kernel, by decide +kernel, by decide +kernel, in_S⟩
theorem pl_38 : am_pl 38 1 := ⟨by decide, by decide +kernel, by decide +kernel, by decide +kernel, by decide +kernel, in_C⟩
theorem pl_39 : am_pl 39 1 := ⟨by decide, by decide +kernel, by decide +kernel, by decide +kernel, by decide +kernel, in_C⟩
theorem pl_40 : am_pl 40 1 := ⟨by decide, by decide +kernel, by decide +kernel, by decide +kernel, by decide +kernel, in_C⟩
theorem pl_41 : am_pl 41 1 := ⟨by decide, by decide +kernel, by decide +kernel, by decide +kernel, by decide +kernel, in_C⟩
theorem pl_42 : am_pl 42 1 := ⟨by decide, by decide +kernel, by decide +kernel, by decide +kernel, by decide +kernel, in_C⟩
theorem pl_43 : am_pl 43 2 := ⟨by decide, by decide +kernel, by decide +kernel, by decide +kernel, by decide +kernel, in_C⟩
theorem pl_44 : am_pl 44 2 := ⟨by decide, by decide +kernel, by decide +kernel, by decide +kernel, by decide +kernel, in_S⟩
theorem pl_45 : am_pl 45 1 := ⟨by decide, by decide +kernel, by decide +kernel, by decide +kernel, by decide +kernel, in_S⟩
theorem pl_46 : am_pl 46 2 := ⟨by decide, by decide +kernel, by decide +kernel, by decide +kernel, by decide +kernel, in_S⟩
theorem pl_47 : am_pl 47 2 := ⟨by decide, by decide +kernel, by decide +kernel, by decide +kernel, by decide +kernel, in_S⟩
theorem pl_48 : am_pl 48 1 := ⟨by decide, by decide +kernel, by decide +kernel, by decide +kernel, by decide +kernel, in_S⟩
theorem pl_49 : am_pl 49 2 := ⟨by decide, by decide +kernel, by decide +kernel, by decide +kernel, by decide +kernel, in_S⟩
theorem pl_50 : am_pl 50 1 := ⟨by decide, by decide +kernel, by decide +kernel, by decide +kernel, by decide +kernel, in_C⟩
theorem pl_51 : am_pl 51 2 := ⟨by decide, by decide +kernel, by decide +kernel, by decide +kernel, by decide +kernel, in_C⟩
theorem pl_52 : am_pl 52 2 := ⟨by decide, by decide +kernel, by decide +kernel, by decide +kernel, by decide +kernel, in_C⟩
theorem pl_53 : am_pl 53 2 := ⟨by decide, by decide +kernel, by decide +kernel, by decide +kernel, by decide +kernel, in_S⟩
theorem pl_54 : am_pl 54 1 := ⟨by decide, by decide +kernel, by decide +kernel, by decide +kernel, by decide +kernel, in_C⟩
theorem pl_55 : am_pl 55 1 := ⟨by decide, by decide +kernel, by decide +kernel, by decide +kernel, by decide +kernel, in_J⟩
theorem pl_56 : am_pl 56 1 := ⟨by decide, by decide +kernel, by decide +kernel, by decide +kernel, by decide +kernel, in_C⟩
theorem pl_57 : am_pl 57 2 := ⟨by decide, by decide +kernel, by decide +kernel, by decide +kernel, by decide +kernel, in_S⟩
theorem pl_58 : am_pl 58 2 := ⟨by decide, by decide +kernel, by decide +kernel, by decide +kernel, by decide +kernel, in_S⟩
theorem pl_59 : am_pl 59 2 := ⟨by decide, by decide +kernel, by decide +kernel, by decide +kernel, by decide +kernel, in_S⟩
theorem pl_60 : am_pl 60 2 := ⟨by decide, by decide +kernel, by decide +kernel, by decide +kernel, by decide +kernel, in_C⟩
theorem pl_61 : am_pl 61 2 := ⟨by decide, by decide +kernel, by decide +kernel, by decide +kernel, by decide +kernel, in_C⟩
theorem pl_62 : am_pl 62 2 := ⟨by decide, by decide +kernel, by decide +kernel, by decide +kernel, by decide +kernel, in_C⟩
theorem pl_63 : am_pl 63 0 := ⟨by decide, by decide +kernel, by decide +kernel, by decide +kernel, by decide +kernel, in_C⟩
theorem pl_64 : am_pl 64 1 := ⟨by decide, by decide +kernel, by decide +kernel, by decide +kernel, by decide +kernel, in_S⟩
theorem pl_65 : am_pl 65 1 := ⟨by decide, by decide +kernel, by decide +kernel, by decide +kernel, by decide +kernel, in_S⟩
theorem pl_66 : am_pl 66 1 := ⟨by decide, by decide +kernel, by decide +kernel, by decide +kernel, by decide +kernel, in_C⟩
theorem pl_67 : am_pl 67 1 := ⟨by decide, by decide +kernel, by decide +kernel, by decide +kernel, by decide +kernel, in_S⟩
theorem pl_68 : am_pl 68 1 := ⟨by decide, by decide +kernel, by decide +kernel, by decide +kernel, by decide +kernel, in_S⟩
theorem pl_69 : am_pl 69 1 := ⟨by decide, by decide +kernel, by decide +kernel, by decide +kernel, by decide +kernel, in_S⟩
theorem pl_70 : am_pl 70 1 := ⟨by decide, by decide +kernel, by decide +kernel, by decide +kernel, by decide +kernel, in_S⟩
theorem pl_71 : am_pl 71 1 := ⟨by decide, by decide +kernel, by decide +kernel, by decide +kernel, by decide +kernel, in_S⟩
theorem pl_72 : am_pl 72 0 := ⟨by decide, by decide +kernel, by decide +kernel, by decide +kernel, by decide +kernel, in_S⟩
theorem pl_73 : am_pl 73 1 := ⟨by decide, by decide +kernel, by decide +kernel, by decide +kernel, by decide +kernel, in_C⟩
theorem pl_74 : am_pl 74 1 := ⟨by decide, by decide +kernel, by decide +kernel, by decide +kernel, by decide +kernel, in_J⟩
theorem pl_75 : am_pl 75 1 := ⟨by decide, by decide +kernel, by decide +kernel, by decide +kernel, by decide +kernel, in_S⟩
theorem pl_76 : am_pl 76 1 := ⟨by decide, by decide +kernel, by decide +kernel, by decide +kernel, by decide +kernel, in_S⟩
theorem pl_77 : am_pl 77 1 := ⟨by decide, by decide +kernel, by decide +kernel, by decide +kernel, by decide +kernel, in_S⟩
theorem pl_78 : am_pl 78 3 := ⟨by decide, by decide +kernel, by decide +kernel, by decide +kernel, by decide +kernel, in_S⟩
theorem pl_79 : am_pl 79 2 := ⟨by decide, by decide +kernel, by decide +kernel, by decide +kernel, by decide +kernel, in_P⟩
theorem pl_80 : am_pl 80 2 := ⟨by decide, by decide +kernel, by decide +kernel, by decide +kernel, by decide +kernel, in_P⟩
theorem pl_81 : am_pl 81 1 := ⟨by decide, by decide +kernel, by decide +kernel, by decide +kernel, by decide +kernel, in_S⟩
theorem pl_82 : am_pl 82 2 := ⟨by decide, by decide +kernel, by decide +kernel, by decide +kernel, by decide +kernel, in_P⟩
theorem pl_83 : am_pl 83 2 := ⟨by decide, by decide +kernel, by decide +kernel, by decide +kernel, by decide +kernel, in_P⟩
theorem pl_84 : am_pl 84 0 := ⟨by decide, by decide +kernel, by decide +kernel, by decide +kernel, by decide +kernel, in_P⟩
theorem pl_85 : am_pl 85 2 := ⟨by decide, by decide +kernel, by decide +kernel, by decide +kernel, by decide +kernel, in_P⟩
theorem pl_86 : am_pl 86 1 := ⟨by decide, by decide +kernel, by decide +kernel, by decide +kernel, by decide +kernel, in_P⟩
theorem pl_87 : am_pl 87 1 := ⟨by decide, by decide +kernel, by decide +kernel, by decide +kernel, by decide +kernel, in_S⟩
theorem pl_88 : am_pl 88 1 := ⟨by decide, by decide +kernel, by decide +kernel, by decide +kernel, by decide +kernel, in_C⟩
theorem pl_89 : am_pl 89 3 := ⟨by decide, by decide +kernel, by decide +kernel, by decide +kernel, by decide +kernel, in_S⟩
theorem pl_90 : am_pl 90 2 := ⟨by decide, by decide +kernel, by decide +kernel, by decide +kernel, by decide +kernel, in_S⟩
theorem pl_91 : am_pl 91 2 := ⟨by decide, by decide +kernel, by decide +kernel, by decide +kernel, by decide +kernel, in_S⟩
theorem pl_92 : am_pl 92 2 := ⟨by decide, by decide +kernel, by decide +kernel, by decide +kernel, by decide +kernel, in_S⟩
theorem pl_93 : am_pl 93 1 := ⟨by decide, by decide +kernel, by decide +kernel, by decide +kernel, by decide +kernel, in_S⟩
theorem pl_94 : am_pl 94 0 := ⟨by decide, by decide +kernel, by decide +kernel, by decide +kernel, by decide +kernel, in_C⟩
theorem pl_95 : am_pl 95 2 := ⟨by decide, by decide +kernel, by decide +kernel, by decide +kernel, by decide +kernel, in_S⟩
theorem pl_96 : am_pl 96 1 := ⟨by decide, by decide +kernel, by decide +kernel, by decide +kernel, by decide +kernel, in_S⟩
theorem pl_97 : am_pl 97 1 := ⟨by decide, by decide +kernel, by decide +kernel, by decide +kernel, by decide +kernel, in_C⟩
theorem pl_98 : am_pl 98 2 := ⟨by decide, by decide +kernel, by decide +kernel, by decide +kernel, by decide +kernel, in_S⟩
theorem pl_99 : am_pl 99 0 := ⟨by decide, by decide +kernel, by decide +kernel, by decide +kernel, by decide +kernel, in_S⟩
theorem pl_100 : am_pl 100 1 := ⟨by decide, by decide +kernel, by decide +kernel, by decide +kernel, by decide +kernel, in_S⟩
theorem pl_101 : am_pl 101 1 := ⟨by decide, by decide +kernel, by decide +kernel, by decide +kernel, by decide +kernel, in_S⟩
theorem pl_102 : am_pl 102 2 := ⟨by decide, by decide +kernel, by decide +kernel, by decide +kernel, by decide +kernel, in_S⟩
theorem pl_103 : am_pl 103 2 := ⟨by decide, by decide +kernel, by decide +kernel, by decide +kernel, by decide +kernel, in_S⟩
theorem pl_104 : am_pl 104 0 := ⟨by decide, by decide +kernel, by decide +kernel, by decide +kernel, by decide +kernel, in_S⟩
theorem pl_105 : am_pl 105 0 := ⟨by decide, by decide +kernel, by decide +kernel, by decide +kernel, by decide +kernel, in_S⟩
theorem pl_106 : am_pl 106 0 := ⟨by decide, by decide +kernel, by decide +kernel, by decide +kernel, by decide +kernel, in_S⟩
theorem pl_107 : am_pl 107 1 := ⟨by decide, by decide +kernel, by decide +kernel, by decide +kernel, by decide +kernel, in_S⟩
theorem pl_108 : am_pl 108 1 := ⟨by decide, by decide +kernel, by decide +kernel, by decide +kernel, by decide +kernel, in_C⟩
theorem pl_109 : am_pl 109 1 := ⟨by decide, by decide +kernel, by decide +kernel, by decide +kernel, by decide +kernel, in_S⟩
theorem pl_110 : am_pl 110 0 := ⟨by decide, by decide +kernel, by decide +kernel, by decide +kernel, by decide +kernel, in_S⟩
theorem pl_111 : am_pl 111 0 := ⟨by decide, by decide +kernel, by decide +kernel, by decide +kernel, by decide +kernel, in_S⟩
theorem pl_112 : am_pl 112 1 := ⟨by decide, by decide +kernel, by decide +kernel, by decide +kernel, by decide +kernel, in_S⟩
theorem pl_113 : am_pl 113 0 := ⟨by decide, by decide +kernel, by decide +kernel, by decide +kernel, by decide +kernel, in_S⟩
theorem pl_114 : am_pl 114 2 := ⟨by decide, by decide +kernel, by decide +kernel, by decide +kernel, by decide +kernel, in_S⟩
theorem pl_115 : am_pl 115 0 := ⟨by decide, by decide +kernel, by decide +kernel, by decide +kernel, by decide +kernel, in_M⟩
theorem pl_116 : am_pl 116 2 := ⟨by decide, by decide +kernel, by decide +kernel, by decide +kernel, by decide +kernel, in_M⟩
theorem pl_117 : am_pl 117 1 := ⟨by decide, by decide +kernel, by decide +kernel, by decide +kernel, by decide +kernel, in_M⟩
theorem pl_118 : am_pl 118 3 := ⟨by decide, by decide +kernel, by decide +kernel, by decide +kernel, by decide +kernel, in_M⟩
theorem pl_119 : am_pl 119 1 := ⟨by decide, by decide +kernel, by decide +kernel, by decide +kernel, by decide +kernel, in_M⟩
theorem pl_120 : am_pl 120 2 := ⟨by decide, by decide +kernel, by decide +kernel, by decide +kernel, by decide +kernel, in_M⟩
theorem pl_121 : am_pl 121 3 := ⟨by decide, by decide +kernel, by decide +kernel, by decide +kernel, by decide +kernel, in_M⟩
theorem pl_122 : am_pl 122 2 := ⟨by decide, by decide +kernel, by decide +kernel, by decide +kernel, by decide +kernel, in_M⟩
theorem pl_123 : am_pl 123 2 := ⟨by decide, by decide +kernel, by decide +kernel, by decide +kernel, by decide +kernel, in_M⟩
theorem pl_124 : am_pl 124 1 := ⟨by decide, by decide +kernel, by decide +kernel, by decide +kernel, by decide +kernel, in_M⟩
theorem pl_125 : am_pl 125 5 := ⟨by decide, by decide +kernel, by decide +kernel, by decide +kernel, by decide +kernel, in_M⟩
theorem pl_126 : am_pl 126 3 := ⟨by decide, by decide +kernel, by decide +kernel, by decide +kernel, by decide +kernel, in_M⟩
theorem pl_127 : am_pl 127 1 := ⟨by decide, by decide +kernel, by decide +kernel, by decide +kernel, by decide +kernel, in_M⟩
theorem pl_128 : am_pl 128 2 := ⟨by decide, by decide +kernel, by decide +kernel, by decide +kernel, by decide +kernel, in_M⟩
theorem pl_129 : am_pl 129 1 := ⟨by decide, by decide +kernel, by decide +kernel, by decide +kernel, by decide +kernel, in_M⟩
theorem pl_130 : am_pl 130 3 := ⟨by decide, by decide +kernel, by decide +kernel, by decide +kernel, by decide +kernel, in_M⟩
theorem pl_131 : am_pl 131 1 := ⟨by decide, by decide +kernel, by decide +kernel, by decide +kernel, by decide +kernel, in_M⟩
theorem pl_132 : am_pl 132 1 := ⟨by decide, by decide +kernel, by decide +kernel, by decide +kernel, by decide +kernel, in_M⟩
theorem pl_133 : am_pl 133 1 := ⟨by decide, by decide +kernel, by decide +kernel, by decide +kernel, by decide +kernel, in_M⟩
theorem pl_134 : am_pl 134 2 := ⟨by decide, by decide +kernel, by decide +kernel, by decide +kernel, by decide +kernel, in_M⟩
theorem pl_135 : am_pl 135 1 := ⟨by decide, by decide +kernel, by decide +kernel, by decide +kernel, by decide +kernel, in_M⟩
theorem pl_136 : am_pl 136 1 := ⟨by decide, by decide +kernel, by decide +kernel, by decide +kernel, by decide +kernel, in_M⟩
theorem pl_137 : am_pl 137 1 := ⟨by decide, by decide +kernel, by decide +kernel, by decide +kernel, by decide +kernel, in_M⟩
theorem pl_138 : am_pl 138 1 := ⟨by decide, by decide +kernel, by decide +kernel, by decide +kernel, by decide +kernel, in_M⟩
theorem pl_139 : am_pl 139 1 := ⟨by decide, by decide +kernel, by decide +kernel, by decide +kernel, by decide +kernel, in_M⟩
theorem pl_140 : am_pl 140 1 := ⟨by decide, by decide +kernel, by decide +kernel, by decide +kernel, by decide +kernel, in_M⟩
theorem pl_141 : am_pl 141 3 := ⟨by decide, by decide +kernel, by decide +kernel, by decide +kernel, by decide +kernel, in_M⟩
theorem pl_142 : am_pl 142 2 := ⟨by decide, by decide +kernel, by decide +kernel, by decide +kernel, by decide +kernel, in_M⟩
theorem pl_143 : am_pl 143 1 := ⟨by decide, by decide +kernel, by decide +kernel, by decide +kernel, by decide +kernel, in_M⟩
theorem pl_144 : am_pl 144 0 := ⟨by decide, by decide +kernel, by decide +kernel, by decide +kernel, by decide +kernel, in_M⟩
theorem pl_145 : am_pl 145 2 := ⟨by decide, by decide +kernel, by decide +kernel, by decide +kernel, by decide +kernel, in_M⟩
theorem pl_146 : am_pl 146 3 := ⟨by decide, by decide +kernel, by decide +kernel, by decide +kernel, by decide +kernel, in_M⟩
theorem pl_147 : am_pl 147 2 := ⟨by decide, by decide +kernel, by decide +kernel, by decide +kernel, by decide +kernel, in_M⟩
theorem pl_148 : am_pl 148 2 := ⟨by decide, by decide +kernel, by decide +kernel, by decide +kernel, by decide +kernel, in_M⟩
theorem pl_149 : am_pl 149 1 := ⟨by decide, by decide +kernel, by decide +kernel, by decide +kernel, by decide +kernel, in_M⟩
theorem pl_150 : am_pl 150 2 := ⟨by decide, by decide +kernel, by decide +kernel, by decide +kernel, by decide +kernel, in_M⟩
theorem pl_151 : am_pl 151 1 := ⟨by decide, by decide +kernel, by decide +kernel, by decide +kernel, by decide +kernel, in_M⟩
theorem pl_152 : am_pl 152 1 := ⟨by decide, by decide +kernel, by decide +kernel, by decide +kernel, by decide +kernel, in_M⟩
theorem pl_153 : am_pl 153 1 := ⟨by decide, by decide +kernel, by decide +kernel, by decide +kernel, by decide +kernel, in_M⟩
theorem pl_154 : am_pl 154 2 := ⟨by decide, by decide +kernel, by decide +kernel, by decide +kernel, by decide +kernel, in_M⟩
theorem pl_155 : am_pl 155 1 := ⟨by decide, by decide +kernel, by decide +kernel, by decide +kernel, by decide +kernel, in_M⟩
theorem pl_156 : am_pl 156 2 := ⟨by decide, by decide +kernel, by decide +kernel, by decide +kernel, by decide +kernel, in_M⟩
theorem pl_157 : am_pl 157 1 := ⟨by decide, by decide +kernel, by decide +kernel, by decide +kernel, by decide +kernel, in_M⟩
theorem pl_158 : am_pl 158 2 := ⟨by decide, by decide +kernel, by decide +kernel, by decide +kernel, by decide +kernel, in_M⟩
theorem pl_159 : am_pl 159 0 := ⟨by decide, by decide +kernel, by decide +kernel, by decide +kernel, by decide +kernel, in_M⟩
theorem pl_160 : am_pl 160 2 := ⟨by decide, by decide +kernel, by decide +kernel, by decide +kernel, by decide +kernel, in_M⟩
theorem pl_161 : am_pl 161 0 := ⟨by decide, by decide +kernel, by decide +kernel, by decide +kernel, by decide +kernel, in_M⟩
theorem pl_162 : am_pl 162 1 := ⟨by decide, by decide +kernel, by decide +kernel, by decide +kernel, by decide +kernel, in_M⟩
theorem pl_163 : am_pl 163 1 := ⟨by decide, by decide +kernel, by decide +kernel, by decide +kernel, by decide +kernel, in_M⟩
theorem pl_164 : am_pl 164 1 := ⟨by decide, by decide +kernel, by decide +kernel, by decide +kernel, by decide +kernel, in_M⟩
theorem pl_165 : am_pl 165 1 := ⟨by decide, by decide +kernel, by decide +kernel, by decide +kernel, by decide +kernel, in_M⟩
theorem pl_166 : am_pl 166 1 := ⟨by decide, by decide +kernel, by decide +kernel, by decide +kernel, by decide +kernel, in_M⟩
theorem pl_167 : am_pl 167 1 := ⟨by decide, by decide +kernel, by decide +kernel, by decide +kernel, by decide +kernel, in_M⟩
theorem pl_168 : am_pl 168 0 := ⟨by decide, by decide +kernel, by decide +kernel, by decide +kernel, by decide +kernel, in_M⟩
theorem pl_169 : am_pl 169 2 := ⟨by decide, by decide +kernel, by decide +kernel, by decide +kernel, by decide +kernel, in_M⟩
theorem pl_170 : am_pl 170 1 := ⟨by decide, by decide +kernel, by decide +kernel, by decide +kernel, by decide +kernel, in_M⟩
theorem pl_171 : am_pl 171 0 := ⟨by decide, by decide +kernel, by decide +kernel, by decide +kernel, by decide +kernel, in_M⟩
theorem pl_172 : am_pl 172 0 := ⟨by decide, by decide +kernel, by decide +kernel, by decide +kernel, by decide +kernel, in_M⟩
theorem pl_173 : am_pl 173 1 := ⟨by decide, by decide +kernel, by decide +kernel, by decide +kernel, by decide +kernel, in_M⟩
theorem pl_174 : am_pl 174 3 := ⟨by decide, by decide +kernel, by decide +kernel, by decide +kernel, by decide +kernel, in_M⟩
theorem pl_175 : am_pl 175 2 := ⟨by decide, by decide +kernel, by decide +kernel, by decide +kernel, by decide +kernel, in_M⟩
theorem pl_176 : am_pl 176 0 := ⟨by decide, by decide +kernel, by decide +kernel, by decide +kernel, by decide +kernel, in_M⟩
theorem pl_177 : am_pl 177 1 := ⟨by decide, by decide +kernel, by decide +kernel, by decide +kernel, by decide +kernel, in_M⟩
theorem pl_178 : am_pl 178 2 := ⟨by decide, by decide +kernel, by decide +kernel, by decide +kernel, by decide +kernel, in_M⟩
theorem pl_179 : am_pl 179 2 := ⟨by decide, by decide +kernel, by decide +kernel, by decide +kernel, by decide +kernel, in_M⟩
theorem pl_180 : am_pl 180 3 := ⟨by decide, by decide +kernel, by decide +kernel, by decide +kernel, by decide +kernel, in_M⟩
theorem pl_181 : am_pl 181 2 := ⟨by decide, by decide +kernel, by decide +kernel, by decide +kernel, by decide +kernel, in_M⟩
theorem pl_182 : am_pl 182 1 := ⟨by decide, by decide +kernel, by decide +kernel, by decide +kernel, by decide +kernel, in_M⟩
theorem pl_183 : am_pl 183 0 := ⟨by decide, by decide +kernel, by decide +kernel, by decide +kernel, by decide +kernel, in_M⟩
theorem pl_184 : am_pl 184 2 := ⟨by decide, by decide +kernel, by decide +kernel, by decide +kernel, by decide +kernel, in_M⟩
theorem pl_185 : am_pl 185 1 := ⟨by decide, by decide +kernel, by decide +kernel, by decide +kernel, by decide +kernel, in_M⟩
theorem pl_186 : am_pl 186 1 := ⟨by decide, by decide +kernel, by decide +kernel, by decide +kernel, by decide +kernel, in_M⟩
theorem pl_187 : am_pl 187 2 := ⟨by decide, by decide +kernel, by decide +kernel, by decide +kernel, by decide +kernel, in_M⟩
theorem pl_188 : am_pl 188 0 := ⟨by decide, by decide +kernel, by decide +kernel, by decide +kernel, by decide +kernel, in_M⟩
theorem pl_189 : am_pl 189 1 := ⟨by decide, by decide +kernel, by decide +kernel, by decide +kernel, by decide +kernel, in_M⟩
theorem pl_190 : am_pl 190 2 := ⟨by decide, by decide +kernel, by decide +kernel, by decide +kernel, by decide +kernel, in_M⟩
theorem pl_191 : am_pl 191 2 := ⟨by decide, by decide +kernel, by decide +kernel, by decide +kernel, by decide +kernel, in_M⟩
theorem pl_192 : am_pl 192 2 := ⟨by decide, by decide +kernel, by decide +kernel, by decide +kernel, by decide +kernel, in_M⟩
theorem pl_193 : am_pl 193 0 := ⟨by decide, by decide +kernel, by decide +kernel, by decide +kernel, by decide +kernel, in_M⟩
theorem pl_194 : am_pl 194 0 := ⟨by decide, by decide +kernel, by decide +kernel, by decide +kernel, by decide +kernel, in_M⟩
theorem pl_195 : am_pl 195 0 := ⟨by decide, by decide +kernel, by decide +kernel, by decide +kernel, by decide +kernel, in_M⟩
theorem pl_196 : am_pl 196 1 := ⟨by decide, by decide +kernel, by decide +kernel, by decide +kernel, by decide +kernel, in_M⟩
theorem pl_197 : am_pl 197 0 := ⟨by decide, by decide +kernel, by decide +kernel, by decide +kernel, by decide +kernel, in_M⟩
theorem pl_198 : am_pl 198 2 := ⟨by decide, by decide +kernel, by decide +kernel, by decide +kernel, by decide +kernel, in_M⟩
theorem pl_199 : am_pl 199 0 := ⟨by decide, by decide +kernel, by decide +kernel, by decide +kernel, by decide +kernel, in_M⟩
theorem pl_200 : am_pl 200 1 := ⟨by decide, by decide +kernel, by decide +kernel, by decide +kernel, by decide +kernel, in_M⟩
theorem pl_201 : am_pl 201 0 := ⟨by decide, by decide +kernel, by decide +kernel, by decide +kernel, by decide +kernel, in_M⟩
theorem pl_202 : am_pl 202 1 := ⟨by decide, by decide +kernel, by decide +kernel, by decide +kernel, by decide +kernel, in_M⟩
end
section
theorem lx_S : Cond.methodLink "SewnAhead" 90 arraycopyName ∈ am_big := am_at 228 (by decide +kernel) rfl
theorem lx_C : Cond.methodLink "SewnAhead$Cloth" 52 arraycopyName ∈ am_big := am_at 298 (by decide +kernel) rfl
theorem lx_P : Cond.methodLink "SewnAhead$Plans" 100 arraycopyName ∈ am_big := am_at 497 (by decide +kernel) rfl
theorem lx_na : Cond.native arraycopyName ∈ am_big := am_at 230 (by decide +kernel) rfl
theorem lx_st : Cond.static arraycopyName ∈ am_big := am_at 229 (by decide +kernel) rfl
theorem lx_in : Cond.initialized "java/lang/System" ∈ am_big := in_java_lang_System
theorem b_C_clear_0 {X : aX} {d : Nat} {post : aO} {vi : Nat → Nat → Int32} {vl : Nat → Nat → Int64} {v0 : Nat} (hv0 : isCl v0) (k1 : ∀ w, w = up2 vi v0 0 (0 : Int32) → wp X (d + 1) k_C_clear 0 0 5 [some (.ref v0)] [] (mk w vl) post) : wp X (d + 1) k_C_clear 0 0 0 [some (.ref v0)] [] (mk vi vl) post :=
  wr_aload_n (q := 0) (by decide +kernel) rfl rfl <|
  wr_iconst (n := 0) (v := (0 : Int32)) (by decide +kernel) (by decide) <|
  wr_putI (ci := 0) (k0 := 0) (idx := 9) (cl_lt0 hv0) (cl_s0 hv0) (by decide) (by decide) lf_C_9 rfl (by decide +kernel) <|
  k1 _ rfl
theorem b_C_clear_5 {X : aX} {d : Nat} {post : aO} {vi : Nat → Nat → Int32} {vl : Nat → Nat → Int64} {v0 : Nat} (hv0 : isCl v0) (k1 : ∀ w, w = up2 vi v0 3 (0 : Int32) → wp X (d + 1) k_C_clear 0 0 10 [some (.ref v0)] [] (mk w vl) post) : wp X (d + 1) k_C_clear 0 0 5 [some (.ref v0)] [] (mk vi vl) post :=
  wr_aload_n (q := 0) (by decide +kernel) rfl rfl <|
  wr_iconst (n := 0) (v := (0 : Int32)) (by decide +kernel) (by decide) <|
  wr_putI (ci := 0) (k0 := 3) (idx := 22) (cl_lt0 hv0) (cl_s0 hv0) (by decide) (by decide) lf_C_22 rfl (by decide +kernel) <|
  k1 _ rfl
theorem b_C_clear_10 {X : aX} {d : Nat} {post : aO} {vi : Nat → Nat → Int32} {vl : Nat → Nat → Int64} {v0 : Nat} (hv0 : isCl v0) (k1 : ∀ w, w = up2 vi v0 7 (0 : Int32) → wp X (d + 1) k_C_clear 0 0 15 [some (.ref v0)] [] (mk w vl) post) : wp X (d + 1) k_C_clear 0 0 10 [some (.ref v0)] [] (mk vi vl) post :=
  wr_aload_n (q := 0) (by decide +kernel) rfl rfl <|
  wr_iconst (n := 0) (v := (0 : Int32)) (by decide +kernel) (by decide) <|
  wr_putI (ci := 0) (k0 := 7) (idx := 34) (cl_lt0 hv0) (cl_s0 hv0) (by decide) (by decide) lf_C_34 rfl (by decide +kernel) <|
  k1 _ rfl
theorem b_C_clear_15 {X : aX} {d : Nat} {post : aO} {vi : Nat → Nat → Int32} {vl : Nat → Nat → Int64} {v0 : Nat} (k1 : post none (mk vi vl)) : wp X (d + 1) k_C_clear 0 0 15 [some (.ref v0)] [] (mk vi vl) post :=
  wr_ret (r := none) (Or.inl ⟨rfl, (by decide +kernel), rfl⟩) k1
theorem b_C_addYear_0 {X : aX} {d : Nat} {post : aO} {vi : Nat → Nat → Int32} {vl : Nat → Nat → Int64} {v0 : Nat} {x1 : Int32} (hv0 : isCl v0) (k1 : (5 : Int32) ≤ (vi v0 0) → wp X (d + 1) k_C_addYear 0 0 38 [some (.ref v0), some (.int x1)] [] (mk vi vl) post) (k2 : ¬ (5 : Int32) ≤ (vi v0 0) → wp X (d + 1) k_C_addYear 0 0 8 [some (.ref v0), some (.int x1)] [] (mk vi vl) post) : wp X (d + 1) k_C_addYear 0 0 0 [some (.ref v0), some (.int x1)] [] (mk vi vl) post :=
  wr_aload_n (q := 0) (by decide +kernel) rfl rfl <|
  wr_getI (ci := 0) (k0 := 0) (idx := 9) (cl_lt0 hv0) (cl_s0 hv0) (by decide) (by decide) lf_C_9 (Or.inl rfl) (by decide +kernel) <|
  wr_iconst (n := 5) (v := (5 : Int32)) (by decide +kernel) (by decide) <|
  wr_icmp_ge (off := 33) (t := 38) (by decide +kernel) (by decide) k1 k2
theorem b_C_addYear_8 {X : aX} {d : Nat} {post : aO} {vi : Nat → Nat → Int32} {vl : Nat → Nat → Int64} {v0 : Nat} {x1 : Int32} (hv0 : isCl v0) (k1 : ¬ x1 = (-9 : Int32) → wp X (d + 1) k_C_addYear 0 0 23 [some (.ref v0), some (.int x1)] [.int (vi v0 0), .ref v0] (mk vi vl) post) (k2 : x1 = (-9 : Int32) → wp X (d + 1) k_C_addYear 0 0 19 [some (.ref v0), some (.int x1)] [.int (vi v0 0), .ref v0] (mk vi vl) post) : wp X (d + 1) k_C_addYear 0 0 8 [some (.ref v0), some (.int x1)] [] (mk vi vl) post :=
  wr_aload_n (q := 0) (by decide +kernel) rfl rfl <|
  wr_aload_n (q := 0) (by decide +kernel) rfl rfl <|
  wr_getI (ci := 0) (k0 := 0) (idx := 9) (cl_lt0 hv0) (cl_s0 hv0) (by decide) (by decide) lf_C_9 (Or.inl rfl) (by decide +kernel) <|
  wr_iload_n (q := 1) (by decide +kernel) rfl rfl <|
  wr_bipush (n := -9) (v := (-9 : Int32)) (by decide +kernel) (by decide) <|
  wr_icmp_ne (off := 7) (t := 23) (by decide +kernel) (by decide) k1 k2
theorem b_C_addYear_19 {X : aX} {d : Nat} {post : aO} {vi : Nat → Nat → Int32} {vl : Nat → Nat → Int64} {v0 : Nat} {x1 y1 : Int32} (k1 : wp X (d + 1) k_C_addYear 0 0 24 [some (.ref v0), some (.int x1)] [.int (0 : Int32), .int y1, .ref v0] (mk vi vl) post) : wp X (d + 1) k_C_addYear 0 0 19 [some (.ref v0), some (.int x1)] [.int y1, .ref v0] (mk vi vl) post :=
  wr_iconst (n := 0) (v := (0 : Int32)) (by decide +kernel) (by decide) <|
  wr_goto (off := 4) (t := 24) (by decide +kernel) (by decide) k1
theorem b_C_addYear_23 {X : aX} {d : Nat} {post : aO} {vi : Nat → Nat → Int32} {vl : Nat → Nat → Int64} {v0 : Nat} {x1 y1 : Int32} (k1 : wp X (d + 1) k_C_addYear 0 0 24 [some (.ref v0), some (.int x1)] [.int (1 : Int32), .int y1, .ref v0] (mk vi vl) post) : wp X (d + 1) k_C_addYear 0 0 23 [some (.ref v0), some (.int x1)] [.int y1, .ref v0] (mk vi vl) post :=
  wr_iconst (n := 1) (v := (1 : Int32)) (by decide +kernel) (by decide) <|
  k1
theorem b_C_addYear_24 {X : aX} {d : Nat} {post : aO} {vi : Nat → Nat → Int32} {vl : Nat → Nat → Int64} {v0 : Nat} {x1 y1 y2 : Int32} (k1 : CallOk X d 0 0 k_C_set [.ref v0, .int y1, .int y2, .int x1] (mk vi vl) (fun r N' => wp X (d + 1) k_C_addYear 0 0 28 [some (.ref v0), some (.int x1)] (pR r []) N' post)) (hv0 : isCl v0) : wp X (d + 1) k_C_addYear 0 0 24 [some (.ref v0), some (.int x1)] [.int y2, .int y1, .ref v0] (mk vi vl) post :=
  wr_iload_n (q := 1) (by decide +kernel) rfl rfl <|
  wr_invV (a := v0) (ci := 0) (mid2 := 33) (idx := 58) (b1 := 0) (b2 := 0) (c1 := 0) (c2 := 0) (as := [.int y1, .int y2, .int x1]) (st := []) pl_33 rfl (Nat.le_of_ble_eq_true rfl) rfl rfl (cl_lt0 hv0) (cl_s0 hv0) (by decide) rfl lm_C_58 im_33 is_33 (by decide +kernel) k1
theorem b_C_addYear_28 {X : aX} {d : Nat} {post : aO} {vi : Nat → Nat → Int32} {vl : Nat → Nat → Int64} {v0 : Nat} {x1 : Int32} (hv0 : isCl v0) (k1 : ∀ w, w = up2 vi v0 0 ((vi v0 0) + (1 : Int32)) → wp X (d + 1) k_C_addYear 0 0 38 [some (.ref v0), some (.int x1)] [] (mk w vl) post) : wp X (d + 1) k_C_addYear 0 0 28 [some (.ref v0), some (.int x1)] [] (mk vi vl) post :=
  wr_aload_n (q := 0) (by decide +kernel) rfl rfl <|
  wr_dup (by decide +kernel) rfl <|
  wr_getI (ci := 0) (k0 := 0) (idx := 9) (cl_lt0 hv0) (cl_s0 hv0) (by decide) (by decide) lf_C_9 (Or.inl rfl) (by decide +kernel) <|
  wr_iconst (n := 1) (v := (1 : Int32)) (by decide +kernel) (by decide) <|
  wr_iadd (by decide +kernel) <|
  wr_putI (ci := 0) (k0 := 0) (idx := 9) (cl_lt0 hv0) (cl_s0 hv0) (by decide) (by decide) lf_C_9 rfl (by decide +kernel) <|
  k1 _ rfl
theorem b_C_addYear_38 {X : aX} {d : Nat} {post : aO} {vi : Nat → Nat → Int32} {vl : Nat → Nat → Int64} {v0 : Nat} {x1 : Int32} (k1 : post none (mk vi vl)) : wp X (d + 1) k_C_addYear 0 0 38 [some (.ref v0), some (.int x1)] [] (mk vi vl) post :=
  wr_ret (r := none) (Or.inl ⟨rfl, (by decide +kernel), rfl⟩) k1
theorem b_C_set_0 {X : aX} {d : Nat} {post : aO} {vi : Nat → Nat → Int32} {vl : Nat → Nat → Int64} {v0 : Nat} {x1 x2 x3 : Int32} (hv0 : isCl v0) (q1 : vp_in x1 5) (k1 : ∀ w, w = up2 vi (v0 + 1) x1.toNatClampNeg x2 → wp X (d + 1) k_C_set 0 0 7 [some (.ref v0), some (.int x1), some (.int x2), some (.int x3)] [] (mk w vl) post) : wp X (d + 1) k_C_set 0 0 0 [some (.ref v0), some (.int x1), some (.int x2), some (.int x3)] [] (mk vi vl) post :=
  wr_aload_n (q := 0) (by decide +kernel) rfl rfl <|
  wr_getR2 (b := v0 + 1) (ci := 0) (k0 := 1) (idx := 15) (cl_lt0 hv0) (cl_s0 hv0) (by decide) (by decide) lf_C_15 rfl (cl_v1 hv0) (cl_lt hv0 1 (by decide)) (by decide +kernel) <|
  wr_iload_n (q := 1) (by decide +kernel) rfl rfl <|
  wr_iload_n (q := 2) (by decide +kernel) rfl rfl <|
  wr_iast (cl_lt hv0 1 (by decide)) (cl_s1 hv0) q1 (by decide +kernel) <|
  k1 _ rfl
theorem b_C_set_7 {X : aX} {d : Nat} {post : aO} {vi : Nat → Nat → Int32} {vl : Nat → Nat → Int64} {v0 : Nat} {x1 x2 x3 : Int32} (hv0 : isCl v0) (q1 : vp_in x1 5) (k1 : ∀ w, w = up2 vi (v0 + 2) x1.toNatClampNeg x3 → wp X (d + 1) k_C_set 0 0 14 [some (.ref v0), some (.int x1), some (.int x2), some (.int x3)] [] (mk w vl) post) : wp X (d + 1) k_C_set 0 0 7 [some (.ref v0), some (.int x1), some (.int x2), some (.int x3)] [] (mk vi vl) post :=
  wr_aload_n (q := 0) (by decide +kernel) rfl rfl <|
  wr_getR2 (b := v0 + 2) (ci := 0) (k0 := 2) (idx := 19) (cl_lt0 hv0) (cl_s0 hv0) (by decide) (by decide) lf_C_19 rfl (cl_v2 hv0) (cl_lt hv0 2 (by decide)) (by decide +kernel) <|
  wr_iload_n (q := 1) (by decide +kernel) rfl rfl <|
  wr_iload_n (q := 3) (by decide +kernel) rfl rfl <|
  wr_iast (cl_lt hv0 2 (by decide)) (cl_s2 hv0) q1 (by decide +kernel) <|
  k1 _ rfl
theorem b_C_set_14 {X : aX} {d : Nat} {post : aO} {vi : Nat → Nat → Int32} {vl : Nat → Nat → Int64} {v0 : Nat} {x1 x2 x3 : Int32} (k1 : post none (mk vi vl)) : wp X (d + 1) k_C_set 0 0 14 [some (.ref v0), some (.int x1), some (.int x2), some (.int x3)] [] (mk vi vl) post :=
  wr_ret (r := none) (Or.inl ⟨rfl, (by decide +kernel), rfl⟩) k1
theorem b_C_addLaw_0 {X : aX} {d : Nat} {post : aO} {vi : Nat → Nat → Int32} {vl : Nat → Nat → Int64} {v0 : Nat} {x1 x2 x3 : Int32} (hv0 : isCl v0) (k1 : (8 : Int32) ≤ (vi v0 3) → wp X (d + 1) k_C_addLaw 0 0 49 [some (.ref v0), some (.int x1), some (.int x2), some (.int x3)] [] (mk vi vl) post) (k2 : ¬ (8 : Int32) ≤ (vi v0 3) → wp X (d + 1) k_C_addLaw 0 0 9 [some (.ref v0), some (.int x1), some (.int x2), some (.int x3)] [] (mk vi vl) post) : wp X (d + 1) k_C_addLaw 0 0 0 [some (.ref v0), some (.int x1), some (.int x2), some (.int x3)] [] (mk vi vl) post :=
  wr_aload_n (q := 0) (by decide +kernel) rfl rfl <|
  wr_getI (ci := 0) (k0 := 3) (idx := 22) (cl_lt0 hv0) (cl_s0 hv0) (by decide) (by decide) lf_C_22 (Or.inl rfl) (by decide +kernel) <|
  wr_bipush (n := 8) (v := (8 : Int32)) (by decide +kernel) (by decide) <|
  wr_icmp_ge (off := 43) (t := 49) (by decide +kernel) (by decide) k1 k2
theorem b_C_addLaw_9 {X : aX} {d : Nat} {post : aO} {vi : Nat → Nat → Int32} {vl : Nat → Nat → Int64} {v0 : Nat} {x1 x2 x3 : Int32} (hv0 : isCl v0) (q1 : vp_in (vi v0 3) 8) (k1 : ∀ w, w = up2 vi (v0 + 3) (vi v0 3).toNatClampNeg x1 → wp X (d + 1) k_C_addLaw 0 0 19 [some (.ref v0), some (.int x1), some (.int x2), some (.int x3)] [] (mk w vl) post) : wp X (d + 1) k_C_addLaw 0 0 9 [some (.ref v0), some (.int x1), some (.int x2), some (.int x3)] [] (mk vi vl) post :=
  wr_aload_n (q := 0) (by decide +kernel) rfl rfl <|
  wr_getR2 (b := v0 + 3) (ci := 0) (k0 := 4) (idx := 25) (cl_lt0 hv0) (cl_s0 hv0) (by decide) (by decide) lf_C_25 rfl (cl_v4 hv0) (cl_lt hv0 3 (by decide)) (by decide +kernel) <|
  wr_aload_n (q := 0) (by decide +kernel) rfl rfl <|
  wr_getI (ci := 0) (k0 := 3) (idx := 22) (cl_lt0 hv0) (cl_s0 hv0) (by decide) (by decide) lf_C_22 (Or.inl rfl) (by decide +kernel) <|
  wr_iload_n (q := 1) (by decide +kernel) rfl rfl <|
  wr_iast (cl_lt hv0 3 (by decide)) (cl_s3 hv0) q1 (by decide +kernel) <|
  k1 _ rfl
theorem b_C_addLaw_19 {X : aX} {d : Nat} {post : aO} {vi : Nat → Nat → Int32} {vl : Nat → Nat → Int64} {v0 : Nat} {x1 x2 x3 : Int32} (hv0 : isCl v0) (q1 : vp_in (vi v0 3) 8) (k1 : ∀ w, w = up2 vi (v0 + 4) (vi v0 3).toNatClampNeg x2 → wp X (d + 1) k_C_addLaw 0 0 29 [some (.ref v0), some (.int x1), some (.int x2), some (.int x3)] [] (mk w vl) post) : wp X (d + 1) k_C_addLaw 0 0 19 [some (.ref v0), some (.int x1), some (.int x2), some (.int x3)] [] (mk vi vl) post :=
  wr_aload_n (q := 0) (by decide +kernel) rfl rfl <|
  wr_getR2 (b := v0 + 4) (ci := 0) (k0 := 5) (idx := 28) (cl_lt0 hv0) (cl_s0 hv0) (by decide) (by decide) lf_C_28 rfl (cl_v5 hv0) (cl_lt hv0 4 (by decide)) (by decide +kernel) <|
  wr_aload_n (q := 0) (by decide +kernel) rfl rfl <|
  wr_getI (ci := 0) (k0 := 3) (idx := 22) (cl_lt0 hv0) (cl_s0 hv0) (by decide) (by decide) lf_C_22 (Or.inl rfl) (by decide +kernel) <|
  wr_iload_n (q := 2) (by decide +kernel) rfl rfl <|
  wr_iast (cl_lt hv0 4 (by decide)) (cl_s4 hv0) q1 (by decide +kernel) <|
  k1 _ rfl
theorem b_C_addLaw_29 {X : aX} {d : Nat} {post : aO} {vi : Nat → Nat → Int32} {vl : Nat → Nat → Int64} {v0 : Nat} {x1 x2 x3 : Int32} (hv0 : isCl v0) (q1 : vp_in (vi v0 3) 8) (k1 : ∀ w, w = up2 vi (v0 + 5) (vi v0 3).toNatClampNeg x3 → wp X (d + 1) k_C_addLaw 0 0 39 [some (.ref v0), some (.int x1), some (.int x2), some (.int x3)] [] (mk w vl) post) : wp X (d + 1) k_C_addLaw 0 0 29 [some (.ref v0), some (.int x1), some (.int x2), some (.int x3)] [] (mk vi vl) post :=
  wr_aload_n (q := 0) (by decide +kernel) rfl rfl <|
  wr_getR2 (b := v0 + 5) (ci := 0) (k0 := 6) (idx := 31) (cl_lt0 hv0) (cl_s0 hv0) (by decide) (by decide) lf_C_31 rfl (cl_v6 hv0) (cl_lt hv0 5 (by decide)) (by decide +kernel) <|
  wr_aload_n (q := 0) (by decide +kernel) rfl rfl <|
  wr_getI (ci := 0) (k0 := 3) (idx := 22) (cl_lt0 hv0) (cl_s0 hv0) (by decide) (by decide) lf_C_22 (Or.inl rfl) (by decide +kernel) <|
  wr_iload_n (q := 3) (by decide +kernel) rfl rfl <|
  wr_iast (cl_lt hv0 5 (by decide)) (cl_s5 hv0) q1 (by decide +kernel) <|
  k1 _ rfl
theorem b_C_addLaw_39 {X : aX} {d : Nat} {post : aO} {vi : Nat → Nat → Int32} {vl : Nat → Nat → Int64} {v0 : Nat} {x1 x2 x3 : Int32} (hv0 : isCl v0) (k1 : ∀ w, w = up2 vi v0 3 ((vi v0 3) + (1 : Int32)) → wp X (d + 1) k_C_addLaw 0 0 49 [some (.ref v0), some (.int x1), some (.int x2), some (.int x3)] [] (mk w vl) post) : wp X (d + 1) k_C_addLaw 0 0 39 [some (.ref v0), some (.int x1), some (.int x2), some (.int x3)] [] (mk vi vl) post :=
  wr_aload_n (q := 0) (by decide +kernel) rfl rfl <|
  wr_dup (by decide +kernel) rfl <|
  wr_getI (ci := 0) (k0 := 3) (idx := 22) (cl_lt0 hv0) (cl_s0 hv0) (by decide) (by decide) lf_C_22 (Or.inl rfl) (by decide +kernel) <|
  wr_iconst (n := 1) (v := (1 : Int32)) (by decide +kernel) (by decide) <|
  wr_iadd (by decide +kernel) <|
  wr_putI (ci := 0) (k0 := 3) (idx := 22) (cl_lt0 hv0) (cl_s0 hv0) (by decide) (by decide) lf_C_22 rfl (by decide +kernel) <|
  k1 _ rfl
theorem b_C_addLaw_49 {X : aX} {d : Nat} {post : aO} {vi : Nat → Nat → Int32} {vl : Nat → Nat → Int64} {v0 : Nat} {x1 x2 x3 : Int32} (k1 : post none (mk vi vl)) : wp X (d + 1) k_C_addLaw 0 0 49 [some (.ref v0), some (.int x1), some (.int x2), some (.int x3)] [] (mk vi vl) post :=
  wr_ret (r := none) (Or.inl ⟨rfl, (by decide +kernel), rfl⟩) k1
theorem b_C_take_0 {X : aX} {d : Nat} {post : aO} {vi : Nat → Nat → Int32} {vl : Nat → Nat → Int64} {v0 v1 : Nat} (hv1 : isCl v1) (hv0 : isCl v0) (k1 : ∀ w, w = up2 vi v0 0 (vi v1 0) → wp X (d + 1) k_C_take 0 0 8 [some (.ref v0), some (.ref v1)] [] (mk w vl) post) : wp X (d + 1) k_C_take 0 0 0 [some (.ref v0), some (.ref v1)] [] (mk vi vl) post :=
  wr_aload_n (q := 0) (by decide +kernel) rfl rfl <|
  wr_aload_n (q := 1) (by decide +kernel) rfl rfl <|
  wr_getI (ci := 0) (k0 := 0) (idx := 9) (cl_lt0 hv1) (cl_s0 hv1) (by decide) (by decide) lf_C_9 (Or.inl rfl) (by decide +kernel) <|
  wr_putI (ci := 0) (k0 := 0) (idx := 9) (cl_lt0 hv0) (cl_s0 hv0) (by decide) (by decide) lf_C_9 rfl (by decide +kernel) <|
  k1 _ rfl
theorem b_C_take_8 {X : aX} {d : Nat} {post : aO} {vi : Nat → Nat → Int32} {vl : Nat → Nat → Int64} {v0 v1 : Nat} (hv1 : isCl v1) (hv0 : isCl v0) (k1 : ∀ w, w = up1 vi (v0 + 1) (va_cpy (vi (v1 + 1)) (vi (v0 + 1)) 0 0 5) → wp X (d + 1) k_C_take 0 0 22 [some (.ref v0), some (.ref v1)] [] (mk w vl) post) : wp X (d + 1) k_C_take 0 0 8 [some (.ref v0), some (.ref v1)] [] (mk vi vl) post :=
  wr_aload_n (q := 1) (by decide +kernel) rfl rfl <|
  wr_getR2 (b := v1 + 1) (ci := 0) (k0 := 1) (idx := 15) (cl_lt0 hv1) (cl_s0 hv1) (by decide) (by decide) lf_C_15 rfl (cl_v1 hv1) (cl_lt hv1 1 (by decide)) (by decide +kernel) <|
  wr_iconst (n := 0) (v := (0 : Int32)) (by decide +kernel) (by decide) <|
  wr_aload_n (q := 0) (by decide +kernel) rfl rfl <|
  wr_getR2 (b := v0 + 1) (ci := 0) (k0 := 1) (idx := 15) (cl_lt0 hv0) (cl_s0 hv0) (by decide) (by decide) lf_C_15 rfl (cl_v1 hv0) (cl_lt hv0 1 (by decide)) (by decide +kernel) <|
  wr_iconst (n := 0) (v := (0 : Int32)) (by decide +kernel) (by decide) <|
  wr_iconst (n := 5) (v := (5 : Int32)) (by decide +kernel) (by decide) <|
  wr_copy (idx := 52) lx_C lx_na lx_st lx_in (Nat.le_of_ble_eq_true rfl) (cl_lt hv1 1 (by decide)) (cl_lt hv0 1 (by decide)) (cl_s1 hv1) (cl_s1 hv0) (by decide) (by decide) (by decide) (by decide) (by decide) (by decide +kernel) <|
  k1 _ rfl
theorem b_C_take_22 {X : aX} {d : Nat} {post : aO} {vi : Nat → Nat → Int32} {vl : Nat → Nat → Int64} {v0 v1 : Nat} (hv1 : isCl v1) (hv0 : isCl v0) (k1 : ∀ w, w = up1 vi (v0 + 2) (va_cpy (vi (v1 + 2)) (vi (v0 + 2)) 0 0 5) → wp X (d + 1) k_C_take 0 0 36 [some (.ref v0), some (.ref v1)] [] (mk w vl) post) : wp X (d + 1) k_C_take 0 0 22 [some (.ref v0), some (.ref v1)] [] (mk vi vl) post :=
  wr_aload_n (q := 1) (by decide +kernel) rfl rfl <|
  wr_getR2 (b := v1 + 2) (ci := 0) (k0 := 2) (idx := 19) (cl_lt0 hv1) (cl_s0 hv1) (by decide) (by decide) lf_C_19 rfl (cl_v2 hv1) (cl_lt hv1 2 (by decide)) (by decide +kernel) <|
  wr_iconst (n := 0) (v := (0 : Int32)) (by decide +kernel) (by decide) <|
  wr_aload_n (q := 0) (by decide +kernel) rfl rfl <|
  wr_getR2 (b := v0 + 2) (ci := 0) (k0 := 2) (idx := 19) (cl_lt0 hv0) (cl_s0 hv0) (by decide) (by decide) lf_C_19 rfl (cl_v2 hv0) (cl_lt hv0 2 (by decide)) (by decide +kernel) <|
  wr_iconst (n := 0) (v := (0 : Int32)) (by decide +kernel) (by decide) <|
  wr_iconst (n := 5) (v := (5 : Int32)) (by decide +kernel) (by decide) <|
  wr_copy (idx := 52) lx_C lx_na lx_st lx_in (Nat.le_of_ble_eq_true rfl) (cl_lt hv1 2 (by decide)) (cl_lt hv0 2 (by decide)) (cl_s2 hv1) (cl_s2 hv0) (by decide) (by decide) (by decide) (by decide) (by decide) (by decide +kernel) <|
  k1 _ rfl
theorem b_C_take_36 {X : aX} {d : Nat} {post : aO} {vi : Nat → Nat → Int32} {vl : Nat → Nat → Int64} {v0 v1 : Nat} (hv1 : isCl v1) (hv0 : isCl v0) (k1 : ∀ w, w = up2 vi v0 3 (vi v1 3) → wp X (d + 1) k_C_take 0 0 44 [some (.ref v0), some (.ref v1)] [] (mk w vl) post) : wp X (d + 1) k_C_take 0 0 36 [some (.ref v0), some (.ref v1)] [] (mk vi vl) post :=
  wr_aload_n (q := 0) (by decide +kernel) rfl rfl <|
  wr_aload_n (q := 1) (by decide +kernel) rfl rfl <|
  wr_getI (ci := 0) (k0 := 3) (idx := 22) (cl_lt0 hv1) (cl_s0 hv1) (by decide) (by decide) lf_C_22 (Or.inl rfl) (by decide +kernel) <|
  wr_putI (ci := 0) (k0 := 3) (idx := 22) (cl_lt0 hv0) (cl_s0 hv0) (by decide) (by decide) lf_C_22 rfl (by decide +kernel) <|
  k1 _ rfl
theorem b_C_take_44 {X : aX} {d : Nat} {post : aO} {vi : Nat → Nat → Int32} {vl : Nat → Nat → Int64} {v0 v1 : Nat} (hv1 : isCl v1) (hv0 : isCl v0) (k1 : ∀ w, w = up1 vi (v0 + 3) (va_cpy (vi (v1 + 3)) (vi (v0 + 3)) 0 0 8) → wp X (d + 1) k_C_take 0 0 59 [some (.ref v0), some (.ref v1)] [] (mk w vl) post) : wp X (d + 1) k_C_take 0 0 44 [some (.ref v0), some (.ref v1)] [] (mk vi vl) post :=
  wr_aload_n (q := 1) (by decide +kernel) rfl rfl <|
  wr_getR2 (b := v1 + 3) (ci := 0) (k0 := 4) (idx := 25) (cl_lt0 hv1) (cl_s0 hv1) (by decide) (by decide) lf_C_25 rfl (cl_v4 hv1) (cl_lt hv1 3 (by decide)) (by decide +kernel) <|
  wr_iconst (n := 0) (v := (0 : Int32)) (by decide +kernel) (by decide) <|
  wr_aload_n (q := 0) (by decide +kernel) rfl rfl <|
  wr_getR2 (b := v0 + 3) (ci := 0) (k0 := 4) (idx := 25) (cl_lt0 hv0) (cl_s0 hv0) (by decide) (by decide) lf_C_25 rfl (cl_v4 hv0) (cl_lt hv0 3 (by decide)) (by decide +kernel) <|
  wr_iconst (n := 0) (v := (0 : Int32)) (by decide +kernel) (by decide) <|
  wr_bipush (n := 8) (v := (8 : Int32)) (by decide +kernel) (by decide) <|
  wr_copy (idx := 52) lx_C lx_na lx_st lx_in (Nat.le_of_ble_eq_true rfl) (cl_lt hv1 3 (by decide)) (cl_lt hv0 3 (by decide)) (cl_s3 hv1) (cl_s3 hv0) (by decide) (by decide) (by decide) (by decide) (by decide) (by decide +kernel) <|
  k1 _ rfl
theorem b_C_take_59 {X : aX} {d : Nat} {post : aO} {vi : Nat → Nat → Int32} {vl : Nat → Nat → Int64} {v0 v1 : Nat} (hv1 : isCl v1) (hv0 : isCl v0) (k1 : ∀ w, w = up1 vi (v0 + 4) (va_cpy (vi (v1 + 4)) (vi (v0 + 4)) 0 0 8) → wp X (d + 1) k_C_take 0 0 74 [some (.ref v0), some (.ref v1)] [] (mk w vl) post) : wp X (d + 1) k_C_take 0 0 59 [some (.ref v0), some (.ref v1)] [] (mk vi vl) post :=
  wr_aload_n (q := 1) (by decide +kernel) rfl rfl <|
  wr_getR2 (b := v1 + 4) (ci := 0) (k0 := 5) (idx := 28) (cl_lt0 hv1) (cl_s0 hv1) (by decide) (by decide) lf_C_28 rfl (cl_v5 hv1) (cl_lt hv1 4 (by decide)) (by decide +kernel) <|
  wr_iconst (n := 0) (v := (0 : Int32)) (by decide +kernel) (by decide) <|
  wr_aload_n (q := 0) (by decide +kernel) rfl rfl <|
  wr_getR2 (b := v0 + 4) (ci := 0) (k0 := 5) (idx := 28) (cl_lt0 hv0) (cl_s0 hv0) (by decide) (by decide) lf_C_28 rfl (cl_v5 hv0) (cl_lt hv0 4 (by decide)) (by decide +kernel) <|
  wr_iconst (n := 0) (v := (0 : Int32)) (by decide +kernel) (by decide) <|
  wr_bipush (n := 8) (v := (8 : Int32)) (by decide +kernel) (by decide) <|
  wr_copy (idx := 52) lx_C lx_na lx_st lx_in (Nat.le_of_ble_eq_true rfl) (cl_lt hv1 4 (by decide)) (cl_lt hv0 4 (by decide)) (cl_s4 hv1) (cl_s4 hv0) (by decide) (by decide) (by decide) (by decide) (by decide) (by decide +kernel) <|
  k1 _ rfl
theorem b_C_take_74 {X : aX} {d : Nat} {post : aO} {vi : Nat → Nat → Int32} {vl : Nat → Nat → Int64} {v0 v1 : Nat} (hv1 : isCl v1) (hv0 : isCl v0) (k1 : ∀ w, w = up1 vi (v0 + 5) (va_cpy (vi (v1 + 5)) (vi (v0 + 5)) 0 0 8) → wp X (d + 1) k_C_take 0 0 89 [some (.ref v0), some (.ref v1)] [] (mk w vl) post) : wp X (d + 1) k_C_take 0 0 74 [some (.ref v0), some (.ref v1)] [] (mk vi vl) post :=
  wr_aload_n (q := 1) (by decide +kernel) rfl rfl <|
  wr_getR2 (b := v1 + 5) (ci := 0) (k0 := 6) (idx := 31) (cl_lt0 hv1) (cl_s0 hv1) (by decide) (by decide) lf_C_31 rfl (cl_v6 hv1) (cl_lt hv1 5 (by decide)) (by decide +kernel) <|
  wr_iconst (n := 0) (v := (0 : Int32)) (by decide +kernel) (by decide) <|
  wr_aload_n (q := 0) (by decide +kernel) rfl rfl <|
  wr_getR2 (b := v0 + 5) (ci := 0) (k0 := 6) (idx := 31) (cl_lt0 hv0) (cl_s0 hv0) (by decide) (by decide) lf_C_31 rfl (cl_v6 hv0) (cl_lt hv0 5 (by decide)) (by decide +kernel) <|
  wr_iconst (n := 0) (v := (0 : Int32)) (by decide +kernel) (by decide) <|
  wr_bipush (n := 8) (v := (8 : Int32)) (by decide +kernel) (by decide) <|
  wr_copy (idx := 52) lx_C lx_na lx_st lx_in (Nat.le_of_ble_eq_true rfl) (cl_lt hv1 5 (by decide)) (cl_lt hv0 5 (by decide)) (cl_s5 hv1) (cl_s5 hv0) (by decide) (by decide) (by decide) (by decide) (by decide) (by decide +kernel) <|
  k1 _ rfl
theorem b_C_take_89 {X : aX} {d : Nat} {post : aO} {vi : Nat → Nat → Int32} {vl : Nat → Nat → Int64} {v0 v1 : Nat} (hv1 : isCl v1) (hv0 : isCl v0) (k1 : ∀ w, w = up2 vi v0 7 (vi v1 7) → wp X (d + 1) k_C_take 0 0 97 [some (.ref v0), some (.ref v1)] [] (mk w vl) post) : wp X (d + 1) k_C_take 0 0 89 [some (.ref v0), some (.ref v1)] [] (mk vi vl) post :=
  wr_aload_n (q := 0) (by decide +kernel) rfl rfl <|
  wr_aload_n (q := 1) (by decide +kernel) rfl rfl <|
  wr_getI (ci := 0) (k0 := 7) (idx := 34) (cl_lt0 hv1) (cl_s0 hv1) (by decide) (by decide) lf_C_34 (Or.inl rfl) (by decide +kernel) <|
  wr_putI (ci := 0) (k0 := 7) (idx := 34) (cl_lt0 hv0) (cl_s0 hv0) (by decide) (by decide) lf_C_34 rfl (by decide +kernel) <|
  k1 _ rfl
theorem b_C_take_97 {X : aX} {d : Nat} {post : aO} {vi : Nat → Nat → Int32} {vl : Nat → Nat → Int64} {v0 v1 : Nat} (hv1 : isCl v1) (hv0 : isCl v0) (k1 : ∀ w, w = up1 vi (v0 + 6) (va_cpy (vi (v1 + 6)) (vi (v0 + 6)) 0 0 40) → wp X (d + 1) k_C_take 0 0 112 [some (.ref v0), some (.ref v1)] [] (mk w vl) post) : wp X (d + 1) k_C_take 0 0 97 [some (.ref v0), some (.ref v1)] [] (mk vi vl) post :=
  wr_aload_n (q := 1) (by decide +kernel) rfl rfl <|
  wr_getR2 (b := v1 + 6) (ci := 0) (k0 := 8) (idx := 37) (cl_lt0 hv1) (cl_s0 hv1) (by decide) (by decide) lf_C_37 rfl (cl_v8 hv1) (cl_lt hv1 6 (by decide)) (by decide +kernel) <|
  wr_iconst (n := 0) (v := (0 : Int32)) (by decide +kernel) (by decide) <|
  wr_aload_n (q := 0) (by decide +kernel) rfl rfl <|
  wr_getR2 (b := v0 + 6) (ci := 0) (k0 := 8) (idx := 37) (cl_lt0 hv0) (cl_s0 hv0) (by decide) (by decide) lf_C_37 rfl (cl_v8 hv0) (cl_lt hv0 6 (by decide)) (by decide +kernel) <|
  wr_iconst (n := 0) (v := (0 : Int32)) (by decide +kernel) (by decide) <|
  wr_bipush (n := 40) (v := (40 : Int32)) (by decide +kernel) (by decide) <|
  wr_copy (idx := 52) lx_C lx_na lx_st lx_in (Nat.le_of_ble_eq_true rfl) (cl_lt hv1 6 (by decide)) (cl_lt hv0 6 (by decide)) (cl_s6 hv1) (cl_s6 hv0) (by decide) (by decide) (by decide) (by decide) (by decide) (by decide +kernel) <|
  k1 _ rfl
theorem b_C_take_112 {X : aX} {d : Nat} {post : aO} {vi : Nat → Nat → Int32} {vl : Nat → Nat → Int64} {v0 v1 : Nat} (hv1 : isCl v1) (hv0 : isCl v0) (k1 : ∀ w, w = up1 vi (v0 + 7) (va_cpy (vi (v1 + 7)) (vi (v0 + 7)) 0 0 40) → wp X (d + 1) k_C_take 0 0 127 [some (.ref v0), some (.ref v1)] [] (mk w vl) post) : wp X (d + 1) k_C_take 0 0 112 [some (.ref v0), some (.ref v1)] [] (mk vi vl) post :=
  wr_aload_n (q := 1) (by decide +kernel) rfl rfl <|
  wr_getR2 (b := v1 + 7) (ci := 0) (k0 := 9) (idx := 40) (cl_lt0 hv1) (cl_s0 hv1) (by decide) (by decide) lf_C_40 rfl (cl_v9 hv1) (cl_lt hv1 7 (by decide)) (by decide +kernel) <|
  wr_iconst (n := 0) (v := (0 : Int32)) (by decide +kernel) (by decide) <|
  wr_aload_n (q := 0) (by decide +kernel) rfl rfl <|
  wr_getR2 (b := v0 + 7) (ci := 0) (k0 := 9) (idx := 40) (cl_lt0 hv0) (cl_s0 hv0) (by decide) (by decide) lf_C_40 rfl (cl_v9 hv0) (cl_lt hv0 7 (by decide)) (by decide +kernel) <|
  wr_iconst (n := 0) (v := (0 : Int32)) (by decide +kernel) (by decide) <|
  wr_bipush (n := 40) (v := (40 : Int32)) (by decide +kernel) (by decide) <|
  wr_copy (idx := 52) lx_C lx_na lx_st lx_in (Nat.le_of_ble_eq_true rfl) (cl_lt hv1 7 (by decide)) (cl_lt hv0 7 (by decide)) (cl_s7 hv1) (cl_s7 hv0) (by decide) (by decide) (by decide) (by decide) (by decide) (by decide +kernel) <|
  k1 _ rfl
theorem b_C_take_127 {X : aX} {d : Nat} {post : aO} {vi : Nat → Nat → Int32} {vl : Nat → Nat → Int64} {v0 v1 : Nat} (hv1 : isCl v1) (hv0 : isCl v0) (k1 : ∀ w, w = up1 vi (v0 + 8) (va_cpy (vi (v1 + 8)) (vi (v0 + 8)) 0 0 40) → wp X (d + 1) k_C_take 0 0 142 [some (.ref v0), some (.ref v1)] [] (mk w vl) post) : wp X (d + 1) k_C_take 0 0 127 [some (.ref v0), some (.ref v1)] [] (mk vi vl) post :=
  wr_aload_n (q := 1) (by decide +kernel) rfl rfl <|
  wr_getR2 (b := v1 + 8) (ci := 0) (k0 := 10) (idx := 43) (cl_lt0 hv1) (cl_s0 hv1) (by decide) (by decide) lf_C_43 rfl (cl_v10 hv1) (cl_lt hv1 8 (by decide)) (by decide +kernel) <|
  wr_iconst (n := 0) (v := (0 : Int32)) (by decide +kernel) (by decide) <|
  wr_aload_n (q := 0) (by decide +kernel) rfl rfl <|
  wr_getR2 (b := v0 + 8) (ci := 0) (k0 := 10) (idx := 43) (cl_lt0 hv0) (cl_s0 hv0) (by decide) (by decide) lf_C_43 rfl (cl_v10 hv0) (cl_lt hv0 8 (by decide)) (by decide +kernel) <|
  wr_iconst (n := 0) (v := (0 : Int32)) (by decide +kernel) (by decide) <|
  wr_bipush (n := 40) (v := (40 : Int32)) (by decide +kernel) (by decide) <|
  wr_copy (idx := 52) lx_C lx_na lx_st lx_in (Nat.le_of_ble_eq_true rfl) (cl_lt hv1 8 (by decide)) (cl_lt hv0 8 (by decide)) (cl_s8 hv1) (cl_s8 hv0) (by decide) (by decide) (by decide) (by decide) (by decide) (by decide +kernel) <|
  k1 _ rfl
theorem b_C_take_142 {X : aX} {d : Nat} {post : aO} {vi : Nat → Nat → Int32} {vl : Nat → Nat → Int64} {v0 v1 : Nat} (k1 : post none (mk vi vl)) : wp X (d + 1) k_C_take 0 0 142 [some (.ref v0), some (.ref v1)] [] (mk vi vl) post :=
  wr_ret (r := none) (Or.inl ⟨rfl, (by decide +kernel), rfl⟩) k1
theorem b_C_settleFrom_0 {X : aX} {d : Nat} {post : aO} {vi : Nat → Nat → Int32} {vl : Nat → Nat → Int64} {v0 : Nat} {x1 : Int32} (k1 : wp X (d + 1) k_C_settleFrom 0 0 2 [some (.ref v0), some (.int x1), some (.int x1)] [] (mk vi vl) post) : wp X (d + 1) k_C_settleFrom 0 0 0 [some (.ref v0), some (.int x1), none] [] (mk vi vl) post :=
  wr_iload_n (q := 1) (by decide +kernel) rfl rfl <|
  wr_istore_n (q := 2) (by decide +kernel) rfl (by decide) <|
  k1
theorem b_C_settleFrom_2 {X : aX} {d : Nat} {post : aO} {vi : Nat → Nat → Int32} {vl : Nat → Nat → Int64} {v0 : Nat} {x1 x2 : Int32} (hv0 : isCl v0) (k1 : (vi v0 0) ≤ x2 → wp X (d + 1) k_C_settleFrom 0 0 21 [some (.ref v0), some (.int x1), some (.int x2)] [] (mk vi vl) post) (k2 : ¬ (vi v0 0) ≤ x2 → wp X (d + 1) k_C_settleFrom 0 0 10 [some (.ref v0), some (.int x1), some (.int x2)] [] (mk vi vl) post) : wp X (d + 1) k_C_settleFrom 0 0 2 [some (.ref v0), some (.int x1), some (.int x2)] [] (mk vi vl) post :=
  wr_iload_n (q := 2) (by decide +kernel) rfl rfl <|
  wr_aload_n (q := 0) (by decide +kernel) rfl rfl <|
  wr_getI (ci := 0) (k0 := 0) (idx := 9) (cl_lt0 hv0) (cl_s0 hv0) (by decide) (by decide) lf_C_9 (Or.inl rfl) (by decide +kernel) <|
  wr_icmp_ge (off := 14) (t := 21) (by decide +kernel) (by decide) k1 k2
theorem b_C_settleFrom_10 {X : aX} {d : Nat} {post : aO} {vi : Nat → Nat → Int32} {vl : Nat → Nat → Int64} {v0 : Nat} {x1 x2 : Int32} (k1 : CallOk X d 0 0 k_C_settle [.ref v0, .int x2] (mk vi vl) (fun r N' => wp X (d + 1) k_C_settleFrom 0 0 15 [some (.ref v0), some (.int x1), some (.int x2)] (pR r []) N' post)) (hv0 : isCl v0) : wp X (d + 1) k_C_settleFrom 0 0 10 [some (.ref v0), some (.int x1), some (.int x2)] [] (mk vi vl) post :=
  wr_aload_n (q := 0) (by decide +kernel) rfl rfl <|
  wr_iload_n (q := 2) (by decide +kernel) rfl rfl <|
  wr_invV (a := v0) (ci := 0) (mid2 := 40) (idx := 74) (b1 := 0) (b2 := 0) (c1 := 0) (c2 := 0) (as := [.int x2]) (st := []) pl_40 rfl (Nat.le_of_ble_eq_true rfl) rfl rfl (cl_lt0 hv0) (cl_s0 hv0) (by decide) rfl lm_C_74 im_40 is_40 (by decide +kernel) k1
theorem b_C_settleFrom_15 {X : aX} {d : Nat} {post : aO} {vi : Nat → Nat → Int32} {vl : Nat → Nat → Int64} {v0 : Nat} {x1 x2 : Int32} (k1 : wp X (d + 1) k_C_settleFrom 0 0 2 [some (.ref v0), some (.int x1), some (.int (x2 + (1 : Int32)))] [] (mk vi vl) post) : wp X (d + 1) k_C_settleFrom 0 0 15 [some (.ref v0), some (.int x1), some (.int x2)] [] (mk vi vl) post :=
  wr_iinc (i := 2) (n := 1) (v := (1 : Int32)) (by decide +kernel) rfl (by decide) (by decide) <|
  wr_goto (off := -16) (t := 2) (by decide +kernel) (by decide) k1
theorem b_C_settleFrom_21 {X : aX} {d : Nat} {post : aO} {vi : Nat → Nat → Int32} {vl : Nat → Nat → Int64} {v0 : Nat} {x1 x2 : Int32} (k1 : post none (mk vi vl)) : wp X (d + 1) k_C_settleFrom 0 0 21 [some (.ref v0), some (.int x1), some (.int x2)] [] (mk vi vl) post :=
  wr_ret (r := none) (Or.inl ⟨rfl, (by decide +kernel), rfl⟩) k1
theorem b_C_settle_0 {X : aX} {d : Nat} {post : aO} {vi : Nat → Nat → Int32} {vl : Nat → Nat → Int64} {v0 : Nat} {x1 : Int32} (hv0 : isCl v0) (q1 : vp_in x1 5) (k1 : ¬ (vi (v0 + 1) x1.toNatClampNeg) = (1 : Int32) → wp X (d + 1) k_C_settle 0 0 31 [some (.ref v0), some (.int x1), none] [] (mk vi vl) post) (k2 : (vi (v0 + 1) x1.toNatClampNeg) = (1 : Int32) → wp X (d + 1) k_C_settle 0 0 10 [some (.ref v0), some (.int x1), none] [] (mk vi vl) post) : wp X (d + 1) k_C_settle 0 0 0 [some (.ref v0), some (.int x1), none] [] (mk vi vl) post :=
  wr_aload_n (q := 0) (by decide +kernel) rfl rfl <|
  wr_getR2 (b := v0 + 1) (ci := 0) (k0 := 1) (idx := 15) (cl_lt0 hv0) (cl_s0 hv0) (by decide) (by decide) lf_C_15 rfl (cl_v1 hv0) (cl_lt hv0 1 (by decide)) (by decide +kernel) <|
  wr_iload_n (q := 1) (by decide +kernel) rfl rfl <|
  wr_iald (cl_lt hv0 1 (by decide)) (cl_s1 hv0) q1 (by decide +kernel) <|
  wr_iconst (n := 1) (v := (1 : Int32)) (by decide +kernel) (by decide) <|
  wr_icmp_ne (off := 24) (t := 31) (by decide +kernel) (by decide) k1 k2
theorem b_C_settle_10 {X : aX} {d : Nat} {post : aO} {vi : Nat → Nat → Int32} {vl : Nat → Nat → Int64} {v0 : Nat} {x1 : Int32} {o2 : Option Value} (hv0 : isCl v0) (q1 : vp_in x1 5) (k1 : ∀ w, w = up2 vi (v0 + 10) x1.toNatClampNeg (-9 : Int32) → wp X (d + 1) k_C_settle 0 0 18 [some (.ref v0), some (.int x1), o2] [] (mk w vl) post) : wp X (d + 1) k_C_settle 0 0 10 [some (.ref v0), some (.int x1), o2] [] (mk vi vl) post :=
  wr_aload_n (q := 0) (by decide +kernel) rfl rfl <|
  wr_getR2 (b := v0 + 10) (ci := 0) (k0 := 12) (idx := 49) (cl_lt0 hv0) (cl_s0 hv0) (by decide) (by decide) lf_C_49 rfl (cl_v12 hv0) (cl_lt hv0 10 (by decide)) (by decide +kernel) <|
  wr_iload_n (q := 1) (by decide +kernel) rfl rfl <|
  wr_bipush (n := -9) (v := (-9 : Int32)) (by decide +kernel) (by decide) <|
  wr_iast (cl_lt hv0 10 (by decide)) (cl_s10 hv0) q1 (by decide +kernel) <|
  k1 _ rfl
theorem b_C_settle_18 {X : aX} {d : Nat} {post : aO} {vi : Nat → Nat → Int32} {vl : Nat → Nat → Int64} {v0 : Nat} {x1 : Int32} {o2 : Option Value} (hv0 : isCl v0) (q1 : vp_in x1 5) (q2 : vp_in x1 5) (k1 : ∀ w, w = up2 vi (v0 + 9) x1.toNatClampNeg (vi (v0 + 2) x1.toNatClampNeg) → wp X (d + 1) k_C_settle 0 0 30 [some (.ref v0), some (.int x1), o2] [] (mk w vl) post) : wp X (d + 1) k_C_settle 0 0 18 [some (.ref v0), some (.int x1), o2] [] (mk vi vl) post :=
  wr_aload_n (q := 0) (by decide +kernel) rfl rfl <|
  wr_getR2 (b := v0 + 9) (ci := 0) (k0 := 11) (idx := 46) (cl_lt0 hv0) (cl_s0 hv0) (by decide) (by decide) lf_C_46 rfl (cl_v11 hv0) (cl_lt hv0 9 (by decide)) (by decide +kernel) <|
  wr_iload_n (q := 1) (by decide +kernel) rfl rfl <|
  wr_aload_n (q := 0) (by decide +kernel) rfl rfl <|
  wr_getR2 (b := v0 + 2) (ci := 0) (k0 := 2) (idx := 19) (cl_lt0 hv0) (cl_s0 hv0) (by decide) (by decide) lf_C_19 rfl (cl_v2 hv0) (cl_lt hv0 2 (by decide)) (by decide +kernel) <|
  wr_iload_n (q := 1) (by decide +kernel) rfl rfl <|
  wr_iald (cl_lt hv0 2 (by decide)) (cl_s2 hv0) q1 (by decide +kernel) <|
  wr_iast (cl_lt hv0 9 (by decide)) (cl_s9 hv0) q2 (by decide +kernel) <|
  k1 _ rfl
theorem b_C_settle_30 {X : aX} {d : Nat} {post : aO} {vi : Nat → Nat → Int32} {vl : Nat → Nat → Int64} {v0 : Nat} {x1 : Int32} {o2 : Option Value} (k1 : post none (mk vi vl)) : wp X (d + 1) k_C_settle 0 0 30 [some (.ref v0), some (.int x1), o2] [] (mk vi vl) post :=
  wr_ret (r := none) (Or.inl ⟨rfl, (by decide +kernel), rfl⟩) k1
theorem b_C_settle_31 {X : aX} {d : Nat} {post : aO} {vi : Nat → Nat → Int32} {vl : Nat → Nat → Int64} {v0 : Nat} {x1 : Int32} {o2 : Option Value} (hv0 : isCl v0) (q1 : vp_in x1 5) (k1 : ¬ (vi (v0 + 1) x1.toNatClampNeg) = (2 : Int32) → wp X (d + 1) k_C_settle 0 0 54 [some (.ref v0), some (.int x1), o2] [] (mk vi vl) post) (k2 : (vi (v0 + 1) x1.toNatClampNeg) = (2 : Int32) → wp X (d + 1) k_C_settle 0 0 41 [some (.ref v0), some (.int x1), o2] [] (mk vi vl) post) : wp X (d + 1) k_C_settle 0 0 31 [some (.ref v0), some (.int x1), o2] [] (mk vi vl) post :=
  wr_aload_n (q := 0) (by decide +kernel) rfl rfl <|
  wr_getR2 (b := v0 + 1) (ci := 0) (k0 := 1) (idx := 15) (cl_lt0 hv0) (cl_s0 hv0) (by decide) (by decide) lf_C_15 rfl (cl_v1 hv0) (cl_lt hv0 1 (by decide)) (by decide +kernel) <|
  wr_iload_n (q := 1) (by decide +kernel) rfl rfl <|
  wr_iald (cl_lt hv0 1 (by decide)) (cl_s1 hv0) q1 (by decide +kernel) <|
  wr_iconst (n := 2) (v := (2 : Int32)) (by decide +kernel) (by decide) <|
  wr_icmp_ne (off := 16) (t := 54) (by decide +kernel) (by decide) k1 k2
theorem b_C_settle_41 {X : aX} {d : Nat} {post : aO} {vi : Nat → Nat → Int32} {vl : Nat → Nat → Int64} {v0 : Nat} {x1 : Int32} {o2 : Option Value} (hv0 : isCl v0) (q1 : vp_in x1 5) (k1 : CallOk X d 0 0 k_C_gapFor [.ref v0, .int (vi (v0 + 2) x1.toNatClampNeg)] (mk vi vl) (fun r N' => wp X (d + 1) k_C_settle 0 0 51 [some (.ref v0), some (.int x1), o2] (pR r []) N' post)) : wp X (d + 1) k_C_settle 0 0 41 [some (.ref v0), some (.int x1), o2] [] (mk vi vl) post :=
  wr_aload_n (q := 0) (by decide +kernel) rfl rfl <|
  wr_aload_n (q := 0) (by decide +kernel) rfl rfl <|
  wr_getR2 (b := v0 + 2) (ci := 0) (k0 := 2) (idx := 19) (cl_lt0 hv0) (cl_s0 hv0) (by decide) (by decide) lf_C_19 rfl (cl_v2 hv0) (cl_lt hv0 2 (by decide)) (by decide +kernel) <|
  wr_iload_n (q := 1) (by decide +kernel) rfl rfl <|
  wr_iald (cl_lt hv0 2 (by decide)) (cl_s2 hv0) q1 (by decide +kernel) <|
  wr_invV (a := v0) (ci := 0) (mid2 := 41) (idx := 77) (b1 := 0) (b2 := 0) (c1 := 0) (c2 := 0) (as := [.int (vi (v0 + 2) x1.toNatClampNeg)]) (st := []) pl_41 rfl (Nat.le_of_ble_eq_true rfl) rfl rfl (cl_lt0 hv0) (cl_s0 hv0) (by decide) rfl lm_C_77 im_41 is_41 (by decide +kernel) k1
theorem b_C_settle_51 {X : aX} {d : Nat} {post : aO} {vi : Nat → Nat → Int32} {vl : Nat → Nat → Int64} {v0 : Nat} {x1 y0 : Int32} {o2 : Option Value} (k1 : wp X (d + 1) k_C_settle 0 0 59 [some (.ref v0), some (.int x1), o2] [.int y0] (mk vi vl) post) : wp X (d + 1) k_C_settle 0 0 51 [some (.ref v0), some (.int x1), o2] [.int y0] (mk vi vl) post :=
  wr_goto (off := 8) (t := 59) (by decide +kernel) (by decide) k1
theorem b_C_settle_54 {X : aX} {d : Nat} {post : aO} {vi : Nat → Nat → Int32} {vl : Nat → Nat → Int64} {v0 : Nat} {x1 : Int32} {o2 : Option Value} (k1 : CallOk X d 0 0 k_C_lawHoldingIn [.ref v0, .int x1] (mk vi vl) (fun r N' => wp X (d + 1) k_C_settle 0 0 59 [some (.ref v0), some (.int x1), o2] (pR r []) N' post)) (hv0 : isCl v0) : wp X (d + 1) k_C_settle 0 0 54 [some (.ref v0), some (.int x1), o2] [] (mk vi vl) post :=
  wr_aload_n (q := 0) (by decide +kernel) rfl rfl <|
  wr_iload_n (q := 1) (by decide +kernel) rfl rfl <|
  wr_invV (a := v0) (ci := 0) (mid2 := 42) (idx := 81) (b1 := 0) (b2 := 0) (c1 := 0) (c2 := 0) (as := [.int x1]) (st := []) pl_42 rfl (Nat.le_of_ble_eq_true rfl) rfl rfl (cl_lt0 hv0) (cl_s0 hv0) (by decide) rfl lm_C_81 im_42 is_42 (by decide +kernel) k1
theorem b_C_settle_59 {X : aX} {d : Nat} {post : aO} {vi : Nat → Nat → Int32} {vl : Nat → Nat → Int64} {v0 : Nat} {x1 y0 : Int32} {o2 : Option Value} (hv0 : isCl v0) (q1 : vp_in x1 5) (k1 : ∀ w, w = up2 vi (v0 + 10) x1.toNatClampNeg y0 → wp X (d + 1) k_C_settle 0 0 67 [some (.ref v0), some (.int x1), some (.int y0)] [] (mk w vl) post) : wp X (d + 1) k_C_settle 0 0 59 [some (.ref v0), some (.int x1), o2] [.int y0] (mk vi vl) post :=
  wr_istore_n (q := 2) (by decide +kernel) rfl (by decide) <|
  wr_aload_n (q := 0) (by decide +kernel) rfl rfl <|
  wr_getR2 (b := v0 + 10) (ci := 0) (k0 := 12) (idx := 49) (cl_lt0 hv0) (cl_s0 hv0) (by decide) (by decide) lf_C_49 rfl (cl_v12 hv0) (cl_lt hv0 10 (by decide)) (by decide +kernel) <|
  wr_iload_n (q := 1) (by decide +kernel) rfl rfl <|
  wr_iload_n (q := 2) (by decide +kernel) rfl rfl <|
  wr_iast (cl_lt hv0 10 (by decide)) (cl_s10 hv0) q1 (by decide +kernel) <|
  k1 _ rfl
theorem b_C_settle_67 {X : aX} {d : Nat} {post : aO} {vi : Nat → Nat → Int32} {vl : Nat → Nat → Int64} {v0 : Nat} {x1 x2 : Int32} (hv0 : isCl v0) (k1 : ¬ x2 = (-9 : Int32) → wp X (d + 1) k_C_settle 0 0 83 [some (.ref v0), some (.int x1), some (.int x2)] [.int x1, .ref (v0 + 9)] (mk vi vl) post) (k2 : x2 = (-9 : Int32) → wp X (d + 1) k_C_settle 0 0 78 [some (.ref v0), some (.int x1), some (.int x2)] [.int x1, .ref (v0 + 9)] (mk vi vl) post) : wp X (d + 1) k_C_settle 0 0 67 [some (.ref v0), some (.int x1), some (.int x2)] [] (mk vi vl) post :=
  wr_aload_n (q := 0) (by decide +kernel) rfl rfl <|
  wr_getR2 (b := v0 + 9) (ci := 0) (k0 := 11) (idx := 46) (cl_lt0 hv0) (cl_s0 hv0) (by decide) (by decide) lf_C_46 rfl (cl_v11 hv0) (cl_lt hv0 9 (by decide)) (by decide +kernel) <|
  wr_iload_n (q := 1) (by decide +kernel) rfl rfl <|
  wr_iload_n (q := 2) (by decide +kernel) rfl rfl <|
  wr_bipush (n := -9) (v := (-9 : Int32)) (by decide +kernel) (by decide) <|
  wr_icmp_ne (off := 8) (t := 83) (by decide +kernel) (by decide) k1 k2
theorem b_C_settle_78 {X : aX} {d : Nat} {post : aO} {vi : Nat → Nat → Int32} {vl : Nat → Nat → Int64} {v0 : Nat} {x1 x2 y1 : Int32} (k1 : wp X (d + 1) k_C_settle 0 0 89 [some (.ref v0), some (.int x1), some (.int x2)] [.int (-9 : Int32), .int y1, .ref (v0 + 9)] (mk vi vl) post) : wp X (d + 1) k_C_settle 0 0 78 [some (.ref v0), some (.int x1), some (.int x2)] [.int y1, .ref (v0 + 9)] (mk vi vl) post :=
  wr_bipush (n := -9) (v := (-9 : Int32)) (by decide +kernel) (by decide) <|
  wr_goto (off := 9) (t := 89) (by decide +kernel) (by decide) k1
theorem b_C_settle_83 {X : aX} {d : Nat} {post : aO} {vi : Nat → Nat → Int32} {vl : Nat → Nat → Int64} {v0 : Nat} {x1 x2 y1 : Int32} (hv0 : isCl v0) (q1 : vp_in x2 8) (k1 : wp X (d + 1) k_C_settle 0 0 89 [some (.ref v0), some (.int x1), some (.int x2)] [.int (vi (v0 + 5) x2.toNatClampNeg), .int y1, .ref (v0 + 9)] (mk vi vl) post) : wp X (d + 1) k_C_settle 0 0 83 [some (.ref v0), some (.int x1), some (.int x2)] [.int y1, .ref (v0 + 9)] (mk vi vl) post :=
  wr_aload_n (q := 0) (by decide +kernel) rfl rfl <|
  wr_getR2 (b := v0 + 5) (ci := 0) (k0 := 6) (idx := 31) (cl_lt0 hv0) (cl_s0 hv0) (by decide) (by decide) lf_C_31 rfl (cl_v6 hv0) (cl_lt hv0 5 (by decide)) (by decide +kernel) <|
  wr_iload_n (q := 2) (by decide +kernel) rfl rfl <|
  wr_iald (cl_lt hv0 5 (by decide)) (cl_s5 hv0) q1 (by decide +kernel) <|
  k1
theorem b_C_settle_89 {X : aX} {d : Nat} {post : aO} {vi : Nat → Nat → Int32} {vl : Nat → Nat → Int64} {v0 : Nat} {x1 x2 y1 y2 : Int32} (hv0 : isCl v0) (q1 : vp_in y1 5) (k1 : ∀ w, w = up2 vi (v0 + 9) y1.toNatClampNeg y2 → wp X (d + 1) k_C_settle 0 0 90 [some (.ref v0), some (.int x1), some (.int x2)] [] (mk w vl) post) : wp X (d + 1) k_C_settle 0 0 89 [some (.ref v0), some (.int x1), some (.int x2)] [.int y2, .int y1, .ref (v0 + 9)] (mk vi vl) post :=
  wr_iast (cl_lt hv0 9 (by decide)) (cl_s9 hv0) q1 (by decide +kernel) <|
  k1 _ rfl
theorem b_C_settle_90 {X : aX} {d : Nat} {post : aO} {vi : Nat → Nat → Int32} {vl : Nat → Nat → Int64} {v0 : Nat} {x1 x2 : Int32} (k1 : post none (mk vi vl)) : wp X (d + 1) k_C_settle 0 0 90 [some (.ref v0), some (.int x1), some (.int x2)] [] (mk vi vl) post :=
  wr_ret (r := none) (Or.inl ⟨rfl, (by decide +kernel), rfl⟩) k1
theorem b_C_gapFor_0 {X : aX} {d : Nat} {post : aO} {vi : Nat → Nat → Int32} {vl : Nat → Nat → Int64} {v0 : Nat} {x1 : Int32} (k1 : wp X (d + 1) k_C_gapFor 0 0 2 [some (.ref v0), some (.int x1), some (.int (0 : Int32))] [] (mk vi vl) post) : wp X (d + 1) k_C_gapFor 0 0 0 [some (.ref v0), some (.int x1), none] [] (mk vi vl) post :=
  wr_iconst (n := 0) (v := (0 : Int32)) (by decide +kernel) (by decide) <|
  wr_istore_n (q := 2) (by decide +kernel) rfl (by decide) <|
  k1
theorem b_C_gapFor_2 {X : aX} {d : Nat} {post : aO} {vi : Nat → Nat → Int32} {vl : Nat → Nat → Int64} {v0 : Nat} {x1 x2 : Int32} (hv0 : isCl v0) (k1 : (vi v0 3) ≤ x2 → wp X (d + 1) k_C_gapFor 0 0 38 [some (.ref v0), some (.int x1), some (.int x2)] [] (mk vi vl) post) (k2 : ¬ (vi v0 3) ≤ x2 → wp X (d + 1) k_C_gapFor 0 0 10 [some (.ref v0), some (.int x1), some (.int x2)] [] (mk vi vl) post) : wp X (d + 1) k_C_gapFor 0 0 2 [some (.ref v0), some (.int x1), some (.int x2)] [] (mk vi vl) post :=
  wr_iload_n (q := 2) (by decide +kernel) rfl rfl <|
  wr_aload_n (q := 0) (by decide +kernel) rfl rfl <|
  wr_getI (ci := 0) (k0 := 3) (idx := 22) (cl_lt0 hv0) (cl_s0 hv0) (by decide) (by decide) lf_C_22 (Or.inl rfl) (by decide +kernel) <|
  wr_icmp_ge (off := 31) (t := 38) (by decide +kernel) (by decide) k1 k2
theorem b_C_gapFor_10 {X : aX} {d : Nat} {post : aO} {vi : Nat → Nat → Int32} {vl : Nat → Nat → Int64} {v0 : Nat} {x1 x2 : Int32} (hv0 : isCl v0) (q1 : vp_in x2 8) (k1 : ¬ (vi (v0 + 3) x2.toNatClampNeg) = (2 : Int32) → wp X (d + 1) k_C_gapFor 0 0 32 [some (.ref v0), some (.int x1), some (.int x2)] [] (mk vi vl) post) (k2 : (vi (v0 + 3) x2.toNatClampNeg) = (2 : Int32) → wp X (d + 1) k_C_gapFor 0 0 20 [some (.ref v0), some (.int x1), some (.int x2)] [] (mk vi vl) post) : wp X (d + 1) k_C_gapFor 0 0 10 [some (.ref v0), some (.int x1), some (.int x2)] [] (mk vi vl) post :=
  wr_aload_n (q := 0) (by decide +kernel) rfl rfl <|
  wr_getR2 (b := v0 + 3) (ci := 0) (k0 := 4) (idx := 25) (cl_lt0 hv0) (cl_s0 hv0) (by decide) (by decide) lf_C_25 rfl (cl_v4 hv0) (cl_lt hv0 3 (by decide)) (by decide +kernel) <|
  wr_iload_n (q := 2) (by decide +kernel) rfl rfl <|
  wr_iald (cl_lt hv0 3 (by decide)) (cl_s3 hv0) q1 (by decide +kernel) <|
  wr_iconst (n := 2) (v := (2 : Int32)) (by decide +kernel) (by decide) <|
  wr_icmp_ne (off := 15) (t := 32) (by decide +kernel) (by decide) k1 k2
theorem b_C_gapFor_20 {X : aX} {d : Nat} {post : aO} {vi : Nat → Nat → Int32} {vl : Nat → Nat → Int64} {v0 : Nat} {x1 x2 : Int32} (hv0 : isCl v0) (q1 : vp_in x2 8) (k1 : ¬ (vi (v0 + 4) x2.toNatClampNeg) = x1 → wp X (d + 1) k_C_gapFor 0 0 32 [some (.ref v0), some (.int x1), some (.int x2)] [] (mk vi vl) post) (k2 : (vi (v0 + 4) x2.toNatClampNeg) = x1 → wp X (d + 1) k_C_gapFor 0 0 30 [some (.ref v0), some (.int x1), some (.int x2)] [] (mk vi vl) post) : wp X (d + 1) k_C_gapFor 0 0 20 [some (.ref v0), some (.int x1), some (.int x2)] [] (mk vi vl) post :=
  wr_aload_n (q := 0) (by decide +kernel) rfl rfl <|
  wr_getR2 (b := v0 + 4) (ci := 0) (k0 := 5) (idx := 28) (cl_lt0 hv0) (cl_s0 hv0) (by decide) (by decide) lf_C_28 rfl (cl_v5 hv0) (cl_lt hv0 4 (by decide)) (by decide +kernel) <|
  wr_iload_n (q := 2) (by decide +kernel) rfl rfl <|
  wr_iald (cl_lt hv0 4 (by decide)) (cl_s4 hv0) q1 (by decide +kernel) <|
  wr_iload_n (q := 1) (by decide +kernel) rfl rfl <|
  wr_icmp_ne (off := 5) (t := 32) (by decide +kernel) (by decide) k1 k2
theorem b_C_gapFor_30 {X : aX} {d : Nat} {post : aO} {vi : Nat → Nat → Int32} {vl : Nat → Nat → Int64} {v0 : Nat} {x1 x2 : Int32} (k1 : post (some (.int x2)) (mk vi vl)) : wp X (d + 1) k_C_gapFor 0 0 30 [some (.ref v0), some (.int x1), some (.int x2)] [] (mk vi vl) post :=
  wr_iload_n (q := 2) (by decide +kernel) rfl rfl <|
  wr_ret (r := some (.int x2)) (Or.inr (Or.inl ⟨_, rfl, (by decide +kernel), (Or.inl rfl)⟩)) k1
theorem b_C_gapFor_32 {X : aX} {d : Nat} {post : aO} {vi : Nat → Nat → Int32} {vl : Nat → Nat → Int64} {v0 : Nat} {x1 x2 : Int32} (k1 : wp X (d + 1) k_C_gapFor 0 0 2 [some (.ref v0), some (.int x1), some (.int (x2 + (1 : Int32)))] [] (mk vi vl) post) : wp X (d + 1) k_C_gapFor 0 0 32 [some (.ref v0), some (.int x1), some (.int x2)] [] (mk vi vl) post :=
  wr_iinc (i := 2) (n := 1) (v := (1 : Int32)) (by decide +kernel) rfl (by decide) (by decide) <|
  wr_goto (off := -33) (t := 2) (by decide +kernel) (by decide) k1
theorem b_C_gapFor_38 {X : aX} {d : Nat} {post : aO} {vi : Nat → Nat → Int32} {vl : Nat → Nat → Int64} {v0 : Nat} {x1 x2 : Int32} (k1 : post (some (.int (-9 : Int32))) (mk vi vl)) : wp X (d + 1) k_C_gapFor 0 0 38 [some (.ref v0), some (.int x1), some (.int x2)] [] (mk vi vl) post :=
  wr_bipush (n := -9) (v := (-9 : Int32)) (by decide +kernel) (by decide) <|
  wr_ret (r := some (.int (-9 : Int32))) (Or.inr (Or.inl ⟨_, rfl, (by decide +kernel), (Or.inl rfl)⟩)) k1
theorem b_C_lawHoldingIn_0 {X : aX} {d : Nat} {post : aO} {vi : Nat → Nat → Int32} {vl : Nat → Nat → Int64} {v0 : Nat} {x1 : Int32} (k1 : wp X (d + 1) k_C_lawHoldingIn 0 0 2 [some (.ref v0), some (.int x1), some (.int (0 : Int32))] [] (mk vi vl) post) : wp X (d + 1) k_C_lawHoldingIn 0 0 0 [some (.ref v0), some (.int x1), none] [] (mk vi vl) post :=
  wr_iconst (n := 0) (v := (0 : Int32)) (by decide +kernel) (by decide) <|
  wr_istore_n (q := 2) (by decide +kernel) rfl (by decide) <|
  k1
theorem b_C_lawHoldingIn_2 {X : aX} {d : Nat} {post : aO} {vi : Nat → Nat → Int32} {vl : Nat → Nat → Int64} {v0 : Nat} {x1 x2 : Int32} (hv0 : isCl v0) (k1 : (vi v0 3) ≤ x2 → wp X (d + 1) k_C_lawHoldingIn 0 0 27 [some (.ref v0), some (.int x1), some (.int x2)] [] (mk vi vl) post) (k2 : ¬ (vi v0 3) ≤ x2 → wp X (d + 1) k_C_lawHoldingIn 0 0 10 [some (.ref v0), some (.int x1), some (.int x2)] [] (mk vi vl) post) : wp X (d + 1) k_C_lawHoldingIn 0 0 2 [some (.ref v0), some (.int x1), some (.int x2)] [] (mk vi vl) post :=
  wr_iload_n (q := 2) (by decide +kernel) rfl rfl <|
  wr_aload_n (q := 0) (by decide +kernel) rfl rfl <|
  wr_getI (ci := 0) (k0 := 3) (idx := 22) (cl_lt0 hv0) (cl_s0 hv0) (by decide) (by decide) lf_C_22 (Or.inl rfl) (by decide +kernel) <|
  wr_icmp_ge (off := 20) (t := 27) (by decide +kernel) (by decide) k1 k2
theorem b_C_lawHoldingIn_10 {X : aX} {d : Nat} {post : aO} {vi : Nat → Nat → Int32} {vl : Nat → Nat → Int64} {v0 : Nat} {x1 x2 : Int32} (k1 : CallOk X d 0 0 k_C_holds [.ref v0, .int x2, .int x1] (mk vi vl) (fun r N' => wp X (d + 1) k_C_lawHoldingIn 0 0 16 [some (.ref v0), some (.int x1), some (.int x2)] (pR r []) N' post)) (hv0 : isCl v0) : wp X (d + 1) k_C_lawHoldingIn 0 0 10 [some (.ref v0), some (.int x1), some (.int x2)] [] (mk vi vl) post :=
  wr_aload_n (q := 0) (by decide +kernel) rfl rfl <|
  wr_iload_n (q := 2) (by decide +kernel) rfl rfl <|
  wr_iload_n (q := 1) (by decide +kernel) rfl rfl <|
  wr_invV (a := v0) (ci := 0) (mid2 := 43) (idx := 84) (b1 := 0) (b2 := 0) (c1 := 0) (c2 := 0) (as := [.int x2, .int x1]) (st := []) pl_43 rfl (Nat.le_of_ble_eq_true rfl) rfl rfl (cl_lt0 hv0) (cl_s0 hv0) (by decide) rfl lm_C_84 im_43 is_43 (by decide +kernel) k1
theorem b_C_lawHoldingIn_16 {X : aX} {d : Nat} {post : aO} {vi : Nat → Nat → Int32} {vl : Nat → Nat → Int64} {v0 : Nat} {x1 x2 y0 : Int32} (k1 : y0 = 0 → wp X (d + 1) k_C_lawHoldingIn 0 0 21 [some (.ref v0), some (.int x1), some (.int x2)] [] (mk vi vl) post) (k2 : ¬ y0 = 0 → wp X (d + 1) k_C_lawHoldingIn 0 0 19 [some (.ref v0), some (.int x1), some (.int x2)] [] (mk vi vl) post) : wp X (d + 1) k_C_lawHoldingIn 0 0 16 [some (.ref v0), some (.int x1), some (.int x2)] [.int y0] (mk vi vl) post :=
  wr_if_eq (off := 5) (t := 21) (by decide +kernel) (by decide) k1 k2
theorem b_C_lawHoldingIn_19 {X : aX} {d : Nat} {post : aO} {vi : Nat → Nat → Int32} {vl : Nat → Nat → Int64} {v0 : Nat} {x1 x2 : Int32} (k1 : post (some (.int x2)) (mk vi vl)) : wp X (d + 1) k_C_lawHoldingIn 0 0 19 [some (.ref v0), some (.int x1), some (.int x2)] [] (mk vi vl) post :=
  wr_iload_n (q := 2) (by decide +kernel) rfl rfl <|
  wr_ret (r := some (.int x2)) (Or.inr (Or.inl ⟨_, rfl, (by decide +kernel), (Or.inl rfl)⟩)) k1
theorem b_C_lawHoldingIn_21 {X : aX} {d : Nat} {post : aO} {vi : Nat → Nat → Int32} {vl : Nat → Nat → Int64} {v0 : Nat} {x1 x2 : Int32} (k1 : wp X (d + 1) k_C_lawHoldingIn 0 0 2 [some (.ref v0), some (.int x1), some (.int (x2 + (1 : Int32)))] [] (mk vi vl) post) : wp X (d + 1) k_C_lawHoldingIn 0 0 21 [some (.ref v0), some (.int x1), some (.int x2)] [] (mk vi vl) post :=
  wr_iinc (i := 2) (n := 1) (v := (1 : Int32)) (by decide +kernel) rfl (by decide) (by decide) <|
  wr_goto (off := -22) (t := 2) (by decide +kernel) (by decide) k1
theorem b_C_lawHoldingIn_27 {X : aX} {d : Nat} {post : aO} {vi : Nat → Nat → Int32} {vl : Nat → Nat → Int64} {v0 : Nat} {x1 x2 : Int32} (k1 : post (some (.int (-9 : Int32))) (mk vi vl)) : wp X (d + 1) k_C_lawHoldingIn 0 0 27 [some (.ref v0), some (.int x1), some (.int x2)] [] (mk vi vl) post :=
  wr_bipush (n := -9) (v := (-9 : Int32)) (by decide +kernel) (by decide) <|
  wr_ret (r := some (.int (-9 : Int32))) (Or.inr (Or.inl ⟨_, rfl, (by decide +kernel), (Or.inl rfl)⟩)) k1
theorem b_C_holds_0 {X : aX} {d : Nat} {post : aO} {vi : Nat → Nat → Int32} {vl : Nat → Nat → Int64} {v0 : Nat} {x1 x2 : Int32} (k1 : x2 < (1 : Int32) → wp X (d + 1) k_C_holds 0 0 26 [some (.ref v0), some (.int x1), some (.int x2), none, none] [] (mk vi vl) post) (k2 : ¬ x2 < (1 : Int32) → wp X (d + 1) k_C_holds 0 0 5 [some (.ref v0), some (.int x1), some (.int x2), none, none] [] (mk vi vl) post) : wp X (d + 1) k_C_holds 0 0 0 [some (.ref v0), some (.int x1), some (.int x2), none, none] [] (mk vi vl) post :=
  wr_iload_n (q := 2) (by decide +kernel) rfl rfl <|
  wr_iconst (n := 1) (v := (1 : Int32)) (by decide +kernel) (by decide) <|
  wr_icmp_lt (off := 24) (t := 26) (by decide +kernel) (by decide) k1 k2
theorem b_C_holds_5 {X : aX} {d : Nat} {post : aO} {vi : Nat → Nat → Int32} {vl : Nat → Nat → Int64} {v0 : Nat} {x1 x2 : Int32} {o3 o4 : Option Value} (hv0 : isCl v0) (q1 : vp_in (x2 - (1 : Int32)) 5) (q2 : vp_in x1 8) (k1 : ¬ (vi (v0 + 9) (x2 - (1 : Int32)).toNatClampNeg) = (vi (v0 + 4) x1.toNatClampNeg) → wp X (d + 1) k_C_holds 0 0 26 [some (.ref v0), some (.int x1), some (.int x2), o3, o4] [] (mk vi vl) post) (k2 : (vi (v0 + 9) (x2 - (1 : Int32)).toNatClampNeg) = (vi (v0 + 4) x1.toNatClampNeg) → wp X (d + 1) k_C_holds 0 0 22 [some (.ref v0), some (.int x1), some (.int x2), o3, o4] [] (mk vi vl) post) : wp X (d + 1) k_C_holds 0 0 5 [some (.ref v0), some (.int x1), some (.int x2), o3, o4] [] (mk vi vl) post :=
  wr_aload_n (q := 0) (by decide +kernel) rfl rfl <|
  wr_getR2 (b := v0 + 9) (ci := 0) (k0 := 11) (idx := 46) (cl_lt0 hv0) (cl_s0 hv0) (by decide) (by decide) lf_C_46 rfl (cl_v11 hv0) (cl_lt hv0 9 (by decide)) (by decide +kernel) <|
  wr_iload_n (q := 2) (by decide +kernel) rfl rfl <|
  wr_iconst (n := 1) (v := (1 : Int32)) (by decide +kernel) (by decide) <|
  wr_isub (by decide +kernel) <|
  wr_iald (cl_lt hv0 9 (by decide)) (cl_s9 hv0) q1 (by decide +kernel) <|
  wr_aload_n (q := 0) (by decide +kernel) rfl rfl <|
  wr_getR2 (b := v0 + 4) (ci := 0) (k0 := 5) (idx := 28) (cl_lt0 hv0) (cl_s0 hv0) (by decide) (by decide) lf_C_28 rfl (cl_v5 hv0) (cl_lt hv0 4 (by decide)) (by decide +kernel) <|
  wr_iload_n (q := 1) (by decide +kernel) rfl rfl <|
  wr_iald (cl_lt hv0 4 (by decide)) (cl_s4 hv0) q2 (by decide +kernel) <|
  wr_icmp_ne (off := 7) (t := 26) (by decide +kernel) (by decide) k1 k2
theorem b_C_holds_22 {X : aX} {d : Nat} {post : aO} {vi : Nat → Nat → Int32} {vl : Nat → Nat → Int64} {v0 : Nat} {x1 x2 : Int32} {o3 o4 : Option Value} (k1 : wp X (d + 1) k_C_holds 0 0 27 [some (.ref v0), some (.int x1), some (.int x2), o3, o4] [.int (1 : Int32)] (mk vi vl) post) : wp X (d + 1) k_C_holds 0 0 22 [some (.ref v0), some (.int x1), some (.int x2), o3, o4] [] (mk vi vl) post :=
  wr_iconst (n := 1) (v := (1 : Int32)) (by decide +kernel) (by decide) <|
  wr_goto (off := 4) (t := 27) (by decide +kernel) (by decide) k1
theorem b_C_holds_26 {X : aX} {d : Nat} {post : aO} {vi : Nat → Nat → Int32} {vl : Nat → Nat → Int64} {v0 : Nat} {x1 x2 : Int32} {o3 o4 : Option Value} (k1 : wp X (d + 1) k_C_holds 0 0 27 [some (.ref v0), some (.int x1), some (.int x2), o3, o4] [.int (0 : Int32)] (mk vi vl) post) : wp X (d + 1) k_C_holds 0 0 26 [some (.ref v0), some (.int x1), some (.int x2), o3, o4] [] (mk vi vl) post :=
  wr_iconst (n := 0) (v := (0 : Int32)) (by decide +kernel) (by decide) <|
  k1
theorem b_C_holds_27 {X : aX} {d : Nat} {post : aO} {vi : Nat → Nat → Int32} {vl : Nat → Nat → Int64} {v0 : Nat} {x1 x2 y0 : Int32} {o3 o4 : Option Value} (k1 : x2 < (2 : Int32) → wp X (d + 1) k_C_holds 0 0 54 [some (.ref v0), some (.int x1), some (.int x2), some (.int y0), o4] [] (mk vi vl) post) (k2 : ¬ x2 < (2 : Int32) → wp X (d + 1) k_C_holds 0 0 33 [some (.ref v0), some (.int x1), some (.int x2), some (.int y0), o4] [] (mk vi vl) post) : wp X (d + 1) k_C_holds 0 0 27 [some (.ref v0), some (.int x1), some (.int x2), o3, o4] [.int y0] (mk vi vl) post :=
  wr_istore_n (q := 3) (by decide +kernel) rfl (by decide) <|
  wr_iload_n (q := 2) (by decide +kernel) rfl rfl <|
  wr_iconst (n := 2) (v := (2 : Int32)) (by decide +kernel) (by decide) <|
  wr_icmp_lt (off := 24) (t := 54) (by decide +kernel) (by decide) k1 k2
theorem b_C_holds_33 {X : aX} {d : Nat} {post : aO} {vi : Nat → Nat → Int32} {vl : Nat → Nat → Int64} {v0 : Nat} {x1 x2 x3 : Int32} {o4 : Option Value} (hv0 : isCl v0) (q1 : vp_in (x2 - (2 : Int32)) 5) (q2 : vp_in x1 8) (k1 : ¬ (vi (v0 + 9) (x2 - (2 : Int32)).toNatClampNeg) = (vi (v0 + 4) x1.toNatClampNeg) → wp X (d + 1) k_C_holds 0 0 54 [some (.ref v0), some (.int x1), some (.int x2), some (.int x3), o4] [] (mk vi vl) post) (k2 : (vi (v0 + 9) (x2 - (2 : Int32)).toNatClampNeg) = (vi (v0 + 4) x1.toNatClampNeg) → wp X (d + 1) k_C_holds 0 0 50 [some (.ref v0), some (.int x1), some (.int x2), some (.int x3), o4] [] (mk vi vl) post) : wp X (d + 1) k_C_holds 0 0 33 [some (.ref v0), some (.int x1), some (.int x2), some (.int x3), o4] [] (mk vi vl) post :=
  wr_aload_n (q := 0) (by decide +kernel) rfl rfl <|
  wr_getR2 (b := v0 + 9) (ci := 0) (k0 := 11) (idx := 46) (cl_lt0 hv0) (cl_s0 hv0) (by decide) (by decide) lf_C_46 rfl (cl_v11 hv0) (cl_lt hv0 9 (by decide)) (by decide +kernel) <|
  wr_iload_n (q := 2) (by decide +kernel) rfl rfl <|
  wr_iconst (n := 2) (v := (2 : Int32)) (by decide +kernel) (by decide) <|
  wr_isub (by decide +kernel) <|
  wr_iald (cl_lt hv0 9 (by decide)) (cl_s9 hv0) q1 (by decide +kernel) <|
  wr_aload_n (q := 0) (by decide +kernel) rfl rfl <|
  wr_getR2 (b := v0 + 4) (ci := 0) (k0 := 5) (idx := 28) (cl_lt0 hv0) (cl_s0 hv0) (by decide) (by decide) lf_C_28 rfl (cl_v5 hv0) (cl_lt hv0 4 (by decide)) (by decide +kernel) <|
  wr_iload_n (q := 1) (by decide +kernel) rfl rfl <|
  wr_iald (cl_lt hv0 4 (by decide)) (cl_s4 hv0) q2 (by decide +kernel) <|
  wr_icmp_ne (off := 7) (t := 54) (by decide +kernel) (by decide) k1 k2
theorem b_C_holds_50 {X : aX} {d : Nat} {post : aO} {vi : Nat → Nat → Int32} {vl : Nat → Nat → Int64} {v0 : Nat} {x1 x2 x3 : Int32} {o4 : Option Value} (k1 : wp X (d + 1) k_C_holds 0 0 55 [some (.ref v0), some (.int x1), some (.int x2), some (.int x3), o4] [.int (1 : Int32)] (mk vi vl) post) : wp X (d + 1) k_C_holds 0 0 50 [some (.ref v0), some (.int x1), some (.int x2), some (.int x3), o4] [] (mk vi vl) post :=
  wr_iconst (n := 1) (v := (1 : Int32)) (by decide +kernel) (by decide) <|
  wr_goto (off := 4) (t := 55) (by decide +kernel) (by decide) k1
theorem b_C_holds_54 {X : aX} {d : Nat} {post : aO} {vi : Nat → Nat → Int32} {vl : Nat → Nat → Int64} {v0 : Nat} {x1 x2 x3 : Int32} {o4 : Option Value} (k1 : wp X (d + 1) k_C_holds 0 0 55 [some (.ref v0), some (.int x1), some (.int x2), some (.int x3), o4] [.int (0 : Int32)] (mk vi vl) post) : wp X (d + 1) k_C_holds 0 0 54 [some (.ref v0), some (.int x1), some (.int x2), some (.int x3), o4] [] (mk vi vl) post :=
  wr_iconst (n := 0) (v := (0 : Int32)) (by decide +kernel) (by decide) <|
  k1
theorem b_C_holds_55 {X : aX} {d : Nat} {post : aO} {vi : Nat → Nat → Int32} {vl : Nat → Nat → Int64} {v0 : Nat} {x1 x2 x3 y0 : Int32} {o4 : Option Value} (hv0 : isCl v0) (q1 : vp_in x1 8) (k1 : swk (fun t => wp X (d + 1) k_C_holds 0 0 t [some (.ref v0), some (.int x1), some (.int x2), some (.int x3), some (.int y0)] [] (mk vi vl) post) 116 (vi (v0 + 3) x1.toNatClampNeg) [((0 : Int32), 96), ((3 : Int32), 98), ((5 : Int32), 101)]) : wp X (d + 1) k_C_holds 0 0 55 [some (.ref v0), some (.int x1), some (.int x2), some (.int x3), o4] [.int y0] (mk vi vl) post :=
  wr_istore (i := 4) (by decide +kernel) (by decide) <|
  wr_aload_n (q := 0) (by decide +kernel) rfl rfl <|
  wr_getR2 (b := v0 + 3) (ci := 0) (k0 := 4) (idx := 25) (cl_lt0 hv0) (cl_s0 hv0) (by decide) (by decide) lf_C_25 rfl (cl_v4 hv0) (cl_lt hv0 3 (by decide)) (by decide +kernel) <|
  wr_iload_n (q := 1) (by decide +kernel) rfl rfl <|
  wr_iald (cl_lt hv0 3 (by decide)) (cl_s3 hv0) q1 (by decide +kernel) <|
  wr_lsw (dflt := 53) (ps := #[(0, 33), (3, 35), (5, 38)]) (len := 33) (dt := 116) (ts := [((0 : Int32), 96), ((3 : Int32), 98), ((5 : Int32), 101)]) (by decide +kernel) (by decide +kernel) (by decide +kernel) (by decide) k1
theorem b_C_holds_96 {X : aX} {d : Nat} {post : aO} {vi : Nat → Nat → Int32} {vl : Nat → Nat → Int64} {v0 : Nat} {x1 x2 x3 x4 : Int32} (q1 : x3 = 0 ∨ x3 = 1) (k1 : post (some (.int x3)) (mk vi vl)) : wp X (d + 1) k_C_holds 0 0 96 [some (.ref v0), some (.int x1), some (.int x2), some (.int x3), some (.int x4)] [] (mk vi vl) post :=
  wr_iload_n (q := 3) (by decide +kernel) rfl rfl <|
  wr_ret (r := some (.int x3)) (Or.inr (Or.inl ⟨_, rfl, (by decide +kernel), (Or.inr ⟨rfl, q1⟩)⟩)) k1
theorem b_C_holds_98 {X : aX} {d : Nat} {post : aO} {vi : Nat → Nat → Int32} {vl : Nat → Nat → Int64} {v0 : Nat} {x1 x2 x3 x4 : Int32} (q1 : x4 = 0 ∨ x4 = 1) (k1 : post (some (.int x4)) (mk vi vl)) : wp X (d + 1) k_C_holds 0 0 98 [some (.ref v0), some (.int x1), some (.int x2), some (.int x3), some (.int x4)] [] (mk vi vl) post :=
  wr_iload (i := 4) (by decide +kernel) rfl <|
  wr_ret (r := some (.int x4)) (Or.inr (Or.inl ⟨_, rfl, (by decide +kernel), (Or.inr ⟨rfl, q1⟩)⟩)) k1
theorem b_C_holds_101 {X : aX} {d : Nat} {post : aO} {vi : Nat → Nat → Int32} {vl : Nat → Nat → Int64} {v0 : Nat} {x1 x2 x3 x4 : Int32} (k1 : ¬ x3 = 0 → wp X (d + 1) k_C_holds 0 0 110 [some (.ref v0), some (.int x1), some (.int x2), some (.int x3), some (.int x4)] [] (mk vi vl) post) (k2 : x3 = 0 → wp X (d + 1) k_C_holds 0 0 105 [some (.ref v0), some (.int x1), some (.int x2), some (.int x3), some (.int x4)] [] (mk vi vl) post) : wp X (d + 1) k_C_holds 0 0 101 [some (.ref v0), some (.int x1), some (.int x2), some (.int x3), some (.int x4)] [] (mk vi vl) post :=
  wr_iload_n (q := 3) (by decide +kernel) rfl rfl <|
  wr_if_ne (off := 8) (t := 110) (by decide +kernel) (by decide) k1 k2
theorem b_C_holds_105 {X : aX} {d : Nat} {post : aO} {vi : Nat → Nat → Int32} {vl : Nat → Nat → Int64} {v0 : Nat} {x1 x2 x3 x4 : Int32} (k1 : x4 = 0 → wp X (d + 1) k_C_holds 0 0 114 [some (.ref v0), some (.int x1), some (.int x2), some (.int x3), some (.int x4)] [] (mk vi vl) post) (k2 : ¬ x4 = 0 → wp X (d + 1) k_C_holds 0 0 110 [some (.ref v0), some (.int x1), some (.int x2), some (.int x3), some (.int x4)] [] (mk vi vl) post) : wp X (d + 1) k_C_holds 0 0 105 [some (.ref v0), some (.int x1), some (.int x2), some (.int x3), some (.int x4)] [] (mk vi vl) post :=
  wr_iload (i := 4) (by decide +kernel) rfl <|
  wr_if_eq (off := 7) (t := 114) (by decide +kernel) (by decide) k1 k2
theorem b_C_holds_110 {X : aX} {d : Nat} {post : aO} {vi : Nat → Nat → Int32} {vl : Nat → Nat → Int64} {v0 : Nat} {x1 x2 x3 x4 : Int32} (k1 : wp X (d + 1) k_C_holds 0 0 115 [some (.ref v0), some (.int x1), some (.int x2), some (.int x3), some (.int x4)] [.int (1 : Int32)] (mk vi vl) post) : wp X (d + 1) k_C_holds 0 0 110 [some (.ref v0), some (.int x1), some (.int x2), some (.int x3), some (.int x4)] [] (mk vi vl) post :=
  wr_iconst (n := 1) (v := (1 : Int32)) (by decide +kernel) (by decide) <|
  wr_goto (off := 4) (t := 115) (by decide +kernel) (by decide) k1
theorem b_C_holds_114 {X : aX} {d : Nat} {post : aO} {vi : Nat → Nat → Int32} {vl : Nat → Nat → Int64} {v0 : Nat} {x1 x2 x3 x4 : Int32} (k1 : wp X (d + 1) k_C_holds 0 0 115 [some (.ref v0), some (.int x1), some (.int x2), some (.int x3), some (.int x4)] [.int (0 : Int32)] (mk vi vl) post) : wp X (d + 1) k_C_holds 0 0 114 [some (.ref v0), some (.int x1), some (.int x2), some (.int x3), some (.int x4)] [] (mk vi vl) post :=
  wr_iconst (n := 0) (v := (0 : Int32)) (by decide +kernel) (by decide) <|
  k1
theorem b_C_holds_115 {X : aX} {d : Nat} {post : aO} {vi : Nat → Nat → Int32} {vl : Nat → Nat → Int64} {v0 : Nat} {x1 x2 x3 x4 y0 : Int32} (q1 : y0 = 0 ∨ y0 = 1) (k1 : post (some (.int y0)) (mk vi vl)) : wp X (d + 1) k_C_holds 0 0 115 [some (.ref v0), some (.int x1), some (.int x2), some (.int x3), some (.int x4)] [.int y0] (mk vi vl) post :=
  wr_ret (r := some (.int y0)) (Or.inr (Or.inl ⟨_, rfl, (by decide +kernel), (Or.inr ⟨rfl, q1⟩)⟩)) k1
theorem b_C_holds_116 {X : aX} {d : Nat} {post : aO} {vi : Nat → Nat → Int32} {vl : Nat → Nat → Int64} {v0 : Nat} {x1 x2 x3 x4 : Int32} (k1 : post (some (.int (0 : Int32))) (mk vi vl)) : wp X (d + 1) k_C_holds 0 0 116 [some (.ref v0), some (.int x1), some (.int x2), some (.int x3), some (.int x4)] [] (mk vi vl) post :=
  wr_iconst (n := 0) (v := (0 : Int32)) (by decide +kernel) (by decide) <|
  wr_ret (r := some (.int (0 : Int32))) (Or.inr (Or.inl ⟨_, rfl, (by decide +kernel), (Or.inr ⟨rfl, (by decide)⟩)⟩)) k1
theorem b_C_isBroken_0 {X : aX} {d : Nat} {post : aO} {vi : Nat → Nat → Int32} {vl : Nat → Nat → Int64} {v0 : Nat} {x1 : Int32} (k1 : wp X (d + 1) k_C_isBroken 0 0 2 [some (.ref v0), some (.int x1), some (.int (1 : Int32))] [] (mk vi vl) post) : wp X (d + 1) k_C_isBroken 0 0 0 [some (.ref v0), some (.int x1), none] [] (mk vi vl) post :=
  wr_iconst (n := 1) (v := (1 : Int32)) (by decide +kernel) (by decide) <|
  wr_istore_n (q := 2) (by decide +kernel) rfl (by decide) <|
  k1
theorem b_C_isBroken_2 {X : aX} {d : Nat} {post : aO} {vi : Nat → Nat → Int32} {vl : Nat → Nat → Int64} {v0 : Nat} {x1 x2 : Int32} (hv0 : isCl v0) (k1 : (vi v0 0) ≤ x2 → wp X (d + 1) k_C_isBroken 0 0 27 [some (.ref v0), some (.int x1), some (.int x2)] [] (mk vi vl) post) (k2 : ¬ (vi v0 0) ≤ x2 → wp X (d + 1) k_C_isBroken 0 0 10 [some (.ref v0), some (.int x1), some (.int x2)] [] (mk vi vl) post) : wp X (d + 1) k_C_isBroken 0 0 2 [some (.ref v0), some (.int x1), some (.int x2)] [] (mk vi vl) post :=
  wr_iload_n (q := 2) (by decide +kernel) rfl rfl <|
  wr_aload_n (q := 0) (by decide +kernel) rfl rfl <|
  wr_getI (ci := 0) (k0 := 0) (idx := 9) (cl_lt0 hv0) (cl_s0 hv0) (by decide) (by decide) lf_C_9 (Or.inl rfl) (by decide +kernel) <|
  wr_icmp_ge (off := 20) (t := 27) (by decide +kernel) (by decide) k1 k2
theorem b_C_isBroken_10 {X : aX} {d : Nat} {post : aO} {vi : Nat → Nat → Int32} {vl : Nat → Nat → Int64} {v0 : Nat} {x1 x2 : Int32} (k1 : CallOk X d 0 0 k_C_isBrokenIn [.ref v0, .int x1, .int x2] (mk vi vl) (fun r N' => wp X (d + 1) k_C_isBroken 0 0 16 [some (.ref v0), some (.int x1), some (.int x2)] (pR r []) N' post)) (hv0 : isCl v0) : wp X (d + 1) k_C_isBroken 0 0 10 [some (.ref v0), some (.int x1), some (.int x2)] [] (mk vi vl) post :=
  wr_aload_n (q := 0) (by decide +kernel) rfl rfl <|
  wr_iload_n (q := 1) (by decide +kernel) rfl rfl <|
  wr_iload_n (q := 2) (by decide +kernel) rfl rfl <|
  wr_invV (a := v0) (ci := 0) (mid2 := 51) (idx := 103) (b1 := 0) (b2 := 0) (c1 := 0) (c2 := 0) (as := [.int x1, .int x2]) (st := []) pl_51 rfl (Nat.le_of_ble_eq_true rfl) rfl rfl (cl_lt0 hv0) (cl_s0 hv0) (by decide) rfl lm_C_103 im_51 is_51 (by decide +kernel) k1
theorem b_C_isBroken_16 {X : aX} {d : Nat} {post : aO} {vi : Nat → Nat → Int32} {vl : Nat → Nat → Int64} {v0 : Nat} {x1 x2 y0 : Int32} (k1 : y0 = 0 → wp X (d + 1) k_C_isBroken 0 0 21 [some (.ref v0), some (.int x1), some (.int x2)] [] (mk vi vl) post) (k2 : ¬ y0 = 0 → wp X (d + 1) k_C_isBroken 0 0 19 [some (.ref v0), some (.int x1), some (.int x2)] [] (mk vi vl) post) : wp X (d + 1) k_C_isBroken 0 0 16 [some (.ref v0), some (.int x1), some (.int x2)] [.int y0] (mk vi vl) post :=
  wr_if_eq (off := 5) (t := 21) (by decide +kernel) (by decide) k1 k2
theorem b_C_isBroken_19 {X : aX} {d : Nat} {post : aO} {vi : Nat → Nat → Int32} {vl : Nat → Nat → Int64} {v0 : Nat} {x1 x2 : Int32} (k1 : post (some (.int (1 : Int32))) (mk vi vl)) : wp X (d + 1) k_C_isBroken 0 0 19 [some (.ref v0), some (.int x1), some (.int x2)] [] (mk vi vl) post :=
  wr_iconst (n := 1) (v := (1 : Int32)) (by decide +kernel) (by decide) <|
  wr_ret (r := some (.int (1 : Int32))) (Or.inr (Or.inl ⟨_, rfl, (by decide +kernel), (Or.inr ⟨rfl, (by decide)⟩)⟩)) k1
theorem b_C_isBroken_21 {X : aX} {d : Nat} {post : aO} {vi : Nat → Nat → Int32} {vl : Nat → Nat → Int64} {v0 : Nat} {x1 x2 : Int32} (k1 : wp X (d + 1) k_C_isBroken 0 0 2 [some (.ref v0), some (.int x1), some (.int (x2 + (1 : Int32)))] [] (mk vi vl) post) : wp X (d + 1) k_C_isBroken 0 0 21 [some (.ref v0), some (.int x1), some (.int x2)] [] (mk vi vl) post :=
  wr_iinc (i := 2) (n := 1) (v := (1 : Int32)) (by decide +kernel) rfl (by decide) (by decide) <|
  wr_goto (off := -22) (t := 2) (by decide +kernel) (by decide) k1
theorem b_C_isBroken_27 {X : aX} {d : Nat} {post : aO} {vi : Nat → Nat → Int32} {vl : Nat → Nat → Int64} {v0 : Nat} {x1 x2 : Int32} (k1 : post (some (.int (0 : Int32))) (mk vi vl)) : wp X (d + 1) k_C_isBroken 0 0 27 [some (.ref v0), some (.int x1), some (.int x2)] [] (mk vi vl) post :=
  wr_iconst (n := 0) (v := (0 : Int32)) (by decide +kernel) (by decide) <|
  wr_ret (r := some (.int (0 : Int32))) (Or.inr (Or.inl ⟨_, rfl, (by decide +kernel), (Or.inr ⟨rfl, (by decide)⟩)⟩)) k1
theorem b_C_isBrokenIn_0 {X : aX} {d : Nat} {post : aO} {vi : Nat → Nat → Int32} {vl : Nat → Nat → Int64} {v0 : Nat} {x1 x2 : Int32} (k1 : CallOk X d 0 0 k_C_isOfKind [.ref v0, .int x1, .int (1 : Int32)] (mk vi vl) (fun r N' => wp X (d + 1) k_C_isBrokenIn 0 0 6 [some (.ref v0), some (.int x1), some (.int x2), none] (pR r []) N' post)) (hv0 : isCl v0) : wp X (d + 1) k_C_isBrokenIn 0 0 0 [some (.ref v0), some (.int x1), some (.int x2), none] [] (mk vi vl) post :=
  wr_aload_n (q := 0) (by decide +kernel) rfl rfl <|
  wr_iload_n (q := 1) (by decide +kernel) rfl rfl <|
  wr_iconst (n := 1) (v := (1 : Int32)) (by decide +kernel) (by decide) <|
  wr_invV (a := v0) (ci := 0) (mid2 := 52) (idx := 94) (b1 := 0) (b2 := 0) (c1 := 0) (c2 := 0) (as := [.int x1, .int (1 : Int32)]) (st := []) pl_52 rfl (Nat.le_of_ble_eq_true rfl) rfl rfl (cl_lt0 hv0) (cl_s0 hv0) (by decide) rfl lm_C_94 im_52 is_52 (by decide +kernel) k1
theorem b_C_isBrokenIn_6 {X : aX} {d : Nat} {post : aO} {vi : Nat → Nat → Int32} {vl : Nat → Nat → Int64} {v0 : Nat} {x1 x2 y0 : Int32} {o3 : Option Value} (k1 : ¬ y0 = 0 → wp X (d + 1) k_C_isBrokenIn 0 0 11 [some (.ref v0), some (.int x1), some (.int x2), o3] [] (mk vi vl) post) (k2 : y0 = 0 → wp X (d + 1) k_C_isBrokenIn 0 0 9 [some (.ref v0), some (.int x1), some (.int x2), o3] [] (mk vi vl) post) : wp X (d + 1) k_C_isBrokenIn 0 0 6 [some (.ref v0), some (.int x1), some (.int x2), o3] [.int y0] (mk vi vl) post :=
  wr_if_ne (off := 5) (t := 11) (by decide +kernel) (by decide) k1 k2
theorem b_C_isBrokenIn_9 {X : aX} {d : Nat} {post : aO} {vi : Nat → Nat → Int32} {vl : Nat → Nat → Int64} {v0 : Nat} {x1 x2 : Int32} {o3 : Option Value} (k1 : post (some (.int (0 : Int32))) (mk vi vl)) : wp X (d + 1) k_C_isBrokenIn 0 0 9 [some (.ref v0), some (.int x1), some (.int x2), o3] [] (mk vi vl) post :=
  wr_iconst (n := 0) (v := (0 : Int32)) (by decide +kernel) (by decide) <|
  wr_ret (r := some (.int (0 : Int32))) (Or.inr (Or.inl ⟨_, rfl, (by decide +kernel), (Or.inr ⟨rfl, (by decide)⟩)⟩)) k1
theorem b_C_isBrokenIn_11 {X : aX} {d : Nat} {post : aO} {vi : Nat → Nat → Int32} {vl : Nat → Nat → Int64} {v0 : Nat} {x1 x2 : Int32} {o3 : Option Value} (hv0 : isCl v0) (q1 : vp_in x1 8) (k1 : ¬ (vi (v0 + 3) x1.toNatClampNeg) = (4 : Int32) → wp X (d + 1) k_C_isBrokenIn 0 0 25 [some (.ref v0), some (.int x1), some (.int x2), o3] [] (mk vi vl) post) (k2 : (vi (v0 + 3) x1.toNatClampNeg) = (4 : Int32) → wp X (d + 1) k_C_isBrokenIn 0 0 21 [some (.ref v0), some (.int x1), some (.int x2), o3] [] (mk vi vl) post) : wp X (d + 1) k_C_isBrokenIn 0 0 11 [some (.ref v0), some (.int x1), some (.int x2), o3] [] (mk vi vl) post :=
  wr_aload_n (q := 0) (by decide +kernel) rfl rfl <|
  wr_getR2 (b := v0 + 3) (ci := 0) (k0 := 4) (idx := 25) (cl_lt0 hv0) (cl_s0 hv0) (by decide) (by decide) lf_C_25 rfl (cl_v4 hv0) (cl_lt hv0 3 (by decide)) (by decide +kernel) <|
  wr_iload_n (q := 1) (by decide +kernel) rfl rfl <|
  wr_iald (cl_lt hv0 3 (by decide)) (cl_s3 hv0) q1 (by decide +kernel) <|
  wr_iconst (n := 4) (v := (4 : Int32)) (by decide +kernel) (by decide) <|
  wr_icmp_ne (off := 7) (t := 25) (by decide +kernel) (by decide) k1 k2
theorem b_C_isBrokenIn_21 {X : aX} {d : Nat} {post : aO} {vi : Nat → Nat → Int32} {vl : Nat → Nat → Int64} {v0 : Nat} {x1 x2 : Int32} {o3 : Option Value} (k1 : wp X (d + 1) k_C_isBrokenIn 0 0 32 [some (.ref v0), some (.int x1), some (.int x2), o3] [.int (0 : Int32)] (mk vi vl) post) : wp X (d + 1) k_C_isBrokenIn 0 0 21 [some (.ref v0), some (.int x1), some (.int x2), o3] [] (mk vi vl) post :=
  wr_iconst (n := 0) (v := (0 : Int32)) (by decide +kernel) (by decide) <|
  wr_goto (off := 10) (t := 32) (by decide +kernel) (by decide) k1
theorem b_C_isBrokenIn_25 {X : aX} {d : Nat} {post : aO} {vi : Nat → Nat → Int32} {vl : Nat → Nat → Int64} {v0 : Nat} {x1 x2 : Int32} {o3 : Option Value} (k1 : CallOk X d 0 0 k_J_max [.int (0 : Int32), .int (x2 - (1 : Int32))] (mk vi vl) (fun r N' => wp X (d + 1) k_C_isBrokenIn 0 0 32 [some (.ref v0), some (.int x1), some (.int x2), o3] (pR r []) N' post)) : wp X (d + 1) k_C_isBrokenIn 0 0 25 [some (.ref v0), some (.int x1), some (.int x2), o3] [] (mk vi vl) post :=
  wr_iconst (n := 0) (v := (0 : Int32)) (by decide +kernel) (by decide) <|
  wr_iload_n (q := 2) (by decide +kernel) rfl rfl <|
  wr_iconst (n := 1) (v := (1 : Int32)) (by decide +kernel) (by decide) <|
  wr_isub (by decide +kernel) <|
  wr_invS (mid2 := 5) (idx := 97) (b1 := 0) (b2 := 0) (c1 := 0) (c2 := 0) (as := [.int (0 : Int32), .int (x2 - (1 : Int32))]) (st := []) pl_5 rfl (Nat.le_of_ble_eq_true rfl) rfl rfl lm_C_97 it_5 (by decide +kernel) k1
theorem b_C_isBrokenIn_32 {X : aX} {d : Nat} {post : aO} {vi : Nat → Nat → Int32} {vl : Nat → Nat → Int64} {v0 : Nat} {x1 x2 y0 : Int32} {o3 : Option Value} (k1 : wp X (d + 1) k_C_isBrokenIn 0 0 33 [some (.ref v0), some (.int x1), some (.int x2), some (.int y0)] [] (mk vi vl) post) : wp X (d + 1) k_C_isBrokenIn 0 0 32 [some (.ref v0), some (.int x1), some (.int x2), o3] [.int y0] (mk vi vl) post :=
  wr_istore_n (q := 3) (by decide +kernel) rfl (by decide) <|
  k1
theorem b_C_isBrokenIn_33 {X : aX} {d : Nat} {post : aO} {vi : Nat → Nat → Int32} {vl : Nat → Nat → Int64} {v0 : Nat} {x1 x2 x3 : Int32} (k1 : x2 ≤ x3 → wp X (d + 1) k_C_isBrokenIn 0 0 106 [some (.ref v0), some (.int x1), some (.int x2), some (.int x3)] [] (mk vi vl) post) (k2 : ¬ x2 ≤ x3 → wp X (d + 1) k_C_isBrokenIn 0 0 38 [some (.ref v0), some (.int x1), some (.int x2), some (.int x3)] [] (mk vi vl) post) : wp X (d + 1) k_C_isBrokenIn 0 0 33 [some (.ref v0), some (.int x1), some (.int x2), some (.int x3)] [] (mk vi vl) post :=
  wr_iload_n (q := 3) (by decide +kernel) rfl rfl <|
  wr_iload_n (q := 2) (by decide +kernel) rfl rfl <|
  wr_icmp_ge (off := 71) (t := 106) (by decide +kernel) (by decide) k1 k2
theorem b_C_isBrokenIn_38 {X : aX} {d : Nat} {post : aO} {vi : Nat → Nat → Int32} {vl : Nat → Nat → Int64} {v0 : Nat} {x1 x2 x3 : Int32} (hv0 : isCl v0) (q1 : vp_in x3 5) (q2 : vp_in x1 8) (k1 : ¬ (vi (v0 + 9) x3.toNatClampNeg) = (vi (v0 + 4) x1.toNatClampNeg) → wp X (d + 1) k_C_isBrokenIn 0 0 68 [some (.ref v0), some (.int x1), some (.int x2), some (.int x3)] [] (mk vi vl) post) (k2 : (vi (v0 + 9) x3.toNatClampNeg) = (vi (v0 + 4) x1.toNatClampNeg) → wp X (d + 1) k_C_isBrokenIn 0 0 53 [some (.ref v0), some (.int x1), some (.int x2), some (.int x3)] [] (mk vi vl) post) : wp X (d + 1) k_C_isBrokenIn 0 0 38 [some (.ref v0), some (.int x1), some (.int x2), some (.int x3)] [] (mk vi vl) post :=
  wr_aload_n (q := 0) (by decide +kernel) rfl rfl <|
  wr_getR2 (b := v0 + 9) (ci := 0) (k0 := 11) (idx := 46) (cl_lt0 hv0) (cl_s0 hv0) (by decide) (by decide) lf_C_46 rfl (cl_v11 hv0) (cl_lt hv0 9 (by decide)) (by decide +kernel) <|
  wr_iload_n (q := 3) (by decide +kernel) rfl rfl <|
  wr_iald (cl_lt hv0 9 (by decide)) (cl_s9 hv0) q1 (by decide +kernel) <|
  wr_aload_n (q := 0) (by decide +kernel) rfl rfl <|
  wr_getR2 (b := v0 + 4) (ci := 0) (k0 := 5) (idx := 28) (cl_lt0 hv0) (cl_s0 hv0) (by decide) (by decide) lf_C_28 rfl (cl_v5 hv0) (cl_lt hv0 4 (by decide)) (by decide +kernel) <|
  wr_iload_n (q := 1) (by decide +kernel) rfl rfl <|
  wr_iald (cl_lt hv0 4 (by decide)) (cl_s4 hv0) q2 (by decide +kernel) <|
  wr_icmp_ne (off := 18) (t := 68) (by decide +kernel) (by decide) k1 k2
theorem b_C_isBrokenIn_53 {X : aX} {d : Nat} {post : aO} {vi : Nat → Nat → Int32} {vl : Nat → Nat → Int64} {v0 : Nat} {x1 x2 x3 : Int32} (hv0 : isCl v0) (q1 : vp_in x2 5) (q2 : vp_in x1 8) (k1 : (vi (v0 + 9) x2.toNatClampNeg) = (vi (v0 + 5) x1.toNatClampNeg) → wp X (d + 1) k_C_isBrokenIn 0 0 98 [some (.ref v0), some (.int x1), some (.int x2), some (.int x3)] [] (mk vi vl) post) (k2 : ¬ (vi (v0 + 9) x2.toNatClampNeg) = (vi (v0 + 5) x1.toNatClampNeg) → wp X (d + 1) k_C_isBrokenIn 0 0 68 [some (.ref v0), some (.int x1), some (.int x2), some (.int x3)] [] (mk vi vl) post) : wp X (d + 1) k_C_isBrokenIn 0 0 53 [some (.ref v0), some (.int x1), some (.int x2), some (.int x3)] [] (mk vi vl) post :=
  wr_aload_n (q := 0) (by decide +kernel) rfl rfl <|
  wr_getR2 (b := v0 + 9) (ci := 0) (k0 := 11) (idx := 46) (cl_lt0 hv0) (cl_s0 hv0) (by decide) (by decide) lf_C_46 rfl (cl_v11 hv0) (cl_lt hv0 9 (by decide)) (by decide +kernel) <|
  wr_iload_n (q := 2) (by decide +kernel) rfl rfl <|
  wr_iald (cl_lt hv0 9 (by decide)) (cl_s9 hv0) q1 (by decide +kernel) <|
  wr_aload_n (q := 0) (by decide +kernel) rfl rfl <|
  wr_getR2 (b := v0 + 5) (ci := 0) (k0 := 6) (idx := 31) (cl_lt0 hv0) (cl_s0 hv0) (by decide) (by decide) lf_C_31 rfl (cl_v6 hv0) (cl_lt hv0 5 (by decide)) (by decide +kernel) <|
  wr_iload_n (q := 1) (by decide +kernel) rfl rfl <|
  wr_iald (cl_lt hv0 5 (by decide)) (cl_s5 hv0) q2 (by decide +kernel) <|
  wr_icmp_eq (off := 33) (t := 98) (by decide +kernel) (by decide) k1 k2
theorem b_C_isBrokenIn_68 {X : aX} {d : Nat} {post : aO} {vi : Nat → Nat → Int32} {vl : Nat → Nat → Int64} {v0 : Nat} {x1 x2 x3 : Int32} (hv0 : isCl v0) (q1 : vp_in x3 5) (q2 : vp_in x1 8) (k1 : ¬ (vi (v0 + 9) x3.toNatClampNeg) = (vi (v0 + 5) x1.toNatClampNeg) → wp X (d + 1) k_C_isBrokenIn 0 0 100 [some (.ref v0), some (.int x1), some (.int x2), some (.int x3)] [] (mk vi vl) post) (k2 : (vi (v0 + 9) x3.toNatClampNeg) = (vi (v0 + 5) x1.toNatClampNeg) → wp X (d + 1) k_C_isBrokenIn 0 0 83 [some (.ref v0), some (.int x1), some (.int x2), some (.int x3)] [] (mk vi vl) post) : wp X (d + 1) k_C_isBrokenIn 0 0 68 [some (.ref v0), some (.int x1), some (.int x2), some (.int x3)] [] (mk vi vl) post :=
  wr_aload_n (q := 0) (by decide +kernel) rfl rfl <|
  wr_getR2 (b := v0 + 9) (ci := 0) (k0 := 11) (idx := 46) (cl_lt0 hv0) (cl_s0 hv0) (by decide) (by decide) lf_C_46 rfl (cl_v11 hv0) (cl_lt hv0 9 (by decide)) (by decide +kernel) <|
  wr_iload_n (q := 3) (by decide +kernel) rfl rfl <|
  wr_iald (cl_lt hv0 9 (by decide)) (cl_s9 hv0) q1 (by decide +kernel) <|
  wr_aload_n (q := 0) (by decide +kernel) rfl rfl <|
  wr_getR2 (b := v0 + 5) (ci := 0) (k0 := 6) (idx := 31) (cl_lt0 hv0) (cl_s0 hv0) (by decide) (by decide) lf_C_31 rfl (cl_v6 hv0) (cl_lt hv0 5 (by decide)) (by decide +kernel) <|
  wr_iload_n (q := 1) (by decide +kernel) rfl rfl <|
  wr_iald (cl_lt hv0 5 (by decide)) (cl_s5 hv0) q2 (by decide +kernel) <|
  wr_icmp_ne (off := 20) (t := 100) (by decide +kernel) (by decide) k1 k2
theorem b_C_isBrokenIn_83 {X : aX} {d : Nat} {post : aO} {vi : Nat → Nat → Int32} {vl : Nat → Nat → Int64} {v0 : Nat} {x1 x2 x3 : Int32} (hv0 : isCl v0) (q1 : vp_in x2 5) (q2 : vp_in x1 8) (k1 : ¬ (vi (v0 + 9) x2.toNatClampNeg) = (vi (v0 + 4) x1.toNatClampNeg) → wp X (d + 1) k_C_isBrokenIn 0 0 100 [some (.ref v0), some (.int x1), some (.int x2), some (.int x3)] [] (mk vi vl) post) (k2 : (vi (v0 + 9) x2.toNatClampNeg) = (vi (v0 + 4) x1.toNatClampNeg) → wp X (d + 1) k_C_isBrokenIn 0 0 98 [some (.ref v0), some (.int x1), some (.int x2), some (.int x3)] [] (mk vi vl) post) : wp X (d + 1) k_C_isBrokenIn 0 0 83 [some (.ref v0), some (.int x1), some (.int x2), some (.int x3)] [] (mk vi vl) post :=
  wr_aload_n (q := 0) (by decide +kernel) rfl rfl <|
  wr_getR2 (b := v0 + 9) (ci := 0) (k0 := 11) (idx := 46) (cl_lt0 hv0) (cl_s0 hv0) (by decide) (by decide) lf_C_46 rfl (cl_v11 hv0) (cl_lt hv0 9 (by decide)) (by decide +kernel) <|
  wr_iload_n (q := 2) (by decide +kernel) rfl rfl <|
  wr_iald (cl_lt hv0 9 (by decide)) (cl_s9 hv0) q1 (by decide +kernel) <|
  wr_aload_n (q := 0) (by decide +kernel) rfl rfl <|
  wr_getR2 (b := v0 + 4) (ci := 0) (k0 := 5) (idx := 28) (cl_lt0 hv0) (cl_s0 hv0) (by decide) (by decide) lf_C_28 rfl (cl_v5 hv0) (cl_lt hv0 4 (by decide)) (by decide +kernel) <|
  wr_iload_n (q := 1) (by decide +kernel) rfl rfl <|
  wr_iald (cl_lt hv0 4 (by decide)) (cl_s4 hv0) q2 (by decide +kernel) <|
  wr_icmp_ne (off := 5) (t := 100) (by decide +kernel) (by decide) k1 k2
theorem b_C_isBrokenIn_98 {X : aX} {d : Nat} {post : aO} {vi : Nat → Nat → Int32} {vl : Nat → Nat → Int64} {v0 : Nat} {x1 x2 x3 : Int32} (k1 : post (some (.int (1 : Int32))) (mk vi vl)) : wp X (d + 1) k_C_isBrokenIn 0 0 98 [some (.ref v0), some (.int x1), some (.int x2), some (.int x3)] [] (mk vi vl) post :=
  wr_iconst (n := 1) (v := (1 : Int32)) (by decide +kernel) (by decide) <|
  wr_ret (r := some (.int (1 : Int32))) (Or.inr (Or.inl ⟨_, rfl, (by decide +kernel), (Or.inr ⟨rfl, (by decide)⟩)⟩)) k1
theorem b_C_isBrokenIn_100 {X : aX} {d : Nat} {post : aO} {vi : Nat → Nat → Int32} {vl : Nat → Nat → Int64} {v0 : Nat} {x1 x2 x3 : Int32} (k1 : wp X (d + 1) k_C_isBrokenIn 0 0 33 [some (.ref v0), some (.int x1), some (.int x2), some (.int (x3 + (1 : Int32)))] [] (mk vi vl) post) : wp X (d + 1) k_C_isBrokenIn 0 0 100 [some (.ref v0), some (.int x1), some (.int x2), some (.int x3)] [] (mk vi vl) post :=
  wr_iinc (i := 3) (n := 1) (v := (1 : Int32)) (by decide +kernel) rfl (by decide) (by decide) <|
  wr_goto (off := -70) (t := 33) (by decide +kernel) (by decide) k1
theorem b_C_isBrokenIn_106 {X : aX} {d : Nat} {post : aO} {vi : Nat → Nat → Int32} {vl : Nat → Nat → Int64} {v0 : Nat} {x1 x2 x3 : Int32} (k1 : post (some (.int (0 : Int32))) (mk vi vl)) : wp X (d + 1) k_C_isBrokenIn 0 0 106 [some (.ref v0), some (.int x1), some (.int x2), some (.int x3)] [] (mk vi vl) post :=
  wr_iconst (n := 0) (v := (0 : Int32)) (by decide +kernel) (by decide) <|
  wr_ret (r := some (.int (0 : Int32))) (Or.inr (Or.inl ⟨_, rfl, (by decide +kernel), (Or.inr ⟨rfl, (by decide)⟩)⟩)) k1
theorem b_C_isOfKind_0 {X : aX} {d : Nat} {post : aO} {vi : Nat → Nat → Int32} {vl : Nat → Nat → Int64} {v0 : Nat} {x1 x2 : Int32} (hv0 : isCl v0) (q1 : vp_in x1 8) (k1 : (vi (v0 + 3) x1.toNatClampNeg) = x2 → wp X (d + 1) k_C_isOfKind 0 0 24 [some (.ref v0), some (.int x1), some (.int x2)] [] (mk vi vl) post) (k2 : ¬ (vi (v0 + 3) x1.toNatClampNeg) = x2 → wp X (d + 1) k_C_isOfKind 0 0 10 [some (.ref v0), some (.int x1), some (.int x2)] [] (mk vi vl) post) : wp X (d + 1) k_C_isOfKind 0 0 0 [some (.ref v0), some (.int x1), some (.int x2)] [] (mk vi vl) post :=
  wr_aload_n (q := 0) (by decide +kernel) rfl rfl <|
  wr_getR2 (b := v0 + 3) (ci := 0) (k0 := 4) (idx := 25) (cl_lt0 hv0) (cl_s0 hv0) (by decide) (by decide) lf_C_25 rfl (cl_v4 hv0) (cl_lt hv0 3 (by decide)) (by decide +kernel) <|
  wr_iload_n (q := 1) (by decide +kernel) rfl rfl <|
  wr_iald (cl_lt hv0 3 (by decide)) (cl_s3 hv0) q1 (by decide +kernel) <|
  wr_iload_n (q := 2) (by decide +kernel) rfl rfl <|
  wr_icmp_eq (off := 17) (t := 24) (by decide +kernel) (by decide) k1 k2
theorem b_C_isOfKind_10 {X : aX} {d : Nat} {post : aO} {vi : Nat → Nat → Int32} {vl : Nat → Nat → Int64} {v0 : Nat} {x1 x2 : Int32} (hv0 : isCl v0) (q1 : vp_in x1 8) (q2 : vp_in (vi (v0 + 3) x1.toNatClampNeg) 6) (k1 : ¬ (am_par (vi (v0 + 3) x1.toNatClampNeg).toNatClampNeg) = x2 → wp X (d + 1) k_C_isOfKind 0 0 28 [some (.ref v0), some (.int x1), some (.int x2)] [] (mk vi vl) post) (k2 : (am_par (vi (v0 + 3) x1.toNatClampNeg).toNatClampNeg) = x2 → wp X (d + 1) k_C_isOfKind 0 0 24 [some (.ref v0), some (.int x1), some (.int x2)] [] (mk vi vl) post) : wp X (d + 1) k_C_isOfKind 0 0 10 [some (.ref v0), some (.int x1), some (.int x2)] [] (mk vi vl) post :=
  wr_gPar rfl (by decide +kernel) <|
  wr_aload_n (q := 0) (by decide +kernel) rfl rfl <|
  wr_getR2 (b := v0 + 3) (ci := 0) (k0 := 4) (idx := 25) (cl_lt0 hv0) (cl_s0 hv0) (by decide) (by decide) lf_C_25 rfl (cl_v4 hv0) (cl_lt hv0 3 (by decide)) (by decide +kernel) <|
  wr_iload_n (q := 1) (by decide +kernel) rfl rfl <|
  wr_iald (cl_lt hv0 3 (by decide)) (cl_s3 hv0) q1 (by decide +kernel) <|
  wr_ti q2 (by decide +kernel) <|
  wr_iload_n (q := 2) (by decide +kernel) rfl rfl <|
  wr_icmp_ne (off := 7) (t := 28) (by decide +kernel) (by decide) k1 k2
theorem b_C_isOfKind_24 {X : aX} {d : Nat} {post : aO} {vi : Nat → Nat → Int32} {vl : Nat → Nat → Int64} {v0 : Nat} {x1 x2 : Int32} (k1 : wp X (d + 1) k_C_isOfKind 0 0 29 [some (.ref v0), some (.int x1), some (.int x2)] [.int (1 : Int32)] (mk vi vl) post) : wp X (d + 1) k_C_isOfKind 0 0 24 [some (.ref v0), some (.int x1), some (.int x2)] [] (mk vi vl) post :=
  wr_iconst (n := 1) (v := (1 : Int32)) (by decide +kernel) (by decide) <|
  wr_goto (off := 4) (t := 29) (by decide +kernel) (by decide) k1
theorem b_C_isOfKind_28 {X : aX} {d : Nat} {post : aO} {vi : Nat → Nat → Int32} {vl : Nat → Nat → Int64} {v0 : Nat} {x1 x2 : Int32} (k1 : wp X (d + 1) k_C_isOfKind 0 0 29 [some (.ref v0), some (.int x1), some (.int x2)] [.int (0 : Int32)] (mk vi vl) post) : wp X (d + 1) k_C_isOfKind 0 0 28 [some (.ref v0), some (.int x1), some (.int x2)] [] (mk vi vl) post :=
  wr_iconst (n := 0) (v := (0 : Int32)) (by decide +kernel) (by decide) <|
  k1
theorem b_C_isOfKind_29 {X : aX} {d : Nat} {post : aO} {vi : Nat → Nat → Int32} {vl : Nat → Nat → Int64} {v0 : Nat} {x1 x2 y0 : Int32} (q1 : y0 = 0 ∨ y0 = 1) (k1 : post (some (.int y0)) (mk vi vl)) : wp X (d + 1) k_C_isOfKind 0 0 29 [some (.ref v0), some (.int x1), some (.int x2)] [.int y0] (mk vi vl) post :=
  wr_ret (r := some (.int y0)) (Or.inr (Or.inl ⟨_, rfl, (by decide +kernel), (Or.inr ⟨rfl, q1⟩)⟩)) k1
theorem b_C_yearsWith_0 {X : aX} {d : Nat} {post : aO} {vi : Nat → Nat → Int32} {vl : Nat → Nat → Int64} {v0 : Nat} {x1 : Int32} (k1 : wp X (d + 1) k_C_yearsWith 0 0 4 [some (.ref v0), some (.int x1), some (.int (0 : Int32)), some (.int (0 : Int32))] [] (mk vi vl) post) : wp X (d + 1) k_C_yearsWith 0 0 0 [some (.ref v0), some (.int x1), none, none] [] (mk vi vl) post :=
  wr_iconst (n := 0) (v := (0 : Int32)) (by decide +kernel) (by decide) <|
  wr_istore_n (q := 2) (by decide +kernel) rfl (by decide) <|
  wr_iconst (n := 0) (v := (0 : Int32)) (by decide +kernel) (by decide) <|
  wr_istore_n (q := 3) (by decide +kernel) rfl (by decide) <|
  k1
theorem b_C_yearsWith_4 {X : aX} {d : Nat} {post : aO} {vi : Nat → Nat → Int32} {vl : Nat → Nat → Int64} {v0 : Nat} {x1 x2 x3 : Int32} (hv0 : isCl v0) (k1 : (vi v0 0) ≤ x3 → wp X (d + 1) k_C_yearsWith 0 0 38 [some (.ref v0), some (.int x1), some (.int x2), some (.int x3)] [] (mk vi vl) post) (k2 : ¬ (vi v0 0) ≤ x3 → wp X (d + 1) k_C_yearsWith 0 0 12 [some (.ref v0), some (.int x1), some (.int x2), some (.int x3)] [] (mk vi vl) post) : wp X (d + 1) k_C_yearsWith 0 0 4 [some (.ref v0), some (.int x1), some (.int x2), some (.int x3)] [] (mk vi vl) post :=
  wr_iload_n (q := 3) (by decide +kernel) rfl rfl <|
  wr_aload_n (q := 0) (by decide +kernel) rfl rfl <|
  wr_getI (ci := 0) (k0 := 0) (idx := 9) (cl_lt0 hv0) (cl_s0 hv0) (by decide) (by decide) lf_C_9 (Or.inl rfl) (by decide +kernel) <|
  wr_icmp_ge (off := 29) (t := 38) (by decide +kernel) (by decide) k1 k2
theorem b_C_yearsWith_12 {X : aX} {d : Nat} {post : aO} {vi : Nat → Nat → Int32} {vl : Nat → Nat → Int64} {v0 : Nat} {x1 x2 x3 : Int32} (hv0 : isCl v0) (q1 : vp_in x3 5) (k1 : ¬ (vi (v0 + 9) x3.toNatClampNeg) = x1 → wp X (d + 1) k_C_yearsWith 0 0 29 [some (.ref v0), some (.int x1), some (.int x2), some (.int x3)] [.int x2] (mk vi vl) post) (k2 : (vi (v0 + 9) x3.toNatClampNeg) = x1 → wp X (d + 1) k_C_yearsWith 0 0 23 [some (.ref v0), some (.int x1), some (.int x2), some (.int x3)] [.int x2] (mk vi vl) post) : wp X (d + 1) k_C_yearsWith 0 0 12 [some (.ref v0), some (.int x1), some (.int x2), some (.int x3)] [] (mk vi vl) post :=
  wr_iload_n (q := 2) (by decide +kernel) rfl rfl <|
  wr_aload_n (q := 0) (by decide +kernel) rfl rfl <|
  wr_getR2 (b := v0 + 9) (ci := 0) (k0 := 11) (idx := 46) (cl_lt0 hv0) (cl_s0 hv0) (by decide) (by decide) lf_C_46 rfl (cl_v11 hv0) (cl_lt hv0 9 (by decide)) (by decide +kernel) <|
  wr_iload_n (q := 3) (by decide +kernel) rfl rfl <|
  wr_iald (cl_lt hv0 9 (by decide)) (cl_s9 hv0) q1 (by decide +kernel) <|
  wr_iload_n (q := 1) (by decide +kernel) rfl rfl <|
  wr_icmp_ne (off := 9) (t := 29) (by decide +kernel) (by decide) k1 k2
theorem b_C_yearsWith_23 {X : aX} {d : Nat} {post : aO} {vi : Nat → Nat → Int32} {vl : Nat → Nat → Int64} {v0 : Nat} {x1 x2 x3 y0 : Int32} (k1 : wp X (d + 1) k_C_yearsWith 0 0 30 [some (.ref v0), some (.int x1), some (.int x2), some (.int x3)] [.int ((1 : Int32) <<< (x3 &&& 31)), .int y0] (mk vi vl) post) : wp X (d + 1) k_C_yearsWith 0 0 23 [some (.ref v0), some (.int x1), some (.int x2), some (.int x3)] [.int y0] (mk vi vl) post :=
  wr_iconst (n := 1) (v := (1 : Int32)) (by decide +kernel) (by decide) <|
  wr_iload_n (q := 3) (by decide +kernel) rfl rfl <|
  wr_ishl (by decide +kernel) <|
  wr_goto (off := 4) (t := 30) (by decide +kernel) (by decide) k1
theorem b_C_yearsWith_29 {X : aX} {d : Nat} {post : aO} {vi : Nat → Nat → Int32} {vl : Nat → Nat → Int64} {v0 : Nat} {x1 x2 x3 y0 : Int32} (k1 : wp X (d + 1) k_C_yearsWith 0 0 30 [some (.ref v0), some (.int x1), some (.int x2), some (.int x3)] [.int (0 : Int32), .int y0] (mk vi vl) post) : wp X (d + 1) k_C_yearsWith 0 0 29 [some (.ref v0), some (.int x1), some (.int x2), some (.int x3)] [.int y0] (mk vi vl) post :=
  wr_iconst (n := 0) (v := (0 : Int32)) (by decide +kernel) (by decide) <|
  k1
theorem b_C_yearsWith_30 {X : aX} {d : Nat} {post : aO} {vi : Nat → Nat → Int32} {vl : Nat → Nat → Int64} {v0 : Nat} {x1 x2 x3 y0 y1 : Int32} (k1 : wp X (d + 1) k_C_yearsWith 0 0 4 [some (.ref v0), some (.int x1), some (.int (y0 ||| y1)), some (.int (x3 + (1 : Int32)))] [] (mk vi vl) post) : wp X (d + 1) k_C_yearsWith 0 0 30 [some (.ref v0), some (.int x1), some (.int x2), some (.int x3)] [.int y1, .int y0] (mk vi vl) post :=
  wr_ior (by decide +kernel) <|
  wr_istore_n (q := 2) (by decide +kernel) rfl (by decide) <|
  wr_iinc (i := 3) (n := 1) (v := (1 : Int32)) (by decide +kernel) rfl (by decide) (by decide) <|
  wr_goto (off := -31) (t := 4) (by decide +kernel) (by decide) k1
theorem b_C_yearsWith_38 {X : aX} {d : Nat} {post : aO} {vi : Nat → Nat → Int32} {vl : Nat → Nat → Int64} {v0 : Nat} {x1 x2 x3 : Int32} (k1 : post (some (.int x2)) (mk vi vl)) : wp X (d + 1) k_C_yearsWith 0 0 38 [some (.ref v0), some (.int x1), some (.int x2), some (.int x3)] [] (mk vi vl) post :=
  wr_iload_n (q := 2) (by decide +kernel) rfl rfl <|
  wr_ret (r := some (.int x2)) (Or.inr (Or.inl ⟨_, rfl, (by decide +kernel), (Or.inl rfl)⟩)) k1
theorem b_C_yearsThatAre_0 {X : aX} {d : Nat} {post : aO} {vi : Nat → Nat → Int32} {vl : Nat → Nat → Int64} {v0 : Nat} {x1 : Int32} (k1 : wp X (d + 1) k_C_yearsThatAre 0 0 4 [some (.ref v0), some (.int x1), some (.int (0 : Int32)), some (.int (0 : Int32))] [] (mk vi vl) post) : wp X (d + 1) k_C_yearsThatAre 0 0 0 [some (.ref v0), some (.int x1), none, none] [] (mk vi vl) post :=
  wr_iconst (n := 0) (v := (0 : Int32)) (by decide +kernel) (by decide) <|
  wr_istore_n (q := 2) (by decide +kernel) rfl (by decide) <|
  wr_iconst (n := 0) (v := (0 : Int32)) (by decide +kernel) (by decide) <|
  wr_istore_n (q := 3) (by decide +kernel) rfl (by decide) <|
  k1
theorem b_C_yearsThatAre_4 {X : aX} {d : Nat} {post : aO} {vi : Nat → Nat → Int32} {vl : Nat → Nat → Int64} {v0 : Nat} {x1 x2 x3 : Int32} (hv0 : isCl v0) (k1 : (vi v0 0) ≤ x3 → wp X (d + 1) k_C_yearsThatAre 0 0 38 [some (.ref v0), some (.int x1), some (.int x2), some (.int x3)] [] (mk vi vl) post) (k2 : ¬ (vi v0 0) ≤ x3 → wp X (d + 1) k_C_yearsThatAre 0 0 12 [some (.ref v0), some (.int x1), some (.int x2), some (.int x3)] [] (mk vi vl) post) : wp X (d + 1) k_C_yearsThatAre 0 0 4 [some (.ref v0), some (.int x1), some (.int x2), some (.int x3)] [] (mk vi vl) post :=
  wr_iload_n (q := 3) (by decide +kernel) rfl rfl <|
  wr_aload_n (q := 0) (by decide +kernel) rfl rfl <|
  wr_getI (ci := 0) (k0 := 0) (idx := 9) (cl_lt0 hv0) (cl_s0 hv0) (by decide) (by decide) lf_C_9 (Or.inl rfl) (by decide +kernel) <|
  wr_icmp_ge (off := 29) (t := 38) (by decide +kernel) (by decide) k1 k2
theorem b_C_yearsThatAre_12 {X : aX} {d : Nat} {post : aO} {vi : Nat → Nat → Int32} {vl : Nat → Nat → Int64} {v0 : Nat} {x1 x2 x3 : Int32} (hv0 : isCl v0) (q1 : vp_in x3 5) (k1 : ¬ (vi (v0 + 1) x3.toNatClampNeg) = x1 → wp X (d + 1) k_C_yearsThatAre 0 0 29 [some (.ref v0), some (.int x1), some (.int x2), some (.int x3)] [.int x2] (mk vi vl) post) (k2 : (vi (v0 + 1) x3.toNatClampNeg) = x1 → wp X (d + 1) k_C_yearsThatAre 0 0 23 [some (.ref v0), some (.int x1), some (.int x2), some (.int x3)] [.int x2] (mk vi vl) post) : wp X (d + 1) k_C_yearsThatAre 0 0 12 [some (.ref v0), some (.int x1), some (.int x2), some (.int x3)] [] (mk vi vl) post :=
  wr_iload_n (q := 2) (by decide +kernel) rfl rfl <|
  wr_aload_n (q := 0) (by decide +kernel) rfl rfl <|
  wr_getR2 (b := v0 + 1) (ci := 0) (k0 := 1) (idx := 15) (cl_lt0 hv0) (cl_s0 hv0) (by decide) (by decide) lf_C_15 rfl (cl_v1 hv0) (cl_lt hv0 1 (by decide)) (by decide +kernel) <|
  wr_iload_n (q := 3) (by decide +kernel) rfl rfl <|
  wr_iald (cl_lt hv0 1 (by decide)) (cl_s1 hv0) q1 (by decide +kernel) <|
  wr_iload_n (q := 1) (by decide +kernel) rfl rfl <|
  wr_icmp_ne (off := 9) (t := 29) (by decide +kernel) (by decide) k1 k2
theorem b_C_yearsThatAre_23 {X : aX} {d : Nat} {post : aO} {vi : Nat → Nat → Int32} {vl : Nat → Nat → Int64} {v0 : Nat} {x1 x2 x3 y0 : Int32} (k1 : wp X (d + 1) k_C_yearsThatAre 0 0 30 [some (.ref v0), some (.int x1), some (.int x2), some (.int x3)] [.int ((1 : Int32) <<< (x3 &&& 31)), .int y0] (mk vi vl) post) : wp X (d + 1) k_C_yearsThatAre 0 0 23 [some (.ref v0), some (.int x1), some (.int x2), some (.int x3)] [.int y0] (mk vi vl) post :=
  wr_iconst (n := 1) (v := (1 : Int32)) (by decide +kernel) (by decide) <|
  wr_iload_n (q := 3) (by decide +kernel) rfl rfl <|
  wr_ishl (by decide +kernel) <|
  wr_goto (off := 4) (t := 30) (by decide +kernel) (by decide) k1
theorem b_C_yearsThatAre_29 {X : aX} {d : Nat} {post : aO} {vi : Nat → Nat → Int32} {vl : Nat → Nat → Int64} {v0 : Nat} {x1 x2 x3 y0 : Int32} (k1 : wp X (d + 1) k_C_yearsThatAre 0 0 30 [some (.ref v0), some (.int x1), some (.int x2), some (.int x3)] [.int (0 : Int32), .int y0] (mk vi vl) post) : wp X (d + 1) k_C_yearsThatAre 0 0 29 [some (.ref v0), some (.int x1), some (.int x2), some (.int x3)] [.int y0] (mk vi vl) post :=
  wr_iconst (n := 0) (v := (0 : Int32)) (by decide +kernel) (by decide) <|
  k1
theorem b_C_yearsThatAre_30 {X : aX} {d : Nat} {post : aO} {vi : Nat → Nat → Int32} {vl : Nat → Nat → Int64} {v0 : Nat} {x1 x2 x3 y0 y1 : Int32} (k1 : wp X (d + 1) k_C_yearsThatAre 0 0 4 [some (.ref v0), some (.int x1), some (.int (y0 ||| y1)), some (.int (x3 + (1 : Int32)))] [] (mk vi vl) post) : wp X (d + 1) k_C_yearsThatAre 0 0 30 [some (.ref v0), some (.int x1), some (.int x2), some (.int x3)] [.int y1, .int y0] (mk vi vl) post :=
  wr_ior (by decide +kernel) <|
  wr_istore_n (q := 2) (by decide +kernel) rfl (by decide) <|
  wr_iinc (i := 3) (n := 1) (v := (1 : Int32)) (by decide +kernel) rfl (by decide) (by decide) <|
  wr_goto (off := -31) (t := 4) (by decide +kernel) (by decide) k1
theorem b_C_yearsThatAre_38 {X : aX} {d : Nat} {post : aO} {vi : Nat → Nat → Int32} {vl : Nat → Nat → Int64} {v0 : Nat} {x1 x2 x3 : Int32} (k1 : post (some (.int x2)) (mk vi vl)) : wp X (d + 1) k_C_yearsThatAre 0 0 38 [some (.ref v0), some (.int x1), some (.int x2), some (.int x3)] [] (mk vi vl) post :=
  wr_iload_n (q := 2) (by decide +kernel) rfl rfl <|
  wr_ret (r := some (.int x2)) (Or.inr (Or.inl ⟨_, rfl, (by decide +kernel), (Or.inl rfl)⟩)) k1
theorem b_C_allows_0 {X : aX} {d : Nat} {post : aO} {vi : Nat → Nat → Int32} {vl : Nat → Nat → Int64} {v0 : Nat} {x1 x2 : Int32} (k1 : ¬ x2 = (6 : Int32) → wp X (d + 1) k_C_allows 0 0 8 [some (.ref v0), some (.int x1), some (.int x2)] [] (mk vi vl) post) (k2 : x2 = (6 : Int32) → wp X (d + 1) k_C_allows 0 0 6 [some (.ref v0), some (.int x1), some (.int x2)] [] (mk vi vl) post) : wp X (d + 1) k_C_allows 0 0 0 [some (.ref v0), some (.int x1), some (.int x2)] [] (mk vi vl) post :=
  wr_iload_n (q := 2) (by decide +kernel) rfl rfl <|
  wr_bipush (n := 6) (v := (6 : Int32)) (by decide +kernel) (by decide) <|
  wr_icmp_ne (off := 5) (t := 8) (by decide +kernel) (by decide) k1 k2
theorem b_C_allows_6 {X : aX} {d : Nat} {post : aO} {vi : Nat → Nat → Int32} {vl : Nat → Nat → Int64} {v0 : Nat} {x1 x2 : Int32} (k1 : post (some (.int (1 : Int32))) (mk vi vl)) : wp X (d + 1) k_C_allows 0 0 6 [some (.ref v0), some (.int x1), some (.int x2)] [] (mk vi vl) post :=
  wr_iconst (n := 1) (v := (1 : Int32)) (by decide +kernel) (by decide) <|
  wr_ret (r := some (.int (1 : Int32))) (Or.inr (Or.inl ⟨_, rfl, (by decide +kernel), (Or.inr ⟨rfl, (by decide)⟩)⟩)) k1
theorem b_C_allows_8 {X : aX} {d : Nat} {post : aO} {vi : Nat → Nat → Int32} {vl : Nat → Nat → Int64} {v0 : Nat} {x1 x2 : Int32} (hv0 : isCl v0) (q1 : vp_in x1 5) (k1 : ¬ (vi (v0 + 1) x1.toNatClampNeg) = (1 : Int32) → wp X (d + 1) k_C_allows 0 0 31 [some (.ref v0), some (.int x1), some (.int x2)] [] (mk vi vl) post) (k2 : (vi (v0 + 1) x1.toNatClampNeg) = (1 : Int32) → wp X (d + 1) k_C_allows 0 0 18 [some (.ref v0), some (.int x1), some (.int x2)] [] (mk vi vl) post) : wp X (d + 1) k_C_allows 0 0 8 [some (.ref v0), some (.int x1), some (.int x2)] [] (mk vi vl) post :=
  wr_aload_n (q := 0) (by decide +kernel) rfl rfl <|
  wr_getR2 (b := v0 + 1) (ci := 0) (k0 := 1) (idx := 15) (cl_lt0 hv0) (cl_s0 hv0) (by decide) (by decide) lf_C_15 rfl (cl_v1 hv0) (cl_lt hv0 1 (by decide)) (by decide +kernel) <|
  wr_iload_n (q := 1) (by decide +kernel) rfl rfl <|
  wr_iald (cl_lt hv0 1 (by decide)) (cl_s1 hv0) q1 (by decide +kernel) <|
  wr_iconst (n := 1) (v := (1 : Int32)) (by decide +kernel) (by decide) <|
  wr_icmp_ne (off := 16) (t := 31) (by decide +kernel) (by decide) k1 k2
theorem b_C_allows_18 {X : aX} {d : Nat} {post : aO} {vi : Nat → Nat → Int32} {vl : Nat → Nat → Int64} {v0 : Nat} {x1 x2 : Int32} (k1 : ¬ x2 = (5 : Int32) → wp X (d + 1) k_C_allows 0 0 27 [some (.ref v0), some (.int x1), some (.int x2)] [] (mk vi vl) post) (k2 : x2 = (5 : Int32) → wp X (d + 1) k_C_allows 0 0 23 [some (.ref v0), some (.int x1), some (.int x2)] [] (mk vi vl) post) : wp X (d + 1) k_C_allows 0 0 18 [some (.ref v0), some (.int x1), some (.int x2)] [] (mk vi vl) post :=
  wr_iload_n (q := 2) (by decide +kernel) rfl rfl <|
  wr_iconst (n := 5) (v := (5 : Int32)) (by decide +kernel) (by decide) <|
  wr_icmp_ne (off := 7) (t := 27) (by decide +kernel) (by decide) k1 k2
theorem b_C_allows_23 {X : aX} {d : Nat} {post : aO} {vi : Nat → Nat → Int32} {vl : Nat → Nat → Int64} {v0 : Nat} {x1 x2 : Int32} (k1 : wp X (d + 1) k_C_allows 0 0 35 [some (.ref v0), some (.int x1), some (.int x2)] [.int (1 : Int32)] (mk vi vl) post) : wp X (d + 1) k_C_allows 0 0 23 [some (.ref v0), some (.int x1), some (.int x2)] [] (mk vi vl) post :=
  wr_iconst (n := 1) (v := (1 : Int32)) (by decide +kernel) (by decide) <|
  wr_goto (off := 11) (t := 35) (by decide +kernel) (by decide) k1
theorem b_C_allows_27 {X : aX} {d : Nat} {post : aO} {vi : Nat → Nat → Int32} {vl : Nat → Nat → Int64} {v0 : Nat} {x1 x2 : Int32} (k1 : wp X (d + 1) k_C_allows 0 0 35 [some (.ref v0), some (.int x1), some (.int x2)] [.int (0 : Int32)] (mk vi vl) post) : wp X (d + 1) k_C_allows 0 0 27 [some (.ref v0), some (.int x1), some (.int x2)] [] (mk vi vl) post :=
  wr_iconst (n := 0) (v := (0 : Int32)) (by decide +kernel) (by decide) <|
  wr_goto (off := 7) (t := 35) (by decide +kernel) (by decide) k1
theorem b_C_allows_31 {X : aX} {d : Nat} {post : aO} {vi : Nat → Nat → Int32} {vl : Nat → Nat → Int64} {v0 : Nat} {x1 x2 : Int32} (k1 : CallOk X d 0 0 k_S_isScene [.int x2] (mk vi vl) (fun r N' => wp X (d + 1) k_C_allows 0 0 35 [some (.ref v0), some (.int x1), some (.int x2)] (pR r []) N' post)) : wp X (d + 1) k_C_allows 0 0 31 [some (.ref v0), some (.int x1), some (.int x2)] [] (mk vi vl) post :=
  wr_iload_n (q := 2) (by decide +kernel) rfl rfl <|
  wr_invSN (host := "SewnAhead") (mid2 := 31) (idx := 62) (b1 := 0) (b2 := 0) (c1 := 0) (c2 := 0) (as := [.int x2]) (st := []) pl_31 rfl (Nat.le_of_ble_eq_true rfl) rfl rfl (by decide +kernel) it_31 (by decide +kernel) k1
theorem b_C_allows_35 {X : aX} {d : Nat} {post : aO} {vi : Nat → Nat → Int32} {vl : Nat → Nat → Int64} {v0 : Nat} {x1 x2 y0 : Int32} (q1 : y0 = 0 ∨ y0 = 1) (k1 : post (some (.int y0)) (mk vi vl)) : wp X (d + 1) k_C_allows 0 0 35 [some (.ref v0), some (.int x1), some (.int x2)] [.int y0] (mk vi vl) post :=
  wr_ret (r := some (.int y0)) (Or.inr (Or.inl ⟨_, rfl, (by decide +kernel), (Or.inr ⟨rfl, q1⟩)⟩)) k1
theorem b_C_stitch_0 {X : aX} {d : Nat} {post : aO} {vi : Nat → Nat → Int32} {vl : Nat → Nat → Int64} {v0 : Nat} {x1 x2 : Int32} (hv0 : isCl v0) (k1 : (vi v0 7) < (40 : Int32) → wp X (d + 1) k_C_stitch 0 0 10 [some (.ref v0), some (.int x1), some (.int x2)] [] (mk vi vl) post) (k2 : ¬ (vi v0 7) < (40 : Int32) → wp X (d + 1) k_C_stitch 0 0 9 [some (.ref v0), some (.int x1), some (.int x2)] [] (mk vi vl) post) : wp X (d + 1) k_C_stitch 0 0 0 [some (.ref v0), some (.int x1), some (.int x2)] [] (mk vi vl) post :=
  wr_aload_n (q := 0) (by decide +kernel) rfl rfl <|
  wr_getI (ci := 0) (k0 := 7) (idx := 34) (cl_lt0 hv0) (cl_s0 hv0) (by decide) (by decide) lf_C_34 (Or.inl rfl) (by decide +kernel) <|
  wr_bipush (n := 40) (v := (40 : Int32)) (by decide +kernel) (by decide) <|
  wr_icmp_lt (off := 4) (t := 10) (by decide +kernel) (by decide) k1 k2
theorem b_C_stitch_9 {X : aX} {d : Nat} {post : aO} {vi : Nat → Nat → Int32} {vl : Nat → Nat → Int64} {v0 : Nat} {x1 x2 : Int32} (k1 : post none (mk vi vl)) : wp X (d + 1) k_C_stitch 0 0 9 [some (.ref v0), some (.int x1), some (.int x2)] [] (mk vi vl) post :=
  wr_ret (r := none) (Or.inl ⟨rfl, (by decide +kernel), rfl⟩) k1
theorem b_C_stitch_10 {X : aX} {d : Nat} {post : aO} {vi : Nat → Nat → Int32} {vl : Nat → Nat → Int64} {v0 : Nat} {x1 x2 : Int32} (hv0 : isCl v0) (q1 : vp_in (vi v0 7) 40) (k1 : ∀ w, w = up2 vi (v0 + 6) (vi v0 7).toNatClampNeg x1 → wp X (d + 1) k_C_stitch 0 0 20 [some (.ref v0), some (.int x1), some (.int x2)] [] (mk w vl) post) : wp X (d + 1) k_C_stitch 0 0 10 [some (.ref v0), some (.int x1), some (.int x2)] [] (mk vi vl) post :=
  wr_aload_n (q := 0) (by decide +kernel) rfl rfl <|
  wr_getR2 (b := v0 + 6) (ci := 0) (k0 := 8) (idx := 37) (cl_lt0 hv0) (cl_s0 hv0) (by decide) (by decide) lf_C_37 rfl (cl_v8 hv0) (cl_lt hv0 6 (by decide)) (by decide +kernel) <|
  wr_aload_n (q := 0) (by decide +kernel) rfl rfl <|
  wr_getI (ci := 0) (k0 := 7) (idx := 34) (cl_lt0 hv0) (cl_s0 hv0) (by decide) (by decide) lf_C_34 (Or.inl rfl) (by decide +kernel) <|
  wr_iload_n (q := 1) (by decide +kernel) rfl rfl <|
  wr_iast (cl_lt hv0 6 (by decide)) (cl_s6 hv0) q1 (by decide +kernel) <|
  k1 _ rfl
theorem b_C_stitch_20 {X : aX} {d : Nat} {post : aO} {vi : Nat → Nat → Int32} {vl : Nat → Nat → Int64} {v0 : Nat} {x1 x2 : Int32} (hv0 : isCl v0) (q1 : vp_in x1 5) (q2 : vp_in (vi v0 7) 40) (k1 : ∀ w, w = up2 vi (v0 + 7) (vi v0 7).toNatClampNeg (vi (v0 + 1) x1.toNatClampNeg) → wp X (d + 1) k_C_stitch 0 0 35 [some (.ref v0), some (.int x1), some (.int x2)] [] (mk w vl) post) : wp X (d + 1) k_C_stitch 0 0 20 [some (.ref v0), some (.int x1), some (.int x2)] [] (mk vi vl) post :=
  wr_aload_n (q := 0) (by decide +kernel) rfl rfl <|
  wr_getR2 (b := v0 + 7) (ci := 0) (k0 := 9) (idx := 40) (cl_lt0 hv0) (cl_s0 hv0) (by decide) (by decide) lf_C_40 rfl (cl_v9 hv0) (cl_lt hv0 7 (by decide)) (by decide +kernel) <|
  wr_aload_n (q := 0) (by decide +kernel) rfl rfl <|
  wr_getI (ci := 0) (k0 := 7) (idx := 34) (cl_lt0 hv0) (cl_s0 hv0) (by decide) (by decide) lf_C_34 (Or.inl rfl) (by decide +kernel) <|
  wr_aload_n (q := 0) (by decide +kernel) rfl rfl <|
  wr_getR2 (b := v0 + 1) (ci := 0) (k0 := 1) (idx := 15) (cl_lt0 hv0) (cl_s0 hv0) (by decide) (by decide) lf_C_15 rfl (cl_v1 hv0) (cl_lt hv0 1 (by decide)) (by decide +kernel) <|
  wr_iload_n (q := 1) (by decide +kernel) rfl rfl <|
  wr_iald (cl_lt hv0 1 (by decide)) (cl_s1 hv0) q1 (by decide +kernel) <|
  wr_iast (cl_lt hv0 7 (by decide)) (cl_s7 hv0) q2 (by decide +kernel) <|
  k1 _ rfl
theorem b_C_stitch_35 {X : aX} {d : Nat} {post : aO} {vi : Nat → Nat → Int32} {vl : Nat → Nat → Int64} {v0 : Nat} {x1 x2 : Int32} (hv0 : isCl v0) (q1 : vp_in x1 5) (q2 : vp_in (vi v0 7) 40) (k1 : ∀ w, w = up2 vi (v0 + 8) (vi v0 7).toNatClampNeg (vi (v0 + 2) x1.toNatClampNeg) → wp X (d + 1) k_C_stitch 0 0 50 [some (.ref v0), some (.int x1), some (.int x2)] [] (mk w vl) post) : wp X (d + 1) k_C_stitch 0 0 35 [some (.ref v0), some (.int x1), some (.int x2)] [] (mk vi vl) post :=
  wr_aload_n (q := 0) (by decide +kernel) rfl rfl <|
  wr_getR2 (b := v0 + 8) (ci := 0) (k0 := 10) (idx := 43) (cl_lt0 hv0) (cl_s0 hv0) (by decide) (by decide) lf_C_43 rfl (cl_v10 hv0) (cl_lt hv0 8 (by decide)) (by decide +kernel) <|
  wr_aload_n (q := 0) (by decide +kernel) rfl rfl <|
  wr_getI (ci := 0) (k0 := 7) (idx := 34) (cl_lt0 hv0) (cl_s0 hv0) (by decide) (by decide) lf_C_34 (Or.inl rfl) (by decide +kernel) <|
  wr_aload_n (q := 0) (by decide +kernel) rfl rfl <|
  wr_getR2 (b := v0 + 2) (ci := 0) (k0 := 2) (idx := 19) (cl_lt0 hv0) (cl_s0 hv0) (by decide) (by decide) lf_C_19 rfl (cl_v2 hv0) (cl_lt hv0 2 (by decide)) (by decide +kernel) <|
  wr_iload_n (q := 1) (by decide +kernel) rfl rfl <|
  wr_iald (cl_lt hv0 2 (by decide)) (cl_s2 hv0) q1 (by decide +kernel) <|
  wr_iast (cl_lt hv0 8 (by decide)) (cl_s8 hv0) q2 (by decide +kernel) <|
  k1 _ rfl
theorem b_C_stitch_50 {X : aX} {d : Nat} {post : aO} {vi : Nat → Nat → Int32} {vl : Nat → Nat → Int64} {v0 : Nat} {x1 x2 : Int32} (hv0 : isCl v0) (k1 : ∀ w, w = up2 vi v0 7 ((vi v0 7) + (1 : Int32)) → wp X (d + 1) k_C_stitch 0 0 60 [some (.ref v0), some (.int x1), some (.int x2)] [] (mk w vl) post) : wp X (d + 1) k_C_stitch 0 0 50 [some (.ref v0), some (.int x1), some (.int x2)] [] (mk vi vl) post :=
  wr_aload_n (q := 0) (by decide +kernel) rfl rfl <|
  wr_dup (by decide +kernel) rfl <|
  wr_getI (ci := 0) (k0 := 7) (idx := 34) (cl_lt0 hv0) (cl_s0 hv0) (by decide) (by decide) lf_C_34 (Or.inl rfl) (by decide +kernel) <|
  wr_iconst (n := 1) (v := (1 : Int32)) (by decide +kernel) (by decide) <|
  wr_iadd (by decide +kernel) <|
  wr_putI (ci := 0) (k0 := 7) (idx := 34) (cl_lt0 hv0) (cl_s0 hv0) (by decide) (by decide) lf_C_34 rfl (by decide +kernel) <|
  k1 _ rfl
theorem b_C_stitch_60 {X : aX} {d : Nat} {post : aO} {vi : Nat → Nat → Int32} {vl : Nat → Nat → Int64} {v0 : Nat} {x1 x2 : Int32} (k1 : CallOk X d 0 0 k_C_change [.ref v0, .int x1, .int x2] (mk vi vl) (fun r N' => wp X (d + 1) k_C_stitch 0 0 66 [some (.ref v0), some (.int x1), some (.int x2)] (pR r []) N' post)) (hv0 : isCl v0) : wp X (d + 1) k_C_stitch 0 0 60 [some (.ref v0), some (.int x1), some (.int x2)] [] (mk vi vl) post :=
  wr_aload_n (q := 0) (by decide +kernel) rfl rfl <|
  wr_iload_n (q := 1) (by decide +kernel) rfl rfl <|
  wr_iload_n (q := 2) (by decide +kernel) rfl rfl <|
  wr_invV (a := v0) (ci := 0) (mid2 := 62) (idx := 66) (b1 := 0) (b2 := 0) (c1 := 0) (c2 := 0) (as := [.int x1, .int x2]) (st := []) pl_62 rfl (Nat.le_of_ble_eq_true rfl) rfl rfl (cl_lt0 hv0) (cl_s0 hv0) (by decide) rfl lm_C_66 im_62 is_62 (by decide +kernel) k1
theorem b_C_stitch_66 {X : aX} {d : Nat} {post : aO} {vi : Nat → Nat → Int32} {vl : Nat → Nat → Int64} {v0 : Nat} {x1 x2 : Int32} (k1 : CallOk X d 0 0 k_C_settleFrom [.ref v0, .int x1] (mk vi vl) (fun r N' => wp X (d + 1) k_C_stitch 0 0 71 [some (.ref v0), some (.int x1), some (.int x2)] (pR r []) N' post)) (hv0 : isCl v0) : wp X (d + 1) k_C_stitch 0 0 66 [some (.ref v0), some (.int x1), some (.int x2)] [] (mk vi vl) post :=
  wr_aload_n (q := 0) (by decide +kernel) rfl rfl <|
  wr_iload_n (q := 1) (by decide +kernel) rfl rfl <|
  wr_invV (a := v0) (ci := 0) (mid2 := 39) (idx := 70) (b1 := 0) (b2 := 0) (c1 := 0) (c2 := 0) (as := [.int x1]) (st := []) pl_39 rfl (Nat.le_of_ble_eq_true rfl) rfl rfl (cl_lt0 hv0) (cl_s0 hv0) (by decide) rfl lm_C_70 im_39 is_39 (by decide +kernel) k1
theorem b_C_stitch_71 {X : aX} {d : Nat} {post : aO} {vi : Nat → Nat → Int32} {vl : Nat → Nat → Int64} {v0 : Nat} {x1 x2 : Int32} (k1 : post none (mk vi vl)) : wp X (d + 1) k_C_stitch 0 0 71 [some (.ref v0), some (.int x1), some (.int x2)] [] (mk vi vl) post :=
  wr_ret (r := none) (Or.inl ⟨rfl, (by decide +kernel), rfl⟩) k1
theorem b_C_change_0 {X : aX} {d : Nat} {post : aO} {vi : Nat → Nat → Int32} {vl : Nat → Nat → Int64} {v0 : Nat} {x1 x2 : Int32} (k1 : ¬ x2 = (5 : Int32) → wp X (d + 1) k_C_change 0 0 15 [some (.ref v0), some (.int x1), some (.int x2)] [] (mk vi vl) post) (k2 : x2 = (5 : Int32) → wp X (d + 1) k_C_change 0 0 5 [some (.ref v0), some (.int x1), some (.int x2)] [] (mk vi vl) post) : wp X (d + 1) k_C_change 0 0 0 [some (.ref v0), some (.int x1), some (.int x2)] [] (mk vi vl) post :=
  wr_iload_n (q := 2) (by decide +kernel) rfl rfl <|
  wr_iconst (n := 5) (v := (5 : Int32)) (by decide +kernel) (by decide) <|
  wr_icmp_ne (off := 13) (t := 15) (by decide +kernel) (by decide) k1 k2
theorem b_C_change_5 {X : aX} {d : Nat} {post : aO} {vi : Nat → Nat → Int32} {vl : Nat → Nat → Int64} {v0 : Nat} {x1 x2 : Int32} (hv0 : isCl v0) (q1 : vp_in x1 5) (k1 : ∀ w, w = up2 vi (v0 + 1) x1.toNatClampNeg (2 : Int32) → wp X (d + 1) k_C_change 0 0 12 [some (.ref v0), some (.int x1), some (.int x2)] [] (mk w vl) post) : wp X (d + 1) k_C_change 0 0 5 [some (.ref v0), some (.int x1), some (.int x2)] [] (mk vi vl) post :=
  wr_aload_n (q := 0) (by decide +kernel) rfl rfl <|
  wr_getR2 (b := v0 + 1) (ci := 0) (k0 := 1) (idx := 15) (cl_lt0 hv0) (cl_s0 hv0) (by decide) (by decide) lf_C_15 rfl (cl_v1 hv0) (cl_lt hv0 1 (by decide)) (by decide +kernel) <|
  wr_iload_n (q := 1) (by decide +kernel) rfl rfl <|
  wr_iconst (n := 2) (v := (2 : Int32)) (by decide +kernel) (by decide) <|
  wr_iast (cl_lt hv0 1 (by decide)) (cl_s1 hv0) q1 (by decide +kernel) <|
  k1 _ rfl
theorem b_C_change_12 {X : aX} {d : Nat} {post : aO} {vi : Nat → Nat → Int32} {vl : Nat → Nat → Int64} {v0 : Nat} {x1 x2 : Int32} (k1 : wp X (d + 1) k_C_change 0 0 28 [some (.ref v0), some (.int x1), some (.int x2)] [] (mk vi vl) post) : wp X (d + 1) k_C_change 0 0 12 [some (.ref v0), some (.int x1), some (.int x2)] [] (mk vi vl) post :=
  wr_goto (off := 16) (t := 28) (by decide +kernel) (by decide) k1
theorem b_C_change_15 {X : aX} {d : Nat} {post : aO} {vi : Nat → Nat → Int32} {vl : Nat → Nat → Int64} {v0 : Nat} {x1 x2 : Int32} (k1 : x2 = (6 : Int32) → wp X (d + 1) k_C_change 0 0 28 [some (.ref v0), some (.int x1), some (.int x2)] [] (mk vi vl) post) (k2 : ¬ x2 = (6 : Int32) → wp X (d + 1) k_C_change 0 0 21 [some (.ref v0), some (.int x1), some (.int x2)] [] (mk vi vl) post) : wp X (d + 1) k_C_change 0 0 15 [some (.ref v0), some (.int x1), some (.int x2)] [] (mk vi vl) post :=
  wr_iload_n (q := 2) (by decide +kernel) rfl rfl <|
  wr_bipush (n := 6) (v := (6 : Int32)) (by decide +kernel) (by decide) <|
  wr_icmp_eq (off := 10) (t := 28) (by decide +kernel) (by decide) k1 k2
theorem b_C_change_21 {X : aX} {d : Nat} {post : aO} {vi : Nat → Nat → Int32} {vl : Nat → Nat → Int64} {v0 : Nat} {x1 x2 : Int32} (k1 : CallOk X d 0 0 k_C_set [.ref v0, .int x1, .int (1 : Int32), .int x2] (mk vi vl) (fun r N' => wp X (d + 1) k_C_change 0 0 28 [some (.ref v0), some (.int x1), some (.int x2)] (pR r []) N' post)) (hv0 : isCl v0) : wp X (d + 1) k_C_change 0 0 21 [some (.ref v0), some (.int x1), some (.int x2)] [] (mk vi vl) post :=
  wr_aload_n (q := 0) (by decide +kernel) rfl rfl <|
  wr_iload_n (q := 1) (by decide +kernel) rfl rfl <|
  wr_iconst (n := 1) (v := (1 : Int32)) (by decide +kernel) (by decide) <|
  wr_iload_n (q := 2) (by decide +kernel) rfl rfl <|
  wr_invV (a := v0) (ci := 0) (mid2 := 33) (idx := 58) (b1 := 0) (b2 := 0) (c1 := 0) (c2 := 0) (as := [.int x1, .int (1 : Int32), .int x2]) (st := []) pl_33 rfl (Nat.le_of_ble_eq_true rfl) rfl rfl (cl_lt0 hv0) (cl_s0 hv0) (by decide) rfl lm_C_58 im_33 is_33 (by decide +kernel) k1
theorem b_C_change_28 {X : aX} {d : Nat} {post : aO} {vi : Nat → Nat → Int32} {vl : Nat → Nat → Int64} {v0 : Nat} {x1 x2 : Int32} (k1 : post none (mk vi vl)) : wp X (d + 1) k_C_change 0 0 28 [some (.ref v0), some (.int x1), some (.int x2)] [] (mk vi vl) post :=
  wr_ret (r := none) (Or.inl ⟨rfl, (by decide +kernel), rfl⟩) k1
theorem b_C_brokenLaws_0 {X : aX} {d : Nat} {post : aO} {vi : Nat → Nat → Int32} {vl : Nat → Nat → Int64} {v0 : Nat} (k1 : wp X (d + 1) k_C_brokenLaws 0 0 4 [some (.ref v0), some (.int (0 : Int32)), some (.int (0 : Int32))] [] (mk vi vl) post) : wp X (d + 1) k_C_brokenLaws 0 0 0 [some (.ref v0), none, none] [] (mk vi vl) post :=
  wr_iconst (n := 0) (v := (0 : Int32)) (by decide +kernel) (by decide) <|
  wr_istore_n (q := 1) (by decide +kernel) rfl (by decide) <|
  wr_iconst (n := 0) (v := (0 : Int32)) (by decide +kernel) (by decide) <|
  wr_istore_n (q := 2) (by decide +kernel) rfl (by decide) <|
  k1
theorem b_C_brokenLaws_4 {X : aX} {d : Nat} {post : aO} {vi : Nat → Nat → Int32} {vl : Nat → Nat → Int64} {v0 : Nat} {x1 x2 : Int32} (hv0 : isCl v0) (k1 : (vi v0 3) ≤ x2 → wp X (d + 1) k_C_brokenLaws 0 0 36 [some (.ref v0), some (.int x1), some (.int x2)] [] (mk vi vl) post) (k2 : ¬ (vi v0 3) ≤ x2 → wp X (d + 1) k_C_brokenLaws 0 0 12 [some (.ref v0), some (.int x1), some (.int x2)] [] (mk vi vl) post) : wp X (d + 1) k_C_brokenLaws 0 0 4 [some (.ref v0), some (.int x1), some (.int x2)] [] (mk vi vl) post :=
  wr_iload_n (q := 2) (by decide +kernel) rfl rfl <|
  wr_aload_n (q := 0) (by decide +kernel) rfl rfl <|
  wr_getI (ci := 0) (k0 := 3) (idx := 22) (cl_lt0 hv0) (cl_s0 hv0) (by decide) (by decide) lf_C_22 (Or.inl rfl) (by decide +kernel) <|
  wr_icmp_ge (off := 27) (t := 36) (by decide +kernel) (by decide) k1 k2
theorem b_C_brokenLaws_12 {X : aX} {d : Nat} {post : aO} {vi : Nat → Nat → Int32} {vl : Nat → Nat → Int64} {v0 : Nat} {x1 x2 : Int32} (k1 : CallOk X d 0 0 k_C_isBroken [.ref v0, .int x2] (mk vi vl) (fun r N' => wp X (d + 1) k_C_brokenLaws 0 0 18 [some (.ref v0), some (.int x1), some (.int x2)] (pR r [.int x1]) N' post)) (hv0 : isCl v0) : wp X (d + 1) k_C_brokenLaws 0 0 12 [some (.ref v0), some (.int x1), some (.int x2)] [] (mk vi vl) post :=
  wr_iload_n (q := 1) (by decide +kernel) rfl rfl <|
  wr_aload_n (q := 0) (by decide +kernel) rfl rfl <|
  wr_iload_n (q := 2) (by decide +kernel) rfl rfl <|
  wr_invV (a := v0) (ci := 0) (mid2 := 50) (idx := 106) (b1 := 0) (b2 := 0) (c1 := 0) (c2 := 0) (as := [.int x2]) (st := [.int x1]) pl_50 rfl (Nat.le_of_ble_eq_true rfl) rfl rfl (cl_lt0 hv0) (cl_s0 hv0) (by decide) rfl lm_C_106 im_50 is_50 (by decide +kernel) k1
theorem b_C_brokenLaws_18 {X : aX} {d : Nat} {post : aO} {vi : Nat → Nat → Int32} {vl : Nat → Nat → Int64} {v0 : Nat} {x1 x2 y0 y1 : Int32} (k1 : y1 = 0 → wp X (d + 1) k_C_brokenLaws 0 0 27 [some (.ref v0), some (.int x1), some (.int x2)] [.int y0] (mk vi vl) post) (k2 : ¬ y1 = 0 → wp X (d + 1) k_C_brokenLaws 0 0 21 [some (.ref v0), some (.int x1), some (.int x2)] [.int y0] (mk vi vl) post) : wp X (d + 1) k_C_brokenLaws 0 0 18 [some (.ref v0), some (.int x1), some (.int x2)] [.int y1, .int y0] (mk vi vl) post :=
  wr_if_eq (off := 9) (t := 27) (by decide +kernel) (by decide) k1 k2
theorem b_C_brokenLaws_21 {X : aX} {d : Nat} {post : aO} {vi : Nat → Nat → Int32} {vl : Nat → Nat → Int64} {v0 : Nat} {x1 x2 y0 : Int32} (k1 : wp X (d + 1) k_C_brokenLaws 0 0 28 [some (.ref v0), some (.int x1), some (.int x2)] [.int ((1 : Int32) <<< (x2 &&& 31)), .int y0] (mk vi vl) post) : wp X (d + 1) k_C_brokenLaws 0 0 21 [some (.ref v0), some (.int x1), some (.int x2)] [.int y0] (mk vi vl) post :=
  wr_iconst (n := 1) (v := (1 : Int32)) (by decide +kernel) (by decide) <|
  wr_iload_n (q := 2) (by decide +kernel) rfl rfl <|
  wr_ishl (by decide +kernel) <|
  wr_goto (off := 4) (t := 28) (by decide +kernel) (by decide) k1
theorem b_C_brokenLaws_27 {X : aX} {d : Nat} {post : aO} {vi : Nat → Nat → Int32} {vl : Nat → Nat → Int64} {v0 : Nat} {x1 x2 y0 : Int32} (k1 : wp X (d + 1) k_C_brokenLaws 0 0 28 [some (.ref v0), some (.int x1), some (.int x2)] [.int (0 : Int32), .int y0] (mk vi vl) post) : wp X (d + 1) k_C_brokenLaws 0 0 27 [some (.ref v0), some (.int x1), some (.int x2)] [.int y0] (mk vi vl) post :=
  wr_iconst (n := 0) (v := (0 : Int32)) (by decide +kernel) (by decide) <|
  k1
theorem b_C_brokenLaws_28 {X : aX} {d : Nat} {post : aO} {vi : Nat → Nat → Int32} {vl : Nat → Nat → Int64} {v0 : Nat} {x1 x2 y0 y1 : Int32} (k1 : wp X (d + 1) k_C_brokenLaws 0 0 4 [some (.ref v0), some (.int (y0 ||| y1)), some (.int (x2 + (1 : Int32)))] [] (mk vi vl) post) : wp X (d + 1) k_C_brokenLaws 0 0 28 [some (.ref v0), some (.int x1), some (.int x2)] [.int y1, .int y0] (mk vi vl) post :=
  wr_ior (by decide +kernel) <|
  wr_istore_n (q := 1) (by decide +kernel) rfl (by decide) <|
  wr_iinc (i := 2) (n := 1) (v := (1 : Int32)) (by decide +kernel) rfl (by decide) (by decide) <|
  wr_goto (off := -29) (t := 4) (by decide +kernel) (by decide) k1
theorem b_C_brokenLaws_36 {X : aX} {d : Nat} {post : aO} {vi : Nat → Nat → Int32} {vl : Nat → Nat → Int64} {v0 : Nat} {x1 x2 : Int32} (k1 : post (some (.int x1)) (mk vi vl)) : wp X (d + 1) k_C_brokenLaws 0 0 36 [some (.ref v0), some (.int x1), some (.int x2)] [] (mk vi vl) post :=
  wr_iload_n (q := 1) (by decide +kernel) rfl rfl <|
  wr_ret (r := some (.int x1)) (Or.inr (Or.inl ⟨_, rfl, (by decide +kernel), (Or.inl rfl)⟩)) k1
theorem b_C_unstitch_0 {X : aX} {d : Nat} {post : aO} {vi : Nat → Nat → Int32} {vl : Nat → Nat → Int64} {v0 : Nat} {x1 : Int32} (hv0 : isCl v0) (k1 : wp X (d + 1) k_C_unstitch 0 0 7 [some (.ref v0), some (.int x1), some (.int ((vi v0 7) - (1 : Int32)))] [] (mk vi vl) post) : wp X (d + 1) k_C_unstitch 0 0 0 [some (.ref v0), some (.int x1), none] [] (mk vi vl) post :=
  wr_aload_n (q := 0) (by decide +kernel) rfl rfl <|
  wr_getI (ci := 0) (k0 := 7) (idx := 34) (cl_lt0 hv0) (cl_s0 hv0) (by decide) (by decide) lf_C_34 (Or.inl rfl) (by decide +kernel) <|
  wr_iconst (n := 1) (v := (1 : Int32)) (by decide +kernel) (by decide) <|
  wr_isub (by decide +kernel) <|
  wr_istore_n (q := 2) (by decide +kernel) rfl (by decide) <|
  k1
theorem b_C_unstitch_7 {X : aX} {d : Nat} {post : aO} {vi : Nat → Nat → Int32} {vl : Nat → Nat → Int64} {v0 : Nat} {x1 x2 : Int32} (k1 : x2 < x1 → wp X (d + 1) k_C_unstitch 0 0 40 [some (.ref v0), some (.int x1), some (.int x2)] [] (mk vi vl) post) (k2 : ¬ x2 < x1 → wp X (d + 1) k_C_unstitch 0 0 12 [some (.ref v0), some (.int x1), some (.int x2)] [] (mk vi vl) post) : wp X (d + 1) k_C_unstitch 0 0 7 [some (.ref v0), some (.int x1), some (.int x2)] [] (mk vi vl) post :=
  wr_iload_n (q := 2) (by decide +kernel) rfl rfl <|
  wr_iload_n (q := 1) (by decide +kernel) rfl rfl <|
  wr_icmp_lt (off := 31) (t := 40) (by decide +kernel) (by decide) k1 k2
theorem b_C_unstitch_12 {X : aX} {d : Nat} {post : aO} {vi : Nat → Nat → Int32} {vl : Nat → Nat → Int64} {v0 : Nat} {x1 x2 : Int32} (hv0 : isCl v0) (q1 : vp_in x2 40) (q2 : vp_in x2 40) (q3 : vp_in x2 40) (k1 : CallOk X d 0 0 k_C_set [.ref v0, .int (vi (v0 + 6) x2.toNatClampNeg), .int (vi (v0 + 7) x2.toNatClampNeg), .int (vi (v0 + 8) x2.toNatClampNeg)] (mk vi vl) (fun r N' => wp X (d + 1) k_C_unstitch 0 0 34 [some (.ref v0), some (.int x1), some (.int x2)] (pR r []) N' post)) : wp X (d + 1) k_C_unstitch 0 0 12 [some (.ref v0), some (.int x1), some (.int x2)] [] (mk vi vl) post :=
  wr_aload_n (q := 0) (by decide +kernel) rfl rfl <|
  wr_aload_n (q := 0) (by decide +kernel) rfl rfl <|
  wr_getR2 (b := v0 + 6) (ci := 0) (k0 := 8) (idx := 37) (cl_lt0 hv0) (cl_s0 hv0) (by decide) (by decide) lf_C_37 rfl (cl_v8 hv0) (cl_lt hv0 6 (by decide)) (by decide +kernel) <|
  wr_iload_n (q := 2) (by decide +kernel) rfl rfl <|
  wr_iald (cl_lt hv0 6 (by decide)) (cl_s6 hv0) q1 (by decide +kernel) <|
  wr_aload_n (q := 0) (by decide +kernel) rfl rfl <|
  wr_getR2 (b := v0 + 7) (ci := 0) (k0 := 9) (idx := 40) (cl_lt0 hv0) (cl_s0 hv0) (by decide) (by decide) lf_C_40 rfl (cl_v9 hv0) (cl_lt hv0 7 (by decide)) (by decide +kernel) <|
  wr_iload_n (q := 2) (by decide +kernel) rfl rfl <|
  wr_iald (cl_lt hv0 7 (by decide)) (cl_s7 hv0) q2 (by decide +kernel) <|
  wr_aload_n (q := 0) (by decide +kernel) rfl rfl <|
  wr_getR2 (b := v0 + 8) (ci := 0) (k0 := 10) (idx := 43) (cl_lt0 hv0) (cl_s0 hv0) (by decide) (by decide) lf_C_43 rfl (cl_v10 hv0) (cl_lt hv0 8 (by decide)) (by decide +kernel) <|
  wr_iload_n (q := 2) (by decide +kernel) rfl rfl <|
  wr_iald (cl_lt hv0 8 (by decide)) (cl_s8 hv0) q3 (by decide +kernel) <|
  wr_invV (a := v0) (ci := 0) (mid2 := 33) (idx := 58) (b1 := 0) (b2 := 0) (c1 := 0) (c2 := 0) (as := [.int (vi (v0 + 6) x2.toNatClampNeg), .int (vi (v0 + 7) x2.toNatClampNeg), .int (vi (v0 + 8) x2.toNatClampNeg)]) (st := []) pl_33 rfl (Nat.le_of_ble_eq_true rfl) rfl rfl (cl_lt0 hv0) (cl_s0 hv0) (by decide) rfl lm_C_58 im_33 is_33 (by decide +kernel) k1
theorem b_C_unstitch_34 {X : aX} {d : Nat} {post : aO} {vi : Nat → Nat → Int32} {vl : Nat → Nat → Int64} {v0 : Nat} {x1 x2 : Int32} (k1 : wp X (d + 1) k_C_unstitch 0 0 7 [some (.ref v0), some (.int x1), some (.int (x2 + (-1 : Int32)))] [] (mk vi vl) post) : wp X (d + 1) k_C_unstitch 0 0 34 [some (.ref v0), some (.int x1), some (.int x2)] [] (mk vi vl) post :=
  wr_iinc (i := 2) (n := -1) (v := (-1 : Int32)) (by decide +kernel) rfl (by decide) (by decide) <|
  wr_goto (off := -30) (t := 7) (by decide +kernel) (by decide) k1
theorem b_C_unstitch_40 {X : aX} {d : Nat} {post : aO} {vi : Nat → Nat → Int32} {vl : Nat → Nat → Int64} {v0 : Nat} {x1 x2 : Int32} (hv0 : isCl v0) (k1 : ∀ w, w = up2 vi v0 7 x1 → wp X (d + 1) k_C_unstitch 0 0 45 [some (.ref v0), some (.int x1), some (.int x2)] [] (mk w vl) post) : wp X (d + 1) k_C_unstitch 0 0 40 [some (.ref v0), some (.int x1), some (.int x2)] [] (mk vi vl) post :=
  wr_aload_n (q := 0) (by decide +kernel) rfl rfl <|
  wr_iload_n (q := 1) (by decide +kernel) rfl rfl <|
  wr_putI (ci := 0) (k0 := 7) (idx := 34) (cl_lt0 hv0) (cl_s0 hv0) (by decide) (by decide) lf_C_34 rfl (by decide +kernel) <|
  k1 _ rfl
theorem b_C_unstitch_45 {X : aX} {d : Nat} {post : aO} {vi : Nat → Nat → Int32} {vl : Nat → Nat → Int64} {v0 : Nat} {x1 x2 : Int32} (k1 : CallOk X d 0 0 k_C_settleFrom [.ref v0, .int (0 : Int32)] (mk vi vl) (fun r N' => wp X (d + 1) k_C_unstitch 0 0 50 [some (.ref v0), some (.int x1), some (.int x2)] (pR r []) N' post)) (hv0 : isCl v0) : wp X (d + 1) k_C_unstitch 0 0 45 [some (.ref v0), some (.int x1), some (.int x2)] [] (mk vi vl) post :=
  wr_aload_n (q := 0) (by decide +kernel) rfl rfl <|
  wr_iconst (n := 0) (v := (0 : Int32)) (by decide +kernel) (by decide) <|
  wr_invV (a := v0) (ci := 0) (mid2 := 39) (idx := 70) (b1 := 0) (b2 := 0) (c1 := 0) (c2 := 0) (as := [.int (0 : Int32)]) (st := []) pl_39 rfl (Nat.le_of_ble_eq_true rfl) rfl rfl (cl_lt0 hv0) (cl_s0 hv0) (by decide) rfl lm_C_70 im_39 is_39 (by decide +kernel) k1
theorem b_C_unstitch_50 {X : aX} {d : Nat} {post : aO} {vi : Nat → Nat → Int32} {vl : Nat → Nat → Int64} {v0 : Nat} {x1 x2 : Int32} (k1 : post none (mk vi vl)) : wp X (d + 1) k_C_unstitch 0 0 50 [some (.ref v0), some (.int x1), some (.int x2)] [] (mk vi vl) post :=
  wr_ret (r := none) (Or.inl ⟨rfl, (by decide +kernel), rfl⟩) k1
theorem b_C_firstYearOf_0 {X : aX} {d : Nat} {post : aO} {vi : Nat → Nat → Int32} {vl : Nat → Nat → Int64} {v0 : Nat} {x1 : Int32} (k1 : wp X (d + 1) k_C_firstYearOf 0 0 4 [some (.ref v0), some (.int x1), some (.int (0 : Int32)), some (.int (0 : Int32))] [] (mk vi vl) post) : wp X (d + 1) k_C_firstYearOf 0 0 0 [some (.ref v0), some (.int x1), none, none] [] (mk vi vl) post :=
  wr_iconst (n := 0) (v := (0 : Int32)) (by decide +kernel) (by decide) <|
  wr_istore_n (q := 2) (by decide +kernel) rfl (by decide) <|
  wr_iconst (n := 0) (v := (0 : Int32)) (by decide +kernel) (by decide) <|
  wr_istore_n (q := 3) (by decide +kernel) rfl (by decide) <|
  k1
theorem b_C_firstYearOf_4 {X : aX} {d : Nat} {post : aO} {vi : Nat → Nat → Int32} {vl : Nat → Nat → Int64} {v0 : Nat} {x1 x2 x3 : Int32} (hv0 : isCl v0) (k1 : (vi v0 3) ≤ x3 → wp X (d + 1) k_C_firstYearOf 0 0 50 [some (.ref v0), some (.int x1), some (.int x2), some (.int x3)] [] (mk vi vl) post) (k2 : ¬ (vi v0 3) ≤ x3 → wp X (d + 1) k_C_firstYearOf 0 0 12 [some (.ref v0), some (.int x1), some (.int x2), some (.int x3)] [] (mk vi vl) post) : wp X (d + 1) k_C_firstYearOf 0 0 4 [some (.ref v0), some (.int x1), some (.int x2), some (.int x3)] [] (mk vi vl) post :=
  wr_iload_n (q := 3) (by decide +kernel) rfl rfl <|
  wr_aload_n (q := 0) (by decide +kernel) rfl rfl <|
  wr_getI (ci := 0) (k0 := 3) (idx := 22) (cl_lt0 hv0) (cl_s0 hv0) (by decide) (by decide) lf_C_22 (Or.inl rfl) (by decide +kernel) <|
  wr_icmp_ge (off := 41) (t := 50) (by decide +kernel) (by decide) k1 k2
theorem b_C_firstYearOf_12 {X : aX} {d : Nat} {post : aO} {vi : Nat → Nat → Int32} {vl : Nat → Nat → Int64} {v0 : Nat} {x1 x2 x3 : Int32} (k1 : ((x1 >>> (x3 &&& 31)) &&& (1 : Int32)) = 0 → wp X (d + 1) k_C_firstYearOf 0 0 44 [some (.ref v0), some (.int x1), some (.int x2), some (.int x3)] [] (mk vi vl) post) (k2 : ¬ ((x1 >>> (x3 &&& 31)) &&& (1 : Int32)) = 0 → wp X (d + 1) k_C_firstYearOf 0 0 20 [some (.ref v0), some (.int x1), some (.int x2), some (.int x3)] [] (mk vi vl) post) : wp X (d + 1) k_C_firstYearOf 0 0 12 [some (.ref v0), some (.int x1), some (.int x2), some (.int x3)] [] (mk vi vl) post :=
  wr_iload_n (q := 1) (by decide +kernel) rfl rfl <|
  wr_iload_n (q := 3) (by decide +kernel) rfl rfl <|
  wr_ishr (by decide +kernel) <|
  wr_iconst (n := 1) (v := (1 : Int32)) (by decide +kernel) (by decide) <|
  wr_iand (by decide +kernel) <|
  wr_if_eq (off := 27) (t := 44) (by decide +kernel) (by decide) k1 k2
theorem b_C_firstYearOf_20 {X : aX} {d : Nat} {post : aO} {vi : Nat → Nat → Int32} {vl : Nat → Nat → Int64} {v0 : Nat} {x1 x2 x3 : Int32} (hv0 : isCl v0) (q1 : vp_in x3 8) (k1 : CallOk X d 0 0 k_C_yearsWith [.ref v0, .int (vi (v0 + 4) x3.toNatClampNeg)] (mk vi vl) (fun r N' => wp X (d + 1) k_C_firstYearOf 0 0 31 [some (.ref v0), some (.int x1), some (.int x2), some (.int x3)] (pR r [.int x2]) N' post)) : wp X (d + 1) k_C_firstYearOf 0 0 20 [some (.ref v0), some (.int x1), some (.int x2), some (.int x3)] [] (mk vi vl) post :=
  wr_iload_n (q := 2) (by decide +kernel) rfl rfl <|
  wr_aload_n (q := 0) (by decide +kernel) rfl rfl <|
  wr_aload_n (q := 0) (by decide +kernel) rfl rfl <|
  wr_getR2 (b := v0 + 4) (ci := 0) (k0 := 5) (idx := 28) (cl_lt0 hv0) (cl_s0 hv0) (by decide) (by decide) lf_C_28 rfl (cl_v5 hv0) (cl_lt hv0 4 (by decide)) (by decide +kernel) <|
  wr_iload_n (q := 3) (by decide +kernel) rfl rfl <|
  wr_iald (cl_lt hv0 4 (by decide)) (cl_s4 hv0) q1 (by decide +kernel) <|
  wr_invV (a := v0) (ci := 0) (mid2 := 54) (idx := 88) (b1 := 0) (b2 := 0) (c1 := 0) (c2 := 0) (as := [.int (vi (v0 + 4) x3.toNatClampNeg)]) (st := [.int x2]) pl_54 rfl (Nat.le_of_ble_eq_true rfl) rfl rfl (cl_lt0 hv0) (cl_s0 hv0) (by decide) rfl lm_C_88 im_54 is_54 (by decide +kernel) k1
theorem b_C_firstYearOf_31 {X : aX} {d : Nat} {post : aO} {vi : Nat → Nat → Int32} {vl : Nat → Nat → Int64} {v0 : Nat} {x1 x2 x3 y0 y1 : Int32} (hv0 : isCl v0) (q1 : vp_in x3 8) (k1 : CallOk X d 0 0 k_C_yearsWith [.ref v0, .int (vi (v0 + 5) x3.toNatClampNeg)] (mk vi vl) (fun r N' => wp X (d + 1) k_C_firstYearOf 0 0 41 [some (.ref v0), some (.int x1), some (.int x2), some (.int x3)] (pR r [.int y1, .int y0]) N' post)) : wp X (d + 1) k_C_firstYearOf 0 0 31 [some (.ref v0), some (.int x1), some (.int x2), some (.int x3)] [.int y1, .int y0] (mk vi vl) post :=
  wr_aload_n (q := 0) (by decide +kernel) rfl rfl <|
  wr_aload_n (q := 0) (by decide +kernel) rfl rfl <|
  wr_getR2 (b := v0 + 5) (ci := 0) (k0 := 6) (idx := 31) (cl_lt0 hv0) (cl_s0 hv0) (by decide) (by decide) lf_C_31 rfl (cl_v6 hv0) (cl_lt hv0 5 (by decide)) (by decide +kernel) <|
  wr_iload_n (q := 3) (by decide +kernel) rfl rfl <|
  wr_iald (cl_lt hv0 5 (by decide)) (cl_s5 hv0) q1 (by decide +kernel) <|
  wr_invV (a := v0) (ci := 0) (mid2 := 54) (idx := 88) (b1 := 0) (b2 := 0) (c1 := 0) (c2 := 0) (as := [.int (vi (v0 + 5) x3.toNatClampNeg)]) (st := [.int y1, .int y0]) pl_54 rfl (Nat.le_of_ble_eq_true rfl) rfl rfl (cl_lt0 hv0) (cl_s0 hv0) (by decide) rfl lm_C_88 im_54 is_54 (by decide +kernel) k1
theorem b_C_firstYearOf_41 {X : aX} {d : Nat} {post : aO} {vi : Nat → Nat → Int32} {vl : Nat → Nat → Int64} {v0 : Nat} {x1 x2 x3 y0 y1 y2 : Int32} (k1 : wp X (d + 1) k_C_firstYearOf 0 0 44 [some (.ref v0), some (.int x1), some (.int (y0 ||| (y1 ||| y2))), some (.int x3)] [] (mk vi vl) post) : wp X (d + 1) k_C_firstYearOf 0 0 41 [some (.ref v0), some (.int x1), some (.int x2), some (.int x3)] [.int y2, .int y1, .int y0] (mk vi vl) post :=
  wr_ior (by decide +kernel) <|
  wr_ior (by decide +kernel) <|
  wr_istore_n (q := 2) (by decide +kernel) rfl (by decide) <|
  k1
theorem b_C_firstYearOf_44 {X : aX} {d : Nat} {post : aO} {vi : Nat → Nat → Int32} {vl : Nat → Nat → Int64} {v0 : Nat} {x1 x2 x3 : Int32} (k1 : wp X (d + 1) k_C_firstYearOf 0 0 4 [some (.ref v0), some (.int x1), some (.int x2), some (.int (x3 + (1 : Int32)))] [] (mk vi vl) post) : wp X (d + 1) k_C_firstYearOf 0 0 44 [some (.ref v0), some (.int x1), some (.int x2), some (.int x3)] [] (mk vi vl) post :=
  wr_iinc (i := 3) (n := 1) (v := (1 : Int32)) (by decide +kernel) rfl (by decide) (by decide) <|
  wr_goto (off := -43) (t := 4) (by decide +kernel) (by decide) k1
theorem b_C_firstYearOf_50 {X : aX} {d : Nat} {post : aO} {vi : Nat → Nat → Int32} {vl : Nat → Nat → Int64} {v0 : Nat} {x1 x2 x3 : Int32} (k1 : ¬ x2 = 0 → wp X (d + 1) k_C_firstYearOf 0 0 59 [some (.ref v0), some (.int x1), some (.int x2), some (.int x3)] [] (mk vi vl) post) (k2 : x2 = 0 → wp X (d + 1) k_C_firstYearOf 0 0 54 [some (.ref v0), some (.int x1), some (.int x2), some (.int x3)] [] (mk vi vl) post) : wp X (d + 1) k_C_firstYearOf 0 0 50 [some (.ref v0), some (.int x1), some (.int x2), some (.int x3)] [] (mk vi vl) post :=
  wr_iload_n (q := 2) (by decide +kernel) rfl rfl <|
  wr_if_ne (off := 8) (t := 59) (by decide +kernel) (by decide) k1 k2
theorem b_C_firstYearOf_54 {X : aX} {d : Nat} {post : aO} {vi : Nat → Nat → Int32} {vl : Nat → Nat → Int64} {v0 : Nat} {x1 x2 x3 : Int32} (k1 : wp X (d + 1) k_C_firstYearOf 0 0 63 [some (.ref v0), some (.int x1), some (.int x2), some (.int x3)] [.int (-9 : Int32)] (mk vi vl) post) : wp X (d + 1) k_C_firstYearOf 0 0 54 [some (.ref v0), some (.int x1), some (.int x2), some (.int x3)] [] (mk vi vl) post :=
  wr_bipush (n := -9) (v := (-9 : Int32)) (by decide +kernel) (by decide) <|
  wr_goto (off := 7) (t := 63) (by decide +kernel) (by decide) k1
theorem b_C_firstYearOf_59 {X : aX} {d : Nat} {post : aO} {vi : Nat → Nat → Int32} {vl : Nat → Nat → Int64} {v0 : Nat} {x1 x2 x3 : Int32} (k1 : CallOk X d 0 0 k_J_numberOfTrailingZeros [.int x2] (mk vi vl) (fun r N' => wp X (d + 1) k_C_firstYearOf 0 0 63 [some (.ref v0), some (.int x1), some (.int x2), some (.int x3)] (pR r []) N' post)) : wp X (d + 1) k_C_firstYearOf 0 0 59 [some (.ref v0), some (.int x1), some (.int x2), some (.int x3)] [] (mk vi vl) post :=
  wr_iload_n (q := 2) (by decide +kernel) rfl rfl <|
  wr_invS (mid2 := 74) (idx := 109) (b1 := 0) (b2 := 0) (c1 := 0) (c2 := 0) (as := [.int x2]) (st := []) pl_74 rfl (Nat.le_of_ble_eq_true rfl) rfl rfl lm_C_109 it_74 (by decide +kernel) k1
theorem b_C_firstYearOf_63 {X : aX} {d : Nat} {post : aO} {vi : Nat → Nat → Int32} {vl : Nat → Nat → Int64} {v0 : Nat} {x1 x2 x3 y0 : Int32} (k1 : post (some (.int y0)) (mk vi vl)) : wp X (d + 1) k_C_firstYearOf 0 0 63 [some (.ref v0), some (.int x1), some (.int x2), some (.int x3)] [.int y0] (mk vi vl) post :=
  wr_ret (r := some (.int y0)) (Or.inr (Or.inl ⟨_, rfl, (by decide +kernel), (Or.inl rfl)⟩)) k1
theorem b_C_isAnyBrokenIn_0 {X : aX} {d : Nat} {post : aO} {vi : Nat → Nat → Int32} {vl : Nat → Nat → Int64} {v0 : Nat} {x1 : Int32} (k1 : wp X (d + 1) k_C_isAnyBrokenIn 0 0 2 [some (.ref v0), some (.int x1), some (.int (0 : Int32))] [] (mk vi vl) post) : wp X (d + 1) k_C_isAnyBrokenIn 0 0 0 [some (.ref v0), some (.int x1), none] [] (mk vi vl) post :=
  wr_iconst (n := 0) (v := (0 : Int32)) (by decide +kernel) (by decide) <|
  wr_istore_n (q := 2) (by decide +kernel) rfl (by decide) <|
  k1
theorem b_C_isAnyBrokenIn_2 {X : aX} {d : Nat} {post : aO} {vi : Nat → Nat → Int32} {vl : Nat → Nat → Int64} {v0 : Nat} {x1 x2 : Int32} (hv0 : isCl v0) (k1 : (vi v0 3) ≤ x2 → wp X (d + 1) k_C_isAnyBrokenIn 0 0 27 [some (.ref v0), some (.int x1), some (.int x2)] [] (mk vi vl) post) (k2 : ¬ (vi v0 3) ≤ x2 → wp X (d + 1) k_C_isAnyBrokenIn 0 0 10 [some (.ref v0), some (.int x1), some (.int x2)] [] (mk vi vl) post) : wp X (d + 1) k_C_isAnyBrokenIn 0 0 2 [some (.ref v0), some (.int x1), some (.int x2)] [] (mk vi vl) post :=
  wr_iload_n (q := 2) (by decide +kernel) rfl rfl <|
  wr_aload_n (q := 0) (by decide +kernel) rfl rfl <|
  wr_getI (ci := 0) (k0 := 3) (idx := 22) (cl_lt0 hv0) (cl_s0 hv0) (by decide) (by decide) lf_C_22 (Or.inl rfl) (by decide +kernel) <|
  wr_icmp_ge (off := 20) (t := 27) (by decide +kernel) (by decide) k1 k2
theorem b_C_isAnyBrokenIn_10 {X : aX} {d : Nat} {post : aO} {vi : Nat → Nat → Int32} {vl : Nat → Nat → Int64} {v0 : Nat} {x1 x2 : Int32} (k1 : CallOk X d 0 0 k_C_isBrokenIn [.ref v0, .int x2, .int x1] (mk vi vl) (fun r N' => wp X (d + 1) k_C_isAnyBrokenIn 0 0 16 [some (.ref v0), some (.int x1), some (.int x2)] (pR r []) N' post)) (hv0 : isCl v0) : wp X (d + 1) k_C_isAnyBrokenIn 0 0 10 [some (.ref v0), some (.int x1), some (.int x2)] [] (mk vi vl) post :=
  wr_aload_n (q := 0) (by decide +kernel) rfl rfl <|
  wr_iload_n (q := 2) (by decide +kernel) rfl rfl <|
  wr_iload_n (q := 1) (by decide +kernel) rfl rfl <|
  wr_invV (a := v0) (ci := 0) (mid2 := 51) (idx := 103) (b1 := 0) (b2 := 0) (c1 := 0) (c2 := 0) (as := [.int x2, .int x1]) (st := []) pl_51 rfl (Nat.le_of_ble_eq_true rfl) rfl rfl (cl_lt0 hv0) (cl_s0 hv0) (by decide) rfl lm_C_103 im_51 is_51 (by decide +kernel) k1
theorem b_C_isAnyBrokenIn_16 {X : aX} {d : Nat} {post : aO} {vi : Nat → Nat → Int32} {vl : Nat → Nat → Int64} {v0 : Nat} {x1 x2 y0 : Int32} (k1 : y0 = 0 → wp X (d + 1) k_C_isAnyBrokenIn 0 0 21 [some (.ref v0), some (.int x1), some (.int x2)] [] (mk vi vl) post) (k2 : ¬ y0 = 0 → wp X (d + 1) k_C_isAnyBrokenIn 0 0 19 [some (.ref v0), some (.int x1), some (.int x2)] [] (mk vi vl) post) : wp X (d + 1) k_C_isAnyBrokenIn 0 0 16 [some (.ref v0), some (.int x1), some (.int x2)] [.int y0] (mk vi vl) post :=
  wr_if_eq (off := 5) (t := 21) (by decide +kernel) (by decide) k1 k2
theorem b_C_isAnyBrokenIn_19 {X : aX} {d : Nat} {post : aO} {vi : Nat → Nat → Int32} {vl : Nat → Nat → Int64} {v0 : Nat} {x1 x2 : Int32} (k1 : post (some (.int (1 : Int32))) (mk vi vl)) : wp X (d + 1) k_C_isAnyBrokenIn 0 0 19 [some (.ref v0), some (.int x1), some (.int x2)] [] (mk vi vl) post :=
  wr_iconst (n := 1) (v := (1 : Int32)) (by decide +kernel) (by decide) <|
  wr_ret (r := some (.int (1 : Int32))) (Or.inr (Or.inl ⟨_, rfl, (by decide +kernel), (Or.inr ⟨rfl, (by decide)⟩)⟩)) k1
theorem b_C_isAnyBrokenIn_21 {X : aX} {d : Nat} {post : aO} {vi : Nat → Nat → Int32} {vl : Nat → Nat → Int64} {v0 : Nat} {x1 x2 : Int32} (k1 : wp X (d + 1) k_C_isAnyBrokenIn 0 0 2 [some (.ref v0), some (.int x1), some (.int (x2 + (1 : Int32)))] [] (mk vi vl) post) : wp X (d + 1) k_C_isAnyBrokenIn 0 0 21 [some (.ref v0), some (.int x1), some (.int x2)] [] (mk vi vl) post :=
  wr_iinc (i := 2) (n := 1) (v := (1 : Int32)) (by decide +kernel) rfl (by decide) (by decide) <|
  wr_goto (off := -22) (t := 2) (by decide +kernel) (by decide) k1
theorem b_C_isAnyBrokenIn_27 {X : aX} {d : Nat} {post : aO} {vi : Nat → Nat → Int32} {vl : Nat → Nat → Int64} {v0 : Nat} {x1 x2 : Int32} (k1 : post (some (.int (0 : Int32))) (mk vi vl)) : wp X (d + 1) k_C_isAnyBrokenIn 0 0 27 [some (.ref v0), some (.int x1), some (.int x2)] [] (mk vi vl) post :=
  wr_iconst (n := 0) (v := (0 : Int32)) (by decide +kernel) (by decide) <|
  wr_ret (r := some (.int (0 : Int32))) (Or.inr (Or.inl ⟨_, rfl, (by decide +kernel), (Or.inr ⟨rfl, (by decide)⟩)⟩)) k1
theorem b_C_yearsWithSomething_0 {X : aX} {d : Nat} {post : aO} {vi : Nat → Nat → Int32} {vl : Nat → Nat → Int64} {v0 : Nat} (hv0 : isCl v0) (k1 : CallOk X d 0 0 k_C_yearsWith [.ref v0, .int (-9 : Int32)] (mk vi vl) (fun r N' => wp X (d + 1) k_C_yearsWithSomething 0 0 14 [some (.ref v0)] (pR r [.int (((1 : Int32) <<< ((vi v0 0) &&& 31)) - (1 : Int32))]) N' post)) : wp X (d + 1) k_C_yearsWithSomething 0 0 0 [some (.ref v0)] [] (mk vi vl) post :=
  wr_iconst (n := 1) (v := (1 : Int32)) (by decide +kernel) (by decide) <|
  wr_aload_n (q := 0) (by decide +kernel) rfl rfl <|
  wr_getI (ci := 0) (k0 := 0) (idx := 9) (cl_lt0 hv0) (cl_s0 hv0) (by decide) (by decide) lf_C_9 (Or.inl rfl) (by decide +kernel) <|
  wr_ishl (by decide +kernel) <|
  wr_iconst (n := 1) (v := (1 : Int32)) (by decide +kernel) (by decide) <|
  wr_isub (by decide +kernel) <|
  wr_aload_n (q := 0) (by decide +kernel) rfl rfl <|
  wr_bipush (n := -9) (v := (-9 : Int32)) (by decide +kernel) (by decide) <|
  wr_invV (a := v0) (ci := 0) (mid2 := 54) (idx := 88) (b1 := 0) (b2 := 0) (c1 := 0) (c2 := 0) (as := [.int (-9 : Int32)]) (st := [.int (((1 : Int32) <<< ((vi v0 0) &&& 31)) - (1 : Int32))]) pl_54 rfl (Nat.le_of_ble_eq_true rfl) rfl rfl (cl_lt0 hv0) (cl_s0 hv0) (by decide) rfl lm_C_88 im_54 is_54 (by decide +kernel) k1
theorem b_C_yearsWithSomething_14 {X : aX} {d : Nat} {post : aO} {vi : Nat → Nat → Int32} {vl : Nat → Nat → Int64} {v0 : Nat} {y0 y1 : Int32} (k1 : post (some (.int (y0 &&& (y1 ^^^ (-1 : Int32))))) (mk vi vl)) : wp X (d + 1) k_C_yearsWithSomething 0 0 14 [some (.ref v0)] [.int y1, .int y0] (mk vi vl) post :=
  wr_iconst (n := -1) (v := (-1 : Int32)) (by decide +kernel) (by decide) <|
  wr_ixor (by decide +kernel) <|
  wr_iand (by decide +kernel) <|
  wr_ret (r := some (.int (y0 &&& (y1 ^^^ (-1 : Int32))))) (Or.inr (Or.inl ⟨_, rfl, (by decide +kernel), (Or.inl rfl)⟩)) k1
theorem b_C_happensAs_0 {X : aX} {d : Nat} {post : aO} {vi : Nat → Nat → Int32} {vl : Nat → Nat → Int64} {v0 v1 v1n : Nat} (k1 : wp X (d + 1) k_C_happensAs 0 0 2 [some (.ref v0), some (.ref v1), some (.int (0 : Int32))] [] (mk vi vl) post) : wp X (d + 1) k_C_happensAs 0 0 0 [some (.ref v0), some (.ref v1), none] [] (mk vi vl) post :=
  wr_iconst (n := 0) (v := (0 : Int32)) (by decide +kernel) (by decide) <|
  wr_istore_n (q := 2) (by decide +kernel) rfl (by decide) <|
  k1
theorem b_C_happensAs_2 {X : aX} {d : Nat} {post : aO} {vi : Nat → Nat → Int32} {vl : Nat → Nat → Int64} {v0 v1 v1n : Nat} {x2 : Int32} (hv0 : isCl v0) (k1 : (vi v0 0) ≤ x2 → wp X (d + 1) k_C_happensAs 0 0 30 [some (.ref v0), some (.ref v1), some (.int x2)] [] (mk vi vl) post) (k2 : ¬ (vi v0 0) ≤ x2 → wp X (d + 1) k_C_happensAs 0 0 10 [some (.ref v0), some (.ref v1), some (.int x2)] [] (mk vi vl) post) : wp X (d + 1) k_C_happensAs 0 0 2 [some (.ref v0), some (.ref v1), some (.int x2)] [] (mk vi vl) post :=
  wr_iload_n (q := 2) (by decide +kernel) rfl rfl <|
  wr_aload_n (q := 0) (by decide +kernel) rfl rfl <|
  wr_getI (ci := 0) (k0 := 0) (idx := 9) (cl_lt0 hv0) (cl_s0 hv0) (by decide) (by decide) lf_C_9 (Or.inl rfl) (by decide +kernel) <|
  wr_icmp_ge (off := 23) (t := 30) (by decide +kernel) (by decide) k1 k2
theorem b_C_happensAs_10 {X : aX} {d : Nat} {post : aO} {vi : Nat → Nat → Int32} {vl : Nat → Nat → Int64} {v0 v1 v1n : Nat} {x2 : Int32} (hv0 : isCl v0) (q1 : vp_in x2 5) (hav1 : v1 < 107) (hsv1 : sh0 v1 = (0, v1n)) (q2 : vp_in x2 v1n) (k1 : (vi (v0 + 9) x2.toNatClampNeg) = (vi v1 x2.toNatClampNeg) → wp X (d + 1) k_C_happensAs 0 0 24 [some (.ref v0), some (.ref v1), some (.int x2)] [] (mk vi vl) post) (k2 : ¬ (vi (v0 + 9) x2.toNatClampNeg) = (vi v1 x2.toNatClampNeg) → wp X (d + 1) k_C_happensAs 0 0 22 [some (.ref v0), some (.ref v1), some (.int x2)] [] (mk vi vl) post) : wp X (d + 1) k_C_happensAs 0 0 10 [some (.ref v0), some (.ref v1), some (.int x2)] [] (mk vi vl) post :=
  wr_aload_n (q := 0) (by decide +kernel) rfl rfl <|
  wr_getR2 (b := v0 + 9) (ci := 0) (k0 := 11) (idx := 46) (cl_lt0 hv0) (cl_s0 hv0) (by decide) (by decide) lf_C_46 rfl (cl_v11 hv0) (cl_lt hv0 9 (by decide)) (by decide +kernel) <|
  wr_iload_n (q := 2) (by decide +kernel) rfl rfl <|
  wr_iald (cl_lt hv0 9 (by decide)) (cl_s9 hv0) q1 (by decide +kernel) <|
  wr_aload_n (q := 1) (by decide +kernel) rfl rfl <|
  wr_iload_n (q := 2) (by decide +kernel) rfl rfl <|
  wr_iald hav1 hsv1 q2 (by decide +kernel) <|
  wr_icmp_eq (off := 5) (t := 24) (by decide +kernel) (by decide) k1 k2
theorem b_C_happensAs_22 {X : aX} {d : Nat} {post : aO} {vi : Nat → Nat → Int32} {vl : Nat → Nat → Int64} {v0 v1 v1n : Nat} {x2 : Int32} (k1 : post (some (.int (0 : Int32))) (mk vi vl)) : wp X (d + 1) k_C_happensAs 0 0 22 [some (.ref v0), some (.ref v1), some (.int x2)] [] (mk vi vl) post :=
  wr_iconst (n := 0) (v := (0 : Int32)) (by decide +kernel) (by decide) <|
  wr_ret (r := some (.int (0 : Int32))) (Or.inr (Or.inl ⟨_, rfl, (by decide +kernel), (Or.inr ⟨rfl, (by decide)⟩)⟩)) k1
theorem b_C_happensAs_24 {X : aX} {d : Nat} {post : aO} {vi : Nat → Nat → Int32} {vl : Nat → Nat → Int64} {v0 v1 v1n : Nat} {x2 : Int32} (k1 : wp X (d + 1) k_C_happensAs 0 0 2 [some (.ref v0), some (.ref v1), some (.int (x2 + (1 : Int32)))] [] (mk vi vl) post) : wp X (d + 1) k_C_happensAs 0 0 24 [some (.ref v0), some (.ref v1), some (.int x2)] [] (mk vi vl) post :=
  wr_iinc (i := 2) (n := 1) (v := (1 : Int32)) (by decide +kernel) rfl (by decide) (by decide) <|
  wr_goto (off := -25) (t := 2) (by decide +kernel) (by decide) k1
theorem b_C_happensAs_30 {X : aX} {d : Nat} {post : aO} {vi : Nat → Nat → Int32} {vl : Nat → Nat → Int64} {v0 v1 v1n : Nat} {x2 : Int32} (k1 : post (some (.int (1 : Int32))) (mk vi vl)) : wp X (d + 1) k_C_happensAs 0 0 30 [some (.ref v0), some (.ref v1), some (.int x2)] [] (mk vi vl) post :=
  wr_iconst (n := 1) (v := (1 : Int32)) (by decide +kernel) (by decide) <|
  wr_ret (r := some (.int (1 : Int32))) (Or.inr (Or.inl ⟨_, rfl, (by decide +kernel), (Or.inr ⟨rfl, (by decide)⟩)⟩)) k1
theorem b_C_lawsOfKind_0 {X : aX} {d : Nat} {post : aO} {vi : Nat → Nat → Int32} {vl : Nat → Nat → Int64} {v0 : Nat} {x1 : Int32} (k1 : wp X (d + 1) k_C_lawsOfKind 0 0 4 [some (.ref v0), some (.int x1), some (.int (0 : Int32)), some (.int (0 : Int32))] [] (mk vi vl) post) : wp X (d + 1) k_C_lawsOfKind 0 0 0 [some (.ref v0), some (.int x1), none, none] [] (mk vi vl) post :=
  wr_iconst (n := 0) (v := (0 : Int32)) (by decide +kernel) (by decide) <|
  wr_istore_n (q := 2) (by decide +kernel) rfl (by decide) <|
  wr_iconst (n := 0) (v := (0 : Int32)) (by decide +kernel) (by decide) <|
  wr_istore_n (q := 3) (by decide +kernel) rfl (by decide) <|
  k1
theorem b_C_lawsOfKind_4 {X : aX} {d : Nat} {post : aO} {vi : Nat → Nat → Int32} {vl : Nat → Nat → Int64} {v0 : Nat} {x1 x2 x3 : Int32} (hv0 : isCl v0) (k1 : (vi v0 3) ≤ x3 → wp X (d + 1) k_C_lawsOfKind 0 0 35 [some (.ref v0), some (.int x1), some (.int x2), some (.int x3)] [] (mk vi vl) post) (k2 : ¬ (vi v0 3) ≤ x3 → wp X (d + 1) k_C_lawsOfKind 0 0 12 [some (.ref v0), some (.int x1), some (.int x2), some (.int x3)] [] (mk vi vl) post) : wp X (d + 1) k_C_lawsOfKind 0 0 4 [some (.ref v0), some (.int x1), some (.int x2), some (.int x3)] [] (mk vi vl) post :=
  wr_iload_n (q := 3) (by decide +kernel) rfl rfl <|
  wr_aload_n (q := 0) (by decide +kernel) rfl rfl <|
  wr_getI (ci := 0) (k0 := 3) (idx := 22) (cl_lt0 hv0) (cl_s0 hv0) (by decide) (by decide) lf_C_22 (Or.inl rfl) (by decide +kernel) <|
  wr_icmp_ge (off := 26) (t := 35) (by decide +kernel) (by decide) k1 k2
theorem b_C_lawsOfKind_12 {X : aX} {d : Nat} {post : aO} {vi : Nat → Nat → Int32} {vl : Nat → Nat → Int64} {v0 : Nat} {x1 x2 x3 : Int32} (k1 : CallOk X d 0 0 k_C_isOfKind [.ref v0, .int x3, .int x1] (mk vi vl) (fun r N' => wp X (d + 1) k_C_lawsOfKind 0 0 19 [some (.ref v0), some (.int x1), some (.int x2), some (.int x3)] (pR r [.int x2]) N' post)) (hv0 : isCl v0) : wp X (d + 1) k_C_lawsOfKind 0 0 12 [some (.ref v0), some (.int x1), some (.int x2), some (.int x3)] [] (mk vi vl) post :=
  wr_iload_n (q := 2) (by decide +kernel) rfl rfl <|
  wr_aload_n (q := 0) (by decide +kernel) rfl rfl <|
  wr_iload_n (q := 3) (by decide +kernel) rfl rfl <|
  wr_iload_n (q := 1) (by decide +kernel) rfl rfl <|
  wr_invV (a := v0) (ci := 0) (mid2 := 52) (idx := 94) (b1 := 0) (b2 := 0) (c1 := 0) (c2 := 0) (as := [.int x3, .int x1]) (st := [.int x2]) pl_52 rfl (Nat.le_of_ble_eq_true rfl) rfl rfl (cl_lt0 hv0) (cl_s0 hv0) (by decide) rfl lm_C_94 im_52 is_52 (by decide +kernel) k1
theorem b_C_lawsOfKind_19 {X : aX} {d : Nat} {post : aO} {vi : Nat → Nat → Int32} {vl : Nat → Nat → Int64} {v0 : Nat} {x1 x2 x3 y0 y1 : Int32} (k1 : y1 = 0 → wp X (d + 1) k_C_lawsOfKind 0 0 26 [some (.ref v0), some (.int x1), some (.int x2), some (.int x3)] [.int y0] (mk vi vl) post) (k2 : ¬ y1 = 0 → wp X (d + 1) k_C_lawsOfKind 0 0 22 [some (.ref v0), some (.int x1), some (.int x2), some (.int x3)] [.int y0] (mk vi vl) post) : wp X (d + 1) k_C_lawsOfKind 0 0 19 [some (.ref v0), some (.int x1), some (.int x2), some (.int x3)] [.int y1, .int y0] (mk vi vl) post :=
  wr_if_eq (off := 7) (t := 26) (by decide +kernel) (by decide) k1 k2
theorem b_C_lawsOfKind_22 {X : aX} {d : Nat} {post : aO} {vi : Nat → Nat → Int32} {vl : Nat → Nat → Int64} {v0 : Nat} {x1 x2 x3 y0 : Int32} (k1 : wp X (d + 1) k_C_lawsOfKind 0 0 27 [some (.ref v0), some (.int x1), some (.int x2), some (.int x3)] [.int (1 : Int32), .int y0] (mk vi vl) post) : wp X (d + 1) k_C_lawsOfKind 0 0 22 [some (.ref v0), some (.int x1), some (.int x2), some (.int x3)] [.int y0] (mk vi vl) post :=
  wr_iconst (n := 1) (v := (1 : Int32)) (by decide +kernel) (by decide) <|
  wr_goto (off := 4) (t := 27) (by decide +kernel) (by decide) k1
theorem b_C_lawsOfKind_26 {X : aX} {d : Nat} {post : aO} {vi : Nat → Nat → Int32} {vl : Nat → Nat → Int64} {v0 : Nat} {x1 x2 x3 y0 : Int32} (k1 : wp X (d + 1) k_C_lawsOfKind 0 0 27 [some (.ref v0), some (.int x1), some (.int x2), some (.int x3)] [.int (0 : Int32), .int y0] (mk vi vl) post) : wp X (d + 1) k_C_lawsOfKind 0 0 26 [some (.ref v0), some (.int x1), some (.int x2), some (.int x3)] [.int y0] (mk vi vl) post :=
  wr_iconst (n := 0) (v := (0 : Int32)) (by decide +kernel) (by decide) <|
  k1
theorem b_C_lawsOfKind_27 {X : aX} {d : Nat} {post : aO} {vi : Nat → Nat → Int32} {vl : Nat → Nat → Int64} {v0 : Nat} {x1 x2 x3 y0 y1 : Int32} (k1 : wp X (d + 1) k_C_lawsOfKind 0 0 4 [some (.ref v0), some (.int x1), some (.int (y0 + y1)), some (.int (x3 + (1 : Int32)))] [] (mk vi vl) post) : wp X (d + 1) k_C_lawsOfKind 0 0 27 [some (.ref v0), some (.int x1), some (.int x2), some (.int x3)] [.int y1, .int y0] (mk vi vl) post :=
  wr_iadd (by decide +kernel) <|
  wr_istore_n (q := 2) (by decide +kernel) rfl (by decide) <|
  wr_iinc (i := 3) (n := 1) (v := (1 : Int32)) (by decide +kernel) rfl (by decide) (by decide) <|
  wr_goto (off := -28) (t := 4) (by decide +kernel) (by decide) k1
theorem b_C_lawsOfKind_35 {X : aX} {d : Nat} {post : aO} {vi : Nat → Nat → Int32} {vl : Nat → Nat → Int64} {v0 : Nat} {x1 x2 x3 : Int32} (k1 : post (some (.int x2)) (mk vi vl)) : wp X (d + 1) k_C_lawsOfKind 0 0 35 [some (.ref v0), some (.int x1), some (.int x2), some (.int x3)] [] (mk vi vl) post :=
  wr_iload_n (q := 2) (by decide +kernel) rfl rfl <|
  wr_ret (r := some (.int x2)) (Or.inr (Or.inl ⟨_, rfl, (by decide +kernel), (Or.inl rfl)⟩)) k1
end
