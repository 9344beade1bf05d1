section
-- ===== PART A: goes FIRST, ahead of the names: the tables' words, and 'selects' of the private methods out of them =====
/-- a private method of a class that the tables say can be made, by its rows of tables_1 -/
def lw_okq (q : MethodName × Nat) : Prop := (q.1.cls ≠ "java/lang/invoke/MethodHandle" ∧ q.1.cls ≠ "java/lang/invoke/VarHandle") ∧ Cond.instantiable q.1.cls q.2 ∈ tables_1 ∧ Cond.privateMethod q.1 ∈ tables_1 ∧ Cond.instanceMethod q.1 ∈ tables_1
theorem lw_p0 : lw_okq (⟨"HullFoundry", "become", "(ILHullFoundry$Points;LHullFoundry$Points;)I"⟩, 13) := ⟨⟨by decide +kernel, by decide +kernel⟩, List.mem_of_getElem? (i := 14) (by decide +kernel), List.mem_of_getElem? (i := 307) (by decide +kernel), List.mem_of_getElem? (i := 308) (by decide +kernel)⟩
theorem lw_p1 : lw_okq (⟨"HullFoundry$Hull", "spread", "(LHullFoundry$Points;LHullFoundry$Points;)I"⟩, 7) := ⟨⟨by decide +kernel, by decide +kernel⟩, List.mem_of_getElem? (i := 125) (by decide +kernel), List.mem_of_getElem? (i := 325) (by decide +kernel), List.mem_of_getElem? (i := 326) (by decide +kernel)⟩
theorem lw_p2 : lw_okq (⟨"HullFoundry$Hull", "seek", "(LHullFoundry$Points;LHullFoundry$Points;JJJ)V"⟩, 7) := ⟨⟨by decide +kernel, by decide +kernel⟩, List.mem_of_getElem? (i := 125) (by decide +kernel), List.mem_of_getElem? (i := 329) (by decide +kernel), List.mem_of_getElem? (i := 330) (by decide +kernel)⟩
theorem lw_p3 : lw_okq (⟨"HullFoundry$Hull", "take", "()V"⟩, 7) := ⟨⟨by decide +kernel, by decide +kernel⟩, List.mem_of_getElem? (i := 125) (by decide +kernel), List.mem_of_getElem? (i := 337) (by decide +kernel), List.mem_of_getElem? (i := 338) (by decide +kernel)⟩
theorem lw_p4 : lw_okq (⟨"HullFoundry$Hull", "stepOff", "(LHullFoundry$Points;LHullFoundry$Points;JJJ)Z"⟩, 7) := ⟨⟨by decide +kernel, by decide +kernel⟩, List.mem_of_getElem? (i := 125) (by decide +kernel), List.mem_of_getElem? (i := 343) (by decide +kernel), List.mem_of_getElem? (i := 344) (by decide +kernel)⟩
theorem lw_p5 : lw_okq (⟨"HullFoundry$Hull", "wrap", "(LHullFoundry$Points;LHullFoundry$Points;I)V"⟩, 7) := ⟨⟨by decide +kernel, by decide +kernel⟩, List.mem_of_getElem? (i := 125) (by decide +kernel), List.mem_of_getElem? (i := 363) (by decide +kernel), List.mem_of_getElem? (i := 364) (by decide +kernel)⟩
theorem lw_p6 : lw_okq (⟨"HullFoundry$Shell", "addTriangle", "(III)V"⟩, 9) := ⟨⟨by decide +kernel, by decide +kernel⟩, List.mem_of_getElem? (i := 131) (by decide +kernel), List.mem_of_getElem? (i := 385) (by decide +kernel), List.mem_of_getElem? (i := 386) (by decide +kernel)⟩
theorem lw_p7 : lw_okq (⟨"HullFoundry$Shell", "tearOff", "(I)V"⟩, 9) := ⟨⟨by decide +kernel, by decide +kernel⟩, List.mem_of_getElem? (i := 131) (by decide +kernel), List.mem_of_getElem? (i := 404) (by decide +kernel), List.mem_of_getElem? (i := 405) (by decide +kernel)⟩
theorem lw_p8 : lw_okq (⟨"HullFoundry$Hull", "fill", "(LHullFoundry$Body;I)V"⟩, 7) := ⟨⟨by decide +kernel, by decide +kernel⟩, List.mem_of_getElem? (i := 125) (by decide +kernel), List.mem_of_getElem? (i := 411) (by decide +kernel), List.mem_of_getElem? (i := 412) (by decide +kernel)⟩
theorem lw_p9 : lw_okq (⟨"HullFoundry$Body", "comparePlane", "(IIII)I"⟩, 9) := ⟨⟨by decide +kernel, by decide +kernel⟩, List.mem_of_getElem? (i := 25) (by decide +kernel), List.mem_of_getElem? (i := 435) (by decide +kernel), List.mem_of_getElem? (i := 436) (by decide +kernel)⟩
theorem lw_p10 : lw_okq (⟨"HullFoundry$Body", "layRing", "(II)I"⟩, 9) := ⟨⟨by decide +kernel, by decide +kernel⟩, List.mem_of_getElem? (i := 25) (by decide +kernel), List.mem_of_getElem? (i := 451) (by decide +kernel), List.mem_of_getElem? (i := 452) (by decide +kernel)⟩
theorem lw_p11 : lw_okq (⟨"HullFoundry$Body", "excess", "(IJJJJ)J"⟩, 9) := ⟨⟨by decide +kernel, by decide +kernel⟩, List.mem_of_getElem? (i := 25) (by decide +kernel), List.mem_of_getElem? (i := 455) (by decide +kernel), List.mem_of_getElem? (i := 456) (by decide +kernel)⟩
theorem lw_p12 : lw_okq (⟨"HullFoundry$Body", "facing", "(IIII)J"⟩, 9) := ⟨⟨by decide +kernel, by decide +kernel⟩, List.mem_of_getElem? (i := 25) (by decide +kernel), List.mem_of_getElem? (i := 459) (by decide +kernel), List.mem_of_getElem? (i := 460) (by decide +kernel)⟩
theorem lw_p13 : lw_okq (⟨"HullFoundry$Body", "addEdge", "(IIII)V"⟩, 9) := ⟨⟨by decide +kernel, by decide +kernel⟩, List.mem_of_getElem? (i := 25) (by decide +kernel), List.mem_of_getElem? (i := 470) (by decide +kernel), List.mem_of_getElem? (i := 471) (by decide +kernel)⟩
theorem lw_p14 : lw_okq (⟨"HullFoundry", "keepFresh", "(I)V"⟩, 13) := ⟨⟨by decide +kernel, by decide +kernel⟩, List.mem_of_getElem? (i := 14) (by decide +kernel), List.mem_of_getElem? (i := 483) (by decide +kernel), List.mem_of_getElem? (i := 484) (by decide +kernel)⟩
theorem lw_p15 : lw_okq (⟨"HullFoundry", "forgetOldest", "()V"⟩, 13) := ⟨⟨by decide +kernel, by decide +kernel⟩, List.mem_of_getElem? (i := 14) (by decide +kernel), List.mem_of_getElem? (i := 487) (by decide +kernel), List.mem_of_getElem? (i := 488) (by decide +kernel)⟩
def lw_privs_1 : List (MethodName × Nat) := [(⟨"HullFoundry", "become", "(ILHullFoundry$Points;LHullFoundry$Points;)I"⟩, 13), (⟨"HullFoundry$Hull", "spread", "(LHullFoundry$Points;LHullFoundry$Points;)I"⟩, 7), (⟨"HullFoundry$Hull", "seek", "(LHullFoundry$Points;LHullFoundry$Points;JJJ)V"⟩, 7), (⟨"HullFoundry$Hull", "take", "()V"⟩, 7), (⟨"HullFoundry$Hull", "stepOff", "(LHullFoundry$Points;LHullFoundry$Points;JJJ)Z"⟩, 7), (⟨"HullFoundry$Hull", "wrap", "(LHullFoundry$Points;LHullFoundry$Points;I)V"⟩, 7), (⟨"HullFoundry$Shell", "addTriangle", "(III)V"⟩, 9), (⟨"HullFoundry$Shell", "tearOff", "(I)V"⟩, 9), (⟨"HullFoundry$Hull", "fill", "(LHullFoundry$Body;I)V"⟩, 7), (⟨"HullFoundry$Body", "comparePlane", "(IIII)I"⟩, 9), (⟨"HullFoundry$Body", "layRing", "(II)I"⟩, 9), (⟨"HullFoundry$Body", "excess", "(IJJJJ)J"⟩, 9), (⟨"HullFoundry$Body", "facing", "(IIII)J"⟩, 9), (⟨"HullFoundry$Body", "addEdge", "(IIII)V"⟩, 9), (⟨"HullFoundry", "keepFresh", "(I)V"⟩, 13), (⟨"HullFoundry", "forgetOldest", "()V"⟩, 13)]
theorem lw_r1 : ∀ q ∈ lw_privs_1, lw_okq q := List.forall_mem_cons.mpr ⟨lw_p0, List.forall_mem_cons.mpr ⟨lw_p1, List.forall_mem_cons.mpr ⟨lw_p2, List.forall_mem_cons.mpr ⟨lw_p3, List.forall_mem_cons.mpr ⟨lw_p4, List.forall_mem_cons.mpr ⟨lw_p5, List.forall_mem_cons.mpr ⟨lw_p6, List.forall_mem_cons.mpr ⟨lw_p7, List.forall_mem_cons.mpr ⟨lw_p8, List.forall_mem_cons.mpr ⟨lw_p9, List.forall_mem_cons.mpr ⟨lw_p10, List.forall_mem_cons.mpr ⟨lw_p11, List.forall_mem_cons.mpr ⟨lw_p12, List.forall_mem_cons.mpr ⟨lw_p13, List.forall_mem_cons.mpr ⟨lw_p14, List.forall_mem_cons.mpr ⟨lw_p15, fun _ h => absurd h List.not_mem_nil⟩⟩⟩⟩⟩⟩⟩⟩⟩⟩⟩⟩⟩⟩⟩⟩
theorem lw_p16 : lw_okq (⟨"HullFoundry$Body", "locateAmongFaces", "(JJJJ)I"⟩, 9) := ⟨⟨by decide +kernel, by decide +kernel⟩, List.mem_of_getElem? (i := 25) (by decide +kernel), List.mem_of_getElem? (i := 534) (by decide +kernel), List.mem_of_getElem? (i := 535) (by decide +kernel)⟩
theorem lw_p17 : lw_okq (⟨"HullFoundry$Body", "isInFigure", "(JJJJ)Z"⟩, 9) := ⟨⟨by decide +kernel, by decide +kernel⟩, List.mem_of_getElem? (i := 25) (by decide +kernel), List.mem_of_getElem? (i := 538) (by decide +kernel), List.mem_of_getElem? (i := 539) (by decide +kernel)⟩
theorem lw_p18 : lw_okq (⟨"HullFoundry$Body", "isOnLine", "(JJJJ)Z"⟩, 9) := ⟨⟨by decide +kernel, by decide +kernel⟩, List.mem_of_getElem? (i := 25) (by decide +kernel), List.mem_of_getElem? (i := 542) (by decide +kernel), List.mem_of_getElem? (i := 543) (by decide +kernel)⟩
theorem lw_p19 : lw_okq (⟨"HullFoundry$Body", "addUpPieces", "(I)J"⟩, 9) := ⟨⟨by decide +kernel, by decide +kernel⟩, List.mem_of_getElem? (i := 25) (by decide +kernel), List.mem_of_getElem? (i := 559) (by decide +kernel), List.mem_of_getElem? (i := 560) (by decide +kernel)⟩
theorem lw_p20 : lw_okq (⟨"HullFoundry$Body", "offerSlit", "(JJ)V"⟩, 9) := ⟨⟨by decide +kernel, by decide +kernel⟩, List.mem_of_getElem? (i := 25) (by decide +kernel), List.mem_of_getElem? (i := 607) (by decide +kernel), List.mem_of_getElem? (i := 608) (by decide +kernel)⟩
theorem lw_p21 : lw_okq (⟨"HullFoundry$Body", "offerEdges", "(II)V"⟩, 9) := ⟨⟨by decide +kernel, by decide +kernel⟩, List.mem_of_getElem? (i := 25) (by decide +kernel), List.mem_of_getElem? (i := 617) (by decide +kernel), List.mem_of_getElem? (i := 618) (by decide +kernel)⟩
theorem lw_p22 : lw_okq (⟨"HullFoundry$Body", "isPassedBy", "(IJJJ)Z"⟩, 9) := ⟨⟨by decide +kernel, by decide +kernel⟩, List.mem_of_getElem? (i := 25) (by decide +kernel), List.mem_of_getElem? (i := 621) (by decide +kernel), List.mem_of_getElem? (i := 622) (by decide +kernel)⟩
theorem lw_p23 : lw_okq (⟨"HullFoundry$Gap", "addDifference", "(LHullFoundry$Points;ILHullFoundry$Points;I)V"⟩, 10) := ⟨⟨by decide +kernel, by decide +kernel⟩, List.mem_of_getElem? (i := 193) (by decide +kernel), List.mem_of_getElem? (i := 637) (by decide +kernel), List.mem_of_getElem? (i := 638) (by decide +kernel)⟩
theorem lw_p24 : lw_okq (⟨"HullFoundry$Gap", "shrink", "()Z"⟩, 10) := ⟨⟨by decide +kernel, by decide +kernel⟩, List.mem_of_getElem? (i := 193) (by decide +kernel), List.mem_of_getElem? (i := 642) (by decide +kernel), List.mem_of_getElem? (i := 643) (by decide +kernel)⟩
theorem lw_p25 : lw_okq (⟨"HullFoundry$Gap", "holdsNearest", "(I)Z"⟩, 10) := ⟨⟨by decide +kernel, by decide +kernel⟩, List.mem_of_getElem? (i := 193) (by decide +kernel), List.mem_of_getElem? (i := 646) (by decide +kernel), List.mem_of_getElem? (i := 647) (by decide +kernel)⟩
theorem lw_p26 : lw_okq (⟨"HullFoundry$Gap", "stepToPoint", "(I)Z"⟩, 10) := ⟨⟨by decide +kernel, by decide +kernel⟩, List.mem_of_getElem? (i := 193) (by decide +kernel), List.mem_of_getElem? (i := 650) (by decide +kernel), List.mem_of_getElem? (i := 651) (by decide +kernel)⟩
theorem lw_p27 : lw_okq (⟨"HullFoundry$Gap", "along", "(I)J"⟩, 10) := ⟨⟨by decide +kernel, by decide +kernel⟩, List.mem_of_getElem? (i := 193) (by decide +kernel), List.mem_of_getElem? (i := 654) (by decide +kernel), List.mem_of_getElem? (i := 655) (by decide +kernel)⟩
theorem lw_p28 : lw_okq (⟨"HullFoundry$Gap", "stepToLine", "(II)Z"⟩, 10) := ⟨⟨by decide +kernel, by decide +kernel⟩, List.mem_of_getElem? (i := 193) (by decide +kernel), List.mem_of_getElem? (i := 658) (by decide +kernel), List.mem_of_getElem? (i := 659) (by decide +kernel)⟩
theorem lw_p29 : lw_okq (⟨"HullFoundry$Gap", "stepToPlane", "(III)Z"⟩, 10) := ⟨⟨by decide +kernel, by decide +kernel⟩, List.mem_of_getElem? (i := 193) (by decide +kernel), List.mem_of_getElem? (i := 662) (by decide +kernel), List.mem_of_getElem? (i := 663) (by decide +kernel)⟩
theorem lw_p30 : lw_okq (⟨"HullFoundry$Gap", "crossX", "(II)J"⟩, 10) := ⟨⟨by decide +kernel, by decide +kernel⟩, List.mem_of_getElem? (i := 193) (by decide +kernel), List.mem_of_getElem? (i := 666) (by decide +kernel), List.mem_of_getElem? (i := 667) (by decide +kernel)⟩
theorem lw_p31 : lw_okq (⟨"HullFoundry$Gap", "crossY", "(II)J"⟩, 10) := ⟨⟨by decide +kernel, by decide +kernel⟩, List.mem_of_getElem? (i := 193) (by decide +kernel), List.mem_of_getElem? (i := 670) (by decide +kernel), List.mem_of_getElem? (i := 671) (by decide +kernel)⟩
def lw_privs_2 : List (MethodName × Nat) := [(⟨"HullFoundry$Body", "locateAmongFaces", "(JJJJ)I"⟩, 9), (⟨"HullFoundry$Body", "isInFigure", "(JJJJ)Z"⟩, 9), (⟨"HullFoundry$Body", "isOnLine", "(JJJJ)Z"⟩, 9), (⟨"HullFoundry$Body", "addUpPieces", "(I)J"⟩, 9), (⟨"HullFoundry$Body", "offerSlit", "(JJ)V"⟩, 9), (⟨"HullFoundry$Body", "offerEdges", "(II)V"⟩, 9), (⟨"HullFoundry$Body", "isPassedBy", "(IJJJ)Z"⟩, 9), (⟨"HullFoundry$Gap", "addDifference", "(LHullFoundry$Points;ILHullFoundry$Points;I)V"⟩, 10), (⟨"HullFoundry$Gap", "shrink", "()Z"⟩, 10), (⟨"HullFoundry$Gap", "holdsNearest", "(I)Z"⟩, 10), (⟨"HullFoundry$Gap", "stepToPoint", "(I)Z"⟩, 10), (⟨"HullFoundry$Gap", "along", "(I)J"⟩, 10), (⟨"HullFoundry$Gap", "stepToLine", "(II)Z"⟩, 10), (⟨"HullFoundry$Gap", "stepToPlane", "(III)Z"⟩, 10), (⟨"HullFoundry$Gap", "crossX", "(II)J"⟩, 10), (⟨"HullFoundry$Gap", "crossY", "(II)J"⟩, 10)]
theorem lw_r2 : ∀ q ∈ lw_privs_2, lw_okq q := List.forall_mem_cons.mpr ⟨lw_p16, List.forall_mem_cons.mpr ⟨lw_p17, List.forall_mem_cons.mpr ⟨lw_p18, List.forall_mem_cons.mpr ⟨lw_p19, List.forall_mem_cons.mpr ⟨lw_p20, List.forall_mem_cons.mpr ⟨lw_p21, List.forall_mem_cons.mpr ⟨lw_p22, List.forall_mem_cons.mpr ⟨lw_p23, List.forall_mem_cons.mpr ⟨lw_p24, List.forall_mem_cons.mpr ⟨lw_p25, List.forall_mem_cons.mpr ⟨lw_p26, List.forall_mem_cons.mpr ⟨lw_p27, List.forall_mem_cons.mpr ⟨lw_p28, List.forall_mem_cons.mpr ⟨lw_p29, List.forall_mem_cons.mpr ⟨lw_p30, List.forall_mem_cons.mpr ⟨lw_p31, fun _ h => absurd h List.not_mem_nil⟩⟩⟩⟩⟩⟩⟩⟩⟩⟩⟩⟩⟩⟩⟩⟩
theorem lw_p32 : lw_okq (⟨"HullFoundry$Gap", "crossZ", "(II)J"⟩, 10) := ⟨⟨by decide +kernel, by decide +kernel⟩, List.mem_of_getElem? (i := 193) (by decide +kernel), List.mem_of_getElem? (i := 674) (by decide +kernel), List.mem_of_getElem? (i := 675) (by decide +kernel)⟩
theorem lw_p33 : lw_okq (⟨"HullFoundry$Gap", "share", "(II)J"⟩, 10) := ⟨⟨by decide +kernel, by decide +kernel⟩, List.mem_of_getElem? (i := 193) (by decide +kernel), List.mem_of_getElem? (i := 678) (by decide +kernel), List.mem_of_getElem? (i := 679) (by decide +kernel)⟩
theorem lw_p34 : lw_okq (⟨"HullFoundry$Gap", "keepPicked", "(I)V"⟩, 10) := ⟨⟨by decide +kernel, by decide +kernel⟩, List.mem_of_getElem? (i := 193) (by decide +kernel), List.mem_of_getElem? (i := 682) (by decide +kernel), List.mem_of_getElem? (i := 683) (by decide +kernel)⟩
theorem lw_p35 : lw_okq (⟨"HullFoundryModel", "heaps", "(JJJ)V"⟩, 59) := ⟨⟨by decide +kernel, by decide +kernel⟩, List.mem_of_getElem? (i := 719) (by decide +kernel), List.mem_of_getElem? (i := 928) (by decide +kernel), List.mem_of_getElem? (i := 929) (by decide +kernel)⟩
theorem lw_p36 : lw_okq (⟨"HullFoundryModel", "hulls", "(I)I"⟩, 59) := ⟨⟨by decide +kernel, by decide +kernel⟩, List.mem_of_getElem? (i := 719) (by decide +kernel), List.mem_of_getElem? (i := 932) (by decide +kernel), List.mem_of_getElem? (i := 933) (by decide +kernel)⟩
theorem lw_p37 : lw_okq (⟨"HullFoundryModel", "kindOfHeap", "()I"⟩, 59) := ⟨⟨by decide +kernel, by decide +kernel⟩, List.mem_of_getElem? (i := 719) (by decide +kernel), List.mem_of_getElem? (i := 936) (by decide +kernel), List.mem_of_getElem? (i := 937) (by decide +kernel)⟩
theorem lw_p38 : lw_okq (⟨"HullFoundryModel", "across", "(III)V"⟩, 59) := ⟨⟨by decide +kernel, by decide +kernel⟩, List.mem_of_getElem? (i := 719) (by decide +kernel), List.mem_of_getElem? (i := 940) (by decide +kernel), List.mem_of_getElem? (i := 941) (by decide +kernel)⟩
theorem lw_p39 : lw_okq (⟨"HullFoundryModel", "isFlat", "()Z"⟩, 59) := ⟨⟨by decide +kernel, by decide +kernel⟩, List.mem_of_getElem? (i := 719) (by decide +kernel), List.mem_of_getElem? (i := 944) (by decide +kernel), List.mem_of_getElem? (i := 945) (by decide +kernel)⟩
theorem lw_p40 : lw_okq (⟨"HullFoundryModel", "plain", "()V"⟩, 59) := ⟨⟨by decide +kernel, by decide +kernel⟩, List.mem_of_getElem? (i := 719) (by decide +kernel), List.mem_of_getElem? (i := 948) (by decide +kernel), List.mem_of_getElem? (i := 949) (by decide +kernel)⟩
theorem lw_p41 : lw_okq (⟨"HullFoundryModel", "height", "(I)J"⟩, 59) := ⟨⟨by decide +kernel, by decide +kernel⟩, List.mem_of_getElem? (i := 719) (by decide +kernel), List.mem_of_getElem? (i := 955) (by decide +kernel), List.mem_of_getElem? (i := 956) (by decide +kernel)⟩
theorem lw_p42 : lw_okq (⟨"HullFoundryModel", "lists", "(J)Z"⟩, 59) := ⟨⟨by decide +kernel, by decide +kernel⟩, List.mem_of_getElem? (i := 719) (by decide +kernel), List.mem_of_getElem? (i := 959) (by decide +kernel), List.mem_of_getElem? (i := 960) (by decide +kernel)⟩
theorem lw_p43 : lw_okq (⟨"HullFoundryModel", "rings", "()V"⟩, 59) := ⟨⟨by decide +kernel, by decide +kernel⟩, List.mem_of_getElem? (i := 719) (by decide +kernel), List.mem_of_getElem? (i := 963) (by decide +kernel), List.mem_of_getElem? (i := 964) (by decide +kernel)⟩
theorem lw_p44 : lw_okq (⟨"HullFoundryModel", "leftOf", "(III)J"⟩, 59) := ⟨⟨by decide +kernel, by decide +kernel⟩, List.mem_of_getElem? (i := 719) (by decide +kernel), List.mem_of_getElem? (i := 968) (by decide +kernel), List.mem_of_getElem? (i := 969) (by decide +kernel)⟩
theorem lw_p45 : lw_okq (⟨"HullFoundryModel", "apartOf", "(II)J"⟩, 59) := ⟨⟨by decide +kernel, by decide +kernel⟩, List.mem_of_getElem? (i := 719) (by decide +kernel), List.mem_of_getElem? (i := 972) (by decide +kernel), List.mem_of_getElem? (i := 973) (by decide +kernel)⟩
theorem lw_p46 : lw_okq (⟨"HullFoundryModel", "faceHere", "(IJ)V"⟩, 59) := ⟨⟨by decide +kernel, by decide +kernel⟩, List.mem_of_getElem? (i := 719) (by decide +kernel), List.mem_of_getElem? (i := 976) (by decide +kernel), List.mem_of_getElem? (i := 977) (by decide +kernel)⟩
theorem lw_p47 : lw_okq (⟨"HullFoundryModel", "isAhead", "(IJ)Z"⟩, 59) := ⟨⟨by decide +kernel, by decide +kernel⟩, List.mem_of_getElem? (i := 719) (by decide +kernel), List.mem_of_getElem? (i := 980) (by decide +kernel), List.mem_of_getElem? (i := 981) (by decide +kernel)⟩
def lw_privs_3 : List (MethodName × Nat) := [(⟨"HullFoundry$Gap", "crossZ", "(II)J"⟩, 10), (⟨"HullFoundry$Gap", "share", "(II)J"⟩, 10), (⟨"HullFoundry$Gap", "keepPicked", "(I)V"⟩, 10), (⟨"HullFoundryModel", "heaps", "(JJJ)V"⟩, 59), (⟨"HullFoundryModel", "hulls", "(I)I"⟩, 59), (⟨"HullFoundryModel", "kindOfHeap", "()I"⟩, 59), (⟨"HullFoundryModel", "across", "(III)V"⟩, 59), (⟨"HullFoundryModel", "isFlat", "()Z"⟩, 59), (⟨"HullFoundryModel", "plain", "()V"⟩, 59), (⟨"HullFoundryModel", "height", "(I)J"⟩, 59), (⟨"HullFoundryModel", "lists", "(J)Z"⟩, 59), (⟨"HullFoundryModel", "rings", "()V"⟩, 59), (⟨"HullFoundryModel", "leftOf", "(III)J"⟩, 59), (⟨"HullFoundryModel", "apartOf", "(II)J"⟩, 59), (⟨"HullFoundryModel", "faceHere", "(IJ)V"⟩, 59), (⟨"HullFoundryModel", "isAhead", "(IJ)Z"⟩, 59)]
theorem lw_r3 : ∀ q ∈ lw_privs_3, lw_okq q := List.forall_mem_cons.mpr ⟨lw_p32, List.forall_mem_cons.mpr ⟨lw_p33, List.forall_mem_cons.mpr ⟨lw_p34, List.forall_mem_cons.mpr ⟨lw_p35, List.forall_mem_cons.mpr ⟨lw_p36, List.forall_mem_cons.mpr ⟨lw_p37, List.forall_mem_cons.mpr ⟨lw_p38, List.forall_mem_cons.mpr ⟨lw_p39, List.forall_mem_cons.mpr ⟨lw_p40, List.forall_mem_cons.mpr ⟨lw_p41, List.forall_mem_cons.mpr ⟨lw_p42, List.forall_mem_cons.mpr ⟨lw_p43, List.forall_mem_cons.mpr ⟨lw_p44, List.forall_mem_cons.mpr ⟨lw_p45, List.forall_mem_cons.mpr ⟨lw_p46, List.forall_mem_cons.mpr ⟨lw_p47, fun _ h => absurd h List.not_mem_nil⟩⟩⟩⟩⟩⟩⟩⟩⟩⟩⟩⟩⟩⟩⟩⟩
theorem lw_p48 : lw_okq (⟨"HullFoundryModel", "turnsAbout", "()V"⟩, 59) := ⟨⟨by decide +kernel, by decide +kernel⟩, List.mem_of_getElem? (i := 719) (by decide +kernel), List.mem_of_getElem? (i := 984) (by decide +kernel), List.mem_of_getElem? (i := 985) (by decide +kernel)⟩
theorem lw_p49 : lw_okq (⟨"HullFoundryModel", "planes", "(I)V"⟩, 59) := ⟨⟨by decide +kernel, by decide +kernel⟩, List.mem_of_getElem? (i := 719) (by decide +kernel), List.mem_of_getElem? (i := 988) (by decide +kernel), List.mem_of_getElem? (i := 989) (by decide +kernel)⟩
theorem lw_p50 : lw_okq (⟨"HullFoundryModel", "isKnown", "(IJ)Z"⟩, 59) := ⟨⟨by decide +kernel, by decide +kernel⟩, List.mem_of_getElem? (i := 719) (by decide +kernel), List.mem_of_getElem? (i := 992) (by decide +kernel), List.mem_of_getElem? (i := 993) (by decide +kernel)⟩
theorem lw_p51 : lw_okq (⟨"HullFoundryModel", "becomes", "(II)Z"⟩, 59) := ⟨⟨by decide +kernel, by decide +kernel⟩, List.mem_of_getElem? (i := 719) (by decide +kernel), List.mem_of_getElem? (i := 996) (by decide +kernel), List.mem_of_getElem? (i := 997) (by decide +kernel)⟩
theorem lw_p52 : lw_okq (⟨"HullFoundryModel", "keeps", "()V"⟩, 59) := ⟨⟨by decide +kernel, by decide +kernel⟩, List.mem_of_getElem? (i := 719) (by decide +kernel), List.mem_of_getElem? (i := 1000) (by decide +kernel), List.mem_of_getElem? (i := 1001) (by decide +kernel)⟩
theorem lw_p53 : lw_okq (⟨"HullFoundryModel", "loads", "(I)V"⟩, 59) := ⟨⟨by decide +kernel, by decide +kernel⟩, List.mem_of_getElem? (i := 719) (by decide +kernel), List.mem_of_getElem? (i := 1008) (by decide +kernel), List.mem_of_getElem? (i := 1009) (by decide +kernel)⟩
theorem lw_p54 : lw_okq (⟨"HullFoundryModel", "knows", "(II)V"⟩, 59) := ⟨⟨by decide +kernel, by decide +kernel⟩, List.mem_of_getElem? (i := 719) (by decide +kernel), List.mem_of_getElem? (i := 1016) (by decide +kernel), List.mem_of_getElem? (i := 1017) (by decide +kernel)⟩
theorem lw_p55 : lw_okq (⟨"HullFoundryModel", "edgeHere", "(IIII)V"⟩, 59) := ⟨⟨by decide +kernel, by decide +kernel⟩, List.mem_of_getElem? (i := 719) (by decide +kernel), List.mem_of_getElem? (i := 1020) (by decide +kernel), List.mem_of_getElem? (i := 1021) (by decide +kernel)⟩
theorem lw_p56 : lw_okq (⟨"HullFoundryModel", "area", "(I)J"⟩, 59) := ⟨⟨by decide +kernel, by decide +kernel⟩, List.mem_of_getElem? (i := 719) (by decide +kernel), List.mem_of_getElem? (i := 1037) (by decide +kernel), List.mem_of_getElem? (i := 1038) (by decide +kernel)⟩
theorem lw_p57 : lw_okq (⟨"HullFoundryModel", "owns", "(II)V"⟩, 59) := ⟨⟨by decide +kernel, by decide +kernel⟩, List.mem_of_getElem? (i := 719) (by decide +kernel), List.mem_of_getElem? (i := 1050) (by decide +kernel), List.mem_of_getElem? (i := 1051) (by decide +kernel)⟩
theorem lw_p58 : lw_okq (⟨"HullFoundryModel", "points", "(JJJJ)V"⟩, 59) := ⟨⟨by decide +kernel, by decide +kernel⟩, List.mem_of_getElem? (i := 719) (by decide +kernel), List.mem_of_getElem? (i := 1054) (by decide +kernel), List.mem_of_getElem? (i := 1055) (by decide +kernel)⟩
theorem lw_p59 : lw_okq (⟨"HullFoundryModel", "where", "(II)I"⟩, 59) := ⟨⟨by decide +kernel, by decide +kernel⟩, List.mem_of_getElem? (i := 719) (by decide +kernel), List.mem_of_getElem? (i := 1058) (by decide +kernel), List.mem_of_getElem? (i := 1059) (by decide +kernel)⟩
theorem lw_p60 : lw_okq (⟨"HullFoundryModel", "onLine", "(II)Z"⟩, 59) := ⟨⟨by decide +kernel, by decide +kernel⟩, List.mem_of_getElem? (i := 719) (by decide +kernel), List.mem_of_getElem? (i := 1062) (by decide +kernel), List.mem_of_getElem? (i := 1063) (by decide +kernel)⟩
theorem lw_p61 : lw_okq (⟨"HullFoundryModel", "overFace", "(I)J"⟩, 59) := ⟨⟨by decide +kernel, by decide +kernel⟩, List.mem_of_getElem? (i := 719) (by decide +kernel), List.mem_of_getElem? (i := 1066) (by decide +kernel), List.mem_of_getElem? (i := 1067) (by decide +kernel)⟩
theorem lw_p62 : lw_okq (⟨"HullFoundryModel", "isOver", "(II)Z"⟩, 59) := ⟨⟨by decide +kernel, by decide +kernel⟩, List.mem_of_getElem? (i := 719) (by decide +kernel), List.mem_of_getElem? (i := 1070) (by decide +kernel), List.mem_of_getElem? (i := 1071) (by decide +kernel)⟩
theorem lw_p63 : lw_okq (⟨"HullFoundryModel", "adds", "()V"⟩, 59) := ⟨⟨by decide +kernel, by decide +kernel⟩, List.mem_of_getElem? (i := 719) (by decide +kernel), List.mem_of_getElem? (i := 1086) (by decide +kernel), List.mem_of_getElem? (i := 1087) (by decide +kernel)⟩
def lw_privs_4 : List (MethodName × Nat) := [(⟨"HullFoundryModel", "turnsAbout", "()V"⟩, 59), (⟨"HullFoundryModel", "planes", "(I)V"⟩, 59), (⟨"HullFoundryModel", "isKnown", "(IJ)Z"⟩, 59), (⟨"HullFoundryModel", "becomes", "(II)Z"⟩, 59), (⟨"HullFoundryModel", "keeps", "()V"⟩, 59), (⟨"HullFoundryModel", "loads", "(I)V"⟩, 59), (⟨"HullFoundryModel", "knows", "(II)V"⟩, 59), (⟨"HullFoundryModel", "edgeHere", "(IIII)V"⟩, 59), (⟨"HullFoundryModel", "area", "(I)J"⟩, 59), (⟨"HullFoundryModel", "owns", "(II)V"⟩, 59), (⟨"HullFoundryModel", "points", "(JJJJ)V"⟩, 59), (⟨"HullFoundryModel", "where", "(II)I"⟩, 59), (⟨"HullFoundryModel", "onLine", "(II)Z"⟩, 59), (⟨"HullFoundryModel", "overFace", "(I)J"⟩, 59), (⟨"HullFoundryModel", "isOver", "(II)Z"⟩, 59), (⟨"HullFoundryModel", "adds", "()V"⟩, 59)]
theorem lw_r4 : ∀ q ∈ lw_privs_4, lw_okq q := List.forall_mem_cons.mpr ⟨lw_p48, List.forall_mem_cons.mpr ⟨lw_p49, List.forall_mem_cons.mpr ⟨lw_p50, List.forall_mem_cons.mpr ⟨lw_p51, List.forall_mem_cons.mpr ⟨lw_p52, List.forall_mem_cons.mpr ⟨lw_p53, List.forall_mem_cons.mpr ⟨lw_p54, List.forall_mem_cons.mpr ⟨lw_p55, List.forall_mem_cons.mpr ⟨lw_p56, List.forall_mem_cons.mpr ⟨lw_p57, List.forall_mem_cons.mpr ⟨lw_p58, List.forall_mem_cons.mpr ⟨lw_p59, List.forall_mem_cons.mpr ⟨lw_p60, List.forall_mem_cons.mpr ⟨lw_p61, List.forall_mem_cons.mpr ⟨lw_p62, List.forall_mem_cons.mpr ⟨lw_p63, fun _ h => absurd h List.not_mem_nil⟩⟩⟩⟩⟩⟩⟩⟩⟩⟩⟩⟩⟩⟩⟩⟩
theorem lw_p64 : lw_okq (⟨"HullFoundryModel", "thick", "()V"⟩, 59) := ⟨⟨by decide +kernel, by decide +kernel⟩, List.mem_of_getElem? (i := 719) (by decide +kernel), List.mem_of_getElem? (i := 1103) (by decide +kernel), List.mem_of_getElem? (i := 1104) (by decide +kernel)⟩
theorem lw_p65 : lw_okq (⟨"HullFoundryModel", "tries", "(JJ)V"⟩, 59) := ⟨⟨by decide +kernel, by decide +kernel⟩, List.mem_of_getElem? (i := 719) (by decide +kernel), List.mem_of_getElem? (i := 1107) (by decide +kernel), List.mem_of_getElem? (i := 1108) (by decide +kernel)⟩
theorem lw_p66 : lw_okq (⟨"HullFoundryModel", "crosses", "(JJJJJJ)V"⟩, 59) := ⟨⟨by decide +kernel, by decide +kernel⟩, List.mem_of_getElem? (i := 719) (by decide +kernel), List.mem_of_getElem? (i := 1114) (by decide +kernel), List.mem_of_getElem? (i := 1115) (by decide +kernel)⟩
theorem lw_p67 : lw_okq (⟨"HullFoundryModel", "told", "(I)J"⟩, 59) := ⟨⟨by decide +kernel, by decide +kernel⟩, List.mem_of_getElem? (i := 719) (by decide +kernel), List.mem_of_getElem? (i := 1118) (by decide +kernel), List.mem_of_getElem? (i := 1119) (by decide +kernel)⟩
theorem lw_p68 : lw_okq (⟨"HullFoundryModel", "looksAll", "()V"⟩, 59) := ⟨⟨by decide +kernel, by decide +kernel⟩, List.mem_of_getElem? (i := 719) (by decide +kernel), List.mem_of_getElem? (i := 1126) (by decide +kernel), List.mem_of_getElem? (i := 1127) (by decide +kernel)⟩
theorem lw_p69 : lw_okq (⟨"HullFoundryModel", "looks", "()V"⟩, 59) := ⟨⟨by decide +kernel, by decide +kernel⟩, List.mem_of_getElem? (i := 719) (by decide +kernel), List.mem_of_getElem? (i := 1130) (by decide +kernel), List.mem_of_getElem? (i := 1131) (by decide +kernel)⟩
theorem lw_p70 : lw_okq (⟨"HullFoundryModel", "highest", "(I)J"⟩, 59) := ⟨⟨by decide +kernel, by decide +kernel⟩, List.mem_of_getElem? (i := 719) (by decide +kernel), List.mem_of_getElem? (i := 1134) (by decide +kernel), List.mem_of_getElem? (i := 1135) (by decide +kernel)⟩
theorem lw_p71 : lw_okq (⟨"HullFoundryModel", "along", "(I)J"⟩, 59) := ⟨⟨by decide +kernel, by decide +kernel⟩, List.mem_of_getElem? (i := 719) (by decide +kernel), List.mem_of_getElem? (i := 1138) (by decide +kernel), List.mem_of_getElem? (i := 1139) (by decide +kernel)⟩
theorem lw_p72 : lw_okq (⟨"HullFoundryModel", "finds", "(JJJ)V"⟩, 59) := ⟨⟨by decide +kernel, by decide +kernel⟩, List.mem_of_getElem? (i := 719) (by decide +kernel), List.mem_of_getElem? (i := 1142) (by decide +kernel), List.mem_of_getElem? (i := 1143) (by decide +kernel)⟩
theorem lw_p73 : lw_okq (⟨"HullFoundryModel", "looksBothWays", "()V"⟩, 59) := ⟨⟨by decide +kernel, by decide +kernel⟩, List.mem_of_getElem? (i := 719) (by decide +kernel), List.mem_of_getElem? (i := 1146) (by decide +kernel), List.mem_of_getElem? (i := 1147) (by decide +kernel)⟩
theorem lw_p74 : lw_okq (⟨"HullFoundryModel", "nears", "(II)V"⟩, 59) := ⟨⟨by decide +kernel, by decide +kernel⟩, List.mem_of_getElem? (i := 719) (by decide +kernel), List.mem_of_getElem? (i := 1154) (by decide +kernel), List.mem_of_getElem? (i := 1155) (by decide +kernel)⟩
theorem lw_p75 : lw_okq (⟨"HullFoundryModel", "against", "(II)V"⟩, 59) := ⟨⟨by decide +kernel, by decide +kernel⟩, List.mem_of_getElem? (i := 719) (by decide +kernel), List.mem_of_getElem? (i := 1158) (by decide +kernel), List.mem_of_getElem? (i := 1159) (by decide +kernel)⟩
theorem lw_p76 : lw_okq (⟨"HullFoundryModel", "cornerAt", "(I)V"⟩, 59) := ⟨⟨by decide +kernel, by decide +kernel⟩, List.mem_of_getElem? (i := 719) (by decide +kernel), List.mem_of_getElem? (i := 1162) (by decide +kernel), List.mem_of_getElem? (i := 1163) (by decide +kernel)⟩
theorem lw_p77 : lw_okq (⟨"HullFoundryModel", "toCorner", "(II)V"⟩, 59) := ⟨⟨by decide +kernel, by decide +kernel⟩, List.mem_of_getElem? (i := 719) (by decide +kernel), List.mem_of_getElem? (i := 1166) (by decide +kernel), List.mem_of_getElem? (i := 1167) (by decide +kernel)⟩
theorem lw_p78 : lw_okq (⟨"HullFoundryModel", "toEdge", "(III)V"⟩, 59) := ⟨⟨by decide +kernel, by decide +kernel⟩, List.mem_of_getElem? (i := 719) (by decide +kernel), List.mem_of_getElem? (i := 1170) (by decide +kernel), List.mem_of_getElem? (i := 1171) (by decide +kernel)⟩
theorem lw_p79 : lw_okq (⟨"HullFoundryModel", "toFace", "(III)V"⟩, 59) := ⟨⟨by decide +kernel, by decide +kernel⟩, List.mem_of_getElem? (i := 719) (by decide +kernel), List.mem_of_getElem? (i := 1174) (by decide +kernel), List.mem_of_getElem? (i := 1175) (by decide +kernel)⟩
def lw_privs_5 : List (MethodName × Nat) := [(⟨"HullFoundryModel", "thick", "()V"⟩, 59), (⟨"HullFoundryModel", "tries", "(JJ)V"⟩, 59), (⟨"HullFoundryModel", "crosses", "(JJJJJJ)V"⟩, 59), (⟨"HullFoundryModel", "told", "(I)J"⟩, 59), (⟨"HullFoundryModel", "looksAll", "()V"⟩, 59), (⟨"HullFoundryModel", "looks", "()V"⟩, 59), (⟨"HullFoundryModel", "highest", "(I)J"⟩, 59), (⟨"HullFoundryModel", "along", "(I)J"⟩, 59), (⟨"HullFoundryModel", "finds", "(JJJ)V"⟩, 59), (⟨"HullFoundryModel", "looksBothWays", "()V"⟩, 59), (⟨"HullFoundryModel", "nears", "(II)V"⟩, 59), (⟨"HullFoundryModel", "against", "(II)V"⟩, 59), (⟨"HullFoundryModel", "cornerAt", "(I)V"⟩, 59), (⟨"HullFoundryModel", "toCorner", "(II)V"⟩, 59), (⟨"HullFoundryModel", "toEdge", "(III)V"⟩, 59), (⟨"HullFoundryModel", "toFace", "(III)V"⟩, 59)]
theorem lw_r5 : ∀ q ∈ lw_privs_5, lw_okq q := List.forall_mem_cons.mpr ⟨lw_p64, List.forall_mem_cons.mpr ⟨lw_p65, List.forall_mem_cons.mpr ⟨lw_p66, List.forall_mem_cons.mpr ⟨lw_p67, List.forall_mem_cons.mpr ⟨lw_p68, List.forall_mem_cons.mpr ⟨lw_p69, List.forall_mem_cons.mpr ⟨lw_p70, List.forall_mem_cons.mpr ⟨lw_p71, List.forall_mem_cons.mpr ⟨lw_p72, List.forall_mem_cons.mpr ⟨lw_p73, List.forall_mem_cons.mpr ⟨lw_p74, List.forall_mem_cons.mpr ⟨lw_p75, List.forall_mem_cons.mpr ⟨lw_p76, List.forall_mem_cons.mpr ⟨lw_p77, List.forall_mem_cons.mpr ⟨lw_p78, List.forall_mem_cons.mpr ⟨lw_p79, fun _ h => absurd h List.not_mem_nil⟩⟩⟩⟩⟩⟩⟩⟩⟩⟩⟩⟩⟩⟩⟩⟩
theorem lw_p80 : lw_okq (⟨"HullFoundryModel", "through", "(IIII)V"⟩, 59) := ⟨⟨by decide +kernel, by decide +kernel⟩, List.mem_of_getElem? (i := 719) (by decide +kernel), List.mem_of_getElem? (i := 1178) (by decide +kernel), List.mem_of_getElem? (i := 1179) (by decide +kernel)⟩
theorem lw_p81 : lw_okq (⟨"HullFoundryModel", "toEdges", "(IIII)V"⟩, 59) := ⟨⟨by decide +kernel, by decide +kernel⟩, List.mem_of_getElem? (i := 719) (by decide +kernel), List.mem_of_getElem? (i := 1182) (by decide +kernel), List.mem_of_getElem? (i := 1183) (by decide +kernel)⟩
theorem lw_p82 : lw_okq (⟨"HullFoundryModel", "orders", "(I)V"⟩, 59) := ⟨⟨by decide +kernel, by decide +kernel⟩, List.mem_of_getElem? (i := 719) (by decide +kernel), List.mem_of_getElem? (i := 1202) (by decide +kernel), List.mem_of_getElem? (i := 1203) (by decide +kernel)⟩
def lw_privs_6 : List (MethodName × Nat) := [(⟨"HullFoundryModel", "through", "(IIII)V"⟩, 59), (⟨"HullFoundryModel", "toEdges", "(IIII)V"⟩, 59), (⟨"HullFoundryModel", "orders", "(I)V"⟩, 59)]
theorem lw_r6 : ∀ q ∈ lw_privs_6, lw_okq q := List.forall_mem_cons.mpr ⟨lw_p80, List.forall_mem_cons.mpr ⟨lw_p81, List.forall_mem_cons.mpr ⟨lw_p82, fun _ h => absurd h List.not_mem_nil⟩⟩⟩
def lw_privs : List (MethodName × Nat) := lw_privs_1 ++ (lw_privs_2 ++ (lw_privs_3 ++ (lw_privs_4 ++ (lw_privs_5 ++ (lw_privs_6)))))
def lw_tbl : List Cond := k2_sels lw_privs ++ tables_1
theorem lw_privs_ok : ∀ q ∈ lw_privs, lw_okq q := by
  show ∀ q ∈ lw_privs_1 ++ (lw_privs_2 ++ (lw_privs_3 ++ (lw_privs_4 ++ (lw_privs_5 ++ (lw_privs_6))))), lw_okq q
  exact List.forall_mem_append.mpr ⟨lw_r1, List.forall_mem_append.mpr ⟨lw_r2, List.forall_mem_append.mpr ⟨lw_r3, List.forall_mem_append.mpr ⟨lw_r4, List.forall_mem_append.mpr ⟨lw_r5, lw_r6⟩⟩⟩⟩⟩
end
section
def RX0 : String := "HullFoundry$Body"
def TX0 : u_T := fun k => match k with
  | 0 => ("HullFoundry$Body", "kind", "I", false)
  | 1 => ("HullFoundry$Body", "corners", "LHullFoundry$Points;", true)
  | 2 => ("HullFoundry$Body", "faces", "I", false)
  | 3 => ("HullFoundry$Body", "planes", "[I", true)
  | 4 => ("HullFoundry$Body", "ringStart", "[I", true)
  | 5 => ("HullFoundry$Body", "rings", "[I", true)
  | 6 => ("HullFoundry$Body", "edges", "I", false)
  | 7 => ("HullFoundry$Body", "edgeRow", "[I", true)
  | _ => ("HullFoundry$Body", "slit", "LHullFoundry$Ratio;", true)
def tyX0 : Nat → FieldType := fun k => match k with
  | 0 => .int
  | 1 => .object "HullFoundry$Points"
  | 2 => .int
  | 3 => .array .int
  | 4 => .array .int
  | 5 => .array .int
  | 6 => .int
  | 7 => .array .int
  | _ => .object "HullFoundry$Ratio"
abbrev wsX00 : List Cond := u_ws RX0 TX0 9
theorem nmX0 : ∀ a, a < 9 → ∀ b, b < 9 → a ≠ b → (TX0 a).2.1 ≠ (TX0 b).2.1 := by decide +kernel
theorem tyX0_ok : ∀ k, k < 9 → parseFieldDescriptor (TX0 k).2.2.1 = some (tyX0 k) := by decide +kernel
abbrev cX0_init : ByteArray := prog_2_method_1_code
def yX0_init : MethodName := ⟨RX0, "<init>", "()V"⟩
abbrev cX0_clear : ByteArray := prog_2_method_2_code
def yX0_clear : MethodName := ⟨RX0, "clear", "()V"⟩
abbrev cX0_addPlane : ByteArray := prog_2_method_3_code
def yX0_addPlane : MethodName := ⟨RX0, "addPlane", "(IIII)V"⟩
abbrev cX0_comparePlane : ByteArray := prog_2_method_4_code
def yX0_comparePlane : MethodName := ⟨RX0, "comparePlane", "(IIII)I"⟩
abbrev cX0_excess : ByteArray := prog_2_method_5_code
def yX0_excess : MethodName := ⟨RX0, "excess", "(IJJJJ)J"⟩
abbrev cX0_layRings : ByteArray := prog_2_method_6_code
def yX0_layRings : MethodName := ⟨RX0, "layRings", "()V"⟩
abbrev cX0_layRing : ByteArray := prog_2_method_7_code
def yX0_layRing : MethodName := ⟨RX0, "layRing", "(II)I"⟩
abbrev cX0_facing : ByteArray := prog_2_method_8_code
def yX0_facing : MethodName := ⟨RX0, "facing", "(IIII)J"⟩
abbrev cX0_layEdges : ByteArray := prog_2_method_9_code
def yX0_layEdges : MethodName := ⟨RX0, "layEdges", "([I)V"⟩
abbrev cX0_addEdge : ByteArray := prog_2_method_10_code
def yX0_addEdge : MethodName := ⟨RX0, "addEdge", "(IIII)V"⟩
abbrev cX0_wholeArea : ByteArray := prog_2_method_11_code
def yX0_wholeArea : MethodName := ⟨RX0, "wholeArea", "(I)J"⟩
abbrev cX0_steepness : ByteArray := prog_2_method_12_code
def yX0_steepness : MethodName := ⟨RX0, "steepness", "(JJJ)J"⟩
abbrev cX0_sixVolumes : ByteArray := prog_2_method_13_code
def yX0_sixVolumes : MethodName := ⟨RX0, "sixVolumes", "()J"⟩
abbrev cX0_moment : ByteArray := prog_2_method_14_code
def yX0_moment : MethodName := ⟨RX0, "moment", "(I)J"⟩
abbrev cX0_addUpPieces : ByteArray := prog_2_method_15_code
def yX0_addUpPieces : MethodName := ⟨RX0, "addUpPieces", "(I)J"⟩
abbrev cX0_locate : ByteArray := prog_2_method_16_code
def yX0_locate : MethodName := ⟨RX0, "locate", "(JJJJ)I"⟩
abbrev cX0_locateAmongFaces : ByteArray := prog_2_method_17_code
def yX0_locateAmongFaces : MethodName := ⟨RX0, "locateAmongFaces", "(JJJJ)I"⟩
abbrev cX0_isInFigure : ByteArray := prog_2_method_18_code
def yX0_isInFigure : MethodName := ⟨RX0, "isInFigure", "(JJJJ)Z"⟩
abbrev cX0_isOnLine : ByteArray := prog_2_method_19_code
def yX0_isOnLine : MethodName := ⟨RX0, "isOnLine", "(JJJJ)Z"⟩
abbrev cX0_reckonSlit : ByteArray := prog_2_method_20_code
def yX0_reckonSlit : MethodName := ⟨RX0, "reckonSlit", "()V"⟩
abbrev cX0_offerSlit : ByteArray := prog_2_method_21_code
def yX0_offerSlit : MethodName := ⟨RX0, "offerSlit", "(JJ)V"⟩
abbrev cX0_offerEdges : ByteArray := prog_2_method_22_code
def yX0_offerEdges : MethodName := ⟨RX0, "offerEdges", "(II)V"⟩
abbrev cX0_isPassedBy : ByteArray := prog_2_method_23_code
def yX0_isPassedBy : MethodName := ⟨RX0, "isPassedBy", "(IJJJ)Z"⟩
def RX1 : String := "HullFoundry$Gap"
def TX1 : u_T := fun k => match k with
  | 0 => ("HullFoundry$Gap", "top", "J", false)
  | 1 => ("HullFoundry$Gap", "bottom", "J", false)
  | 2 => ("HullFoundry$Gap", "size", "I", false)
  | 3 => ("HullFoundry$Gap", "x", "[I", true)
  | 4 => ("HullFoundry$Gap", "y", "[I", true)
  | 5 => ("HullFoundry$Gap", "z", "[I", true)
  | 6 => ("HullFoundry$Gap", "pick", "[I", true)
  | 7 => ("HullFoundry$Gap", "dx", "J", false)
  | 8 => ("HullFoundry$Gap", "dy", "J", false)
  | _ => ("HullFoundry$Gap", "dz", "J", false)
def tyX1 : Nat → FieldType := fun k => match k with
  | 0 => .long
  | 1 => .long
  | 2 => .int
  | 3 => .array .int
  | 4 => .array .int
  | 5 => .array .int
  | 6 => .array .int
  | 7 => .long
  | 8 => .long
  | _ => .long
abbrev wsX10 : List Cond := u_ws RX1 TX1 10
theorem nmX1 : ∀ a, a < 10 → ∀ b, b < 10 → a ≠ b → (TX1 a).2.1 ≠ (TX1 b).2.1 := by decide +kernel
theorem tyX1_ok : ∀ k, k < 10 → parseFieldDescriptor (TX1 k).2.2.1 = some (tyX1 k) := by decide +kernel
abbrev cX1_init : ByteArray := prog_3_method_1_code
def yX1_init : MethodName := ⟨RX1, "<init>", "()V"⟩
abbrev cX1_reckon : ByteArray := prog_3_method_2_code
def yX1_reckon : MethodName := ⟨RX1, "reckon", "(LHullFoundry$Points;LHullFoundry$Points;)V"⟩
abbrev cX1_addDifference : ByteArray := prog_3_method_3_code
def yX1_addDifference : MethodName := ⟨RX1, "addDifference", "(LHullFoundry$Points;ILHullFoundry$Points;I)V"⟩
abbrev cX1_shrink : ByteArray := prog_3_method_4_code
def yX1_shrink : MethodName := ⟨RX1, "shrink", "()Z"⟩
abbrev cX1_holdsNearest : ByteArray := prog_3_method_5_code
def yX1_holdsNearest : MethodName := ⟨RX1, "holdsNearest", "(I)Z"⟩
abbrev cX1_keepPicked : ByteArray := prog_3_method_6_code
def yX1_keepPicked : MethodName := ⟨RX1, "keepPicked", "(I)V"⟩
abbrev cX1_stepToPoint : ByteArray := prog_3_method_7_code
def yX1_stepToPoint : MethodName := ⟨RX1, "stepToPoint", "(I)Z"⟩
abbrev cX1_stepToLine : ByteArray := prog_3_method_8_code
def yX1_stepToLine : MethodName := ⟨RX1, "stepToLine", "(II)Z"⟩
abbrev cX1_stepToPlane : ByteArray := prog_3_method_9_code
def yX1_stepToPlane : MethodName := ⟨RX1, "stepToPlane", "(III)Z"⟩
abbrev cX1_along : ByteArray := prog_3_method_10_code
def yX1_along : MethodName := ⟨RX1, "along", "(I)J"⟩
abbrev cX1_share : ByteArray := prog_3_method_11_code
def yX1_share : MethodName := ⟨RX1, "share", "(II)J"⟩
abbrev cX1_crossX : ByteArray := prog_3_method_12_code
def yX1_crossX : MethodName := ⟨RX1, "crossX", "(II)J"⟩
abbrev cX1_crossY : ByteArray := prog_3_method_13_code
def yX1_crossY : MethodName := ⟨RX1, "crossY", "(II)J"⟩
abbrev cX1_crossZ : ByteArray := prog_3_method_14_code
def yX1_crossZ : MethodName := ⟨RX1, "crossZ", "(II)J"⟩
def RX2 : String := "HullFoundry$Hull"
def TX2 : u_T := fun k => match k with
  | 0 => ("HullFoundry$Hull", "shell", "LHullFoundry$Shell;", true)
  | 1 => ("HullFoundry$Hull", "faceAt", "[I", true)
  | 2 => ("HullFoundry$Hull", "isRefused", "Z", false)
  | 3 => ("HullFoundry$Hull", "corners", "I", false)
  | 4 => ("HullFoundry$Hull", "px", "I", false)
  | 5 => ("HullFoundry$Hull", "py", "I", false)
  | _ => ("HullFoundry$Hull", "pz", "I", false)
def tyX2 : Nat → FieldType := fun k => match k with
  | 0 => .object "HullFoundry$Shell"
  | 1 => .array .int
  | 2 => .boolean
  | 3 => .int
  | 4 => .int
  | 5 => .int
  | _ => .int
abbrev wsX20 : List Cond := u_ws RX2 TX2 7
theorem nmX2 : ∀ a, a < 7 → ∀ b, b < 7 → a ≠ b → (TX2 a).2.1 ≠ (TX2 b).2.1 := by decide +kernel
theorem tyX2_ok : ∀ k, k < 7 → parseFieldDescriptor (TX2 k).2.2.1 = some (tyX2 k) := by decide +kernel
abbrev cX2_init : ByteArray := prog_4_method_1_code
def yX2_init : MethodName := ⟨RX2, "<init>", "()V"⟩
abbrev cX2_build : ByteArray := prog_4_method_2_code
def yX2_build : MethodName := ⟨RX2, "build", "(LHullFoundry$Points;LHullFoundry$Points;LHullFoundry$Body;)I"⟩
abbrev cX2_spread : ByteArray := prog_4_method_3_code
def yX2_spread : MethodName := ⟨RX2, "spread", "(LHullFoundry$Points;LHullFoundry$Points;)I"⟩
abbrev cX2_stepOff : ByteArray := prog_4_method_4_code
def yX2_stepOff : MethodName := ⟨RX2, "stepOff", "(LHullFoundry$Points;LHullFoundry$Points;JJJ)Z"⟩
abbrev cX2_seek : ByteArray := prog_4_method_5_code
def yX2_seek : MethodName := ⟨RX2, "seek", "(LHullFoundry$Points;LHullFoundry$Points;JJJ)V"⟩
abbrev cX2_take : ByteArray := prog_4_method_6_code
def yX2_take : MethodName := ⟨RX2, "take", "()V"⟩
abbrev cX2_wrap : ByteArray := prog_4_method_7_code
def yX2_wrap : MethodName := ⟨RX2, "wrap", "(LHullFoundry$Points;LHullFoundry$Points;I)V"⟩
abbrev cX2_fill : ByteArray := prog_4_method_8_code
def yX2_fill : MethodName := ⟨RX2, "fill", "(LHullFoundry$Body;I)V"⟩
def RX3 : String := "HullFoundry$Points"
def TX3 : u_T := fun k => match k with
  | 0 => ("HullFoundry$Points", "size", "I", false)
  | 1 => ("HullFoundry$Points", "x", "[I", true)
  | 2 => ("HullFoundry$Points", "y", "[I", true)
  | _ => ("HullFoundry$Points", "z", "[I", true)
def tyX3 : Nat → FieldType := fun k => match k with
  | 0 => .int
  | 1 => .array .int
  | 2 => .array .int
  | _ => .array .int
abbrev wsX30 : List Cond := u_ws RX3 TX3 4
theorem nmX3 : ∀ a, a < 4 → ∀ b, b < 4 → a ≠ b → (TX3 a).2.1 ≠ (TX3 b).2.1 := by decide +kernel
theorem tyX3_ok : ∀ k, k < 4 → parseFieldDescriptor (TX3 k).2.2.1 = some (tyX3 k) := by decide +kernel
abbrev cX3_init : ByteArray := prog_5_method_1_code
def yX3_init : MethodName := ⟨RX3, "<init>", "(I)V"⟩
abbrev cX3_clear : ByteArray := prog_5_method_2_code
def yX3_clear : MethodName := ⟨RX3, "clear", "()V"⟩
abbrev cX3_put : ByteArray := prog_5_method_3_code
def yX3_put : MethodName := ⟨RX3, "put", "(III)V"⟩
abbrev cX3_replace : ByteArray := prog_5_method_4_code
def yX3_replace : MethodName := ⟨RX3, "replace", "(IIII)Z"⟩
abbrev cX3_takeAll : ByteArray := prog_5_method_5_code
def yX3_takeAll : MethodName := ⟨RX3, "takeAll", "(LHullFoundry$Points;)V"⟩
abbrev cX3_putInOrder : ByteArray := prog_5_method_6_code
def yX3_putInOrder : MethodName := ⟨RX3, "putInOrder", "(III)V"⟩
abbrev cX3_isLess : ByteArray := prog_5_method_7_code
def yX3_isLess : MethodName := ⟨RX3, "isLess", "(IIII)Z"⟩
abbrev cX3_along : ByteArray := prog_5_method_8_code
def yX3_along : MethodName := ⟨RX3, "along", "(IJJJ)J"⟩
abbrev cX3_farthest : ByteArray := prog_5_method_9_code
def yX3_farthest : MethodName := ⟨RX3, "farthest", "(JJJ)I"⟩
abbrev cX3_squareBetween : ByteArray := prog_5_method_10_code
def yX3_squareBetween : MethodName := ⟨RX3, "squareBetween", "(II)I"⟩
abbrev cX3_isLike : ByteArray := prog_5_method_11_code
def yX3_isLike : MethodName := ⟨RX3, "isLike", "(LHullFoundry$Points;)Z"⟩
abbrev cX3_boxOf : ByteArray := prog_5_method_12_code
def yX3_boxOf : MethodName := ⟨RX3, "boxOf", "(IIII)J"⟩
abbrev cX3_acrossX : ByteArray := prog_5_method_13_code
def yX3_acrossX : MethodName := ⟨RX3, "acrossX", "(III)J"⟩
abbrev cX3_acrossY : ByteArray := prog_5_method_14_code
def yX3_acrossY : MethodName := ⟨RX3, "acrossY", "(III)J"⟩
abbrev cX3_acrossZ : ByteArray := prog_5_method_15_code
def yX3_acrossZ : MethodName := ⟨RX3, "acrossZ", "(III)J"⟩
def RX4 : String := "HullFoundry$Ratio"
def TX4 : u_T := fun k => match k with
  | 0 => ("HullFoundry$Ratio", "top", "J", false)
  | _ => ("HullFoundry$Ratio", "bottom", "J", false)
def tyX4 : Nat → FieldType := fun k => match k with
  | 0 => .long
  | _ => .long
abbrev wsX40 : List Cond := u_ws RX4 TX4 2
theorem nmX4 : ∀ a, a < 2 → ∀ b, b < 2 → a ≠ b → (TX4 a).2.1 ≠ (TX4 b).2.1 := by decide +kernel
theorem tyX4_ok : ∀ k, k < 2 → parseFieldDescriptor (TX4 k).2.2.1 = some (tyX4 k) := by decide +kernel
abbrev cX4_init : ByteArray := prog_6_method_1_code
def yX4_init : MethodName := ⟨RX4, "<init>", "()V"⟩
abbrev cX4_put : ByteArray := prog_6_method_2_code
def yX4_put : MethodName := ⟨RX4, "put", "(JJ)V"⟩
abbrev cX4_part : ByteArray := prog_6_method_3_code
def yX4_part : MethodName := ⟨RX4, "part", "(I)J"⟩
abbrev cX4_isAbove : ByteArray := prog_6_method_4_code
def yX4_isAbove : MethodName := ⟨RX4, "isAbove", "(JJ)Z"⟩
def RX5 : String := "HullFoundry$Shell"
def TX5 : u_T := fun k => match k with
  | 0 => ("HullFoundry$Shell", "knots", "LHullFoundry$Points;", true)
  | 1 => ("HullFoundry$Shell", "triangles", "I", false)
  | 2 => ("HullFoundry$Shell", "tips", "[I", true)
  | 3 => ("HullFoundry$Shell", "planes", "[I", true)
  | 4 => ("HullFoundry$Shell", "isSettled", "[Z", true)
  | 5 => ("HullFoundry$Shell", "sides", "I", false)
  | 6 => ("HullFoundry$Shell", "sideFrom", "[I", true)
  | 7 => ("HullFoundry$Shell", "sideTo", "[I", true)
  | _ => ("HullFoundry$Shell", "isTornSide", "[Z", true)
def tyX5 : Nat → FieldType := fun k => match k with
  | 0 => .object "HullFoundry$Points"
  | 1 => .int
  | 2 => .array .int
  | 3 => .array .int
  | 4 => .array .boolean
  | 5 => .int
  | 6 => .array .int
  | 7 => .array .int
  | _ => .array .boolean
abbrev wsX50 : List Cond := u_ws RX5 TX5 9
theorem nmX5 : ∀ a, a < 9 → ∀ b, b < 9 → a ≠ b → (TX5 a).2.1 ≠ (TX5 b).2.1 := by decide +kernel
theorem tyX5_ok : ∀ k, k < 9 → parseFieldDescriptor (TX5 k).2.2.1 = some (tyX5 k) := by decide +kernel
abbrev cX5_init : ByteArray := prog_7_method_1_code
def yX5_init : MethodName := ⟨RX5, "<init>", "()V"⟩
abbrev cX5_clear : ByteArray := prog_7_method_2_code
def yX5_clear : MethodName := ⟨RX5, "clear", "()V"⟩
abbrev cX5_addProp : ByteArray := prog_7_method_3_code
def yX5_addProp : MethodName := ⟨RX5, "addProp", "()V"⟩
abbrev cX5_beginWithFour : ByteArray := prog_7_method_4_code
def yX5_beginWithFour : MethodName := ⟨RX5, "beginWithFour", "()V"⟩
abbrev cX5_firstOpen : ByteArray := prog_7_method_5_code
def yX5_firstOpen : MethodName := ⟨RX5, "firstOpen", "()I"⟩
abbrev cX5_isBeyond : ByteArray := prog_7_method_6_code
def yX5_isBeyond : MethodName := ⟨RX5, "isBeyond", "(IJJJ)Z"⟩
abbrev cX5_touches : ByteArray := prog_7_method_7_code
def yX5_touches : MethodName := ⟨RX5, "touches", "(II)Z"⟩
abbrev cX5_attachLatest : ByteArray := prog_7_method_8_code
def yX5_attachLatest : MethodName := ⟨RX5, "attachLatest", "()V"⟩
abbrev cX5_tearOff : ByteArray := prog_7_method_9_code
def yX5_tearOff : MethodName := ⟨RX5, "tearOff", "(I)V"⟩
abbrev cX5_addTriangle : ByteArray := prog_7_method_10_code
def yX5_addTriangle : MethodName := ⟨RX5, "addTriangle", "(III)V"⟩
def RX6 : String := "HullFoundry"
def TX6 : u_T := fun k => match k with
  | 0 => ("HullFoundry", "trays", "[LHullFoundry$Points;", true)
  | 1 => ("HullFoundry", "isThere", "[Z", true)
  | 2 => ("HullFoundry", "solids", "[LHullFoundry$Body;", true)
  | 3 => ("HullFoundry", "before", "[LHullFoundry$Body;", true)
  | 4 => ("HullFoundry", "changedSolid", "[I", true)
  | 5 => ("HullFoundry", "changes", "I", false)
  | 6 => ("HullFoundry", "fresh", "LHullFoundry$Body;", false)
  | 7 => ("HullFoundry", "scratch", "LHullFoundry$Points;", true)
  | 8 => ("HullFoundry", "origin", "LHullFoundry$Points;", true)
  | 9 => ("HullFoundry", "shift", "LHullFoundry$Points;", true)
  | 10 => ("HullFoundry", "hull", "LHullFoundry$Hull;", true)
  | 11 => ("HullFoundry", "gap", "LHullFoundry$Gap;", true)
  | _ => ("HullFoundry", "ratio", "LHullFoundry$Ratio;", true)
def tyX6 : Nat → FieldType := fun k => match k with
  | 0 => .array (.object "HullFoundry$Points")
  | 1 => .array .boolean
  | 2 => .array (.object "HullFoundry$Body")
  | 3 => .array (.object "HullFoundry$Body")
  | 4 => .array .int
  | 5 => .int
  | 6 => .object "HullFoundry$Body"
  | 7 => .object "HullFoundry$Points"
  | 8 => .object "HullFoundry$Points"
  | 9 => .object "HullFoundry$Points"
  | 10 => .object "HullFoundry$Hull"
  | 11 => .object "HullFoundry$Gap"
  | _ => .object "HullFoundry$Ratio"
abbrev wsX60 : List Cond := u_ws RX6 TX6 13
theorem nmX6 : ∀ a, a < 13 → ∀ b, b < 13 → a ≠ b → (TX6 a).2.1 ≠ (TX6 b).2.1 := by decide +kernel
theorem tyX6_ok : ∀ k, k < 13 → parseFieldDescriptor (TX6 k).2.2.1 = some (tyX6 k) := by decide +kernel
abbrev cX6_init : ByteArray := prog_1_method_1_code
def yX6_init : MethodName := ⟨RX6, "<init>", "()V"⟩
abbrev cX6_tray : ByteArray := prog_1_method_2_code
def yX6_tray : MethodName := ⟨RX6, "tray", "(II)Z"⟩
abbrev cX6_point : ByteArray := prog_1_method_3_code
def yX6_point : MethodName := ⟨RX6, "point", "(IIIII)Z"⟩
abbrev cX6_solid : ByteArray := prog_1_method_4_code
def yX6_solid : MethodName := ⟨RX6, "solid", "(II)I"⟩
abbrev cX6_grow : ByteArray := prog_1_method_5_code
def yX6_grow : MethodName := ⟨RX6, "grow", "(IIII)I"⟩
abbrev cX6_count : ByteArray := prog_1_method_6_code
def yX6_count : MethodName := ⟨RX6, "count", "(II)I"⟩
abbrev cX6_corner : ByteArray := prog_1_method_7_code
def yX6_corner : MethodName := ⟨RX6, "corner", "(III)I"⟩
abbrev cX6_edge : ByteArray := prog_1_method_8_code
def yX6_edge : MethodName := ⟨RX6, "edge", "(III)I"⟩
abbrev cX6_face : ByteArray := prog_1_method_9_code
def yX6_face : MethodName := ⟨RX6, "face", "(III)J"⟩
abbrev cX6_in : ByteArray := prog_1_method_10_code
def yX6_in : MethodName := ⟨RX6, "in", "(IIIII)I"⟩
abbrev cX6_side : ByteArray := prog_1_method_11_code
def yX6_side : MethodName := ⟨RX6, "side", "(IIIII)I"⟩
abbrev cX6_volume : ByteArray := prog_1_method_12_code
def yX6_volume : MethodName := ⟨RX6, "volume", "(I)J"⟩
abbrev cX6_middle : ByteArray := prog_1_method_13_code
def yX6_middle : MethodName := ⟨RX6, "middle", "(III)J"⟩
abbrev cX6_far : ByteArray := prog_1_method_14_code
def yX6_far : MethodName := ⟨RX6, "far", "(II)I"⟩
abbrev cX6_width : ByteArray := prog_1_method_15_code
def yX6_width : MethodName := ⟨RX6, "width", "(II)J"⟩
abbrev cX6_sum : ByteArray := prog_1_method_16_code
def yX6_sum : MethodName := ⟨RX6, "sum", "(III)I"⟩
abbrev cX6_apart : ByteArray := prog_1_method_17_code
def yX6_apart : MethodName := ⟨RX6, "apart", "(II)I"⟩
abbrev cX6_near : ByteArray := prog_1_method_18_code
def yX6_near : MethodName := ⟨RX6, "near", "(III)J"⟩
abbrev cX6_same : ByteArray := prog_1_method_19_code
def yX6_same : MethodName := ⟨RX6, "same", "(II)I"⟩
abbrev cX6_move : ByteArray := prog_1_method_20_code
def yX6_move : MethodName := ⟨RX6, "move", "(IIII)Z"⟩
abbrev cX6_mirror : ByteArray := prog_1_method_21_code
def yX6_mirror : MethodName := ⟨RX6, "mirror", "(II)Z"⟩
abbrev cX6_turn : ByteArray := prog_1_method_22_code
def yX6_turn : MethodName := ⟨RX6, "turn", "(II)Z"⟩
abbrev cX6_copy : ByteArray := prog_1_method_23_code
def yX6_copy : MethodName := ⟨RX6, "copy", "(II)Z"⟩
abbrev cX6_undo : ByteArray := prog_1_method_24_code
def yX6_undo : MethodName := ⟨RX6, "undo", "()I"⟩
abbrev cX6_isSlot : ByteArray := prog_1_method_25_code
def yX6_isSlot : MethodName := ⟨RX6, "isSlot", "(I)Z"⟩
abbrev cX6_isTopOrBottom : ByteArray := prog_1_method_26_code
def yX6_isTopOrBottom : MethodName := ⟨RX6, "isTopOrBottom", "(I)Z"⟩
abbrev cX6_isWithin : ByteArray := prog_1_method_27_code
def yX6_isWithin : MethodName := ⟨RX6, "isWithin", "(II)Z"⟩
abbrev cX6_isPoint : ByteArray := prog_1_method_28_code
def yX6_isPoint : MethodName := ⟨RX6, "isPoint", "(III)Z"⟩
abbrev cX6_divisor : ByteArray := prog_1_method_29_code
def yX6_divisor : MethodName := ⟨RX6, "divisor", "(JJ)J"⟩
abbrev cX6_become : ByteArray := prog_1_method_30_code
def yX6_become : MethodName := ⟨RX6, "become", "(ILHullFoundry$Points;LHullFoundry$Points;)I"⟩
abbrev cX6_keepFresh : ByteArray := prog_1_method_31_code
def yX6_keepFresh : MethodName := ⟨RX6, "keepFresh", "(I)V"⟩
abbrev cX6_forgetOldest : ByteArray := prog_1_method_32_code
def yX6_forgetOldest : MethodName := ⟨RX6, "forgetOldest", "()V"⟩
def RX7 : String := "HullFoundryModel"
def TX7 : u_T := fun k => match k with
  | 0 => ("HullFoundryModel", "trayMany", "[I", true)
  | 1 => ("HullFoundryModel", "trayX", "[I", true)
  | 2 => ("HullFoundryModel", "trayY", "[I", true)
  | 3 => ("HullFoundryModel", "trayZ", "[I", true)
  | 4 => ("HullFoundryModel", "many", "[I", true)
  | 5 => ("HullFoundryModel", "kind", "[I", true)
  | 6 => ("HullFoundryModel", "cornerX", "[I", true)
  | 7 => ("HullFoundryModel", "cornerY", "[I", true)
  | 8 => ("HullFoundryModel", "cornerZ", "[I", true)
  | 9 => ("HullFoundryModel", "changes", "I", false)
  | 10 => ("HullFoundryModel", "wasMany", "[I", true)
  | 11 => ("HullFoundryModel", "wasKind", "[I", true)
  | 12 => ("HullFoundryModel", "wasX", "[I", true)
  | 13 => ("HullFoundryModel", "wasY", "[I", true)
  | 14 => ("HullFoundryModel", "wasZ", "[I", true)
  | 15 => ("HullFoundryModel", "heap", "I", false)
  | 16 => ("HullFoundryModel", "hx", "[J", true)
  | 17 => ("HullFoundryModel", "hy", "[J", true)
  | 18 => ("HullFoundryModel", "hz", "[J", true)
  | 19 => ("HullFoundryModel", "isCorner", "[Z", true)
  | 20 => ("HullFoundryModel", "list", "[I", true)
  | 21 => ("HullFoundryModel", "listed", "I", false)
  | 22 => ("HullFoundryModel", "ring", "[I", true)
  | 23 => ("HullFoundryModel", "ringed", "I", false)
  | 24 => ("HullFoundryModel", "nx", "J", false)
  | 25 => ("HullFoundryModel", "ny", "J", false)
  | 26 => ("HullFoundryModel", "nz", "J", false)
  | 27 => ("HullFoundryModel", "faces", "[I", true)
  | 28 => ("HullFoundryModel", "faceA", "[J", true)
  | 29 => ("HullFoundryModel", "faceB", "[J", true)
  | 30 => ("HullFoundryModel", "faceC", "[J", true)
  | 31 => ("HullFoundryModel", "faceD", "[J", true)
  | 32 => ("HullFoundryModel", "faceRing", "[I", true)
  | 33 => ("HullFoundryModel", "ringOf", "[I", true)
  | 34 => ("HullFoundryModel", "edges", "[I", true)
  | 35 => ("HullFoundryModel", "edgeP", "[I", true)
  | 36 => ("HullFoundryModel", "edgeQ", "[I", true)
  | 37 => ("HullFoundryModel", "edgeF", "[I", true)
  | 38 => ("HullFoundryModel", "edgeG", "[I", true)
  | 39 => ("HullFoundryModel", "px", "J", false)
  | 40 => ("HullFoundryModel", "py", "J", false)
  | 41 => ("HullFoundryModel", "pz", "J", false)
  | 42 => ("HullFoundryModel", "pq", "J", false)
  | 43 => ("HullFoundryModel", "ownX", "[J", true)
  | 44 => ("HullFoundryModel", "ownY", "[J", true)
  | 45 => ("HullFoundryModel", "ownZ", "[J", true)
  | 46 => ("HullFoundryModel", "owns", "[I", true)
  | 47 => ("HullFoundryModel", "six", "J", false)
  | 48 => ("HullFoundryModel", "sumX", "J", false)
  | 49 => ("HullFoundryModel", "sumY", "J", false)
  | 50 => ("HullFoundryModel", "sumZ", "J", false)
  | 51 => ("HullFoundryModel", "isFound", "Z", false)
  | 52 => ("HullFoundryModel", "above", "J", false)
  | 53 => ("HullFoundryModel", "below", "J", false)
  | 54 => ("HullFoundryModel", "tooMany", "Z", false)
  | 55 => ("HullFoundryModel", "found", "I", false)
  | 56 => ("HullFoundryModel", "foundX", "[J", true)
  | 57 => ("HullFoundryModel", "foundY", "[J", true)
  | _ => ("HullFoundryModel", "foundZ", "[J", true)
def tyX7 : Nat → FieldType := fun k => match k with
  | 0 => .array .int
  | 1 => .array .int
  | 2 => .array .int
  | 3 => .array .int
  | 4 => .array .int
  | 5 => .array .int
  | 6 => .array .int
  | 7 => .array .int
  | 8 => .array .int
  | 9 => .int
  | 10 => .array .int
  | 11 => .array .int
  | 12 => .array .int
  | 13 => .array .int
  | 14 => .array .int
  | 15 => .int
  | 16 => .array .long
  | 17 => .array .long
  | 18 => .array .long
  | 19 => .array .boolean
  | 20 => .array .int
  | 21 => .int
  | 22 => .array .int
  | 23 => .int
  | 24 => .long
  | 25 => .long
  | 26 => .long
  | 27 => .array .int
  | 28 => .array .long
  | 29 => .array .long
  | 30 => .array .long
  | 31 => .array .long
  | 32 => .array .int
  | 33 => .array .int
  | 34 => .array .int
  | 35 => .array .int
  | 36 => .array .int
  | 37 => .array .int
  | 38 => .array .int
  | 39 => .long
  | 40 => .long
  | 41 => .long
  | 42 => .long
  | 43 => .array .long
  | 44 => .array .long
  | 45 => .array .long
  | 46 => .array .int
  | 47 => .long
  | 48 => .long
  | 49 => .long
  | 50 => .long
  | 51 => .boolean
  | 52 => .long
  | 53 => .long
  | 54 => .boolean
  | 55 => .int
  | 56 => .array .long
  | 57 => .array .long
  | _ => .array .long
abbrev wsX70 : List Cond := u_ws RX7 TX7 59
theorem nmX7 : ∀ a, a < 59 → ∀ b, b < 59 → a ≠ b → (TX7 a).2.1 ≠ (TX7 b).2.1 := by decide +kernel
theorem tyX7_ok : ∀ k, k < 59 → parseFieldDescriptor (TX7 k).2.2.1 = some (tyX7 k) := by decide +kernel
abbrev cX7_init : ByteArray := prog_9_method_1_code
def yX7_init : MethodName := ⟨RX7, "<init>", "()V"⟩
abbrev cX7_isPoint : ByteArray := prog_9_method_2_code
def yX7_isPoint : MethodName := ⟨RX7, "isPoint", "(JJJ)Z"⟩
abbrev cX7_isSolid : ByteArray := prog_9_method_3_code
def yX7_isSolid : MethodName := ⟨RX7, "isSolid", "(I)Z"⟩
abbrev cX7_tray : ByteArray := prog_9_method_4_code
def yX7_tray : MethodName := ⟨RX7, "tray", "(II)Z"⟩
abbrev cX7_point : ByteArray := prog_9_method_5_code
def yX7_point : MethodName := ⟨RX7, "point", "(IIIII)Z"⟩
abbrev cX7_keeps : ByteArray := prog_9_method_6_code
def yX7_keeps : MethodName := ⟨RX7, "keeps", "()V"⟩
abbrev cX7_undo : ByteArray := prog_9_method_7_code
def yX7_undo : MethodName := ⟨RX7, "undo", "()I"⟩
abbrev cX7_heaps : ByteArray := prog_9_method_8_code
def yX7_heaps : MethodName := ⟨RX7, "heaps", "(JJJ)V"⟩
abbrev cX7_across : ByteArray := prog_9_method_9_code
def yX7_across : MethodName := ⟨RX7, "across", "(III)V"⟩
abbrev cX7_common : ByteArray := prog_9_method_10_code
def yX7_common : MethodName := ⟨RX7, "common", "(JJ)J"⟩
abbrev cX7_isFlat : ByteArray := prog_9_method_11_code
def yX7_isFlat : MethodName := ⟨RX7, "isFlat", "()Z"⟩
abbrev cX7_plain : ByteArray := prog_9_method_12_code
def yX7_plain : MethodName := ⟨RX7, "plain", "()V"⟩
abbrev cX7_height : ByteArray := prog_9_method_13_code
def yX7_height : MethodName := ⟨RX7, "height", "(I)J"⟩
abbrev cX7_leftOf : ByteArray := prog_9_method_14_code
def yX7_leftOf : MethodName := ⟨RX7, "leftOf", "(III)J"⟩
abbrev cX7_apartOf : ByteArray := prog_9_method_15_code
def yX7_apartOf : MethodName := ⟨RX7, "apartOf", "(II)J"⟩
abbrev cX7_rings : ByteArray := prog_9_method_16_code
def yX7_rings : MethodName := ⟨RX7, "rings", "()V"⟩
abbrev cX7_kindOfHeap : ByteArray := prog_9_method_17_code
def yX7_kindOfHeap : MethodName := ⟨RX7, "kindOfHeap", "()I"⟩
abbrev cX7_isKnown : ByteArray := prog_9_method_18_code
def yX7_isKnown : MethodName := ⟨RX7, "isKnown", "(IJ)Z"⟩
abbrev cX7_isAhead : ByteArray := prog_9_method_19_code
def yX7_isAhead : MethodName := ⟨RX7, "isAhead", "(IJ)Z"⟩
abbrev cX7_faceHere : ByteArray := prog_9_method_20_code
def yX7_faceHere : MethodName := ⟨RX7, "faceHere", "(IJ)V"⟩
abbrev cX7_turnsAbout : ByteArray := prog_9_method_21_code
def yX7_turnsAbout : MethodName := ⟨RX7, "turnsAbout", "()V"⟩
abbrev cX7_lists : ByteArray := prog_9_method_22_code
def yX7_lists : MethodName := ⟨RX7, "lists", "(J)Z"⟩
abbrev cX7_hulls : ByteArray := prog_9_method_23_code
def yX7_hulls : MethodName := ⟨RX7, "hulls", "(I)I"⟩
abbrev cX7_planes : ByteArray := prog_9_method_24_code
def yX7_planes : MethodName := ⟨RX7, "planes", "(I)V"⟩
abbrev cX7_loads : ByteArray := prog_9_method_25_code
def yX7_loads : MethodName := ⟨RX7, "loads", "(I)V"⟩
abbrev cX7_knows : ByteArray := prog_9_method_26_code
def yX7_knows : MethodName := ⟨RX7, "knows", "(II)V"⟩
abbrev cX7_edgeHere : ByteArray := prog_9_method_27_code
def yX7_edgeHere : MethodName := ⟨RX7, "edgeHere", "(IIII)V"⟩
abbrev cX7_becomes : ByteArray := prog_9_method_28_code
def yX7_becomes : MethodName := ⟨RX7, "becomes", "(II)Z"⟩
abbrev cX7_solid : ByteArray := prog_9_method_29_code
def yX7_solid : MethodName := ⟨RX7, "solid", "(II)I"⟩
abbrev cX7_grow : ByteArray := prog_9_method_30_code
def yX7_grow : MethodName := ⟨RX7, "grow", "(IIII)I"⟩
abbrev cX7_count : ByteArray := prog_9_method_31_code
def yX7_count : MethodName := ⟨RX7, "count", "(II)I"⟩
abbrev cX7_corner : ByteArray := prog_9_method_32_code
def yX7_corner : MethodName := ⟨RX7, "corner", "(III)I"⟩
abbrev cX7_edge : ByteArray := prog_9_method_33_code
def yX7_edge : MethodName := ⟨RX7, "edge", "(III)I"⟩
abbrev cX7_area : ByteArray := prog_9_method_34_code
def yX7_area : MethodName := ⟨RX7, "area", "(I)J"⟩
abbrev cX7_face : ByteArray := prog_9_method_35_code
def yX7_face : MethodName := ⟨RX7, "face", "(III)J"⟩
abbrev cX7_overFace : ByteArray := prog_9_method_36_code
def yX7_overFace : MethodName := ⟨RX7, "overFace", "(I)J"⟩
abbrev cX7_owns : ByteArray := prog_9_method_37_code
def yX7_owns : MethodName := ⟨RX7, "owns", "(II)V"⟩
abbrev cX7_isOver : ByteArray := prog_9_method_38_code
def yX7_isOver : MethodName := ⟨RX7, "isOver", "(II)Z"⟩
abbrev cX7_where : ByteArray := prog_9_method_39_code
def yX7_where : MethodName := ⟨RX7, "where", "(II)I"⟩
abbrev cX7_onLine : ByteArray := prog_9_method_40_code
def yX7_onLine : MethodName := ⟨RX7, "onLine", "(II)Z"⟩
abbrev cX7_isFar : ByteArray := prog_9_method_41_code
def yX7_isFar : MethodName := ⟨RX7, "isFar", "(I)Z"⟩
abbrev cX7_points : ByteArray := prog_9_method_42_code
def yX7_points : MethodName := ⟨RX7, "points", "(JJJJ)V"⟩
abbrev cX7_in : ByteArray := prog_9_method_43_code
def yX7_in : MethodName := ⟨RX7, "in", "(IIIII)I"⟩
abbrev cX7_isSmall : ByteArray := prog_9_method_44_code
def yX7_isSmall : MethodName := ⟨RX7, "isSmall", "(I)Z"⟩
abbrev cX7_side : ByteArray := prog_9_method_45_code
def yX7_side : MethodName := ⟨RX7, "side", "(IIIII)I"⟩
abbrev cX7_adds : ByteArray := prog_9_method_46_code
def yX7_adds : MethodName := ⟨RX7, "adds", "()V"⟩
abbrev cX7_volume : ByteArray := prog_9_method_47_code
def yX7_volume : MethodName := ⟨RX7, "volume", "(I)J"⟩
abbrev cX7_middle : ByteArray := prog_9_method_48_code
def yX7_middle : MethodName := ⟨RX7, "middle", "(III)J"⟩
abbrev cX7_far : ByteArray := prog_9_method_49_code
def yX7_far : MethodName := ⟨RX7, "far", "(II)I"⟩
abbrev cX7_fractions : ByteArray := prog_9_method_50_code
def yX7_fractions : MethodName := ⟨RX7, "fractions", "(JJJJ)I"⟩
abbrev cX7_tries : ByteArray := prog_9_method_51_code
def yX7_tries : MethodName := ⟨RX7, "tries", "(JJ)V"⟩
abbrev cX7_told : ByteArray := prog_9_method_52_code
def yX7_told : MethodName := ⟨RX7, "told", "(I)J"⟩
abbrev cX7_thick : ByteArray := prog_9_method_53_code
def yX7_thick : MethodName := ⟨RX7, "thick", "()V"⟩
abbrev cX7_width : ByteArray := prog_9_method_54_code
def yX7_width : MethodName := ⟨RX7, "width", "(II)J"⟩
abbrev cX7_crosses : ByteArray := prog_9_method_55_code
def yX7_crosses : MethodName := ⟨RX7, "crosses", "(JJJJJJ)V"⟩
abbrev cX7_along : ByteArray := prog_9_method_56_code
def yX7_along : MethodName := ⟨RX7, "along", "(I)J"⟩
abbrev cX7_highest : ByteArray := prog_9_method_57_code
def yX7_highest : MethodName := ⟨RX7, "highest", "(I)J"⟩
abbrev cX7_looks : ByteArray := prog_9_method_58_code
def yX7_looks : MethodName := ⟨RX7, "looks", "()V"⟩
abbrev cX7_finds : ByteArray := prog_9_method_59_code
def yX7_finds : MethodName := ⟨RX7, "finds", "(JJJ)V"⟩
abbrev cX7_looksBothWays : ByteArray := prog_9_method_60_code
def yX7_looksBothWays : MethodName := ⟨RX7, "looksBothWays", "()V"⟩
abbrev cX7_looksAll : ByteArray := prog_9_method_61_code
def yX7_looksAll : MethodName := ⟨RX7, "looksAll", "()V"⟩
abbrev cX7_sum : ByteArray := prog_9_method_62_code
def yX7_sum : MethodName := ⟨RX7, "sum", "(III)I"⟩
abbrev cX7_cornerAt : ByteArray := prog_9_method_63_code
def yX7_cornerAt : MethodName := ⟨RX7, "cornerAt", "(I)V"⟩
abbrev cX7_toEdge : ByteArray := prog_9_method_64_code
def yX7_toEdge : MethodName := ⟨RX7, "toEdge", "(III)V"⟩
abbrev cX7_toCorner : ByteArray := prog_9_method_65_code
def yX7_toCorner : MethodName := ⟨RX7, "toCorner", "(II)V"⟩
abbrev cX7_toFace : ByteArray := prog_9_method_66_code
def yX7_toFace : MethodName := ⟨RX7, "toFace", "(III)V"⟩
abbrev cX7_toEdges : ByteArray := prog_9_method_67_code
def yX7_toEdges : MethodName := ⟨RX7, "toEdges", "(IIII)V"⟩
abbrev cX7_through : ByteArray := prog_9_method_68_code
def yX7_through : MethodName := ⟨RX7, "through", "(IIII)V"⟩
abbrev cX7_against : ByteArray := prog_9_method_69_code
def yX7_against : MethodName := ⟨RX7, "against", "(II)V"⟩
abbrev cX7_nears : ByteArray := prog_9_method_70_code
def yX7_nears : MethodName := ⟨RX7, "nears", "(II)V"⟩
abbrev cX7_apart : ByteArray := prog_9_method_71_code
def yX7_apart : MethodName := ⟨RX7, "apart", "(II)I"⟩
abbrev cX7_near : ByteArray := prog_9_method_72_code
def yX7_near : MethodName := ⟨RX7, "near", "(III)J"⟩
abbrev cX7_same : ByteArray := prog_9_method_73_code
def yX7_same : MethodName := ⟨RX7, "same", "(II)I"⟩
abbrev cX7_move : ByteArray := prog_9_method_74_code
def yX7_move : MethodName := ⟨RX7, "move", "(IIII)Z"⟩
abbrev cX7_orders : ByteArray := prog_9_method_75_code
def yX7_orders : MethodName := ⟨RX7, "orders", "(I)V"⟩
abbrev cX7_mirror : ByteArray := prog_9_method_76_code
def yX7_mirror : MethodName := ⟨RX7, "mirror", "(II)Z"⟩
abbrev cX7_turn : ByteArray := prog_9_method_77_code
def yX7_turn : MethodName := ⟨RX7, "turn", "(II)Z"⟩
abbrev cX7_copy : ByteArray := prog_9_method_78_code
def yX7_copy : MethodName := ⟨RX7, "copy", "(II)Z"⟩
def RJ6 : String := "java/lang/Integer"
def TJ6 : u_T := fun k => match k with
  | _ => ("", "", "", false)
def tyJ6 : Nat → FieldType := fun k => match k with
  | _ => .int
abbrev wsJ60 : List Cond := u_ws RJ6 TJ6 0
theorem nmJ6 : ∀ a, a < 0 → ∀ b, b < 0 → a ≠ b → (TJ6 a).2.1 ≠ (TJ6 b).2.1 := by decide +kernel
theorem tyJ6_ok : ∀ k, k < 0 → parseFieldDescriptor (TJ6 k).2.2.1 = some (tyJ6 k) := by decide +kernel
abbrev cJ6_compare_7cf53 : ByteArray := prog_10_method_40_code
def yJ6_compare_7cf53 : MethodName := ⟨RJ6, "compare", "(II)I"⟩
def RJ9 : String := "java/lang/Math"
def TJ9 : u_T := fun k => match k with
  | _ => ("", "", "", false)
def tyJ9 : Nat → FieldType := fun k => match k with
  | _ => .int
abbrev wsJ90 : List Cond := u_ws RJ9 TJ9 0
theorem nmJ9 : ∀ a, a < 0 → ∀ b, b < 0 → a ≠ b → (TJ9 a).2.1 ≠ (TJ9 b).2.1 := by decide +kernel
theorem tyJ9_ok : ∀ k, k < 0 → parseFieldDescriptor (TJ9 k).2.2.1 = some (tyJ9 k) := by decide +kernel
abbrev cJ9_abs_0f7a4 : ByteArray := prog_11_method_59_code
def yJ9_abs_0f7a4 : MethodName := ⟨RJ9, "abs", "(I)I"⟩
abbrev cJ9_abs_067f4 : ByteArray := prog_11_method_61_code
def yJ9_abs_067f4 : MethodName := ⟨RJ9, "abs", "(J)J"⟩
abbrev cJ9_max_7cf53 : ByteArray := prog_11_method_65_code
def yJ9_max_7cf53 : MethodName := ⟨RJ9, "max", "(II)I"⟩
abbrev cJ9_min_7cf53 : ByteArray := prog_11_method_69_code
def yJ9_min_7cf53 : MethodName := ⟨RJ9, "min", "(II)I"⟩
def RJ10 : String := "java/lang/System"
def TJ10 : u_T := fun k => match k with
  | _ => ("", "", "", false)
def tyJ10 : Nat → FieldType := fun k => match k with
  | _ => .int
abbrev wsJ100 : List Cond := u_ws RJ10 TJ10 0
theorem nmJ10 : ∀ a, a < 0 → ∀ b, b < 0 → a ≠ b → (TJ10 a).2.1 ≠ (TJ10 b).2.1 := by decide +kernel
theorem tyJ10_ok : ∀ k, k < 0 → parseFieldDescriptor (TJ10 k).2.2.1 = some (tyJ10 k) := by decide +kernel
def RJ7 : String := "java/util/Arrays"
def TJ7 : u_T := fun k => match k with
  | _ => ("", "", "", false)
def tyJ7 : Nat → FieldType := fun k => match k with
  | _ => .int
abbrev wsJ70 : List Cond := u_ws RJ7 TJ7 0
theorem nmJ7 : ∀ a, a < 0 → ∀ b, b < 0 → a ≠ b → (TJ7 a).2.1 ≠ (TJ7 b).2.1 := by decide +kernel
theorem tyJ7_ok : ∀ k, k < 0 → parseFieldDescriptor (TJ7 k).2.2.1 = some (tyJ7 k) := by decide +kernel
abbrev cJ7_fill_53178 : ByteArray := prog_13_method_103_code
def yJ7_fill_53178 : MethodName := ⟨RJ7, "fill", "([II)V"⟩
def RL : String := "HullFoundryLaw"
abbrev cL_law : ByteArray := code
def yL_law : MethodName := ⟨RL, "law", "([I)Z"⟩
abbrev vwCl : List vw_C := [(RX0, TX0, 9), (RX1, TX1, 10), (RX2, TX2, 7), (RX3, TX3, 4), (RX4, TX4, 2), (RX5, TX5, 9), (RX6, TX6, 13), (RX7, TX7, 59)]
def cN (i : Nat) : String := match i with
  | 0 => RX0
  | 1 => RX1
  | 2 => RX2
  | 3 => RX3
  | 4 => RX4
  | 5 => RX5
  | 6 => RX6
  | 7 => RX7
  | 8 => RJ6
  | 9 => RJ9
  | 10 => RJ10
  | 11 => RJ7
  | 12 => RL
  | _ => ""
def cT (i : Nat) : u_T := match i with
  | 0 => TX0
  | 1 => TX1
  | 2 => TX2
  | 3 => TX3
  | 4 => TX4
  | 5 => TX5
  | 6 => TX6
  | 7 => TX7
  | _ => fun _ => ("", "", "", false)
def cY (i : Nat) : Nat → FieldType := match i with
  | 0 => tyX0
  | 1 => tyX1
  | 2 => tyX2
  | 3 => tyX3
  | 4 => tyX4
  | 5 => tyX5
  | 6 => tyX6
  | 7 => tyX7
  | _ => fun _ => .int
def cF (i : Nat) : Nat := match i with
  | 0 => 9
  | 1 => 10
  | 2 => 7
  | 3 => 4
  | 4 => 2
  | 5 => 9
  | 6 => 13
  | 7 => 59
  | _ => 0
theorem inX0 : ∀ w ∈ wsX00, w ∈ lw_tbl := by decide +kernel
theorem inX1 : ∀ w ∈ wsX10, w ∈ lw_tbl := by decide +kernel
theorem inX2 : ∀ w ∈ wsX20, w ∈ lw_tbl := by decide +kernel
theorem inX3 : ∀ w ∈ wsX30, w ∈ lw_tbl := by decide +kernel
theorem inX4 : ∀ w ∈ wsX40, w ∈ lw_tbl := by decide +kernel
theorem inX5 : ∀ w ∈ wsX50, w ∈ lw_tbl := by decide +kernel
theorem inX6 : ∀ w ∈ wsX60, w ∈ lw_tbl := by decide +kernel
theorem inX7 : ∀ w ∈ wsX70, w ∈ lw_tbl := by decide +kernel
def nT : List (Nat × Nat × MethodName × String) := [(6, 36, ⟨"HullFoundry$Body", "<init>", "()V"⟩, "HullFoundry"), (0, 45, ⟨"HullFoundry$Ratio", "<init>", "()V"⟩, "HullFoundry"), (6, 56, ⟨"HullFoundry$Hull", "<init>", "()V"⟩, "HullFoundry"), (2, 11, ⟨"HullFoundry$Shell", "<init>", "()V"⟩, "HullFoundry"), (6, 63, ⟨"HullFoundry$Gap", "<init>", "()V"⟩, "HullFoundry"), (6, 70, ⟨"HullFoundry$Ratio", "<init>", "()V"⟩, "HullFoundry"), (2, 111, ⟨"HullFoundry", "isPoint", "(III)Z"⟩, "HullFoundry"), (0, 63, ⟨"HullFoundry", "divisor", "(JJ)J"⟩, "HullFoundry"), (4, 24, ⟨"HullFoundry", "divisor", "(JJ)J"⟩, "HullFoundry")]
def lw_g : List Cond := lw_tbl.filter goodWord
theorem lg_in {w : Cond} (h : w ∈ lw_tbl) (g : goodWord w = true) : w ∈ lw_g := List.mem_filter.mpr ⟨h, g⟩
/-- what else is carried along: the links between nest mates, the classes of arrays of references -/
def mNs (U : State) : Prop := (∀ q ∈ nT, va_Nw (.methodLinkNest (cN q.1) q.2.1 q.2.2.1 q.2.2.2) U) ∧ va_AO RX3 U ∧ va_AO RX0 U
theorem mNs.warm {s U : State} (hW : s.WarmedH U.vm) (h : mNs s) : mNs U := ⟨fun q hq => (h.1 q hq).warmM hW, h.2.1.moved hW.alike, h.2.2.moved hW.alike⟩
theorem mNs.same {s U : State} (hW : s.vm = U.vm) (h : mNs s) : mNs U := ⟨fun q hq => (h.1 q hq).same rfl hW, h.2.1.moved (by rw [hW]; exact Vm.Alike.refl _), h.2.2.moved (by rw [hW]; exact Vm.Alike.refl _)⟩
end
section
/-! THE SMALL MACHINE: frames, locals and stacks as lists, the system's cells as a list (cell i lies at address B + i), references as places in that list. A step of it is a function; each step is carried over to the kit's judgement W once and for all. -/
abbrev mh : Type := List va_E
abbrev mF : Type := Nat × List (Nat × Value) × List Value × mh × Nat × Nat
/-- a method: name, number of its class, bytes, locals, return type, instructions by pc, room (frames, locals, cells, slots), parameters, is it a constructor -/
abbrev mM : Type := MethodName × Nat × ByteArray × Nat × Option FieldType × List (Nat × Instr × Nat) × (Nat × Nat × Nat × Nat) × Nat × Bool
def mNm (M : mM) : MethodName := M.1
def mOw (M : mM) : Nat := M.2.1
def mCd (M : mM) : ByteArray := M.2.2.1
def mLx (M : mM) : Nat := M.2.2.2.1
def mRt (M : mM) : Option FieldType := M.2.2.2.2.1
def mTb (M : mM) : List (Nat × Instr × Nat) := M.2.2.2.2.2.1
def mFr (M : mM) : Nat := M.2.2.2.2.2.2.1.1
def mLo (M : mM) : Nat := M.2.2.2.2.2.2.1.2.1
def mCe (M : mM) : Nat := M.2.2.2.2.2.2.1.2.2.1
def mSl (M : mM) : Nat := M.2.2.2.2.2.2.1.2.2.2
def mAr (M : mM) : Nat := M.2.2.2.2.2.2.2.1
def mIn (M : mM) : Bool := M.2.2.2.2.2.2.2.2
def mRm (M : mM) : Room := { frames := mFr M, cells := mCe M, slots := mSl M, locals := mLo M }
/-- values: a reference is a place in the list of cells; the script is .retAddr -/
def mv (B b : Nat) (v : Value) : Value := match v with
  | .ref a => .ref (B + a)
  | .retAddr _ => .ref b
  | .int x => .int x
  | .long x => .long x
  | .float x => .float x
  | .double x => .double x
  | .null => .null
theorem mv_cat (B b : Nat) (v : Value) : (mv B b v).category = v.category := by cases v <;> rfl
def mg (B b : Nat) (q : Nat × Value) : Nat × Value := (q.1, mv B b q.2)
def mrf (B : Nat) (f : Nat → Option Nat) : Nat → Option Nat := fun j => (f j).map (fun a => B + a)
def mcv (B b : Nat) (dA : Nat → ClassId) (x : va_E) : va_E := match x with
  | .inl (t, n, .inr (.inr (.inr (.inr f)))) => .inl (dA t, n, .inr (.inr (.inr (.inr (mrf B f)))))
  | .inl (t, n, .inr (.inr (.inr (.inl f)))) => .inl (dA t, n, .inr (.inr (.inr (.inl f))))
  | .inl (t, n, .inr (.inr (.inl f))) => .inl (dA t, n, .inr (.inr (.inl f)))
  | .inl (t, n, .inr (.inl f)) => .inl (dA t, n, .inr (.inl f))
  | .inl (t, n, .inl f) => .inl (dA t, n, .inl f)
  | .inr (ci, fs) => .inr (ci, fs.map (mv B b))
def mW (B b : Nat) (dA : Nat → ClassId) (h : mh) : va_W := h.mapIdx (fun i x => (B + i, mcv B b dA x))
def mR (B b : Nat) (D : va_G) (dA : Nat → ClassId) (h : mh) (H : Heap) : Prop := H.size = B + h.length ∧ va_P D vwCl (mW B b dA h) H
def mtys (dA : Nat → ClassId) : List (ClassId × FieldType) := [(dA 0, .int), (dA 1, .long), (dA 2, .boolean), (dA 3, .object RX3), (dA 4, .object RX0)]
def mA (B : Nat) : Nat → Prop := fun q => B ≤ q
theorem mW_at {B b : Nat} {dA : Nat → ClassId} {h : mh} {i : Nat} {x : va_E} (hx : h[i]? = some x) : (mW B b dA h)[i]? = some (B + i, mcv B b dA x) := by
  unfold mW
  rw [List.getElem?_mapIdx, hx]
  rfl
theorem mW_len {B b : Nat} {dA : Nat → ClassId} {h : mh} : (mW B b dA h).length = h.length := by
  unfold mW
  rw [List.length_mapIdx]
theorem mW_set {B b : Nat} {dA : Nat → ClassId} {h : mh} {i : Nat} (x : va_E) : (mW B b dA h).set i (B + i, mcv B b dA x) = mW B b dA (h.set i x) := by
  apply List.ext_getElem?
  intro j
  unfold mW
  rw [List.getElem?_set, List.getElem?_mapIdx, List.getElem?_mapIdx, List.getElem?_set, List.length_mapIdx]
  by_cases hj : i = j
  · subst hj
    by_cases hl : i < h.length <;> simp [hl]
  · simp [hj]
theorem mW_app {B b : Nat} {dA : Nat → ClassId} {h : mh} (x : va_E) : mW B b dA (h ++ [x]) = mW B b dA h ++ [(B + h.length, mcv B b dA x)] := by
  unfold mW
  rw [List.mapIdx_append]
  simp
theorem mW_D {B b : Nat} {dA : Nat → ClassId} {h : mh} : va_D (mA B) (mW B b dA h) := by
  have key : ∀ (i : Nat) (q : Nat × va_E), (mW B b dA h)[i]? = some q → q.1 = B + i := by
    intro i q hq
    unfold mW at hq
    rw [List.getElem?_mapIdx] at hq
    cases hh : h[i]? with
    | none => rw [hh] at hq; cases hq
    | some x => rw [hh] at hq; cases hq; rfl
  refine ⟨fun i j p q hp hq hpq => ?_, fun k q hq => ?_⟩
  · have h1 := key i p hp
    have h2 := key j q hq
    omega
  · have h1 := key k q hq
    show B ≤ q.1
    omega
theorem mR_set {B b : Nat} {D : va_G} {dA : Nat → ClassId} {h : mh} {H H1 : Heap} {i : Nat} {x : va_E} {y : Nat × va_E} (hy : y = (B + i, mcv B b dA x)) (hz : H1.size = H.size) (hR : mR B b D dA h H) (hP : va_P D vwCl ((mW B b dA h).set i y) H1) : mR B b D dA (h.set i x) H1 := by
  subst hy
  refine ⟨?_, ?_⟩
  · rw [List.length_set, hz]; exact hR.1
  · rw [← mW_set]; exact hP
def ls1 (lv : List (Nat × Value)) (i : Nat) (v : Value) : List (Nat × Value) := (i, v) :: lv.filter (fun q => !(q.1 == i) && !(q.1 + 1 == i && q.2.category == 2))
def ls2 (lv : List (Nat × Value)) (i : Nat) (v : Value) : List (Nat × Value) := (i, v) :: lv.filter (fun q => !(q.1 == i) && (!(q.1 == i + 1) && !(q.1 + 1 == i && q.2.category == 2)))
theorem ls1_map {B b : Nat} {lv : List (Nat × Value)} {i : Nat} {v : Value} : (i, mv B b v) :: (lv.map (mg B b)).filter (fun q => !(q.1 == i) && !(q.1 + 1 == i && q.2.category == 2)) = (ls1 lv i v).map (mg B b) := by
  unfold ls1
  rw [List.map_cons, List.filter_map]
  congr 2
  apply congrArg (fun p => List.filter p lv)
  funext q
  simp [mg, mv_cat]
theorem ls2_map {B b : Nat} {lv : List (Nat × Value)} {i : Nat} {v : Value} : (i, mv B b v) :: (lv.map (mg B b)).filter (fun q => !(q.1 == i) && (!(q.1 == i + 1) && !(q.1 + 1 == i && q.2.category == 2))) = (ls2 lv i v).map (mg B b) := by
  unfold ls2
  rw [List.map_cons, List.filter_map]
  congr 2
  apply congrArg (fun p => List.filter p lv)
  funext q
  simp [mg, mv_cat]
def lget (lv : List (Nat × Value)) (i : Nat) : Option Value := match lv with
  | [] => none
  | q :: r => if q.1 = i then some q.2 else lget r i
theorem lget_mem {i : Nat} {v : Value} : ∀ {lv : List (Nat × Value)}, lget lv i = some v → (i, v) ∈ lv
  | [], h => by cases h
  | q :: r, h => by
    unfold lget at h
    split at h
    · cases h; rename_i hq; subst hq; exact List.mem_cons_self
    · exact List.mem_cons_of_mem _ (lget_mem h)
theorem lget_at {B b i nL : Nat} {v : Value} {lv : List (Nat × Value)} {ls : Array Slot} (hl : lv_has ls nL (lv.map (mg B b))) (h : lget lv i = some v) : ls[i]? = some (.val (mv B b v)) := hl.2.2 (i, mv B b v) (List.mem_map.mpr ⟨(i, v), lget_mem h, rfl⟩)
theorem lget_ix {B b i : Nat} {v : Value} {lv : List (Nat × Value)} (h : lget lv i = some v) : ∃ k : Nat, (lv.map (mg B b))[k]? = some (i, mv B b v) := List.getElem?_of_mem (List.mem_map.mpr ⟨(i, v), lget_mem h, rfl⟩)
theorem lv_args_mv {B b : Nat} : ∀ (vs : List Value) (i : Nat), lv_args i (vs.map (mv B b)) = (lv_args i vs).map (mg B b)
  | [], i => rfl
  | v :: vs, i => by
    show (i, mv B b v) :: lv_args (if (mv B b v).category = 2 then i + 2 else i + 1) (vs.map (mv B b)) = (i, mv B b v) :: (lv_args (if v.category = 2 then i + 2 else i + 1) vs).map (mg B b)
    rw [mv_cat, lv_args_mv]
theorem lg_sl_mv {B b : Nat} (vs : List Value) : (lg_sl (vs.map (mv B b))).length = (lg_sl vs).length := by
  induction vs with
  | nil => rfl
  | cons v vs ih =>
    unfold lg_sl at ih ⊢
    simp only [List.map_cons, List.flatMap_cons, List.length_append, mv_cat, ih]
    split <;> rfl
theorem cat_mv {B b : Nat} (vs : List Value) : ((vs.map (mv B b)).map fun v => v.category).sum = (vs.map fun v => v.category).sum := by
  rw [List.map_map]
  congr 1
  apply congrArg (fun f => List.map f vs)
  funext v
  exact mv_cat B b v

section MV
variable {p : Program} {l : Launch} {e : Env} {R : Room} {s : State} {m : MethodId} {args : Array Value} {below : List Frame} {meth : Method} {c : Code} {Q : State → Prop} {B b : Nat} {D : va_G} {dA : Nat → ClassId} {M : mM}
/-- what stands around a method's run -/
def mE (p : Program) (R : Room) (s : State) (m : MethodId) (args : Array Value) (meth : Method) (c : Code) (B : Nat) (D : va_G) (dA : Nat → ClassId) (M : mM) : Prop := p.tables.exec = Jvm.exec ∧ c.code = mCd M ∧ c.maxLocals = mLx M ∧ s.vm.findClass (cN (mOw M)) = some m.cls ∧ (∀ w ∈ lw_g, w.before args s = true) ∧ (mIn M = true → meth.name = "<init>") ∧ va_K D vwCl (mtys dA) s ∧ B ≤ s.heap.size ∧ R = mRm M ∧ mNs s
/-- the judgement: from this frame on, over every heap that holds the cells, the machine comes to Q -/
def mV (p : Program) (l : Launch) (e : Env) (R : Room) (s : State) (m : MethodId) (args : Array Value) (below : List Frame) (meth : Method) (c : Code) (Q : State → Prop) (B b : Nat) (D : va_G) (dA : Nat → ClassId) (nL : Nat) (f : mF) : Prop :=
  ∀ (H : Heap) (locs : List Loc) (ls : Array Slot), mR B b D dA f.2.2.2.1 H → va_S (mA B) s.heap H locs → lv_has ls nL (f.2.1.map (mg B b)) → W p l e R s m args below meth c H locs f.2.2.2.2.1 f.2.2.2.2.2 Q (F0 m f.1 ls (f.2.2.1.map (mv B b)))

def q_iadd (len pc : Nat) (lv : List (Nat × Value)) (st : List Value) (h : mh) (k n : Nat) : Option mF := match len, st with
  | 1, .int y :: .int x :: r => some (pc + 1, lv, .int (x + y) :: r, h, k, n)
  | _, _ => none
theorem o_iadd (E : mE p R s m args meth c B D dA M) {len pc : Nat} {lv : List (Nat × Value)} {st : List Value} {h : mh} {k n : Nat} {f : mF} (hd : decode (mCd M) pc = .ok (.iadd, len)) (hq : q_iadd len pc lv st h k n = some f) (hk : mV p l e R s m args below meth c Q B b D dA (mLx M) f) : mV p l e R s m args below meth c Q B b D dA (mLx M) (pc, lv, st, h, k, n) := by
  unfold q_iadd at hq
  split at hq
  · cases hq
    intro H locs ls hR hS hl
    exact lv_iadd E.1 E.2.1 hd (hk H locs ls hR hS hl)
  · cases hq
def q_isub (len pc : Nat) (lv : List (Nat × Value)) (st : List Value) (h : mh) (k n : Nat) : Option mF := match len, st with
  | 1, .int y :: .int x :: r => some (pc + 1, lv, .int (x - y) :: r, h, k, n)
  | _, _ => none
theorem o_isub (E : mE p R s m args meth c B D dA M) {len pc : Nat} {lv : List (Nat × Value)} {st : List Value} {h : mh} {k n : Nat} {f : mF} (hd : decode (mCd M) pc = .ok (.isub, len)) (hq : q_isub len pc lv st h k n = some f) (hk : mV p l e R s m args below meth c Q B b D dA (mLx M) f) : mV p l e R s m args below meth c Q B b D dA (mLx M) (pc, lv, st, h, k, n) := by
  unfold q_isub at hq
  split at hq
  · cases hq
    intro H locs ls hR hS hl
    exact lv_isub E.1 E.2.1 hd (hk H locs ls hR hS hl)
  · cases hq
def q_imul (len pc : Nat) (lv : List (Nat × Value)) (st : List Value) (h : mh) (k n : Nat) : Option mF := match len, st with
  | 1, .int y :: .int x :: r => some (pc + 1, lv, .int (x * y) :: r, h, k, n)
  | _, _ => none
theorem o_imul (E : mE p R s m args meth c B D dA M) {len pc : Nat} {lv : List (Nat × Value)} {st : List Value} {h : mh} {k n : Nat} {f : mF} (hd : decode (mCd M) pc = .ok (.imul, len)) (hq : q_imul len pc lv st h k n = some f) (hk : mV p l e R s m args below meth c Q B b D dA (mLx M) f) : mV p l e R s m args below meth c Q B b D dA (mLx M) (pc, lv, st, h, k, n) := by
  unfold q_imul at hq
  split at hq
  · cases hq
    intro H locs ls hR hS hl
    exact lv_imul E.1 E.2.1 hd (hk H locs ls hR hS hl)
  · cases hq
def q_iand (len pc : Nat) (lv : List (Nat × Value)) (st : List Value) (h : mh) (k n : Nat) : Option mF := match len, st with
  | 1, .int y :: .int x :: r => some (pc + 1, lv, .int (x &&& y) :: r, h, k, n)
  | _, _ => none
theorem o_iand (E : mE p R s m args meth c B D dA M) {len pc : Nat} {lv : List (Nat × Value)} {st : List Value} {h : mh} {k n : Nat} {f : mF} (hd : decode (mCd M) pc = .ok (.iand, len)) (hq : q_iand len pc lv st h k n = some f) (hk : mV p l e R s m args below meth c Q B b D dA (mLx M) f) : mV p l e R s m args below meth c Q B b D dA (mLx M) (pc, lv, st, h, k, n) := by
  unfold q_iand at hq
  split at hq
  · cases hq
    intro H locs ls hR hS hl
    exact lv_iand E.1 E.2.1 hd (hk H locs ls hR hS hl)
  · cases hq
def q_ior (len pc : Nat) (lv : List (Nat × Value)) (st : List Value) (h : mh) (k n : Nat) : Option mF := match len, st with
  | 1, .int y :: .int x :: r => some (pc + 1, lv, .int (x ||| y) :: r, h, k, n)
  | _, _ => none
theorem o_ior (E : mE p R s m args meth c B D dA M) {len pc : Nat} {lv : List (Nat × Value)} {st : List Value} {h : mh} {k n : Nat} {f : mF} (hd : decode (mCd M) pc = .ok (.ior, len)) (hq : q_ior len pc lv st h k n = some f) (hk : mV p l e R s m args below meth c Q B b D dA (mLx M) f) : mV p l e R s m args below meth c Q B b D dA (mLx M) (pc, lv, st, h, k, n) := by
  unfold q_ior at hq
  split at hq
  · cases hq
    intro H locs ls hR hS hl
    exact lv_ior E.1 E.2.1 hd (hk H locs ls hR hS hl)
  · cases hq
def q_ishl (len pc : Nat) (lv : List (Nat × Value)) (st : List Value) (h : mh) (k n : Nat) : Option mF := match len, st with
  | 1, .int y :: .int x :: r => some (pc + 1, lv, .int (x <<< (y &&& 31)) :: r, h, k, n)
  | _, _ => none
theorem o_ishl (E : mE p R s m args meth c B D dA M) {len pc : Nat} {lv : List (Nat × Value)} {st : List Value} {h : mh} {k n : Nat} {f : mF} (hd : decode (mCd M) pc = .ok (.ishl, len)) (hq : q_ishl len pc lv st h k n = some f) (hk : mV p l e R s m args below meth c Q B b D dA (mLx M) f) : mV p l e R s m args below meth c Q B b D dA (mLx M) (pc, lv, st, h, k, n) := by
  unfold q_ishl at hq
  split at hq
  · cases hq
    intro H locs ls hR hS hl
    exact lv_ishl E.1 E.2.1 hd (hk H locs ls hR hS hl)
  · cases hq
def q_ishr (len pc : Nat) (lv : List (Nat × Value)) (st : List Value) (h : mh) (k n : Nat) : Option mF := match len, st with
  | 1, .int y :: .int x :: r => some (pc + 1, lv, .int (x >>> (y &&& 31)) :: r, h, k, n)
  | _, _ => none
theorem o_ishr (E : mE p R s m args meth c B D dA M) {len pc : Nat} {lv : List (Nat × Value)} {st : List Value} {h : mh} {k n : Nat} {f : mF} (hd : decode (mCd M) pc = .ok (.ishr, len)) (hq : q_ishr len pc lv st h k n = some f) (hk : mV p l e R s m args below meth c Q B b D dA (mLx M) f) : mV p l e R s m args below meth c Q B b D dA (mLx M) (pc, lv, st, h, k, n) := by
  unfold q_ishr at hq
  split at hq
  · cases hq
    intro H locs ls hR hS hl
    exact lv_ishr E.1 E.2.1 hd (hk H locs ls hR hS hl)
  · cases hq
def q_idiv (len pc : Nat) (lv : List (Nat × Value)) (st : List Value) (h : mh) (k n : Nat) : Option mF := match len, st with
  | 1, .int y :: .int x :: r => if y = 0 then none else some (pc + 1, lv, .int (x / y) :: r, h, k, n)
  | _, _ => none
theorem o_idiv (E : mE p R s m args meth c B D dA M) {len pc : Nat} {lv : List (Nat × Value)} {st : List Value} {h : mh} {k n : Nat} {f : mF} (hd : decode (mCd M) pc = .ok (.idiv, len)) (hq : q_idiv len pc lv st h k n = some f) (hk : mV p l e R s m args below meth c Q B b D dA (mLx M) f) : mV p l e R s m args below meth c Q B b D dA (mLx M) (pc, lv, st, h, k, n) := by
  unfold q_idiv at hq
  split at hq
  · split at hq
    · cases hq
    · rename_i hc
      cases hq
      intro H locs ls hR hS hl
      exact lv_idiv E.1 E.2.1 hd hc (hk H locs ls hR hS hl)
  · cases hq
def q_irem (len pc : Nat) (lv : List (Nat × Value)) (st : List Value) (h : mh) (k n : Nat) : Option mF := match len, st with
  | 1, .int y :: .int x :: r => if y = 0 then none else some (pc + 1, lv, .int (x - x / y * y) :: r, h, k, n)
  | _, _ => none
theorem o_irem (E : mE p R s m args meth c B D dA M) {len pc : Nat} {lv : List (Nat × Value)} {st : List Value} {h : mh} {k n : Nat} {f : mF} (hd : decode (mCd M) pc = .ok (.irem, len)) (hq : q_irem len pc lv st h k n = some f) (hk : mV p l e R s m args below meth c Q B b D dA (mLx M) f) : mV p l e R s m args below meth c Q B b D dA (mLx M) (pc, lv, st, h, k, n) := by
  unfold q_irem at hq
  split at hq
  · split at hq
    · cases hq
    · rename_i hc
      cases hq
      intro H locs ls hR hS hl
      exact lv_irem E.1 E.2.1 hd hc (hk H locs ls hR hS hl)
  · cases hq
def q_ladd (len pc : Nat) (lv : List (Nat × Value)) (st : List Value) (h : mh) (k n : Nat) : Option mF := match len, st with
  | 1, .long y :: .long x :: r => some (pc + 1, lv, .long (x + y) :: r, h, k, n)
  | _, _ => none
theorem o_ladd (E : mE p R s m args meth c B D dA M) {len pc : Nat} {lv : List (Nat × Value)} {st : List Value} {h : mh} {k n : Nat} {f : mF} (hd : decode (mCd M) pc = .ok (.ladd, len)) (hq : q_ladd len pc lv st h k n = some f) (hk : mV p l e R s m args below meth c Q B b D dA (mLx M) f) : mV p l e R s m args below meth c Q B b D dA (mLx M) (pc, lv, st, h, k, n) := by
  unfold q_ladd at hq
  split at hq
  · cases hq
    intro H locs ls hR hS hl
    exact lv_ladd E.1 E.2.1 hd (hk H locs ls hR hS hl)
  · cases hq
def q_lsub (len pc : Nat) (lv : List (Nat × Value)) (st : List Value) (h : mh) (k n : Nat) : Option mF := match len, st with
  | 1, .long y :: .long x :: r => some (pc + 1, lv, .long (x - y) :: r, h, k, n)
  | _, _ => none
theorem o_lsub (E : mE p R s m args meth c B D dA M) {len pc : Nat} {lv : List (Nat × Value)} {st : List Value} {h : mh} {k n : Nat} {f : mF} (hd : decode (mCd M) pc = .ok (.lsub, len)) (hq : q_lsub len pc lv st h k n = some f) (hk : mV p l e R s m args below meth c Q B b D dA (mLx M) f) : mV p l e R s m args below meth c Q B b D dA (mLx M) (pc, lv, st, h, k, n) := by
  unfold q_lsub at hq
  split at hq
  · cases hq
    intro H locs ls hR hS hl
    exact lv_lsub E.1 E.2.1 hd (hk H locs ls hR hS hl)
  · cases hq
def q_lmul (len pc : Nat) (lv : List (Nat × Value)) (st : List Value) (h : mh) (k n : Nat) : Option mF := match len, st with
  | 1, .long y :: .long x :: r => some (pc + 1, lv, .long (x * y) :: r, h, k, n)
  | _, _ => none
theorem o_lmul (E : mE p R s m args meth c B D dA M) {len pc : Nat} {lv : List (Nat × Value)} {st : List Value} {h : mh} {k n : Nat} {f : mF} (hd : decode (mCd M) pc = .ok (.lmul, len)) (hq : q_lmul len pc lv st h k n = some f) (hk : mV p l e R s m args below meth c Q B b D dA (mLx M) f) : mV p l e R s m args below meth c Q B b D dA (mLx M) (pc, lv, st, h, k, n) := by
  unfold q_lmul at hq
  split at hq
  · cases hq
    intro H locs ls hR hS hl
    exact lv_lmul E.1 E.2.1 hd (hk H locs ls hR hS hl)
  · cases hq
def q_ldiv (len pc : Nat) (lv : List (Nat × Value)) (st : List Value) (h : mh) (k n : Nat) : Option mF := match len, st with
  | 1, .long y :: .long x :: r => if y = 0 then none else some (pc + 1, lv, .long (x / y) :: r, h, k, n)
  | _, _ => none
theorem o_ldiv (E : mE p R s m args meth c B D dA M) {len pc : Nat} {lv : List (Nat × Value)} {st : List Value} {h : mh} {k n : Nat} {f : mF} (hd : decode (mCd M) pc = .ok (.ldiv, len)) (hq : q_ldiv len pc lv st h k n = some f) (hk : mV p l e R s m args below meth c Q B b D dA (mLx M) f) : mV p l e R s m args below meth c Q B b D dA (mLx M) (pc, lv, st, h, k, n) := by
  unfold q_ldiv at hq
  split at hq
  · split at hq
    · cases hq
    · rename_i hc
      cases hq
      intro H locs ls hR hS hl
      exact lv_ldiv E.1 E.2.1 hd hc (hk H locs ls hR hS hl)
  · cases hq
def q_lrem (len pc : Nat) (lv : List (Nat × Value)) (st : List Value) (h : mh) (k n : Nat) : Option mF := match len, st with
  | 1, .long y :: .long x :: r => if y = 0 then none else some (pc + 1, lv, .long (x - x / y * y) :: r, h, k, n)
  | _, _ => none
theorem o_lrem (E : mE p R s m args meth c B D dA M) {len pc : Nat} {lv : List (Nat × Value)} {st : List Value} {h : mh} {k n : Nat} {f : mF} (hd : decode (mCd M) pc = .ok (.lrem, len)) (hq : q_lrem len pc lv st h k n = some f) (hk : mV p l e R s m args below meth c Q B b D dA (mLx M) f) : mV p l e R s m args below meth c Q B b D dA (mLx M) (pc, lv, st, h, k, n) := by
  unfold q_lrem at hq
  split at hq
  · split at hq
    · cases hq
    · rename_i hc
      cases hq
      intro H locs ls hR hS hl
      exact lv_lrem E.1 E.2.1 hd hc (hk H locs ls hR hS hl)
  · cases hq
def q_ineg (len pc : Nat) (lv : List (Nat × Value)) (st : List Value) (h : mh) (k n : Nat) : Option mF := match len, st with
  | 1, .int x :: r => some (pc + 1, lv, .int (-x) :: r, h, k, n)
  | _, _ => none
theorem o_ineg (E : mE p R s m args meth c B D dA M) {len pc : Nat} {lv : List (Nat × Value)} {st : List Value} {h : mh} {k n : Nat} {f : mF} (hd : decode (mCd M) pc = .ok (.ineg, len)) (hq : q_ineg len pc lv st h k n = some f) (hk : mV p l e R s m args below meth c Q B b D dA (mLx M) f) : mV p l e R s m args below meth c Q B b D dA (mLx M) (pc, lv, st, h, k, n) := by
  unfold q_ineg at hq
  split at hq
  · cases hq
    intro H locs ls hR hS hl
    exact lv_ineg E.1 E.2.1 hd (hk H locs ls hR hS hl)
  · cases hq
def q_lneg (len pc : Nat) (lv : List (Nat × Value)) (st : List Value) (h : mh) (k n : Nat) : Option mF := match len, st with
  | 1, .long x :: r => some (pc + 1, lv, .long (-x) :: r, h, k, n)
  | _, _ => none
theorem o_lneg (E : mE p R s m args meth c B D dA M) {len pc : Nat} {lv : List (Nat × Value)} {st : List Value} {h : mh} {k n : Nat} {f : mF} (hd : decode (mCd M) pc = .ok (.lneg, len)) (hq : q_lneg len pc lv st h k n = some f) (hk : mV p l e R s m args below meth c Q B b D dA (mLx M) f) : mV p l e R s m args below meth c Q B b D dA (mLx M) (pc, lv, st, h, k, n) := by
  unfold q_lneg at hq
  split at hq
  · cases hq
    intro H locs ls hR hS hl
    exact lv_lneg E.1 E.2.1 hd (hk H locs ls hR hS hl)
  · cases hq
def q_i2l (len pc : Nat) (lv : List (Nat × Value)) (st : List Value) (h : mh) (k n : Nat) : Option mF := match len, st with
  | 1, .int x :: r => some (pc + 1, lv, .long x.toInt64 :: r, h, k, n)
  | _, _ => none
theorem o_i2l (E : mE p R s m args meth c B D dA M) {len pc : Nat} {lv : List (Nat × Value)} {st : List Value} {h : mh} {k n : Nat} {f : mF} (hd : decode (mCd M) pc = .ok (.i2l, len)) (hq : q_i2l len pc lv st h k n = some f) (hk : mV p l e R s m args below meth c Q B b D dA (mLx M) f) : mV p l e R s m args below meth c Q B b D dA (mLx M) (pc, lv, st, h, k, n) := by
  unfold q_i2l at hq
  split at hq
  · cases hq
    intro H locs ls hR hS hl
    exact lv_i2l E.1 E.2.1 hd rfl (hk H locs ls hR hS hl)
  · cases hq
def q_l2i (len pc : Nat) (lv : List (Nat × Value)) (st : List Value) (h : mh) (k n : Nat) : Option mF := match len, st with
  | 1, .long x :: r => some (pc + 1, lv, .int x.toInt32 :: r, h, k, n)
  | _, _ => none
theorem o_l2i (E : mE p R s m args meth c B D dA M) {len pc : Nat} {lv : List (Nat × Value)} {st : List Value} {h : mh} {k n : Nat} {f : mF} (hd : decode (mCd M) pc = .ok (.l2i, len)) (hq : q_l2i len pc lv st h k n = some f) (hk : mV p l e R s m args below meth c Q B b D dA (mLx M) f) : mV p l e R s m args below meth c Q B b D dA (mLx M) (pc, lv, st, h, k, n) := by
  unfold q_l2i at hq
  split at hq
  · cases hq
    intro H locs ls hR hS hl
    exact lv_l2i E.1 E.2.1 hd rfl (hk H locs ls hR hS hl)
  · cases hq
def q_lcmp (len pc : Nat) (lv : List (Nat × Value)) (st : List Value) (h : mh) (k n : Nat) : Option mF := match len, st with
  | 1, .long y :: .long x :: r => some (pc + 1, lv, .int (lg_cmp x y) :: r, h, k, n)
  | _, _ => none
theorem o_lcmp (E : mE p R s m args meth c B D dA M) {len pc : Nat} {lv : List (Nat × Value)} {st : List Value} {h : mh} {k n : Nat} {f : mF} (hd : decode (mCd M) pc = .ok (.lcmp, len)) (hq : q_lcmp len pc lv st h k n = some f) (hk : mV p l e R s m args below meth c Q B b D dA (mLx M) f) : mV p l e R s m args below meth c Q B b D dA (mLx M) (pc, lv, st, h, k, n) := by
  unfold q_lcmp at hq
  split at hq
  · cases hq
    intro H locs ls hR hS hl
    exact W.lcmp E.1 E.2.1 hd (hk H locs ls hR hS hl)
  · cases hq
def q_dup  (len pc : Nat) (lv : List (Nat × Value)) (st : List Value) (h : mh) (k n : Nat) : Option mF := match len, st with
  | 1, v :: r => if v.category = 1 then some (pc + 1, lv, v :: v :: r, h, k, n) else none
  | _, _ => none
theorem o_dup (E : mE p R s m args meth c B D dA M)  {len pc : Nat} {lv : List (Nat × Value)} {st : List Value} {h : mh} {k n : Nat} {f : mF} (hd : decode (mCd M) pc = .ok (.dup, len)) (hq : q_dup  len pc lv st h k n = some f) (hk : mV p l e R s m args below meth c Q B b D dA (mLx M) f) : mV p l e R s m args below meth c Q B b D dA (mLx M) (pc, lv, st, h, k, n) := by
  unfold q_dup at hq
  split at hq
  · split at hq
    · rename_i hc
      cases hq
      intro H locs ls hR hS hl
      exact lv_dup E.1 E.2.1 hd (by rw [mv_cat]; exact hc) (hk H locs ls hR hS hl)
    · cases hq
  · cases hq
def q_pop  (len pc : Nat) (lv : List (Nat × Value)) (st : List Value) (h : mh) (k n : Nat) : Option mF := match len, st with
  | 1, v :: r => if v.category = 1 then some (pc + 1, lv, r, h, k, n) else none
  | _, _ => none
theorem o_pop (E : mE p R s m args meth c B D dA M)  {len pc : Nat} {lv : List (Nat × Value)} {st : List Value} {h : mh} {k n : Nat} {f : mF} (hd : decode (mCd M) pc = .ok (.pop, len)) (hq : q_pop  len pc lv st h k n = some f) (hk : mV p l e R s m args below meth c Q B b D dA (mLx M) f) : mV p l e R s m args below meth c Q B b D dA (mLx M) (pc, lv, st, h, k, n) := by
  unfold q_pop at hq
  split at hq
  · split at hq
    · rename_i hc
      cases hq
      intro H locs ls hR hS hl
      exact lv_pop E.1 E.2.1 hd (by rw [mv_cat]; exact hc) (hk H locs ls hR hS hl)
    · cases hq
  · cases hq
def q_dup2  (len pc : Nat) (lv : List (Nat × Value)) (st : List Value) (h : mh) (k n : Nat) : Option mF := match len, st with
  | 1, .long v :: r => some (pc + 1, lv, .long v :: .long v :: r, h, k, n)
  | 1, .int v :: u :: r => if u.category = 1 then some (pc + 1, lv, .int v :: u :: .int v :: u :: r, h, k, n) else none
  | _, _ => none
theorem o_dup2 (E : mE p R s m args meth c B D dA M)  {len pc : Nat} {lv : List (Nat × Value)} {st : List Value} {h : mh} {k n : Nat} {f : mF} (hd : decode (mCd M) pc = .ok (.dup2, len)) (hq : q_dup2  len pc lv st h k n = some f) (hk : mV p l e R s m args below meth c Q B b D dA (mLx M) f) : mV p l e R s m args below meth c Q B b D dA (mLx M) (pc, lv, st, h, k, n) := by
  unfold q_dup2 at hq
  split at hq
  · cases hq
    intro H locs ls hR hS hl
    exact lv_dup2_2 E.1 E.2.1 hd rfl (hk H locs ls hR hS hl)
  · split at hq
    · rename_i hc
      cases hq
      intro H locs ls hR hS hl
      exact lv_dup2_11 E.1 E.2.1 hd rfl (by rw [mv_cat]; exact hc) (hk H locs ls hR hS hl)
    · cases hq
  · cases hq
def q_iconst (i : Int) (len pc : Nat) (lv : List (Nat × Value)) (st : List Value) (h : mh) (k n : Nat) : Option mF := if len = 1 then some (pc + 1, lv, .int (Int32.ofInt i) :: st, h, k, n) else none
theorem o_iconst (E : mE p R s m args meth c B D dA M) {i : Int} {len pc : Nat} {lv : List (Nat × Value)} {st : List Value} {h : mh} {k n : Nat} {f : mF} (hd : decode (mCd M) pc = .ok (.iconst i, len)) (hq : q_iconst i len pc lv st h k n = some f) (hk : mV p l e R s m args below meth c Q B b D dA (mLx M) f) : mV p l e R s m args below meth c Q B b D dA (mLx M) (pc, lv, st, h, k, n) := by
  unfold q_iconst at hq
  split at hq
  · rename_i hc
    subst hc
    cases hq
    intro H locs ls hR hS hl
    exact lv_iconst E.1 E.2.1 hd rfl (hk H locs ls hR hS hl)
  · cases hq
def q_bipush (i : Int) (len pc : Nat) (lv : List (Nat × Value)) (st : List Value) (h : mh) (k n : Nat) : Option mF := if len = 2 then some (pc + 2, lv, .int (Int8.ofInt i).toInt32 :: st, h, k, n) else none
theorem o_bipush (E : mE p R s m args meth c B D dA M) {i : Int} {len pc : Nat} {lv : List (Nat × Value)} {st : List Value} {h : mh} {k n : Nat} {f : mF} (hd : decode (mCd M) pc = .ok (.bipush i, len)) (hq : q_bipush i len pc lv st h k n = some f) (hk : mV p l e R s m args below meth c Q B b D dA (mLx M) f) : mV p l e R s m args below meth c Q B b D dA (mLx M) (pc, lv, st, h, k, n) := by
  unfold q_bipush at hq
  split at hq
  · rename_i hc
    subst hc
    cases hq
    intro H locs ls hR hS hl
    exact lv_bipush E.1 E.2.1 hd rfl (hk H locs ls hR hS hl)
  · cases hq
def q_sipush (i : Int) (len pc : Nat) (lv : List (Nat × Value)) (st : List Value) (h : mh) (k n : Nat) : Option mF := if len = 3 then some (pc + 3, lv, .int (Int16.ofInt i).toInt32 :: st, h, k, n) else none
theorem o_sipush (E : mE p R s m args meth c B D dA M) {i : Int} {len pc : Nat} {lv : List (Nat × Value)} {st : List Value} {h : mh} {k n : Nat} {f : mF} (hd : decode (mCd M) pc = .ok (.sipush i, len)) (hq : q_sipush i len pc lv st h k n = some f) (hk : mV p l e R s m args below meth c Q B b D dA (mLx M) f) : mV p l e R s m args below meth c Q B b D dA (mLx M) (pc, lv, st, h, k, n) := by
  unfold q_sipush at hq
  split at hq
  · rename_i hc
    subst hc
    cases hq
    intro H locs ls hR hS hl
    exact lv_sipush E.1 E.2.1 hd rfl (hk H locs ls hR hS hl)
  · cases hq
def q_lconst (i : Fin 2) (len pc : Nat) (lv : List (Nat × Value)) (st : List Value) (h : mh) (k n : Nat) : Option mF := if len = 1 then some (pc + 1, lv, .long (Int64.ofNat (i : Nat)) :: st, h, k, n) else none
theorem o_lconst (E : mE p R s m args meth c B D dA M) {i : Fin 2} {len pc : Nat} {lv : List (Nat × Value)} {st : List Value} {h : mh} {k n : Nat} {f : mF} (hd : decode (mCd M) pc = .ok (.lconst i, len)) (hq : q_lconst i len pc lv st h k n = some f) (hk : mV p l e R s m args below meth c Q B b D dA (mLx M) f) : mV p l e R s m args below meth c Q B b D dA (mLx M) (pc, lv, st, h, k, n) := by
  unfold q_lconst at hq
  split at hq
  · rename_i hc
    subst hc
    cases hq
    intro H locs ls hR hS hl
    exact lv_lconst E.1 E.2.1 hd rfl (hk H locs ls hR hS hl)
  · cases hq
def q_iload (i : Nat) (len pc : Nat) (lv : List (Nat × Value)) (st : List Value) (h : mh) (k n : Nat) : Option mF := match len, lget lv i with
  | 2, some (.int x) => some (pc + 2, lv, .int x :: st, h, k, n)
  | _, _ => none
theorem o_iload (E : mE p R s m args meth c B D dA M) {i : Nat} {len pc : Nat} {lv : List (Nat × Value)} {st : List Value} {h : mh} {k n : Nat} {f : mF} (hd : decode (mCd M) pc = .ok (.iload i, len)) (hq : q_iload i len pc lv st h k n = some f) (hk : mV p l e R s m args below meth c Q B b D dA (mLx M) f) : mV p l e R s m args below meth c Q B b D dA (mLx M) (pc, lv, st, h, k, n) := by
  unfold q_iload at hq
  split at hq
  · rename_i hc
    cases hq
    intro H locs ls hR hS hl
    exact lv_iload E.1 E.2.1 hd (lget_at hl hc) (hk H locs ls hR hS hl)
  · cases hq
def q_iload_n (i : Fin 4) (len pc : Nat) (lv : List (Nat × Value)) (st : List Value) (h : mh) (k n : Nat) : Option mF := match len, lget lv (i : Nat) with
  | 1, some (.int x) => some (pc + 1, lv, .int x :: st, h, k, n)
  | _, _ => none
theorem o_iload_n (E : mE p R s m args meth c B D dA M) {i : Fin 4} {len pc : Nat} {lv : List (Nat × Value)} {st : List Value} {h : mh} {k n : Nat} {f : mF} (hd : decode (mCd M) pc = .ok (.iload_n i, len)) (hq : q_iload_n i len pc lv st h k n = some f) (hk : mV p l e R s m args below meth c Q B b D dA (mLx M) f) : mV p l e R s m args below meth c Q B b D dA (mLx M) (pc, lv, st, h, k, n) := by
  unfold q_iload_n at hq
  split at hq
  · rename_i hc
    cases hq
    intro H locs ls hR hS hl
    exact lv_iload_n E.1 E.2.1 hd rfl (lget_at hl hc) (hk H locs ls hR hS hl)
  · cases hq
def q_lload (i : Nat) (len pc : Nat) (lv : List (Nat × Value)) (st : List Value) (h : mh) (k n : Nat) : Option mF := match len, lget lv i with
  | 2, some (.long x) => some (pc + 2, lv, .long x :: st, h, k, n)
  | _, _ => none
theorem o_lload (E : mE p R s m args meth c B D dA M) {i : Nat} {len pc : Nat} {lv : List (Nat × Value)} {st : List Value} {h : mh} {k n : Nat} {f : mF} (hd : decode (mCd M) pc = .ok (.lload i, len)) (hq : q_lload i len pc lv st h k n = some f) (hk : mV p l e R s m args below meth c Q B b D dA (mLx M) f) : mV p l e R s m args below meth c Q B b D dA (mLx M) (pc, lv, st, h, k, n) := by
  unfold q_lload at hq
  split at hq
  · rename_i hc
    cases hq
    intro H locs ls hR hS hl
    exact lv_lload E.1 E.2.1 hd (lget_at hl hc) (hk H locs ls hR hS hl)
  · cases hq
def q_lload_n (i : Fin 4) (len pc : Nat) (lv : List (Nat × Value)) (st : List Value) (h : mh) (k n : Nat) : Option mF := match len, lget lv (i : Nat) with
  | 1, some (.long x) => some (pc + 1, lv, .long x :: st, h, k, n)
  | _, _ => none
theorem o_lload_n (E : mE p R s m args meth c B D dA M) {i : Fin 4} {len pc : Nat} {lv : List (Nat × Value)} {st : List Value} {h : mh} {k n : Nat} {f : mF} (hd : decode (mCd M) pc = .ok (.lload_n i, len)) (hq : q_lload_n i len pc lv st h k n = some f) (hk : mV p l e R s m args below meth c Q B b D dA (mLx M) f) : mV p l e R s m args below meth c Q B b D dA (mLx M) (pc, lv, st, h, k, n) := by
  unfold q_lload_n at hq
  split at hq
  · rename_i hc
    cases hq
    intro H locs ls hR hS hl
    exact lv_lload_n E.1 E.2.1 hd rfl (lget_at hl hc) (hk H locs ls hR hS hl)
  · cases hq
def q_aload (i : Nat) (len pc : Nat) (lv : List (Nat × Value)) (st : List Value) (h : mh) (k n : Nat) : Option mF := match len, lget lv i with
  | 2, some (.ref x) => some (pc + 2, lv, .ref x :: st, h, k, n)
  | 2, some (.retAddr x) => some (pc + 2, lv, .retAddr x :: st, h, k, n)
  | _, _ => none
theorem o_aload (E : mE p R s m args meth c B D dA M) {i : Nat} {len pc : Nat} {lv : List (Nat × Value)} {st : List Value} {h : mh} {k n : Nat} {f : mF} (hd : decode (mCd M) pc = .ok (.aload i, len)) (hq : q_aload i len pc lv st h k n = some f) (hk : mV p l e R s m args below meth c Q B b D dA (mLx M) f) : mV p l e R s m args below meth c Q B b D dA (mLx M) (pc, lv, st, h, k, n) := by
  unfold q_aload at hq
  split at hq
  · rename_i hc
    cases hq
    intro H locs ls hR hS hl
    exact lv_aload E.1 E.2.1 hd (lget_at hl hc) (hk H locs ls hR hS hl)
  · rename_i hc
    cases hq
    intro H locs ls hR hS hl
    exact lv_aload E.1 E.2.1 hd (lget_at hl hc) (hk H locs ls hR hS hl)
  · cases hq
def q_aload_n (i : Fin 4) (len pc : Nat) (lv : List (Nat × Value)) (st : List Value) (h : mh) (k n : Nat) : Option mF := match len, lget lv (i : Nat) with
  | 1, some (.ref x) => some (pc + 1, lv, .ref x :: st, h, k, n)
  | 1, some (.retAddr x) => some (pc + 1, lv, .retAddr x :: st, h, k, n)
  | _, _ => none
theorem o_aload_n (E : mE p R s m args meth c B D dA M) {i : Fin 4} {len pc : Nat} {lv : List (Nat × Value)} {st : List Value} {h : mh} {k n : Nat} {f : mF} (hd : decode (mCd M) pc = .ok (.aload_n i, len)) (hq : q_aload_n i len pc lv st h k n = some f) (hk : mV p l e R s m args below meth c Q B b D dA (mLx M) f) : mV p l e R s m args below meth c Q B b D dA (mLx M) (pc, lv, st, h, k, n) := by
  unfold q_aload_n at hq
  split at hq
  · rename_i hc
    cases hq
    intro H locs ls hR hS hl
    exact lv_aload_n E.1 E.2.1 hd rfl (lget_at hl hc) (hk H locs ls hR hS hl)
  · rename_i hc
    cases hq
    intro H locs ls hR hS hl
    exact lv_aload_n E.1 E.2.1 hd rfl (lget_at hl hc) (hk H locs ls hR hS hl)
  · cases hq
def q_istore (i : Nat) (mx : Nat) (len pc : Nat) (lv : List (Nat × Value)) (st : List Value) (h : mh) (k n : Nat) : Option mF := match len, st with
  | 2, .int x :: r => if i < mx then some (pc + 2, ls1 lv i (.int x), r, h, k, n) else none
  | _, _ => none
theorem o_istore (E : mE p R s m args meth c B D dA M) {i : Nat} {len pc : Nat} {lv : List (Nat × Value)} {st : List Value} {h : mh} {k n : Nat} {f : mF} (hd : decode (mCd M) pc = .ok (.istore i, len)) (hq : q_istore i (mLx M) len pc lv st h k n = some f) (hk : mV p l e R s m args below meth c Q B b D dA (mLx M) f) : mV p l e R s m args below meth c Q B b D dA (mLx M) (pc, lv, st, h, k, n) := by
  unfold q_istore at hq
  split at hq
  · split at hq
    · rename_i x r hc
      cases hq
      intro H locs ls hR hS hl
      exact lv_istore E.1 E.2.1 hd hl hc (ls1_map (v := .int x)) (fun ls hl => hk H locs ls hR hS hl)
    · cases hq
  · cases hq
def q_istore_n (i : Fin 4) (mx : Nat) (len pc : Nat) (lv : List (Nat × Value)) (st : List Value) (h : mh) (k n : Nat) : Option mF := match len, st with
  | 1, .int x :: r => if (i : Nat) < mx then some (pc + 1, ls1 lv (i : Nat) (.int x), r, h, k, n) else none
  | _, _ => none
theorem o_istore_n (E : mE p R s m args meth c B D dA M) {i : Fin 4} {len pc : Nat} {lv : List (Nat × Value)} {st : List Value} {h : mh} {k n : Nat} {f : mF} (hd : decode (mCd M) pc = .ok (.istore_n i, len)) (hq : q_istore_n i (mLx M) len pc lv st h k n = some f) (hk : mV p l e R s m args below meth c Q B b D dA (mLx M) f) : mV p l e R s m args below meth c Q B b D dA (mLx M) (pc, lv, st, h, k, n) := by
  unfold q_istore_n at hq
  split at hq
  · split at hq
    · rename_i x r hc
      cases hq
      intro H locs ls hR hS hl
      exact lv_istore_n E.1 E.2.1 hd rfl hl hc (ls1_map (v := .int x)) (fun ls hl => hk H locs ls hR hS hl)
    · cases hq
  · cases hq
def q_lstore (i : Nat) (mx : Nat) (len pc : Nat) (lv : List (Nat × Value)) (st : List Value) (h : mh) (k n : Nat) : Option mF := match len, st with
  | 2, .long x :: r => if i + 1 < mx then some (pc + 2, ls2 lv i (.long x), r, h, k, n) else none
  | _, _ => none
theorem o_lstore (E : mE p R s m args meth c B D dA M) {i : Nat} {len pc : Nat} {lv : List (Nat × Value)} {st : List Value} {h : mh} {k n : Nat} {f : mF} (hd : decode (mCd M) pc = .ok (.lstore i, len)) (hq : q_lstore i (mLx M) len pc lv st h k n = some f) (hk : mV p l e R s m args below meth c Q B b D dA (mLx M) f) : mV p l e R s m args below meth c Q B b D dA (mLx M) (pc, lv, st, h, k, n) := by
  unfold q_lstore at hq
  split at hq
  · split at hq
    · rename_i x r hc
      cases hq
      intro H locs ls hR hS hl
      exact lv_lstore E.1 E.2.1 hd hl hc (ls2_map (v := .long x)) (fun ls hl => hk H locs ls hR hS hl)
    · cases hq
  · cases hq
def q_lstore_n (i : Fin 4) (mx : Nat) (len pc : Nat) (lv : List (Nat × Value)) (st : List Value) (h : mh) (k n : Nat) : Option mF := match len, st with
  | 1, .long x :: r => if (i : Nat) + 1 < mx then some (pc + 1, ls2 lv (i : Nat) (.long x), r, h, k, n) else none
  | _, _ => none
theorem o_lstore_n (E : mE p R s m args meth c B D dA M) {i : Fin 4} {len pc : Nat} {lv : List (Nat × Value)} {st : List Value} {h : mh} {k n : Nat} {f : mF} (hd : decode (mCd M) pc = .ok (.lstore_n i, len)) (hq : q_lstore_n i (mLx M) len pc lv st h k n = some f) (hk : mV p l e R s m args below meth c Q B b D dA (mLx M) f) : mV p l e R s m args below meth c Q B b D dA (mLx M) (pc, lv, st, h, k, n) := by
  unfold q_lstore_n at hq
  split at hq
  · split at hq
    · rename_i x r hc
      cases hq
      intro H locs ls hR hS hl
      exact lv_lstore_n E.1 E.2.1 hd rfl hl hc (ls2_map (v := .long x)) (fun ls hl => hk H locs ls hR hS hl)
    · cases hq
  · cases hq
def q_astore (i : Nat) (mx : Nat) (len pc : Nat) (lv : List (Nat × Value)) (st : List Value) (h : mh) (k n : Nat) : Option mF := match len, st with
  | 2, .ref x :: r => if i < mx then some (pc + 2, ls1 lv i (.ref x), r, h, k, n) else none
  | _, _ => none
theorem o_astore (E : mE p R s m args meth c B D dA M) {i : Nat} {len pc : Nat} {lv : List (Nat × Value)} {st : List Value} {h : mh} {k n : Nat} {f : mF} (hd : decode (mCd M) pc = .ok (.astore i, len)) (hq : q_astore i (mLx M) len pc lv st h k n = some f) (hk : mV p l e R s m args below meth c Q B b D dA (mLx M) f) : mV p l e R s m args below meth c Q B b D dA (mLx M) (pc, lv, st, h, k, n) := by
  unfold q_astore at hq
  split at hq
  · split at hq
    · rename_i x r hc
      cases hq
      intro H locs ls hR hS hl
      exact lv_astore E.1 E.2.1 hd hl hc (ls1_map (v := .ref x)) (fun ls hl => hk H locs ls hR hS hl)
    · cases hq
  · cases hq
def q_astore_n (i : Fin 4) (mx : Nat) (len pc : Nat) (lv : List (Nat × Value)) (st : List Value) (h : mh) (k n : Nat) : Option mF := match len, st with
  | 1, .ref x :: r => if (i : Nat) < mx then some (pc + 1, ls1 lv (i : Nat) (.ref x), r, h, k, n) else none
  | _, _ => none
theorem o_astore_n (E : mE p R s m args meth c B D dA M) {i : Fin 4} {len pc : Nat} {lv : List (Nat × Value)} {st : List Value} {h : mh} {k n : Nat} {f : mF} (hd : decode (mCd M) pc = .ok (.astore_n i, len)) (hq : q_astore_n i (mLx M) len pc lv st h k n = some f) (hk : mV p l e R s m args below meth c Q B b D dA (mLx M) f) : mV p l e R s m args below meth c Q B b D dA (mLx M) (pc, lv, st, h, k, n) := by
  unfold q_astore_n at hq
  split at hq
  · split at hq
    · rename_i x r hc
      cases hq
      intro H locs ls hR hS hl
      exact lv_astore_n E.1 E.2.1 hd rfl hl hc (ls1_map (v := .ref x)) (fun ls hl => hk H locs ls hR hS hl)
    · cases hq
  · cases hq
def q_iinc (i : Nat) (d : Int) (mx : Nat) (len pc : Nat) (lv : List (Nat × Value)) (st : List Value) (h : mh) (k n : Nat) : Option mF := match len, lget lv i with
  | 3, some (.int x) => if i < mx then some (pc + 3, ls1 lv i (.int (x + Int32.ofInt d)), st, h, k, n) else none
  | _, _ => none
theorem o_iinc (E : mE p R s m args meth c B D dA M) {i : Nat} {d : Int} {len pc : Nat} {lv : List (Nat × Value)} {st : List Value} {h : mh} {k n : Nat} {f : mF} (hd : decode (mCd M) pc = .ok (.iinc i d, len)) (hq : q_iinc i d (mLx M) len pc lv st h k n = some f) (hk : mV p l e R s m args below meth c Q B b D dA (mLx M) f) : mV p l e R s m args below meth c Q B b D dA (mLx M) (pc, lv, st, h, k, n) := by
  unfold q_iinc at hq
  split at hq
  · rename_i x hg
    split at hq
    · rename_i hc
      cases hq
      intro H locs ls hR hS hl
      obtain ⟨j, hj⟩ := lget_ix (B := B) (b := b) hg
      exact lv_iinc E.1 E.2.1 hd hl hj rfl hc (ls1_map (v := .int (x + Int32.ofInt d))) (fun ls hl => hk H locs ls hR hS hl)
    · cases hq
  · cases hq
def q_if_eq (d : Int) (len pc : Nat) (lv : List (Nat × Value)) (st : List Value) (h : mh) (k n : Nat) : Option mF := match len, st with
  | 3, .int x :: r => if (pc : Int) + d < 0 then none else if x = 0 then some (((pc : Int) + d).toNat, lv, r, h, k, n) else some (pc + 3, lv, r, h, k, n)
  | _, _ => none
theorem o_if_eq (E : mE p R s m args meth c B D dA M) {d : Int} {len pc : Nat} {lv : List (Nat × Value)} {st : List Value} {h : mh} {k n : Nat} {f : mF} (hd : decode (mCd M) pc = .ok (.ifCond .eq d, len)) (hq : q_if_eq d len pc lv st h k n = some f) (hk : mV p l e R s m args below meth c Q B b D dA (mLx M) f) : mV p l e R s m args below meth c Q B b D dA (mLx M) (pc, lv, st, h, k, n) := by
  unfold q_if_eq at hq
  split at hq
  · split at hq
    · cases hq
    · intro H locs ls hR hS hl
      refine lv_if_eq (tgt := ((pc : Int) + d).toNat) E.1 E.2.1 hd (by omega) (fun hc => ?_) (fun hc => ?_)
      · rw [if_pos hc] at hq
        cases hq
        exact hk H locs ls hR hS hl
      · rw [if_neg hc] at hq
        cases hq
        exact hk H locs ls hR hS hl
  · cases hq
def q_icmp_eq (d : Int) (len pc : Nat) (lv : List (Nat × Value)) (st : List Value) (h : mh) (k n : Nat) : Option mF := match len, st with
  | 3, .int y :: .int x :: r => if (pc : Int) + d < 0 then none else if x = y then some (((pc : Int) + d).toNat, lv, r, h, k, n) else some (pc + 3, lv, r, h, k, n)
  | _, _ => none
theorem o_icmp_eq (E : mE p R s m args meth c B D dA M) {d : Int} {len pc : Nat} {lv : List (Nat × Value)} {st : List Value} {h : mh} {k n : Nat} {f : mF} (hd : decode (mCd M) pc = .ok (.if_icmp .eq d, len)) (hq : q_icmp_eq d len pc lv st h k n = some f) (hk : mV p l e R s m args below meth c Q B b D dA (mLx M) f) : mV p l e R s m args below meth c Q B b D dA (mLx M) (pc, lv, st, h, k, n) := by
  unfold q_icmp_eq at hq
  split at hq
  · split at hq
    · cases hq
    · intro H locs ls hR hS hl
      refine lv_icmp_eq (tgt := ((pc : Int) + d).toNat) E.1 E.2.1 hd (by omega) (fun hc => ?_) (fun hc => ?_)
      · rw [if_pos hc] at hq
        cases hq
        exact hk H locs ls hR hS hl
      · rw [if_neg hc] at hq
        cases hq
        exact hk H locs ls hR hS hl
  · cases hq
def q_if_ne (d : Int) (len pc : Nat) (lv : List (Nat × Value)) (st : List Value) (h : mh) (k n : Nat) : Option mF := match len, st with
  | 3, .int x :: r => if (pc : Int) + d < 0 then none else if x = 0 then some (pc + 3, lv, r, h, k, n) else some (((pc : Int) + d).toNat, lv, r, h, k, n)
  | _, _ => none
theorem o_if_ne (E : mE p R s m args meth c B D dA M) {d : Int} {len pc : Nat} {lv : List (Nat × Value)} {st : List Value} {h : mh} {k n : Nat} {f : mF} (hd : decode (mCd M) pc = .ok (.ifCond .ne d, len)) (hq : q_if_ne d len pc lv st h k n = some f) (hk : mV p l e R s m args below meth c Q B b D dA (mLx M) f) : mV p l e R s m args below meth c Q B b D dA (mLx M) (pc, lv, st, h, k, n) := by
  unfold q_if_ne at hq
  split at hq
  · split at hq
    · cases hq
    · intro H locs ls hR hS hl
      refine lv_if_ne (tgt := ((pc : Int) + d).toNat) E.1 E.2.1 hd (by omega) (fun hc => ?_) (fun hc => ?_)
      · rw [if_neg hc] at hq
        cases hq
        exact hk H locs ls hR hS hl
      · rw [if_pos hc] at hq
        cases hq
        exact hk H locs ls hR hS hl
  · cases hq
def q_icmp_ne (d : Int) (len pc : Nat) (lv : List (Nat × Value)) (st : List Value) (h : mh) (k n : Nat) : Option mF := match len, st with
  | 3, .int y :: .int x :: r => if (pc : Int) + d < 0 then none else if x = y then some (pc + 3, lv, r, h, k, n) else some (((pc : Int) + d).toNat, lv, r, h, k, n)
  | _, _ => none
theorem o_icmp_ne (E : mE p R s m args meth c B D dA M) {d : Int} {len pc : Nat} {lv : List (Nat × Value)} {st : List Value} {h : mh} {k n : Nat} {f : mF} (hd : decode (mCd M) pc = .ok (.if_icmp .ne d, len)) (hq : q_icmp_ne d len pc lv st h k n = some f) (hk : mV p l e R s m args below meth c Q B b D dA (mLx M) f) : mV p l e R s m args below meth c Q B b D dA (mLx M) (pc, lv, st, h, k, n) := by
  unfold q_icmp_ne at hq
  split at hq
  · split at hq
    · cases hq
    · intro H locs ls hR hS hl
      refine lv_icmp_ne (tgt := ((pc : Int) + d).toNat) E.1 E.2.1 hd (by omega) (fun hc => ?_) (fun hc => ?_)
      · rw [if_neg hc] at hq
        cases hq
        exact hk H locs ls hR hS hl
      · rw [if_pos hc] at hq
        cases hq
        exact hk H locs ls hR hS hl
  · cases hq
def q_if_lt (d : Int) (len pc : Nat) (lv : List (Nat × Value)) (st : List Value) (h : mh) (k n : Nat) : Option mF := match len, st with
  | 3, .int x :: r => if (pc : Int) + d < 0 then none else if x < 0 then some (((pc : Int) + d).toNat, lv, r, h, k, n) else some (pc + 3, lv, r, h, k, n)
  | _, _ => none
theorem o_if_lt (E : mE p R s m args meth c B D dA M) {d : Int} {len pc : Nat} {lv : List (Nat × Value)} {st : List Value} {h : mh} {k n : Nat} {f : mF} (hd : decode (mCd M) pc = .ok (.ifCond .lt d, len)) (hq : q_if_lt d len pc lv st h k n = some f) (hk : mV p l e R s m args below meth c Q B b D dA (mLx M) f) : mV p l e R s m args below meth c Q B b D dA (mLx M) (pc, lv, st, h, k, n) := by
  unfold q_if_lt at hq
  split at hq
  · split at hq
    · cases hq
    · intro H locs ls hR hS hl
      refine lv_if_lt (tgt := ((pc : Int) + d).toNat) E.1 E.2.1 hd (by omega) (fun hc => ?_) (fun hc => ?_)
      · rw [if_pos hc] at hq
        cases hq
        exact hk H locs ls hR hS hl
      · rw [if_neg hc] at hq
        cases hq
        exact hk H locs ls hR hS hl
  · cases hq
def q_icmp_lt (d : Int) (len pc : Nat) (lv : List (Nat × Value)) (st : List Value) (h : mh) (k n : Nat) : Option mF := match len, st with
  | 3, .int y :: .int x :: r => if (pc : Int) + d < 0 then none else if x < y then some (((pc : Int) + d).toNat, lv, r, h, k, n) else some (pc + 3, lv, r, h, k, n)
  | _, _ => none
theorem o_icmp_lt (E : mE p R s m args meth c B D dA M) {d : Int} {len pc : Nat} {lv : List (Nat × Value)} {st : List Value} {h : mh} {k n : Nat} {f : mF} (hd : decode (mCd M) pc = .ok (.if_icmp .lt d, len)) (hq : q_icmp_lt d len pc lv st h k n = some f) (hk : mV p l e R s m args below meth c Q B b D dA (mLx M) f) : mV p l e R s m args below meth c Q B b D dA (mLx M) (pc, lv, st, h, k, n) := by
  unfold q_icmp_lt at hq
  split at hq
  · split at hq
    · cases hq
    · intro H locs ls hR hS hl
      refine lv_icmp_lt (tgt := ((pc : Int) + d).toNat) E.1 E.2.1 hd (by omega) (fun hc => ?_) (fun hc => ?_)
      · rw [if_pos hc] at hq
        cases hq
        exact hk H locs ls hR hS hl
      · rw [if_neg hc] at hq
        cases hq
        exact hk H locs ls hR hS hl
  · cases hq
def q_if_ge (d : Int) (len pc : Nat) (lv : List (Nat × Value)) (st : List Value) (h : mh) (k n : Nat) : Option mF := match len, st with
  | 3, .int x :: r => if (pc : Int) + d < 0 then none else if 0 ≤ x then some (((pc : Int) + d).toNat, lv, r, h, k, n) else some (pc + 3, lv, r, h, k, n)
  | _, _ => none
theorem o_if_ge (E : mE p R s m args meth c B D dA M) {d : Int} {len pc : Nat} {lv : List (Nat × Value)} {st : List Value} {h : mh} {k n : Nat} {f : mF} (hd : decode (mCd M) pc = .ok (.ifCond .ge d, len)) (hq : q_if_ge d len pc lv st h k n = some f) (hk : mV p l e R s m args below meth c Q B b D dA (mLx M) f) : mV p l e R s m args below meth c Q B b D dA (mLx M) (pc, lv, st, h, k, n) := by
  unfold q_if_ge at hq
  split at hq
  · split at hq
    · cases hq
    · intro H locs ls hR hS hl
      refine lv_if_ge (tgt := ((pc : Int) + d).toNat) E.1 E.2.1 hd (by omega) (fun hc => ?_) (fun hc => ?_)
      · rw [if_pos hc] at hq
        cases hq
        exact hk H locs ls hR hS hl
      · rw [if_neg hc] at hq
        cases hq
        exact hk H locs ls hR hS hl
  · cases hq
def q_icmp_ge (d : Int) (len pc : Nat) (lv : List (Nat × Value)) (st : List Value) (h : mh) (k n : Nat) : Option mF := match len, st with
  | 3, .int y :: .int x :: r => if (pc : Int) + d < 0 then none else if y ≤ x then some (((pc : Int) + d).toNat, lv, r, h, k, n) else some (pc + 3, lv, r, h, k, n)
  | _, _ => none
theorem o_icmp_ge (E : mE p R s m args meth c B D dA M) {d : Int} {len pc : Nat} {lv : List (Nat × Value)} {st : List Value} {h : mh} {k n : Nat} {f : mF} (hd : decode (mCd M) pc = .ok (.if_icmp .ge d, len)) (hq : q_icmp_ge d len pc lv st h k n = some f) (hk : mV p l e R s m args below meth c Q B b D dA (mLx M) f) : mV p l e R s m args below meth c Q B b D dA (mLx M) (pc, lv, st, h, k, n) := by
  unfold q_icmp_ge at hq
  split at hq
  · split at hq
    · cases hq
    · intro H locs ls hR hS hl
      refine lv_icmp_ge (tgt := ((pc : Int) + d).toNat) E.1 E.2.1 hd (by omega) (fun hc => ?_) (fun hc => ?_)
      · rw [if_pos hc] at hq
        cases hq
        exact hk H locs ls hR hS hl
      · rw [if_neg hc] at hq
        cases hq
        exact hk H locs ls hR hS hl
  · cases hq
def q_if_gt (d : Int) (len pc : Nat) (lv : List (Nat × Value)) (st : List Value) (h : mh) (k n : Nat) : Option mF := match len, st with
  | 3, .int x :: r => if (pc : Int) + d < 0 then none else if 0 < x then some (((pc : Int) + d).toNat, lv, r, h, k, n) else some (pc + 3, lv, r, h, k, n)
  | _, _ => none
theorem o_if_gt (E : mE p R s m args meth c B D dA M) {d : Int} {len pc : Nat} {lv : List (Nat × Value)} {st : List Value} {h : mh} {k n : Nat} {f : mF} (hd : decode (mCd M) pc = .ok (.ifCond .gt d, len)) (hq : q_if_gt d len pc lv st h k n = some f) (hk : mV p l e R s m args below meth c Q B b D dA (mLx M) f) : mV p l e R s m args below meth c Q B b D dA (mLx M) (pc, lv, st, h, k, n) := by
  unfold q_if_gt at hq
  split at hq
  · split at hq
    · cases hq
    · intro H locs ls hR hS hl
      refine lv_if_gt (tgt := ((pc : Int) + d).toNat) E.1 E.2.1 hd (by omega) (fun hc => ?_) (fun hc => ?_)
      · rw [if_pos hc] at hq
        cases hq
        exact hk H locs ls hR hS hl
      · rw [if_neg hc] at hq
        cases hq
        exact hk H locs ls hR hS hl
  · cases hq
def q_icmp_gt (d : Int) (len pc : Nat) (lv : List (Nat × Value)) (st : List Value) (h : mh) (k n : Nat) : Option mF := match len, st with
  | 3, .int y :: .int x :: r => if (pc : Int) + d < 0 then none else if y < x then some (((pc : Int) + d).toNat, lv, r, h, k, n) else some (pc + 3, lv, r, h, k, n)
  | _, _ => none
theorem o_icmp_gt (E : mE p R s m args meth c B D dA M) {d : Int} {len pc : Nat} {lv : List (Nat × Value)} {st : List Value} {h : mh} {k n : Nat} {f : mF} (hd : decode (mCd M) pc = .ok (.if_icmp .gt d, len)) (hq : q_icmp_gt d len pc lv st h k n = some f) (hk : mV p l e R s m args below meth c Q B b D dA (mLx M) f) : mV p l e R s m args below meth c Q B b D dA (mLx M) (pc, lv, st, h, k, n) := by
  unfold q_icmp_gt at hq
  split at hq
  · split at hq
    · cases hq
    · intro H locs ls hR hS hl
      refine lv_icmp_gt (tgt := ((pc : Int) + d).toNat) E.1 E.2.1 hd (by omega) (fun hc => ?_) (fun hc => ?_)
      · rw [if_pos hc] at hq
        cases hq
        exact hk H locs ls hR hS hl
      · rw [if_neg hc] at hq
        cases hq
        exact hk H locs ls hR hS hl
  · cases hq
def q_if_le (d : Int) (len pc : Nat) (lv : List (Nat × Value)) (st : List Value) (h : mh) (k n : Nat) : Option mF := match len, st with
  | 3, .int x :: r => if (pc : Int) + d < 0 then none else if x ≤ 0 then some (((pc : Int) + d).toNat, lv, r, h, k, n) else some (pc + 3, lv, r, h, k, n)
  | _, _ => none
theorem o_if_le (E : mE p R s m args meth c B D dA M) {d : Int} {len pc : Nat} {lv : List (Nat × Value)} {st : List Value} {h : mh} {k n : Nat} {f : mF} (hd : decode (mCd M) pc = .ok (.ifCond .le d, len)) (hq : q_if_le d len pc lv st h k n = some f) (hk : mV p l e R s m args below meth c Q B b D dA (mLx M) f) : mV p l e R s m args below meth c Q B b D dA (mLx M) (pc, lv, st, h, k, n) := by
  unfold q_if_le at hq
  split at hq
  · split at hq
    · cases hq
    · intro H locs ls hR hS hl
      refine lv_if_le (tgt := ((pc : Int) + d).toNat) E.1 E.2.1 hd (by omega) (fun hc => ?_) (fun hc => ?_)
      · rw [if_pos hc] at hq
        cases hq
        exact hk H locs ls hR hS hl
      · rw [if_neg hc] at hq
        cases hq
        exact hk H locs ls hR hS hl
  · cases hq
def q_icmp_le (d : Int) (len pc : Nat) (lv : List (Nat × Value)) (st : List Value) (h : mh) (k n : Nat) : Option mF := match len, st with
  | 3, .int y :: .int x :: r => if (pc : Int) + d < 0 then none else if x ≤ y then some (((pc : Int) + d).toNat, lv, r, h, k, n) else some (pc + 3, lv, r, h, k, n)
  | _, _ => none
theorem o_icmp_le (E : mE p R s m args meth c B D dA M) {d : Int} {len pc : Nat} {lv : List (Nat × Value)} {st : List Value} {h : mh} {k n : Nat} {f : mF} (hd : decode (mCd M) pc = .ok (.if_icmp .le d, len)) (hq : q_icmp_le d len pc lv st h k n = some f) (hk : mV p l e R s m args below meth c Q B b D dA (mLx M) f) : mV p l e R s m args below meth c Q B b D dA (mLx M) (pc, lv, st, h, k, n) := by
  unfold q_icmp_le at hq
  split at hq
  · split at hq
    · cases hq
    · intro H locs ls hR hS hl
      refine lv_icmp_le (tgt := ((pc : Int) + d).toNat) E.1 E.2.1 hd (by omega) (fun hc => ?_) (fun hc => ?_)
      · rw [if_pos hc] at hq
        cases hq
        exact hk H locs ls hR hS hl
      · rw [if_neg hc] at hq
        cases hq
        exact hk H locs ls hR hS hl
  · cases hq
def q_goto (d : Int) (len pc : Nat) (lv : List (Nat × Value)) (st : List Value) (h : mh) (k n : Nat) : Option mF := if len = 3 then (if (pc : Int) + d < 0 then none else some (((pc : Int) + d).toNat, lv, st, h, k, n)) else none
theorem o_goto (E : mE p R s m args meth c B D dA M) {d : Int} {len pc : Nat} {lv : List (Nat × Value)} {st : List Value} {h : mh} {k n : Nat} {f : mF} (hd : decode (mCd M) pc = .ok (.goto d, len)) (hq : q_goto d len pc lv st h k n = some f) (hk : mV p l e R s m args below meth c Q B b D dA (mLx M) f) : mV p l e R s m args below meth c Q B b D dA (mLx M) (pc, lv, st, h, k, n) := by
  unfold q_goto at hq
  split at hq
  · rename_i hc
    subst hc
    split at hq
    · cases hq
    · cases hq
      intro H locs ls hR hS hl
      exact lv_goto (tgt := ((pc : Int) + d).toNat) E.1 E.2.1 hd (by omega) (hk H locs ls hR hS hl)
  · cases hq
def q_tabsw (df lo hi : Int) (offs : Array Int) (len pc : Nat) (lv : List (Nat × Value)) (st : List Value) (h : mh) (k n : Nat) : Option mF := match st with
  | .int x :: r => if x.toInt < lo ∨ hi < x.toInt then (if (pc : Int) + df < 0 then none else some (((pc : Int) + df).toNat, lv, r, h, k, n)) else (match offs[(x.toInt - lo).toNat]? with
    | some d => if (pc : Int) + d < 0 then none else some (((pc : Int) + d).toNat, lv, r, h, k, n)
    | none => none)
  | _ => none
theorem o_tabsw (E : mE p R s m args meth c B D dA M) {df lo hi : Int} {offs : Array Int} {len pc : Nat} {lv : List (Nat × Value)} {st : List Value} {h : mh} {k n : Nat} {f : mF} (hd : decode (mCd M) pc = .ok (.tableswitch df lo hi offs, len)) (hq : q_tabsw df lo hi offs len pc lv st h k n = some f) (hk : mV p l e R s m args below meth c Q B b D dA (mLx M) f) : mV p l e R s m args below meth c Q B b D dA (mLx M) (pc, lv, st, h, k, n) := by
  unfold q_tabsw at hq
  split at hq
  · split at hq
    · rename_i hc
      split at hq
      · cases hq
      · cases hq
        intro H locs ls hR hS hl
        exact lv_tableOut (tgt := ((pc : Int) + df).toNat) E.1 E.2.1 hd hc (by omega) (hk H locs ls hR hS hl)
    · rename_i hc
      split at hq
      · rename_i d hd2
        split at hq
        · cases hq
        · cases hq
          intro H locs ls hR hS hl
          exact lv_tableIn (tgt := ((pc : Int) + d).toNat) E.1 E.2.1 hd (fun z => hc (Or.inl z)) (fun z => hc (Or.inr z)) hd2 (by omega) (hk H locs ls hR hS hl)
      · cases hq
  · cases hq
end MV
end
section
theorem cl_at : ∀ {i : Nat}, i < 8 → vwCl[i]? = some (cN i, cT i, cF i)
  | 0, _ => rfl
  | 1, _ => rfl
  | 2, _ => rfl
  | 3, _ => rfl
  | 4, _ => rfl
  | 5, _ => rfl
  | 6, _ => rfl
  | 7, _ => rfl
  | n + 8, h => absurd h (by omega)
theorem cl_in : ∀ {i : Nat}, i < 8 → ∀ w ∈ u_ws (cN i) (cT i) (cF i), w ∈ lw_tbl
  | 0, _ => inX0
  | 1, _ => inX1
  | 2, _ => inX2
  | 3, _ => inX3
  | 4, _ => inX4
  | 5, _ => inX5
  | 6, _ => inX6
  | 7, _ => inX7
  | n + 8, h => absurd h (by omega)
theorem cl_ty : ∀ {i : Nat}, i < 8 → ∀ k, k < cF i → parseFieldDescriptor (cT i k).2.2.1 = some (cY i k)
  | 0, _ => tyX0_ok
  | 1, _ => tyX1_ok
  | 2, _ => tyX2_ok
  | 3, _ => tyX3_ok
  | 4, _ => tyX4_ok
  | 5, _ => tyX5_ok
  | 6, _ => tyX6_ok
  | 7, _ => tyX7_ok
  | n + 8, h => absurd h (by omega)
theorem cl_nm : ∀ {i : Nat}, i < 8 → ∀ a, a < cF i → ∀ b, b < cF i → a ≠ b → (cT i a).2.1 ≠ (cT i b).2.1
  | 0, _ => nmX0
  | 1, _ => nmX1
  | 2, _ => nmX2
  | 3, _ => nmX3
  | 4, _ => nmX4
  | 5, _ => nmX5
  | 6, _ => nmX6
  | 7, _ => nmX7
  | n + 8, h => absurd h (by omega)
theorem dcX0 : ∀ k, k < cF 0 → (cT 0 k).1 = cN 0 := by decide +kernel
theorem dcX1 : ∀ k, k < cF 1 → (cT 1 k).1 = cN 1 := by decide +kernel
theorem dcX2 : ∀ k, k < cF 2 → (cT 2 k).1 = cN 2 := by decide +kernel
theorem dcX3 : ∀ k, k < cF 3 → (cT 3 k).1 = cN 3 := by decide +kernel
theorem dcX4 : ∀ k, k < cF 4 → (cT 4 k).1 = cN 4 := by decide +kernel
theorem dcX5 : ∀ k, k < cF 5 → (cT 5 k).1 = cN 5 := by decide +kernel
theorem dcX6 : ∀ k, k < cF 6 → (cT 6 k).1 = cN 6 := by decide +kernel
theorem dcX7 : ∀ k, k < cF 7 → (cT 7 k).1 = cN 7 := by decide +kernel
theorem cl_dc : ∀ {i : Nat}, i < 8 → ∀ k, k < cF i → (cT i k).1 = cN i
  | 0, _ => dcX0
  | 1, _ => dcX1
  | 2, _ => dcX2
  | 3, _ => dcX3
  | 4, _ => dcX4
  | 5, _ => dcX5
  | 6, _ => dcX6
  | 7, _ => dcX7
  | n + 8, h => absurd h (by omega)
def asc {α : Type} : List (Nat × α) → Nat → Option α
  | [], _ => none
  | q :: r, i => if q.1 = i then some q.2 else asc r i
theorem asc_mem {α : Type} {i : Nat} {v : α} : ∀ {l : List (Nat × α)}, asc l i = some v → (i, v) ∈ l
  | [], h => by cases h
  | q :: r, h => by
    unfold asc at h
    split at h
    · cases h; rename_i hq; subst hq; exact List.mem_cons_self
    · exact List.mem_cons_of_mem _ (asc_mem h)
def fP (o : Nat) (q : Nat × Nat × Nat) : Prop := q.2.1 < 8 ∧ q.2.2 < cF q.2.1 ∧ Cond.fieldLink (cN o) q.1 (cT q.2.1 q.2.2).1 (cT q.2.1 q.2.2).2.1 (cT q.2.1 q.2.2).2.2.1 ∈ lw_tbl
theorem fp_0_86 : fP 0 (86, 3, 0) := ⟨by decide, by decide, List.mem_append_right _ (List.mem_of_getElem? (i := 39) (by decide +kernel))⟩
theorem fp_0_89 : fP 0 (89, 3, 1) := ⟨by decide, by decide, List.mem_append_right _ (List.mem_of_getElem? (i := 45) (by decide +kernel))⟩
theorem fp_0_92 : fP 0 (92, 3, 2) := ⟨by decide, by decide, List.mem_append_right _ (List.mem_of_getElem? (i := 51) (by decide +kernel))⟩
theorem fp_0_95 : fP 0 (95, 3, 3) := ⟨by decide, by decide, List.mem_append_right _ (List.mem_of_getElem? (i := 57) (by decide +kernel))⟩
theorem fp_0_53 : fP 0 (53, 4, 1) := ⟨by decide, by decide, List.mem_append_right _ (List.mem_of_getElem? (i := 78) (by decide +kernel))⟩
theorem fp_0_9 : fP 0 (9, 0, 0) := ⟨by decide, by decide, List.mem_append_right _ (List.mem_of_getElem? (i := 84) (by decide +kernel))⟩
theorem fp_0_20 : fP 0 (20, 0, 1) := ⟨by decide, by decide, List.mem_append_right _ (List.mem_of_getElem? (i := 87) (by decide +kernel))⟩
theorem fp_0_24 : fP 0 (24, 0, 2) := ⟨by decide, by decide, List.mem_append_right _ (List.mem_of_getElem? (i := 90) (by decide +kernel))⟩
theorem fp_0_27 : fP 0 (27, 0, 3) := ⟨by decide, by decide, List.mem_append_right _ (List.mem_of_getElem? (i := 92) (by decide +kernel))⟩
theorem fp_0_31 : fP 0 (31, 0, 4) := ⟨by decide, by decide, List.mem_append_right _ (List.mem_of_getElem? (i := 94) (by decide +kernel))⟩
theorem fp_0_34 : fP 0 (34, 0, 5) := ⟨by decide, by decide, List.mem_append_right _ (List.mem_of_getElem? (i := 96) (by decide +kernel))⟩
theorem fp_0_37 : fP 0 (37, 0, 6) := ⟨by decide, by decide, List.mem_append_right _ (List.mem_of_getElem? (i := 98) (by decide +kernel))⟩
theorem fp_0_40 : fP 0 (40, 0, 7) := ⟨by decide, by decide, List.mem_append_right _ (List.mem_of_getElem? (i := 100) (by decide +kernel))⟩
theorem fp_0_46 : fP 0 (46, 0, 8) := ⟨by decide, by decide, List.mem_append_right _ (List.mem_of_getElem? (i := 102) (by decide +kernel))⟩
def fL_0_0 : List (Nat × Nat × Nat) := [(86, 3, 0), (89, 3, 1), (92, 3, 2), (95, 3, 3), (53, 4, 1), (9, 0, 0), (20, 0, 1), (24, 0, 2), (27, 0, 3), (31, 0, 4), (34, 0, 5), (37, 0, 6), (40, 0, 7), (46, 0, 8)]
theorem fK_0_0 : ∀ q ∈ fL_0_0, fP 0 q := List.forall_mem_cons.mpr ⟨fp_0_86, List.forall_mem_cons.mpr ⟨fp_0_89, List.forall_mem_cons.mpr ⟨fp_0_92, List.forall_mem_cons.mpr ⟨fp_0_95, List.forall_mem_cons.mpr ⟨fp_0_53, List.forall_mem_cons.mpr ⟨fp_0_9, List.forall_mem_cons.mpr ⟨fp_0_20, List.forall_mem_cons.mpr ⟨fp_0_24, List.forall_mem_cons.mpr ⟨fp_0_27, List.forall_mem_cons.mpr ⟨fp_0_31, List.forall_mem_cons.mpr ⟨fp_0_34, List.forall_mem_cons.mpr ⟨fp_0_37, List.forall_mem_cons.mpr ⟨fp_0_40, List.forall_mem_cons.mpr ⟨fp_0_46, fun _ h => absurd h List.not_mem_nil⟩⟩⟩⟩⟩⟩⟩⟩⟩⟩⟩⟩⟩⟩
def fL_0 : List (Nat × Nat × Nat) := fL_0_0
theorem fK_0 : ∀ q ∈ fL_0, fP 0 q := fK_0_0
theorem fp_1_63 : fP 1 (63, 3, 1) := ⟨by decide, by decide, List.mem_append_right _ (List.mem_of_getElem? (i := 42) (by decide +kernel))⟩
theorem fp_1_64 : fP 1 (64, 3, 2) := ⟨by decide, by decide, List.mem_append_right _ (List.mem_of_getElem? (i := 49) (by decide +kernel))⟩
theorem fp_1_65 : fP 1 (65, 3, 3) := ⟨by decide, by decide, List.mem_append_right _ (List.mem_of_getElem? (i := 55) (by decide +kernel))⟩
theorem fp_1_9 : fP 1 (9, 1, 0) := ⟨by decide, by decide, List.mem_append_right _ (List.mem_of_getElem? (i := 198) (by decide +kernel))⟩
theorem fp_1_15 : fP 1 (15, 1, 1) := ⟨by decide, by decide, List.mem_append_right _ (List.mem_of_getElem? (i := 200) (by decide +kernel))⟩
theorem fp_1_18 : fP 1 (18, 1, 2) := ⟨by decide, by decide, List.mem_append_right _ (List.mem_of_getElem? (i := 202) (by decide +kernel))⟩
theorem fp_1_22 : fP 1 (22, 1, 3) := ⟨by decide, by decide, List.mem_append_right _ (List.mem_of_getElem? (i := 203) (by decide +kernel))⟩
theorem fp_1_26 : fP 1 (26, 1, 4) := ⟨by decide, by decide, List.mem_append_right _ (List.mem_of_getElem? (i := 204) (by decide +kernel))⟩
theorem fp_1_29 : fP 1 (29, 1, 5) := ⟨by decide, by decide, List.mem_append_right _ (List.mem_of_getElem? (i := 205) (by decide +kernel))⟩
theorem fp_1_32 : fP 1 (32, 1, 6) := ⟨by decide, by decide, List.mem_append_right _ (List.mem_of_getElem? (i := 206) (by decide +kernel))⟩
theorem fp_1_35 : fP 1 (35, 1, 7) := ⟨by decide, by decide, List.mem_append_right _ (List.mem_of_getElem? (i := 207) (by decide +kernel))⟩
theorem fp_1_38 : fP 1 (38, 1, 8) := ⟨by decide, by decide, List.mem_append_right _ (List.mem_of_getElem? (i := 208) (by decide +kernel))⟩
theorem fp_1_41 : fP 1 (41, 1, 9) := ⟨by decide, by decide, List.mem_append_right _ (List.mem_of_getElem? (i := 209) (by decide +kernel))⟩
def fL_1_0 : List (Nat × Nat × Nat) := [(63, 3, 1), (64, 3, 2), (65, 3, 3), (9, 1, 0), (15, 1, 1), (18, 1, 2), (22, 1, 3), (26, 1, 4), (29, 1, 5), (32, 1, 6), (35, 1, 7), (38, 1, 8), (41, 1, 9)]
theorem fK_1_0 : ∀ q ∈ fL_1_0, fP 1 q := List.forall_mem_cons.mpr ⟨fp_1_63, List.forall_mem_cons.mpr ⟨fp_1_64, List.forall_mem_cons.mpr ⟨fp_1_65, List.forall_mem_cons.mpr ⟨fp_1_9, List.forall_mem_cons.mpr ⟨fp_1_15, List.forall_mem_cons.mpr ⟨fp_1_18, List.forall_mem_cons.mpr ⟨fp_1_22, List.forall_mem_cons.mpr ⟨fp_1_26, List.forall_mem_cons.mpr ⟨fp_1_29, List.forall_mem_cons.mpr ⟨fp_1_32, List.forall_mem_cons.mpr ⟨fp_1_35, List.forall_mem_cons.mpr ⟨fp_1_38, List.forall_mem_cons.mpr ⟨fp_1_41, fun _ h => absurd h List.not_mem_nil⟩⟩⟩⟩⟩⟩⟩⟩⟩⟩⟩⟩⟩
def fL_1 : List (Nat × Nat × Nat) := fL_1_0
theorem fK_1 : ∀ q ∈ fL_1, fP 1 q := fK_1_0
theorem fp_2_44 : fP 2 (44, 3, 0) := ⟨by decide, by decide, List.mem_append_right _ (List.mem_of_getElem? (i := 37) (by decide +kernel))⟩
theorem fp_2_84 : fP 2 (84, 3, 1) := ⟨by decide, by decide, List.mem_append_right _ (List.mem_of_getElem? (i := 44) (by decide +kernel))⟩
theorem fp_2_87 : fP 2 (87, 3, 2) := ⟨by decide, by decide, List.mem_append_right _ (List.mem_of_getElem? (i := 50) (by decide +kernel))⟩
theorem fp_2_90 : fP 2 (90, 3, 3) := ⟨by decide, by decide, List.mem_append_right _ (List.mem_of_getElem? (i := 56) (by decide +kernel))⟩
theorem fp_2_144 : fP 2 (144, 0, 0) := ⟨by decide, by decide, List.mem_append_right _ (List.mem_of_getElem? (i := 86) (by decide +kernel))⟩
theorem fp_2_147 : fP 2 (147, 0, 1) := ⟨by decide, by decide, List.mem_append_right _ (List.mem_of_getElem? (i := 89) (by decide +kernel))⟩
theorem fp_2_69 : fP 2 (69, 5, 0) := ⟨by decide, by decide, List.mem_append_right _ (List.mem_of_getElem? (i := 139) (by decide +kernel))⟩
theorem fp_2_152 : fP 2 (152, 5, 1) := ⟨by decide, by decide, List.mem_append_right _ (List.mem_of_getElem? (i := 141) (by decide +kernel))⟩
theorem fp_2_130 : fP 2 (130, 5, 3) := ⟨by decide, by decide, List.mem_append_right _ (List.mem_of_getElem? (i := 144) (by decide +kernel))⟩
theorem fp_2_137 : fP 2 (137, 5, 4) := ⟨by decide, by decide, List.mem_append_right _ (List.mem_of_getElem? (i := 146) (by decide +kernel))⟩
theorem fp_2_12 : fP 2 (12, 2, 0) := ⟨by decide, by decide, List.mem_append_right _ (List.mem_of_getElem? (i := 170) (by decide +kernel))⟩
theorem fp_2_18 : fP 2 (18, 2, 1) := ⟨by decide, by decide, List.mem_append_right _ (List.mem_of_getElem? (i := 171) (by decide +kernel))⟩
theorem fp_2_22 : fP 2 (22, 2, 2) := ⟨by decide, by decide, List.mem_append_right _ (List.mem_of_getElem? (i := 172) (by decide +kernel))⟩
theorem fp_2_26 : fP 2 (26, 2, 3) := ⟨by decide, by decide, List.mem_append_right _ (List.mem_of_getElem? (i := 173) (by decide +kernel))⟩
theorem fp_2_30 : fP 2 (30, 2, 4) := ⟨by decide, by decide, List.mem_append_right _ (List.mem_of_getElem? (i := 174) (by decide +kernel))⟩
theorem fp_2_33 : fP 2 (33, 2, 5) := ⟨by decide, by decide, List.mem_append_right _ (List.mem_of_getElem? (i := 175) (by decide +kernel))⟩
def fL_2_0 : List (Nat × Nat × Nat) := [(44, 3, 0), (84, 3, 1), (87, 3, 2), (90, 3, 3), (144, 0, 0), (147, 0, 1), (69, 5, 0), (152, 5, 1), (130, 5, 3), (137, 5, 4), (12, 2, 0), (18, 2, 1), (22, 2, 2), (26, 2, 3), (30, 2, 4), (33, 2, 5)]
theorem fK_2_0 : ∀ q ∈ fL_2_0, fP 2 q := List.forall_mem_cons.mpr ⟨fp_2_44, List.forall_mem_cons.mpr ⟨fp_2_84, List.forall_mem_cons.mpr ⟨fp_2_87, List.forall_mem_cons.mpr ⟨fp_2_90, List.forall_mem_cons.mpr ⟨fp_2_144, List.forall_mem_cons.mpr ⟨fp_2_147, List.forall_mem_cons.mpr ⟨fp_2_69, List.forall_mem_cons.mpr ⟨fp_2_152, List.forall_mem_cons.mpr ⟨fp_2_130, List.forall_mem_cons.mpr ⟨fp_2_137, List.forall_mem_cons.mpr ⟨fp_2_12, List.forall_mem_cons.mpr ⟨fp_2_18, List.forall_mem_cons.mpr ⟨fp_2_22, List.forall_mem_cons.mpr ⟨fp_2_26, List.forall_mem_cons.mpr ⟨fp_2_30, List.forall_mem_cons.mpr ⟨fp_2_33, fun _ h => absurd h List.not_mem_nil⟩⟩⟩⟩⟩⟩⟩⟩⟩⟩⟩⟩⟩⟩⟩⟩
theorem fp_2_36 : fP 2 (36, 2, 6) := ⟨by decide, by decide, List.mem_append_right _ (List.mem_of_getElem? (i := 176) (by decide +kernel))⟩
def fL_2_1 : List (Nat × Nat × Nat) := [(36, 2, 6)]
theorem fK_2_1 : ∀ q ∈ fL_2_1, fP 2 q := List.forall_mem_cons.mpr ⟨fp_2_36, fun _ h => absurd h List.not_mem_nil⟩
def fL_2 : List (Nat × Nat × Nat) := fL_2_0 ++ (fL_2_1)
theorem fK_2 : ∀ q ∈ fL_2, fP 2 q := List.forall_mem_append.mpr ⟨fK_2_0, fK_2_1⟩
theorem fp_3_7 : fP 3 (7, 3, 0) := ⟨by decide, by decide, List.mem_append_right _ (List.mem_of_getElem? (i := 36) (by decide +kernel))⟩
theorem fp_3_13 : fP 3 (13, 3, 1) := ⟨by decide, by decide, List.mem_append_right _ (List.mem_of_getElem? (i := 41) (by decide +kernel))⟩
theorem fp_3_17 : fP 3 (17, 3, 2) := ⟨by decide, by decide, List.mem_append_right _ (List.mem_of_getElem? (i := 47) (by decide +kernel))⟩
theorem fp_3_20 : fP 3 (20, 3, 3) := ⟨by decide, by decide, List.mem_append_right _ (List.mem_of_getElem? (i := 53) (by decide +kernel))⟩
def fL_3_0 : List (Nat × Nat × Nat) := [(7, 3, 0), (13, 3, 1), (17, 3, 2), (20, 3, 3)]
theorem fK_3_0 : ∀ q ∈ fL_3_0, fP 3 q := List.forall_mem_cons.mpr ⟨fp_3_7, List.forall_mem_cons.mpr ⟨fp_3_13, List.forall_mem_cons.mpr ⟨fp_3_17, List.forall_mem_cons.mpr ⟨fp_3_20, fun _ h => absurd h List.not_mem_nil⟩⟩⟩⟩
def fL_3 : List (Nat × Nat × Nat) := fL_3_0
theorem fK_3 : ∀ q ∈ fL_3, fP 3 q := fK_3_0
theorem fp_4_9 : fP 4 (9, 4, 0) := ⟨by decide, by decide, List.mem_append_right _ (List.mem_of_getElem? (i := 76) (by decide +kernel))⟩
theorem fp_4_15 : fP 4 (15, 4, 1) := ⟨by decide, by decide, List.mem_append_right _ (List.mem_of_getElem? (i := 77) (by decide +kernel))⟩
def fL_4_0 : List (Nat × Nat × Nat) := [(9, 4, 0), (15, 4, 1)]
theorem fK_4_0 : ∀ q ∈ fL_4_0, fP 4 q := List.forall_mem_cons.mpr ⟨fp_4_9, List.forall_mem_cons.mpr ⟨fp_4_15, fun _ h => absurd h List.not_mem_nil⟩⟩
def fL_4 : List (Nat × Nat × Nat) := fL_4_0
theorem fK_4 : ∀ q ∈ fL_4, fP 4 q := fK_4_0
theorem fp_5_77 : fP 5 (77, 3, 0) := ⟨by decide, by decide, List.mem_append_right _ (List.mem_of_getElem? (i := 40) (by decide +kernel))⟩
theorem fp_5_54 : fP 5 (54, 3, 1) := ⟨by decide, by decide, List.mem_append_right _ (List.mem_of_getElem? (i := 43) (by decide +kernel))⟩
theorem fp_5_57 : fP 5 (57, 3, 2) := ⟨by decide, by decide, List.mem_append_right _ (List.mem_of_getElem? (i := 48) (by decide +kernel))⟩
theorem fp_5_60 : fP 5 (60, 3, 3) := ⟨by decide, by decide, List.mem_append_right _ (List.mem_of_getElem? (i := 54) (by decide +kernel))⟩
theorem fp_5_16 : fP 5 (16, 5, 0) := ⟨by decide, by decide, List.mem_append_right _ (List.mem_of_getElem? (i := 138) (by decide +kernel))⟩
theorem fp_5_20 : fP 5 (20, 5, 1) := ⟨by decide, by decide, List.mem_append_right _ (List.mem_of_getElem? (i := 140) (by decide +kernel))⟩
theorem fp_5_24 : fP 5 (24, 5, 2) := ⟨by decide, by decide, List.mem_append_right _ (List.mem_of_getElem? (i := 142) (by decide +kernel))⟩
theorem fp_5_28 : fP 5 (28, 5, 3) := ⟨by decide, by decide, List.mem_append_right _ (List.mem_of_getElem? (i := 143) (by decide +kernel))⟩
theorem fp_5_31 : fP 5 (31, 5, 4) := ⟨by decide, by decide, List.mem_append_right _ (List.mem_of_getElem? (i := 145) (by decide +kernel))⟩
theorem fp_5_35 : fP 5 (35, 5, 5) := ⟨by decide, by decide, List.mem_append_right _ (List.mem_of_getElem? (i := 147) (by decide +kernel))⟩
theorem fp_5_38 : fP 5 (38, 5, 6) := ⟨by decide, by decide, List.mem_append_right _ (List.mem_of_getElem? (i := 148) (by decide +kernel))⟩
theorem fp_5_41 : fP 5 (41, 5, 7) := ⟨by decide, by decide, List.mem_append_right _ (List.mem_of_getElem? (i := 149) (by decide +kernel))⟩
theorem fp_5_44 : fP 5 (44, 5, 8) := ⟨by decide, by decide, List.mem_append_right _ (List.mem_of_getElem? (i := 150) (by decide +kernel))⟩
def fL_5_0 : List (Nat × Nat × Nat) := [(77, 3, 0), (54, 3, 1), (57, 3, 2), (60, 3, 3), (16, 5, 0), (20, 5, 1), (24, 5, 2), (28, 5, 3), (31, 5, 4), (35, 5, 5), (38, 5, 6), (41, 5, 7), (44, 5, 8)]
theorem fK_5_0 : ∀ q ∈ fL_5_0, fP 5 q := List.forall_mem_cons.mpr ⟨fp_5_77, List.forall_mem_cons.mpr ⟨fp_5_54, List.forall_mem_cons.mpr ⟨fp_5_57, List.forall_mem_cons.mpr ⟨fp_5_60, List.forall_mem_cons.mpr ⟨fp_5_16, List.forall_mem_cons.mpr ⟨fp_5_20, List.forall_mem_cons.mpr ⟨fp_5_24, List.forall_mem_cons.mpr ⟨fp_5_28, List.forall_mem_cons.mpr ⟨fp_5_31, List.forall_mem_cons.mpr ⟨fp_5_35, List.forall_mem_cons.mpr ⟨fp_5_38, List.forall_mem_cons.mpr ⟨fp_5_41, List.forall_mem_cons.mpr ⟨fp_5_44, fun _ h => absurd h List.not_mem_nil⟩⟩⟩⟩⟩⟩⟩⟩⟩⟩⟩⟩⟩
def fL_5 : List (Nat × Nat × Nat) := fL_5_0
theorem fK_5 : ∀ q ∈ fL_5, fP 5 q := fK_5_0
theorem fp_6_108 : fP 6 (108, 3, 0) := ⟨by decide, by decide, List.mem_append_right _ (List.mem_of_getElem? (i := 38) (by decide +kernel))⟩
theorem fp_6_117 : fP 6 (117, 3, 1) := ⟨by decide, by decide, List.mem_append_right _ (List.mem_of_getElem? (i := 46) (by decide +kernel))⟩
theorem fp_6_120 : fP 6 (120, 3, 2) := ⟨by decide, by decide, List.mem_append_right _ (List.mem_of_getElem? (i := 52) (by decide +kernel))⟩
theorem fp_6_123 : fP 6 (123, 3, 3) := ⟨by decide, by decide, List.mem_append_right _ (List.mem_of_getElem? (i := 58) (by decide +kernel))⟩
theorem fp_6_105 : fP 6 (105, 0, 0) := ⟨by decide, by decide, List.mem_append_right _ (List.mem_of_getElem? (i := 85) (by decide +kernel))⟩
theorem fp_6_98 : fP 6 (98, 0, 1) := ⟨by decide, by decide, List.mem_append_right _ (List.mem_of_getElem? (i := 88) (by decide +kernel))⟩
theorem fp_6_114 : fP 6 (114, 0, 2) := ⟨by decide, by decide, List.mem_append_right _ (List.mem_of_getElem? (i := 91) (by decide +kernel))⟩
theorem fp_6_131 : fP 6 (131, 0, 3) := ⟨by decide, by decide, List.mem_append_right _ (List.mem_of_getElem? (i := 93) (by decide +kernel))⟩
theorem fp_6_134 : fP 6 (134, 0, 4) := ⟨by decide, by decide, List.mem_append_right _ (List.mem_of_getElem? (i := 95) (by decide +kernel))⟩
theorem fp_6_141 : fP 6 (141, 0, 5) := ⟨by decide, by decide, List.mem_append_right _ (List.mem_of_getElem? (i := 97) (by decide +kernel))⟩
theorem fp_6_111 : fP 6 (111, 0, 6) := ⟨by decide, by decide, List.mem_append_right _ (List.mem_of_getElem? (i := 99) (by decide +kernel))⟩
theorem fp_6_126 : fP 6 (126, 0, 7) := ⟨by decide, by decide, List.mem_append_right _ (List.mem_of_getElem? (i := 101) (by decide +kernel))⟩
theorem fp_6_184 : fP 6 (184, 0, 8) := ⟨by decide, by decide, List.mem_append_right _ (List.mem_of_getElem? (i := 103) (by decide +kernel))⟩
theorem fp_6_191 : fP 6 (191, 1, 0) := ⟨by decide, by decide, List.mem_append_right _ (List.mem_of_getElem? (i := 199) (by decide +kernel))⟩
theorem fp_6_195 : fP 6 (195, 1, 1) := ⟨by decide, by decide, List.mem_append_right _ (List.mem_of_getElem? (i := 201) (by decide +kernel))⟩
theorem fp_6_11 : fP 6 (11, 6, 0) := ⟨by decide, by decide, List.mem_append_right _ (List.mem_of_getElem? (i := 237) (by decide +kernel))⟩
def fL_6_0 : List (Nat × Nat × Nat) := [(108, 3, 0), (117, 3, 1), (120, 3, 2), (123, 3, 3), (105, 0, 0), (98, 0, 1), (114, 0, 2), (131, 0, 3), (134, 0, 4), (141, 0, 5), (111, 0, 6), (126, 0, 7), (184, 0, 8), (191, 1, 0), (195, 1, 1), (11, 6, 0)]
theorem fK_6_0 : ∀ q ∈ fL_6_0, fP 6 q := List.forall_mem_cons.mpr ⟨fp_6_108, List.forall_mem_cons.mpr ⟨fp_6_117, List.forall_mem_cons.mpr ⟨fp_6_120, List.forall_mem_cons.mpr ⟨fp_6_123, List.forall_mem_cons.mpr ⟨fp_6_105, List.forall_mem_cons.mpr ⟨fp_6_98, List.forall_mem_cons.mpr ⟨fp_6_114, List.forall_mem_cons.mpr ⟨fp_6_131, List.forall_mem_cons.mpr ⟨fp_6_134, List.forall_mem_cons.mpr ⟨fp_6_141, List.forall_mem_cons.mpr ⟨fp_6_111, List.forall_mem_cons.mpr ⟨fp_6_126, List.forall_mem_cons.mpr ⟨fp_6_184, List.forall_mem_cons.mpr ⟨fp_6_191, List.forall_mem_cons.mpr ⟨fp_6_195, List.forall_mem_cons.mpr ⟨fp_6_11, fun _ h => absurd h List.not_mem_nil⟩⟩⟩⟩⟩⟩⟩⟩⟩⟩⟩⟩⟩⟩⟩⟩
theorem fp_6_15 : fP 6 (15, 6, 1) := ⟨by decide, by decide, List.mem_append_right _ (List.mem_of_getElem? (i := 238) (by decide +kernel))⟩
theorem fp_6_21 : fP 6 (21, 6, 2) := ⟨by decide, by decide, List.mem_append_right _ (List.mem_of_getElem? (i := 239) (by decide +kernel))⟩
theorem fp_6_25 : fP 6 (25, 6, 3) := ⟨by decide, by decide, List.mem_append_right _ (List.mem_of_getElem? (i := 240) (by decide +kernel))⟩
theorem fp_6_28 : fP 6 (28, 6, 4) := ⟨by decide, by decide, List.mem_append_right _ (List.mem_of_getElem? (i := 241) (by decide +kernel))⟩
theorem fp_6_32 : fP 6 (32, 6, 5) := ⟨by decide, by decide, List.mem_append_right _ (List.mem_of_getElem? (i := 242) (by decide +kernel))⟩
theorem fp_6_37 : fP 6 (37, 6, 6) := ⟨by decide, by decide, List.mem_append_right _ (List.mem_of_getElem? (i := 243) (by decide +kernel))⟩
theorem fp_6_44 : fP 6 (44, 6, 7) := ⟨by decide, by decide, List.mem_append_right _ (List.mem_of_getElem? (i := 244) (by decide +kernel))⟩
theorem fp_6_48 : fP 6 (48, 6, 8) := ⟨by decide, by decide, List.mem_append_right _ (List.mem_of_getElem? (i := 245) (by decide +kernel))⟩
theorem fp_6_51 : fP 6 (51, 6, 9) := ⟨by decide, by decide, List.mem_append_right _ (List.mem_of_getElem? (i := 246) (by decide +kernel))⟩
theorem fp_6_57 : fP 6 (57, 6, 10) := ⟨by decide, by decide, List.mem_append_right _ (List.mem_of_getElem? (i := 247) (by decide +kernel))⟩
theorem fp_6_64 : fP 6 (64, 6, 11) := ⟨by decide, by decide, List.mem_append_right _ (List.mem_of_getElem? (i := 248) (by decide +kernel))⟩
theorem fp_6_71 : fP 6 (71, 6, 12) := ⟨by decide, by decide, List.mem_append_right _ (List.mem_of_getElem? (i := 249) (by decide +kernel))⟩
def fL_6_1 : List (Nat × Nat × Nat) := [(15, 6, 1), (21, 6, 2), (25, 6, 3), (28, 6, 4), (32, 6, 5), (37, 6, 6), (44, 6, 7), (48, 6, 8), (51, 6, 9), (57, 6, 10), (64, 6, 11), (71, 6, 12)]
theorem fK_6_1 : ∀ q ∈ fL_6_1, fP 6 q := List.forall_mem_cons.mpr ⟨fp_6_15, List.forall_mem_cons.mpr ⟨fp_6_21, List.forall_mem_cons.mpr ⟨fp_6_25, List.forall_mem_cons.mpr ⟨fp_6_28, List.forall_mem_cons.mpr ⟨fp_6_32, List.forall_mem_cons.mpr ⟨fp_6_37, List.forall_mem_cons.mpr ⟨fp_6_44, List.forall_mem_cons.mpr ⟨fp_6_48, List.forall_mem_cons.mpr ⟨fp_6_51, List.forall_mem_cons.mpr ⟨fp_6_57, List.forall_mem_cons.mpr ⟨fp_6_64, List.forall_mem_cons.mpr ⟨fp_6_71, fun _ h => absurd h List.not_mem_nil⟩⟩⟩⟩⟩⟩⟩⟩⟩⟩⟩⟩
def fL_6 : List (Nat × Nat × Nat) := fL_6_0 ++ (fL_6_1)
theorem fK_6 : ∀ q ∈ fL_6, fP 6 q := List.forall_mem_append.mpr ⟨fK_6_0, fK_6_1⟩
theorem fp_7_7 : fP 7 (7, 7, 0) := ⟨by decide, by decide, List.mem_append_right _ (List.mem_of_getElem? (i := 724) (by decide +kernel))⟩
theorem fp_7_13 : fP 7 (13, 7, 1) := ⟨by decide, by decide, List.mem_append_right _ (List.mem_of_getElem? (i := 725) (by decide +kernel))⟩
theorem fp_7_16 : fP 7 (16, 7, 2) := ⟨by decide, by decide, List.mem_append_right _ (List.mem_of_getElem? (i := 726) (by decide +kernel))⟩
theorem fp_7_19 : fP 7 (19, 7, 3) := ⟨by decide, by decide, List.mem_append_right _ (List.mem_of_getElem? (i := 727) (by decide +kernel))⟩
theorem fp_7_22 : fP 7 (22, 7, 4) := ⟨by decide, by decide, List.mem_append_right _ (List.mem_of_getElem? (i := 728) (by decide +kernel))⟩
theorem fp_7_25 : fP 7 (25, 7, 5) := ⟨by decide, by decide, List.mem_append_right _ (List.mem_of_getElem? (i := 729) (by decide +kernel))⟩
theorem fp_7_28 : fP 7 (28, 7, 6) := ⟨by decide, by decide, List.mem_append_right _ (List.mem_of_getElem? (i := 730) (by decide +kernel))⟩
theorem fp_7_31 : fP 7 (31, 7, 7) := ⟨by decide, by decide, List.mem_append_right _ (List.mem_of_getElem? (i := 731) (by decide +kernel))⟩
theorem fp_7_34 : fP 7 (34, 7, 8) := ⟨by decide, by decide, List.mem_append_right _ (List.mem_of_getElem? (i := 732) (by decide +kernel))⟩
theorem fp_7_141 : fP 7 (141, 7, 9) := ⟨by decide, by decide, List.mem_append_right _ (List.mem_of_getElem? (i := 733) (by decide +kernel))⟩
theorem fp_7_37 : fP 7 (37, 7, 10) := ⟨by decide, by decide, List.mem_append_right _ (List.mem_of_getElem? (i := 734) (by decide +kernel))⟩
theorem fp_7_40 : fP 7 (40, 7, 11) := ⟨by decide, by decide, List.mem_append_right _ (List.mem_of_getElem? (i := 735) (by decide +kernel))⟩
theorem fp_7_43 : fP 7 (43, 7, 12) := ⟨by decide, by decide, List.mem_append_right _ (List.mem_of_getElem? (i := 736) (by decide +kernel))⟩
theorem fp_7_46 : fP 7 (46, 7, 13) := ⟨by decide, by decide, List.mem_append_right _ (List.mem_of_getElem? (i := 737) (by decide +kernel))⟩
theorem fp_7_49 : fP 7 (49, 7, 14) := ⟨by decide, by decide, List.mem_append_right _ (List.mem_of_getElem? (i := 738) (by decide +kernel))⟩
theorem fp_7_145 : fP 7 (145, 7, 15) := ⟨by decide, by decide, List.mem_append_right _ (List.mem_of_getElem? (i := 739) (by decide +kernel))⟩
def fL_7_0 : List (Nat × Nat × Nat) := [(7, 7, 0), (13, 7, 1), (16, 7, 2), (19, 7, 3), (22, 7, 4), (25, 7, 5), (28, 7, 6), (31, 7, 7), (34, 7, 8), (141, 7, 9), (37, 7, 10), (40, 7, 11), (43, 7, 12), (46, 7, 13), (49, 7, 14), (145, 7, 15)]
theorem fK_7_0 : ∀ q ∈ fL_7_0, fP 7 q := List.forall_mem_cons.mpr ⟨fp_7_7, List.forall_mem_cons.mpr ⟨fp_7_13, List.forall_mem_cons.mpr ⟨fp_7_16, List.forall_mem_cons.mpr ⟨fp_7_19, List.forall_mem_cons.mpr ⟨fp_7_22, List.forall_mem_cons.mpr ⟨fp_7_25, List.forall_mem_cons.mpr ⟨fp_7_28, List.forall_mem_cons.mpr ⟨fp_7_31, List.forall_mem_cons.mpr ⟨fp_7_34, List.forall_mem_cons.mpr ⟨fp_7_141, List.forall_mem_cons.mpr ⟨fp_7_37, List.forall_mem_cons.mpr ⟨fp_7_40, List.forall_mem_cons.mpr ⟨fp_7_43, List.forall_mem_cons.mpr ⟨fp_7_46, List.forall_mem_cons.mpr ⟨fp_7_49, List.forall_mem_cons.mpr ⟨fp_7_145, fun _ h => absurd h List.not_mem_nil⟩⟩⟩⟩⟩⟩⟩⟩⟩⟩⟩⟩⟩⟩⟩⟩
theorem fp_7_52 : fP 7 (52, 7, 16) := ⟨by decide, by decide, List.mem_append_right _ (List.mem_of_getElem? (i := 740) (by decide +kernel))⟩
theorem fp_7_56 : fP 7 (56, 7, 17) := ⟨by decide, by decide, List.mem_append_right _ (List.mem_of_getElem? (i := 741) (by decide +kernel))⟩
theorem fp_7_59 : fP 7 (59, 7, 18) := ⟨by decide, by decide, List.mem_append_right _ (List.mem_of_getElem? (i := 742) (by decide +kernel))⟩
theorem fp_7_62 : fP 7 (62, 7, 19) := ⟨by decide, by decide, List.mem_append_right _ (List.mem_of_getElem? (i := 743) (by decide +kernel))⟩
theorem fp_7_66 : fP 7 (66, 7, 20) := ⟨by decide, by decide, List.mem_append_right _ (List.mem_of_getElem? (i := 744) (by decide +kernel))⟩
theorem fp_7_165 : fP 7 (165, 7, 21) := ⟨by decide, by decide, List.mem_append_right _ (List.mem_of_getElem? (i := 745) (by decide +kernel))⟩
theorem fp_7_69 : fP 7 (69, 7, 22) := ⟨by decide, by decide, List.mem_append_right _ (List.mem_of_getElem? (i := 746) (by decide +kernel))⟩
theorem fp_7_162 : fP 7 (162, 7, 23) := ⟨by decide, by decide, List.mem_append_right _ (List.mem_of_getElem? (i := 747) (by decide +kernel))⟩
theorem fp_7_148 : fP 7 (148, 7, 24) := ⟨by decide, by decide, List.mem_append_right _ (List.mem_of_getElem? (i := 748) (by decide +kernel))⟩
theorem fp_7_152 : fP 7 (152, 7, 25) := ⟨by decide, by decide, List.mem_append_right _ (List.mem_of_getElem? (i := 749) (by decide +kernel))⟩
theorem fp_7_155 : fP 7 (155, 7, 26) := ⟨by decide, by decide, List.mem_append_right _ (List.mem_of_getElem? (i := 750) (by decide +kernel))⟩
theorem fp_7_72 : fP 7 (72, 7, 27) := ⟨by decide, by decide, List.mem_append_right _ (List.mem_of_getElem? (i := 751) (by decide +kernel))⟩
theorem fp_7_75 : fP 7 (75, 7, 28) := ⟨by decide, by decide, List.mem_append_right _ (List.mem_of_getElem? (i := 752) (by decide +kernel))⟩
theorem fp_7_78 : fP 7 (78, 7, 29) := ⟨by decide, by decide, List.mem_append_right _ (List.mem_of_getElem? (i := 753) (by decide +kernel))⟩
theorem fp_7_81 : fP 7 (81, 7, 30) := ⟨by decide, by decide, List.mem_append_right _ (List.mem_of_getElem? (i := 754) (by decide +kernel))⟩
theorem fp_7_84 : fP 7 (84, 7, 31) := ⟨by decide, by decide, List.mem_append_right _ (List.mem_of_getElem? (i := 755) (by decide +kernel))⟩
def fL_7_1 : List (Nat × Nat × Nat) := [(52, 7, 16), (56, 7, 17), (59, 7, 18), (62, 7, 19), (66, 7, 20), (165, 7, 21), (69, 7, 22), (162, 7, 23), (148, 7, 24), (152, 7, 25), (155, 7, 26), (72, 7, 27), (75, 7, 28), (78, 7, 29), (81, 7, 30), (84, 7, 31)]
theorem fK_7_1 : ∀ q ∈ fL_7_1, fP 7 q := List.forall_mem_cons.mpr ⟨fp_7_52, List.forall_mem_cons.mpr ⟨fp_7_56, List.forall_mem_cons.mpr ⟨fp_7_59, List.forall_mem_cons.mpr ⟨fp_7_62, List.forall_mem_cons.mpr ⟨fp_7_66, List.forall_mem_cons.mpr ⟨fp_7_165, List.forall_mem_cons.mpr ⟨fp_7_69, List.forall_mem_cons.mpr ⟨fp_7_162, List.forall_mem_cons.mpr ⟨fp_7_148, List.forall_mem_cons.mpr ⟨fp_7_152, List.forall_mem_cons.mpr ⟨fp_7_155, List.forall_mem_cons.mpr ⟨fp_7_72, List.forall_mem_cons.mpr ⟨fp_7_75, List.forall_mem_cons.mpr ⟨fp_7_78, List.forall_mem_cons.mpr ⟨fp_7_81, List.forall_mem_cons.mpr ⟨fp_7_84, fun _ h => absurd h List.not_mem_nil⟩⟩⟩⟩⟩⟩⟩⟩⟩⟩⟩⟩⟩⟩⟩⟩
theorem fp_7_87 : fP 7 (87, 7, 32) := ⟨by decide, by decide, List.mem_append_right _ (List.mem_of_getElem? (i := 756) (by decide +kernel))⟩
theorem fp_7_90 : fP 7 (90, 7, 33) := ⟨by decide, by decide, List.mem_append_right _ (List.mem_of_getElem? (i := 757) (by decide +kernel))⟩
theorem fp_7_93 : fP 7 (93, 7, 34) := ⟨by decide, by decide, List.mem_append_right _ (List.mem_of_getElem? (i := 758) (by decide +kernel))⟩
theorem fp_7_96 : fP 7 (96, 7, 35) := ⟨by decide, by decide, List.mem_append_right _ (List.mem_of_getElem? (i := 759) (by decide +kernel))⟩
theorem fp_7_99 : fP 7 (99, 7, 36) := ⟨by decide, by decide, List.mem_append_right _ (List.mem_of_getElem? (i := 760) (by decide +kernel))⟩
theorem fp_7_102 : fP 7 (102, 7, 37) := ⟨by decide, by decide, List.mem_append_right _ (List.mem_of_getElem? (i := 761) (by decide +kernel))⟩
theorem fp_7_105 : fP 7 (105, 7, 38) := ⟨by decide, by decide, List.mem_append_right _ (List.mem_of_getElem? (i := 762) (by decide +kernel))⟩
theorem fp_7_253 : fP 7 (253, 7, 39) := ⟨by decide, by decide, List.mem_append_right _ (List.mem_of_getElem? (i := 763) (by decide +kernel))⟩
theorem fp_7_256 : fP 7 (256, 7, 40) := ⟨by decide, by decide, List.mem_append_right _ (List.mem_of_getElem? (i := 764) (by decide +kernel))⟩
theorem fp_7_259 : fP 7 (259, 7, 41) := ⟨by decide, by decide, List.mem_append_right _ (List.mem_of_getElem? (i := 765) (by decide +kernel))⟩
theorem fp_7_262 : fP 7 (262, 7, 42) := ⟨by decide, by decide, List.mem_append_right _ (List.mem_of_getElem? (i := 766) (by decide +kernel))⟩
theorem fp_7_108 : fP 7 (108, 7, 43) := ⟨by decide, by decide, List.mem_append_right _ (List.mem_of_getElem? (i := 767) (by decide +kernel))⟩
theorem fp_7_111 : fP 7 (111, 7, 44) := ⟨by decide, by decide, List.mem_append_right _ (List.mem_of_getElem? (i := 768) (by decide +kernel))⟩
theorem fp_7_114 : fP 7 (114, 7, 45) := ⟨by decide, by decide, List.mem_append_right _ (List.mem_of_getElem? (i := 769) (by decide +kernel))⟩
theorem fp_7_117 : fP 7 (117, 7, 46) := ⟨by decide, by decide, List.mem_append_right _ (List.mem_of_getElem? (i := 770) (by decide +kernel))⟩
theorem fp_7_296 : fP 7 (296, 7, 47) := ⟨by decide, by decide, List.mem_append_right _ (List.mem_of_getElem? (i := 771) (by decide +kernel))⟩
def fL_7_2 : List (Nat × Nat × Nat) := [(87, 7, 32), (90, 7, 33), (93, 7, 34), (96, 7, 35), (99, 7, 36), (102, 7, 37), (105, 7, 38), (253, 7, 39), (256, 7, 40), (259, 7, 41), (262, 7, 42), (108, 7, 43), (111, 7, 44), (114, 7, 45), (117, 7, 46), (296, 7, 47)]
theorem fK_7_2 : ∀ q ∈ fL_7_2, fP 7 q := List.forall_mem_cons.mpr ⟨fp_7_87, List.forall_mem_cons.mpr ⟨fp_7_90, List.forall_mem_cons.mpr ⟨fp_7_93, List.forall_mem_cons.mpr ⟨fp_7_96, List.forall_mem_cons.mpr ⟨fp_7_99, List.forall_mem_cons.mpr ⟨fp_7_102, List.forall_mem_cons.mpr ⟨fp_7_105, List.forall_mem_cons.mpr ⟨fp_7_253, List.forall_mem_cons.mpr ⟨fp_7_256, List.forall_mem_cons.mpr ⟨fp_7_259, List.forall_mem_cons.mpr ⟨fp_7_262, List.forall_mem_cons.mpr ⟨fp_7_108, List.forall_mem_cons.mpr ⟨fp_7_111, List.forall_mem_cons.mpr ⟨fp_7_114, List.forall_mem_cons.mpr ⟨fp_7_117, List.forall_mem_cons.mpr ⟨fp_7_296, fun _ h => absurd h List.not_mem_nil⟩⟩⟩⟩⟩⟩⟩⟩⟩⟩⟩⟩⟩⟩⟩⟩
theorem fp_7_299 : fP 7 (299, 7, 48) := ⟨by decide, by decide, List.mem_append_right _ (List.mem_of_getElem? (i := 772) (by decide +kernel))⟩
theorem fp_7_302 : fP 7 (302, 7, 49) := ⟨by decide, by decide, List.mem_append_right _ (List.mem_of_getElem? (i := 773) (by decide +kernel))⟩
theorem fp_7_305 : fP 7 (305, 7, 50) := ⟨by decide, by decide, List.mem_append_right _ (List.mem_of_getElem? (i := 774) (by decide +kernel))⟩
theorem fp_7_313 : fP 7 (313, 7, 51) := ⟨by decide, by decide, List.mem_append_right _ (List.mem_of_getElem? (i := 775) (by decide +kernel))⟩
theorem fp_7_317 : fP 7 (317, 7, 52) := ⟨by decide, by decide, List.mem_append_right _ (List.mem_of_getElem? (i := 776) (by decide +kernel))⟩
theorem fp_7_320 : fP 7 (320, 7, 53) := ⟨by decide, by decide, List.mem_append_right _ (List.mem_of_getElem? (i := 777) (by decide +kernel))⟩
theorem fp_7_344 : fP 7 (344, 7, 54) := ⟨by decide, by decide, List.mem_append_right _ (List.mem_of_getElem? (i := 778) (by decide +kernel))⟩
theorem fp_7_353 : fP 7 (353, 7, 55) := ⟨by decide, by decide, List.mem_append_right _ (List.mem_of_getElem? (i := 779) (by decide +kernel))⟩
theorem fp_7_120 : fP 7 (120, 7, 56) := ⟨by decide, by decide, List.mem_append_right _ (List.mem_of_getElem? (i := 780) (by decide +kernel))⟩
theorem fp_7_123 : fP 7 (123, 7, 57) := ⟨by decide, by decide, List.mem_append_right _ (List.mem_of_getElem? (i := 781) (by decide +kernel))⟩
theorem fp_7_126 : fP 7 (126, 7, 58) := ⟨by decide, by decide, List.mem_append_right _ (List.mem_of_getElem? (i := 782) (by decide +kernel))⟩
def fL_7_3 : List (Nat × Nat × Nat) := [(299, 7, 48), (302, 7, 49), (305, 7, 50), (313, 7, 51), (317, 7, 52), (320, 7, 53), (344, 7, 54), (353, 7, 55), (120, 7, 56), (123, 7, 57), (126, 7, 58)]
theorem fK_7_3 : ∀ q ∈ fL_7_3, fP 7 q := List.forall_mem_cons.mpr ⟨fp_7_299, List.forall_mem_cons.mpr ⟨fp_7_302, List.forall_mem_cons.mpr ⟨fp_7_305, List.forall_mem_cons.mpr ⟨fp_7_313, List.forall_mem_cons.mpr ⟨fp_7_317, List.forall_mem_cons.mpr ⟨fp_7_320, List.forall_mem_cons.mpr ⟨fp_7_344, List.forall_mem_cons.mpr ⟨fp_7_353, List.forall_mem_cons.mpr ⟨fp_7_120, List.forall_mem_cons.mpr ⟨fp_7_123, List.forall_mem_cons.mpr ⟨fp_7_126, fun _ h => absurd h List.not_mem_nil⟩⟩⟩⟩⟩⟩⟩⟩⟩⟩⟩
def fL_7 : List (Nat × Nat × Nat) := fL_7_0 ++ (fL_7_1 ++ (fL_7_2 ++ (fL_7_3)))
theorem fK_7 : ∀ q ∈ fL_7, fP 7 q := List.forall_mem_append.mpr ⟨fK_7_0, List.forall_mem_append.mpr ⟨fK_7_1, List.forall_mem_append.mpr ⟨fK_7_2, fK_7_3⟩⟩⟩
def fT (o i : Nat) : Option (Nat × Nat) := match o with
  | 0 => asc fL_0 i
  | 1 => asc fL_1 i
  | 2 => asc fL_2 i
  | 3 => asc fL_3 i
  | 4 => asc fL_4 i
  | 5 => asc fL_5 i
  | 6 => asc fL_6 i
  | 7 => asc fL_7 i
  | _ => none
theorem fT_ok {o i ci k : Nat} (h : fT o i = some (ci, k)) : fP o (i, ci, k) := by
  unfold fT at h
  split at h
  · exact fK_0 _ (asc_mem h)
  · exact fK_1 _ (asc_mem h)
  · exact fK_2 _ (asc_mem h)
  · exact fK_3 _ (asc_mem h)
  · exact fK_4 _ (asc_mem h)
  · exact fK_5 _ (asc_mem h)
  · exact fK_6 _ (asc_mem h)
  · exact fK_7 _ (asc_mem h)
  · cases h
def kiP (o : Nat) (q : Nat × Int32) : Prop := Cond.constant (cN o) q.1 q.2 ∈ lw_tbl
def kiL_1 : List (Nat × Int32) := [(48, (100000))]
theorem kiK_1 : ∀ q ∈ kiL_1, kiP 1 q := List.forall_mem_cons.mpr ⟨List.mem_append_right _ (List.mem_of_getElem? (i := 640) (by decide +kernel)), fun _ h => absurd h List.not_mem_nil⟩
def kiL_2 : List (Nat × Int32) := [(125, (100000))]
theorem kiK_2 : ∀ q ∈ kiL_2, kiP 2 q := List.forall_mem_cons.mpr ⟨List.mem_append_right _ (List.mem_of_getElem? (i := 389) (by decide +kernel)), fun _ h => absurd h List.not_mem_nil⟩
def kiL_4 : List (Nat × Int32) := [(28, (100000))]
theorem kiK_4 : ∀ q ∈ kiL_4, kiP 4 q := List.forall_mem_cons.mpr ⟨List.mem_append_right _ (List.mem_of_getElem? (i := 614) (by decide +kernel)), fun _ h => absurd h List.not_mem_nil⟩
def kiL_6 : List (Nat × Int32) := [(202, (100000)), (144, (1000000))]
theorem kiK_6 : ∀ q ∈ kiL_6, kiP 6 q := List.forall_mem_cons.mpr ⟨List.mem_append_right _ (List.mem_of_getElem? (i := 433) (by decide +kernel)), List.forall_mem_cons.mpr ⟨List.mem_append_right _ (List.mem_of_getElem? (i := 528) (by decide +kernel)), fun _ h => absurd h List.not_mem_nil⟩⟩
def kiL_7 : List (Nat × Int32) := [(274, (-1000000)), (275, (1000000))]
theorem kiK_7 : ∀ q ∈ kiL_7, kiP 7 q := List.forall_mem_cons.mpr ⟨List.mem_append_right _ (List.mem_of_getElem? (i := 1047) (by decide +kernel)), List.forall_mem_cons.mpr ⟨List.mem_append_right _ (List.mem_of_getElem? (i := 1048) (by decide +kernel)), fun _ h => absurd h List.not_mem_nil⟩⟩
def kiT (o i : Nat) : Option (Int32) := match o with
  | 1 => asc kiL_1 i
  | 2 => asc kiL_2 i
  | 4 => asc kiL_4 i
  | 6 => asc kiL_6 i
  | 7 => asc kiL_7 i
  | _ => none
theorem kiT_ok {o i : Nat} {v : Int32} (h : kiT o i = some v) : kiP o (i, v) := by
  unfold kiT at h
  split at h
  · exact kiK_1 _ (asc_mem h)
  · exact kiK_2 _ (asc_mem h)
  · exact kiK_4 _ (asc_mem h)
  · exact kiK_6 _ (asc_mem h)
  · exact kiK_7 _ (asc_mem h)
  · cases h
def klP (o : Nat) (q : Nat × Int64) : Prop := Cond.constantLong (cN o) q.1 q.2 ∈ lw_tbl
def klL_6 : List (Nat × Int64) := [(129, (-2000000000)), (161, (-1)), (169, (4))]
theorem klK_6 : ∀ q ∈ klL_6, klP 6 q := List.forall_mem_cons.mpr ⟨List.mem_append_right _ (List.mem_of_getElem? (i := 516) (by decide +kernel)), List.forall_mem_cons.mpr ⟨List.mem_append_right _ (List.mem_of_getElem? (i := 563) (by decide +kernel)), List.forall_mem_cons.mpr ⟨List.mem_append_right _ (List.mem_of_getElem? (i := 575) (by decide +kernel)), fun _ h => absurd h List.not_mem_nil⟩⟩⟩
def klL_7 : List (Nat × Int64) := [(129, (-100)), (131, (100)), (168, (-1)), (248, (-2000000000)), (311, (4))]
theorem klK_7 : ∀ q ∈ klL_7, klP 7 q := List.forall_mem_cons.mpr ⟨List.mem_append_right _ (List.mem_of_getElem? (i := 917) (by decide +kernel)), List.forall_mem_cons.mpr ⟨List.mem_append_right _ (List.mem_of_getElem? (i := 918) (by decide +kernel)), List.forall_mem_cons.mpr ⟨List.mem_append_right _ (List.mem_of_getElem? (i := 966) (by decide +kernel)), List.forall_mem_cons.mpr ⟨List.mem_append_right _ (List.mem_of_getElem? (i := 1035) (by decide +kernel)), List.forall_mem_cons.mpr ⟨List.mem_append_right _ (List.mem_of_getElem? (i := 1093) (by decide +kernel)), fun _ h => absurd h List.not_mem_nil⟩⟩⟩⟩⟩
def klT (o i : Nat) : Option (Int64) := match o with
  | 6 => asc klL_6 i
  | 7 => asc klL_7 i
  | _ => none
theorem klT_ok {o i : Nat} {v : Int64} (h : klT o i = some v) : klP o (i, v) := by
  unfold klT at h
  split at h
  · exact klK_6 _ (asc_mem h)
  · exact klK_7 _ (asc_mem h)
  · cases h
def kcP (o : Nat) (q : Nat × Nat) : Prop := q.2 < 8 ∧ Cond.classLink (cN o) q.1 (cN q.2) ∈ lw_tbl ∧ Cond.instantiable (cN q.2) (cF q.2) ∈ lw_tbl ∧ Cond.initialized (cN q.2) ∈ lw_tbl
def kcL_0 : List (Nat × Nat) := [(15, 3), (43, 4)]
theorem kcK_0 : ∀ q ∈ kcL_0, kcP 0 q := List.forall_mem_cons.mpr ⟨⟨by decide, List.mem_append_right _ (List.mem_of_getElem? (i := 30) (by decide +kernel)), List.mem_append_right _ (List.mem_of_getElem? (i := 31) (by decide +kernel)), List.mem_append_right _ (List.mem_of_getElem? (i := 3) (by decide +kernel))⟩, List.forall_mem_cons.mpr ⟨⟨by decide, List.mem_append_right _ (List.mem_of_getElem? (i := 70) (by decide +kernel)), List.mem_append_right _ (List.mem_of_getElem? (i := 71) (by decide +kernel)), List.mem_append_right _ (List.mem_of_getElem? (i := 4) (by decide +kernel))⟩, fun _ h => absurd h List.not_mem_nil⟩⟩
def kcL_2 : List (Nat × Nat) := [(9, 5)]
theorem kcK_2 : ∀ q ∈ kcL_2, kcP 2 q := List.forall_mem_cons.mpr ⟨⟨by decide, List.mem_append_right _ (List.mem_of_getElem? (i := 130) (by decide +kernel)), List.mem_append_right _ (List.mem_of_getElem? (i := 131) (by decide +kernel)), List.mem_append_right _ (List.mem_of_getElem? (i := 6) (by decide +kernel))⟩, fun _ h => absurd h List.not_mem_nil⟩
def kcL_5 : List (Nat × Nat) := [(11, 3)]
theorem kcK_5 : ∀ q ∈ kcL_5, kcP 5 q := List.forall_mem_cons.mpr ⟨⟨by decide, List.mem_append_right _ (List.mem_of_getElem? (i := 136) (by decide +kernel)), List.mem_append_right _ (List.mem_of_getElem? (i := 31) (by decide +kernel)), List.mem_append_right _ (List.mem_of_getElem? (i := 3) (by decide +kernel))⟩, fun _ h => absurd h List.not_mem_nil⟩
def kcL_6 : List (Nat × Nat) := [(9, 3), (19, 0), (54, 2), (61, 1), (68, 4)]
theorem kcK_6 : ∀ q ∈ kcL_6, kcP 6 q := List.forall_mem_cons.mpr ⟨⟨by decide, List.mem_append_right _ (List.mem_of_getElem? (i := 21) (by decide +kernel)), List.mem_append_right _ (List.mem_of_getElem? (i := 31) (by decide +kernel)), List.mem_append_right _ (List.mem_of_getElem? (i := 3) (by decide +kernel))⟩, List.forall_mem_cons.mpr ⟨⟨by decide, List.mem_append_right _ (List.mem_of_getElem? (i := 23) (by decide +kernel)), List.mem_append_right _ (List.mem_of_getElem? (i := 25) (by decide +kernel)), List.mem_append_right _ (List.mem_of_getElem? (i := 2) (by decide +kernel))⟩, List.forall_mem_cons.mpr ⟨⟨by decide, List.mem_append_right _ (List.mem_of_getElem? (i := 124) (by decide +kernel)), List.mem_append_right _ (List.mem_of_getElem? (i := 125) (by decide +kernel)), List.mem_append_right _ (List.mem_of_getElem? (i := 5) (by decide +kernel))⟩, List.forall_mem_cons.mpr ⟨⟨by decide, List.mem_append_right _ (List.mem_of_getElem? (i := 192) (by decide +kernel)), List.mem_append_right _ (List.mem_of_getElem? (i := 193) (by decide +kernel)), List.mem_append_right _ (List.mem_of_getElem? (i := 7) (by decide +kernel))⟩, List.forall_mem_cons.mpr ⟨⟨by decide, List.mem_append_right _ (List.mem_of_getElem? (i := 231) (by decide +kernel)), List.mem_append_right _ (List.mem_of_getElem? (i := 71) (by decide +kernel)), List.mem_append_right _ (List.mem_of_getElem? (i := 4) (by decide +kernel))⟩, fun _ h => absurd h List.not_mem_nil⟩⟩⟩⟩⟩
def kcL_12 : List (Nat × Nat) := [(7, 6), (10, 7)]
theorem kcK_12 : ∀ q ∈ kcL_12, kcP 12 q := List.forall_mem_cons.mpr ⟨⟨by decide, List.mem_append_right _ (List.mem_of_getElem? (i := 13) (by decide +kernel)), List.mem_append_right _ (List.mem_of_getElem? (i := 14) (by decide +kernel)), List.mem_append_right _ (List.mem_of_getElem? (i := 1) (by decide +kernel))⟩, List.forall_mem_cons.mpr ⟨⟨by decide, List.mem_append_right _ (List.mem_of_getElem? (i := 718) (by decide +kernel)), List.mem_append_right _ (List.mem_of_getElem? (i := 719) (by decide +kernel)), List.mem_append_right _ (List.mem_of_getElem? (i := 8) (by decide +kernel))⟩, fun _ h => absurd h List.not_mem_nil⟩⟩
def kcT (o i : Nat) : Option (Nat) := match o with
  | 0 => asc kcL_0 i
  | 2 => asc kcL_2 i
  | 5 => asc kcL_5 i
  | 6 => asc kcL_6 i
  | 12 => asc kcL_12 i
  | _ => none
theorem kcT_ok {o i : Nat} {v : Nat} (h : kcT o i = some v) : kcP o (i, v) := by
  unfold kcT at h
  split at h
  · exact kcK_0 _ (asc_mem h)
  · exact kcK_2 _ (asc_mem h)
  · exact kcK_5 _ (asc_mem h)
  · exact kcK_6 _ (asc_mem h)
  · exact kcK_12 _ (asc_mem h)
  · cases h
def koP (o : Nat) (q : Nat × Unit) : Prop := Cond.methodLink (cN o) q.1 objectInit ∈ lw_tbl
def koL_0 : List (Nat × Unit) := [(3, ())]
theorem koK_0 : ∀ q ∈ koL_0, koP 0 q := List.forall_mem_cons.mpr ⟨List.mem_append_right _ (List.mem_of_getElem? (i := 29) (by decide +kernel)), fun _ h => absurd h List.not_mem_nil⟩
def koL_1 : List (Nat × Unit) := [(3, ())]
theorem koK_1 : ∀ q ∈ koL_1, koP 1 q := List.forall_mem_cons.mpr ⟨List.mem_append_right _ (List.mem_of_getElem? (i := 197) (by decide +kernel)), fun _ h => absurd h List.not_mem_nil⟩
def koL_2 : List (Nat × Unit) := [(3, ())]
theorem koK_2 : ∀ q ∈ koL_2, koP 2 q := List.forall_mem_cons.mpr ⟨List.mem_append_right _ (List.mem_of_getElem? (i := 129) (by decide +kernel)), fun _ h => absurd h List.not_mem_nil⟩
def koL_3 : List (Nat × Unit) := [(1, ())]
theorem koK_3 : ∀ q ∈ koL_3, koP 3 q := List.forall_mem_cons.mpr ⟨List.mem_append_right _ (List.mem_of_getElem? (i := 35) (by decide +kernel)), fun _ h => absurd h List.not_mem_nil⟩
def koL_4 : List (Nat × Unit) := [(3, ())]
theorem koK_4 : ∀ q ∈ koL_4, koP 4 q := List.forall_mem_cons.mpr ⟨List.mem_append_right _ (List.mem_of_getElem? (i := 75) (by decide +kernel)), fun _ h => absurd h List.not_mem_nil⟩
def koL_5 : List (Nat × Unit) := [(5, ())]
theorem koK_5 : ∀ q ∈ koL_5, koP 5 q := List.forall_mem_cons.mpr ⟨List.mem_append_right _ (List.mem_of_getElem? (i := 135) (by decide +kernel)), fun _ h => absurd h List.not_mem_nil⟩
def koL_6 : List (Nat × Unit) := [(1, ())]
theorem koK_6 : ∀ q ∈ koL_6, koP 6 q := List.forall_mem_cons.mpr ⟨List.mem_append_right _ (List.mem_of_getElem? (i := 18) (by decide +kernel)), fun _ h => absurd h List.not_mem_nil⟩
def koL_7 : List (Nat × Unit) := [(1, ())]
theorem koK_7 : ∀ q ∈ koL_7, koP 7 q := List.forall_mem_cons.mpr ⟨List.mem_append_right _ (List.mem_of_getElem? (i := 723) (by decide +kernel)), fun _ h => absurd h List.not_mem_nil⟩
def koT (o i : Nat) : Option (Unit) := match o with
  | 0 => asc koL_0 i
  | 1 => asc koL_1 i
  | 2 => asc koL_2 i
  | 3 => asc koL_3 i
  | 4 => asc koL_4 i
  | 5 => asc koL_5 i
  | 6 => asc koL_6 i
  | 7 => asc koL_7 i
  | _ => none
theorem koT_ok {o i : Nat} {v : Unit} (h : koT o i = some v) : koP o (i, v) := by
  unfold koT at h
  split at h
  · exact koK_0 _ (asc_mem h)
  · exact koK_1 _ (asc_mem h)
  · exact koK_2 _ (asc_mem h)
  · exact koK_3 _ (asc_mem h)
  · exact koK_4 _ (asc_mem h)
  · exact koK_5 _ (asc_mem h)
  · exact koK_6 _ (asc_mem h)
  · exact koK_7 _ (asc_mem h)
  · cases h
def kaP (o : Nat) (q : Nat × Unit) : Prop := Cond.methodLink (cN o) q.1 arraycopyName ∈ lw_tbl
def kaL_0 : List (Nat × Unit) := [(71, ())]
theorem kaK_0 : ∀ q ∈ kaL_0, kaP 0 q := List.forall_mem_cons.mpr ⟨List.mem_append_right _ (List.mem_of_getElem? (i := 441) (by decide +kernel)), fun _ h => absurd h List.not_mem_nil⟩
def kaL_5 : List (Nat × Unit) := [(87, ())]
theorem kaK_5 : ∀ q ∈ kaL_5, kaP 5 q := List.forall_mem_cons.mpr ⟨List.mem_append_right _ (List.mem_of_getElem? (i := 407) (by decide +kernel)), fun _ h => absurd h List.not_mem_nil⟩
def kaT (o i : Nat) : Option (Unit) := match o with
  | 0 => asc kaL_0 i
  | 5 => asc kaL_5 i
  | _ => none
theorem kaT_ok {o i : Nat} {v : Unit} (h : kaT o i = some v) : kaP o (i, v) := by
  unfold kaT at h
  split at h
  · exact kaK_0 _ (asc_mem h)
  · exact kaK_5 _ (asc_mem h)
  · cases h
theorem tb_oi : Cond.instanceMethod objectInit ∈ lw_tbl := List.mem_append_right _ (List.mem_of_getElem? (i := 19) (by decide +kernel))
theorem tb_oc : Cond.code objectInit ⟨#[0xb1]⟩ 1 none ∈ lw_tbl := List.mem_append_right _ (List.mem_of_getElem? (i := 20) rfl)
theorem tb_an : Cond.native arraycopyName ∈ lw_tbl := List.mem_append_right _ (List.mem_of_getElem? (i := 409) (by decide +kernel))
theorem tb_as : Cond.static arraycopyName ∈ lw_tbl := List.mem_append_right _ (List.mem_of_getElem? (i := 408) (by decide +kernel))
theorem tb_ai : Cond.initialized "java/lang/System" ∈ lw_tbl := List.mem_append_right _ (List.mem_of_getElem? (i := 9) (by decide +kernel))
theorem tb_ci : Cond.arrayClass .int ∈ lw_tbl := List.mem_append_right _ (List.mem_of_getElem? (i := 69) (by decide +kernel))
theorem tb_cl : Cond.arrayClass .long ∈ lw_tbl := List.mem_append_right _ (List.mem_of_getElem? (i := 902) (by decide +kernel))
theorem tb_cz : Cond.arrayClass .boolean ∈ lw_tbl := List.mem_append_right _ (List.mem_of_getElem? (i := 68) (by decide +kernel))
theorem tb_c3 : Cond.arrayOver (.object RX3) ∈ lw_tbl := List.mem_append_right _ (List.mem_of_getElem? (i := 22) (by decide +kernel))
theorem tb_c0 : Cond.arrayOver (.object RX0) ∈ lw_tbl := List.mem_append_right _ (List.mem_of_getElem? (i := 24) (by decide +kernel))
theorem cl_ig {i : Nat} (h : i < 8) : ∀ w ∈ u_ws (cN i) (cT i) (cF i), w ∈ lw_g := by
  intro w hw
  refine lg_in (cl_in h w hw) ?_
  obtain ⟨k, -, rfl⟩ := List.mem_map.mp hw
  unfold u_lay
  split <;> rfl
end
section
section MH
variable {p : Program} {l : Launch} {e : Env} {R : Room} {s : State} {m : MethodId} {args : Array Value} {below : List Frame} {meth : Method} {c : Code} {Q : State → Prop} {B b : Nat} {D : va_G} {dA : Nat → ClassId} {M : mM}
theorem mE.hx (E : mE p R s m args meth c B D dA M) : p.tables.exec = Jvm.exec := E.1
theorem mE.hb (E : mE p R s m args meth c B D dA M) : c.code = mCd M := E.2.1
theorem mE.hm (E : mE p R s m args meth c B D dA M) : c.maxLocals = mLx M := E.2.2.1
theorem mE.ho (E : mE p R s m args meth c B D dA M) : s.vm.findClass (cN (mOw M)) = some m.cls := E.2.2.2.1
theorem mE.hg (E : mE p R s m args meth c B D dA M) : ∀ w ∈ lw_g, w.before args s = true := E.2.2.2.2.1
theorem mE.ht (E : mE p R s m args meth c B D dA M) {w : Cond} (h : w ∈ lw_tbl) (g : goodWord w = true) : w.before args s = true := E.hg w (lg_in h g)
theorem mE.hi (E : mE p R s m args meth c B D dA M) : mIn M = true → meth.name = "<init>" := E.2.2.2.2.2.1
theorem mE.hK (E : mE p R s m args meth c B D dA M) : va_K D vwCl (mtys dA) s := E.2.2.2.2.2.2.1
theorem mE.hz (E : mE p R s m args meth c B D dA M) : B ≤ s.heap.size := E.2.2.2.2.2.2.2.1
theorem mE.hr (E : mE p R s m args meth c B D dA M) : R = mRm M := E.2.2.2.2.2.2.2.2.1
theorem mE.hn (E : mE p R s m args meth c B D dA M) : mNs s := E.2.2.2.2.2.2.2.2.2
theorem mfs_at {B b j : Nat} {fs : List Value} {v : Value} (h : fs[j]? = some v) : (fs.map (mv B b))[j]? = some (mv B b v) := by rw [List.getElem?_map, h]; rfl
theorem mfs_set {B b j : Nat} {fs : List Value} {v : Value} : (fs.map (mv B b)).set j (mv B b v) = (fs.set j v).map (mv B b) := (List.map_set ..).symm
theorem lt_five {t : Nat} (h : t < 5) : t = 0 ∨ t = 1 ∨ t = 2 ∨ t = 3 ∨ t = 4 := by omega
def q_ldc (o i : Nat) (len pc : Nat) (lv : List (Nat × Value)) (st : List Value) (h : mh) (k n : Nat) : Option mF := match len, kiT o i with
  | 2, some v => some (pc + 2, lv, .int v :: st, h, k, n)
  | _, _ => none
theorem o_ldc (E : mE p R s m args meth c B D dA M) {i : Nat} {len pc : Nat} {lv : List (Nat × Value)} {st : List Value} {h : mh} {k n : Nat} {f : mF} (hd : decode (mCd M) pc = .ok (.ldc i, len)) (hq : q_ldc (mOw M) i len pc lv st h k n = some f) (hk : mV p l e R s m args below meth c Q B b D dA (mLx M) f) : mV p l e R s m args below meth c Q B b D dA (mLx M) (pc, lv, st, h, k, n) := by
  unfold q_ldc at hq
  split at hq
  · rename_i v hv
    cases hq
    intro H locs ls hR hS hl
    exact lv_ldc E.hx E.hb E.ho (E.ht (kiT_ok hv) rfl) hd (hk H locs ls hR hS hl)
  · cases hq
def q_ldc_w (o i : Nat) (len pc : Nat) (lv : List (Nat × Value)) (st : List Value) (h : mh) (k n : Nat) : Option mF := match len, kiT o i with
  | 3, some v => some (pc + 3, lv, .int v :: st, h, k, n)
  | _, _ => none
theorem o_ldc_w (E : mE p R s m args meth c B D dA M) {i : Nat} {len pc : Nat} {lv : List (Nat × Value)} {st : List Value} {h : mh} {k n : Nat} {f : mF} (hd : decode (mCd M) pc = .ok (.ldc_w i, len)) (hq : q_ldc_w (mOw M) i len pc lv st h k n = some f) (hk : mV p l e R s m args below meth c Q B b D dA (mLx M) f) : mV p l e R s m args below meth c Q B b D dA (mLx M) (pc, lv, st, h, k, n) := by
  unfold q_ldc_w at hq
  split at hq
  · rename_i v hv
    cases hq
    intro H locs ls hR hS hl
    exact lv_ldcw E.hx E.hb E.ho (E.ht (kiT_ok hv) rfl) hd (hk H locs ls hR hS hl)
  · cases hq
def q_ldc2 (o i : Nat) (len pc : Nat) (lv : List (Nat × Value)) (st : List Value) (h : mh) (k n : Nat) : Option mF := match len, klT o i with
  | 3, some v => some (pc + 3, lv, .long v :: st, h, k, n)
  | _, _ => none
theorem o_ldc2 (E : mE p R s m args meth c B D dA M) {i : Nat} {len pc : Nat} {lv : List (Nat × Value)} {st : List Value} {h : mh} {k n : Nat} {f : mF} (hd : decode (mCd M) pc = .ok (.ldc2_w i, len)) (hq : q_ldc2 (mOw M) i len pc lv st h k n = some f) (hk : mV p l e R s m args below meth c Q B b D dA (mLx M) f) : mV p l e R s m args below meth c Q B b D dA (mLx M) (pc, lv, st, h, k, n) := by
  unfold q_ldc2 at hq
  split at hq
  · rename_i v hv
    cases hq
    intro H locs ls hR hS hl
    exact lv_ldc2 E.hx E.hb E.ho (E.ht (klT_ok hv) rfl) hd (hk H locs ls hR hS hl)
  · cases hq
def q_getf (o i : Nat) (len pc : Nat) (lv : List (Nat × Value)) (st : List Value) (h : mh) (k n : Nat) : Option mF := match len, st with
  | 3, .ref a :: r => (match fT o i with
    | some (ci, j) => (match h[a]? with
      | some (.inr (ci', fs)) => if ci' = ci then (match fs[j]? with
        | some v => some (pc + 3, lv, v :: r, h, k, n)
        | none => none) else none
      | _ => none)
    | none => none)
  | _, _ => none
theorem o_getf (E : mE p R s m args meth c B D dA M) {i : Nat} {len pc : Nat} {lv : List (Nat × Value)} {st : List Value} {h : mh} {k n : Nat} {f : mF} (hd : decode (mCd M) pc = .ok (.getfield i, len)) (hq : q_getf (mOw M) i len pc lv st h k n = some f) (hk : mV p l e R s m args below meth c Q B b D dA (mLx M) f) : mV p l e R s m args below meth c Q B b D dA (mLx M) (pc, lv, st, h, k, n) := by
  unfold q_getf at hq
  split at hq
  · rename_i a r
    split at hq
    · rename_i ci j hf
      split at hq
      · rename_i ci' fs ha
        split at hq
        · rename_i hc
          split at hq
          · rename_i v hv
            cases hq
            subst hc
            intro H locs ls hR hS hl
            obtain ⟨h8, hj, hw⟩ := fT_ok hf
            exact va_get (D := D) (v := mv B b v) (C := cN ci') (T := cT ci') (N := cF ci') (ref := (cT ci' j).1) E.hx E.hb E.hg (cl_ig h8) E.ho E.hK hR.2 a (mW_at ha) (cl_at h8) j hj (E.ht hw rfl) (fun _ z => z) (mfs_at hv) hd (hk H locs ls hR hS hl)
          · cases hq
        · cases hq
      · cases hq
    · cases hq
  · cases hq
def mfit (ty : FieldType) (v : Value) : Bool := match ty, v with
  | .int, .int _ => true
  | .long, .long _ => true
  | .boolean, .int x => x == 0 || x == 1
  | .object _, .ref _ => true
  | .array _, .ref _ => true
  | _, _ => false
theorem mfit_ok {ty : FieldType} {v : Value} (h : mfit ty v = true) : narrow ty (mv B b v) = mv B b v ∧ fits ty (mv B b v) = true := by
  unfold mfit at h
  split at h
  · exact ⟨rfl, rfl⟩
  · exact ⟨rfl, rfl⟩
  · rename_i x
    refine ⟨?_, h⟩
    rw [Bool.or_eq_true, beq_iff_eq, beq_iff_eq] at h
    rcases h with rfl | rfl
    · exact (show Value.int ((0 : Int32) &&& 1) = Value.int 0 by decide)
    · exact (show Value.int ((1 : Int32) &&& 1) = Value.int 1 by decide)
  · exact ⟨rfl, rfl⟩
  · exact ⟨rfl, rfl⟩
  · cases h
/-- what a write of a field leaves -/
theorem mR_put {H H' : Heap} {h : mh} {a ci j : Nat} {fs : List Value} {v : Value} {cell : Cell} (h8 : ci < 8) (hj : j < cF ci) (hR : mR B b D dA h H) (ha : h[a]? = some (.inr (ci, fs))) (hl : j < fs.length) (hap : ∀ x y : Nat, x < cF ci → y < cF ci → x ≠ y → D.2 ci x ≠ D.2 ci y) (q1 : H[B + a]? = some cell) (q2 : cell.cls = D.1 ci) (q3 : cell.vm = .none) (q4 : ∀ k, k < cF ci → cell.slots[D.2 ci k]? = some (vp_V (fs.map (mv B b)) k)) (e1 : H'[B + a]? = some (cell.setSlot (D.2 ci j) (mv B b v))) (e2 : H'.size = H.size) (e3 : ∀ q : Nat, q ≠ B + a → H'[q]? = H[q]?) : mR B b D dA (h.set a (.inr (ci, fs.set j v))) H' := by
  refine mR_set (y := (B + a, .inr (ci, (fs.map (mv B b)).set j (mv B b v)))) (by show _ = (B + a, Sum.inr (ci, (fs.set j v).map (mv B b))); rw [mfs_set]) e2 hR ?_
  exact hR.2.set mW_D (mW_at ha) ⟨_, cl_at h8, t_OB.to (V := updV (vp_V (fs.map (mv B b))) j (mv B b v)) ⟨_, e1, q2, q3, t_set q4 hap hj (mv B b v)⟩ (fun i _ => vp_updV_set (by rw [List.length_map]; exact hl) (mv B b v) i)⟩ e3
def q_putf (o i : Nat) (ini : Bool) (len pc : Nat) (lv : List (Nat × Value)) (st : List Value) (h : mh) (k n : Nat) : Option mF := match len, st with
  | 3, v :: .ref a :: r => (match fT o i with
    | some (ci, j) => (match h[a]? with
      | some (.inr (ci', fs)) => if ci' = ci ∧ mfit (cY ci j) v = true ∧ j < fs.length ∧ ((cT ci j).2.2.2 = false ∨ (ini = true ∧ o = ci)) then some (pc + 3, lv, r, h.set a (.inr (ci, fs.set j v)), k, n) else none
      | _ => none)
    | none => none)
  | _, _ => none
theorem o_putf (E : mE p R s m args meth c B D dA M) {i : Nat} {len pc : Nat} {lv : List (Nat × Value)} {st : List Value} {h : mh} {k n : Nat} {f : mF} (hd : decode (mCd M) pc = .ok (.putfield i, len)) (hq : q_putf (mOw M) i (mIn M) len pc lv st h k n = some f) (hk : mV p l e R s m args below meth c Q B b D dA (mLx M) f) : mV p l e R s m args below meth c Q B b D dA (mLx M) (pc, lv, st, h, k, n) := by
  unfold q_putf at hq
  split at hq
  · rename_i v a r
    split at hq
    · rename_i ci j hf
      split at hq
      · rename_i ci' fs ha
        split at hq
        · rename_i hc
          obtain ⟨hc, hfit, hjl, hfin⟩ := hc
          cases hq
          subst hc
          intro H locs ls hR hS hl
          obtain ⟨h8, hj, hw⟩ := fT_ok hf
          obtain ⟨hn, hfi⟩ := mfit_ok (B := B) (b := b) hfit
          have hd2 := cl_ty h8 j hj
          have hap := va_apart (own := cN (mOw M)) E.hg (cl_ig h8) (cY ci') (cl_ty h8) (cl_nm h8) E.hK (cl_at h8)
          obtain ⟨r2, h1, cell, q1, q2, q3, q4⟩ := hR.2 a _ (mW_at ha)
          have hr : r2 = (cN ci', cT ci', cF ci') := Option.some.inj (h1.symm.trans (cl_at h8))
          subst hr
          obtain ⟨hSl, hfc, kC, hkC, hkind⟩ := E.hK.1 ci' _ (cl_at h8)
          obtain ⟨cf, kf, fi, fd, hi, hsl⟩ := hSl j hj
          have hlay := E.hg _ (cl_ig h8 _ (u_in_lay hj))
          unfold u_lay at hlay
          have hst := (u_facts hfc hkC (u_lays E.hg (cl_ig h8) hj) hi).1
          by_cases hfl : (cT ci' j).2.2.2 = false
          · rw [if_neg (by rw [hfl]; decide)] at hlay
            have h6 := u_store hfc hkC hkind hlay hi hd2 hn hfi
            refine W.putK E.hx E.hb (f := fd) ⟨E.ho, E.ht hw rfl, ⟨_, _, _, hi⟩, hst⟩ (by rw [q2]; exact h6) q1 q3 (by rw [hsl]; exact k2_hasslot (q4 j hj)) rfl rfl hd fun H' e1 e2 e3 => ?_
            rw [hsl] at e1 ⊢
            exact hk H' _ ls (mR_put h8 hj hR ha hjl hap q1 q2 q3 q4 e1 e2 e3) (hS.put e2 e3 (Nat.le_add_right B a)) hl
          · have hfl2 : (cT ci' j).2.2.2 = true := by cases hz : (cT ci' j).2.2.2 with
              | true => rfl
              | false => exact absurd hz hfl
            obtain ⟨hi0, hoc⟩ : mIn M = true ∧ mOw M = ci' := by
              rcases hfin with z | z
              · exact absurd z hfl
              · exact z
            rw [if_pos hfl2] at hlay
            have hcf : m.cls = cf := by
              obtain ⟨_, _, c', _, _, _, -, -, hf', -, -, -, hown2, -⟩ := Cond.laysFinal_spec hlay
              have e1 : c' = cf := by have := hi.symm.trans hf'; simp at this; exact this.1.symm
              rw [cl_dc h8 j hj, ← hoc] at hown2
              rw [← e1]; exact Option.some.inj (E.ho.symm.trans hown2)
            have h6 := u_fits hfc hkC hkind (Or.inr hlay) hi hd2 hn hfi
            refine W.putFinK E.hx E.hb E.ho (E.ht hw rfl) hi hst hcf (E.hi hi0) (by rw [q2]; exact h6) q1 q3 (by rw [hsl]; exact k2_hasslot (q4 j hj)) rfl rfl hd fun H' e1 e2 e3 => ?_
            rw [hsl] at e1 ⊢
            exact hk H' _ ls (mR_put h8 hj hR ha hjl hap q1 q2 q3 q4 e1 e2 e3) (hS.put e2 e3 (Nat.le_add_right B a)) hl
        · cases hq
      · cases hq
    · cases hq
  · cases hq
def q_iald  (len pc : Nat) (lv : List (Nat × Value)) (st : List Value) (h : mh) (k n : Nat) : Option mF := match len, st with
  | 1, .int i :: .ref a :: r => (match h[a]? with
    | some (.inl (0, z, .inl f)) => if i < 0 ∨ z ≤ i.toNatClampNeg then none else some (pc + 1, lv, .int (f i.toNatClampNeg) :: r, h, k, n)
    | _ => none)
  | _, _ => none
theorem o_iald (E : mE p R s m args meth c B D dA M)  {len pc : Nat} {lv : List (Nat × Value)} {st : List Value} {h : mh} {k n : Nat} {f : mF} (hd : decode (mCd M) pc = .ok (.iaload, len)) (hq : q_iald  len pc lv st h k n = some f) (hk : mV p l e R s m args below meth c Q B b D dA (mLx M) f) : mV p l e R s m args below meth c Q B b D dA (mLx M) (pc, lv, st, h, k, n) := by
  unfold q_iald at hq
  split at hq
  · rename_i i a r
    split at hq
    · rename_i z f ha
      split at hq
      · cases hq
      · rename_i hc
        cases hq
        intro H locs ls hR hS hl
        exact va_iald (D := D) E.hx E.hb E.hK hR.2 a 0 (mW_at ha) rfl hc hd (hk H locs ls hR hS hl)
    · cases hq
  · cases hq
def q_lald  (len pc : Nat) (lv : List (Nat × Value)) (st : List Value) (h : mh) (k n : Nat) : Option mF := match len, st with
  | 1, .int i :: .ref a :: r => (match h[a]? with
    | some (.inl (1, z, .inr (.inl f))) => if i < 0 ∨ z ≤ i.toNatClampNeg then none else some (pc + 1, lv, .long (f i.toNatClampNeg) :: r, h, k, n)
    | _ => none)
  | _, _ => none
theorem o_lald (E : mE p R s m args meth c B D dA M)  {len pc : Nat} {lv : List (Nat × Value)} {st : List Value} {h : mh} {k n : Nat} {f : mF} (hd : decode (mCd M) pc = .ok (.laload, len)) (hq : q_lald  len pc lv st h k n = some f) (hk : mV p l e R s m args below meth c Q B b D dA (mLx M) f) : mV p l e R s m args below meth c Q B b D dA (mLx M) (pc, lv, st, h, k, n) := by
  unfold q_lald at hq
  split at hq
  · rename_i i a r
    split at hq
    · rename_i z f ha
      split at hq
      · cases hq
      · rename_i hc
        cases hq
        intro H locs ls hR hS hl
        exact va_lald (D := D) E.hx E.hb E.hK hR.2 a 1 (mW_at ha) rfl hc hd (hk H locs ls hR hS hl)
    · cases hq
  · cases hq
def q_bald  (len pc : Nat) (lv : List (Nat × Value)) (st : List Value) (h : mh) (k n : Nat) : Option mF := match len, st with
  | 1, .int i :: .ref a :: r => (match h[a]? with
    | some (.inl (2, z, .inl f)) => if i < 0 ∨ z ≤ i.toNatClampNeg then none else some (pc + 1, lv, .int (f i.toNatClampNeg) :: r, h, k, n)
    | _ => none)
  | _, _ => none
theorem o_bald (E : mE p R s m args meth c B D dA M)  {len pc : Nat} {lv : List (Nat × Value)} {st : List Value} {h : mh} {k n : Nat} {f : mF} (hd : decode (mCd M) pc = .ok (.baload, len)) (hq : q_bald  len pc lv st h k n = some f) (hk : mV p l e R s m args below meth c Q B b D dA (mLx M) f) : mV p l e R s m args below meth c Q B b D dA (mLx M) (pc, lv, st, h, k, n) := by
  unfold q_bald at hq
  split at hq
  · rename_i i a r
    split at hq
    · rename_i z f ha
      split at hq
      · cases hq
      · rename_i hc
        cases hq
        intro H locs ls hR hS hl
        exact va_zald (D := D) E.hx E.hb E.hK hR.2 a 2 (mW_at ha) rfl hc hd (hk H locs ls hR hS hl)
    · cases hq
  · cases hq
def q_aald  (len pc : Nat) (lv : List (Nat × Value)) (st : List Value) (h : mh) (k n : Nat) : Option mF := match len, st with
  | 1, .int i :: .ref a :: r => (match h[a]? with
    | some (.inl (t, z, .inr (.inr (.inr (.inr f))))) => if t = 3 ∨ t = 4 then (if i < 0 ∨ z ≤ i.toNatClampNeg then none else some (pc + 1, lv, va_rf (f i.toNatClampNeg) :: r, h, k, n)) else none
    | _ => none)
  | _, _ => none
theorem o_aald (E : mE p R s m args meth c B D dA M)  {len pc : Nat} {lv : List (Nat × Value)} {st : List Value} {h : mh} {k n : Nat} {f : mF} (hd : decode (mCd M) pc = .ok (.aaload, len)) (hq : q_aald  len pc lv st h k n = some f) (hk : mV p l e R s m args below meth c Q B b D dA (mLx M) f) : mV p l e R s m args below meth c Q B b D dA (mLx M) (pc, lv, st, h, k, n) := by
  unfold q_aald at hq
  split at hq
  · rename_i i a r
    split at hq
    · rename_i t z f ha
      split at hq
      · rename_i ht
        split at hq
        · cases hq
        · rename_i hc
          cases hq
          intro H locs ls hR hS hl
          have e : mv B b (va_rf (f i.toNatClampNeg)) = va_rf (mrf B f i.toNatClampNeg) := by
            unfold mrf
            cases f i.toNatClampNeg <;> rfl
          have hk2 := hk H locs ls hR hS hl
          simp only [List.map_cons, e] at hk2
          rcases ht with rfl | rfl
          · exact va_aldq (D := D) (C := RX3) E.hx E.hb E.hK hR.2 a 3 (mW_at ha) rfl hc hd hk2
          · exact va_aldq (D := D) (C := RX0) E.hx E.hb E.hK hR.2 a 4 (mW_at ha) rfl hc hd hk2
      · cases hq
    · cases hq
  · cases hq
def q_alen  (len pc : Nat) (lv : List (Nat × Value)) (st : List Value) (h : mh) (k n : Nat) : Option mF := match len, st with
  | 1, .ref a :: r => (match h[a]? with
    | some (.inl (t, z, g)) => if t < 5 then some (pc + 1, lv, .int (Int32.ofNat z) :: r, h, k, n) else none
    | _ => none)
  | _, _ => none
theorem o_alen (E : mE p R s m args meth c B D dA M)  {len pc : Nat} {lv : List (Nat × Value)} {st : List Value} {h : mh} {k n : Nat} {f : mF} (hd : decode (mCd M) pc = .ok (.arraylength, len)) (hq : q_alen  len pc lv st h k n = some f) (hk : mV p l e R s m args below meth c Q B b D dA (mLx M) f) : mV p l e R s m args below meth c Q B b D dA (mLx M) (pc, lv, st, h, k, n) := by
  unfold q_alen at hq
  split at hq
  · rename_i a r
    split at hq
    · rename_i t z g ha
      split at hq
      · rename_i ht
        cases hq
        intro H locs ls hR hS hl
        have ht : @LT.lt Nat _ t 5 := ht
        have hty : ∃ ty, (mtys dA)[t]? = some (dA t, ty) := by
          rcases lt_five ht with rfl | rfl | rfl | rfl | rfl <;> exact ⟨_, rfl⟩
        obtain ⟨ty, hty⟩ := hty
        have hw := mW_at (B := B) (b := b) (dA := dA) ha
        have hx : ∃ x : vp_A, mcv B b dA (.inl (t, z, g)) = .inl (dA t, x) ∧ x.1 = z := by
          rcases g with g | g | g | g | g <;> exact ⟨_, rfl, rfl⟩
        obtain ⟨x, hx, hz⟩ := hx
        rw [hx] at hw
        exact va_alen (D := D) E.hx E.hb E.hK hR.2 a t hw hty (by rw [hz]) hd (hk H locs ls hR hS hl)
      · cases hq
    · cases hq
  · cases hq
def q_iast  (len pc : Nat) (lv : List (Nat × Value)) (st : List Value) (h : mh) (k n : Nat) : Option mF := match len, st with
  | 1, .int x :: .int i :: .ref a :: r => (match h[a]? with
    | some (.inl (0, z, .inl f)) => if i < 0 ∨ z ≤ i.toNatClampNeg then none else some (pc + 1, lv, r, h.set a (.inl (0, z, .inl (upd f i.toNatClampNeg x))), k, n)
    | _ => none)
  | _, _ => none
theorem o_iast (E : mE p R s m args meth c B D dA M)  {len pc : Nat} {lv : List (Nat × Value)} {st : List Value} {h : mh} {k n : Nat} {f : mF} (hd : decode (mCd M) pc = .ok (.iastore, len)) (hq : q_iast  len pc lv st h k n = some f) (hk : mV p l e R s m args below meth c Q B b D dA (mLx M) f) : mV p l e R s m args below meth c Q B b D dA (mLx M) (pc, lv, st, h, k, n) := by
  unfold q_iast at hq
  split at hq
  · rename_i x i a r
    split at hq
    · rename_i z f ha
      split at hq
      · cases hq
      · rename_i hc
        cases hq
        intro H locs ls hR hS hl
        refine W.iast E.hx E.hb (hR.2 a _ (mW_at ha)) ((E.hK.2 0 _ rfl).1 z (fun j => .int (f j))) (fun q => by cases q) (by show ¬ (i < 0 ∨ (arrV _ _ _).slots.size ≤ _); rw [arrV_size]; exact hc) rfl rfl hd fun H1 e1 z1 oq => ?_
        refine hk H1 _ ls (mR_set rfl z1 hR (hR.2.set mW_D (mW_at ha) ?_ oq)) (hS.put z1 oq (Nat.le_add_right B a)) hl
        show H1[B + a]? = some (vp_cell _ _)
        rw [e1]
        rw [vp_cell_i, vp_cell_i, arrV_store]
        congr 2
        funext q
        by_cases hq : q = i.toNatClampNeg
        · subst hq
          simp [updV, upd]
          try rfl
        · simp [updV, upd, hq]
    · cases hq
  · cases hq
def q_last  (len pc : Nat) (lv : List (Nat × Value)) (st : List Value) (h : mh) (k n : Nat) : Option mF := match len, st with
  | 1, .long x :: .int i :: .ref a :: r => (match h[a]? with
    | some (.inl (1, z, .inr (.inl f))) => if i < 0 ∨ z ≤ i.toNatClampNeg then none else some (pc + 1, lv, r, h.set a (.inl (1, z, .inr (.inl (vp_updL f i.toNatClampNeg x)))), k, n)
    | _ => none)
  | _, _ => none
theorem o_last (E : mE p R s m args meth c B D dA M)  {len pc : Nat} {lv : List (Nat × Value)} {st : List Value} {h : mh} {k n : Nat} {f : mF} (hd : decode (mCd M) pc = .ok (.lastore, len)) (hq : q_last  len pc lv st h k n = some f) (hk : mV p l e R s m args below meth c Q B b D dA (mLx M) f) : mV p l e R s m args below meth c Q B b D dA (mLx M) (pc, lv, st, h, k, n) := by
  unfold q_last at hq
  split at hq
  · rename_i x i a r
    split at hq
    · rename_i z f ha
      split at hq
      · cases hq
      · rename_i hc
        cases hq
        intro H locs ls hR hS hl
        refine W.last E.hx E.hb (hR.2 a _ (mW_at ha)) ((E.hK.2 1 _ rfl).1 z (fun j => .long (f j))) (fun q => by cases q) (by show ¬ (i < 0 ∨ (arrV _ _ _).slots.size ≤ _); rw [arrV_size]; exact hc) rfl rfl hd fun H1 e1 z1 oq => ?_
        refine hk H1 _ ls (mR_set rfl z1 hR (hR.2.set mW_D (mW_at ha) ?_ oq)) (hS.put z1 oq (Nat.le_add_right B a)) hl
        show H1[B + a]? = some (vp_cell _ _)
        rw [e1]
        rw [vp_cell_l, vp_cell_l, arrV_store]
        congr 2
        funext q
        by_cases hq : q = i.toNatClampNeg
        · subst hq
          simp [updV, vp_updL]
          try rfl
        · simp [updV, vp_updL, hq]
    · cases hq
  · cases hq
def q_bast  (len pc : Nat) (lv : List (Nat × Value)) (st : List Value) (h : mh) (k n : Nat) : Option mF := match len, st with
  | 1, .int x :: .int i :: .ref a :: r => (match h[a]? with
    | some (.inl (2, z, .inl f)) => if i < 0 ∨ z ≤ i.toNatClampNeg then none else some (pc + 1, lv, r, h.set a (.inl (2, z, .inl (upd f i.toNatClampNeg (vp_nar .boolean x)))), k, n)
    | _ => none)
  | _, _ => none
theorem o_bast (E : mE p R s m args meth c B D dA M)  {len pc : Nat} {lv : List (Nat × Value)} {st : List Value} {h : mh} {k n : Nat} {f : mF} (hd : decode (mCd M) pc = .ok (.bastore, len)) (hq : q_bast  len pc lv st h k n = some f) (hk : mV p l e R s m args below meth c Q B b D dA (mLx M) f) : mV p l e R s m args below meth c Q B b D dA (mLx M) (pc, lv, st, h, k, n) := by
  unfold q_bast at hq
  split at hq
  · rename_i x i a r
    split at hq
    · rename_i z f ha
      split at hq
      · cases hq
      · rename_i hc
        cases hq
        intro H locs ls hR hS hl
        refine W.zast E.hx E.hb (hR.2 a _ (mW_at ha)) ((E.hK.2 2 _ rfl).1 z (fun j => .int (f j))) (fun q => by cases q) (by show ¬ (i < 0 ∨ (arrV _ _ _).slots.size ≤ _); rw [arrV_size]; exact hc) rfl rfl hd fun H1 e1 z1 oq => ?_
        refine hk H1 _ ls (mR_set rfl z1 hR (hR.2.set mW_D (mW_at ha) ?_ oq)) (hS.put z1 oq (Nat.le_add_right B a)) hl
        show H1[B + a]? = some (vp_cell _ _)
        rw [e1]
        rw [vp_cell_i, vp_cell_i, arrV_store]
        congr 2
        funext q
        by_cases hq : q = i.toNatClampNeg
        · subst hq
          simp [updV, upd, vp_nar]
          try rfl
        · simp [updV, upd, hq]
    · cases hq
  · cases hq
def q_aast  (len pc : Nat) (lv : List (Nat × Value)) (st : List Value) (h : mh) (k n : Nat) : Option mF := match len, st with
  | 1, .ref v :: .int i :: .ref a :: r => (match h[a]?, h[v]? with
    | some (.inl (t, z, .inr (.inr (.inr (.inr f))))), some (.inr (ci, vs)) => if (t = 3 ∧ ci = 3) ∨ (t = 4 ∧ ci = 0) then (if i < 0 ∨ z ≤ i.toNatClampNeg then none else some (pc + 1, lv, r, h.set a (.inl (t, z, .inr (.inr (.inr (.inr (va_up f i.toNatClampNeg (some v))))))), k, n)) else none
    | _, _ => none)
  | _, _ => none
theorem o_aast (E : mE p R s m args meth c B D dA M)  {len pc : Nat} {lv : List (Nat × Value)} {st : List Value} {h : mh} {k n : Nat} {f : mF} (hd : decode (mCd M) pc = .ok (.aastore, len)) (hq : q_aast  len pc lv st h k n = some f) (hk : mV p l e R s m args below meth c Q B b D dA (mLx M) f) : mV p l e R s m args below meth c Q B b D dA (mLx M) (pc, lv, st, h, k, n) := by
  unfold q_aast at hq
  split at hq
  · rename_i v i a r
    split at hq
    · rename_i t z f ci vs ha hv
      split at hq
      · rename_i ht
        split at hq
        · cases hq
        · rename_i hc
          cases hq
          intro H locs ls hR hS hl
          have hlt : i.toNatClampNeg < z := Nat.not_le.mp fun q => hc (Or.inr q)
          have h0 : ¬ i < 0 := fun q => hc (Or.inl q)
          have h8 : ci < 8 := by omega
          obtain ⟨r', hr', cellV, g1, g2, g3, -⟩ := hR.2 v _ (mW_at hv)
          have hcls := (E.hK.1 ci _ (cl_at h8)).2
          have hty : (mtys dA)[t]? = some (dA t, .object (cN ci)) := by rcases ht with ⟨rfl, rfl⟩ | ⟨rfl, rfl⟩ <;> rfl
          obtain ⟨kA, comp, k1, k2, k3, -⟩ := (E.hK.2 t _ hty).2
          have hcomp : comp = D.1 ci := Option.some.inj (k3.symm.trans hcls.1)
          subst hcomp
          obtain ⟨kC, hkC, -⟩ := hcls.2
          refine W.aast E.hx E.hb (hR.2 a _ (mW_at ha)) (fun q h => by cases h) (fun h => by cases h) k1 k2 rfl hkC ⟨h0, by show _ < (arrV _ _ _).slots.size; rw [arrV_size]; exact hlt⟩ g1 (fun q h => by rw [g3] at h; cases h) (by rw [g2]; exact hkC) (by rw [g2]; exact va_assign hcls) rfl rfl hd fun H1 e1 z1 oq => ?_
          refine hk H1 _ ls (mR_set rfl z1 hR (hR.2.set mW_D (mW_at ha) ?_ oq)) (hS.put z1 oq (Nat.le_add_right B a)) hl
          show H1[B + a]? = some (vp_cell _ _)
          rw [e1]
          rw [vp_cell_q, vp_cell_q, arrV_store]
          congr 2
          funext q
          by_cases hq : q = i.toNatClampNeg
          · subst hq
            simp [updV, va_up, va_rf, mrf]
          · simp [updV, va_up, hq, mrf]
      · cases hq
    · cases hq
  · cases hq
def q_oini (o i fr lo : Nat) (len pc : Nat) (lv : List (Nat × Value)) (st : List Value) (h : mh) (k n : Nat) : Option mF := match len, st with
  | 3, .ref a :: r => (match koT o i with
    | some _ => if 1 ≤ fr ∧ (r.map fun v => v.category).sum + 12 ≤ lo then some (pc + 3, lv, r, h, k, n) else none
    | none => none)
  | _, _ => none
theorem o_oini (E : mE p R s m args meth c B D dA M) {i : Nat} {len pc : Nat} {lv : List (Nat × Value)} {st : List Value} {h : mh} {k n : Nat} {f : mF} (hd : decode (mCd M) pc = .ok (.invokespecial i, len)) (hq : q_oini (mOw M) i (mFr M) (mLo M) len pc lv st h k n = some f) (hk : mV p l e R s m args below meth c Q B b D dA (mLx M) f) : mV p l e R s m args below meth c Q B b D dA (mLx M) (pc, lv, st, h, k, n) := by
  unfold q_oini at hq
  split at hq
  · rename_i a r
    split at hq
    · rename_i u hu
      split at hq
      · rename_i hc
        cases hq
        intro H locs ls hR hS hl
        exact W.objInit E.hx E.hb E.ho (E.ht (koT_ok hu) rfl) (E.ht tb_oi rfl) (E.ht tb_oc rfl) rfl (by rw [E.hm]; exact hl.1) rfl hd (by rw [E.hr]; exact hc.1) (by rw [E.hr]; show 2 * 0 + ((r.map (mv B b)).map fun v => v.category).sum + 12 ≤ mLo M; rw [cat_mv]; omega) (hk H locs ls hR hS hl)
      · cases hq
    · cases hq
  · cases hq
end MH
end
section
section MN
variable {p : Program} {l : Launch} {e : Env} {R : Room} {s : State} {m : MethodId} {args : Array Value} {below : List Frame} {meth : Method} {c : Code} {Q : State → Prop} {B b : Nat} {D : va_G} {dA : Nat → ClassId} {M : mM}
/-- a new cell at the end -/
theorem mR_push {H H1 : Heap} {h : mh} {x : va_E} (hR : mR B b D dA h H) (z1 : H1.size = H.size + 1) (o1 : ∀ q : Nat, q < H.size → H1[q]? = H[q]?) (e1 : va_at D vwCl (H.size, mcv B b dA x) H1) : mR B b D dA (h ++ [x]) H1 := by
  refine ⟨by rw [z1, hR.1, List.length_append]; show B + h.length + 1 = B + (h.length + 1); omega, ?_⟩
  rw [mW_app, ← hR.1]
  refine va_P.app (hR.2.kept (fun j x hx => o1 x.1 ((hR.2 j x hx).lt))) (fun j x hx => ?_)
  have hz : j < 1 := (List.getElem?_eq_some_iff.mp hx).1
  rw [show j = 0 by omega] at hx
  cases hx
  exact e1
theorem mS_push {H H1 : Heap} {locs : List Loc} {s : State} (hS : va_S (mA B) s.heap H locs) (z1 : H1.size = H.size + 1) (o1 : ∀ q : Nat, q < H.size → H1[q]? = H[q]?) : va_S (mA B) s.heap H1 locs :=
  ⟨Nat.le_trans hS.1 (by omega), fun x h1 h2 => (o1 x (Nat.lt_of_lt_of_le h1 hS.1)).trans (hS.2.1 x h1 h2), hS.2.2⟩
theorem nb_le {N : Nat} {ty : FieldType} (h8 : componentBytes ty ≤ 8) (hN : N ≤ 60000000) : N * componentBytes ty ≤ 536870912 := Nat.le_trans (Nat.mul_le_mul hN h8) (by decide)
def q_newi (ce sl : Nat) (len pc : Nat) (lv : List (Nat × Value)) (st : List Value) (h : mh) (k n : Nat) : Option mF := match len, st with
  | 2, .int i :: r => if i < 0 then none else (if k + 1 ≤ ce ∧ n + i.toNatClampNeg ≤ sl ∧ i.toNatClampNeg ≤ 60000000 then some (pc + 2, lv, .ref h.length :: r, h ++ [.inl (0, i.toNatClampNeg, .inl (fun _ => 0))], k + 1, n + i.toNatClampNeg) else none)
  | _, _ => none
theorem o_newi (E : mE p R s m args meth c B D dA M)  {len pc : Nat} {lv : List (Nat × Value)} {st : List Value} {h : mh} {k n : Nat} {f : mF} (hd : decode (mCd M) pc = .ok (.newarray .int, len)) (hq : q_newi (mCe M) (mSl M) len pc lv st h k n = some f) (hk : mV p l e R s m args below meth c Q B b D dA (mLx M) f) : mV p l e R s m args below meth c Q B b D dA (mLx M) (pc, lv, st, h, k, n) := by
  unfold q_newi at hq
  split at hq
  · rename_i i r
    split at hq
    · cases hq
    · rename_i h0
      split at hq
      · rename_i hc
        cases hq
        intro H locs ls hR hS hl
        have hw0 : (Cond.arrayClass .int).before args s = true := E.ht tb_ci rfl
        refine va_newaK E.hx E.hb (atype := .int) hw0 rfl hd rfl h0 rfl (nb_le (ty := .int) (by decide) hc.2.2) (by rw [E.hr]; exact hc.1) (by rw [E.hr]; exact hc.2.1) rfl fun H1 cA e1 z1 o1 hAr hNm => ?_
        have hcA : cA = dA 0 := by
          have h2 : s.vm.findClass ("[" ++ (FieldType.toString .int)) = some (dA 0) := (E.hK.2 0 _ rfl).2
          exact Option.some.inj (hNm.symm.trans h2)
        subst hcA
        refine W.eq (g2 := F0 m (pc + 2) ls (((Value.ref h.length) :: r).map (mv B b))) (by rw [hR.1]; rfl) ?_
        exact hk H1 locs ls (mR_push hR z1 o1 e1) (mS_push hS z1 o1) hl
      · cases hq
  · cases hq
def q_newl (ce sl : Nat) (len pc : Nat) (lv : List (Nat × Value)) (st : List Value) (h : mh) (k n : Nat) : Option mF := match len, st with
  | 2, .int i :: r => if i < 0 then none else (if k + 1 ≤ ce ∧ n + i.toNatClampNeg ≤ sl ∧ i.toNatClampNeg ≤ 60000000 then some (pc + 2, lv, .ref h.length :: r, h ++ [.inl (1, i.toNatClampNeg, .inr (.inl (fun _ => 0)))], k + 1, n + i.toNatClampNeg) else none)
  | _, _ => none
theorem o_newl (E : mE p R s m args meth c B D dA M)  {len pc : Nat} {lv : List (Nat × Value)} {st : List Value} {h : mh} {k n : Nat} {f : mF} (hd : decode (mCd M) pc = .ok (.newarray .long, len)) (hq : q_newl (mCe M) (mSl M) len pc lv st h k n = some f) (hk : mV p l e R s m args below meth c Q B b D dA (mLx M) f) : mV p l e R s m args below meth c Q B b D dA (mLx M) (pc, lv, st, h, k, n) := by
  unfold q_newl at hq
  split at hq
  · rename_i i r
    split at hq
    · cases hq
    · rename_i h0
      split at hq
      · rename_i hc
        cases hq
        intro H locs ls hR hS hl
        have hw0 : (Cond.arrayClass .long).before args s = true := E.ht tb_cl rfl
        refine va_newaK E.hx E.hb (atype := .long) hw0 rfl hd rfl h0 rfl (nb_le (ty := .long) (by decide) hc.2.2) (by rw [E.hr]; exact hc.1) (by rw [E.hr]; exact hc.2.1) rfl fun H1 cA e1 z1 o1 hAr hNm => ?_
        have hcA : cA = dA 1 := by
          have h2 : s.vm.findClass ("[" ++ (FieldType.toString .long)) = some (dA 1) := (E.hK.2 1 _ rfl).2
          exact Option.some.inj (hNm.symm.trans h2)
        subst hcA
        refine W.eq (g2 := F0 m (pc + 2) ls (((Value.ref h.length) :: r).map (mv B b))) (by rw [hR.1]; rfl) ?_
        exact hk H1 locs ls (mR_push hR z1 o1 e1) (mS_push hS z1 o1) hl
      · cases hq
  · cases hq
def q_newz (ce sl : Nat) (len pc : Nat) (lv : List (Nat × Value)) (st : List Value) (h : mh) (k n : Nat) : Option mF := match len, st with
  | 2, .int i :: r => if i < 0 then none else (if k + 1 ≤ ce ∧ n + i.toNatClampNeg ≤ sl ∧ i.toNatClampNeg ≤ 60000000 then some (pc + 2, lv, .ref h.length :: r, h ++ [.inl (2, i.toNatClampNeg, .inl (fun _ => 0))], k + 1, n + i.toNatClampNeg) else none)
  | _, _ => none
theorem o_newz (E : mE p R s m args meth c B D dA M)  {len pc : Nat} {lv : List (Nat × Value)} {st : List Value} {h : mh} {k n : Nat} {f : mF} (hd : decode (mCd M) pc = .ok (.newarray .boolean, len)) (hq : q_newz (mCe M) (mSl M) len pc lv st h k n = some f) (hk : mV p l e R s m args below meth c Q B b D dA (mLx M) f) : mV p l e R s m args below meth c Q B b D dA (mLx M) (pc, lv, st, h, k, n) := by
  unfold q_newz at hq
  split at hq
  · rename_i i r
    split at hq
    · cases hq
    · rename_i h0
      split at hq
      · rename_i hc
        cases hq
        intro H locs ls hR hS hl
        have hw0 : (Cond.arrayClass .boolean).before args s = true := E.ht tb_cz rfl
        refine va_newaK E.hx E.hb (atype := .boolean) hw0 rfl hd rfl h0 rfl (nb_le (ty := .boolean) (by decide) hc.2.2) (by rw [E.hr]; exact hc.1) (by rw [E.hr]; exact hc.2.1) rfl fun H1 cA e1 z1 o1 hAr hNm => ?_
        have hcA : cA = dA 2 := by
          have h2 : s.vm.findClass ("[" ++ (FieldType.toString .boolean)) = some (dA 2) := (E.hK.2 2 _ rfl).2
          exact Option.some.inj (hNm.symm.trans h2)
        subst hcA
        refine W.eq (g2 := F0 m (pc + 2) ls (((Value.ref h.length) :: r).map (mv B b))) (by rw [hR.1]; rfl) ?_
        exact hk H1 locs ls (mR_push hR z1 o1 e1) (mS_push hS z1 o1) hl
      · cases hq
  · cases hq
def q_anew (o i ce sl : Nat) (len pc : Nat) (lv : List (Nat × Value)) (st : List Value) (h : mh) (k n : Nat) : Option mF := match len, st with
  | 3, .int j :: r => (match kcT o i with
    | some ci => if j < 0 then none else (if k + 1 ≤ ce ∧ n + j.toNatClampNeg ≤ sl ∧ j.toNatClampNeg ≤ 60000000 ∧ (ci = 3 ∨ ci = 0) then some (pc + 3, lv, .ref h.length :: r, h ++ [.inl ((if ci = 3 then 3 else 4), j.toNatClampNeg, .inr (.inr (.inr (.inr (fun _ => none)))))], k + 1, n + j.toNatClampNeg) else none)
    | none => none)
  | _, _ => none
theorem o_anew (E : mE p R s m args meth c B D dA M) {i : Nat} {len pc : Nat} {lv : List (Nat × Value)} {st : List Value} {h : mh} {k n : Nat} {f : mF} (hd : decode (mCd M) pc = .ok (.anewarray i, len)) (hq : q_anew (mOw M) i (mCe M) (mSl M) len pc lv st h k n = some f) (hk : mV p l e R s m args below meth c Q B b D dA (mLx M) f) : mV p l e R s m args below meth c Q B b D dA (mLx M) (pc, lv, st, h, k, n) := by
  unfold q_anew at hq
  split at hq
  · rename_i j r
    split at hq
    · rename_i ci hci
      split at hq
      · cases hq
      · rename_i h0
        split at hq
        · rename_i hc
          cases hq
          intro H locs ls hR hS hl
          obtain ⟨h8, hcl, -, -⟩ := kcT_ok hci
          have hov : (Cond.arrayOver (.object (cN ci))).before args s = true := by
            rcases hc.2.2.2 with rfl | rfl
            · exact va_AO.use E.hn.2.1
            · exact va_AO.use E.hn.2.2
          have hty : (mtys dA)[if ci = 3 then 3 else 4]? = some (dA (if ci = 3 then 3 else 4), .object (cN ci)) := by
            rcases hc.2.2.2 with rfl | rfl <;> rfl
          refine W.anew E.hx E.hb E.ho (E.ht hcl rfl) hov rfl hd rfl h0 (by have := hc.2.2.1; omega) (by rw [E.hr]; exact hc.1) (by rw [E.hr]; exact hc.2.1) fun cA kA comp f1 f2 f3 f4 => ?_
          obtain ⟨kA', comp', -, -, -, hNm⟩ := (E.hK.2 _ _ hty).2
          have hcA : cA = dA (if ci = 3 then 3 else 4) := Option.some.inj (f1.symm.trans hNm)
          subst hcA
          generalize hH1 : H.push ({ cls := dA (if ci = 3 then 3 else 4), slots := Array.replicate j.toNatClampNeg .null, vm := .none } : Cell) = H1
          have z1 : H1.size = H.size + 1 := by rw [← hH1, Array.size_push]
          have e1 : H1[H.size]? = some (arrV (dA (if ci = 3 then 3 else 4)) j.toNatClampNeg (fun _ => .null)) := by rw [← hH1, Array.getElem?_push_size, ← arrV_new]
          have o1 : ∀ q : Nat, q < H.size → H1[q]? = H[q]? := fun q hq => by rw [← hH1, Array.getElem?_push, if_neg (Nat.ne_of_lt hq)]
          refine W.eq (g2 := F0 m (pc + 3) ls (((Value.ref h.length) :: r).map (mv B b))) (by rw [hR.1]; rfl) ?_
          exact hk H1 locs ls (mR_push hR z1 o1 e1) (mS_push hS z1 o1) hl
        · cases hq
    · cases hq
  · cases hq
def dfl (ci : Nat) : List Value := (List.range (cF ci)).map (fun j => defaultValue (cY ci j))
theorem dfl_at {ci j : Nat} (hj : j < cF ci) : defaultValue (cY ci j) = vp_V ((dfl ci).map (mv B b)) j := by
  unfold vp_V dfl
  rw [List.getD_eq_getElem?_getD, List.getElem?_map, List.getElem?_map, List.getElem?_range hj]
  show _ = mv B b (defaultValue (cY ci j))
  cases cY ci j <;> rfl
def q_new (o i ce sl : Nat) (len pc : Nat) (lv : List (Nat × Value)) (st : List Value) (h : mh) (k n : Nat) : Option mF := match len, kcT o i with
  | 3, some ci => if k + 1 ≤ ce ∧ n + cF ci ≤ sl then some (pc + 3, lv, .ref h.length :: st, h ++ [.inr (ci, dfl ci)], k + 1, n + cF ci) else none
  | _, _ => none
theorem o_new (E : mE p R s m args meth c B D dA M) {i : Nat} {len pc : Nat} {lv : List (Nat × Value)} {st : List Value} {h : mh} {k n : Nat} {f : mF} (hd : decode (mCd M) pc = .ok (.new i, len)) (hq : q_new (mOw M) i (mCe M) (mSl M) len pc lv st h k n = some f) (hk : mV p l e R s m args below meth c Q B b D dA (mLx M) f) : mV p l e R s m args below meth c Q B b D dA (mLx M) (pc, lv, st, h, k, n) := by
  unfold q_new at hq
  split at hq
  · rename_i ci hci
    split at hq
    · rename_i hc
      cases hq
      intro H locs ls hR hS hl
      obtain ⟨h8, hcl, hin, hini⟩ := kcT_ok hci
      have hKn := E.hK.1 ci _ (cl_at h8)
      refine W.newcK E.hx E.hb E.ho (E.ht hcl rfl) (E.ht hin rfl) (E.ht hini rfl) rfl hd (by rw [E.hr]; exact hc.1) (by rw [E.hr]; exact hc.2) hKn.2.1 rfl fun H1 kC hkC e1 z1 o1 => ?_
      refine W.eq (g2 := F0 m (pc + 3) ls (((Value.ref h.length) :: st).map (mv B b))) (by rw [hR.1]; rfl) ?_
      exact hk H1 locs ls (mR_push hR z1 o1 ⟨_, cl_at h8, (u_born (cY ci) E.hg (cl_ig h8) hKn hkC e1 (cl_ty h8)).to (fun j hj => dfl_at hj)⟩) (mS_push hS z1 o1) hl
    · cases hq
  · cases hq
def q_acopy (o i fr lo : Nat) (len pc : Nat) (lv : List (Nat × Value)) (st : List Value) (h : mh) (k n : Nat) : Option mF := match len, st with
  | 3, .int q :: .int dp :: .ref a :: .int sp :: .ref a0 :: r => (match kaT o i, h[a0]?, h[a]? with
    | some _, some (.inl (0, n0, .inl u)), some (.inl (0, n1, .inl g)) => if sp < 0 ∨ dp < 0 ∨ q < 0 ∨ n0 < sp.toNatClampNeg + q.toNatClampNeg ∨ n1 < dp.toNatClampNeg + q.toNatClampNeg then none else (if 1 ≤ fr ∧ (r.map fun v => v.category).sum + (nativeFrameWords "java/lang/System" "arraycopy" 5 + 11) ≤ lo then some (pc + 3, lv, r, h.set a (.inl (0, n1, .inl (va_cpy u g sp.toNatClampNeg dp.toNatClampNeg q.toNatClampNeg))), k, n) else none)
    | _, _, _ => none)
  | _, _ => none
theorem o_acopy (E : mE p R s m args meth c B D dA M) {i : Nat} {len pc : Nat} {lv : List (Nat × Value)} {st : List Value} {h : mh} {k n : Nat} {f : mF} (hd : decode (mCd M) pc = .ok (.invokestatic i, len)) (hq : q_acopy (mOw M) i (mFr M) (mLo M) len pc lv st h k n = some f) (hk : mV p l e R s m args below meth c Q B b D dA (mLx M) f) : mV p l e R s m args below meth c Q B b D dA (mLx M) (pc, lv, st, h, k, n) := by
  unfold q_acopy at hq
  split at hq
  · rename_i q dp a sp a0 r
    split at hq
    · rename_i w1 n0 u n1 g hka ha0 ha
      split at hq
      · cases hq
      · rename_i hc
        split at hq
        · rename_i hroom
          cases hq
          intro H locs ls hR hS hl T hT X
          have h1 : ¬ sp < 0 := fun z => hc (Or.inl z)
          have h2 : ¬ dp < 0 := fun z => hc (Or.inr (Or.inl z))
          have h3 : ¬ q < 0 := fun z => hc (Or.inr (Or.inr (Or.inl z)))
          have h4 : sp.toNatClampNeg + q.toNatClampNeg ≤ n0 := Nat.not_lt.mp fun z => hc (Or.inr (Or.inr (Or.inr (Or.inl z))))
          have h5 : dp.toNatClampNeg + q.toNatClampNeg ≤ n1 := Nat.not_lt.mp fun z => hc (Or.inr (Or.inr (Or.inr (Or.inr z))))
          have nn : ∀ z : Int32, ¬ z < 0 → z.toInt = (z.toNatClampNeg : Int) := by
            intro z hz
            have hz0 : (0 : Int) ≤ z.toInt := by
              have := Int32.not_lt.mp hz
              simpa using Int32.le_iff_toInt_le.mp this
            show z.toInt = ((z.toInt.toNat : Nat) : Int)
            omega
          have c0 : H[B + a0]? = some (vp_cell (dA 0) (n0, .inl u)) := hR.2 a0 _ (mW_at ha0)
          have c1 : H[B + a]? = some (vp_cell (dA 0) (n1, .inl g)) := hR.2 a _ (mW_at ha)
          obtain ⟨-, k0, hk0, cm0, hkk0⟩ := (E.hK.2 0 _ rfl).1 n0 (fun j => .int (u j))
          obtain ⟨vm', X', stp⟩ := X.arraycopy E.hx E.ho (E.ht (kaT_ok hka) rfl) (E.ht tb_an rfl) (E.ht tb_as rfl) (E.ht tb_ai rfl) (src := B + a0) (dst := B + a) (cs := vp_cell (dA 0) (n0, .inl u)) (cd := vp_cell (dA 0) (n1, .inl g)) (srcPos := sp) (destPos := dp) (n := q) (by rw [hT]; exact c0) (by rw [hT]; exact c1) (fun _ h => by cases h) (fun _ h => by cases h) (fun h => by cases h) (fun h => by cases h) hk0 hk0 hkk0 hkk0 (by simp [refKind]) h1 h2 h3
            (by rw [nn sp h1, nn q h3]; show ¬ _ > ((arrV (dA 0) n0 (fun j => .int (u j))).slots.size : Int); rw [arrV_size]; omega)
            (by rw [nn dp h2, nn q h3]; show ¬ _ > ((arrV (dA 0) n1 (fun j => .int (g j))).slots.size : Int); rw [arrV_size]; omega)
            (fun vm₁ _ i hi => by
              have e9 : (vp_cell (dA 0) (n0, .inl u)).slots.getD (sp.toNatClampNeg + i) .null = .int (u (sp.toNatClampNeg + i)) := by
                show (arrV (dA 0) n0 (fun j => .int (u j))).slots.getD _ _ = _
                rw [Array.getD_eq_getD_getElem?, arrV_read _ _ (by omega)]
                rfl
              exact ⟨by rw [e9]; rfl, by rw [e9]; trivial⟩)
            (g := F0 m pc ls ((Value.int q :: .int dp :: .ref a :: .int sp :: .ref a0 :: r).map (mv B b))) rfl (by rw [E.hm]; exact hl.1) (rest := r.map (mv B b)) rfl (by rw [E.hb]; exact hd) (by rw [E.hr]; exact hroom.1) (by rw [E.hr]; show 2 * 0 + ((r.map (mv B b)).map fun v => v.category).sum + _ ≤ mLo M; rw [cat_mv]; have := hroom.2; omega)
          rw [show copied (vp_cell (dA 0) (n0, .inl u)) (vp_cell (dA 0) (n1, .inl g)) sp dp q = vp_cell (dA 0) (n1, .inl (va_cpy u g sp.toNatClampNeg dp.toNatClampNeg q.toNatClampNeg)) from va_copied (fun z => .int z) (dA 0) (dA 0) u g h4] at X' stp
          have hlt : B + a < H.size := (Array.getElem?_eq_some_iff.mp c1).1
          generalize hH1 : H.setIfInBounds (B + a) (vp_cell (dA 0) (n1, .inl (va_cpy u g sp.toNatClampNeg dp.toNatClampNeg q.toNatClampNeg))) = H1
          have z1 : H1.size = H.size := by rw [← hH1]; simp
          have oq : ∀ x : Nat, x ≠ B + a → H1[x]? = H[x]? := fun x hx => by rw [← hH1]; simp [Array.getElem?_setIfInBounds, Ne.symm hx]
          have e1 : H1[B + a]? = some (vp_cell (dA 0) (n1, .inl (va_cpy u g sp.toNatClampNeg dp.toNatClampNeg q.toNatClampNeg))) := by rw [← hH1]; simp [Array.getElem?_setIfInBounds, hlt]
          obtain ⟨t, a1, b1⟩ := hk H1 _ ls (mR_set rfl z1 hR (hR.2.set mW_D (mW_at ha) e1 oq)) ⟨by rw [z1]; exact hS.1, fun x g1 g2 => by
              rw [oq x (fun e => g2 (by rw [e]; exact Nat.le_add_right B a))]
              exact hS.2.1 x g1 g2, fun x hx => by
              rcases List.mem_append.mp hx with h | h
              · exact hS.2.2 x h
              · obtain ⟨z, -, hz⟩ := List.mem_map.mp h
                rw [← hz]
                exact Nat.le_add_right B a⟩ hl _ (by rw [← hH1, ← hT]; rfl) X'
          exact ⟨t, stp t a1, b1⟩
        · cases hq
    · cases hq
  · cases hq
end MN
end
section
/-! THE CLAIM OUT OF ONE WALK OF THE LAW'S BODY. Your part is whole_start (and what it stands on); all else here is the same for every law, but numbers. -/
def R_law : String := "HullFoundryLaw"
def lw_P (b : Addr) (xs : List Int32) (args : Array Value) (s : State) : Prop := args = #[.ref b] ∧ s.IntsAt b xs ∧ xs.length ≤ 3072 ∧ (Jvm.Cond.and given_1 narrow_1).before args s = true
def lw_Q (_ : Array Value) (s : State) (o : Outcome) (t : State) : Prop := o = .returned (some (.int 1)) ∧ Framed s o t [] 600000 7302250
def lw_Z (below : List Frame) (a : Array Value) (s : State) : State → Prop := fun t => ∃ o, t.status = .running ∧ Ended t below o ∧ lw_Q a s o t
/-- the law's own end, with 1 on the stack, nothing written that was there before, its room as the claim has it -/
theorem lw_ret {p : Program} {l : Launch} {e : Env} {s : State} {m : MethodId} {below : List Frame} {meth : Method} {c : Code} {b : Nat} (hx : p.tables.exec = Jvm.exec) (hb : c.code = code) (hr : meth.sig.returnType = ret) (hlocks : meth.locks = false) {pc : Nat} {H : Heap} {ls : Array Slot} (hdg : decode code pc = .ok (.ireturn, 1)) : W p l e room_1 s m #[Value.ref b] below meth c H [] 600000 7302250 (lw_Z below #[Value.ref b] s) (F0 m pc ls [.int 1]) := by
  intro T hT X
  obtain ⟨fs, hret, hrun, hended, hW, hframe⟩ := X.leave (v := some (.int 1)) (hlocks := hlocks) (fun h => by rw [hr] at h; cases h)
  have hmeth' : T.vm.method? m = some meth := X.method'
  refine ⟨T.setFrames fs, ?_, .returned (some (.int 1)), hrun, hended, rfl, ⟨_, rfl⟩, hW, hframe⟩
  jvm_step X.here [X.here.top, hx, hb, hdg, hmeth', hr, ret, narrow_b1]
  (try refine ⟨rfl, ?_⟩); (try refine ⟨rfl, ?_⟩)
  first | (intro acts; rw [hret _ acts rfl rfl rfl]) | rw [hret _ _ rfl rfl rfl]
  exact Steps.refl _
/-- what holds at the law's entry: the machine, the code, the tables' words (any of lw_tbl by 'hts w (by decide +kernel)'), the script of L ints xs at the cell b, what the Statement gives of the start (any of its parts by flat_of_before) -/
def lw_At (p : Program) (s : State) (m : MethodId) (meth : Method) (c : Code) (b L : Nat) (xs : Nat → Int32) : Prop :=
  p.tables.exec = Jvm.exec ∧ c.code = code ∧ meth.sig.returnType = ret ∧ c.maxLocals = 4 ∧ s.vm.findClass R_law = some m.cls ∧ (∀ w ∈ lw_tbl, w.before #[Value.ref b] s = true) ∧ va_X b L xs s s.heap ∧ b < s.heap.size ∧ meth.locks = false ∧ (Jvm.Cond.and given_1 narrow_1).before #[Value.ref b] s = true

def mins (M : mM) (ins : Instr) (len pc : Nat) (lv : List (Nat × Value)) (st : List Value) (h : mh) (k n : Nat) : Option mF := match ins with
  | .iadd => q_iadd  len pc lv st h k n
  | .isub => q_isub  len pc lv st h k n
  | .imul => q_imul  len pc lv st h k n
  | .iand => q_iand  len pc lv st h k n
  | .ior => q_ior  len pc lv st h k n
  | .ishl => q_ishl  len pc lv st h k n
  | .ishr => q_ishr  len pc lv st h k n
  | .idiv => q_idiv  len pc lv st h k n
  | .irem => q_irem  len pc lv st h k n
  | .ladd => q_ladd  len pc lv st h k n
  | .lsub => q_lsub  len pc lv st h k n
  | .lmul => q_lmul  len pc lv st h k n
  | .ldiv => q_ldiv  len pc lv st h k n
  | .lrem => q_lrem  len pc lv st h k n
  | .ineg => q_ineg  len pc lv st h k n
  | .lneg => q_lneg  len pc lv st h k n
  | .i2l => q_i2l  len pc lv st h k n
  | .l2i => q_l2i  len pc lv st h k n
  | .lcmp => q_lcmp  len pc lv st h k n
  | .dup => q_dup  len pc lv st h k n
  | .pop => q_pop  len pc lv st h k n
  | .dup2 => q_dup2  len pc lv st h k n
  | .iconst i => q_iconst i len pc lv st h k n
  | .bipush i => q_bipush i len pc lv st h k n
  | .sipush i => q_sipush i len pc lv st h k n
  | .lconst i => q_lconst i len pc lv st h k n
  | .iload i => q_iload i len pc lv st h k n
  | .iload_n i => q_iload_n i len pc lv st h k n
  | .lload i => q_lload i len pc lv st h k n
  | .lload_n i => q_lload_n i len pc lv st h k n
  | .aload i => q_aload i len pc lv st h k n
  | .aload_n i => q_aload_n i len pc lv st h k n
  | .istore i => q_istore i (mLx M) len pc lv st h k n
  | .istore_n i => q_istore_n i (mLx M) len pc lv st h k n
  | .lstore i => q_lstore i (mLx M) len pc lv st h k n
  | .lstore_n i => q_lstore_n i (mLx M) len pc lv st h k n
  | .astore i => q_astore i (mLx M) len pc lv st h k n
  | .astore_n i => q_astore_n i (mLx M) len pc lv st h k n
  | .iinc i d => q_iinc i d (mLx M) len pc lv st h k n
  | .ifCond .eq d => q_if_eq d len pc lv st h k n
  | .if_icmp .eq d => q_icmp_eq d len pc lv st h k n
  | .ifCond .ne d => q_if_ne d len pc lv st h k n
  | .if_icmp .ne d => q_icmp_ne d len pc lv st h k n
  | .ifCond .lt d => q_if_lt d len pc lv st h k n
  | .if_icmp .lt d => q_icmp_lt d len pc lv st h k n
  | .ifCond .ge d => q_if_ge d len pc lv st h k n
  | .if_icmp .ge d => q_icmp_ge d len pc lv st h k n
  | .ifCond .gt d => q_if_gt d len pc lv st h k n
  | .if_icmp .gt d => q_icmp_gt d len pc lv st h k n
  | .ifCond .le d => q_if_le d len pc lv st h k n
  | .if_icmp .le d => q_icmp_le d len pc lv st h k n
  | .goto d => q_goto d len pc lv st h k n
  | .tableswitch df lo hi offs => q_tabsw df lo hi offs len pc lv st h k n
  | .ldc i => q_ldc (mOw M) i len pc lv st h k n
  | .ldc_w i => q_ldc_w (mOw M) i len pc lv st h k n
  | .ldc2_w i => q_ldc2 (mOw M) i len pc lv st h k n
  | .getfield i => q_getf (mOw M) i len pc lv st h k n
  | .putfield i => q_putf (mOw M) i (mIn M) len pc lv st h k n
  | .iaload => q_iald  len pc lv st h k n
  | .laload => q_lald  len pc lv st h k n
  | .baload => q_bald  len pc lv st h k n
  | .aaload => q_aald  len pc lv st h k n
  | .arraylength => q_alen  len pc lv st h k n
  | .iastore => q_iast  len pc lv st h k n
  | .lastore => q_last  len pc lv st h k n
  | .bastore => q_bast  len pc lv st h k n
  | .aastore => q_aast  len pc lv st h k n
  | .invokespecial i => q_oini (mOw M) i (mFr M) (mLo M) len pc lv st h k n
  | .newarray .int => q_newi (mCe M) (mSl M) len pc lv st h k n
  | .newarray .long => q_newl (mCe M) (mSl M) len pc lv st h k n
  | .newarray .boolean => q_newz (mCe M) (mSl M) len pc lv st h k n
  | .anewarray i => q_anew (mOw M) i (mCe M) (mSl M) len pc lv st h k n
  | .new i => q_new (mOw M) i (mCe M) (mSl M) len pc lv st h k n
  | .invokestatic i => q_acopy (mOw M) i (mFr M) (mLo M) len pc lv st h k n
  | _ => none
section MS
variable {p : Program} {l : Launch} {e : Env} {R : Room} {s : State} {m : MethodId} {args : Array Value} {below : List Frame} {meth : Method} {c : Code} {Q : State → Prop} {B b : Nat} {D : va_G} {dA : Nat → ClassId} {M : mM}
theorem mins_ok (E : mE p R s m args meth c B D dA M) {ins : Instr} {len pc : Nat} {lv : List (Nat × Value)} {st : List Value} {h : mh} {k n : Nat} {f : mF} (hd : decode (mCd M) pc = .ok (ins, len)) (hq : mins M ins len pc lv st h k n = some f) (hk : mV p l e R s m args below meth c Q B b D dA (mLx M) f) : mV p l e R s m args below meth c Q B b D dA (mLx M) (pc, lv, st, h, k, n) := by
  unfold mins at hq
  split at hq
  · exact o_iadd E hd hq hk
  · exact o_isub E hd hq hk
  · exact o_imul E hd hq hk
  · exact o_iand E hd hq hk
  · exact o_ior E hd hq hk
  · exact o_ishl E hd hq hk
  · exact o_ishr E hd hq hk
  · exact o_idiv E hd hq hk
  · exact o_irem E hd hq hk
  · exact o_ladd E hd hq hk
  · exact o_lsub E hd hq hk
  · exact o_lmul E hd hq hk
  · exact o_ldiv E hd hq hk
  · exact o_lrem E hd hq hk
  · exact o_ineg E hd hq hk
  · exact o_lneg E hd hq hk
  · exact o_i2l E hd hq hk
  · exact o_l2i E hd hq hk
  · exact o_lcmp E hd hq hk
  · exact o_dup E hd hq hk
  · exact o_pop E hd hq hk
  · exact o_dup2 E hd hq hk
  · exact o_iconst E hd hq hk
  · exact o_bipush E hd hq hk
  · exact o_sipush E hd hq hk
  · exact o_lconst E hd hq hk
  · exact o_iload E hd hq hk
  · exact o_iload_n E hd hq hk
  · exact o_lload E hd hq hk
  · exact o_lload_n E hd hq hk
  · exact o_aload E hd hq hk
  · exact o_aload_n E hd hq hk
  · exact o_istore E hd hq hk
  · exact o_istore_n E hd hq hk
  · exact o_lstore E hd hq hk
  · exact o_lstore_n E hd hq hk
  · exact o_astore E hd hq hk
  · exact o_astore_n E hd hq hk
  · exact o_iinc E hd hq hk
  · exact o_if_eq E hd hq hk
  · exact o_icmp_eq E hd hq hk
  · exact o_if_ne E hd hq hk
  · exact o_icmp_ne E hd hq hk
  · exact o_if_lt E hd hq hk
  · exact o_icmp_lt E hd hq hk
  · exact o_if_ge E hd hq hk
  · exact o_icmp_ge E hd hq hk
  · exact o_if_gt E hd hq hk
  · exact o_icmp_gt E hd hq hk
  · exact o_if_le E hd hq hk
  · exact o_icmp_le E hd hq hk
  · exact o_goto E hd hq hk
  · exact o_tabsw E hd hq hk
  · exact o_ldc E hd hq hk
  · exact o_ldc_w E hd hq hk
  · exact o_ldc2 E hd hq hk
  · exact o_getf E hd hq hk
  · exact o_putf E hd hq hk
  · exact o_iald E hd hq hk
  · exact o_lald E hd hq hk
  · exact o_bald E hd hq hk
  · exact o_aald E hd hq hk
  · exact o_alen E hd hq hk
  · exact o_iast E hd hq hk
  · exact o_last E hd hq hk
  · exact o_bast E hd hq hk
  · exact o_aast E hd hq hk
  · exact o_oini E hd hq hk
  · exact o_newi E hd hq hk
  · exact o_newl E hd hq hk
  · exact o_newz E hd hq hk
  · exact o_anew E hd hq hk
  · exact o_new E hd hq hk
  · exact o_acopy E hd hq hk
  · cases hq
/-- the decode rows of a method, in one -/
def mOd (M : mM) : Prop := ∀ q ∈ mTb M, decode (mCd M) q.1 = .ok q.2
theorem mOd.get (h : mOd M) {pc : Nat} {x : Instr × Nat} (hx : asc (mTb M) pc = some x) : decode (mCd M) pc = .ok x := by
  have h2 := h (pc, x) (asc_mem hx)
  exact h2
def mst (M : mM) (f : mF) : Option mF := match asc (mTb M) f.1 with
  | some (ins, len) => mins M ins len f.1 f.2.1 f.2.2.1 f.2.2.2.1 f.2.2.2.2.1 f.2.2.2.2.2
  | none => none
def mrun (M : mM) : Nat → mF → Option mF
  | 0, f => some f
  | n + 1, f => match mst M f with
    | some g => mrun M n g
    | none => none
theorem mst_ok (E : mE p R s m args meth c B D dA M) (hod : mOd M) {f g : mF} (hq : mst M f = some g) (hk : mV p l e R s m args below meth c Q B b D dA (mLx M) g) : mV p l e R s m args below meth c Q B b D dA (mLx M) f := by
  unfold mst at hq
  split at hq
  · rename_i ins len hx
    exact mins_ok E (hod.get hx) hq hk
  · cases hq
theorem mrun_ok (E : mE p R s m args meth c B D dA M) (hod : mOd M) : ∀ (n : Nat) {f g : mF}, mrun M n f = some g → mV p l e R s m args below meth c Q B b D dA (mLx M) g → mV p l e R s m args below meth c Q B b D dA (mLx M) f
  | 0, f, g, hq, hk => by cases hq; exact hk
  | n + 1, f, g, hq, hk => by
    unfold mrun at hq
    split at hq
    · rename_i f1 h1
      exact mst_ok E hod h1 (mrun_ok E hod n hq hk)
    · cases hq
end MS
end
section
section MS
variable {p : Program} {l : Launch} {e : Env} {R : Room} {s : State} {m : MethodId} {args : Array Value} {below : List Frame} {meth : Method} {c : Code} {Q : State → Prop} {B b : Nat} {D : va_G} {dA : Nat → ClassId} {M : mM}
/-- what a method must be, to be called -/
def mOK (M : mM) : Prop := plainName (mNm M).cls = true ∧ Cond.code (mNm M) (mCd M) (mLx M) (mRt M) ∈ lw_tbl ∧ (mNm M).cls = cN (mOw M) ∧ ((mNm M).cls ≠ "java/lang/invoke/MethodHandle" ∧ (mNm M).cls ≠ "java/lang/invoke/VarHandle") ∧ (parseMethodDescriptor (mNm M).desc).map (fun d => d.parameters.length) = some (mAr M) ∧ (mIn M = true → (mNm M).name = "<init>")
def mws (M : mM) : List Cond := Cond.code (mNm M) (mCd M) (mLx M) (mRt M) :: lw_g
theorem gin {ws : List Cond} (h : ∀ w ∈ ws, w ∈ lw_g) : GoodIn lw_g ws := fun w hw => ⟨h w hw, good_of_word (List.mem_filter.mp (h w hw)).2⟩
theorem mws_in (ok : mOK M) : ∀ w ∈ mws M, w ∈ lw_g := fun w hw => by
  rcases List.mem_cons.mp hw with rfl | h
  · exact lg_in ok.2.1 rfl
  · exact h
def mQ (B b : Nat) (D : va_G) (dA : Nat → ClassId) (o : mh × Option Value) : Array Value → State → Outcome → State → Prop := fun _ st oc t => oc = .returned (o.2.map (mv B b)) ∧ mR B b D dA o.1 t.heap ∧ va_F (mA B) st t
def mPc (B b : Nat) (D : va_G) (dA : Nat → ClassId) (a : List Value) (h : mh) : Array Value → State → Prop := va_Pc (a.map (mv B b)) (fun U => mR B b D dA h U.heap ∧ B ≤ U.heap.size ∧ va_K D vwCl (mtys dA) U ∧ mNs U)
/-- THE CONTRACT: called with a over the cells h, the method returns with o's cells and o's answer -/
def mC (M : mM) (a : List Value) (h : mh) (o : mh × Option Value) : Prop := ∀ (l : Launch) (B b : Nat) (D : va_G) (dA : Nat → ClassId), Met l (mNm M) (mws M) (mRm M) (mPc B b D dA a h) (mQ B b D dA o) (mCe M) (mSl M) (mA B)
theorem mPc_blind {a : List Value} {h : mh} : FrameBlind (mPc B b D dA a h) := fun x U g mk q => by
  obtain ⟨q0, q1, q2, q3, q4⟩ := q
  exact ⟨q0, q1, q2, va_K.moved (u := U) (U := U.calling g mk x) (Vm.Alike.refl U.vm) q3, mNs.same (s := U) (U := U.calling g mk x) rfl q4⟩
/-- behind a call -/
theorem mV_back {mc ms pc : Nat} {lv : List (Nat × Value)} {st rest : List Value} {k n : Nat} {o : mh × Option Value} {aa : Array Value} {H : Heap} {locs : List Loc} {ls : Array Slot} (hS : va_S (mA B) s.heap H locs) (hl : lv_has ls (mLx M) (lv.map (mg B b))) (hrun : va_Run p l e R s m args below meth c H locs k n mc ms (F0 m pc ls (st.map (mv B b))) (rest.map (mv B b)) (mQ B b D dA o aa) (mA B)) (hk : mV p l e R s m args below meth c Q B b D dA (mLx M) (pc + 3, lv, o.2.toList ++ rest, o.1, k + mc, n + ms)) : W p l e R s m args below meth c H locs k n Q (F0 m pc ls (st.map (mv B b))) := by
  intro T hT X
  obtain ⟨v, st₀, t, T', L, h0, X', hL, e1, e2, ⟨hv, hR1, hz, hkp⟩, stp⟩ := hrun T hT X
  cases hv
  rw [h0] at hz hkp
  have hS1 : va_S (mA B) s.heap T'.heap (locs ++ L) := ⟨Nat.le_trans hS.1 (by rw [e1]; exact hz), fun q h1 h2 => by rw [e1, hkp q (Nat.lt_of_lt_of_le h1 hS.1) h2]; exact hS.2.1 q h1 h2, fun q hq => by
    rcases List.mem_append.mp hq with h | h
    · exact hS.2.2 q h
    · exact hL q h⟩
  obtain ⟨t2, a1, b1⟩ := hk T'.heap (locs ++ L) ls (by rw [e1]; exact hR1) hS1 hl T' rfl X'
  refine ⟨t2, stp t2 ?_, b1⟩
  have e5 : (o.2.map (mv B b)).toList ++ rest.map (mv B b) = (o.2.toList ++ rest).map (mv B b) := by cases o.2 <;> rfl
  rw [e5]
  exact a1
theorem mPc_at {H : Heap} {locs : List Loc} {a : List Value} {h : mh} (E : mE p R s m args meth c B D dA M) (hS : va_S (mA B) s.heap H locs) (hR : mR B b D dA h H) {U : State} (hU : U.heap = H) (hW : s.WarmedH U.vm) : mPc B b D dA a h (a.map (mv B b)).toArray U :=
  ⟨rfl, by rw [hU]; exact hR, by rw [hU]; exact Nat.le_trans E.hz hS.1, va_K.moved hW.alike E.hK, mNs.warm hW E.hn⟩
def mRo (M M2 : mM) (k n : Nat) (rest : List Value) : Bool := decide (mFr M2 + 1 ≤ mFr M) && decide (8 + (mLx M2 + 11) + mLo M2 ≤ mLo M) && decide (k + mCe M2 ≤ mCe M) && decide (n + mSl M2 ≤ mSl M) && decide ((rest.map fun v => v.category).sum ≤ 8)
theorem mRo_ok {M2 : mM} {k n : Nat} {rest : List Value} (h : mRo M M2 k n rest = true) : mFr M2 + 1 ≤ mFr M ∧ 8 + (mLx M2 + 11) + mLo M2 ≤ mLo M ∧ k + mCe M2 ≤ mCe M ∧ n + mSl M2 ≤ mSl M ∧ (rest.map fun v => v.category).sum ≤ 8 := by
  unfold mRo at h
  simp only [Bool.and_eq_true, decide_eq_true_eq] at h
  exact ⟨h.1.1.1.1, h.1.1.1.2, h.1.1.2, h.1.2, h.2⟩
/-- calls: by a link of the class's own -/
def mLV (o i : Nat) (M2 : mM) : Prop := Cond.methodLink (cN o) i (mNm M2) ∈ lw_tbl ∧ Cond.instanceMethod (mNm M2) ∈ lw_tbl ∧ Cond.selects (cN (mOw M2)) (mNm M2) (mNm M2) ∈ lw_tbl ∧ Cond.initialized (cN (mOw M2)) ∈ lw_tbl ∧ mOw M2 < 8
def mLS (o i : Nat) (M2 : mM) : Prop := Cond.methodLink (cN o) i (mNm M2) ∈ lw_tbl ∧ Cond.static (mNm M2) ∈ lw_tbl ∧ Cond.initialized (cN (mOw M2)) ∈ lw_tbl
def mLI (o i : Nat) (M2 : mM) : Prop := Cond.methodLink (cN o) i (mNm M2) ∈ lw_tbl ∧ Cond.instanceMethod (mNm M2) ∈ lw_tbl ∧ Cond.initialized (cN (mOw M2)) ∈ lw_tbl ∧ mIn M2 = true ∧ mRt M2 = none
def mNS (o i : Nat) (M2 : mM) : Prop := (∃ x, (o, i, mNm M2, x) ∈ nT) ∧ Cond.static (mNm M2) ∈ lw_tbl ∧ Cond.initialized (cN (mOw M2)) ∈ lw_tbl
def mNI (o i : Nat) (M2 : mM) : Prop := (∃ x, (o, i, mNm M2, x) ∈ nT) ∧ Cond.instanceMethod (mNm M2) ∈ lw_tbl ∧ Cond.initialized (cN (mOw M2)) ∈ lw_tbl ∧ mIn M2 = true ∧ mRt M2 = none
variable {M2 : mM} {i pc : Nat} {lv : List (Nat × Value)} {st rest as : List Value} {h : mh} {k n a : Nat} {o : mh × Option Value} {fs : List Value}
theorem mCB (E : mE p R s m args meth c B D dA M) (ok2 : mOK M2) (hl : Cond.methodLink (cN (mOw M)) i (mNm M2) ∈ lw_tbl) (hi : Cond.initialized (cN (mOw M2)) ∈ lw_tbl) (hr : mFr M2 + 1 ≤ mFr M ∧ 8 + (mLx M2 + 11) + mLo M2 ≤ mLo M) : CallB R s args (cN (mOw M)) i (mNm M2) (mCd M2) (mLx M2) (mRt M2) (mws M2) (mRm M2) (mCe M2) (mSl M2) (mAr M2) :=
  callB_of (mAr M2) E.hg (gin (mws_in ok2)) rfl rfl rfl (by rw [ok2.2.2.1]; exact E.ht hi rfl) (E.ht hl rfl) ⟨ok2.2.2.2.1.1, ok2.2.2.2.1.2, ok2.2.2.2.2.1⟩ (by rw [E.hr]; exact hr)
theorem mCN (E : mE p R s m args meth c B D dA M) (ok2 : mOK M2) (hl : ∃ x, (mOw M, i, mNm M2, x) ∈ nT) (hi : Cond.initialized (cN (mOw M2)) ∈ lw_tbl) (hr : mFr M2 + 1 ≤ mFr M ∧ 8 + (mLx M2 + 11) + mLo M2 ≤ mLo M) : ∃ x, va_CN R s args (cN (mOw M)) i (mNm M2) x (mCd M2) (mLx M2) (mRt M2) (mws M2) (mRm M2) (mCe M2) (mSl M2) (mAr M2) := by
  obtain ⟨x, hx⟩ := hl
  exact ⟨x, va_cnB (mAr M2) E.hg (gin (mws_in ok2)) rfl rfl rfl (E.hn.1 _ hx) (by rw [ok2.2.2.1]; exact E.ht hi rfl) ⟨ok2.2.2.2.1.1, ok2.2.2.2.1.2, ok2.2.2.2.2.1⟩ (by rw [E.hr]; exact hr)⟩
theorem mV_callV (E : mE p R s m args meth c B D dA M) (ok2 : mOK M2) (hl : mLV (mOw M) i M2) (hd : decode (mCd M) pc = .ok (.invokevirtual i, 3)) (hC : mC M2 (.ref a :: as) h o) (ha : h[a]? = some (.inr (mOw M2, fs))) (hn : as.length = mAr M2) (hro : mRo M M2 k n rest = true) (hst : st = as.reverse ++ .ref a :: rest) (hk : mV p l e R s m args below meth c Q B b D dA (mLx M) (pc + 3, lv, o.2.toList ++ rest, o.1, k + mCe M2, n + mSl M2)) : mV p l e R s m args below meth c Q B b D dA (mLx M) (pc, lv, st, h, k, n) := by
  subst hst
  obtain ⟨r1, r2, r3, r4, r5⟩ := mRo_ok hro
  intro H locs ls hR hS hv
  refine mV_back hS hv (va_runV (As := as.map (mv B b)) (b := B + a) (C := cN (mOw M2)) ⟨E.hx, E.hb, E.hm, E.ho, E.hg⟩ (hC l B b D dA) ⟨mCB E ok2 hl.1 hl.2.2.2.1 ⟨r1, r2⟩, E.ht hl.2.1 rfl, E.ht hl.2.2.1 rfl⟩ ⟨mPc_blind, va_recv E.hK hR.2 (cl_at hl.2.2.2.2) (mW_at ha), fun U hU hW => mPc_at E hS hR hU hW⟩ rfl (by rw [List.length_map]; exact hn) hv.1 ?_ ?_ hd ⟨by rw [E.hr]; exact r3, by rw [E.hr]; exact r4⟩) hk
  · show List.map _ _ = _
    rw [List.map_append, List.map_reverse]
    rfl
  · exact lv_room (by rw [cat_mv]; exact r5)
theorem mV_callS (E : mE p R s m args meth c B D dA M) (ok2 : mOK M2) (hl : mLS (mOw M) i M2) (hd : decode (mCd M) pc = .ok (.invokestatic i, 3)) (hC : mC M2 as h o) (hn : as.length = mAr M2) (hro : mRo M M2 k n rest = true) (hst : st = as.reverse ++ rest) (hk : mV p l e R s m args below meth c Q B b D dA (mLx M) (pc + 3, lv, o.2.toList ++ rest, o.1, k + mCe M2, n + mSl M2)) : mV p l e R s m args below meth c Q B b D dA (mLx M) (pc, lv, st, h, k, n) := by
  subst hst
  obtain ⟨r1, r2, r3, r4, r5⟩ := mRo_ok hro
  intro H locs ls hR hS hv
  refine mV_back hS hv (va_runS (As := as.map (mv B b)) ⟨E.hx, E.hb, E.hm, E.ho, E.hg⟩ (hC l B b D dA) ⟨mCB E ok2 hl.1 hl.2.2 ⟨r1, r2⟩, E.ht hl.2.1 rfl⟩ ⟨mPc_blind, fun U hU hW => mPc_at E hS hR hU hW⟩ rfl (by rw [List.length_map]; exact hn) hv.1 ?_ ?_ hd ⟨by rw [E.hr]; exact r3, by rw [E.hr]; exact r4⟩) hk
  · show List.map _ _ = _
    rw [List.map_append, List.map_reverse]
  · exact lv_room (by rw [cat_mv]; exact r5)
theorem mV_callI (E : mE p R s m args meth c B D dA M) (ok2 : mOK M2) (hl : mLI (mOw M) i M2) (hd : decode (mCd M) pc = .ok (.invokespecial i, 3)) (hC : mC M2 (.ref a :: as) h o) (hn : as.length = mAr M2) (hro : mRo M M2 k n rest = true) (hst : st = as.reverse ++ .ref a :: rest) (hk : mV p l e R s m args below meth c Q B b D dA (mLx M) (pc + 3, lv, o.2.toList ++ rest, o.1, k + mCe M2, n + mSl M2)) : mV p l e R s m args below meth c Q B b D dA (mLx M) (pc, lv, st, h, k, n) := by
  subst hst
  obtain ⟨r1, r2, r3, r4, r5⟩ := mRo_ok hro
  intro H locs ls hR hS hv
  have hcb := mCB E ok2 hl.1 hl.2.2.1 ⟨r1, r2⟩
  rw [hl.2.2.2.2] at hcb
  refine mV_back hS hv (va_runI (As := as.map (mv B b)) (b := B + a) ⟨E.hx, E.hb, E.hm, E.ho, E.hg⟩ (hC l B b D dA) ⟨hcb, ok2.2.2.2.2.2 hl.2.2.2.1, E.ht hl.2.1 rfl⟩ ⟨mPc_blind, fun U hU hW => mPc_at (a := .ref a :: as) E hS hR hU hW⟩ rfl (by rw [List.length_map]; exact hn) hv.1 ?_ ?_ hd ⟨by rw [E.hr]; exact r3, by rw [E.hr]; exact r4⟩) hk
  · show List.map _ _ = _
    rw [List.map_append, List.map_reverse]
    rfl
  · exact lv_room (by rw [cat_mv]; exact r5)
theorem mV_callNS (E : mE p R s m args meth c B D dA M) (ok2 : mOK M2) (hl : mNS (mOw M) i M2) (hd : decode (mCd M) pc = .ok (.invokestatic i, 3)) (hC : mC M2 as h o) (hn : as.length = mAr M2) (hro : mRo M M2 k n rest = true) (hst : st = as.reverse ++ rest) (hk : mV p l e R s m args below meth c Q B b D dA (mLx M) (pc + 3, lv, o.2.toList ++ rest, o.1, k + mCe M2, n + mSl M2)) : mV p l e R s m args below meth c Q B b D dA (mLx M) (pc, lv, st, h, k, n) := by
  subst hst
  obtain ⟨r1, r2, r3, r4, r5⟩ := mRo_ok hro
  intro H locs ls hR hS hv
  obtain ⟨x, hcn⟩ := mCN E ok2 hl.1 hl.2.2 ⟨r1, r2⟩
  refine mV_back hS hv (va_runSN (As := as.map (mv B b)) ⟨E.hx, E.hb, E.hm, E.ho, E.hg⟩ (hC l B b D dA) ⟨hcn, E.ht hl.2.1 rfl, trivial⟩ ⟨mPc_blind, fun U hU hW => mPc_at E hS hR hU hW⟩ rfl (by rw [List.length_map]; exact hn) hv.1 ?_ ?_ hd ⟨by rw [E.hr]; exact r3, by rw [E.hr]; exact r4⟩) hk
  · show List.map _ _ = _
    rw [List.map_append, List.map_reverse]
  · exact lv_room (by rw [cat_mv]; exact r5)
theorem mV_callNI (E : mE p R s m args meth c B D dA M) (ok2 : mOK M2) (hl : mNI (mOw M) i M2) (hd : decode (mCd M) pc = .ok (.invokespecial i, 3)) (hC : mC M2 (.ref a :: as) h o) (hn : as.length = mAr M2) (hro : mRo M M2 k n rest = true) (hst : st = as.reverse ++ .ref a :: rest) (hk : mV p l e R s m args below meth c Q B b D dA (mLx M) (pc + 3, lv, o.2.toList ++ rest, o.1, k + mCe M2, n + mSl M2)) : mV p l e R s m args below meth c Q B b D dA (mLx M) (pc, lv, st, h, k, n) := by
  subst hst
  obtain ⟨r1, r2, r3, r4, r5⟩ := mRo_ok hro
  intro H locs ls hR hS hv
  obtain ⟨x, hcn⟩ := mCN E ok2 hl.1 hl.2.2.1 ⟨r1, r2⟩
  rw [hl.2.2.2.2] at hcn
  refine mV_back hS hv (va_runIN (As := as.map (mv B b)) (b := B + a) ⟨E.hx, E.hb, E.hm, E.ho, E.hg⟩ (hC l B b D dA) ⟨hcn, ok2.2.2.2.2.2 hl.2.2.2.1, E.ht hl.2.1 rfl⟩ ⟨mPc_blind, fun U hU hW => mPc_at (a := .ref a :: as) E hS hR hU hW⟩ rfl (by rw [List.length_map]; exact hn) hv.1 ?_ ?_ hd ⟨by rw [E.hr]; exact r3, by rw [E.hr]; exact r4⟩) hk
  · show List.map _ _ = _
    rw [List.map_append, List.map_reverse]
    rfl
  · exact lv_room (by rw [cat_mv]; exact r5)
end MS
end
