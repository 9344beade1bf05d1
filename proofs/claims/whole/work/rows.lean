section
-- ===== PART A: goes FIRST, ahead of the names: the tables' words, and 'selects' of the private methods out of them =====
/-- a private method of a class that the tables say can be made, by its rows of tables_1 -/
def lw_okq (q : MethodName × Nat) : Prop := (q.1.cls ≠ "java/lang/invoke/MethodHandle" ∧ q.1.cls ≠ "java/lang/invoke/VarHandle") ∧ Cond.instantiable q.1.cls q.2 ∈ tables_1 ∧ Cond.privateMethod q.1 ∈ tables_1 ∧ Cond.instanceMethod q.1 ∈ tables_1
theorem lw_p0 : lw_okq (⟨"HullFoundry", "become", "(ILHullFoundry$Points;LHullFoundry$Points;)I"⟩, 13) := ⟨⟨by decide +kernel, by decide +kernel⟩, List.mem_of_getElem? (i := 14) (by decide +kernel), List.mem_of_getElem? (i := 307) (by decide +kernel), List.mem_of_getElem? (i := 308) (by decide +kernel)⟩
theorem lw_p1 : lw_okq (⟨"HullFoundry$Hull", "spread", "(LHullFoundry$Points;LHullFoundry$Points;)I"⟩, 7) := ⟨⟨by decide +kernel, by decide +kernel⟩, List.mem_of_getElem? (i := 125) (by decide +kernel), List.mem_of_getElem? (i := 325) (by decide +kernel), List.mem_of_getElem? (i := 326) (by decide +kernel)⟩
theorem lw_p2 : lw_okq (⟨"HullFoundry$Hull", "seek", "(LHullFoundry$Points;LHullFoundry$Points;JJJ)V"⟩, 7) := ⟨⟨by decide +kernel, by decide +kernel⟩, List.mem_of_getElem? (i := 125) (by decide +kernel), List.mem_of_getElem? (i := 329) (by decide +kernel), List.mem_of_getElem? (i := 330) (by decide +kernel)⟩
theorem lw_p3 : lw_okq (⟨"HullFoundry$Hull", "take", "()V"⟩, 7) := ⟨⟨by decide +kernel, by decide +kernel⟩, List.mem_of_getElem? (i := 125) (by decide +kernel), List.mem_of_getElem? (i := 337) (by decide +kernel), List.mem_of_getElem? (i := 338) (by decide +kernel)⟩
theorem lw_p4 : lw_okq (⟨"HullFoundry$Hull", "stepOff", "(LHullFoundry$Points;LHullFoundry$Points;JJJ)Z"⟩, 7) := ⟨⟨by decide +kernel, by decide +kernel⟩, List.mem_of_getElem? (i := 125) (by decide +kernel), List.mem_of_getElem? (i := 343) (by decide +kernel), List.mem_of_getElem? (i := 344) (by decide +kernel)⟩
theorem lw_p5 : lw_okq (⟨"HullFoundry$Hull", "wrap", "(LHullFoundry$Points;LHullFoundry$Points;I)V"⟩, 7) := ⟨⟨by decide +kernel, by decide +kernel⟩, List.mem_of_getElem? (i := 125) (by decide +kernel), List.mem_of_getElem? (i := 363) (by decide +kernel), List.mem_of_getElem? (i := 364) (by decide +kernel)⟩
theorem lw_p6 : lw_okq (⟨"HullFoundry$Shell", "addTriangle", "(III)V"⟩, 9) := ⟨⟨by decide +kernel, by decide +kernel⟩, List.mem_of_getElem? (i := 131) (by decide +kernel), List.mem_of_getElem? (i := 385) (by decide +kernel), List.mem_of_getElem? (i := 386) (by decide +kernel)⟩
theorem lw_p7 : lw_okq (⟨"HullFoundry$Shell", "tearOff", "(I)V"⟩, 9) := ⟨⟨by decide +kernel, by decide +kernel⟩, List.mem_of_getElem? (i := 131) (by decide +kernel), List.mem_of_getElem? (i := 404) (by decide +kernel), List.mem_of_getElem? (i := 405) (by decide +kernel)⟩
theorem lw_p8 : lw_okq (⟨"HullFoundry$Hull", "fill", "(LHullFoundry$Body;I)V"⟩, 7) := ⟨⟨by decide +kernel, by decide +kernel⟩, List.mem_of_getElem? (i := 125) (by decide +kernel), List.mem_of_getElem? (i := 411) (by decide +kernel), List.mem_of_getElem? (i := 412) (by decide +kernel)⟩
theorem lw_p9 : lw_okq (⟨"HullFoundry$Body", "comparePlane", "(IIII)I"⟩, 9) := ⟨⟨by decide +kernel, by decide +kernel⟩, List.mem_of_getElem? (i := 25) (by decide +kernel), List.mem_of_getElem? (i := 435) (by decide +kernel), List.mem_of_getElem? (i := 436) (by decide +kernel)⟩
theorem lw_p10 : lw_okq (⟨"HullFoundry$Body", "layRing", "(II)I"⟩, 9) := ⟨⟨by decide +kernel, by decide +kernel⟩, List.mem_of_getElem? (i := 25) (by decide +kernel), List.mem_of_getElem? (i := 451) (by decide +kernel), List.mem_of_getElem? (i := 452) (by decide +kernel)⟩
theorem lw_p11 : lw_okq (⟨"HullFoundry$Body", "excess", "(IJJJJ)J"⟩, 9) := ⟨⟨by decide +kernel, by decide +kernel⟩, List.mem_of_getElem? (i := 25) (by decide +kernel), List.mem_of_getElem? (i := 455) (by decide +kernel), List.mem_of_getElem? (i := 456) (by decide +kernel)⟩
theorem lw_p12 : lw_okq (⟨"HullFoundry$Body", "facing", "(IIII)J"⟩, 9) := ⟨⟨by decide +kernel, by decide +kernel⟩, List.mem_of_getElem? (i := 25) (by decide +kernel), List.mem_of_getElem? (i := 459) (by decide +kernel), List.mem_of_getElem? (i := 460) (by decide +kernel)⟩
theorem lw_p13 : lw_okq (⟨"HullFoundry$Body", "addEdge", "(IIII)V"⟩, 9) := ⟨⟨by decide +kernel, by decide +kernel⟩, List.mem_of_getElem? (i := 25) (by decide +kernel), List.mem_of_getElem? (i := 470) (by decide +kernel), List.mem_of_getElem? (i := 471) (by decide +kernel)⟩
theorem lw_p14 : lw_okq (⟨"HullFoundry", "keepFresh", "(I)V"⟩, 13) := ⟨⟨by decide +kernel, by decide +kernel⟩, List.mem_of_getElem? (i := 14) (by decide +kernel), List.mem_of_getElem? (i := 483) (by decide +kernel), List.mem_of_getElem? (i := 484) (by decide +kernel)⟩
theorem lw_p15 : lw_okq (⟨"HullFoundry", "forgetOldest", "()V"⟩, 13) := ⟨⟨by decide +kernel, by decide +kernel⟩, List.mem_of_getElem? (i := 14) (by decide +kernel), List.mem_of_getElem? (i := 487) (by decide +kernel), List.mem_of_getElem? (i := 488) (by decide +kernel)⟩
def lw_privs_1 : List (MethodName × Nat) := [(⟨"HullFoundry", "become", "(ILHullFoundry$Points;LHullFoundry$Points;)I"⟩, 13), (⟨"HullFoundry$Hull", "spread", "(LHullFoundry$Points;LHullFoundry$Points;)I"⟩, 7), (⟨"HullFoundry$Hull", "seek", "(LHullFoundry$Points;LHullFoundry$Points;JJJ)V"⟩, 7), (⟨"HullFoundry$Hull", "take", "()V"⟩, 7), (⟨"HullFoundry$Hull", "stepOff", "(LHullFoundry$Points;LHullFoundry$Points;JJJ)Z"⟩, 7), (⟨"HullFoundry$Hull", "wrap", "(LHullFoundry$Points;LHullFoundry$Points;I)V"⟩, 7), (⟨"HullFoundry$Shell", "addTriangle", "(III)V"⟩, 9), (⟨"HullFoundry$Shell", "tearOff", "(I)V"⟩, 9), (⟨"HullFoundry$Hull", "fill", "(LHullFoundry$Body;I)V"⟩, 7), (⟨"HullFoundry$Body", "comparePlane", "(IIII)I"⟩, 9), (⟨"HullFoundry$Body", "layRing", "(II)I"⟩, 9), (⟨"HullFoundry$Body", "excess", "(IJJJJ)J"⟩, 9), (⟨"HullFoundry$Body", "facing", "(IIII)J"⟩, 9), (⟨"HullFoundry$Body", "addEdge", "(IIII)V"⟩, 9), (⟨"HullFoundry", "keepFresh", "(I)V"⟩, 13), (⟨"HullFoundry", "forgetOldest", "()V"⟩, 13)]
theorem lw_r1 : ∀ q ∈ lw_privs_1, lw_okq q := List.forall_mem_cons.mpr ⟨lw_p0, List.forall_mem_cons.mpr ⟨lw_p1, List.forall_mem_cons.mpr ⟨lw_p2, List.forall_mem_cons.mpr ⟨lw_p3, List.forall_mem_cons.mpr ⟨lw_p4, List.forall_mem_cons.mpr ⟨lw_p5, List.forall_mem_cons.mpr ⟨lw_p6, List.forall_mem_cons.mpr ⟨lw_p7, List.forall_mem_cons.mpr ⟨lw_p8, List.forall_mem_cons.mpr ⟨lw_p9, List.forall_mem_cons.mpr ⟨lw_p10, List.forall_mem_cons.mpr ⟨lw_p11, List.forall_mem_cons.mpr ⟨lw_p12, List.forall_mem_cons.mpr ⟨lw_p13, List.forall_mem_cons.mpr ⟨lw_p14, List.forall_mem_cons.mpr ⟨lw_p15, fun _ h => absurd h List.not_mem_nil⟩⟩⟩⟩⟩⟩⟩⟩⟩⟩⟩⟩⟩⟩⟩⟩
theorem lw_p16 : lw_okq (⟨"HullFoundry$Body", "locateAmongFaces", "(JJJJ)I"⟩, 9) := ⟨⟨by decide +kernel, by decide +kernel⟩, List.mem_of_getElem? (i := 25) (by decide +kernel), List.mem_of_getElem? (i := 534) (by decide +kernel), List.mem_of_getElem? (i := 535) (by decide +kernel)⟩
theorem lw_p17 : lw_okq (⟨"HullFoundry$Body", "isInFigure", "(JJJJ)Z"⟩, 9) := ⟨⟨by decide +kernel, by decide +kernel⟩, List.mem_of_getElem? (i := 25) (by decide +kernel), List.mem_of_getElem? (i := 538) (by decide +kernel), List.mem_of_getElem? (i := 539) (by decide +kernel)⟩
theorem lw_p18 : lw_okq (⟨"HullFoundry$Body", "isOnLine", "(JJJJ)Z"⟩, 9) := ⟨⟨by decide +kernel, by decide +kernel⟩, List.mem_of_getElem? (i := 25) (by decide +kernel), List.mem_of_getElem? (i := 542) (by decide +kernel), List.mem_of_getElem? (i := 543) (by decide +kernel)⟩
theorem lw_p19 : lw_okq (⟨"HullFoundry$Body", "addUpPieces", "(I)J"⟩, 9) := ⟨⟨by decide +kernel, by decide +kernel⟩, List.mem_of_getElem? (i := 25) (by decide +kernel), List.mem_of_getElem? (i := 559) (by decide +kernel), List.mem_of_getElem? (i := 560) (by decide +kernel)⟩
theorem lw_p20 : lw_okq (⟨"HullFoundry$Body", "offerSlit", "(JJ)V"⟩, 9) := ⟨⟨by decide +kernel, by decide +kernel⟩, List.mem_of_getElem? (i := 25) (by decide +kernel), List.mem_of_getElem? (i := 607) (by decide +kernel), List.mem_of_getElem? (i := 608) (by decide +kernel)⟩
theorem lw_p21 : lw_okq (⟨"HullFoundry$Body", "offerEdges", "(II)V"⟩, 9) := ⟨⟨by decide +kernel, by decide +kernel⟩, List.mem_of_getElem? (i := 25) (by decide +kernel), List.mem_of_getElem? (i := 617) (by decide +kernel), List.mem_of_getElem? (i := 618) (by decide +kernel)⟩
theorem lw_p22 : lw_okq (⟨"HullFoundry$Body", "isPassedBy", "(IJJJ)Z"⟩, 9) := ⟨⟨by decide +kernel, by decide +kernel⟩, List.mem_of_getElem? (i := 25) (by decide +kernel), List.mem_of_getElem? (i := 621) (by decide +kernel), List.mem_of_getElem? (i := 622) (by decide +kernel)⟩
theorem lw_p23 : lw_okq (⟨"HullFoundry$Gap", "addDifference", "(LHullFoundry$Points;ILHullFoundry$Points;I)V"⟩, 10) := ⟨⟨by decide +kernel, by decide +kernel⟩, List.mem_of_getElem? (i := 193) (by decide +kernel), List.mem_of_getElem? (i := 637) (by decide +kernel), List.mem_of_getElem? (i := 638) (by decide +kernel)⟩
theorem lw_p24 : lw_okq (⟨"HullFoundry$Gap", "shrink", "()Z"⟩, 10) := ⟨⟨by decide +kernel, by decide +kernel⟩, List.mem_of_getElem? (i := 193) (by decide +kernel), List.mem_of_getElem? (i := 642) (by decide +kernel), List.mem_of_getElem? (i := 643) (by decide +kernel)⟩
theorem lw_p25 : lw_okq (⟨"HullFoundry$Gap", "holdsNearest", "(I)Z"⟩, 10) := ⟨⟨by decide +kernel, by decide +kernel⟩, List.mem_of_getElem? (i := 193) (by decide +kernel), List.mem_of_getElem? (i := 646) (by decide +kernel), List.mem_of_getElem? (i := 647) (by decide +kernel)⟩
theorem lw_p26 : lw_okq (⟨"HullFoundry$Gap", "stepToPoint", "(I)Z"⟩, 10) := ⟨⟨by decide +kernel, by decide +kernel⟩, List.mem_of_getElem? (i := 193) (by decide +kernel), List.mem_of_getElem? (i := 650) (by decide +kernel), List.mem_of_getElem? (i := 651) (by decide +kernel)⟩
theorem lw_p27 : lw_okq (⟨"HullFoundry$Gap", "along", "(I)J"⟩, 10) := ⟨⟨by decide +kernel, by decide +kernel⟩, List.mem_of_getElem? (i := 193) (by decide +kernel), List.mem_of_getElem? (i := 654) (by decide +kernel), List.mem_of_getElem? (i := 655) (by decide +kernel)⟩
theorem lw_p28 : lw_okq (⟨"HullFoundry$Gap", "stepToLine", "(II)Z"⟩, 10) := ⟨⟨by decide +kernel, by decide +kernel⟩, List.mem_of_getElem? (i := 193) (by decide +kernel), List.mem_of_getElem? (i := 658) (by decide +kernel), List.mem_of_getElem? (i := 659) (by decide +kernel)⟩
theorem lw_p29 : lw_okq (⟨"HullFoundry$Gap", "stepToPlane", "(III)Z"⟩, 10) := ⟨⟨by decide +kernel, by decide +kernel⟩, List.mem_of_getElem? (i := 193) (by decide +kernel), List.mem_of_getElem? (i := 662) (by decide +kernel), List.mem_of_getElem? (i := 663) (by decide +kernel)⟩
theorem lw_p30 : lw_okq (⟨"HullFoundry$Gap", "crossX", "(II)J"⟩, 10) := ⟨⟨by decide +kernel, by decide +kernel⟩, List.mem_of_getElem? (i := 193) (by decide +kernel), List.mem_of_getElem? (i := 666) (by decide +kernel), List.mem_of_getElem? (i := 667) (by decide +kernel)⟩
theorem lw_p31 : lw_okq (⟨"HullFoundry$Gap", "crossY", "(II)J"⟩, 10) := ⟨⟨by decide +kernel, by decide +kernel⟩, List.mem_of_getElem? (i := 193) (by decide +kernel), List.mem_of_getElem? (i := 670) (by decide +kernel), List.mem_of_getElem? (i := 671) (by decide +kernel)⟩
def lw_privs_2 : List (MethodName × Nat) := [(⟨"HullFoundry$Body", "locateAmongFaces", "(JJJJ)I"⟩, 9), (⟨"HullFoundry$Body", "isInFigure", "(JJJJ)Z"⟩, 9), (⟨"HullFoundry$Body", "isOnLine", "(JJJJ)Z"⟩, 9), (⟨"HullFoundry$Body", "addUpPieces", "(I)J"⟩, 9), (⟨"HullFoundry$Body", "offerSlit", "(JJ)V"⟩, 9), (⟨"HullFoundry$Body", "offerEdges", "(II)V"⟩, 9), (⟨"HullFoundry$Body", "isPassedBy", "(IJJJ)Z"⟩, 9), (⟨"HullFoundry$Gap", "addDifference", "(LHullFoundry$Points;ILHullFoundry$Points;I)V"⟩, 10), (⟨"HullFoundry$Gap", "shrink", "()Z"⟩, 10), (⟨"HullFoundry$Gap", "holdsNearest", "(I)Z"⟩, 10), (⟨"HullFoundry$Gap", "stepToPoint", "(I)Z"⟩, 10), (⟨"HullFoundry$Gap", "along", "(I)J"⟩, 10), (⟨"HullFoundry$Gap", "stepToLine", "(II)Z"⟩, 10), (⟨"HullFoundry$Gap", "stepToPlane", "(III)Z"⟩, 10), (⟨"HullFoundry$Gap", "crossX", "(II)J"⟩, 10), (⟨"HullFoundry$Gap", "crossY", "(II)J"⟩, 10)]
theorem lw_r2 : ∀ q ∈ lw_privs_2, lw_okq q := List.forall_mem_cons.mpr ⟨lw_p16, List.forall_mem_cons.mpr ⟨lw_p17, List.forall_mem_cons.mpr ⟨lw_p18, List.forall_mem_cons.mpr ⟨lw_p19, List.forall_mem_cons.mpr ⟨lw_p20, List.forall_mem_cons.mpr ⟨lw_p21, List.forall_mem_cons.mpr ⟨lw_p22, List.forall_mem_cons.mpr ⟨lw_p23, List.forall_mem_cons.mpr ⟨lw_p24, List.forall_mem_cons.mpr ⟨lw_p25, List.forall_mem_cons.mpr ⟨lw_p26, List.forall_mem_cons.mpr ⟨lw_p27, List.forall_mem_cons.mpr ⟨lw_p28, List.forall_mem_cons.mpr ⟨lw_p29, List.forall_mem_cons.mpr ⟨lw_p30, List.forall_mem_cons.mpr ⟨lw_p31, fun _ h => absurd h List.not_mem_nil⟩⟩⟩⟩⟩⟩⟩⟩⟩⟩⟩⟩⟩⟩⟩⟩
theorem lw_p32 : lw_okq (⟨"HullFoundry$Gap", "crossZ", "(II)J"⟩, 10) := ⟨⟨by decide +kernel, by decide +kernel⟩, List.mem_of_getElem? (i := 193) (by decide +kernel), List.mem_of_getElem? (i := 674) (by decide +kernel), List.mem_of_getElem? (i := 675) (by decide +kernel)⟩
theorem lw_p33 : lw_okq (⟨"HullFoundry$Gap", "share", "(II)J"⟩, 10) := ⟨⟨by decide +kernel, by decide +kernel⟩, List.mem_of_getElem? (i := 193) (by decide +kernel), List.mem_of_getElem? (i := 678) (by decide +kernel), List.mem_of_getElem? (i := 679) (by decide +kernel)⟩
theorem lw_p34 : lw_okq (⟨"HullFoundry$Gap", "keepPicked", "(I)V"⟩, 10) := ⟨⟨by decide +kernel, by decide +kernel⟩, List.mem_of_getElem? (i := 193) (by decide +kernel), List.mem_of_getElem? (i := 682) (by decide +kernel), List.mem_of_getElem? (i := 683) (by decide +kernel)⟩
theorem lw_p35 : lw_okq (⟨"HullFoundryModel", "heaps", "(JJJ)V"⟩, 59) := ⟨⟨by decide +kernel, by decide +kernel⟩, List.mem_of_getElem? (i := 719) (by decide +kernel), List.mem_of_getElem? (i := 928) (by decide +kernel), List.mem_of_getElem? (i := 929) (by decide +kernel)⟩
theorem lw_p36 : lw_okq (⟨"HullFoundryModel", "hulls", "(I)I"⟩, 59) := ⟨⟨by decide +kernel, by decide +kernel⟩, List.mem_of_getElem? (i := 719) (by decide +kernel), List.mem_of_getElem? (i := 932) (by decide +kernel), List.mem_of_getElem? (i := 933) (by decide +kernel)⟩
theorem lw_p37 : lw_okq (⟨"HullFoundryModel", "kindOfHeap", "()I"⟩, 59) := ⟨⟨by decide +kernel, by decide +kernel⟩, List.mem_of_getElem? (i := 719) (by decide +kernel), List.mem_of_getElem? (i := 936) (by decide +kernel), List.mem_of_getElem? (i := 937) (by decide +kernel)⟩
theorem lw_p38 : lw_okq (⟨"HullFoundryModel", "across", "(III)V"⟩, 59) := ⟨⟨by decide +kernel, by decide +kernel⟩, List.mem_of_getElem? (i := 719) (by decide +kernel), List.mem_of_getElem? (i := 940) (by decide +kernel), List.mem_of_getElem? (i := 941) (by decide +kernel)⟩
theorem lw_p39 : lw_okq (⟨"HullFoundryModel", "isFlat", "()Z"⟩, 59) := ⟨⟨by decide +kernel, by decide +kernel⟩, List.mem_of_getElem? (i := 719) (by decide +kernel), List.mem_of_getElem? (i := 944) (by decide +kernel), List.mem_of_getElem? (i := 945) (by decide +kernel)⟩
theorem lw_p40 : lw_okq (⟨"HullFoundryModel", "plain", "()V"⟩, 59) := ⟨⟨by decide +kernel, by decide +kernel⟩, List.mem_of_getElem? (i := 719) (by decide +kernel), List.mem_of_getElem? (i := 948) (by decide +kernel), List.mem_of_getElem? (i := 949) (by decide +kernel)⟩
theorem lw_p41 : lw_okq (⟨"HullFoundryModel", "height", "(I)J"⟩, 59) := ⟨⟨by decide +kernel, by decide +kernel⟩, List.mem_of_getElem? (i := 719) (by decide +kernel), List.mem_of_getElem? (i := 955) (by decide +kernel), List.mem_of_getElem? (i := 956) (by decide +kernel)⟩
theorem lw_p42 : lw_okq (⟨"HullFoundryModel", "lists", "(J)Z"⟩, 59) := ⟨⟨by decide +kernel, by decide +kernel⟩, List.mem_of_getElem? (i := 719) (by decide +kernel), List.mem_of_getElem? (i := 959) (by decide +kernel), List.mem_of_getElem? (i := 960) (by decide +kernel)⟩
theorem lw_p43 : lw_okq (⟨"HullFoundryModel", "rings", "()V"⟩, 59) := ⟨⟨by decide +kernel, by decide +kernel⟩, List.mem_of_getElem? (i := 719) (by decide +kernel), List.mem_of_getElem? (i := 963) (by decide +kernel), List.mem_of_getElem? (i := 964) (by decide +kernel)⟩
theorem lw_p44 : lw_okq (⟨"HullFoundryModel", "leftOf", "(III)J"⟩, 59) := ⟨⟨by decide +kernel, by decide +kernel⟩, List.mem_of_getElem? (i := 719) (by decide +kernel), List.mem_of_getElem? (i := 968) (by decide +kernel), List.mem_of_getElem? (i := 969) (by decide +kernel)⟩
theorem lw_p45 : lw_okq (⟨"HullFoundryModel", "apartOf", "(II)J"⟩, 59) := ⟨⟨by decide +kernel, by decide +kernel⟩, List.mem_of_getElem? (i := 719) (by decide +kernel), List.mem_of_getElem? (i := 972) (by decide +kernel), List.mem_of_getElem? (i := 973) (by decide +kernel)⟩
theorem lw_p46 : lw_okq (⟨"HullFoundryModel", "faceHere", "(IJ)V"⟩, 59) := ⟨⟨by decide +kernel, by decide +kernel⟩, List.mem_of_getElem? (i := 719) (by decide +kernel), List.mem_of_getElem? (i := 976) (by decide +kernel), List.mem_of_getElem? (i := 977) (by decide +kernel)⟩
theorem lw_p47 : lw_okq (⟨"HullFoundryModel", "isAhead", "(IJ)Z"⟩, 59) := ⟨⟨by decide +kernel, by decide +kernel⟩, List.mem_of_getElem? (i := 719) (by decide +kernel), List.mem_of_getElem? (i := 980) (by decide +kernel), List.mem_of_getElem? (i := 981) (by decide +kernel)⟩
def lw_privs_3 : List (MethodName × Nat) := [(⟨"HullFoundry$Gap", "crossZ", "(II)J"⟩, 10), (⟨"HullFoundry$Gap", "share", "(II)J"⟩, 10), (⟨"HullFoundry$Gap", "keepPicked", "(I)V"⟩, 10), (⟨"HullFoundryModel", "heaps", "(JJJ)V"⟩, 59), (⟨"HullFoundryModel", "hulls", "(I)I"⟩, 59), (⟨"HullFoundryModel", "kindOfHeap", "()I"⟩, 59), (⟨"HullFoundryModel", "across", "(III)V"⟩, 59), (⟨"HullFoundryModel", "isFlat", "()Z"⟩, 59), (⟨"HullFoundryModel", "plain", "()V"⟩, 59), (⟨"HullFoundryModel", "height", "(I)J"⟩, 59), (⟨"HullFoundryModel", "lists", "(J)Z"⟩, 59), (⟨"HullFoundryModel", "rings", "()V"⟩, 59), (⟨"HullFoundryModel", "leftOf", "(III)J"⟩, 59), (⟨"HullFoundryModel", "apartOf", "(II)J"⟩, 59), (⟨"HullFoundryModel", "faceHere", "(IJ)V"⟩, 59), (⟨"HullFoundryModel", "isAhead", "(IJ)Z"⟩, 59)]
theorem lw_r3 : ∀ q ∈ lw_privs_3, lw_okq q := List.forall_mem_cons.mpr ⟨lw_p32, List.forall_mem_cons.mpr ⟨lw_p33, List.forall_mem_cons.mpr ⟨lw_p34, List.forall_mem_cons.mpr ⟨lw_p35, List.forall_mem_cons.mpr ⟨lw_p36, List.forall_mem_cons.mpr ⟨lw_p37, List.forall_mem_cons.mpr ⟨lw_p38, List.forall_mem_cons.mpr ⟨lw_p39, List.forall_mem_cons.mpr ⟨lw_p40, List.forall_mem_cons.mpr ⟨lw_p41, List.forall_mem_cons.mpr ⟨lw_p42, List.forall_mem_cons.mpr ⟨lw_p43, List.forall_mem_cons.mpr ⟨lw_p44, List.forall_mem_cons.mpr ⟨lw_p45, List.forall_mem_cons.mpr ⟨lw_p46, List.forall_mem_cons.mpr ⟨lw_p47, fun _ h => absurd h List.not_mem_nil⟩⟩⟩⟩⟩⟩⟩⟩⟩⟩⟩⟩⟩⟩⟩⟩
theorem lw_p48 : lw_okq (⟨"HullFoundryModel", "turnsAbout", "()V"⟩, 59) := ⟨⟨by decide +kernel, by decide +kernel⟩, List.mem_of_getElem? (i := 719) (by decide +kernel), List.mem_of_getElem? (i := 984) (by decide +kernel), List.mem_of_getElem? (i := 985) (by decide +kernel)⟩
theorem lw_p49 : lw_okq (⟨"HullFoundryModel", "planes", "(I)V"⟩, 59) := ⟨⟨by decide +kernel, by decide +kernel⟩, List.mem_of_getElem? (i := 719) (by decide +kernel), List.mem_of_getElem? (i := 988) (by decide +kernel), List.mem_of_getElem? (i := 989) (by decide +kernel)⟩
theorem lw_p50 : lw_okq (⟨"HullFoundryModel", "isKnown", "(IJ)Z"⟩, 59) := ⟨⟨by decide +kernel, by decide +kernel⟩, List.mem_of_getElem? (i := 719) (by decide +kernel), List.mem_of_getElem? (i := 992) (by decide +kernel), List.mem_of_getElem? (i := 993) (by decide +kernel)⟩
theorem lw_p51 : lw_okq (⟨"HullFoundryModel", "becomes", "(II)Z"⟩, 59) := ⟨⟨by decide +kernel, by decide +kernel⟩, List.mem_of_getElem? (i := 719) (by decide +kernel), List.mem_of_getElem? (i := 996) (by decide +kernel), List.mem_of_getElem? (i := 997) (by decide +kernel)⟩
theorem lw_p52 : lw_okq (⟨"HullFoundryModel", "keeps", "()V"⟩, 59) := ⟨⟨by decide +kernel, by decide +kernel⟩, List.mem_of_getElem? (i := 719) (by decide +kernel), List.mem_of_getElem? (i := 1000) (by decide +kernel), List.mem_of_getElem? (i := 1001) (by decide +kernel)⟩
theorem lw_p53 : lw_okq (⟨"HullFoundryModel", "loads", "(I)V"⟩, 59) := ⟨⟨by decide +kernel, by decide +kernel⟩, List.mem_of_getElem? (i := 719) (by decide +kernel), List.mem_of_getElem? (i := 1008) (by decide +kernel), List.mem_of_getElem? (i := 1009) (by decide +kernel)⟩
theorem lw_p54 : lw_okq (⟨"HullFoundryModel", "knows", "(II)V"⟩, 59) := ⟨⟨by decide +kernel, by decide +kernel⟩, List.mem_of_getElem? (i := 719) (by decide +kernel), List.mem_of_getElem? (i := 1016) (by decide +kernel), List.mem_of_getElem? (i := 1017) (by decide +kernel)⟩
theorem lw_p55 : lw_okq (⟨"HullFoundryModel", "edgeHere", "(IIII)V"⟩, 59) := ⟨⟨by decide +kernel, by decide +kernel⟩, List.mem_of_getElem? (i := 719) (by decide +kernel), List.mem_of_getElem? (i := 1020) (by decide +kernel), List.mem_of_getElem? (i := 1021) (by decide +kernel)⟩
theorem lw_p56 : lw_okq (⟨"HullFoundryModel", "area", "(I)J"⟩, 59) := ⟨⟨by decide +kernel, by decide +kernel⟩, List.mem_of_getElem? (i := 719) (by decide +kernel), List.mem_of_getElem? (i := 1037) (by decide +kernel), List.mem_of_getElem? (i := 1038) (by decide +kernel)⟩
theorem lw_p57 : lw_okq (⟨"HullFoundryModel", "owns", "(II)V"⟩, 59) := ⟨⟨by decide +kernel, by decide +kernel⟩, List.mem_of_getElem? (i := 719) (by decide +kernel), List.mem_of_getElem? (i := 1050) (by decide +kernel), List.mem_of_getElem? (i := 1051) (by decide +kernel)⟩
theorem lw_p58 : lw_okq (⟨"HullFoundryModel", "points", "(JJJJ)V"⟩, 59) := ⟨⟨by decide +kernel, by decide +kernel⟩, List.mem_of_getElem? (i := 719) (by decide +kernel), List.mem_of_getElem? (i := 1054) (by decide +kernel), List.mem_of_getElem? (i := 1055) (by decide +kernel)⟩
theorem lw_p59 : lw_okq (⟨"HullFoundryModel", "where", "(II)I"⟩, 59) := ⟨⟨by decide +kernel, by decide +kernel⟩, List.mem_of_getElem? (i := 719) (by decide +kernel), List.mem_of_getElem? (i := 1058) (by decide +kernel), List.mem_of_getElem? (i := 1059) (by decide +kernel)⟩
theorem lw_p60 : lw_okq (⟨"HullFoundryModel", "onLine", "(II)Z"⟩, 59) := ⟨⟨by decide +kernel, by decide +kernel⟩, List.mem_of_getElem? (i := 719) (by decide +kernel), List.mem_of_getElem? (i := 1062) (by decide +kernel), List.mem_of_getElem? (i := 1063) (by decide +kernel)⟩
theorem lw_p61 : lw_okq (⟨"HullFoundryModel", "overFace", "(I)J"⟩, 59) := ⟨⟨by decide +kernel, by decide +kernel⟩, List.mem_of_getElem? (i := 719) (by decide +kernel), List.mem_of_getElem? (i := 1066) (by decide +kernel), List.mem_of_getElem? (i := 1067) (by decide +kernel)⟩
theorem lw_p62 : lw_okq (⟨"HullFoundryModel", "isOver", "(II)Z"⟩, 59) := ⟨⟨by decide +kernel, by decide +kernel⟩, List.mem_of_getElem? (i := 719) (by decide +kernel), List.mem_of_getElem? (i := 1070) (by decide +kernel), List.mem_of_getElem? (i := 1071) (by decide +kernel)⟩
theorem lw_p63 : lw_okq (⟨"HullFoundryModel", "adds", "()V"⟩, 59) := ⟨⟨by decide +kernel, by decide +kernel⟩, List.mem_of_getElem? (i := 719) (by decide +kernel), List.mem_of_getElem? (i := 1086) (by decide +kernel), List.mem_of_getElem? (i := 1087) (by decide +kernel)⟩
def lw_privs_4 : List (MethodName × Nat) := [(⟨"HullFoundryModel", "turnsAbout", "()V"⟩, 59), (⟨"HullFoundryModel", "planes", "(I)V"⟩, 59), (⟨"HullFoundryModel", "isKnown", "(IJ)Z"⟩, 59), (⟨"HullFoundryModel", "becomes", "(II)Z"⟩, 59), (⟨"HullFoundryModel", "keeps", "()V"⟩, 59), (⟨"HullFoundryModel", "loads", "(I)V"⟩, 59), (⟨"HullFoundryModel", "knows", "(II)V"⟩, 59), (⟨"HullFoundryModel", "edgeHere", "(IIII)V"⟩, 59), (⟨"HullFoundryModel", "area", "(I)J"⟩, 59), (⟨"HullFoundryModel", "owns", "(II)V"⟩, 59), (⟨"HullFoundryModel", "points", "(JJJJ)V"⟩, 59), (⟨"HullFoundryModel", "where", "(II)I"⟩, 59), (⟨"HullFoundryModel", "onLine", "(II)Z"⟩, 59), (⟨"HullFoundryModel", "overFace", "(I)J"⟩, 59), (⟨"HullFoundryModel", "isOver", "(II)Z"⟩, 59), (⟨"HullFoundryModel", "adds", "()V"⟩, 59)]
theorem lw_r4 : ∀ q ∈ lw_privs_4, lw_okq q := List.forall_mem_cons.mpr ⟨lw_p48, List.forall_mem_cons.mpr ⟨lw_p49, List.forall_mem_cons.mpr ⟨lw_p50, List.forall_mem_cons.mpr ⟨lw_p51, List.forall_mem_cons.mpr ⟨lw_p52, List.forall_mem_cons.mpr ⟨lw_p53, List.forall_mem_cons.mpr ⟨lw_p54, List.forall_mem_cons.mpr ⟨lw_p55, List.forall_mem_cons.mpr ⟨lw_p56, List.forall_mem_cons.mpr ⟨lw_p57, List.forall_mem_cons.mpr ⟨lw_p58, List.forall_mem_cons.mpr ⟨lw_p59, List.forall_mem_cons.mpr ⟨lw_p60, List.forall_mem_cons.mpr ⟨lw_p61, List.forall_mem_cons.mpr ⟨lw_p62, List.forall_mem_cons.mpr ⟨lw_p63, fun _ h => absurd h List.not_mem_nil⟩⟩⟩⟩⟩⟩⟩⟩⟩⟩⟩⟩⟩⟩⟩⟩
theorem lw_p64 : lw_okq (⟨"HullFoundryModel", "thick", "()V"⟩, 59) := ⟨⟨by decide +kernel, by decide +kernel⟩, List.mem_of_getElem? (i := 719) (by decide +kernel), List.mem_of_getElem? (i := 1103) (by decide +kernel), List.mem_of_getElem? (i := 1104) (by decide +kernel)⟩
theorem lw_p65 : lw_okq (⟨"HullFoundryModel", "tries", "(JJ)V"⟩, 59) := ⟨⟨by decide +kernel, by decide +kernel⟩, List.mem_of_getElem? (i := 719) (by decide +kernel), List.mem_of_getElem? (i := 1107) (by decide +kernel), List.mem_of_getElem? (i := 1108) (by decide +kernel)⟩
theorem lw_p66 : lw_okq (⟨"HullFoundryModel", "crosses", "(JJJJJJ)V"⟩, 59) := ⟨⟨by decide +kernel, by decide +kernel⟩, List.mem_of_getElem? (i := 719) (by decide +kernel), List.mem_of_getElem? (i := 1114) (by decide +kernel), List.mem_of_getElem? (i := 1115) (by decide +kernel)⟩
theorem lw_p67 : lw_okq (⟨"HullFoundryModel", "told", "(I)J"⟩, 59) := ⟨⟨by decide +kernel, by decide +kernel⟩, List.mem_of_getElem? (i := 719) (by decide +kernel), List.mem_of_getElem? (i := 1118) (by decide +kernel), List.mem_of_getElem? (i := 1119) (by decide +kernel)⟩
theorem lw_p68 : lw_okq (⟨"HullFoundryModel", "looksAll", "()V"⟩, 59) := ⟨⟨by decide +kernel, by decide +kernel⟩, List.mem_of_getElem? (i := 719) (by decide +kernel), List.mem_of_getElem? (i := 1126) (by decide +kernel), List.mem_of_getElem? (i := 1127) (by decide +kernel)⟩
theorem lw_p69 : lw_okq (⟨"HullFoundryModel", "looks", "()V"⟩, 59) := ⟨⟨by decide +kernel, by decide +kernel⟩, List.mem_of_getElem? (i := 719) (by decide +kernel), List.mem_of_getElem? (i := 1130) (by decide +kernel), List.mem_of_getElem? (i := 1131) (by decide +kernel)⟩
theorem lw_p70 : lw_okq (⟨"HullFoundryModel", "highest", "(I)J"⟩, 59) := ⟨⟨by decide +kernel, by decide +kernel⟩, List.mem_of_getElem? (i := 719) (by decide +kernel), List.mem_of_getElem? (i := 1134) (by decide +kernel), List.mem_of_getElem? (i := 1135) (by decide +kernel)⟩
theorem lw_p71 : lw_okq (⟨"HullFoundryModel", "along", "(I)J"⟩, 59) := ⟨⟨by decide +kernel, by decide +kernel⟩, List.mem_of_getElem? (i := 719) (by decide +kernel), List.mem_of_getElem? (i := 1138) (by decide +kernel), List.mem_of_getElem? (i := 1139) (by decide +kernel)⟩
theorem lw_p72 : lw_okq (⟨"HullFoundryModel", "finds", "(JJJ)V"⟩, 59) := ⟨⟨by decide +kernel, by decide +kernel⟩, List.mem_of_getElem? (i := 719) (by decide +kernel), List.mem_of_getElem? (i := 1142) (by decide +kernel), List.mem_of_getElem? (i := 1143) (by decide +kernel)⟩
theorem lw_p73 : lw_okq (⟨"HullFoundryModel", "looksBothWays", "()V"⟩, 59) := ⟨⟨by decide +kernel, by decide +kernel⟩, List.mem_of_getElem? (i := 719) (by decide +kernel), List.mem_of_getElem? (i := 1146) (by decide +kernel), List.mem_of_getElem? (i := 1147) (by decide +kernel)⟩
theorem lw_p74 : lw_okq (⟨"HullFoundryModel", "nears", "(II)V"⟩, 59) := ⟨⟨by decide +kernel, by decide +kernel⟩, List.mem_of_getElem? (i := 719) (by decide +kernel), List.mem_of_getElem? (i := 1154) (by decide +kernel), List.mem_of_getElem? (i := 1155) (by decide +kernel)⟩
theorem lw_p75 : lw_okq (⟨"HullFoundryModel", "against", "(II)V"⟩, 59) := ⟨⟨by decide +kernel, by decide +kernel⟩, List.mem_of_getElem? (i := 719) (by decide +kernel), List.mem_of_getElem? (i := 1158) (by decide +kernel), List.mem_of_getElem? (i := 1159) (by decide +kernel)⟩
theorem lw_p76 : lw_okq (⟨"HullFoundryModel", "cornerAt", "(I)V"⟩, 59) := ⟨⟨by decide +kernel, by decide +kernel⟩, List.mem_of_getElem? (i := 719) (by decide +kernel), List.mem_of_getElem? (i := 1162) (by decide +kernel), List.mem_of_getElem? (i := 1163) (by decide +kernel)⟩
theorem lw_p77 : lw_okq (⟨"HullFoundryModel", "toCorner", "(II)V"⟩, 59) := ⟨⟨by decide +kernel, by decide +kernel⟩, List.mem_of_getElem? (i := 719) (by decide +kernel), List.mem_of_getElem? (i := 1166) (by decide +kernel), List.mem_of_getElem? (i := 1167) (by decide +kernel)⟩
theorem lw_p78 : lw_okq (⟨"HullFoundryModel", "toEdge", "(III)V"⟩, 59) := ⟨⟨by decide +kernel, by decide +kernel⟩, List.mem_of_getElem? (i := 719) (by decide +kernel), List.mem_of_getElem? (i := 1170) (by decide +kernel), List.mem_of_getElem? (i := 1171) (by decide +kernel)⟩
theorem lw_p79 : lw_okq (⟨"HullFoundryModel", "toFace", "(III)V"⟩, 59) := ⟨⟨by decide +kernel, by decide +kernel⟩, List.mem_of_getElem? (i := 719) (by decide +kernel), List.mem_of_getElem? (i := 1174) (by decide +kernel), List.mem_of_getElem? (i := 1175) (by decide +kernel)⟩
def lw_privs_5 : List (MethodName × Nat) := [(⟨"HullFoundryModel", "thick", "()V"⟩, 59), (⟨"HullFoundryModel", "tries", "(JJ)V"⟩, 59), (⟨"HullFoundryModel", "crosses", "(JJJJJJ)V"⟩, 59), (⟨"HullFoundryModel", "told", "(I)J"⟩, 59), (⟨"HullFoundryModel", "looksAll", "()V"⟩, 59), (⟨"HullFoundryModel", "looks", "()V"⟩, 59), (⟨"HullFoundryModel", "highest", "(I)J"⟩, 59), (⟨"HullFoundryModel", "along", "(I)J"⟩, 59), (⟨"HullFoundryModel", "finds", "(JJJ)V"⟩, 59), (⟨"HullFoundryModel", "looksBothWays", "()V"⟩, 59), (⟨"HullFoundryModel", "nears", "(II)V"⟩, 59), (⟨"HullFoundryModel", "against", "(II)V"⟩, 59), (⟨"HullFoundryModel", "cornerAt", "(I)V"⟩, 59), (⟨"HullFoundryModel", "toCorner", "(II)V"⟩, 59), (⟨"HullFoundryModel", "toEdge", "(III)V"⟩, 59), (⟨"HullFoundryModel", "toFace", "(III)V"⟩, 59)]
theorem lw_r5 : ∀ q ∈ lw_privs_5, lw_okq q := List.forall_mem_cons.mpr ⟨lw_p64, List.forall_mem_cons.mpr ⟨lw_p65, List.forall_mem_cons.mpr ⟨lw_p66, List.forall_mem_cons.mpr ⟨lw_p67, List.forall_mem_cons.mpr ⟨lw_p68, List.forall_mem_cons.mpr ⟨lw_p69, List.forall_mem_cons.mpr ⟨lw_p70, List.forall_mem_cons.mpr ⟨lw_p71, List.forall_mem_cons.mpr ⟨lw_p72, List.forall_mem_cons.mpr ⟨lw_p73, List.forall_mem_cons.mpr ⟨lw_p74, List.forall_mem_cons.mpr ⟨lw_p75, List.forall_mem_cons.mpr ⟨lw_p76, List.forall_mem_cons.mpr ⟨lw_p77, List.forall_mem_cons.mpr ⟨lw_p78, List.forall_mem_cons.mpr ⟨lw_p79, fun _ h => absurd h List.not_mem_nil⟩⟩⟩⟩⟩⟩⟩⟩⟩⟩⟩⟩⟩⟩⟩⟩
theorem lw_p80 : lw_okq (⟨"HullFoundryModel", "through", "(IIII)V"⟩, 59) := ⟨⟨by decide +kernel, by decide +kernel⟩, List.mem_of_getElem? (i := 719) (by decide +kernel), List.mem_of_getElem? (i := 1178) (by decide +kernel), List.mem_of_getElem? (i := 1179) (by decide +kernel)⟩
theorem lw_p81 : lw_okq (⟨"HullFoundryModel", "toEdges", "(IIII)V"⟩, 59) := ⟨⟨by decide +kernel, by decide +kernel⟩, List.mem_of_getElem? (i := 719) (by decide +kernel), List.mem_of_getElem? (i := 1182) (by decide +kernel), List.mem_of_getElem? (i := 1183) (by decide +kernel)⟩
theorem lw_p82 : lw_okq (⟨"HullFoundryModel", "orders", "(I)V"⟩, 59) := ⟨⟨by decide +kernel, by decide +kernel⟩, List.mem_of_getElem? (i := 719) (by decide +kernel), List.mem_of_getElem? (i := 1202) (by decide +kernel), List.mem_of_getElem? (i := 1203) (by decide +kernel)⟩
def lw_privs_6 : List (MethodName × Nat) := [(⟨"HullFoundryModel", "through", "(IIII)V"⟩, 59), (⟨"HullFoundryModel", "toEdges", "(IIII)V"⟩, 59), (⟨"HullFoundryModel", "orders", "(I)V"⟩, 59)]
theorem lw_r6 : ∀ q ∈ lw_privs_6, lw_okq q := List.forall_mem_cons.mpr ⟨lw_p80, List.forall_mem_cons.mpr ⟨lw_p81, List.forall_mem_cons.mpr ⟨lw_p82, fun _ h => absurd h List.not_mem_nil⟩⟩⟩
def lw_privs : List (MethodName × Nat) := lw_privs_1 ++ (lw_privs_2 ++ (lw_privs_3 ++ (lw_privs_4 ++ (lw_privs_5 ++ (lw_privs_6)))))
def lw_tbl : List Cond := k2_sels lw_privs ++ tables_1
theorem lw_privs_ok : ∀ q ∈ lw_privs, lw_okq q := by
  show ∀ q ∈ lw_privs_1 ++ (lw_privs_2 ++ (lw_privs_3 ++ (lw_privs_4 ++ (lw_privs_5 ++ (lw_privs_6))))), lw_okq q
  exact List.forall_mem_append.mpr ⟨lw_r1, List.forall_mem_append.mpr ⟨lw_r2, List.forall_mem_append.mpr ⟨lw_r3, List.forall_mem_append.mpr ⟨lw_r4, List.forall_mem_append.mpr ⟨lw_r5, lw_r6⟩⟩⟩⟩⟩
end
section
def RX0 : String := "HullFoundry$Body"
def TX0 : u_T := fun k => match k with
  | 0 => ("HullFoundry$Body", "kind", "I", false)
  | 1 => ("HullFoundry$Body", "corners", "LHullFoundry$Points;", true)
  | 2 => ("HullFoundry$Body", "faces", "I", false)
  | 3 => ("HullFoundry$Body", "planes", "[I", true)
  | 4 => ("HullFoundry$Body", "ringStart", "[I", true)
  | 5 => ("HullFoundry$Body", "rings", "[I", true)
  | 6 => ("HullFoundry$Body", "edges", "I", false)
  | 7 => ("HullFoundry$Body", "edgeRow", "[I", true)
  | _ => ("HullFoundry$Body", "slit", "LHullFoundry$Ratio;", true)
def tyX0 : Nat → FieldType := fun k => match k with
  | 0 => .int
  | 1 => .object "HullFoundry$Points"
  | 2 => .int
  | 3 => .array .int
  | 4 => .array .int
  | 5 => .array .int
  | 6 => .int
  | 7 => .array .int
  | _ => .object "HullFoundry$Ratio"
abbrev wsX00 : List Cond := u_ws RX0 TX0 9
theorem nmX0 : ∀ a, a < 9 → ∀ b, b < 9 → a ≠ b → (TX0 a).2.1 ≠ (TX0 b).2.1 := by decide +kernel
theorem tyX0_ok : ∀ k, k < 9 → parseFieldDescriptor (TX0 k).2.2.1 = some (tyX0 k) := by decide +kernel
abbrev cX0_init : ByteArray := prog_2_method_1_code
def yX0_init : MethodName := ⟨RX0, "<init>", "()V"⟩
abbrev cX0_clear : ByteArray := prog_2_method_2_code
def yX0_clear : MethodName := ⟨RX0, "clear", "()V"⟩
abbrev cX0_addPlane : ByteArray := prog_2_method_3_code
def yX0_addPlane : MethodName := ⟨RX0, "addPlane", "(IIII)V"⟩
abbrev cX0_comparePlane : ByteArray := prog_2_method_4_code
def yX0_comparePlane : MethodName := ⟨RX0, "comparePlane", "(IIII)I"⟩
abbrev cX0_excess : ByteArray := prog_2_method_5_code
def yX0_excess : MethodName := ⟨RX0, "excess", "(IJJJJ)J"⟩
abbrev cX0_layRings : ByteArray := prog_2_method_6_code
def yX0_layRings : MethodName := ⟨RX0, "layRings", "()V"⟩
abbrev cX0_layRing : ByteArray := prog_2_method_7_code
def yX0_layRing : MethodName := ⟨RX0, "layRing", "(II)I"⟩
abbrev cX0_facing : ByteArray := prog_2_method_8_code
def yX0_facing : MethodName := ⟨RX0, "facing", "(IIII)J"⟩
abbrev cX0_layEdges : ByteArray := prog_2_method_9_code
def yX0_layEdges : MethodName := ⟨RX0, "layEdges", "([I)V"⟩
abbrev cX0_addEdge : ByteArray := prog_2_method_10_code
def yX0_addEdge : MethodName := ⟨RX0, "addEdge", "(IIII)V"⟩
abbrev cX0_wholeArea : ByteArray := prog_2_method_11_code
def yX0_wholeArea : MethodName := ⟨RX0, "wholeArea", "(I)J"⟩
abbrev cX0_steepness : ByteArray := prog_2_method_12_code
def yX0_steepness : MethodName := ⟨RX0, "steepness", "(JJJ)J"⟩
abbrev cX0_sixVolumes : ByteArray := prog_2_method_13_code
def yX0_sixVolumes : MethodName := ⟨RX0, "sixVolumes", "()J"⟩
abbrev cX0_moment : ByteArray := prog_2_method_14_code
def yX0_moment : MethodName := ⟨RX0, "moment", "(I)J"⟩
abbrev cX0_addUpPieces : ByteArray := prog_2_method_15_code
def yX0_addUpPieces : MethodName := ⟨RX0, "addUpPieces", "(I)J"⟩
abbrev cX0_locate : ByteArray := prog_2_method_16_code
def yX0_locate : MethodName := ⟨RX0, "locate", "(JJJJ)I"⟩
abbrev cX0_locateAmongFaces : ByteArray := prog_2_method_17_code
def yX0_locateAmongFaces : MethodName := ⟨RX0, "locateAmongFaces", "(JJJJ)I"⟩
abbrev cX0_isInFigure : ByteArray := prog_2_method_18_code
def yX0_isInFigure : MethodName := ⟨RX0, "isInFigure", "(JJJJ)Z"⟩
abbrev cX0_isOnLine : ByteArray := prog_2_method_19_code
def yX0_isOnLine : MethodName := ⟨RX0, "isOnLine", "(JJJJ)Z"⟩
abbrev cX0_reckonSlit : ByteArray := prog_2_method_20_code
def yX0_reckonSlit : MethodName := ⟨RX0, "reckonSlit", "()V"⟩
abbrev cX0_offerSlit : ByteArray := prog_2_method_21_code
def yX0_offerSlit : MethodName := ⟨RX0, "offerSlit", "(JJ)V"⟩
abbrev cX0_offerEdges : ByteArray := prog_2_method_22_code
def yX0_offerEdges : MethodName := ⟨RX0, "offerEdges", "(II)V"⟩
abbrev cX0_isPassedBy : ByteArray := prog_2_method_23_code
def yX0_isPassedBy : MethodName := ⟨RX0, "isPassedBy", "(IJJJ)Z"⟩
def RX1 : String := "HullFoundry$Gap"
def TX1 : u_T := fun k => match k with
  | 0 => ("HullFoundry$Gap", "top", "J", false)
  | 1 => ("HullFoundry$Gap", "bottom", "J", false)
  | 2 => ("HullFoundry$Gap", "size", "I", false)
  | 3 => ("HullFoundry$Gap", "x", "[I", true)
  | 4 => ("HullFoundry$Gap", "y", "[I", true)
  | 5 => ("HullFoundry$Gap", "z", "[I", true)
  | 6 => ("HullFoundry$Gap", "pick", "[I", true)
  | 7 => ("HullFoundry$Gap", "dx", "J", false)
  | 8 => ("HullFoundry$Gap", "dy", "J", false)
  | _ => ("HullFoundry$Gap", "dz", "J", false)
def tyX1 : Nat → FieldType := fun k => match k with
  | 0 => .long
  | 1 => .long
  | 2 => .int
  | 3 => .array .int
  | 4 => .array .int
  | 5 => .array .int
  | 6 => .array .int
  | 7 => .long
  | 8 => .long
  | _ => .long
abbrev wsX10 : List Cond := u_ws RX1 TX1 10
theorem nmX1 : ∀ a, a < 10 → ∀ b, b < 10 → a ≠ b → (TX1 a).2.1 ≠ (TX1 b).2.1 := by decide +kernel
theorem tyX1_ok : ∀ k, k < 10 → parseFieldDescriptor (TX1 k).2.2.1 = some (tyX1 k) := by decide +kernel
abbrev cX1_init : ByteArray := prog_3_method_1_code
def yX1_init : MethodName := ⟨RX1, "<init>", "()V"⟩
abbrev cX1_reckon : ByteArray := prog_3_method_2_code
def yX1_reckon : MethodName := ⟨RX1, "reckon", "(LHullFoundry$Points;LHullFoundry$Points;)V"⟩
abbrev cX1_addDifference : ByteArray := prog_3_method_3_code
def yX1_addDifference : MethodName := ⟨RX1, "addDifference", "(LHullFoundry$Points;ILHullFoundry$Points;I)V"⟩
abbrev cX1_shrink : ByteArray := prog_3_method_4_code
def yX1_shrink : MethodName := ⟨RX1, "shrink", "()Z"⟩
abbrev cX1_holdsNearest : ByteArray := prog_3_method_5_code
def yX1_holdsNearest : MethodName := ⟨RX1, "holdsNearest", "(I)Z"⟩
abbrev cX1_keepPicked : ByteArray := prog_3_method_6_code
def yX1_keepPicked : MethodName := ⟨RX1, "keepPicked", "(I)V"⟩
abbrev cX1_stepToPoint : ByteArray := prog_3_method_7_code
def yX1_stepToPoint : MethodName := ⟨RX1, "stepToPoint", "(I)Z"⟩
abbrev cX1_stepToLine : ByteArray := prog_3_method_8_code
def yX1_stepToLine : MethodName := ⟨RX1, "stepToLine", "(II)Z"⟩
abbrev cX1_stepToPlane : ByteArray := prog_3_method_9_code
def yX1_stepToPlane : MethodName := ⟨RX1, "stepToPlane", "(III)Z"⟩
abbrev cX1_along : ByteArray := prog_3_method_10_code
def yX1_along : MethodName := ⟨RX1, "along", "(I)J"⟩
abbrev cX1_share : ByteArray := prog_3_method_11_code
def yX1_share : MethodName := ⟨RX1, "share", "(II)J"⟩
abbrev cX1_crossX : ByteArray := prog_3_method_12_code
def yX1_crossX : MethodName := ⟨RX1, "crossX", "(II)J"⟩
abbrev cX1_crossY : ByteArray := prog_3_method_13_code
def yX1_crossY : MethodName := ⟨RX1, "crossY", "(II)J"⟩
abbrev cX1_crossZ : ByteArray := prog_3_method_14_code
def yX1_crossZ : MethodName := ⟨RX1, "crossZ", "(II)J"⟩
def RX2 : String := "HullFoundry$Hull"
def TX2 : u_T := fun k => match k with
  | 0 => ("HullFoundry$Hull", "shell", "LHullFoundry$Shell;", true)
  | 1 => ("HullFoundry$Hull", "faceAt", "[I", true)
  | 2 => ("HullFoundry$Hull", "isRefused", "Z", false)
  | 3 => ("HullFoundry$Hull", "corners", "I", false)
  | 4 => ("HullFoundry$Hull", "px", "I", false)
  | 5 => ("HullFoundry$Hull", "py", "I", false)
  | _ => ("HullFoundry$Hull", "pz", "I", false)
def tyX2 : Nat → FieldType := fun k => match k with
  | 0 => .object "HullFoundry$Shell"
  | 1 => .array .int
  | 2 => .boolean
  | 3 => .int
  | 4 => .int
  | 5 => .int
  | _ => .int
abbrev wsX20 : List Cond := u_ws RX2 TX2 7
theorem nmX2 : ∀ a, a < 7 → ∀ b, b < 7 → a ≠ b → (TX2 a).2.1 ≠ (TX2 b).2.1 := by decide +kernel
theorem tyX2_ok : ∀ k, k < 7 → parseFieldDescriptor (TX2 k).2.2.1 = some (tyX2 k) := by decide +kernel
abbrev cX2_init : ByteArray := prog_4_method_1_code
def yX2_init : MethodName := ⟨RX2, "<init>", "()V"⟩
abbrev cX2_build : ByteArray := prog_4_method_2_code
def yX2_build : MethodName := ⟨RX2, "build", "(LHullFoundry$Points;LHullFoundry$Points;LHullFoundry$Body;)I"⟩
abbrev cX2_spread : ByteArray := prog_4_method_3_code
def yX2_spread : MethodName := ⟨RX2, "spread", "(LHullFoundry$Points;LHullFoundry$Points;)I"⟩
abbrev cX2_stepOff : ByteArray := prog_4_method_4_code
def yX2_stepOff : MethodName := ⟨RX2, "stepOff", "(LHullFoundry$Points;LHullFoundry$Points;JJJ)Z"⟩
abbrev cX2_seek : ByteArray := prog_4_method_5_code
def yX2_seek : MethodName := ⟨RX2, "seek", "(LHullFoundry$Points;LHullFoundry$Points;JJJ)V"⟩
abbrev cX2_take : ByteArray := prog_4_method_6_code
def yX2_take : MethodName := ⟨RX2, "take", "()V"⟩
abbrev cX2_wrap : ByteArray := prog_4_method_7_code
def yX2_wrap : MethodName := ⟨RX2, "wrap", "(LHullFoundry$Points;LHullFoundry$Points;I)V"⟩
abbrev cX2_fill : ByteArray := prog_4_method_8_code
def yX2_fill : MethodName := ⟨RX2, "fill", "(LHullFoundry$Body;I)V"⟩
def RX3 : String := "HullFoundry$Points"
def TX3 : u_T := fun k => match k with
  | 0 => ("HullFoundry$Points", "size", "I", false)
  | 1 => ("HullFoundry$Points", "x", "[I", true)
  | 2 => ("HullFoundry$Points", "y", "[I", true)
  | _ => ("HullFoundry$Points", "z", "[I", true)
def tyX3 : Nat → FieldType := fun k => match k with
  | 0 => .int
  | 1 => .array .int
  | 2 => .array .int
  | _ => .array .int
abbrev wsX30 : List Cond := u_ws RX3 TX3 4
theorem nmX3 : ∀ a, a < 4 → ∀ b, b < 4 → a ≠ b → (TX3 a).2.1 ≠ (TX3 b).2.1 := by decide +kernel
theorem tyX3_ok : ∀ k, k < 4 → parseFieldDescriptor (TX3 k).2.2.1 = some (tyX3 k) := by decide +kernel
abbrev cX3_init : ByteArray := prog_5_method_1_code
def yX3_init : MethodName := ⟨RX3, "<init>", "(I)V"⟩
abbrev cX3_clear : ByteArray := prog_5_method_2_code
def yX3_clear : MethodName := ⟨RX3, "clear", "()V"⟩
abbrev cX3_put : ByteArray := prog_5_method_3_code
def yX3_put : MethodName := ⟨RX3, "put", "(III)V"⟩
abbrev cX3_replace : ByteArray := prog_5_method_4_code
def yX3_replace : MethodName := ⟨RX3, "replace", "(IIII)Z"⟩
abbrev cX3_takeAll : ByteArray := prog_5_method_5_code
def yX3_takeAll : MethodName := ⟨RX3, "takeAll", "(LHullFoundry$Points;)V"⟩
abbrev cX3_putInOrder : ByteArray := prog_5_method_6_code
def yX3_putInOrder : MethodName := ⟨RX3, "putInOrder", "(III)V"⟩
abbrev cX3_isLess : ByteArray := prog_5_method_7_code
def yX3_isLess : MethodName := ⟨RX3, "isLess", "(IIII)Z"⟩
abbrev cX3_along : ByteArray := prog_5_method_8_code
def yX3_along : MethodName := ⟨RX3, "along", "(IJJJ)J"⟩
abbrev cX3_farthest : ByteArray := prog_5_method_9_code
def yX3_farthest : MethodName := ⟨RX3, "farthest", "(JJJ)I"⟩
abbrev cX3_squareBetween : ByteArray := prog_5_method_10_code
def yX3_squareBetween : MethodName := ⟨RX3, "squareBetween", "(II)I"⟩
abbrev cX3_isLike : ByteArray := prog_5_method_11_code
def yX3_isLike : MethodName := ⟨RX3, "isLike", "(LHullFoundry$Points;)Z"⟩
abbrev cX3_boxOf : ByteArray := prog_5_method_12_code
def yX3_boxOf : MethodName := ⟨RX3, "boxOf", "(IIII)J"⟩
abbrev cX3_acrossX : ByteArray := prog_5_method_13_code
def yX3_acrossX : MethodName := ⟨RX3, "acrossX", "(III)J"⟩
abbrev cX3_acrossY : ByteArray := prog_5_method_14_code
def yX3_acrossY : MethodName := ⟨RX3, "acrossY", "(III)J"⟩
abbrev cX3_acrossZ : ByteArray := prog_5_method_15_code
def yX3_acrossZ : MethodName := ⟨RX3, "acrossZ", "(III)J"⟩
def RX4 : String := "HullFoundry$Ratio"
def TX4 : u_T := fun k => match k with
  | 0 => ("HullFoundry$Ratio", "top", "J", false)
  | _ => ("HullFoundry$Ratio", "bottom", "J", false)
def tyX4 : Nat → FieldType := fun k => match k with
  | 0 => .long
  | _ => .long
abbrev wsX40 : List Cond := u_ws RX4 TX4 2
theorem nmX4 : ∀ a, a < 2 → ∀ b, b < 2 → a ≠ b → (TX4 a).2.1 ≠ (TX4 b).2.1 := by decide +kernel
theorem tyX4_ok : ∀ k, k < 2 → parseFieldDescriptor (TX4 k).2.2.1 = some (tyX4 k) := by decide +kernel
abbrev cX4_init : ByteArray := prog_6_method_1_code
def yX4_init : MethodName := ⟨RX4, "<init>", "()V"⟩
abbrev cX4_put : ByteArray := prog_6_method_2_code
def yX4_put : MethodName := ⟨RX4, "put", "(JJ)V"⟩
abbrev cX4_part : ByteArray := prog_6_method_3_code
def yX4_part : MethodName := ⟨RX4, "part", "(I)J"⟩
abbrev cX4_isAbove : ByteArray := prog_6_method_4_code
def yX4_isAbove : MethodName := ⟨RX4, "isAbove", "(JJ)Z"⟩
def RX5 : String := "HullFoundry$Shell"
def TX5 : u_T := fun k => match k with
  | 0 => ("HullFoundry$Shell", "knots", "LHullFoundry$Points;", true)
  | 1 => ("HullFoundry$Shell", "triangles", "I", false)
  | 2 => ("HullFoundry$Shell", "tips", "[I", true)
  | 3 => ("HullFoundry$Shell", "planes", "[I", true)
  | 4 => ("HullFoundry$Shell", "isSettled", "[Z", true)
  | 5 => ("HullFoundry$Shell", "sides", "I", false)
  | 6 => ("HullFoundry$Shell", "sideFrom", "[I", true)
  | 7 => ("HullFoundry$Shell", "sideTo", "[I", true)
  | _ => ("HullFoundry$Shell", "isTornSide", "[Z", true)
def tyX5 : Nat → FieldType := fun k => match k with
  | 0 => .object "HullFoundry$Points"
  | 1 => .int
  | 2 => .array .int
  | 3 => .array .int
  | 4 => .array .boolean
  | 5 => .int
  | 6 => .array .int
  | 7 => .array .int
  | _ => .array .boolean
abbrev wsX50 : List Cond := u_ws RX5 TX5 9
theorem nmX5 : ∀ a, a < 9 → ∀ b, b < 9 → a ≠ b → (TX5 a).2.1 ≠ (TX5 b).2.1 := by decide +kernel
theorem tyX5_ok : ∀ k, k < 9 → parseFieldDescriptor (TX5 k).2.2.1 = some (tyX5 k) := by decide +kernel
abbrev cX5_init : ByteArray := prog_7_method_1_code
def yX5_init : MethodName := ⟨RX5, "<init>", "()V"⟩
abbrev cX5_clear : ByteArray := prog_7_method_2_code
def yX5_clear : MethodName := ⟨RX5, "clear", "()V"⟩
abbrev cX5_addProp : ByteArray := prog_7_method_3_code
def yX5_addProp : MethodName := ⟨RX5, "addProp", "()V"⟩
abbrev cX5_beginWithFour : ByteArray := prog_7_method_4_code
def yX5_beginWithFour : MethodName := ⟨RX5, "beginWithFour", "()V"⟩
abbrev cX5_firstOpen : ByteArray := prog_7_method_5_code
def yX5_firstOpen : MethodName := ⟨RX5, "firstOpen", "()I"⟩
abbrev cX5_isBeyond : ByteArray := prog_7_method_6_code
def yX5_isBeyond : MethodName := ⟨RX5, "isBeyond", "(IJJJ)Z"⟩
abbrev cX5_touches : ByteArray := prog_7_method_7_code
def yX5_touches : MethodName := ⟨RX5, "touches", "(II)Z"⟩
abbrev cX5_attachLatest : ByteArray := prog_7_method_8_code
def yX5_attachLatest : MethodName := ⟨RX5, "attachLatest", "()V"⟩
abbrev cX5_tearOff : ByteArray := prog_7_method_9_code
def yX5_tearOff : MethodName := ⟨RX5, "tearOff", "(I)V"⟩
abbrev cX5_addTriangle : ByteArray := prog_7_method_10_code
def yX5_addTriangle : MethodName := ⟨RX5, "addTriangle", "(III)V"⟩
def RX6 : String := "HullFoundry"
def TX6 : u_T := fun k => match k with
  | 0 => ("HullFoundry", "trays", "[LHullFoundry$Points;", true)
  | 1 => ("HullFoundry", "isThere", "[Z", true)
  | 2 => ("HullFoundry", "solids", "[LHullFoundry$Body;", true)
  | 3 => ("HullFoundry", "before", "[LHullFoundry$Body;", true)
  | 4 => ("HullFoundry", "changedSolid", "[I", true)
  | 5 => ("HullFoundry", "changes", "I", false)
  | 6 => ("HullFoundry", "fresh", "LHullFoundry$Body;", false)
  | 7 => ("HullFoundry", "scratch", "LHullFoundry$Points;", true)
  | 8 => ("HullFoundry", "origin", "LHullFoundry$Points;", true)
  | 9 => ("HullFoundry", "shift", "LHullFoundry$Points;", true)
  | 10 => ("HullFoundry", "hull", "LHullFoundry$Hull;", true)
  | 11 => ("HullFoundry", "gap", "LHullFoundry$Gap;", true)
  | _ => ("HullFoundry", "ratio", "LHullFoundry$Ratio;", true)
def tyX6 : Nat → FieldType := fun k => match k with
  | 0 => .array (.object "HullFoundry$Points")
  | 1 => .array .boolean
  | 2 => .array (.object "HullFoundry$Body")
  | 3 => .array (.object "HullFoundry$Body")
  | 4 => .array .int
  | 5 => .int
  | 6 => .object "HullFoundry$Body"
  | 7 => .object "HullFoundry$Points"
  | 8 => .object "HullFoundry$Points"
  | 9 => .object "HullFoundry$Points"
  | 10 => .object "HullFoundry$Hull"
  | 11 => .object "HullFoundry$Gap"
  | _ => .object "HullFoundry$Ratio"
abbrev wsX60 : List Cond := u_ws RX6 TX6 13
theorem nmX6 : ∀ a, a < 13 → ∀ b, b < 13 → a ≠ b → (TX6 a).2.1 ≠ (TX6 b).2.1 := by decide +kernel
theorem tyX6_ok : ∀ k, k < 13 → parseFieldDescriptor (TX6 k).2.2.1 = some (tyX6 k) := by decide +kernel
abbrev cX6_init : ByteArray := prog_1_method_1_code
def yX6_init : MethodName := ⟨RX6, "<init>", "()V"⟩
abbrev cX6_tray : ByteArray := prog_1_method_2_code
def yX6_tray : MethodName := ⟨RX6, "tray", "(II)Z"⟩
abbrev cX6_point : ByteArray := prog_1_method_3_code
def yX6_point : MethodName := ⟨RX6, "point", "(IIIII)Z"⟩
abbrev cX6_solid : ByteArray := prog_1_method_4_code
def yX6_solid : MethodName := ⟨RX6, "solid", "(II)I"⟩
abbrev cX6_grow : ByteArray := prog_1_method_5_code
def yX6_grow : MethodName := ⟨RX6, "grow", "(IIII)I"⟩
abbrev cX6_count : ByteArray := prog_1_method_6_code
def yX6_count : MethodName := ⟨RX6, "count", "(II)I"⟩
abbrev cX6_corner : ByteArray := prog_1_method_7_code
def yX6_corner : MethodName := ⟨RX6, "corner", "(III)I"⟩
abbrev cX6_edge : ByteArray := prog_1_method_8_code
def yX6_edge : MethodName := ⟨RX6, "edge", "(III)I"⟩
abbrev cX6_face : ByteArray := prog_1_method_9_code
def yX6_face : MethodName := ⟨RX6, "face", "(III)J"⟩
abbrev cX6_in : ByteArray := prog_1_method_10_code
def yX6_in : MethodName := ⟨RX6, "in", "(IIIII)I"⟩
abbrev cX6_side : ByteArray := prog_1_method_11_code
def yX6_side : MethodName := ⟨RX6, "side", "(IIIII)I"⟩
abbrev cX6_volume : ByteArray := prog_1_method_12_code
def yX6_volume : MethodName := ⟨RX6, "volume", "(I)J"⟩
abbrev cX6_middle : ByteArray := prog_1_method_13_code
def yX6_middle : MethodName := ⟨RX6, "middle", "(III)J"⟩
abbrev cX6_far : ByteArray := prog_1_method_14_code
def yX6_far : MethodName := ⟨RX6, "far", "(II)I"⟩
abbrev cX6_width : ByteArray := prog_1_method_15_code
def yX6_width : MethodName := ⟨RX6, "width", "(II)J"⟩
abbrev cX6_sum : ByteArray := prog_1_method_16_code
def yX6_sum : MethodName := ⟨RX6, "sum", "(III)I"⟩
abbrev cX6_apart : ByteArray := prog_1_method_17_code
def yX6_apart : MethodName := ⟨RX6, "apart", "(II)I"⟩
abbrev cX6_near : ByteArray := prog_1_method_18_code
def yX6_near : MethodName := ⟨RX6, "near", "(III)J"⟩
abbrev cX6_same : ByteArray := prog_1_method_19_code
def yX6_same : MethodName := ⟨RX6, "same", "(II)I"⟩
abbrev cX6_move : ByteArray := prog_1_method_20_code
def yX6_move : MethodName := ⟨RX6, "move", "(IIII)Z"⟩
abbrev cX6_mirror : ByteArray := prog_1_method_21_code
def yX6_mirror : MethodName := ⟨RX6, "mirror", "(II)Z"⟩
abbrev cX6_turn : ByteArray := prog_1_method_22_code
def yX6_turn : MethodName := ⟨RX6, "turn", "(II)Z"⟩
abbrev cX6_copy : ByteArray := prog_1_method_23_code
def yX6_copy : MethodName := ⟨RX6, "copy", "(II)Z"⟩
abbrev cX6_undo : ByteArray := prog_1_method_24_code
def yX6_undo : MethodName := ⟨RX6, "undo", "()I"⟩
abbrev cX6_isSlot : ByteArray := prog_1_method_25_code
def yX6_isSlot : MethodName := ⟨RX6, "isSlot", "(I)Z"⟩
abbrev cX6_isTopOrBottom : ByteArray := prog_1_method_26_code
def yX6_isTopOrBottom : MethodName := ⟨RX6, "isTopOrBottom", "(I)Z"⟩
abbrev cX6_isWithin : ByteArray := prog_1_method_27_code
def yX6_isWithin : MethodName := ⟨RX6, "isWithin", "(II)Z"⟩
abbrev cX6_isPoint : ByteArray := prog_1_method_28_code
def yX6_isPoint : MethodName := ⟨RX6, "isPoint", "(III)Z"⟩
abbrev cX6_divisor : ByteArray := prog_1_method_29_code
def yX6_divisor : MethodName := ⟨RX6, "divisor", "(JJ)J"⟩
abbrev cX6_become : ByteArray := prog_1_method_30_code
def yX6_become : MethodName := ⟨RX6, "become", "(ILHullFoundry$Points;LHullFoundry$Points;)I"⟩
abbrev cX6_keepFresh : ByteArray := prog_1_method_31_code
def yX6_keepFresh : MethodName := ⟨RX6, "keepFresh", "(I)V"⟩
abbrev cX6_forgetOldest : ByteArray := prog_1_method_32_code
def yX6_forgetOldest : MethodName := ⟨RX6, "forgetOldest", "()V"⟩
def RX7 : String := "HullFoundryModel"
def TX7 : u_T := fun k => match k with
  | 0 => ("HullFoundryModel", "trayMany", "[I", true)
  | 1 => ("HullFoundryModel", "trayX", "[I", true)
  | 2 => ("HullFoundryModel", "trayY", "[I", true)
  | 3 => ("HullFoundryModel", "trayZ", "[I", true)
  | 4 => ("HullFoundryModel", "many", "[I", true)
  | 5 => ("HullFoundryModel", "kind", "[I", true)
  | 6 => ("HullFoundryModel", "cornerX", "[I", true)
  | 7 => ("HullFoundryModel", "cornerY", "[I", true)
  | 8 => ("HullFoundryModel", "cornerZ", "[I", true)
  | 9 => ("HullFoundryModel", "changes", "I", false)
  | 10 => ("HullFoundryModel", "wasMany", "[I", true)
  | 11 => ("HullFoundryModel", "wasKind", "[I", true)
  | 12 => ("HullFoundryModel", "wasX", "[I", true)
  | 13 => ("HullFoundryModel", "wasY", "[I", true)
  | 14 => ("HullFoundryModel", "wasZ", "[I", true)
  | 15 => ("HullFoundryModel", "heap", "I", false)
  | 16 => ("HullFoundryModel", "hx", "[J", true)
  | 17 => ("HullFoundryModel", "hy", "[J", true)
  | 18 => ("HullFoundryModel", "hz", "[J", true)
  | 19 => ("HullFoundryModel", "isCorner", "[Z", true)
  | 20 => ("HullFoundryModel", "list", "[I", true)
  | 21 => ("HullFoundryModel", "listed", "I", false)
  | 22 => ("HullFoundryModel", "ring", "[I", true)
  | 23 => ("HullFoundryModel", "ringed", "I", false)
  | 24 => ("HullFoundryModel", "nx", "J", false)
  | 25 => ("HullFoundryModel", "ny", "J", false)
  | 26 => ("HullFoundryModel", "nz", "J", false)
  | 27 => ("HullFoundryModel", "faces", "[I", true)
  | 28 => ("HullFoundryModel", "faceA", "[J", true)
  | 29 => ("HullFoundryModel", "faceB", "[J", true)
  | 30 => ("HullFoundryModel", "faceC", "[J", true)
  | 31 => ("HullFoundryModel", "faceD", "[J", true)
  | 32 => ("HullFoundryModel", "faceRing", "[I", true)
  | 33 => ("HullFoundryModel", "ringOf", "[I", true)
  | 34 => ("HullFoundryModel", "edges", "[I", true)
  | 35 => ("HullFoundryModel", "edgeP", "[I", true)
  | 36 => ("HullFoundryModel", "edgeQ", "[I", true)
  | 37 => ("HullFoundryModel", "edgeF", "[I", true)
  | 38 => ("HullFoundryModel", "edgeG", "[I", true)
  | 39 => ("HullFoundryModel", "px", "J", false)
  | 40 => ("HullFoundryModel", "py", "J", false)
  | 41 => ("HullFoundryModel", "pz", "J", false)
  | 42 => ("HullFoundryModel", "pq", "J", false)
  | 43 => ("HullFoundryModel", "ownX", "[J", true)
  | 44 => ("HullFoundryModel", "ownY", "[J", true)
  | 45 => ("HullFoundryModel", "ownZ", "[J", true)
  | 46 => ("HullFoundryModel", "owns", "[I", true)
  | 47 => ("HullFoundryModel", "six", "J", false)
  | 48 => ("HullFoundryModel", "sumX", "J", false)
  | 49 => ("HullFoundryModel", "sumY", "J", false)
  | 50 => ("HullFoundryModel", "sumZ", "J", false)
  | 51 => ("HullFoundryModel", "isFound", "Z", false)
  | 52 => ("HullFoundryModel", "above", "J", false)
  | 53 => ("HullFoundryModel", "below", "J", false)
  | 54 => ("HullFoundryModel", "tooMany", "Z", false)
  | 55 => ("HullFoundryModel", "found", "I", false)
  | 56 => ("HullFoundryModel", "foundX", "[J", true)
  | 57 => ("HullFoundryModel", "foundY", "[J", true)
  | _ => ("HullFoundryModel", "foundZ", "[J", true)
def tyX7 : Nat → FieldType := fun k => match k with
  | 0 => .array .int
  | 1 => .array .int
  | 2 => .array .int
  | 3 => .array .int
  | 4 => .array .int
  | 5 => .array .int
  | 6 => .array .int
  | 7 => .array .int
  | 8 => .array .int
  | 9 => .int
  | 10 => .array .int
  | 11 => .array .int
  | 12 => .array .int
  | 13 => .array .int
  | 14 => .array .int
  | 15 => .int
  | 16 => .array .long
  | 17 => .array .long
  | 18 => .array .long
  | 19 => .array .boolean
  | 20 => .array .int
  | 21 => .int
  | 22 => .array .int
  | 23 => .int
  | 24 => .long
  | 25 => .long
  | 26 => .long
  | 27 => .array .int
  | 28 => .array .long
  | 29 => .array .long
  | 30 => .array .long
  | 31 => .array .long
  | 32 => .array .int
  | 33 => .array .int
  | 34 => .array .int
  | 35 => .array .int
  | 36 => .array .int
  | 37 => .array .int
  | 38 => .array .int
  | 39 => .long
  | 40 => .long
  | 41 => .long
  | 42 => .long
  | 43 => .array .long
  | 44 => .array .long
  | 45 => .array .long
  | 46 => .array .int
  | 47 => .long
  | 48 => .long
  | 49 => .long
  | 50 => .long
  | 51 => .boolean
  | 52 => .long
  | 53 => .long
  | 54 => .boolean
  | 55 => .int
  | 56 => .array .long
  | 57 => .array .long
  | _ => .array .long
abbrev wsX70 : List Cond := u_ws RX7 TX7 59
theorem nmX7 : ∀ a, a < 59 → ∀ b, b < 59 → a ≠ b → (TX7 a).2.1 ≠ (TX7 b).2.1 := by decide +kernel
theorem tyX7_ok : ∀ k, k < 59 → parseFieldDescriptor (TX7 k).2.2.1 = some (tyX7 k) := by decide +kernel
abbrev cX7_init : ByteArray := prog_9_method_1_code
def yX7_init : MethodName := ⟨RX7, "<init>", "()V"⟩
abbrev cX7_isPoint : ByteArray := prog_9_method_2_code
def yX7_isPoint : MethodName := ⟨RX7, "isPoint", "(JJJ)Z"⟩
abbrev cX7_isSolid : ByteArray := prog_9_method_3_code
def yX7_isSolid : MethodName := ⟨RX7, "isSolid", "(I)Z"⟩
abbrev cX7_tray : ByteArray := prog_9_method_4_code
def yX7_tray : MethodName := ⟨RX7, "tray", "(II)Z"⟩
abbrev cX7_point : ByteArray := prog_9_method_5_code
def yX7_point : MethodName := ⟨RX7, "point", "(IIIII)Z"⟩
abbrev cX7_keeps : ByteArray := prog_9_method_6_code
def yX7_keeps : MethodName := ⟨RX7, "keeps", "()V"⟩
abbrev cX7_undo : ByteArray := prog_9_method_7_code
def yX7_undo : MethodName := ⟨RX7, "undo", "()I"⟩
abbrev cX7_heaps : ByteArray := prog_9_method_8_code
def yX7_heaps : MethodName := ⟨RX7, "heaps", "(JJJ)V"⟩
abbrev cX7_across : ByteArray := prog_9_method_9_code
def yX7_across : MethodName := ⟨RX7, "across", "(III)V"⟩
abbrev cX7_common : ByteArray := prog_9_method_10_code
def yX7_common : MethodName := ⟨RX7, "common", "(JJ)J"⟩
abbrev cX7_isFlat : ByteArray := prog_9_method_11_code
def yX7_isFlat : MethodName := ⟨RX7, "isFlat", "()Z"⟩
abbrev cX7_plain : ByteArray := prog_9_method_12_code
def yX7_plain : MethodName := ⟨RX7, "plain", "()V"⟩
abbrev cX7_height : ByteArray := prog_9_method_13_code
def yX7_height : MethodName := ⟨RX7, "height", "(I)J"⟩
abbrev cX7_leftOf : ByteArray := prog_9_method_14_code
def yX7_leftOf : MethodName := ⟨RX7, "leftOf", "(III)J"⟩
abbrev cX7_apartOf : ByteArray := prog_9_method_15_code
def yX7_apartOf : MethodName := ⟨RX7, "apartOf", "(II)J"⟩
abbrev cX7_rings : ByteArray := prog_9_method_16_code
def yX7_rings : MethodName := ⟨RX7, "rings", "()V"⟩
abbrev cX7_kindOfHeap : ByteArray := prog_9_method_17_code
def yX7_kindOfHeap : MethodName := ⟨RX7, "kindOfHeap", "()I"⟩
abbrev cX7_isKnown : ByteArray := prog_9_method_18_code
def yX7_isKnown : MethodName := ⟨RX7, "isKnown", "(IJ)Z"⟩
abbrev cX7_isAhead : ByteArray := prog_9_method_19_code
def yX7_isAhead : MethodName := ⟨RX7, "isAhead", "(IJ)Z"⟩
abbrev cX7_faceHere : ByteArray := prog_9_method_20_code
def yX7_faceHere : MethodName := ⟨RX7, "faceHere", "(IJ)V"⟩
abbrev cX7_turnsAbout : ByteArray := prog_9_method_21_code
def yX7_turnsAbout : MethodName := ⟨RX7, "turnsAbout", "()V"⟩
abbrev cX7_lists : ByteArray := prog_9_method_22_code
def yX7_lists : MethodName := ⟨RX7, "lists", "(J)Z"⟩
abbrev cX7_hulls : ByteArray := prog_9_method_23_code
def yX7_hulls : MethodName := ⟨RX7, "hulls", "(I)I"⟩
abbrev cX7_planes : ByteArray := prog_9_method_24_code
def yX7_planes : MethodName := ⟨RX7, "planes", "(I)V"⟩
abbrev cX7_loads : ByteArray := prog_9_method_25_code
def yX7_loads : MethodName := ⟨RX7, "loads", "(I)V"⟩
abbrev cX7_knows : ByteArray := prog_9_method_26_code
def yX7_knows : MethodName := ⟨RX7, "knows", "(II)V"⟩
abbrev cX7_edgeHere : ByteArray := prog_9_method_27_code
def yX7_edgeHere : MethodName := ⟨RX7, "edgeHere", "(IIII)V"⟩
abbrev cX7_becomes : ByteArray := prog_9_method_28_code
def yX7_becomes : MethodName := ⟨RX7, "becomes", "(II)Z"⟩
abbrev cX7_solid : ByteArray := prog_9_method_29_code
def yX7_solid : MethodName := ⟨RX7, "solid", "(II)I"⟩
abbrev cX7_grow : ByteArray := prog_9_method_30_code
def yX7_grow : MethodName := ⟨RX7, "grow", "(IIII)I"⟩
abbrev cX7_count : ByteArray := prog_9_method_31_code
def yX7_count : MethodName := ⟨RX7, "count", "(II)I"⟩
abbrev cX7_corner : ByteArray := prog_9_method_32_code
def yX7_corner : MethodName := ⟨RX7, "corner", "(III)I"⟩
abbrev cX7_edge : ByteArray := prog_9_method_33_code
def yX7_edge : MethodName := ⟨RX7, "edge", "(III)I"⟩
abbrev cX7_area : ByteArray := prog_9_method_34_code
def yX7_area : MethodName := ⟨RX7, "area", "(I)J"⟩
abbrev cX7_face : ByteArray := prog_9_method_35_code
def yX7_face : MethodName := ⟨RX7, "face", "(III)J"⟩
abbrev cX7_overFace : ByteArray := prog_9_method_36_code
def yX7_overFace : MethodName := ⟨RX7, "overFace", "(I)J"⟩
abbrev cX7_owns : ByteArray := prog_9_method_37_code
def yX7_owns : MethodName := ⟨RX7, "owns", "(II)V"⟩
abbrev cX7_isOver : ByteArray := prog_9_method_38_code
def yX7_isOver : MethodName := ⟨RX7, "isOver", "(II)Z"⟩
abbrev cX7_where : ByteArray := prog_9_method_39_code
def yX7_where : MethodName := ⟨RX7, "where", "(II)I"⟩
abbrev cX7_onLine : ByteArray := prog_9_method_40_code
def yX7_onLine : MethodName := ⟨RX7, "onLine", "(II)Z"⟩
abbrev cX7_isFar : ByteArray := prog_9_method_41_code
def yX7_isFar : MethodName := ⟨RX7, "isFar", "(I)Z"⟩
abbrev cX7_points : ByteArray := prog_9_method_42_code
def yX7_points : MethodName := ⟨RX7, "points", "(JJJJ)V"⟩
abbrev cX7_in : ByteArray := prog_9_method_43_code
def yX7_in : MethodName := ⟨RX7, "in", "(IIIII)I"⟩
abbrev cX7_isSmall : ByteArray := prog_9_method_44_code
def yX7_isSmall : MethodName := ⟨RX7, "isSmall", "(I)Z"⟩
abbrev cX7_side : ByteArray := prog_9_method_45_code
def yX7_side : MethodName := ⟨RX7, "side", "(IIIII)I"⟩
abbrev cX7_adds : ByteArray := prog_9_method_46_code
def yX7_adds : MethodName := ⟨RX7, "adds", "()V"⟩
abbrev cX7_volume : ByteArray := prog_9_method_47_code
def yX7_volume : MethodName := ⟨RX7, "volume", "(I)J"⟩
abbrev cX7_middle : ByteArray := prog_9_method_48_code
def yX7_middle : MethodName := ⟨RX7, "middle", "(III)J"⟩
abbrev cX7_far : ByteArray := prog_9_method_49_code
def yX7_far : MethodName := ⟨RX7, "far", "(II)I"⟩
abbrev cX7_fractions : ByteArray := prog_9_method_50_code
def yX7_fractions : MethodName := ⟨RX7, "fractions", "(JJJJ)I"⟩
abbrev cX7_tries : ByteArray := prog_9_method_51_code
def yX7_tries : MethodName := ⟨RX7, "tries", "(JJ)V"⟩
abbrev cX7_told : ByteArray := prog_9_method_52_code
def yX7_told : MethodName := ⟨RX7, "told", "(I)J"⟩
abbrev cX7_thick : ByteArray := prog_9_method_53_code
def yX7_thick : MethodName := ⟨RX7, "thick", "()V"⟩
abbrev cX7_width : ByteArray := prog_9_method_54_code
def yX7_width : MethodName := ⟨RX7, "width", "(II)J"⟩
abbrev cX7_crosses : ByteArray := prog_9_method_55_code
def yX7_crosses : MethodName := ⟨RX7, "crosses", "(JJJJJJ)V"⟩
abbrev cX7_along : ByteArray := prog_9_method_56_code
def yX7_along : MethodName := ⟨RX7, "along", "(I)J"⟩
abbrev cX7_highest : ByteArray := prog_9_method_57_code
def yX7_highest : MethodName := ⟨RX7, "highest", "(I)J"⟩
abbrev cX7_looks : ByteArray := prog_9_method_58_code
def yX7_looks : MethodName := ⟨RX7, "looks", "()V"⟩
abbrev cX7_finds : ByteArray := prog_9_method_59_code
def yX7_finds : MethodName := ⟨RX7, "finds", "(JJJ)V"⟩
abbrev cX7_looksBothWays : ByteArray := prog_9_method_60_code
def yX7_looksBothWays : MethodName := ⟨RX7, "looksBothWays", "()V"⟩
abbrev cX7_looksAll : ByteArray := prog_9_method_61_code
def yX7_looksAll : MethodName := ⟨RX7, "looksAll", "()V"⟩
abbrev cX7_sum : ByteArray := prog_9_method_62_code
def yX7_sum : MethodName := ⟨RX7, "sum", "(III)I"⟩
abbrev cX7_cornerAt : ByteArray := prog_9_method_63_code
def yX7_cornerAt : MethodName := ⟨RX7, "cornerAt", "(I)V"⟩
abbrev cX7_toEdge : ByteArray := prog_9_method_64_code
def yX7_toEdge : MethodName := ⟨RX7, "toEdge", "(III)V"⟩
abbrev cX7_toCorner : ByteArray := prog_9_method_65_code
def yX7_toCorner : MethodName := ⟨RX7, "toCorner", "(II)V"⟩
abbrev cX7_toFace : ByteArray := prog_9_method_66_code
def yX7_toFace : MethodName := ⟨RX7, "toFace", "(III)V"⟩
abbrev cX7_toEdges : ByteArray := prog_9_method_67_code
def yX7_toEdges : MethodName := ⟨RX7, "toEdges", "(IIII)V"⟩
abbrev cX7_through : ByteArray := prog_9_method_68_code
def yX7_through : MethodName := ⟨RX7, "through", "(IIII)V"⟩
abbrev cX7_against : ByteArray := prog_9_method_69_code
def yX7_against : MethodName := ⟨RX7, "against", "(II)V"⟩
abbrev cX7_nears : ByteArray := prog_9_method_70_code
def yX7_nears : MethodName := ⟨RX7, "nears", "(II)V"⟩
abbrev cX7_apart : ByteArray := prog_9_method_71_code
def yX7_apart : MethodName := ⟨RX7, "apart", "(II)I"⟩
abbrev cX7_near : ByteArray := prog_9_method_72_code
def yX7_near : MethodName := ⟨RX7, "near", "(III)J"⟩
abbrev cX7_same : ByteArray := prog_9_method_73_code
def yX7_same : MethodName := ⟨RX7, "same", "(II)I"⟩
abbrev cX7_move : ByteArray := prog_9_method_74_code
def yX7_move : MethodName := ⟨RX7, "move", "(IIII)Z"⟩
abbrev cX7_orders : ByteArray := prog_9_method_75_code
def yX7_orders : MethodName := ⟨RX7, "orders", "(I)V"⟩
abbrev cX7_mirror : ByteArray := prog_9_method_76_code
def yX7_mirror : MethodName := ⟨RX7, "mirror", "(II)Z"⟩
abbrev cX7_turn : ByteArray := prog_9_method_77_code
def yX7_turn : MethodName := ⟨RX7, "turn", "(II)Z"⟩
abbrev cX7_copy : ByteArray := prog_9_method_78_code
def yX7_copy : MethodName := ⟨RX7, "copy", "(II)Z"⟩
def RJ6 : String := "java/lang/Integer"
def TJ6 : u_T := fun k => match k with
  | _ => ("", "", "", false)
def tyJ6 : Nat → FieldType := fun k => match k with
  | _ => .int
abbrev wsJ60 : List Cond := u_ws RJ6 TJ6 0
theorem nmJ6 : ∀ a, a < 0 → ∀ b, b < 0 → a ≠ b → (TJ6 a).2.1 ≠ (TJ6 b).2.1 := by decide +kernel
theorem tyJ6_ok : ∀ k, k < 0 → parseFieldDescriptor (TJ6 k).2.2.1 = some (tyJ6 k) := by decide +kernel
abbrev cJ6_compare_7cf53 : ByteArray := prog_10_method_40_code
def yJ6_compare_7cf53 : MethodName := ⟨RJ6, "compare", "(II)I"⟩
def RJ9 : String := "java/lang/Math"
def TJ9 : u_T := fun k => match k with
  | _ => ("", "", "", false)
def tyJ9 : Nat → FieldType := fun k => match k with
  | _ => .int
abbrev wsJ90 : List Cond := u_ws RJ9 TJ9 0
theorem nmJ9 : ∀ a, a < 0 → ∀ b, b < 0 → a ≠ b → (TJ9 a).2.1 ≠ (TJ9 b).2.1 := by decide +kernel
theorem tyJ9_ok : ∀ k, k < 0 → parseFieldDescriptor (TJ9 k).2.2.1 = some (tyJ9 k) := by decide +kernel
abbrev cJ9_abs_0f7a4 : ByteArray := prog_11_method_59_code
def yJ9_abs_0f7a4 : MethodName := ⟨RJ9, "abs", "(I)I"⟩
abbrev cJ9_abs_067f4 : ByteArray := prog_11_method_61_code
def yJ9_abs_067f4 : MethodName := ⟨RJ9, "abs", "(J)J"⟩
abbrev cJ9_max_7cf53 : ByteArray := prog_11_method_65_code
def yJ9_max_7cf53 : MethodName := ⟨RJ9, "max", "(II)I"⟩
abbrev cJ9_min_7cf53 : ByteArray := prog_11_method_69_code
def yJ9_min_7cf53 : MethodName := ⟨RJ9, "min", "(II)I"⟩
def RJ10 : String := "java/lang/System"
def TJ10 : u_T := fun k => match k with
  | _ => ("", "", "", false)
def tyJ10 : Nat → FieldType := fun k => match k with
  | _ => .int
abbrev wsJ100 : List Cond := u_ws RJ10 TJ10 0
theorem nmJ10 : ∀ a, a < 0 → ∀ b, b < 0 → a ≠ b → (TJ10 a).2.1 ≠ (TJ10 b).2.1 := by decide +kernel
theorem tyJ10_ok : ∀ k, k < 0 → parseFieldDescriptor (TJ10 k).2.2.1 = some (tyJ10 k) := by decide +kernel
def RJ7 : String := "java/util/Arrays"
def TJ7 : u_T := fun k => match k with
  | _ => ("", "", "", false)
def tyJ7 : Nat → FieldType := fun k => match k with
  | _ => .int
abbrev wsJ70 : List Cond := u_ws RJ7 TJ7 0
theorem nmJ7 : ∀ a, a < 0 → ∀ b, b < 0 → a ≠ b → (TJ7 a).2.1 ≠ (TJ7 b).2.1 := by decide +kernel
theorem tyJ7_ok : ∀ k, k < 0 → parseFieldDescriptor (TJ7 k).2.2.1 = some (tyJ7 k) := by decide +kernel
abbrev cJ7_fill_53178 : ByteArray := prog_13_method_103_code
def yJ7_fill_53178 : MethodName := ⟨RJ7, "fill", "([II)V"⟩
def RL : String := "HullFoundryLaw"
abbrev cL_law : ByteArray := code
def yL_law : MethodName := ⟨RL, "law", "([I)Z"⟩
abbrev vwCl : List vw_C := [(RX0, TX0, 9), (RX1, TX1, 10), (RX2, TX2, 7), (RX3, TX3, 4), (RX4, TX4, 2), (RX5, TX5, 9), (RX6, TX6, 13), (RX7, TX7, 59)]
def cN (i : Nat) : String := match i with
  | 0 => RX0
  | 1 => RX1
  | 2 => RX2
  | 3 => RX3
  | 4 => RX4
  | 5 => RX5
  | 6 => RX6
  | 7 => RX7
  | 8 => RJ6
  | 9 => RJ9
  | 10 => RJ10
  | 11 => RJ7
  | 12 => RL
  | _ => ""
def cT (i : Nat) : u_T := match i with
  | 0 => TX0
  | 1 => TX1
  | 2 => TX2
  | 3 => TX3
  | 4 => TX4
  | 5 => TX5
  | 6 => TX6
  | 7 => TX7
  | _ => fun _ => ("", "", "", false)
def cY (i : Nat) : Nat → FieldType := match i with
  | 0 => tyX0
  | 1 => tyX1
  | 2 => tyX2
  | 3 => tyX3
  | 4 => tyX4
  | 5 => tyX5
  | 6 => tyX6
  | 7 => tyX7
  | _ => fun _ => .int
def cF (i : Nat) : Nat := match i with
  | 0 => 9
  | 1 => 10
  | 2 => 7
  | 3 => 4
  | 4 => 2
  | 5 => 9
  | 6 => 13
  | 7 => 59
  | _ => 0
theorem inX0 : ∀ w ∈ wsX00, w ∈ lw_tbl := by decide +kernel
theorem inX1 : ∀ w ∈ wsX10, w ∈ lw_tbl := by decide +kernel
theorem inX2 : ∀ w ∈ wsX20, w ∈ lw_tbl := by decide +kernel
theorem inX3 : ∀ w ∈ wsX30, w ∈ lw_tbl := by decide +kernel
theorem inX4 : ∀ w ∈ wsX40, w ∈ lw_tbl := by decide +kernel
theorem inX5 : ∀ w ∈ wsX50, w ∈ lw_tbl := by decide +kernel
theorem inX6 : ∀ w ∈ wsX60, w ∈ lw_tbl := by decide +kernel
theorem inX7 : ∀ w ∈ wsX70, w ∈ lw_tbl := by decide +kernel
def nT : List (Nat × Nat × MethodName × String) := [(6, 36, ⟨"HullFoundry$Body", "<init>", "()V"⟩, "HullFoundry"), (0, 45, ⟨"HullFoundry$Ratio", "<init>", "()V"⟩, "HullFoundry"), (6, 56, ⟨"HullFoundry$Hull", "<init>", "()V"⟩, "HullFoundry"), (2, 11, ⟨"HullFoundry$Shell", "<init>", "()V"⟩, "HullFoundry"), (6, 63, ⟨"HullFoundry$Gap", "<init>", "()V"⟩, "HullFoundry"), (6, 70, ⟨"HullFoundry$Ratio", "<init>", "()V"⟩, "HullFoundry"), (2, 111, ⟨"HullFoundry", "isPoint", "(III)Z"⟩, "HullFoundry"), (0, 63, ⟨"HullFoundry", "divisor", "(JJ)J"⟩, "HullFoundry"), (4, 24, ⟨"HullFoundry", "divisor", "(JJ)J"⟩, "HullFoundry")]
def lw_g : List Cond := lw_tbl.filter goodWord
theorem lg_in {w : Cond} (h : w ∈ lw_tbl) (g : goodWord w = true) : w ∈ lw_g := List.mem_filter.mpr ⟨h, g⟩
/-- what else is carried along: the links between nest mates, the classes of arrays of references -/
def mNs (U : State) : Prop := (∀ q ∈ nT, va_Nw (.methodLinkNest (cN q.1) q.2.1 q.2.2.1 q.2.2.2) U) ∧ va_AO RX3 U ∧ va_AO RX0 U
theorem mNs.warm {s U : State} (hW : s.WarmedH U.vm) (h : mNs s) : mNs U := ⟨fun q hq => (h.1 q hq).warmM hW, h.2.1.moved hW.alike, h.2.2.moved hW.alike⟩
theorem mNs.same {s U : State} (hW : s.vm = U.vm) (h : mNs s) : mNs U := ⟨fun q hq => (h.1 q hq).same rfl hW, h.2.1.moved (by rw [hW]; exact Vm.Alike.refl _), h.2.2.moved (by rw [hW]; exact Vm.Alike.refl _)⟩
end
section
/-! THE SMALL MACHINE: frames, locals and stacks as lists, the system's cells as a list (cell i lies at address B + i), references as places in that list. A step of it is a function; each step is carried over to the kit's judgement W once and for all. -/
abbrev mh : Type := List va_E
abbrev mF : Type := Nat × List (Nat × Value) × List Value × mh × Nat × Nat
/-- a method: name, number of its class, bytes, locals, return type, instructions by pc, room (frames, locals, cells, slots), parameters, is it a constructor -/
abbrev mM : Type := MethodName × Nat × ByteArray × Nat × Option FieldType × List (Nat × Instr × Nat) × (Nat × Nat × Nat × Nat) × Nat × Bool
def mNm (M : mM) : MethodName := M.1
def mOw (M : mM) : Nat := M.2.1
def mCd (M : mM) : ByteArray := M.2.2.1
def mLx (M : mM) : Nat := M.2.2.2.1
def mRt (M : mM) : Option FieldType := M.2.2.2.2.1
def mTb (M : mM) : List (Nat × Instr × Nat) := M.2.2.2.2.2.1
def mFr (M : mM) : Nat := M.2.2.2.2.2.2.1.1
def mLo (M : mM) : Nat := M.2.2.2.2.2.2.1.2.1
def mCe (M : mM) : Nat := M.2.2.2.2.2.2.1.2.2.1
def mSl (M : mM) : Nat := M.2.2.2.2.2.2.1.2.2.2
def mAr (M : mM) : Nat := M.2.2.2.2.2.2.2.1
def mIn (M : mM) : Bool := M.2.2.2.2.2.2.2.2
def mRm (M : mM) : Room := { frames := mFr M, cells := mCe M, slots := mSl M, locals := mLo M }
/-- values: a reference is a place in the list of cells; the script is .retAddr -/
def mv (B b : Nat) (v : Value) : Value := match v with
  | .ref a => .ref (B + a)
  | .retAddr _ => .ref b
  | .int x => .int x
  | .long x => .long x
  | .float x => .float x
  | .double x => .double x
  | .null => .null
theorem mv_cat (B b : Nat) (v : Value) : (mv B b v).category = v.category := by cases v <;> rfl
def mg (B b : Nat) (q : Nat × Value) : Nat × Value := (q.1, mv B b q.2)
def mrf (B : Nat) (f : Nat → Option Nat) : Nat → Option Nat := fun j => (f j).map (fun a => B + a)
def mcv (B b : Nat) (dA : Nat → ClassId) (x : va_E) : va_E := match x with
  | .inl (t, n, .inr (.inr (.inr (.inr f)))) => .inl (dA t, n, .inr (.inr (.inr (.inr (mrf B f)))))
  | .inl (t, n, .inr (.inr (.inr (.inl f)))) => .inl (dA t, n, .inr (.inr (.inr (.inl f))))
  | .inl (t, n, .inr (.inr (.inl f))) => .inl (dA t, n, .inr (.inr (.inl f)))
  | .inl (t, n, .inr (.inl f)) => .inl (dA t, n, .inr (.inl f))
  | .inl (t, n, .inl f) => .inl (dA t, n, .inl f)
  | .inr (ci, fs) => .inr (ci, fs.map (mv B b))
def mW (B b : Nat) (dA : Nat → ClassId) (h : mh) : va_W := h.mapIdx (fun i x => (B + i, mcv B b dA x))
def mR (B b : Nat) (D : va_G) (dA : Nat → ClassId) (h : mh) (H : Heap) : Prop := H.size = B + h.length ∧ va_P D vwCl (mW B b dA h) H
def mtys (dA : Nat → ClassId) : List (ClassId × FieldType) := [(dA 0, .int), (dA 1, .long), (dA 2, .boolean), (dA 3, .object RX3), (dA 4, .object RX0)]
def mA (B : Nat) : Nat → Prop := fun q => B ≤ q
theorem mW_at {B b : Nat} {dA : Nat → ClassId} {h : mh} {i : Nat} {x : va_E} (hx : h[i]? = some x) : (mW B b dA h)[i]? = some (B + i, mcv B b dA x) := by
  unfold mW
  rw [List.getElem?_mapIdx, hx]
  rfl
theorem mW_len {B b : Nat} {dA : Nat → ClassId} {h : mh} : (mW B b dA h).length = h.length := by
  unfold mW
  rw [List.length_mapIdx]
theorem mW_set {B b : Nat} {dA : Nat → ClassId} {h : mh} {i : Nat} (x : va_E) : (mW B b dA h).set i (B + i, mcv B b dA x) = mW B b dA (h.set i x) := by
  apply List.ext_getElem?
  intro j
  unfold mW
  rw [List.getElem?_set, List.getElem?_mapIdx, List.getElem?_mapIdx, List.getElem?_set, List.length_mapIdx]
  by_cases hj : i = j
  · subst hj
    by_cases hl : i < h.length <;> simp [hl]
  · simp [hj]
theorem mW_app {B b : Nat} {dA : Nat → ClassId} {h : mh} (x : va_E) : mW B b dA (h ++ [x]) = mW B b dA h ++ [(B + h.length, mcv B b dA x)] := by
  unfold mW
  rw [List.mapIdx_append]
  simp
theorem mW_D {B b : Nat} {dA : Nat → ClassId} {h : mh} : va_D (mA B) (mW B b dA h) := by
  have key : ∀ (i : Nat) (q : Nat × va_E), (mW B b dA h)[i]? = some q → q.1 = B + i := by
    intro i q hq
    unfold mW at hq
    rw [List.getElem?_mapIdx] at hq
    cases hh : h[i]? with
    | none => rw [hh] at hq; cases hq
    | some x => rw [hh] at hq; cases hq; rfl
  refine ⟨fun i j p q hp hq hpq => ?_, fun k q hq => ?_⟩
  · have h1 := key i p hp
    have h2 := key j q hq
    omega
  · have h1 := key k q hq
    show B ≤ q.1
    omega
theorem mR_set {B b : Nat} {D : va_G} {dA : Nat → ClassId} {h : mh} {H H1 : Heap} {i : Nat} {x : va_E} {y : Nat × va_E} (hy : y = (B + i, mcv B b dA x)) (hz : H1.size = H.size) (hR : mR B b D dA h H) (hP : va_P D vwCl ((mW B b dA h).set i y) H1) : mR B b D dA (h.set i x) H1 := by
  subst hy
  refine ⟨?_, ?_⟩
  · rw [List.length_set, hz]; exact hR.1
  · rw [← mW_set]; exact hP
def ls1 (lv : List (Nat × Value)) (i : Nat) (v : Value) : List (Nat × Value) := (i, v) :: lv.filter (fun q => !(q.1 == i) && !(q.1 + 1 == i && q.2.category == 2))
def ls2 (lv : List (Nat × Value)) (i : Nat) (v : Value) : List (Nat × Value) := (i, v) :: lv.filter (fun q => !(q.1 == i) && (!(q.1 == i + 1) && !(q.1 + 1 == i && q.2.category == 2)))
theorem ls1_map {B b : Nat} {lv : List (Nat × Value)} {i : Nat} {v : Value} : (i, mv B b v) :: (lv.map (mg B b)).filter (fun q => !(q.1 == i) && !(q.1 + 1 == i && q.2.category == 2)) = (ls1 lv i v).map (mg B b) := by
  unfold ls1
  rw [List.map_cons, List.filter_map]
  congr 2
  apply congrArg (fun p => List.filter p lv)
  funext q
  simp [mg, mv_cat]
theorem ls2_map {B b : Nat} {lv : List (Nat × Value)} {i : Nat} {v : Value} : (i, mv B b v) :: (lv.map (mg B b)).filter (fun q => !(q.1 == i) && (!(q.1 == i + 1) && !(q.1 + 1 == i && q.2.category == 2))) = (ls2 lv i v).map (mg B b) := by
  unfold ls2
  rw [List.map_cons, List.filter_map]
  congr 2
  apply congrArg (fun p => List.filter p lv)
  funext q
  simp [mg, mv_cat]
def lget (lv : List (Nat × Value)) (i : Nat) : Option Value := match lv with
  | [] => none
  | q :: r => if q.1 = i then some q.2 else lget r i
theorem lget_mem {i : Nat} {v : Value} : ∀ {lv : List (Nat × Value)}, lget lv i = some v → (i, v) ∈ lv
  | [], h => by cases h
  | q :: r, h => by
    unfold lget at h
    split at h
    · cases h; rename_i hq; subst hq; exact List.mem_cons_self
    · exact List.mem_cons_of_mem _ (lget_mem h)
theorem lget_at {B b i nL : Nat} {v : Value} {lv : List (Nat × Value)} {ls : Array Slot} (hl : lv_has ls nL (lv.map (mg B b))) (h : lget lv i = some v) : ls[i]? = some (.val (mv B b v)) := hl.2.2 (i, mv B b v) (List.mem_map.mpr ⟨(i, v), lget_mem h, rfl⟩)
theorem lget_ix {B b i : Nat} {v : Value} {lv : List (Nat × Value)} (h : lget lv i = some v) : ∃ k : Nat, (lv.map (mg B b))[k]? = some (i, mv B b v) := List.getElem?_of_mem (List.mem_map.mpr ⟨(i, v), lget_mem h, rfl⟩)
theorem lv_args_mv {B b : Nat} : ∀ (vs : List Value) (i : Nat), lv_args i (vs.map (mv B b)) = (lv_args i vs).map (mg B b)
  | [], i => rfl
  | v :: vs, i => by
    show (i, mv B b v) :: lv_args (if (mv B b v).category = 2 then i + 2 else i + 1) (vs.map (mv B b)) = (i, mv B b v) :: (lv_args (if v.category = 2 then i + 2 else i + 1) vs).map (mg B b)
    rw [mv_cat, lv_args_mv]
theorem lg_sl_mv {B b : Nat} (vs : List Value) : (lg_sl (vs.map (mv B b))).length = (lg_sl vs).length := by
  induction vs with
  | nil => rfl
  | cons v vs ih =>
    unfold lg_sl at ih ⊢
    simp only [List.map_cons, List.flatMap_cons, List.length_append, mv_cat, ih]
    split <;> rfl
theorem cat_mv {B b : Nat} (vs : List Value) : ((vs.map (mv B b)).map fun v => v.category).sum = (vs.map fun v => v.category).sum := by
  rw [List.map_map]
  congr 1
  apply congrArg (fun f => List.map f vs)
  funext v
  exact mv_cat B b v

section MV
variable {p : Program} {l : Launch} {e : Env} {R : Room} {s : State} {m : MethodId} {args : Array Value} {below : List Frame} {meth : Method} {c : Code} {Q : State → Prop} {B b : Nat} {D : va_G} {dA : Nat → ClassId} {M : mM}
/-- what stands around a method's run -/
def mE (p : Program) (R : Room) (s : State) (m : MethodId) (args : Array Value) (meth : Method) (c : Code) (B : Nat) (D : va_G) (dA : Nat → ClassId) (M : mM) : Prop := p.tables.exec = Jvm.exec ∧ c.code = mCd M ∧ c.maxLocals = mLx M ∧ s.vm.findClass (cN (mOw M)) = some m.cls ∧ (∀ w ∈ lw_g, w.before args s = true) ∧ (mIn M = true → meth.name = "<init>") ∧ va_K D vwCl (mtys dA) s ∧ B ≤ s.heap.size ∧ R = mRm M ∧ mNs s
/-- the judgement: from this frame on, over every heap that holds the cells, the machine comes to Q -/
def mV (p : Program) (l : Launch) (e : Env) (R : Room) (s : State) (m : MethodId) (args : Array Value) (below : List Frame) (meth : Method) (c : Code) (Q : State → Prop) (B b : Nat) (D : va_G) (dA : Nat → ClassId) (nL : Nat) (f : mF) : Prop :=
  ∀ (H : Heap) (locs : List Loc) (ls : Array Slot), mR B b D dA f.2.2.2.1 H → va_S (mA B) s.heap H locs → lv_has ls nL (f.2.1.map (mg B b)) → W p l e R s m args below meth c H locs f.2.2.2.2.1 f.2.2.2.2.2 Q (F0 m f.1 ls (f.2.2.1.map (mv B b)))

def q_iadd (len pc : Nat) (lv : List (Nat × Value)) (st : List Value) (h : mh) (k n : Nat) : Option mF := match len, st with
  | 1, .int y :: .int x :: r => some (pc + 1, lv, .int (x + y) :: r, h, k, n)
  | _, _ => none
theorem o_iadd (E : mE p R s m args meth c B D dA M) {len pc : Nat} {lv : List (Nat × Value)} {st : List Value} {h : mh} {k n : Nat} {f : mF} (hd : decode (mCd M) pc = .ok (.iadd, len)) (hq : q_iadd len pc lv st h k n = some f) (hk : mV p l e R s m args below meth c Q B b D dA (mLx M) f) : mV p l e R s m args below meth c Q B b D dA (mLx M) (pc, lv, st, h, k, n) := by
  unfold q_iadd at hq
  split at hq
  · cases hq
    intro H locs ls hR hS hl
    exact lv_iadd E.1 E.2.1 hd (hk H locs ls hR hS hl)
  · cases hq
def q_isub (len pc : Nat) (lv : List (Nat × Value)) (st : List Value) (h : mh) (k n : Nat) : Option mF := match len, st with
  | 1, .int y :: .int x :: r => some (pc + 1, lv, .int (x - y) :: r, h, k, n)
  | _, _ => none
theorem o_isub (E : mE p R s m args meth c B D dA M) {len pc : Nat} {lv : List (Nat × Value)} {st : List Value} {h : mh} {k n : Nat} {f : mF} (hd : decode (mCd M) pc = .ok (.isub, len)) (hq : q_isub len pc lv st h k n = some f) (hk : mV p l e R s m args below meth c Q B b D dA (mLx M) f) : mV p l e R s m args below meth c Q B b D dA (mLx M) (pc, lv, st, h, k, n) := by
  unfold q_isub at hq
  split at hq
  · cases hq
    intro H locs ls hR hS hl
    exact lv_isub E.1 E.2.1 hd (hk H locs ls hR hS hl)
  · cases hq
def q_imul (len pc : Nat) (lv : List (Nat × Value)) (st : List Value) (h : mh) (k n : Nat) : Option mF := match len, st with
  | 1, .int y :: .int x :: r => some (pc + 1, lv, .int (x * y) :: r, h, k, n)
  | _, _ => none
theorem o_imul (E : mE p R s m args meth c B D dA M) {len pc : Nat} {lv : List (Nat × Value)} {st : List Value} {h : mh} {k n : Nat} {f : mF} (hd : decode (mCd M) pc = .ok (.imul, len)) (hq : q_imul len pc lv st h k n = some f) (hk : mV p l e R s m args below meth c Q B b D dA (mLx M) f) : mV p l e R s m args below meth c Q B b D dA (mLx M) (pc, lv, st, h, k, n) := by
  unfold q_imul at hq
  split at hq
  · cases hq
    intro H locs ls hR hS hl
    exact lv_imul E.1 E.2.1 hd (hk H locs ls hR hS hl)
  · cases hq
def q_iand (len pc : Nat) (lv : List (Nat × Value)) (st : List Value) (h : mh) (k n : Nat) : Option mF := match len, st with
  | 1, .int y :: .int x :: r => some (pc + 1, lv, .int (x &&& y) :: r, h, k, n)
  | _, _ => none
theorem o_iand (E : mE p R s m args meth c B D dA M) {len pc : Nat} {lv : List (Nat × Value)} {st : List Value} {h : mh} {k n : Nat} {f : mF} (hd : decode (mCd M) pc = .ok (.iand, len)) (hq : q_iand len pc lv st h k n = some f) (hk : mV p l e R s m args below meth c Q B b D dA (mLx M) f) : mV p l e R s m args below meth c Q B b D dA (mLx M) (pc, lv, st, h, k, n) := by
  unfold q_iand at hq
  split at hq
  · cases hq
    intro H locs ls hR hS hl
    exact lv_iand E.1 E.2.1 hd (hk H locs ls hR hS hl)
  · cases hq
def q_ior (len pc : Nat) (lv : List (Nat × Value)) (st : List Value) (h : mh) (k n : Nat) : Option mF := match len, st with
  | 1, .int y :: .int x :: r => some (pc + 1, lv, .int (x ||| y) :: r, h, k, n)
  | _, _ => none
theorem o_ior (E : mE p R s m args meth c B D dA M) {len pc : Nat} {lv : List (Nat × Value)} {st : List Value} {h : mh} {k n : Nat} {f : mF} (hd : decode (mCd M) pc = .ok (.ior, len)) (hq : q_ior len pc lv st h k n = some f) (hk : mV p l e R s m args below meth c Q B b D dA (mLx M) f) : mV p l e R s m args below meth c Q B b D dA (mLx M) (pc, lv, st, h, k, n) := by
  unfold q_ior at hq
  split at hq
  · cases hq
    intro H locs ls hR hS hl
    exact lv_ior E.1 E.2.1 hd (hk H locs ls hR hS hl)
  · cases hq
def q_ishl (len pc : Nat) (lv : List (Nat × Value)) (st : List Value) (h : mh) (k n : Nat) : Option mF := match len, st with
  | 1, .int y :: .int x :: r => some (pc + 1, lv, .int (x <<< (y &&& 31)) :: r, h, k, n)
  | _, _ => none
theorem o_ishl (E : mE p R s m args meth c B D dA M) {len pc : Nat} {lv : List (Nat × Value)} {st : List Value} {h : mh} {k n : Nat} {f : mF} (hd : decode (mCd M) pc = .ok (.ishl, len)) (hq : q_ishl len pc lv st h k n = some f) (hk : mV p l e R s m args below meth c Q B b D dA (mLx M) f) : mV p l e R s m args below meth c Q B b D dA (mLx M) (pc, lv, st, h, k, n) := by
  unfold q_ishl at hq
  split at hq
  · cases hq
    intro H locs ls hR hS hl
    exact lv_ishl E.1 E.2.1 hd (hk H locs ls hR hS hl)
  · cases hq
def q_ishr (len pc : Nat) (lv : List (Nat × Value)) (st : List Value) (h : mh) (k n : Nat) : Option mF := match len, st with
  | 1, .int y :: .int x :: r => some (pc + 1, lv, .int (x >>> (y &&& 31)) :: r, h, k, n)
  | _, _ => none
theorem o_ishr (E : mE p R s m args meth c B D dA M) {len pc : Nat} {lv : List (Nat × Value)} {st : List Value} {h : mh} {k n : Nat} {f : mF} (hd : decode (mCd M) pc = .ok (.ishr, len)) (hq : q_ishr len pc lv st h k n = some f) (hk : mV p l e R s m args below meth c Q B b D dA (mLx M) f) : mV p l e R s m args below meth c Q B b D dA (mLx M) (pc, lv, st, h, k, n) := by
  unfold q_ishr at hq
  split at hq
  · cases hq
    intro H locs ls hR hS hl
    exact lv_ishr E.1 E.2.1 hd (hk H locs ls hR hS hl)
  · cases hq
def q_idiv (len pc : Nat) (lv : List (Nat × Value)) (st : List Value) (h : mh) (k n : Nat) : Option mF := match len, st with
  | 1, .int y :: .int x :: r => if y = 0 then none else some (pc + 1, lv, .int (x / y) :: r, h, k, n)
  | _, _ => none
theorem o_idiv (E : mE p R s m args meth c B D dA M) {len pc : Nat} {lv : List (Nat × Value)} {st : List Value} {h : mh} {k n : Nat} {f : mF} (hd : decode (mCd M) pc = .ok (.idiv, len)) (hq : q_idiv len pc lv st h k n = some f) (hk : mV p l e R s m args below meth c Q B b D dA (mLx M) f) : mV p l e R s m args below meth c Q B b D dA (mLx M) (pc, lv, st, h, k, n) := by
  unfold q_idiv at hq
  split at hq
  · split at hq
    · cases hq
    · rename_i hc
      cases hq
      intro H locs ls hR hS hl
      exact lv_idiv E.1 E.2.1 hd hc (hk H locs ls hR hS hl)
  · cases hq
def q_irem (len pc : Nat) (lv : List (Nat × Value)) (st : List Value) (h : mh) (k n : Nat) : Option mF := match len, st with
  | 1, .int y :: .int x :: r => if y = 0 then none else some (pc + 1, lv, .int (x - x / y * y) :: r, h, k, n)
  | _, _ => none
theorem o_irem (E : mE p R s m args meth c B D dA M) {len pc : Nat} {lv : List (Nat × Value)} {st : List Value} {h : mh} {k n : Nat} {f : mF} (hd : decode (mCd M) pc = .ok (.irem, len)) (hq : q_irem len pc lv st h k n = some f) (hk : mV p l e R s m args below meth c Q B b D dA (mLx M) f) : mV p l e R s m args below meth c Q B b D dA (mLx M) (pc, lv, st, h, k, n) := by
  unfold q_irem at hq
  split at hq
  · split at hq
    · cases hq
    · rename_i hc
      cases hq
      intro H locs ls hR hS hl
      exact lv_irem E.1 E.2.1 hd hc (hk H locs ls hR hS hl)
  · cases hq
def q_ladd (len pc : Nat) (lv : List (Nat × Value)) (st : List Value) (h : mh) (k n : Nat) : Option mF := match len, st with
  | 1, .long y :: .long x :: r => some (pc + 1, lv, .long (x + y) :: r, h, k, n)
  | _, _ => none
theorem o_ladd (E : mE p R s m args meth c B D dA M) {len pc : Nat} {lv : List (Nat × Value)} {st : List Value} {h : mh} {k n : Nat} {f : mF} (hd : decode (mCd M) pc = .ok (.ladd, len)) (hq : q_ladd len pc lv st h k n = some f) (hk : mV p l e R s m args below meth c Q B b D dA (mLx M) f) : mV p l e R s m args below meth c Q B b D dA (mLx M) (pc, lv, st, h, k, n) := by
  unfold q_ladd at hq
  split at hq
  · cases hq
    intro H locs ls hR hS hl
    exact lv_ladd E.1 E.2.1 hd (hk H locs ls hR hS hl)
  · cases hq
def q_lsub (len pc : Nat) (lv : List (Nat × Value)) (st : List Value) (h : mh) (k n : Nat) : Option mF := match len, st with
  | 1, .long y :: .long x :: r => some (pc + 1, lv, .long (x - y) :: r, h, k, n)
  | _, _ => none
theorem o_lsub (E : mE p R s m args meth c B D dA M) {len pc : Nat} {lv : List (Nat × Value)} {st : List Value} {h : mh} {k n : Nat} {f : mF} (hd : decode (mCd M) pc = .ok (.lsub, len)) (hq : q_lsub len pc lv st h k n = some f) (hk : mV p l e R s m args below meth c Q B b D dA (mLx M) f) : mV p l e R s m args below meth c Q B b D dA (mLx M) (pc, lv, st, h, k, n) := by
  unfold q_lsub at hq
  split at hq
  · cases hq
    intro H locs ls hR hS hl
    exact lv_lsub E.1 E.2.1 hd (hk H locs ls hR hS hl)
  · cases hq
def q_lmul (len pc : Nat) (lv : List (Nat × Value)) (st : List Value) (h : mh) (k n : Nat) : Option mF := match len, st with
  | 1, .long y :: .long x :: r => some (pc + 1, lv, .long (x * y) :: r, h, k, n)
  | _, _ => none
theorem o_lmul (E : mE p R s m args meth c B D dA M) {len pc : Nat} {lv : List (Nat × Value)} {st : List Value} {h : mh} {k n : Nat} {f : mF} (hd : decode (mCd M) pc = .ok (.lmul, len)) (hq : q_lmul len pc lv st h k n = some f) (hk : mV p l e R s m args below meth c Q B b D dA (mLx M) f) : mV p l e R s m args below meth c Q B b D dA (mLx M) (pc, lv, st, h, k, n) := by
  unfold q_lmul at hq
  split at hq
  · cases hq
    intro H locs ls hR hS hl
    exact lv_lmul E.1 E.2.1 hd (hk H locs ls hR hS hl)
  · cases hq
def q_ldiv (len pc : Nat) (lv : List (Nat × Value)) (st : List Value) (h : mh) (k n : Nat) : Option mF := match len, st with
  | 1, .long y :: .long x :: r => if y = 0 then none else some (pc + 1, lv, .long (x / y) :: r, h, k, n)
  | _, _ => none
theorem o_ldiv (E : mE p R s m args meth c B D dA M) {len pc : Nat} {lv : List (Nat × Value)} {st : List Value} {h : mh} {k n : Nat} {f : mF} (hd : decode (mCd M) pc = .ok (.ldiv, len)) (hq : q_ldiv len pc lv st h k n = some f) (hk : mV p l e R s m args below meth c Q B b D dA (mLx M) f) : mV p l e R s m args below meth c Q B b D dA (mLx M) (pc, lv, st, h, k, n) := by
  unfold q_ldiv at hq
  split at hq
  · split at hq
    · cases hq
    · rename_i hc
      cases hq
      intro H locs ls hR hS hl
      exact lv_ldiv E.1 E.2.1 hd hc (hk H locs ls hR hS hl)
  · cases hq
def q_lrem (len pc : Nat) (lv : List (Nat × Value)) (st : List Value) (h : mh) (k n : Nat) : Option mF := match len, st with
  | 1, .long y :: .long x :: r => if y = 0 then none else some (pc + 1, lv, .long (x - x / y * y) :: r, h, k, n)
  | _, _ => none
theorem o_lrem (E : mE p R s m args meth c B D dA M) {len pc : Nat} {lv : List (Nat × Value)} {st : List Value} {h : mh} {k n : Nat} {f : mF} (hd : decode (mCd M) pc = .ok (.lrem, len)) (hq : q_lrem len pc lv st h k n = some f) (hk : mV p l e R s m args below meth c Q B b D dA (mLx M) f) : mV p l e R s m args below meth c Q B b D dA (mLx M) (pc, lv, st, h, k, n) := by
  unfold q_lrem at hq
  split at hq
  · split at hq
    · cases hq
    · rename_i hc
      cases hq
      intro H locs ls hR hS hl
      exact lv_lrem E.1 E.2.1 hd hc (hk H locs ls hR hS hl)
  · cases hq
def q_ineg (len pc : Nat) (lv : List (Nat × Value)) (st : List Value) (h : mh) (k n : Nat) : Option mF := match len, st with
  | 1, .int x :: r => some (pc + 1, lv, .int (-x) :: r, h, k, n)
  | _, _ => none
theorem o_ineg (E : mE p R s m args meth c B D dA M) {len pc : Nat} {lv : List (Nat × Value)} {st : List Value} {h : mh} {k n : Nat} {f : mF} (hd : decode (mCd M) pc = .ok (.ineg, len)) (hq : q_ineg len pc lv st h k n = some f) (hk : mV p l e R s m args below meth c Q B b D dA (mLx M) f) : mV p l e R s m args below meth c Q B b D dA (mLx M) (pc, lv, st, h, k, n) := by
  unfold q_ineg at hq
  split at hq
  · cases hq
    intro H locs ls hR hS hl
    exact lv_ineg E.1 E.2.1 hd (hk H locs ls hR hS hl)
  · cases hq
def q_lneg (len pc : Nat) (lv : List (Nat × Value)) (st : List Value) (h : mh) (k n : Nat) : Option mF := match len, st with
  | 1, .long x :: r => some (pc + 1, lv, .long (-x) :: r, h, k, n)
  | _, _ => none
theorem o_lneg (E : mE p R s m args meth c B D dA M) {len pc : Nat} {lv : List (Nat × Value)} {st : List Value} {h : mh} {k n : Nat} {f : mF} (hd : decode (mCd M) pc = .ok (.lneg, len)) (hq : q_lneg len pc lv st h k n = some f) (hk : mV p l e R s m args below meth c Q B b D dA (mLx M) f) : mV p l e R s m args below meth c Q B b D dA (mLx M) (pc, lv, st, h, k, n) := by
  unfold q_lneg at hq
  split at hq
  · cases hq
    intro H locs ls hR hS hl
    exact lv_lneg E.1 E.2.1 hd (hk H locs ls hR hS hl)
  · cases hq
def q_i2l (len pc : Nat) (lv : List (Nat × Value)) (st : List Value) (h : mh) (k n : Nat) : Option mF := match len, st with
  | 1, .int x :: r => some (pc + 1, lv, .long x.toInt64 :: r, h, k, n)
  | _, _ => none
theorem o_i2l (E : mE p R s m args meth c B D dA M) {len pc : Nat} {lv : List (Nat × Value)} {st : List Value} {h : mh} {k n : Nat} {f : mF} (hd : decode (mCd M) pc = .ok (.i2l, len)) (hq : q_i2l len pc lv st h k n = some f) (hk : mV p l e R s m args below meth c Q B b D dA (mLx M) f) : mV p l e R s m args below meth c Q B b D dA (mLx M) (pc, lv, st, h, k, n) := by
  unfold q_i2l at hq
  split at hq
  · cases hq
    intro H locs ls hR hS hl
    exact lv_i2l E.1 E.2.1 hd rfl (hk H locs ls hR hS hl)
  · cases hq
def q_l2i (len pc : Nat) (lv : List (Nat × Value)) (st : List Value) (h : mh) (k n : Nat) : Option mF := match len, st with
  | 1, .long x :: r => some (pc + 1, lv, .int x.toInt32 :: r, h, k, n)
  | _, _ => none
theorem o_l2i (E : mE p R s m args meth c B D dA M) {len pc : Nat} {lv : List (Nat × Value)} {st : List Value} {h : mh} {k n : Nat} {f : mF} (hd : decode (mCd M) pc = .ok (.l2i, len)) (hq : q_l2i len pc lv st h k n = some f) (hk : mV p l e R s m args below meth c Q B b D dA (mLx M) f) : mV p l e R s m args below meth c Q B b D dA (mLx M) (pc, lv, st, h, k, n) := by
  unfold q_l2i at hq
  split at hq
  · cases hq
    intro H locs ls hR hS hl
    exact lv_l2i E.1 E.2.1 hd rfl (hk H locs ls hR hS hl)
  · cases hq
def q_lcmp (len pc : Nat) (lv : List (Nat × Value)) (st : List Value) (h : mh) (k n : Nat) : Option mF := match len, st with
  | 1, .long y :: .long x :: r => some (pc + 1, lv, .int (lg_cmp x y) :: r, h, k, n)
  | _, _ => none
theorem o_lcmp (E : mE p R s m args meth c B D dA M) {len pc : Nat} {lv : List (Nat × Value)} {st : List Value} {h : mh} {k n : Nat} {f : mF} (hd : decode (mCd M) pc = .ok (.lcmp, len)) (hq : q_lcmp len pc lv st h k n = some f) (hk : mV p l e R s m args below meth c Q B b D dA (mLx M) f) : mV p l e R s m args below meth c Q B b D dA (mLx M) (pc, lv, st, h, k, n) := by
  unfold q_lcmp at hq
  split at hq
  · cases hq
    intro H locs ls hR hS hl
    exact W.lcmp E.1 E.2.1 hd (hk H locs ls hR hS hl)
  · cases hq
def q_dup  (len pc : Nat) (lv : List (Nat × Value)) (st : List Value) (h : mh) (k n : Nat) : Option mF := match len, st with
  | 1, v :: r => if v.category = 1 then some (pc + 1, lv, v :: v :: r, h, k, n) else none
  | _, _ => none
theorem o_dup (E : mE p R s m args meth c B D dA M)  {len pc : Nat} {lv : List (Nat × Value)} {st : List Value} {h : mh} {k n : Nat} {f : mF} (hd : decode (mCd M) pc = .ok (.dup, len)) (hq : q_dup  len pc lv st h k n = some f) (hk : mV p l e R s m args below meth c Q B b D dA (mLx M) f) : mV p l e R s m args below meth c Q B b D dA (mLx M) (pc, lv, st, h, k, n) := by
  unfold q_dup at hq
  split at hq
  · split at hq
    · rename_i hc
      cases hq
      intro H locs ls hR hS hl
      exact lv_dup E.1 E.2.1 hd (by rw [mv_cat]; exact hc) (hk H locs ls hR hS hl)
    · cases hq
  · cases hq
def q_pop  (len pc : Nat) (lv : List (Nat × Value)) (st : List Value) (h : mh) (k n : Nat) : Option mF := match len, st with
  | 1, v :: r => if v.category = 1 then some (pc + 1, lv, r, h, k, n) else none
  | _, _ => none
theorem o_pop (E : mE p R s m args meth c B D dA M)  {len pc : Nat} {lv : List (Nat × Value)} {st : List Value} {h : mh} {k n : Nat} {f : mF} (hd : decode (mCd M) pc = .ok (.pop, len)) (hq : q_pop  len pc lv st h k n = some f) (hk : mV p l e R s m args below meth c Q B b D dA (mLx M) f) : mV p l e R s m args below meth c Q B b D dA (mLx M) (pc, lv, st, h, k, n) := by
  unfold q_pop at hq
  split at hq
  · split at hq
    · rename_i hc
      cases hq
      intro H locs ls hR hS hl
      exact lv_pop E.1 E.2.1 hd (by rw [mv_cat]; exact hc) (hk H locs ls hR hS hl)
    · cases hq
  · cases hq
def q_dup2  (len pc : Nat) (lv : List (Nat × Value)) (st : List Value) (h : mh) (k n : Nat) : Option mF := match len, st with
  | 1, .long v :: r => some (pc + 1, lv, .long v :: .long v :: r, h, k, n)
  | 1, .int v :: u :: r => if u.category = 1 then some (pc + 1, lv, .int v :: u :: .int v :: u :: r, h, k, n) else none
  | _, _ => none
theorem o_dup2 (E : mE p R s m args meth c B D dA M)  {len pc : Nat} {lv : List (Nat × Value)} {st : List Value} {h : mh} {k n : Nat} {f : mF} (hd : decode (mCd M) pc = .ok (.dup2, len)) (hq : q_dup2  len pc lv st h k n = some f) (hk : mV p l e R s m args below meth c Q B b D dA (mLx M) f) : mV p l e R s m args below meth c Q B b D dA (mLx M) (pc, lv, st, h, k, n) := by
  unfold q_dup2 at hq
  split at hq
  · cases hq
    intro H locs ls hR hS hl
    exact lv_dup2_2 E.1 E.2.1 hd rfl (hk H locs ls hR hS hl)
  · split at hq
    · rename_i hc
      cases hq
      intro H locs ls hR hS hl
      exact lv_dup2_11 E.1 E.2.1 hd rfl (by rw [mv_cat]; exact hc) (hk H locs ls hR hS hl)
    · cases hq
  · cases hq
def q_iconst (i : Int) (len pc : Nat) (lv : List (Nat × Value)) (st : List Value) (h : mh) (k n : Nat) : Option mF := if len = 1 then some (pc + 1, lv, .int (Int32.ofInt i) :: st, h, k, n) else none
theorem o_iconst (E : mE p R s m args meth c B D dA M) {i : Int} {len pc : Nat} {lv : List (Nat × Value)} {st : List Value} {h : mh} {k n : Nat} {f : mF} (hd : decode (mCd M) pc = .ok (.iconst i, len)) (hq : q_iconst i len pc lv st h k n = some f) (hk : mV p l e R s m args below meth c Q B b D dA (mLx M) f) : mV p l e R s m args below meth c Q B b D dA (mLx M) (pc, lv, st, h, k, n) := by
  unfold q_iconst at hq
  split at hq
  · rename_i hc
    subst hc
    cases hq
    intro H locs ls hR hS hl
    exact lv_iconst E.1 E.2.1 hd rfl (hk H locs ls hR hS hl)
  · cases hq
def q_bipush (i : Int) (len pc : Nat) (lv : List (Nat × Value)) (st : List Value) (h : mh) (k n : Nat) : Option mF := if len = 2 then some (pc + 2, lv, .int (Int8.ofInt i).toInt32 :: st, h, k, n) else none
theorem o_bipush (E : mE p R s m args meth c B D dA M) {i : Int} {len pc : Nat} {lv : List (Nat × Value)} {st : List Value} {h : mh} {k n : Nat} {f : mF} (hd : decode (mCd M) pc = .ok (.bipush i, len)) (hq : q_bipush i len pc lv st h k n = some f) (hk : mV p l e R s m args below meth c Q B b D dA (mLx M) f) : mV p l e R s m args below meth c Q B b D dA (mLx M) (pc, lv, st, h, k, n) := by
  unfold q_bipush at hq
  split at hq
  · rename_i hc
    subst hc
    cases hq
    intro H locs ls hR hS hl
    exact lv_bipush E.1 E.2.1 hd rfl (hk H locs ls hR hS hl)
  · cases hq
def q_sipush (i : Int) (len pc : Nat) (lv : List (Nat × Value)) (st : List Value) (h : mh) (k n : Nat) : Option mF := if len = 3 then some (pc + 3, lv, .int (Int16.ofInt i).toInt32 :: st, h, k, n) else none
theorem o_sipush (E : mE p R s m args meth c B D dA M) {i : Int} {len pc : Nat} {lv : List (Nat × Value)} {st : List Value} {h : mh} {k n : Nat} {f : mF} (hd : decode (mCd M) pc = .ok (.sipush i, len)) (hq : q_sipush i len pc lv st h k n = some f) (hk : mV p l e R s m args below meth c Q B b D dA (mLx M) f) : mV p l e R s m args below meth c Q B b D dA (mLx M) (pc, lv, st, h, k, n) := by
  unfold q_sipush at hq
  split at hq
  · rename_i hc
    subst hc
    cases hq
    intro H locs ls hR hS hl
    exact lv_sipush E.1 E.2.1 hd rfl (hk H locs ls hR hS hl)
  · cases hq
def q_lconst (i : Fin 2) (len pc : Nat) (lv : List (Nat × Value)) (st : List Value) (h : mh) (k n : Nat) : Option mF := if len = 1 then some (pc + 1, lv, .long (Int64.ofNat (i : Nat)) :: st, h, k, n) else none
theorem o_lconst (E : mE p R s m args meth c B D dA M) {i : Fin 2} {len pc : Nat} {lv : List (Nat × Value)} {st : List Value} {h : mh} {k n : Nat} {f : mF} (hd : decode (mCd M) pc = .ok (.lconst i, len)) (hq : q_lconst i len pc lv st h k n = some f) (hk : mV p l e R s m args below meth c Q B b D dA (mLx M) f) : mV p l e R s m args below meth c Q B b D dA (mLx M) (pc, lv, st, h, k, n) := by
  unfold q_lconst at hq
  split at hq
  · rename_i hc
    subst hc
    cases hq
    intro H locs ls hR hS hl
    exact lv_lconst E.1 E.2.1 hd rfl (hk H locs ls hR hS hl)
  · cases hq
def q_iload (i : Nat) (len pc : Nat) (lv : List (Nat × Value)) (st : List Value) (h : mh) (k n : Nat) : Option mF := match len, lget lv i with
  | 2, some (.int x) => some (pc + 2, lv, .int x :: st, h, k, n)
  | _, _ => none
theorem o_iload (E : mE p R s m args meth c B D dA M) {i : Nat} {len pc : Nat} {lv : List (Nat × Value)} {st : List Value} {h : mh} {k n : Nat} {f : mF} (hd : decode (mCd M) pc = .ok (.iload i, len)) (hq : q_iload i len pc lv st h k n = some f) (hk : mV p l e R s m args below meth c Q B b D dA (mLx M) f) : mV p l e R s m args below meth c Q B b D dA (mLx M) (pc, lv, st, h, k, n) := by
  unfold q_iload at hq
  split at hq
  · rename_i hc
    cases hq
    intro H locs ls hR hS hl
    exact lv_iload E.1 E.2.1 hd (lget_at hl hc) (hk H locs ls hR hS hl)
  · cases hq
def q_iload_n (i : Fin 4) (len pc : Nat) (lv : List (Nat × Value)) (st : List Value) (h : mh) (k n : Nat) : Option mF := match len, lget lv (i : Nat) with
  | 1, some (.int x) => some (pc + 1, lv, .int x :: st, h, k, n)
  | _, _ => none
theorem o_iload_n (E : mE p R s m args meth c B D dA M) {i : Fin 4} {len pc : Nat} {lv : List (Nat × Value)} {st : List Value} {h : mh} {k n : Nat} {f : mF} (hd : decode (mCd M) pc = .ok (.iload_n i, len)) (hq : q_iload_n i len pc lv st h k n = some f) (hk : mV p l e R s m args below meth c Q B b D dA (mLx M) f) : mV p l e R s m args below meth c Q B b D dA (mLx M) (pc, lv, st, h, k, n) := by
  unfold q_iload_n at hq
  split at hq
  · rename_i hc
    cases hq
    intro H locs ls hR hS hl
    exact lv_iload_n E.1 E.2.1 hd rfl (lget_at hl hc) (hk H locs ls hR hS hl)
  · cases hq
def q_lload (i : Nat) (len pc : Nat) (lv : List (Nat × Value)) (st : List Value) (h : mh) (k n : Nat) : Option mF := match len, lget lv i with
  | 2, some (.long x) => some (pc + 2, lv, .long x :: st, h, k, n)
  | _, _ => none
theorem o_lload (E : mE p R s m args meth c B D dA M) {i : Nat} {len pc : Nat} {lv : List (Nat × Value)} {st : List Value} {h : mh} {k n : Nat} {f : mF} (hd : decode (mCd M) pc = .ok (.lload i, len)) (hq : q_lload i len pc lv st h k n = some f) (hk : mV p l e R s m args below meth c Q B b D dA (mLx M) f) : mV p l e R s m args below meth c Q B b D dA (mLx M) (pc, lv, st, h, k, n) := by
  unfold q_lload at hq
  split at hq
  · rename_i hc
    cases hq
    intro H locs ls hR hS hl
    exact lv_lload E.1 E.2.1 hd (lget_at hl hc) (hk H locs ls hR hS hl)
  · cases hq
def q_lload_n (i : Fin 4) (len pc : Nat) (lv : List (Nat × Value)) (st : List Value) (h : mh) (k n : Nat) : Option mF := match len, lget lv (i : Nat) with
  | 1, some (.long x) => some (pc + 1, lv, .long x :: st, h, k, n)
  | _, _ => none
theorem o_lload_n (E : mE p R s m args meth c B D dA M) {i : Fin 4} {len pc : Nat} {lv : List (Nat × Value)} {st : List Value} {h : mh} {k n : Nat} {f : mF} (hd : decode (mCd M) pc = .ok (.lload_n i, len)) (hq : q_lload_n i len pc lv st h k n = some f) (hk : mV p l e R s m args below meth c Q B b D dA (mLx M) f) : mV p l e R s m args below meth c Q B b D dA (mLx M) (pc, lv, st, h, k, n) := by
  unfold q_lload_n at hq
  split at hq
  · rename_i hc
    cases hq
    intro H locs ls hR hS hl
    exact lv_lload_n E.1 E.2.1 hd rfl (lget_at hl hc) (hk H locs ls hR hS hl)
  · cases hq
def q_aload (i : Nat) (len pc : Nat) (lv : List (Nat × Value)) (st : List Value) (h : mh) (k n : Nat) : Option mF := match len, lget lv i with
  | 2, some (.ref x) => some (pc + 2, lv, .ref x :: st, h, k, n)
  | 2, some (.retAddr x) => some (pc + 2, lv, .retAddr x :: st, h, k, n)
  | _, _ => none
theorem o_aload (E : mE p R s m args meth c B D dA M) {i : Nat} {len pc : Nat} {lv : List (Nat × Value)} {st : List Value} {h : mh} {k n : Nat} {f : mF} (hd : decode (mCd M) pc = .ok (.aload i, len)) (hq : q_aload i len pc lv st h k n = some f) (hk : mV p l e R s m args below meth c Q B b D dA (mLx M) f) : mV p l e R s m args below meth c Q B b D dA (mLx M) (pc, lv, st, h, k, n) := by
  unfold q_aload at hq
  split at hq
  · rename_i hc
    cases hq
    intro H locs ls hR hS hl
    exact lv_aload E.1 E.2.1 hd (lget_at hl hc) (hk H locs ls hR hS hl)
  · rename_i hc
    cases hq
    intro H locs ls hR hS hl
    exact lv_aload E.1 E.2.1 hd (lget_at hl hc) (hk H locs ls hR hS hl)
  · cases hq
def q_aload_n (i : Fin 4) (len pc : Nat) (lv : List (Nat × Value)) (st : List Value) (h : mh) (k n : Nat) : Option mF := match len, lget lv (i : Nat) with
  | 1, some (.ref x) => some (pc + 1, lv, .ref x :: st, h, k, n)
  | 1, some (.retAddr x) => some (pc + 1, lv, .retAddr x :: st, h, k, n)
  | _, _ => none
theorem o_aload_n (E : mE p R s m args meth c B D dA M) {i : Fin 4} {len pc : Nat} {lv : List (Nat × Value)} {st : List Value} {h : mh} {k n : Nat} {f : mF} (hd : decode (mCd M) pc = .ok (.aload_n i, len)) (hq : q_aload_n i len pc lv st h k n = some f) (hk : mV p l e R s m args below meth c Q B b D dA (mLx M) f) : mV p l e R s m args below meth c Q B b D dA (mLx M) (pc, lv, st, h, k, n) := by
  unfold q_aload_n at hq
  split at hq
  · rename_i hc
    cases hq
    intro H locs ls hR hS hl
    exact lv_aload_n E.1 E.2.1 hd rfl (lget_at hl hc) (hk H locs ls hR hS hl)
  · rename_i hc
    cases hq
    intro H locs ls hR hS hl
    exact lv_aload_n E.1 E.2.1 hd rfl (lget_at hl hc) (hk H locs ls hR hS hl)
  · cases hq
def q_istore (i : Nat) (mx : Nat) (len pc : Nat) (lv : List (Nat × Value)) (st : List Value) (h : mh) (k n : Nat) : Option mF := match len, st with
  | 2, .int x :: r => if i < mx then some (pc + 2, ls1 lv i (.int x), r, h, k, n) else none
  | _, _ => none
theorem o_istore (E : mE p R s m args meth c B D dA M) {i : Nat} {len pc : Nat} {lv : List (Nat × Value)} {st : List Value} {h : mh} {k n : Nat} {f : mF} (hd : decode (mCd M) pc = .ok (.istore i, len)) (hq : q_istore i (mLx M) len pc lv st h k n = some f) (hk : mV p l e R s m args below meth c Q B b D dA (mLx M) f) : mV p l e R s m args below meth c Q B b D dA (mLx M) (pc, lv, st, h, k, n) := by
  unfold q_istore at hq
  split at hq
  · split at hq
    · rename_i x r hc
      cases hq
      intro H locs ls hR hS hl
      exact lv_istore E.1 E.2.1 hd hl hc (ls1_map (v := .int x)) (fun ls hl => hk H locs ls hR hS hl)
    · cases hq
  · cases hq
def q_istore_n (i : Fin 4) (mx : Nat) (len pc : Nat) (lv : List (Nat × Value)) (st : List Value) (h : mh) (k n : Nat) : Option mF := match len, st with
  | 1, .int x :: r => if (i : Nat) < mx then some (pc + 1, ls1 lv (i : Nat) (.int x), r, h, k, n) else none
  | _, _ => none
theorem o_istore_n (E : mE p R s m args meth c B D dA M) {i : Fin 4} {len pc : Nat} {lv : List (Nat × Value)} {st : List Value} {h : mh} {k n : Nat} {f : mF} (hd : decode (mCd M) pc = .ok (.istore_n i, len)) (hq : q_istore_n i (mLx M) len pc lv st h k n = some f) (hk : mV p l e R s m args below meth c Q B b D dA (mLx M) f) : mV p l e R s m args below meth c Q B b D dA (mLx M) (pc, lv, st, h, k, n) := by
  unfold q_istore_n at hq
  split at hq
  · split at hq
    · rename_i x r hc
      cases hq
      intro H locs ls hR hS hl
      exact lv_istore_n E.1 E.2.1 hd rfl hl hc (ls1_map (v := .int x)) (fun ls hl => hk H locs ls hR hS hl)
    · cases hq
  · cases hq
def q_lstore (i : Nat) (mx : Nat) (len pc : Nat) (lv : List (Nat × Value)) (st : List Value) (h : mh) (k n : Nat) : Option mF := match len, st with
  | 2, .long x :: r => if i + 1 < mx then some (pc + 2, ls2 lv i (.long x), r, h, k, n) else none
  | _, _ => none
theorem o_lstore (E : mE p R s m args meth c B D dA M) {i : Nat} {len pc : Nat} {lv : List (Nat × Value)} {st : List Value} {h : mh} {k n : Nat} {f : mF} (hd : decode (mCd M) pc = .ok (.lstore i, len)) (hq : q_lstore i (mLx M) len pc lv st h k n = some f) (hk : mV p l e R s m args below meth c Q B b D dA (mLx M) f) : mV p l e R s m args below meth c Q B b D dA (mLx M) (pc, lv, st, h, k, n) := by
  unfold q_lstore at hq
  split at hq
  · split at hq
    · rename_i x r hc
      cases hq
      intro H locs ls hR hS hl
      exact lv_lstore E.1 E.2.1 hd hl hc (ls2_map (v := .long x)) (fun ls hl => hk H locs ls hR hS hl)
    · cases hq
  · cases hq
def q_lstore_n (i : Fin 4) (mx : Nat) (len pc : Nat) (lv : List (Nat × Value)) (st : List Value) (h : mh) (k n : Nat) : Option mF := match len, st with
  | 1, .long x :: r => if (i : Nat) + 1 < mx then some (pc + 1, ls2 lv (i : Nat) (.long x), r, h, k, n) else none
  | _, _ => none
theorem o_lstore_n (E : mE p R s m args meth c B D dA M) {i : Fin 4} {len pc : Nat} {lv : List (Nat × Value)} {st : List Value} {h : mh} {k n : Nat} {f : mF} (hd : decode (mCd M) pc = .ok (.lstore_n i, len)) (hq : q_lstore_n i (mLx M) len pc lv st h k n = some f) (hk : mV p l e R s m args below meth c Q B b D dA (mLx M) f) : mV p l e R s m args below meth c Q B b D dA (mLx M) (pc, lv, st, h, k, n) := by
  unfold q_lstore_n at hq
  split at hq
  · split at hq
    · rename_i x r hc
      cases hq
      intro H locs ls hR hS hl
      exact lv_lstore_n E.1 E.2.1 hd rfl hl hc (ls2_map (v := .long x)) (fun ls hl => hk H locs ls hR hS hl)
    · cases hq
  · cases hq
def q_astore (i : Nat) (mx : Nat) (len pc : Nat) (lv : List (Nat × Value)) (st : List Value) (h : mh) (k n : Nat) : Option mF := match len, st with
  | 2, .ref x :: r => if i < mx then some (pc + 2, ls1 lv i (.ref x), r, h, k, n) else none
  | _, _ => none
theorem o_astore (E : mE p R s m args meth c B D dA M) {i : Nat} {len pc : Nat} {lv : List (Nat × Value)} {st : List Value} {h : mh} {k n : Nat} {f : mF} (hd : decode (mCd M) pc = .ok (.astore i, len)) (hq : q_astore i (mLx M) len pc lv st h k n = some f) (hk : mV p l e R s m args below meth c Q B b D dA (mLx M) f) : mV p l e R s m args below meth c Q B b D dA (mLx M) (pc, lv, st, h, k, n) := by
  unfold q_astore at hq
  split at hq
  · split at hq
    · rename_i x r hc
      cases hq
      intro H locs ls hR hS hl
      exact lv_astore E.1 E.2.1 hd hl hc (ls1_map (v := .ref x)) (fun ls hl => hk H locs ls hR hS hl)
    · cases hq
  · cases hq
def q_astore_n (i : Fin 4) (mx : Nat) (len pc : Nat) (lv : List (Nat × Value)) (st : List Value) (h : mh) (k n : Nat) : Option mF := match len, st with
  | 1, .ref x :: r => if (i : Nat) < mx then some (pc + 1, ls1 lv (i : Nat) (.ref x), r, h, k, n) else none
  | _, _ => none
theorem o_astore_n (E : mE p R s m args meth c B D dA M) {i : Fin 4} {len pc : Nat} {lv : List (Nat × Value)} {st : List Value} {h : mh} {k n : Nat} {f : mF} (hd : decode (mCd M) pc = .ok (.astore_n i, len)) (hq : q_astore_n i (mLx M) len pc lv st h k n = some f) (hk : mV p l e R s m args below meth c Q B b D dA (mLx M) f) : mV p l e R s m args below meth c Q B b D dA (mLx M) (pc, lv, st, h, k, n) := by
  unfold q_astore_n at hq
  split at hq
  · split at hq
    · rename_i x r hc
      cases hq
      intro H locs ls hR hS hl
      exact lv_astore_n E.1 E.2.1 hd rfl hl hc (ls1_map (v := .ref x)) (fun ls hl => hk H locs ls hR hS hl)
    · cases hq
  · cases hq
def q_iinc (i : Nat) (d : Int) (mx : Nat) (len pc : Nat) (lv : List (Nat × Value)) (st : List Value) (h : mh) (k n : Nat) : Option mF := match len, lget lv i with
  | 3, some (.int x) => if i < mx then some (pc + 3, ls1 lv i (.int (x + Int32.ofInt d)), st, h, k, n) else none
  | _, _ => none
theorem o_iinc (E : mE p R s m args meth c B D dA M) {i : Nat} {d : Int} {len pc : Nat} {lv : List (Nat × Value)} {st : List Value} {h : mh} {k n : Nat} {f : mF} (hd : decode (mCd M) pc = .ok (.iinc i d, len)) (hq : q_iinc i d (mLx M) len pc lv st h k n = some f) (hk : mV p l e R s m args below meth c Q B b D dA (mLx M) f) : mV p l e R s m args below meth c Q B b D dA (mLx M) (pc, lv, st, h, k, n) := by
  unfold q_iinc at hq
  split at hq
  · rename_i x hg
    split at hq
    · rename_i hc
      cases hq
      intro H locs ls hR hS hl
      obtain ⟨j, hj⟩ := lget_ix (B := B) (b := b) hg
      exact lv_iinc E.1 E.2.1 hd hl hj rfl hc (ls1_map (v := .int (x + Int32.ofInt d))) (fun ls hl => hk H locs ls hR hS hl)
    · cases hq
  · cases hq
def q_if_eq (d : Int) (len pc : Nat) (lv : List (Nat × Value)) (st : List Value) (h : mh) (k n : Nat) : Option mF := match len, st with
  | 3, .int x :: r => if (pc : Int) + d < 0 then none else if x = 0 then some (((pc : Int) + d).toNat, lv, r, h, k, n) else some (pc + 3, lv, r, h, k, n)
  | _, _ => none
theorem o_if_eq (E : mE p R s m args meth c B D dA M) {d : Int} {len pc : Nat} {lv : List (Nat × Value)} {st : List Value} {h : mh} {k n : Nat} {f : mF} (hd : decode (mCd M) pc = .ok (.ifCond .eq d, len)) (hq : q_if_eq d len pc lv st h k n = some f) (hk : mV p l e R s m args below meth c Q B b D dA (mLx M) f) : mV p l e R s m args below meth c Q B b D dA (mLx M) (pc, lv, st, h, k, n) := by
  unfold q_if_eq at hq
  split at hq
  · split at hq
    · cases hq
    · intro H locs ls hR hS hl
      refine lv_if_eq (tgt := ((pc : Int) + d).toNat) E.1 E.2.1 hd (by omega) (fun hc => ?_) (fun hc => ?_)
      · rw [if_pos hc] at hq
        cases hq
        exact hk H locs ls hR hS hl
      · rw [if_neg hc] at hq
        cases hq
        exact hk H locs ls hR hS hl
  · cases hq
def q_icmp_eq (d : Int) (len pc : Nat) (lv : List (Nat × Value)) (st : List Value) (h : mh) (k n : Nat) : Option mF := match len, st with
  | 3, .int y :: .int x :: r => if (pc : Int) + d < 0 then none else if x = y then some (((pc : Int) + d).toNat, lv, r, h, k, n) else some (pc + 3, lv, r, h, k, n)
  | _, _ => none
theorem o_icmp_eq (E : mE p R s m args meth c B D dA M) {d : Int} {len pc : Nat} {lv : List (Nat × Value)} {st : List Value} {h : mh} {k n : Nat} {f : mF} (hd : decode (mCd M) pc = .ok (.if_icmp .eq d, len)) (hq : q_icmp_eq d len pc lv st h k n = some f) (hk : mV p l e R s m args below meth c Q B b D dA (mLx M) f) : mV p l e R s m args below meth c Q B b D dA (mLx M) (pc, lv, st, h, k, n) := by
  unfold q_icmp_eq at hq
  split at hq
  · split at hq
    · cases hq
    · intro H locs ls hR hS hl
      refine lv_icmp_eq (tgt := ((pc : Int) + d).toNat) E.1 E.2.1 hd (by omega) (fun hc => ?_) (fun hc => ?_)
      · rw [if_pos hc] at hq
        cases hq
        exact hk H locs ls hR hS hl
      · rw [if_neg hc] at hq
        cases hq
        exact hk H locs ls hR hS hl
  · cases hq
def q_if_ne (d : Int) (len pc : Nat) (lv : List (Nat × Value)) (st : List Value) (h : mh) (k n : Nat) : Option mF := match len, st with
  | 3, .int x :: r => if (pc : Int) + d < 0 then none else if x = 0 then some (pc + 3, lv, r, h, k, n) else some (((pc : Int) + d).toNat, lv, r, h, k, n)
  | _, _ => none
theorem o_if_ne (E : mE p R s m args meth c B D dA M) {d : Int} {len pc : Nat} {lv : List (Nat × Value)} {st : List Value} {h : mh} {k n : Nat} {f : mF} (hd : decode (mCd M) pc = .ok (.ifCond .ne d, len)) (hq : q_if_ne d len pc lv st h k n = some f) (hk : mV p l e R s m args below meth c Q B b D dA (mLx M) f) : mV p l e R s m args below meth c Q B b D dA (mLx M) (pc, lv, st, h, k, n) := by
  unfold q_if_ne at hq
  split at hq
  · split at hq
    · cases hq
    · intro H locs ls hR hS hl
      refine lv_if_ne (tgt := ((pc : Int) + d).toNat) E.1 E.2.1 hd (by omega) (fun hc => ?_) (fun hc => ?_)
      · rw [if_neg hc] at hq
        cases hq
        exact hk H locs ls hR hS hl
      · rw [if_pos hc] at hq
        cases hq
        exact hk H locs ls hR hS hl
  · cases hq
def q_icmp_ne (d : Int) (len pc : Nat) (lv : List (Nat × Value)) (st : List Value) (h : mh) (k n : Nat) : Option mF := match len, st with
  | 3, .int y :: .int x :: r => if (pc : Int) + d < 0 then none else if x = y then some (pc + 3, lv, r, h, k, n) else some (((pc : Int) + d).toNat, lv, r, h, k, n)
  | _, _ => none
theorem o_icmp_ne (E : mE p R s m args meth c B D dA M) {d : Int} {len pc : Nat} {lv : List (Nat × Value)} {st : List Value} {h : mh} {k n : Nat} {f : mF} (hd : decode (mCd M) pc = .ok (.if_icmp .ne d, len)) (hq : q_icmp_ne d len pc lv st h k n = some f) (hk : mV p l e R s m args below meth c Q B b D dA (mLx M) f) : mV p l e R s m args below meth c Q B b D dA (mLx M) (pc, lv, st, h, k, n) := by
  unfold q_icmp_ne at hq
  split at hq
  · split at hq
    · cases hq
    · intro H locs ls hR hS hl
      refine lv_icmp_ne (tgt := ((pc : Int) + d).toNat) E.1 E.2.1 hd (by omega) (fun hc => ?_) (fun hc => ?_)
      · rw [if_neg hc] at hq
        cases hq
        exact hk H locs ls hR hS hl
      · rw [if_pos hc] at hq
        cases hq
        exact hk H locs ls hR hS hl
  · cases hq
def q_if_lt (d : Int) (len pc : Nat) (lv : List (Nat × Value)) (st : List Value) (h : mh) (k n : Nat) : Option mF := match len, st with
  | 3, .int x :: r => if (pc : Int) + d < 0 then none else if x < 0 then some (((pc : Int) + d).toNat, lv, r, h, k, n) else some (pc + 3, lv, r, h, k, n)
  | _, _ => none
theorem o_if_lt (E : mE p R s m args meth c B D dA M) {d : Int} {len pc : Nat} {lv : List (Nat × Value)} {st : List Value} {h : mh} {k n : Nat} {f : mF} (hd : decode (mCd M) pc = .ok (.ifCond .lt d, len)) (hq : q_if_lt d len pc lv st h k n = some f) (hk : mV p l e R s m args below meth c Q B b D dA (mLx M) f) : mV p l e R s m args below meth c Q B b D dA (mLx M) (pc, lv, st, h, k, n) := by
  unfold q_if_lt at hq
  split at hq
  · split at hq
    · cases hq
    · intro H locs ls hR hS hl
      refine lv_if_lt (tgt := ((pc : Int) + d).toNat) E.1 E.2.1 hd (by omega) (fun hc => ?_) (fun hc => ?_)
      · rw [if_pos hc] at hq
        cases hq
        exact hk H locs ls hR hS hl
      · rw [if_neg hc] at hq
        cases hq
        exact hk H locs ls hR hS hl
  · cases hq
def q_icmp_lt (d : Int) (len pc : Nat) (lv : List (Nat × Value)) (st : List Value) (h : mh) (k n : Nat) : Option mF := match len, st with
  | 3, .int y :: .int x :: r => if (pc : Int) + d < 0 then none else if x < y then some (((pc : Int) + d).toNat, lv, r, h, k, n) else some (pc + 3, lv, r, h, k, n)
  | _, _ => none
theorem o_icmp_lt (E : mE p R s m args meth c B D dA M) {d : Int} {len pc : Nat} {lv : List (Nat × Value)} {st : List Value} {h : mh} {k n : Nat} {f : mF} (hd : decode (mCd M) pc = .ok (.if_icmp .lt d, len)) (hq : q_icmp_lt d len pc lv st h k n = some f) (hk : mV p l e R s m args below meth c Q B b D dA (mLx M) f) : mV p l e R s m args below meth c Q B b D dA (mLx M) (pc, lv, st, h, k, n) := by
  unfold q_icmp_lt at hq
  split at hq
  · split at hq
    · cases hq
    · intro H locs ls hR hS hl
      refine lv_icmp_lt (tgt := ((pc : Int) + d).toNat) E.1 E.2.1 hd (by omega) (fun hc => ?_) (fun hc => ?_)
      · rw [if_pos hc] at hq
        cases hq
        exact hk H locs ls hR hS hl
      · rw [if_neg hc] at hq
        cases hq
        exact hk H locs ls hR hS hl
  · cases hq
def q_if_ge (d : Int) (len pc : Nat) (lv : List (Nat × Value)) (st : List Value) (h : mh) (k n : Nat) : Option mF := match len, st with
  | 3, .int x :: r => if (pc : Int) + d < 0 then none else if 0 ≤ x then some (((pc : Int) + d).toNat, lv, r, h, k, n) else some (pc + 3, lv, r, h, k, n)
  | _, _ => none
theorem o_if_ge (E : mE p R s m args meth c B D dA M) {d : Int} {len pc : Nat} {lv : List (Nat × Value)} {st : List Value} {h : mh} {k n : Nat} {f : mF} (hd : decode (mCd M) pc = .ok (.ifCond .ge d, len)) (hq : q_if_ge d len pc lv st h k n = some f) (hk : mV p l e R s m args below meth c Q B b D dA (mLx M) f) : mV p l e R s m args below meth c Q B b D dA (mLx M) (pc, lv, st, h, k, n) := by
  unfold q_if_ge at hq
  split at hq
  · split at hq
    · cases hq
    · intro H locs ls hR hS hl
      refine lv_if_ge (tgt := ((pc : Int) + d).toNat) E.1 E.2.1 hd (by omega) (fun hc => ?_) (fun hc => ?_)
      · rw [if_pos hc] at hq
        cases hq
        exact hk H locs ls hR hS hl
      · rw [if_neg hc] at hq
        cases hq
        exact hk H locs ls hR hS hl
  · cases hq
def q_icmp_ge (d : Int) (len pc : Nat) (lv : List (Nat × Value)) (st : List Value) (h : mh) (k n : Nat) : Option mF := match len, st with
  | 3, .int y :: .int x :: r => if (pc : Int) + d < 0 then none else if y ≤ x then some (((pc : Int) + d).toNat, lv, r, h, k, n) else some (pc + 3, lv, r, h, k, n)
  | _, _ => none
theorem o_icmp_ge (E : mE p R s m args meth c B D dA M) {d : Int} {len pc : Nat} {lv : List (Nat × Value)} {st : List Value} {h : mh} {k n : Nat} {f : mF} (hd : decode (mCd M) pc = .ok (.if_icmp .ge d, len)) (hq : q_icmp_ge d len pc lv st h k n = some f) (hk : mV p l e R s m args below meth c Q B b D dA (mLx M) f) : mV p l e R s m args below meth c Q B b D dA (mLx M) (pc, lv, st, h, k, n) := by
  unfold q_icmp_ge at hq
  split at hq
  · split at hq
    · cases hq
    · intro H locs ls hR hS hl
      refine lv_icmp_ge (tgt := ((pc : Int) + d).toNat) E.1 E.2.1 hd (by omega) (fun hc => ?_) (fun hc => ?_)
      · rw [if_pos hc] at hq
        cases hq
        exact hk H locs ls hR hS hl
      · rw [if_neg hc] at hq
        cases hq
        exact hk H locs ls hR hS hl
  · cases hq
def q_if_gt (d : Int) (len pc : Nat) (lv : List (Nat × Value)) (st : List Value) (h : mh) (k n : Nat) : Option mF := match len, st with
  | 3, .int x :: r => if (pc : Int) + d < 0 then none else if 0 < x then some (((pc : Int) + d).toNat, lv, r, h, k, n) else some (pc + 3, lv, r, h, k, n)
  | _, _ => none
theorem o_if_gt (E : mE p R s m args meth c B D dA M) {d : Int} {len pc : Nat} {lv : List (Nat × Value)} {st : List Value} {h : mh} {k n : Nat} {f : mF} (hd : decode (mCd M) pc = .ok (.ifCond .gt d, len)) (hq : q_if_gt d len pc lv st h k n = some f) (hk : mV p l e R s m args below meth c Q B b D dA (mLx M) f) : mV p l e R s m args below meth c Q B b D dA (mLx M) (pc, lv, st, h, k, n) := by
  unfold q_if_gt at hq
  split at hq
  · split at hq
    · cases hq
    · intro H locs ls hR hS hl
      refine lv_if_gt (tgt := ((pc : Int) + d).toNat) E.1 E.2.1 hd (by omega) (fun hc => ?_) (fun hc => ?_)
      · rw [if_pos hc] at hq
        cases hq
        exact hk H locs ls hR hS hl
      · rw [if_neg hc] at hq
        cases hq
        exact hk H locs ls hR hS hl
  · cases hq
def q_icmp_gt (d : Int) (len pc : Nat) (lv : List (Nat × Value)) (st : List Value) (h : mh) (k n : Nat) : Option mF := match len, st with
  | 3, .int y :: .int x :: r => if (pc : Int) + d < 0 then none else if y < x then some (((pc : Int) + d).toNat, lv, r, h, k, n) else some (pc + 3, lv, r, h, k, n)
  | _, _ => none
theorem o_icmp_gt (E : mE p R s m args meth c B D dA M) {d : Int} {len pc : Nat} {lv : List (Nat × Value)} {st : List Value} {h : mh} {k n : Nat} {f : mF} (hd : decode (mCd M) pc = .ok (.if_icmp .gt d, len)) (hq : q_icmp_gt d len pc lv st h k n = some f) (hk : mV p l e R s m args below meth c Q B b D dA (mLx M) f) : mV p l e R s m args below meth c Q B b D dA (mLx M) (pc, lv, st, h, k, n) := by
  unfold q_icmp_gt at hq
  split at hq
  · split at hq
    · cases hq
    · intro H locs ls hR hS hl
      refine lv_icmp_gt (tgt := ((pc : Int) + d).toNat) E.1 E.2.1 hd (by omega) (fun hc => ?_) (fun hc => ?_)
      · rw [if_pos hc] at hq
        cases hq
        exact hk H locs ls hR hS hl
      · rw [if_neg hc] at hq
        cases hq
        exact hk H locs ls hR hS hl
  · cases hq
def q_if_le (d : Int) (len pc : Nat) (lv : List (Nat × Value)) (st : List Value) (h : mh) (k n : Nat) : Option mF := match len, st with
  | 3, .int x :: r => if (pc : Int) + d < 0 then none else if x ≤ 0 then some (((pc : Int) + d).toNat, lv, r, h, k, n) else some (pc + 3, lv, r, h, k, n)
  | _, _ => none
theorem o_if_le (E : mE p R s m args meth c B D dA M) {d : Int} {len pc : Nat} {lv : List (Nat × Value)} {st : List Value} {h : mh} {k n : Nat} {f : mF} (hd : decode (mCd M) pc = .ok (.ifCond .le d, len)) (hq : q_if_le d len pc lv st h k n = some f) (hk : mV p l e R s m args below meth c Q B b D dA (mLx M) f) : mV p l e R s m args below meth c Q B b D dA (mLx M) (pc, lv, st, h, k, n) := by
  unfold q_if_le at hq
  split at hq
  · split at hq
    · cases hq
    · intro H locs ls hR hS hl
      refine lv_if_le (tgt := ((pc : Int) + d).toNat) E.1 E.2.1 hd (by omega) (fun hc => ?_) (fun hc => ?_)
      · rw [if_pos hc] at hq
        cases hq
        exact hk H locs ls hR hS hl
      · rw [if_neg hc] at hq
        cases hq
        exact hk H locs ls hR hS hl
  · cases hq
def q_icmp_le (d : Int) (len pc : Nat) (lv : List (Nat × Value)) (st : List Value) (h : mh) (k n : Nat) : Option mF := match len, st with
  | 3, .int y :: .int x :: r => if (pc : Int) + d < 0 then none else if x ≤ y then some (((pc : Int) + d).toNat, lv, r, h, k, n) else some (pc + 3, lv, r, h, k, n)
  | _, _ => none
theorem o_icmp_le (E : mE p R s m args meth c B D dA M) {d : Int} {len pc : Nat} {lv : List (Nat × Value)} {st : List Value} {h : mh} {k n : Nat} {f : mF} (hd : decode (mCd M) pc = .ok (.if_icmp .le d, len)) (hq : q_icmp_le d len pc lv st h k n = some f) (hk : mV p l e R s m args below meth c Q B b D dA (mLx M) f) : mV p l e R s m args below meth c Q B b D dA (mLx M) (pc, lv, st, h, k, n) := by
  unfold q_icmp_le at hq
  split at hq
  · split at hq
    · cases hq
    · intro H locs ls hR hS hl
      refine lv_icmp_le (tgt := ((pc : Int) + d).toNat) E.1 E.2.1 hd (by omega) (fun hc => ?_) (fun hc => ?_)
      · rw [if_pos hc] at hq
        cases hq
        exact hk H locs ls hR hS hl
      · rw [if_neg hc] at hq
        cases hq
        exact hk H locs ls hR hS hl
  · cases hq
def q_goto (d : Int) (len pc : Nat) (lv : List (Nat × Value)) (st : List Value) (h : mh) (k n : Nat) : Option mF := if len = 3 then (if (pc : Int) + d < 0 then none else some (((pc : Int) + d).toNat, lv, st, h, k, n)) else none
theorem o_goto (E : mE p R s m args meth c B D dA M) {d : Int} {len pc : Nat} {lv : List (Nat × Value)} {st : List Value} {h : mh} {k n : Nat} {f : mF} (hd : decode (mCd M) pc = .ok (.goto d, len)) (hq : q_goto d len pc lv st h k n = some f) (hk : mV p l e R s m args below meth c Q B b D dA (mLx M) f) : mV p l e R s m args below meth c Q B b D dA (mLx M) (pc, lv, st, h, k, n) := by
  unfold q_goto at hq
  split at hq
  · rename_i hc
    subst hc
    split at hq
    · cases hq
    · cases hq
      intro H locs ls hR hS hl
      exact lv_goto (tgt := ((pc : Int) + d).toNat) E.1 E.2.1 hd (by omega) (hk H locs ls hR hS hl)
  · cases hq
def q_tabsw (df lo hi : Int) (offs : Array Int) (len pc : Nat) (lv : List (Nat × Value)) (st : List Value) (h : mh) (k n : Nat) : Option mF := match st with
  | .int x :: r => if x.toInt < lo ∨ hi < x.toInt then (if (pc : Int) + df < 0 then none else some (((pc : Int) + df).toNat, lv, r, h, k, n)) else (match offs[(x.toInt - lo).toNat]? with
    | some d => if (pc : Int) + d < 0 then none else some (((pc : Int) + d).toNat, lv, r, h, k, n)
    | none => none)
  | _ => none
theorem o_tabsw (E : mE p R s m args meth c B D dA M) {df lo hi : Int} {offs : Array Int} {len pc : Nat} {lv : List (Nat × Value)} {st : List Value} {h : mh} {k n : Nat} {f : mF} (hd : decode (mCd M) pc = .ok (.tableswitch df lo hi offs, len)) (hq : q_tabsw df lo hi offs len pc lv st h k n = some f) (hk : mV p l e R s m args below meth c Q B b D dA (mLx M) f) : mV p l e R s m args below meth c Q B b D dA (mLx M) (pc, lv, st, h, k, n) := by
  unfold q_tabsw at hq
  split at hq
  · split at hq
    · rename_i hc
      split at hq
      · cases hq
      · cases hq
        intro H locs ls hR hS hl
        exact lv_tableOut (tgt := ((pc : Int) + df).toNat) E.1 E.2.1 hd hc (by omega) (hk H locs ls hR hS hl)
    · rename_i hc
      split at hq
      · rename_i d hd2
        split at hq
        · cases hq
        · cases hq
          intro H locs ls hR hS hl
          exact lv_tableIn (tgt := ((pc : Int) + d).toNat) E.1 E.2.1 hd (fun z => hc (Or.inl z)) (fun z => hc (Or.inr z)) hd2 (by omega) (hk H locs ls hR hS hl)
      · cases hq
  · cases hq
end MV
end
section
theorem cl_at : ∀ {i : Nat}, i < 8 → vwCl[i]? = some (cN i, cT i, cF i)
  | 0, _ => rfl
  | 1, _ => rfl
  | 2, _ => rfl
  | 3, _ => rfl
  | 4, _ => rfl
  | 5, _ => rfl
  | 6, _ => rfl
  | 7, _ => rfl
  | n + 8, h => absurd h (by omega)
theorem cl_in : ∀ {i : Nat}, i < 8 → ∀ w ∈ u_ws (cN i) (cT i) (cF i), w ∈ lw_tbl
  | 0, _ => inX0
  | 1, _ => inX1
  | 2, _ => inX2
  | 3, _ => inX3
  | 4, _ => inX4
  | 5, _ => inX5
  | 6, _ => inX6
  | 7, _ => inX7
  | n + 8, h => absurd h (by omega)
theorem cl_ty : ∀ {i : Nat}, i < 8 → ∀ k, k < cF i → parseFieldDescriptor (cT i k).2.2.1 = some (cY i k)
  | 0, _ => tyX0_ok
  | 1, _ => tyX1_ok
  | 2, _ => tyX2_ok
  | 3, _ => tyX3_ok
  | 4, _ => tyX4_ok
  | 5, _ => tyX5_ok
  | 6, _ => tyX6_ok
  | 7, _ => tyX7_ok
  | n + 8, h => absurd h (by omega)
theorem cl_nm : ∀ {i : Nat}, i < 8 → ∀ a, a < cF i → ∀ b, b < cF i → a ≠ b → (cT i a).2.1 ≠ (cT i b).2.1
  | 0, _ => nmX0
  | 1, _ => nmX1
  | 2, _ => nmX2
  | 3, _ => nmX3
  | 4, _ => nmX4
  | 5, _ => nmX5
  | 6, _ => nmX6
  | 7, _ => nmX7
  | n + 8, h => absurd h (by omega)
theorem dcX0 : ∀ k, k < cF 0 → (cT 0 k).1 = cN 0 := by decide +kernel
theorem dcX1 : ∀ k, k < cF 1 → (cT 1 k).1 = cN 1 := by decide +kernel
theorem dcX2 : ∀ k, k < cF 2 → (cT 2 k).1 = cN 2 := by decide +kernel
theorem dcX3 : ∀ k, k < cF 3 → (cT 3 k).1 = cN 3 := by decide +kernel
theorem dcX4 : ∀ k, k < cF 4 → (cT 4 k).1 = cN 4 := by decide +kernel
theorem dcX5 : ∀ k, k < cF 5 → (cT 5 k).1 = cN 5 := by decide +kernel
theorem dcX6 : ∀ k, k < cF 6 → (cT 6 k).1 = cN 6 := by decide +kernel
theorem dcX7 : ∀ k, k < cF 7 → (cT 7 k).1 = cN 7 := by decide +kernel
theorem cl_dc : ∀ {i : Nat}, i < 8 → ∀ k, k < cF i → (cT i k).1 = cN i
  | 0, _ => dcX0
  | 1, _ => dcX1
  | 2, _ => dcX2
  | 3, _ => dcX3
  | 4, _ => dcX4
  | 5, _ => dcX5
  | 6, _ => dcX6
  | 7, _ => dcX7
  | n + 8, h => absurd h (by omega)
def asc {α : Type} : List (Nat × α) → Nat → Option α
  | [], _ => none
  | q :: r, i => if q.1 = i then some q.2 else asc r i
theorem asc_mem {α : Type} {i : Nat} {v : α} : ∀ {l : List (Nat × α)}, asc l i = some v → (i, v) ∈ l
  | [], h => by cases h
  | q :: r, h => by
    unfold asc at h
    split at h
    · cases h; rename_i hq; subst hq; exact List.mem_cons_self
    · exact List.mem_cons_of_mem _ (asc_mem h)
def fP (o : Nat) (q : Nat × Nat × Nat) : Prop := q.2.1 < 8 ∧ q.2.2 < cF q.2.1 ∧ Cond.fieldLink (cN o) q.1 (cT q.2.1 q.2.2).1 (cT q.2.1 q.2.2).2.1 (cT q.2.1 q.2.2).2.2.1 ∈ lw_tbl
theorem fp_0_86 : fP 0 (86, 3, 0) := ⟨by decide, by decide, List.mem_append_right _ (List.mem_of_getElem? (i := 39) (by decide +kernel))⟩
theorem fp_0_89 : fP 0 (89, 3, 1) := ⟨by decide, by decide, List.mem_append_right _ (List.mem_of_getElem? (i := 45) (by decide +kernel))⟩
theorem fp_0_92 : fP 0 (92, 3, 2) := ⟨by decide, by decide, List.mem_append_right _ (List.mem_of_getElem? (i := 51) (by decide +kernel))⟩
theorem fp_0_95 : fP 0 (95, 3, 3) := ⟨by decide, by decide, List.mem_append_right _ (List.mem_of_getElem? (i := 57) (by decide +kernel))⟩
theorem fp_0_53 : fP 0 (53, 4, 1) := ⟨by decide, by decide, List.mem_append_right _ (List.mem_of_getElem? (i := 78) (by decide +kernel))⟩
theorem fp_0_9 : fP 0 (9, 0, 0) := ⟨by decide, by decide, List.mem_append_right _ (List.mem_of_getElem? (i := 84) (by decide +kernel))⟩
theorem fp_0_20 : fP 0 (20, 0, 1) := ⟨by decide, by decide, List.mem_append_right _ (List.mem_of_getElem? (i := 87) (by decide +kernel))⟩
theorem fp_0_24 : fP 0 (24, 0, 2) := ⟨by decide, by decide, List.mem_append_right _ (List.mem_of_getElem? (i := 90) (by decide +kernel))⟩
theorem fp_0_27 : fP 0 (27, 0, 3) := ⟨by decide, by decide, List.mem_append_right _ (List.mem_of_getElem? (i := 92) (by decide +kernel))⟩
theorem fp_0_31 : fP 0 (31, 0, 4) := ⟨by decide, by decide, List.mem_append_right _ (List.mem_of_getElem? (i := 94) (by decide +kernel))⟩
theorem fp_0_34 : fP 0 (34, 0, 5) := ⟨by decide, by decide, List.mem_append_right _ (List.mem_of_getElem? (i := 96) (by decide +kernel))⟩
theorem fp_0_37 : fP 0 (37, 0, 6) := ⟨by decide, by decide, List.mem_append_right _ (List.mem_of_getElem? (i := 98) (by decide +kernel))⟩
theorem fp_0_40 : fP 0 (40, 0, 7) := ⟨by decide, by decide, List.mem_append_right _ (List.mem_of_getElem? (i := 100) (by decide +kernel))⟩
theorem fp_0_46 : fP 0 (46, 0, 8) := ⟨by decide, by decide, List.mem_append_right _ (List.mem_of_getElem? (i := 102) (by decide +kernel))⟩
def fL_0_0 : List (Nat × Nat × Nat) := [(86, 3, 0), (89, 3, 1), (92, 3, 2), (95, 3, 3), (53, 4, 1), (9, 0, 0), (20, 0, 1), (24, 0, 2), (27, 0, 3), (31, 0, 4), (34, 0, 5), (37, 0, 6), (40, 0, 7), (46, 0, 8)]
theorem fK_0_0 : ∀ q ∈ fL_0_0, fP 0 q := List.forall_mem_cons.mpr ⟨fp_0_86, List.forall_mem_cons.mpr ⟨fp_0_89, List.forall_mem_cons.mpr ⟨fp_0_92, List.forall_mem_cons.mpr ⟨fp_0_95, List.forall_mem_cons.mpr ⟨fp_0_53, List.forall_mem_cons.mpr ⟨fp_0_9, List.forall_mem_cons.mpr ⟨fp_0_20, List.forall_mem_cons.mpr ⟨fp_0_24, List.forall_mem_cons.mpr ⟨fp_0_27, List.forall_mem_cons.mpr ⟨fp_0_31, List.forall_mem_cons.mpr ⟨fp_0_34, List.forall_mem_cons.mpr ⟨fp_0_37, List.forall_mem_cons.mpr ⟨fp_0_40, List.forall_mem_cons.mpr ⟨fp_0_46, fun _ h => absurd h List.not_mem_nil⟩⟩⟩⟩⟩⟩⟩⟩⟩⟩⟩⟩⟩⟩
def fL_0 : List (Nat × Nat × Nat) := fL_0_0
theorem fK_0 : ∀ q ∈ fL_0, fP 0 q := fK_0_0
theorem fp_1_63 : fP 1 (63, 3, 1) := ⟨by decide, by decide, List.mem_append_right _ (List.mem_of_getElem? (i := 42) (by decide +kernel))⟩
theorem fp_1_64 : fP 1 (64, 3, 2) := ⟨by decide, by decide, List.mem_append_right _ (List.mem_of_getElem? (i := 49) (by decide +kernel))⟩
theorem fp_1_65 : fP 1 (65, 3, 3) := ⟨by decide, by decide, List.mem_append_right _ (List.mem_of_getElem? (i := 55) (by decide +kernel))⟩
theorem fp_1_9 : fP 1 (9, 1, 0) := ⟨by decide, by decide, List.mem_append_right _ (List.mem_of_getElem? (i := 198) (by decide +kernel))⟩
theorem fp_1_15 : fP 1 (15, 1, 1) := ⟨by decide, by decide, List.mem_append_right _ (List.mem_of_getElem? (i := 200) (by decide +kernel))⟩
theorem fp_1_18 : fP 1 (18, 1, 2) := ⟨by decide, by decide, List.mem_append_right _ (List.mem_of_getElem? (i := 202) (by decide +kernel))⟩
theorem fp_1_22 : fP 1 (22, 1, 3) := ⟨by decide, by decide, List.mem_append_right _ (List.mem_of_getElem? (i := 203) (by decide +kernel))⟩
theorem fp_1_26 : fP 1 (26, 1, 4) := ⟨by decide, by decide, List.mem_append_right _ (List.mem_of_getElem? (i := 204) (by decide +kernel))⟩
theorem fp_1_29 : fP 1 (29, 1, 5) := ⟨by decide, by decide, List.mem_append_right _ (List.mem_of_getElem? (i := 205) (by decide +kernel))⟩
theorem fp_1_32 : fP 1 (32, 1, 6) := ⟨by decide, by decide, List.mem_append_right _ (List.mem_of_getElem? (i := 206) (by decide +kernel))⟩
theorem fp_1_35 : fP 1 (35, 1, 7) := ⟨by decide, by decide, List.mem_append_right _ (List.mem_of_getElem? (i := 207) (by decide +kernel))⟩
theorem fp_1_38 : fP 1 (38, 1, 8) := ⟨by decide, by decide, List.mem_append_right _ (List.mem_of_getElem? (i := 208) (by decide +kernel))⟩
theorem fp_1_41 : fP 1 (41, 1, 9) := ⟨by decide, by decide, List.mem_append_right _ (List.mem_of_getElem? (i := 209) (by decide +kernel))⟩
def fL_1_0 : List (Nat × Nat × Nat) := [(63, 3, 1), (64, 3, 2), (65, 3, 3), (9, 1, 0), (15, 1, 1), (18, 1, 2), (22, 1, 3), (26, 1, 4), (29, 1, 5), (32, 1, 6), (35, 1, 7), (38, 1, 8), (41, 1, 9)]
theorem fK_1_0 : ∀ q ∈ fL_1_0, fP 1 q := List.forall_mem_cons.mpr ⟨fp_1_63, List.forall_mem_cons.mpr ⟨fp_1_64, List.forall_mem_cons.mpr ⟨fp_1_65, List.forall_mem_cons.mpr ⟨fp_1_9, List.forall_mem_cons.mpr ⟨fp_1_15, List.forall_mem_cons.mpr ⟨fp_1_18, List.forall_mem_cons.mpr ⟨fp_1_22, List.forall_mem_cons.mpr ⟨fp_1_26, List.forall_mem_cons.mpr ⟨fp_1_29, List.forall_mem_cons.mpr ⟨fp_1_32, List.forall_mem_cons.mpr ⟨fp_1_35, List.forall_mem_cons.mpr ⟨fp_1_38, List.forall_mem_cons.mpr ⟨fp_1_41, fun _ h => absurd h List.not_mem_nil⟩⟩⟩⟩⟩⟩⟩⟩⟩⟩⟩⟩⟩
def fL_1 : List (Nat × Nat × Nat) := fL_1_0
theorem fK_1 : ∀ q ∈ fL_1, fP 1 q := fK_1_0
theorem fp_2_44 : fP 2 (44, 3, 0) := ⟨by decide, by decide, List.mem_append_right _ (List.mem_of_getElem? (i := 37) (by decide +kernel))⟩
theorem fp_2_84 : fP 2 (84, 3, 1) := ⟨by decide, by decide, List.mem_append_right _ (List.mem_of_getElem? (i := 44) (by decide +kernel))⟩
theorem fp_2_87 : fP 2 (87, 3, 2) := ⟨by decide, by decide, List.mem_append_right _ (List.mem_of_getElem? (i := 50) (by decide +kernel))⟩
theorem fp_2_90 : fP 2 (90, 3, 3) := ⟨by decide, by decide, List.mem_append_right _ (List.mem_of_getElem? (i := 56) (by decide +kernel))⟩
theorem fp_2_144 : fP 2 (144, 0, 0) := ⟨by decide, by decide, List.mem_append_right _ (List.mem_of_getElem? (i := 86) (by decide +kernel))⟩
theorem fp_2_147 : fP 2 (147, 0, 1) := ⟨by decide, by decide, List.mem_append_right _ (List.mem_of_getElem? (i := 89) (by decide +kernel))⟩
theorem fp_2_69 : fP 2 (69, 5, 0) := ⟨by decide, by decide, List.mem_append_right _ (List.mem_of_getElem? (i := 139) (by decide +kernel))⟩
theorem fp_2_152 : fP 2 (152, 5, 1) := ⟨by decide, by decide, List.mem_append_right _ (List.mem_of_getElem? (i := 141) (by decide +kernel))⟩
theorem fp_2_130 : fP 2 (130, 5, 3) := ⟨by decide, by decide, List.mem_append_right _ (List.mem_of_getElem? (i := 144) (by decide +kernel))⟩
theorem fp_2_137 : fP 2 (137, 5, 4) := ⟨by decide, by decide, List.mem_append_right _ (List.mem_of_getElem? (i := 146) (by decide +kernel))⟩
theorem fp_2_12 : fP 2 (12, 2, 0) := ⟨by decide, by decide, List.mem_append_right _ (List.mem_of_getElem? (i := 170) (by decide +kernel))⟩
theorem fp_2_18 : fP 2 (18, 2, 1) := ⟨by decide, by decide, List.mem_append_right _ (List.mem_of_getElem? (i := 171) (by decide +kernel))⟩
theorem fp_2_22 : fP 2 (22, 2, 2) := ⟨by decide, by decide, List.mem_append_right _ (List.mem_of_getElem? (i := 172) (by decide +kernel))⟩
theorem fp_2_26 : fP 2 (26, 2, 3) := ⟨by decide, by decide, List.mem_append_right _ (List.mem_of_getElem? (i := 173) (by decide +kernel))⟩
theorem fp_2_30 : fP 2 (30, 2, 4) := ⟨by decide, by decide, List.mem_append_right _ (List.mem_of_getElem? (i := 174) (by decide +kernel))⟩
theorem fp_2_33 : fP 2 (33, 2, 5) := ⟨by decide, by decide, List.mem_append_right _ (List.mem_of_getElem? (i := 175) (by decide +kernel))⟩
def fL_2_0 : List (Nat × Nat × Nat) := [(44, 3, 0), (84, 3, 1), (87, 3, 2), (90, 3, 3), (144, 0, 0), (147, 0, 1), (69, 5, 0), (152, 5, 1), (130, 5, 3), (137, 5, 4), (12, 2, 0), (18, 2, 1), (22, 2, 2), (26, 2, 3), (30, 2, 4), (33, 2, 5)]
theorem fK_2_0 : ∀ q ∈ fL_2_0, fP 2 q := List.forall_mem_cons.mpr ⟨fp_2_44, List.forall_mem_cons.mpr ⟨fp_2_84, List.forall_mem_cons.mpr ⟨fp_2_87, List.forall_mem_cons.mpr ⟨fp_2_90, List.forall_mem_cons.mpr ⟨fp_2_144, List.forall_mem_cons.mpr ⟨fp_2_147, List.forall_mem_cons.mpr ⟨fp_2_69, List.forall_mem_cons.mpr ⟨fp_2_152, List.forall_mem_cons.mpr ⟨fp_2_130, List.forall_mem_cons.mpr ⟨fp_2_137, List.forall_mem_cons.mpr ⟨fp_2_12, List.forall_mem_cons.mpr ⟨fp_2_18, List.forall_mem_cons.mpr ⟨fp_2_22, List.forall_mem_cons.mpr ⟨fp_2_26, List.forall_mem_cons.mpr ⟨fp_2_30, List.forall_mem_cons.mpr ⟨fp_2_33, fun _ h => absurd h List.not_mem_nil⟩⟩⟩⟩⟩⟩⟩⟩⟩⟩⟩⟩⟩⟩⟩⟩
theorem fp_2_36 : fP 2 (36, 2, 6) := ⟨by decide, by decide, List.mem_append_right _ (List.mem_of_getElem? (i := 176) (by decide +kernel))⟩
def fL_2_1 : List (Nat × Nat × Nat) := [(36, 2, 6)]
theorem fK_2_1 : ∀ q ∈ fL_2_1, fP 2 q := List.forall_mem_cons.mpr ⟨fp_2_36, fun _ h => absurd h List.not_mem_nil⟩
def fL_2 : List (Nat × Nat × Nat) := fL_2_0 ++ (fL_2_1)
theorem fK_2 : ∀ q ∈ fL_2, fP 2 q := List.forall_mem_append.mpr ⟨fK_2_0, fK_2_1⟩
theorem fp_3_7 : fP 3 (7, 3, 0) := ⟨by decide, by decide, List.mem_append_right _ (List.mem_of_getElem? (i := 36) (by decide +kernel))⟩
theorem fp_3_13 : fP 3 (13, 3, 1) := ⟨by decide, by decide, List.mem_append_right _ (List.mem_of_getElem? (i := 41) (by decide +kernel))⟩
theorem fp_3_17 : fP 3 (17, 3, 2) := ⟨by decide, by decide, List.mem_append_right _ (List.mem_of_getElem? (i := 47) (by decide +kernel))⟩
theorem fp_3_20 : fP 3 (20, 3, 3) := ⟨by decide, by decide, List.mem_append_right _ (List.mem_of_getElem? (i := 53) (by decide +kernel))⟩
def fL_3_0 : List (Nat × Nat × Nat) := [(7, 3, 0), (13, 3, 1), (17, 3, 2), (20, 3, 3)]
theorem fK_3_0 : ∀ q ∈ fL_3_0, fP 3 q := List.forall_mem_cons.mpr ⟨fp_3_7, List.forall_mem_cons.mpr ⟨fp_3_13, List.forall_mem_cons.mpr ⟨fp_3_17, List.forall_mem_cons.mpr ⟨fp_3_20, fun _ h => absurd h List.not_mem_nil⟩⟩⟩⟩
def fL_3 : List (Nat × Nat × Nat) := fL_3_0
theorem fK_3 : ∀ q ∈ fL_3, fP 3 q := fK_3_0
theorem fp_4_9 : fP 4 (9, 4, 0) := ⟨by decide, by decide, List.mem_append_right _ (List.mem_of_getElem? (i := 76) (by decide +kernel))⟩
theorem fp_4_15 : fP 4 (15, 4, 1) := ⟨by decide, by decide, List.mem_append_right _ (List.mem_of_getElem? (i := 77) (by decide +kernel))⟩
def fL_4_0 : List (Nat × Nat × Nat) := [(9, 4, 0), (15, 4, 1)]
theorem fK_4_0 : ∀ q ∈ fL_4_0, fP 4 q := List.forall_mem_cons.mpr ⟨fp_4_9, List.forall_mem_cons.mpr ⟨fp_4_15, fun _ h => absurd h List.not_mem_nil⟩⟩
def fL_4 : List (Nat × Nat × Nat) := fL_4_0
theorem fK_4 : ∀ q ∈ fL_4, fP 4 q := fK_4_0
theorem fp_5_77 : fP 5 (77, 3, 0) := ⟨by decide, by decide, List.mem_append_right _ (List.mem_of_getElem? (i := 40) (by decide +kernel))⟩
theorem fp_5_54 : fP 5 (54, 3, 1) := ⟨by decide, by decide, List.mem_append_right _ (List.mem_of_getElem? (i := 43) (by decide +kernel))⟩
theorem fp_5_57 : fP 5 (57, 3, 2) := ⟨by decide, by decide, List.mem_append_right _ (List.mem_of_getElem? (i := 48) (by decide +kernel))⟩
theorem fp_5_60 : fP 5 (60, 3, 3) := ⟨by decide, by decide, List.mem_append_right _ (List.mem_of_getElem? (i := 54) (by decide +kernel))⟩
theorem fp_5_16 : fP 5 (16, 5, 0) := ⟨by decide, by decide, List.mem_append_right _ (List.mem_of_getElem? (i := 138) (by decide +kernel))⟩
theorem fp_5_20 : fP 5 (20, 5, 1) := ⟨by decide, by decide, List.mem_append_right _ (List.mem_of_getElem? (i := 140) (by decide +kernel))⟩
theorem fp_5_24 : fP 5 (24, 5, 2) := ⟨by decide, by decide, List.mem_append_right _ (List.mem_of_getElem? (i := 142) (by decide +kernel))⟩
theorem fp_5_28 : fP 5 (28, 5, 3) := ⟨by decide, by decide, List.mem_append_right _ (List.mem_of_getElem? (i := 143) (by decide +kernel))⟩
theorem fp_5_31 : fP 5 (31, 5, 4) := ⟨by decide, by decide, List.mem_append_right _ (List.mem_of_getElem? (i := 145) (by decide +kernel))⟩
theorem fp_5_35 : fP 5 (35, 5, 5) := ⟨by decide, by decide, List.mem_append_right _ (List.mem_of_getElem? (i := 147) (by decide +kernel))⟩
theorem fp_5_38 : fP 5 (38, 5, 6) := ⟨by decide, by decide, List.mem_append_right _ (List.mem_of_getElem? (i := 148) (by decide +kernel))⟩
theorem fp_5_41 : fP 5 (41, 5, 7) := ⟨by decide, by decide, List.mem_append_right _ (List.mem_of_getElem? (i := 149) (by decide +kernel))⟩
theorem fp_5_44 : fP 5 (44, 5, 8) := ⟨by decide, by decide, List.mem_append_right _ (List.mem_of_getElem? (i := 150) (by decide +kernel))⟩
def fL_5_0 : List (Nat × Nat × Nat) := [(77, 3, 0), (54, 3, 1), (57, 3, 2), (60, 3, 3), (16, 5, 0), (20, 5, 1), (24, 5, 2), (28, 5, 3), (31, 5, 4), (35, 5, 5), (38, 5, 6), (41, 5, 7), (44, 5, 8)]
theorem fK_5_0 : ∀ q ∈ fL_5_0, fP 5 q := List.forall_mem_cons.mpr ⟨fp_5_77, List.forall_mem_cons.mpr ⟨fp_5_54, List.forall_mem_cons.mpr ⟨fp_5_57, List.forall_mem_cons.mpr ⟨fp_5_60, List.forall_mem_cons.mpr ⟨fp_5_16, List.forall_mem_cons.mpr ⟨fp_5_20, List.forall_mem_cons.mpr ⟨fp_5_24, List.forall_mem_cons.mpr ⟨fp_5_28, List.forall_mem_cons.mpr ⟨fp_5_31, List.forall_mem_cons.mpr ⟨fp_5_35, List.forall_mem_cons.mpr ⟨fp_5_38, List.forall_mem_cons.mpr ⟨fp_5_41, List.forall_mem_cons.mpr ⟨fp_5_44, fun _ h => absurd h List.not_mem_nil⟩⟩⟩⟩⟩⟩⟩⟩⟩⟩⟩⟩⟩
def fL_5 : List (Nat × Nat × Nat) := fL_5_0
theorem fK_5 : ∀ q ∈ fL_5, fP 5 q := fK_5_0
theorem fp_6_108 : fP 6 (108, 3, 0) := ⟨by decide, by decide, List.mem_append_right _ (List.mem_of_getElem? (i := 38) (by decide +kernel))⟩
theorem fp_6_117 : fP 6 (117, 3, 1) := ⟨by decide, by decide, List.mem_append_right _ (List.mem_of_getElem? (i := 46) (by decide +kernel))⟩
theorem fp_6_120 : fP 6 (120, 3, 2) := ⟨by decide, by decide, List.mem_append_right _ (List.mem_of_getElem? (i := 52) (by decide +kernel))⟩
theorem fp_6_123 : fP 6 (123, 3, 3) := ⟨by decide, by decide, List.mem_append_right _ (List.mem_of_getElem? (i := 58) (by decide +kernel))⟩
theorem fp_6_105 : fP 6 (105, 0, 0) := ⟨by decide, by decide, List.mem_append_right _ (List.mem_of_getElem? (i := 85) (by decide +kernel))⟩
theorem fp_6_98 : fP 6 (98, 0, 1) := ⟨by decide, by decide, List.mem_append_right _ (List.mem_of_getElem? (i := 88) (by decide +kernel))⟩
theorem fp_6_114 : fP 6 (114, 0, 2) := ⟨by decide, by decide, List.mem_append_right _ (List.mem_of_getElem? (i := 91) (by decide +kernel))⟩
theorem fp_6_131 : fP 6 (131, 0, 3) := ⟨by decide, by decide, List.mem_append_right _ (List.mem_of_getElem? (i := 93) (by decide +kernel))⟩
theorem fp_6_134 : fP 6 (134, 0, 4) := ⟨by decide, by decide, List.mem_append_right _ (List.mem_of_getElem? (i := 95) (by decide +kernel))⟩
theorem fp_6_141 : fP 6 (141, 0, 5) := ⟨by decide, by decide, List.mem_append_right _ (List.mem_of_getElem? (i := 97) (by decide +kernel))⟩
theorem fp_6_111 : fP 6 (111, 0, 6) := ⟨by decide, by decide, List.mem_append_right _ (List.mem_of_getElem? (i := 99) (by decide +kernel))⟩
theorem fp_6_126 : fP 6 (126, 0, 7) := ⟨by decide, by decide, List.mem_append_right _ (List.mem_of_getElem? (i := 101) (by decide +kernel))⟩
theorem fp_6_184 : fP 6 (184, 0, 8) := ⟨by decide, by decide, List.mem_append_right _ (List.mem_of_getElem? (i := 103) (by decide +kernel))⟩
theorem fp_6_191 : fP 6 (191, 1, 0) := ⟨by decide, by decide, List.mem_append_right _ (List.mem_of_getElem? (i := 199) (by decide +kernel))⟩
theorem fp_6_195 : fP 6 (195, 1, 1) := ⟨by decide, by decide, List.mem_append_right _ (List.mem_of_getElem? (i := 201) (by decide +kernel))⟩
theorem fp_6_11 : fP 6 (11, 6, 0) := ⟨by decide, by decide, List.mem_append_right _ (List.mem_of_getElem? (i := 237) (by decide +kernel))⟩
def fL_6_0 : List (Nat × Nat × Nat) := [(108, 3, 0), (117, 3, 1), (120, 3, 2), (123, 3, 3), (105, 0, 0), (98, 0, 1), (114, 0, 2), (131, 0, 3), (134, 0, 4), (141, 0, 5), (111, 0, 6), (126, 0, 7), (184, 0, 8), (191, 1, 0), (195, 1, 1), (11, 6, 0)]
theorem fK_6_0 : ∀ q ∈ fL_6_0, fP 6 q := List.forall_mem_cons.mpr ⟨fp_6_108, List.forall_mem_cons.mpr ⟨fp_6_117, List.forall_mem_cons.mpr ⟨fp_6_120, List.forall_mem_cons.mpr ⟨fp_6_123, List.forall_mem_cons.mpr ⟨fp_6_105, List.forall_mem_cons.mpr ⟨fp_6_98, List.forall_mem_cons.mpr ⟨fp_6_114, List.forall_mem_cons.mpr ⟨fp_6_131, List.forall_mem_cons.mpr ⟨fp_6_134, List.forall_mem_cons.mpr ⟨fp_6_141, List.forall_mem_cons.mpr ⟨fp_6_111, List.forall_mem_cons.mpr ⟨fp_6_126, List.forall_mem_cons.mpr ⟨fp_6_184, List.forall_mem_cons.mpr ⟨fp_6_191, List.forall_mem_cons.mpr ⟨fp_6_195, List.forall_mem_cons.mpr ⟨fp_6_11, fun _ h => absurd h List.not_mem_nil⟩⟩⟩⟩⟩⟩⟩⟩⟩⟩⟩⟩⟩⟩⟩⟩
theorem fp_6_15 : fP 6 (15, 6, 1) := ⟨by decide, by decide, List.mem_append_right _ (List.mem_of_getElem? (i := 238) (by decide +kernel))⟩
theorem fp_6_21 : fP 6 (21, 6, 2) := ⟨by decide, by decide, List.mem_append_right _ (List.mem_of_getElem? (i := 239) (by decide +kernel))⟩
theorem fp_6_25 : fP 6 (25, 6, 3) := ⟨by decide, by decide, List.mem_append_right _ (List.mem_of_getElem? (i := 240) (by decide +kernel))⟩
theorem fp_6_28 : fP 6 (28, 6, 4) := ⟨by decide, by decide, List.mem_append_right _ (List.mem_of_getElem? (i := 241) (by decide +kernel))⟩
theorem fp_6_32 : fP 6 (32, 6, 5) := ⟨by decide, by decide, List.mem_append_right _ (List.mem_of_getElem? (i := 242) (by decide +kernel))⟩
theorem fp_6_37 : fP 6 (37, 6, 6) := ⟨by decide, by decide, List.mem_append_right _ (List.mem_of_getElem? (i := 243) (by decide +kernel))⟩
theorem fp_6_44 : fP 6 (44, 6, 7) := ⟨by decide, by decide, List.mem_append_right _ (List.mem_of_getElem? (i := 244) (by decide +kernel))⟩
theorem fp_6_48 : fP 6 (48, 6, 8) := ⟨by decide, by decide, List.mem_append_right _ (List.mem_of_getElem? (i := 245) (by decide +kernel))⟩
theorem fp_6_51 : fP 6 (51, 6, 9) := ⟨by decide, by decide, List.mem_append_right _ (List.mem_of_getElem? (i := 246) (by decide +kernel))⟩
theorem fp_6_57 : fP 6 (57, 6, 10) := ⟨by decide, by decide, List.mem_append_right _ (List.mem_of_getElem? (i := 247) (by decide +kernel))⟩
theorem fp_6_64 : fP 6 (64, 6, 11) := ⟨by decide, by decide, List.mem_append_right _ (List.mem_of_getElem? (i := 248) (by decide +kernel))⟩
theorem fp_6_71 : fP 6 (71, 6, 12) := ⟨by decide, by decide, List.mem_append_right _ (List.mem_of_getElem? (i := 249) (by decide +kernel))⟩
def fL_6_1 : List (Nat × Nat × Nat) := [(15, 6, 1), (21, 6, 2), (25, 6, 3), (28, 6, 4), (32, 6, 5), (37, 6, 6), (44, 6, 7), (48, 6, 8), (51, 6, 9), (57, 6, 10), (64, 6, 11), (71, 6, 12)]
theorem fK_6_1 : ∀ q ∈ fL_6_1, fP 6 q := List.forall_mem_cons.mpr ⟨fp_6_15, List.forall_mem_cons.mpr ⟨fp_6_21, List.forall_mem_cons.mpr ⟨fp_6_25, List.forall_mem_cons.mpr ⟨fp_6_28, List.forall_mem_cons.mpr ⟨fp_6_32, List.forall_mem_cons.mpr ⟨fp_6_37, List.forall_mem_cons.mpr ⟨fp_6_44, List.forall_mem_cons.mpr ⟨fp_6_48, List.forall_mem_cons.mpr ⟨fp_6_51, List.forall_mem_cons.mpr ⟨fp_6_57, List.forall_mem_cons.mpr ⟨fp_6_64, List.forall_mem_cons.mpr ⟨fp_6_71, fun _ h => absurd h List.not_mem_nil⟩⟩⟩⟩⟩⟩⟩⟩⟩⟩⟩⟩
def fL_6 : List (Nat × Nat × Nat) := fL_6_0 ++ (fL_6_1)
theorem fK_6 : ∀ q ∈ fL_6, fP 6 q := List.forall_mem_append.mpr ⟨fK_6_0, fK_6_1⟩
theorem fp_7_7 : fP 7 (7, 7, 0) := ⟨by decide, by decide, List.mem_append_right _ (List.mem_of_getElem? (i := 724) (by decide +kernel))⟩
theorem fp_7_13 : fP 7 (13, 7, 1) := ⟨by decide, by decide, List.mem_append_right _ (List.mem_of_getElem? (i := 725) (by decide +kernel))⟩
theorem fp_7_16 : fP 7 (16, 7, 2) := ⟨by decide, by decide, List.mem_append_right _ (List.mem_of_getElem? (i := 726) (by decide +kernel))⟩
theorem fp_7_19 : fP 7 (19, 7, 3) := ⟨by decide, by decide, List.mem_append_right _ (List.mem_of_getElem? (i := 727) (by decide +kernel))⟩
theorem fp_7_22 : fP 7 (22, 7, 4) := ⟨by decide, by decide, List.mem_append_right _ (List.mem_of_getElem? (i := 728) (by decide +kernel))⟩
theorem fp_7_25 : fP 7 (25, 7, 5) := ⟨by decide, by decide, List.mem_append_right _ (List.mem_of_getElem? (i := 729) (by decide +kernel))⟩
theorem fp_7_28 : fP 7 (28, 7, 6) := ⟨by decide, by decide, List.mem_append_right _ (List.mem_of_getElem? (i := 730) (by decide +kernel))⟩
theorem fp_7_31 : fP 7 (31, 7, 7) := ⟨by decide, by decide, List.mem_append_right _ (List.mem_of_getElem? (i := 731) (by decide +kernel))⟩
theorem fp_7_34 : fP 7 (34, 7, 8) := ⟨by decide, by decide, List.mem_append_right _ (List.mem_of_getElem? (i := 732) (by decide +kernel))⟩
theorem fp_7_141 : fP 7 (141, 7, 9) := ⟨by decide, by decide, List.mem_append_right _ (List.mem_of_getElem? (i := 733) (by decide +kernel))⟩
theorem fp_7_37 : fP 7 (37, 7, 10) := ⟨by decide, by decide, List.mem_append_right _ (List.mem_of_getElem? (i := 734) (by decide +kernel))⟩
theorem fp_7_40 : fP 7 (40, 7, 11) := ⟨by decide, by decide, List.mem_append_right _ (List.mem_of_getElem? (i := 735) (by decide +kernel))⟩
theorem fp_7_43 : fP 7 (43, 7, 12) := ⟨by decide, by decide, List.mem_append_right _ (List.mem_of_getElem? (i := 736) (by decide +kernel))⟩
theorem fp_7_46 : fP 7 (46, 7, 13) := ⟨by decide, by decide, List.mem_append_right _ (List.mem_of_getElem? (i := 737) (by decide +kernel))⟩
theorem fp_7_49 : fP 7 (49, 7, 14) := ⟨by decide, by decide, List.mem_append_right _ (List.mem_of_getElem? (i := 738) (by decide +kernel))⟩
theorem fp_7_145 : fP 7 (145, 7, 15) := ⟨by decide, by decide, List.mem_append_right _ (List.mem_of_getElem? (i := 739) (by decide +kernel))⟩
def fL_7_0 : List (Nat × Nat × Nat) := [(7, 7, 0), (13, 7, 1), (16, 7, 2), (19, 7, 3), (22, 7, 4), (25, 7, 5), (28, 7, 6), (31, 7, 7), (34, 7, 8), (141, 7, 9), (37, 7, 10), (40, 7, 11), (43, 7, 12), (46, 7, 13), (49, 7, 14), (145, 7, 15)]
theorem fK_7_0 : ∀ q ∈ fL_7_0, fP 7 q := List.forall_mem_cons.mpr ⟨fp_7_7, List.forall_mem_cons.mpr ⟨fp_7_13, List.forall_mem_cons.mpr ⟨fp_7_16, List.forall_mem_cons.mpr ⟨fp_7_19, List.forall_mem_cons.mpr ⟨fp_7_22, List.forall_mem_cons.mpr ⟨fp_7_25, List.forall_mem_cons.mpr ⟨fp_7_28, List.forall_mem_cons.mpr ⟨fp_7_31, List.forall_mem_cons.mpr ⟨fp_7_34, List.forall_mem_cons.mpr ⟨fp_7_141, List.forall_mem_cons.mpr ⟨fp_7_37, List.forall_mem_cons.mpr ⟨fp_7_40, List.forall_mem_cons.mpr ⟨fp_7_43, List.forall_mem_cons.mpr ⟨fp_7_46, List.forall_mem_cons.mpr ⟨fp_7_49, List.forall_mem_cons.mpr ⟨fp_7_145, fun _ h => absurd h List.not_mem_nil⟩⟩⟩⟩⟩⟩⟩⟩⟩⟩⟩⟩⟩⟩⟩⟩
theorem fp_7_52 : fP 7 (52, 7, 16) := ⟨by decide, by decide, List.mem_append_right _ (List.mem_of_getElem? (i := 740) (by decide +kernel))⟩
theorem fp_7_56 : fP 7 (56, 7, 17) := ⟨by decide, by decide, List.mem_append_right _ (List.mem_of_getElem? (i := 741) (by decide +kernel))⟩
theorem fp_7_59 : fP 7 (59, 7, 18) := ⟨by decide, by decide, List.mem_append_right _ (List.mem_of_getElem? (i := 742) (by decide +kernel))⟩
theorem fp_7_62 : fP 7 (62, 7, 19) := ⟨by decide, by decide, List.mem_append_right _ (List.mem_of_getElem? (i := 743) (by decide +kernel))⟩
theorem fp_7_66 : fP 7 (66, 7, 20) := ⟨by decide, by decide, List.mem_append_right _ (List.mem_of_getElem? (i := 744) (by decide +kernel))⟩
theorem fp_7_165 : fP 7 (165, 7, 21) := ⟨by decide, by decide, List.mem_append_right _ (List.mem_of_getElem? (i := 745) (by decide +kernel))⟩
theorem fp_7_69 : fP 7 (69, 7, 22) := ⟨by decide, by decide, List.mem_append_right _ (List.mem_of_getElem? (i := 746) (by decide +kernel))⟩
theorem fp_7_162 : fP 7 (162, 7, 23) := ⟨by decide, by decide, List.mem_append_right _ (List.mem_of_getElem? (i := 747) (by decide +kernel))⟩
theorem fp_7_148 : fP 7 (148, 7, 24) := ⟨by decide, by decide, List.mem_append_right _ (List.mem_of_getElem? (i := 748) (by decide +kernel))⟩
theorem fp_7_152 : fP 7 (152, 7, 25) := ⟨by decide, by decide, List.mem_append_right _ (List.mem_of_getElem? (i := 749) (by decide +kernel))⟩
theorem fp_7_155 : fP 7 (155, 7, 26) := ⟨by decide, by decide, List.mem_append_right _ (List.mem_of_getElem? (i := 750) (by decide +kernel))⟩
theorem fp_7_72 : fP 7 (72, 7, 27) := ⟨by decide, by decide, List.mem_append_right _ (List.mem_of_getElem? (i := 751) (by decide +kernel))⟩
theorem fp_7_75 : fP 7 (75, 7, 28) := ⟨by decide, by decide, List.mem_append_right _ (List.mem_of_getElem? (i := 752) (by decide +kernel))⟩
theorem fp_7_78 : fP 7 (78, 7, 29) := ⟨by decide, by decide, List.mem_append_right _ (List.mem_of_getElem? (i := 753) (by decide +kernel))⟩
theorem fp_7_81 : fP 7 (81, 7, 30) := ⟨by decide, by decide, List.mem_append_right _ (List.mem_of_getElem? (i := 754) (by decide +kernel))⟩
theorem fp_7_84 : fP 7 (84, 7, 31) := ⟨by decide, by decide, List.mem_append_right _ (List.mem_of_getElem? (i := 755) (by decide +kernel))⟩
def fL_7_1 : List (Nat × Nat × Nat) := [(52, 7, 16), (56, 7, 17), (59, 7, 18), (62, 7, 19), (66, 7, 20), (165, 7, 21), (69, 7, 22), (162, 7, 23), (148, 7, 24), (152, 7, 25), (155, 7, 26), (72, 7, 27), (75, 7, 28), (78, 7, 29), (81, 7, 30), (84, 7, 31)]
theorem fK_7_1 : ∀ q ∈ fL_7_1, fP 7 q := List.forall_mem_cons.mpr ⟨fp_7_52, List.forall_mem_cons.mpr ⟨fp_7_56, List.forall_mem_cons.mpr ⟨fp_7_59, List.forall_mem_cons.mpr ⟨fp_7_62, List.forall_mem_cons.mpr ⟨fp_7_66, List.forall_mem_cons.mpr ⟨fp_7_165, List.forall_mem_cons.mpr ⟨fp_7_69, List.forall_mem_cons.mpr ⟨fp_7_162, List.forall_mem_cons.mpr ⟨fp_7_148, List.forall_mem_cons.mpr ⟨fp_7_152, List.forall_mem_cons.mpr ⟨fp_7_155, List.forall_mem_cons.mpr ⟨fp_7_72, List.forall_mem_cons.mpr ⟨fp_7_75, List.forall_mem_cons.mpr ⟨fp_7_78, List.forall_mem_cons.mpr ⟨fp_7_81, List.forall_mem_cons.mpr ⟨fp_7_84, fun _ h => absurd h List.not_mem_nil⟩⟩⟩⟩⟩⟩⟩⟩⟩⟩⟩⟩⟩⟩⟩⟩
theorem fp_7_87 : fP 7 (87, 7, 32) := ⟨by decide, by decide, List.mem_append_right _ (List.mem_of_getElem? (i := 756) (by decide +kernel))⟩
theorem fp_7_90 : fP 7 (90, 7, 33) := ⟨by decide, by decide, List.mem_append_right _ (List.mem_of_getElem? (i := 757) (by decide +kernel))⟩
theorem fp_7_93 : fP 7 (93, 7, 34) := ⟨by decide, by decide, List.mem_append_right _ (List.mem_of_getElem? (i := 758) (by decide +kernel))⟩
theorem fp_7_96 : fP 7 (96, 7, 35) := ⟨by decide, by decide, List.mem_append_right _ (List.mem_of_getElem? (i := 759) (by decide +kernel))⟩
theorem fp_7_99 : fP 7 (99, 7, 36) := ⟨by decide, by decide, List.mem_append_right _ (List.mem_of_getElem? (i := 760) (by decide +kernel))⟩
theorem fp_7_102 : fP 7 (102, 7, 37) := ⟨by decide, by decide, List.mem_append_right _ (List.mem_of_getElem? (i := 761) (by decide +kernel))⟩
theorem fp_7_105 : fP 7 (105, 7, 38) := ⟨by decide, by decide, List.mem_append_right _ (List.mem_of_getElem? (i := 762) (by decide +kernel))⟩
theorem fp_7_253 : fP 7 (253, 7, 39) := ⟨by decide, by decide, List.mem_append_right _ (List.mem_of_getElem? (i := 763) (by decide +kernel))⟩
theorem fp_7_256 : fP 7 (256, 7, 40) := ⟨by decide, by decide, List.mem_append_right _ (List.mem_of_getElem? (i := 764) (by decide +kernel))⟩
theorem fp_7_259 : fP 7 (259, 7, 41) := ⟨by decide, by decide, List.mem_append_right _ (List.mem_of_getElem? (i := 765) (by decide +kernel))⟩
theorem fp_7_262 : fP 7 (262, 7, 42) := ⟨by decide, by decide, List.mem_append_right _ (List.mem_of_getElem? (i := 766) (by decide +kernel))⟩
theorem fp_7_108 : fP 7 (108, 7, 43) := ⟨by decide, by decide, List.mem_append_right _ (List.mem_of_getElem? (i := 767) (by decide +kernel))⟩
theorem fp_7_111 : fP 7 (111, 7, 44) := ⟨by decide, by decide, List.mem_append_right _ (List.mem_of_getElem? (i := 768) (by decide +kernel))⟩
theorem fp_7_114 : fP 7 (114, 7, 45) := ⟨by decide, by decide, List.mem_append_right _ (List.mem_of_getElem? (i := 769) (by decide +kernel))⟩
theorem fp_7_117 : fP 7 (117, 7, 46) := ⟨by decide, by decide, List.mem_append_right _ (List.mem_of_getElem? (i := 770) (by decide +kernel))⟩
theorem fp_7_296 : fP 7 (296, 7, 47) := ⟨by decide, by decide, List.mem_append_right _ (List.mem_of_getElem? (i := 771) (by decide +kernel))⟩
def fL_7_2 : List (Nat × Nat × Nat) := [(87, 7, 32), (90, 7, 33), (93, 7, 34), (96, 7, 35), (99, 7, 36), (102, 7, 37), (105, 7, 38), (253, 7, 39), (256, 7, 40), (259, 7, 41), (262, 7, 42), (108, 7, 43), (111, 7, 44), (114, 7, 45), (117, 7, 46), (296, 7, 47)]
theorem fK_7_2 : ∀ q ∈ fL_7_2, fP 7 q := List.forall_mem_cons.mpr ⟨fp_7_87, List.forall_mem_cons.mpr ⟨fp_7_90, List.forall_mem_cons.mpr ⟨fp_7_93, List.forall_mem_cons.mpr ⟨fp_7_96, List.forall_mem_cons.mpr ⟨fp_7_99, List.forall_mem_cons.mpr ⟨fp_7_102, List.forall_mem_cons.mpr ⟨fp_7_105, List.forall_mem_cons.mpr ⟨fp_7_253, List.forall_mem_cons.mpr ⟨fp_7_256, List.forall_mem_cons.mpr ⟨fp_7_259, List.forall_mem_cons.mpr ⟨fp_7_262, List.forall_mem_cons.mpr ⟨fp_7_108, List.forall_mem_cons.mpr ⟨fp_7_111, List.forall_mem_cons.mpr ⟨fp_7_114, List.forall_mem_cons.mpr ⟨fp_7_117, List.forall_mem_cons.mpr ⟨fp_7_296, fun _ h => absurd h List.not_mem_nil⟩⟩⟩⟩⟩⟩⟩⟩⟩⟩⟩⟩⟩⟩⟩⟩
theorem fp_7_299 : fP 7 (299, 7, 48) := ⟨by decide, by decide, List.mem_append_right _ (List.mem_of_getElem? (i := 772) (by decide +kernel))⟩
theorem fp_7_302 : fP 7 (302, 7, 49) := ⟨by decide, by decide, List.mem_append_right _ (List.mem_of_getElem? (i := 773) (by decide +kernel))⟩
theorem fp_7_305 : fP 7 (305, 7, 50) := ⟨by decide, by decide, List.mem_append_right _ (List.mem_of_getElem? (i := 774) (by decide +kernel))⟩
theorem fp_7_313 : fP 7 (313, 7, 51) := ⟨by decide, by decide, List.mem_append_right _ (List.mem_of_getElem? (i := 775) (by decide +kernel))⟩
theorem fp_7_317 : fP 7 (317, 7, 52) := ⟨by decide, by decide, List.mem_append_right _ (List.mem_of_getElem? (i := 776) (by decide +kernel))⟩
theorem fp_7_320 : fP 7 (320, 7, 53) := ⟨by decide, by decide, List.mem_append_right _ (List.mem_of_getElem? (i := 777) (by decide +kernel))⟩
theorem fp_7_344 : fP 7 (344, 7, 54) := ⟨by decide, by decide, List.mem_append_right _ (List.mem_of_getElem? (i := 778) (by decide +kernel))⟩
theorem fp_7_353 : fP 7 (353, 7, 55) := ⟨by decide, by decide, List.mem_append_right _ (List.mem_of_getElem? (i := 779) (by decide +kernel))⟩
theorem fp_7_120 : fP 7 (120, 7, 56) := ⟨by decide, by decide, List.mem_append_right _ (List.mem_of_getElem? (i := 780) (by decide +kernel))⟩
theorem fp_7_123 : fP 7 (123, 7, 57) := ⟨by decide, by decide, List.mem_append_right _ (List.mem_of_getElem? (i := 781) (by decide +kernel))⟩
theorem fp_7_126 : fP 7 (126, 7, 58) := ⟨by decide, by decide, List.mem_append_right _ (List.mem_of_getElem? (i := 782) (by decide +kernel))⟩
def fL_7_3 : List (Nat × Nat × Nat) := [(299, 7, 48), (302, 7, 49), (305, 7, 50), (313, 7, 51), (317, 7, 52), (320, 7, 53), (344, 7, 54), (353, 7, 55), (120, 7, 56), (123, 7, 57), (126, 7, 58)]
theorem fK_7_3 : ∀ q ∈ fL_7_3, fP 7 q := List.forall_mem_cons.mpr ⟨fp_7_299, List.forall_mem_cons.mpr ⟨fp_7_302, List.forall_mem_cons.mpr ⟨fp_7_305, List.forall_mem_cons.mpr ⟨fp_7_313, List.forall_mem_cons.mpr ⟨fp_7_317, List.forall_mem_cons.mpr ⟨fp_7_320, List.forall_mem_cons.mpr ⟨fp_7_344, List.forall_mem_cons.mpr ⟨fp_7_353, List.forall_mem_cons.mpr ⟨fp_7_120, List.forall_mem_cons.mpr ⟨fp_7_123, List.forall_mem_cons.mpr ⟨fp_7_126, fun _ h => absurd h List.not_mem_nil⟩⟩⟩⟩⟩⟩⟩⟩⟩⟩⟩
def fL_7 : List (Nat × Nat × Nat) := fL_7_0 ++ (fL_7_1 ++ (fL_7_2 ++ (fL_7_3)))
theorem fK_7 : ∀ q ∈ fL_7, fP 7 q := List.forall_mem_append.mpr ⟨fK_7_0, List.forall_mem_append.mpr ⟨fK_7_1, List.forall_mem_append.mpr ⟨fK_7_2, fK_7_3⟩⟩⟩
def fT (o i : Nat) : Option (Nat × Nat) := match o with
  | 0 => asc fL_0 i
  | 1 => asc fL_1 i
  | 2 => asc fL_2 i
  | 3 => asc fL_3 i
  | 4 => asc fL_4 i
  | 5 => asc fL_5 i
  | 6 => asc fL_6 i
  | 7 => asc fL_7 i
  | _ => none
theorem fT_ok {o i ci k : Nat} (h : fT o i = some (ci, k)) : fP o (i, ci, k) := by
  unfold fT at h
  split at h
  · exact fK_0 _ (asc_mem h)
  · exact fK_1 _ (asc_mem h)
  · exact fK_2 _ (asc_mem h)
  · exact fK_3 _ (asc_mem h)
  · exact fK_4 _ (asc_mem h)
  · exact fK_5 _ (asc_mem h)
  · exact fK_6 _ (asc_mem h)
  · exact fK_7 _ (asc_mem h)
  · cases h
def kiP (o : Nat) (q : Nat × Int32) : Prop := Cond.constant (cN o) q.1 q.2 ∈ lw_tbl
def kiL_1 : List (Nat × Int32) := [(48, (100000))]
theorem kiK_1 : ∀ q ∈ kiL_1, kiP 1 q := List.forall_mem_cons.mpr ⟨List.mem_append_right _ (List.mem_of_getElem? (i := 640) (by decide +kernel)), fun _ h => absurd h List.not_mem_nil⟩
def kiL_2 : List (Nat × Int32) := [(125, (100000))]
theorem kiK_2 : ∀ q ∈ kiL_2, kiP 2 q := List.forall_mem_cons.mpr ⟨List.mem_append_right _ (List.mem_of_getElem? (i := 389) (by decide +kernel)), fun _ h => absurd h List.not_mem_nil⟩
def kiL_4 : List (Nat × Int32) := [(28, (100000))]
theorem kiK_4 : ∀ q ∈ kiL_4, kiP 4 q := List.forall_mem_cons.mpr ⟨List.mem_append_right _ (List.mem_of_getElem? (i := 614) (by decide +kernel)), fun _ h => absurd h List.not_mem_nil⟩
def kiL_6 : List (Nat × Int32) := [(202, (100000)), (144, (1000000))]
theorem kiK_6 : ∀ q ∈ kiL_6, kiP 6 q := List.forall_mem_cons.mpr ⟨List.mem_append_right _ (List.mem_of_getElem? (i := 433) (by decide +kernel)), List.forall_mem_cons.mpr ⟨List.mem_append_right _ (List.mem_of_getElem? (i := 528) (by decide +kernel)), fun _ h => absurd h List.not_mem_nil⟩⟩
def kiL_7 : List (Nat × Int32) := [(274, (-1000000)), (275, (1000000))]
theorem kiK_7 : ∀ q ∈ kiL_7, kiP 7 q := List.forall_mem_cons.mpr ⟨List.mem_append_right _ (List.mem_of_getElem? (i := 1047) (by decide +kernel)), List.forall_mem_cons.mpr ⟨List.mem_append_right _ (List.mem_of_getElem? (i := 1048) (by decide +kernel)), fun _ h => absurd h List.not_mem_nil⟩⟩
def kiT (o i : Nat) : Option (Int32) := match o with
  | 1 => asc kiL_1 i
  | 2 => asc kiL_2 i
  | 4 => asc kiL_4 i
  | 6 => asc kiL_6 i
  | 7 => asc kiL_7 i
  | _ => none
theorem kiT_ok {o i : Nat} {v : Int32} (h : kiT o i = some v) : kiP o (i, v) := by
  unfold kiT at h
  split at h
  · exact kiK_1 _ (asc_mem h)
  · exact kiK_2 _ (asc_mem h)
  · exact kiK_4 _ (asc_mem h)
  · exact kiK_6 _ (asc_mem h)
  · exact kiK_7 _ (asc_mem h)
  · cases h
def klP (o : Nat) (q : Nat × Int64) : Prop := Cond.constantLong (cN o) q.1 q.2 ∈ lw_tbl
def klL_6 : List (Nat × Int64) := [(129, (-2000000000)), (161, (-1)), (169, (4))]
theorem klK_6 : ∀ q ∈ klL_6, klP 6 q := List.forall_mem_cons.mpr ⟨List.mem_append_right _ (List.mem_of_getElem? (i := 516) (by decide +kernel)), List.forall_mem_cons.mpr ⟨List.mem_append_right _ (List.mem_of_getElem? (i := 563) (by decide +kernel)), List.forall_mem_cons.mpr ⟨List.mem_append_right _ (List.mem_of_getElem? (i := 575) (by decide +kernel)), fun _ h => absurd h List.not_mem_nil⟩⟩⟩
def klL_7 : List (Nat × Int64) := [(129, (-100)), (131, (100)), (168, (-1)), (248, (-2000000000)), (311, (4))]
theorem klK_7 : ∀ q ∈ klL_7, klP 7 q := List.forall_mem_cons.mpr ⟨List.mem_append_right _ (List.mem_of_getElem? (i := 917) (by decide +kernel)), List.forall_mem_cons.mpr ⟨List.mem_append_right _ (List.mem_of_getElem? (i := 918) (by decide +kernel)), List.forall_mem_cons.mpr ⟨List.mem_append_right _ (List.mem_of_getElem? (i := 966) (by decide +kernel)), List.forall_mem_cons.mpr ⟨List.mem_append_right _ (List.mem_of_getElem? (i := 1035) (by decide +kernel)), List.forall_mem_cons.mpr ⟨List.mem_append_right _ (List.mem_of_getElem? (i := 1093) (by decide +kernel)), fun _ h => absurd h List.not_mem_nil⟩⟩⟩⟩⟩
def klT (o i : Nat) : Option (Int64) := match o with
  | 6 => asc klL_6 i
  | 7 => asc klL_7 i
  | _ => none
theorem klT_ok {o i : Nat} {v : Int64} (h : klT o i = some v) : klP o (i, v) := by
  unfold klT at h
  split at h
  · exact klK_6 _ (asc_mem h)
  · exact klK_7 _ (asc_mem h)
  · cases h
def kcP (o : Nat) (q : Nat × Nat) : Prop := q.2 < 8 ∧ Cond.classLink (cN o) q.1 (cN q.2) ∈ lw_tbl ∧ Cond.instantiable (cN q.2) (cF q.2) ∈ lw_tbl ∧ Cond.initialized (cN q.2) ∈ lw_tbl
def kcL_0 : List (Nat × Nat) := [(15, 3), (43, 4)]
theorem kcK_0 : ∀ q ∈ kcL_0, kcP 0 q := List.forall_mem_cons.mpr ⟨⟨by decide, List.mem_append_right _ (List.mem_of_getElem? (i := 30) (by decide +kernel)), List.mem_append_right _ (List.mem_of_getElem? (i := 31) (by decide +kernel)), List.mem_append_right _ (List.mem_of_getElem? (i := 3) (by decide +kernel))⟩, List.forall_mem_cons.mpr ⟨⟨by decide, List.mem_append_right _ (List.mem_of_getElem? (i := 70) (by decide +kernel)), List.mem_append_right _ (List.mem_of_getElem? (i := 71) (by decide +kernel)), List.mem_append_right _ (List.mem_of_getElem? (i := 4) (by decide +kernel))⟩, fun _ h => absurd h List.not_mem_nil⟩⟩
def kcL_2 : List (Nat × Nat) := [(9, 5)]
theorem kcK_2 : ∀ q ∈ kcL_2, kcP 2 q := List.forall_mem_cons.mpr ⟨⟨by decide, List.mem_append_right _ (List.mem_of_getElem? (i := 130) (by decide +kernel)), List.mem_append_right _ (List.mem_of_getElem? (i := 131) (by decide +kernel)), List.mem_append_right _ (List.mem_of_getElem? (i := 6) (by decide +kernel))⟩, fun _ h => absurd h List.not_mem_nil⟩
def kcL_5 : List (Nat × Nat) := [(11, 3)]
theorem kcK_5 : ∀ q ∈ kcL_5, kcP 5 q := List.forall_mem_cons.mpr ⟨⟨by decide, List.mem_append_right _ (List.mem_of_getElem? (i := 136) (by decide +kernel)), List.mem_append_right _ (List.mem_of_getElem? (i := 31) (by decide +kernel)), List.mem_append_right _ (List.mem_of_getElem? (i := 3) (by decide +kernel))⟩, fun _ h => absurd h List.not_mem_nil⟩
def kcL_6 : List (Nat × Nat) := [(9, 3), (19, 0), (54, 2), (61, 1), (68, 4)]
theorem kcK_6 : ∀ q ∈ kcL_6, kcP 6 q := List.forall_mem_cons.mpr ⟨⟨by decide, List.mem_append_right _ (List.mem_of_getElem? (i := 21) (by decide +kernel)), List.mem_append_right _ (List.mem_of_getElem? (i := 31) (by decide +kernel)), List.mem_append_right _ (List.mem_of_getElem? (i := 3) (by decide +kernel))⟩, List.forall_mem_cons.mpr ⟨⟨by decide, List.mem_append_right _ (List.mem_of_getElem? (i := 23) (by decide +kernel)), List.mem_append_right _ (List.mem_of_getElem? (i := 25) (by decide +kernel)), List.mem_append_right _ (List.mem_of_getElem? (i := 2) (by decide +kernel))⟩, List.forall_mem_cons.mpr ⟨⟨by decide, List.mem_append_right _ (List.mem_of_getElem? (i := 124) (by decide +kernel)), List.mem_append_right _ (List.mem_of_getElem? (i := 125) (by decide +kernel)), List.mem_append_right _ (List.mem_of_getElem? (i := 5) (by decide +kernel))⟩, List.forall_mem_cons.mpr ⟨⟨by decide, List.mem_append_right _ (List.mem_of_getElem? (i := 192) (by decide +kernel)), List.mem_append_right _ (List.mem_of_getElem? (i := 193) (by decide +kernel)), List.mem_append_right _ (List.mem_of_getElem? (i := 7) (by decide +kernel))⟩, List.forall_mem_cons.mpr ⟨⟨by decide, List.mem_append_right _ (List.mem_of_getElem? (i := 231) (by decide +kernel)), List.mem_append_right _ (List.mem_of_getElem? (i := 71) (by decide +kernel)), List.mem_append_right _ (List.mem_of_getElem? (i := 4) (by decide +kernel))⟩, fun _ h => absurd h List.not_mem_nil⟩⟩⟩⟩⟩
def kcL_12 : List (Nat × Nat) := [(7, 6), (10, 7)]
theorem kcK_12 : ∀ q ∈ kcL_12, kcP 12 q := List.forall_mem_cons.mpr ⟨⟨by decide, List.mem_append_right _ (List.mem_of_getElem? (i := 13) (by decide +kernel)), List.mem_append_right _ (List.mem_of_getElem? (i := 14) (by decide +kernel)), List.mem_append_right _ (List.mem_of_getElem? (i := 1) (by decide +kernel))⟩, List.forall_mem_cons.mpr ⟨⟨by decide, List.mem_append_right _ (List.mem_of_getElem? (i := 718) (by decide +kernel)), List.mem_append_right _ (List.mem_of_getElem? (i := 719) (by decide +kernel)), List.mem_append_right _ (List.mem_of_getElem? (i := 8) (by decide +kernel))⟩, fun _ h => absurd h List.not_mem_nil⟩⟩
def kcT (o i : Nat) : Option (Nat) := match o with
  | 0 => asc kcL_0 i
  | 2 => asc kcL_2 i
  | 5 => asc kcL_5 i
  | 6 => asc kcL_6 i
  | 12 => asc kcL_12 i
  | _ => none
theorem kcT_ok {o i : Nat} {v : Nat} (h : kcT o i = some v) : kcP o (i, v) := by
  unfold kcT at h
  split at h
  · exact kcK_0 _ (asc_mem h)
  · exact kcK_2 _ (asc_mem h)
  · exact kcK_5 _ (asc_mem h)
  · exact kcK_6 _ (asc_mem h)
  · exact kcK_12 _ (asc_mem h)
  · cases h
def koP (o : Nat) (q : Nat × Unit) : Prop := Cond.methodLink (cN o) q.1 objectInit ∈ lw_tbl
def koL_0 : List (Nat × Unit) := [(3, ())]
theorem koK_0 : ∀ q ∈ koL_0, koP 0 q := List.forall_mem_cons.mpr ⟨List.mem_append_right _ (List.mem_of_getElem? (i := 29) (by decide +kernel)), fun _ h => absurd h List.not_mem_nil⟩
def koL_1 : List (Nat × Unit) := [(3, ())]
theorem koK_1 : ∀ q ∈ koL_1, koP 1 q := List.forall_mem_cons.mpr ⟨List.mem_append_right _ (List.mem_of_getElem? (i := 197) (by decide +kernel)), fun _ h => absurd h List.not_mem_nil⟩
def koL_2 : List (Nat × Unit) := [(3, ())]
theorem koK_2 : ∀ q ∈ koL_2, koP 2 q := List.forall_mem_cons.mpr ⟨List.mem_append_right _ (List.mem_of_getElem? (i := 129) (by decide +kernel)), fun _ h => absurd h List.not_mem_nil⟩
def koL_3 : List (Nat × Unit) := [(1, ())]
theorem koK_3 : ∀ q ∈ koL_3, koP 3 q := List.forall_mem_cons.mpr ⟨List.mem_append_right _ (List.mem_of_getElem? (i := 35) (by decide +kernel)), fun _ h => absurd h List.not_mem_nil⟩
def koL_4 : List (Nat × Unit) := [(3, ())]
theorem koK_4 : ∀ q ∈ koL_4, koP 4 q := List.forall_mem_cons.mpr ⟨List.mem_append_right _ (List.mem_of_getElem? (i := 75) (by decide +kernel)), fun _ h => absurd h List.not_mem_nil⟩
def koL_5 : List (Nat × Unit) := [(5, ())]
theorem koK_5 : ∀ q ∈ koL_5, koP 5 q := List.forall_mem_cons.mpr ⟨List.mem_append_right _ (List.mem_of_getElem? (i := 135) (by decide +kernel)), fun _ h => absurd h List.not_mem_nil⟩
def koL_6 : List (Nat × Unit) := [(1, ())]
theorem koK_6 : ∀ q ∈ koL_6, koP 6 q := List.forall_mem_cons.mpr ⟨List.mem_append_right _ (List.mem_of_getElem? (i := 18) (by decide +kernel)), fun _ h => absurd h List.not_mem_nil⟩
def koL_7 : List (Nat × Unit) := [(1, ())]
theorem koK_7 : ∀ q ∈ koL_7, koP 7 q := List.forall_mem_cons.mpr ⟨List.mem_append_right _ (List.mem_of_getElem? (i := 723) (by decide +kernel)), fun _ h => absurd h List.not_mem_nil⟩
def koT (o i : Nat) : Option (Unit) := match o with
  | 0 => asc koL_0 i
  | 1 => asc koL_1 i
  | 2 => asc koL_2 i
  | 3 => asc koL_3 i
  | 4 => asc koL_4 i
  | 5 => asc koL_5 i
  | 6 => asc koL_6 i
  | 7 => asc koL_7 i
  | _ => none
theorem koT_ok {o i : Nat} {v : Unit} (h : koT o i = some v) : koP o (i, v) := by
  unfold koT at h
  split at h
  · exact koK_0 _ (asc_mem h)
  · exact koK_1 _ (asc_mem h)
  · exact koK_2 _ (asc_mem h)
  · exact koK_3 _ (asc_mem h)
  · exact koK_4 _ (asc_mem h)
  · exact koK_5 _ (asc_mem h)
  · exact koK_6 _ (asc_mem h)
  · exact koK_7 _ (asc_mem h)
  · cases h
def kaP (o : Nat) (q : Nat × Unit) : Prop := Cond.methodLink (cN o) q.1 arraycopyName ∈ lw_tbl
def kaL_0 : List (Nat × Unit) := [(71, ())]
theorem kaK_0 : ∀ q ∈ kaL_0, kaP 0 q := List.forall_mem_cons.mpr ⟨List.mem_append_right _ (List.mem_of_getElem? (i := 441) (by decide +kernel)), fun _ h => absurd h List.not_mem_nil⟩
def kaL_5 : List (Nat × Unit) := [(87, ())]
theorem kaK_5 : ∀ q ∈ kaL_5, kaP 5 q := List.forall_mem_cons.mpr ⟨List.mem_append_right _ (List.mem_of_getElem? (i := 407) (by decide +kernel)), fun _ h => absurd h List.not_mem_nil⟩
def kaT (o i : Nat) : Option (Unit) := match o with
  | 0 => asc kaL_0 i
  | 5 => asc kaL_5 i
  | _ => none
theorem kaT_ok {o i : Nat} {v : Unit} (h : kaT o i = some v) : kaP o (i, v) := by
  unfold kaT at h
  split at h
  · exact kaK_0 _ (asc_mem h)
  · exact kaK_5 _ (asc_mem h)
  · cases h
def mathN (i : Nat) : MethodName := match i with
  | 0 => Lib.Math.abs.name
  | 1 => Lib.MathLoose.abs_long.x
  | 2 => Lib.Math.max.name
  | _ => Lib.Math.min.name
def kmP (o : Nat) (q : Nat × Nat) : Prop := Cond.methodLink (cN o) q.1 (mathN q.2) ∈ lw_tbl
def kmL_0 : List (Nat × Nat) := [(57, 0), (126, 3), (129, 2)]
theorem kmK_0 : ∀ q ∈ kmL_0, kmP 0 q := List.forall_mem_cons.mpr ⟨List.mem_append_right _ (List.mem_of_getElem? (i := 427) (by decide +kernel)), List.forall_mem_cons.mpr ⟨List.mem_append_right _ (List.mem_of_getElem? (i := 476) (by decide +kernel)), List.forall_mem_cons.mpr ⟨List.mem_append_right _ (List.mem_of_getElem? (i := 479) (by decide +kernel)), fun _ h => absurd h List.not_mem_nil⟩⟩⟩
def kmL_4 : List (Nat × Nat) := [(18, 1)]
theorem kmK_4 : ∀ q ∈ kmL_4, kmP 4 q := List.forall_mem_cons.mpr ⟨List.mem_append_right _ (List.mem_of_getElem? (i := 580) (by decide +kernel)), fun _ h => absurd h List.not_mem_nil⟩
def kmT (o i : Nat) : Option (Nat) := match o with
  | 0 => asc kmL_0 i
  | 4 => asc kmL_4 i
  | _ => none
theorem kmT_ok {o i : Nat} {v : Nat} (h : kmT o i = some v) : kmP o (i, v) := by
  unfold kmT at h
  split at h
  · exact kmK_0 _ (asc_mem h)
  · exact kmK_4 _ (asc_mem h)
  · cases h
theorem tb_oi : Cond.instanceMethod objectInit ∈ lw_tbl := List.mem_append_right _ (List.mem_of_getElem? (i := 19) (by decide +kernel))
theorem tb_oc : Cond.code objectInit ⟨#[0xb1]⟩ 1 none ∈ lw_tbl := List.mem_append_right _ (List.mem_of_getElem? (i := 20) rfl)
theorem tb_an : Cond.native arraycopyName ∈ lw_tbl := List.mem_append_right _ (List.mem_of_getElem? (i := 409) (by decide +kernel))
theorem tb_as : Cond.static arraycopyName ∈ lw_tbl := List.mem_append_right _ (List.mem_of_getElem? (i := 408) (by decide +kernel))
theorem tb_ai : Cond.initialized "java/lang/System" ∈ lw_tbl := List.mem_append_right _ (List.mem_of_getElem? (i := 9) (by decide +kernel))
theorem tb_ms0 : Cond.static Lib.Math.abs.name ∈ lw_tbl := List.mem_append_right _ (List.mem_of_getElem? (i := 428) (by decide +kernel))
set_option maxRecDepth 100000 in
theorem tb_mc0 : Cond.code Lib.Math.abs.name Lib.Math.abs.code 1 (some .int) ∈ lw_tbl := List.mem_append_right _ (List.mem_of_getElem? (i := 429) (by first | rfl | decide +kernel))
theorem tb_ms1 : Cond.static Lib.MathLoose.abs_long.x ∈ lw_tbl := List.mem_append_right _ (List.mem_of_getElem? (i := 581) (by decide +kernel))
set_option maxRecDepth 100000 in
theorem tb_mc1 : Cond.code Lib.MathLoose.abs_long.x Lib.MathLoose.abs_long.code 2 (some .long) ∈ lw_tbl := List.mem_append_right _ (List.mem_of_getElem? (i := 582) (by first | rfl | decide +kernel))
theorem tb_ms2 : Cond.static Lib.Math.max.name ∈ lw_tbl := List.mem_append_right _ (List.mem_of_getElem? (i := 480) (by decide +kernel))
set_option maxRecDepth 100000 in
theorem tb_mc2 : Cond.code Lib.Math.max.name Lib.Math.max.code 2 (some .int) ∈ lw_tbl := List.mem_append_right _ (List.mem_of_getElem? (i := 481) (by first | rfl | decide +kernel))
theorem tb_ms3 : Cond.static Lib.Math.min.name ∈ lw_tbl := List.mem_append_right _ (List.mem_of_getElem? (i := 477) (by decide +kernel))
set_option maxRecDepth 100000 in
theorem tb_mc3 : Cond.code Lib.Math.min.name Lib.Math.min.code 2 (some .int) ∈ lw_tbl := List.mem_append_right _ (List.mem_of_getElem? (i := 478) (by first | rfl | decide +kernel))
theorem tb_mi : Cond.initialized "java/lang/Math" ∈ lw_tbl := List.mem_append_right _ (List.mem_of_getElem? (i := 10) (by decide +kernel))
theorem tb_ci : Cond.arrayClass .int ∈ lw_tbl := List.mem_append_right _ (List.mem_of_getElem? (i := 69) (by decide +kernel))
theorem tb_cl : Cond.arrayClass .long ∈ lw_tbl := List.mem_append_right _ (List.mem_of_getElem? (i := 902) (by decide +kernel))
theorem tb_cz : Cond.arrayClass .boolean ∈ lw_tbl := List.mem_append_right _ (List.mem_of_getElem? (i := 68) (by decide +kernel))
theorem tb_c3 : Cond.arrayOver (.object RX3) ∈ lw_tbl := List.mem_append_right _ (List.mem_of_getElem? (i := 22) (by decide +kernel))
theorem tb_c0 : Cond.arrayOver (.object RX0) ∈ lw_tbl := List.mem_append_right _ (List.mem_of_getElem? (i := 24) (by decide +kernel))
theorem cl_ig {i : Nat} (h : i < 8) : ∀ w ∈ u_ws (cN i) (cT i) (cF i), w ∈ lw_g := by
  intro w hw
  refine lg_in (cl_in h w hw) ?_
  obtain ⟨k, -, rfl⟩ := List.mem_map.mp hw
  unfold u_lay
  split <;> rfl
end
section
section MH
variable {p : Program} {l : Launch} {e : Env} {R : Room} {s : State} {m : MethodId} {args : Array Value} {below : List Frame} {meth : Method} {c : Code} {Q : State → Prop} {B b : Nat} {D : va_G} {dA : Nat → ClassId} {M : mM}
theorem mE.hx (E : mE p R s m args meth c B D dA M) : p.tables.exec = Jvm.exec := E.1
theorem mE.hb (E : mE p R s m args meth c B D dA M) : c.code = mCd M := E.2.1
theorem mE.hm (E : mE p R s m args meth c B D dA M) : c.maxLocals = mLx M := E.2.2.1
theorem mE.ho (E : mE p R s m args meth c B D dA M) : s.vm.findClass (cN (mOw M)) = some m.cls := E.2.2.2.1
theorem mE.hg (E : mE p R s m args meth c B D dA M) : ∀ w ∈ lw_g, w.before args s = true := E.2.2.2.2.1
theorem mE.ht (E : mE p R s m args meth c B D dA M) {w : Cond} (h : w ∈ lw_tbl) (g : goodWord w = true) : w.before args s = true := E.hg w (lg_in h g)
theorem mE.hi (E : mE p R s m args meth c B D dA M) : mIn M = true → meth.name = "<init>" := E.2.2.2.2.2.1
theorem mE.hK (E : mE p R s m args meth c B D dA M) : va_K D vwCl (mtys dA) s := E.2.2.2.2.2.2.1
theorem mE.hz (E : mE p R s m args meth c B D dA M) : B ≤ s.heap.size := E.2.2.2.2.2.2.2.1
theorem mE.hr (E : mE p R s m args meth c B D dA M) : R = mRm M := E.2.2.2.2.2.2.2.2.1
theorem mE.hn (E : mE p R s m args meth c B D dA M) : mNs s := E.2.2.2.2.2.2.2.2.2
theorem mfs_at {B b j : Nat} {fs : List Value} {v : Value} (h : fs[j]? = some v) : (fs.map (mv B b))[j]? = some (mv B b v) := by rw [List.getElem?_map, h]; rfl
theorem mfs_set {B b j : Nat} {fs : List Value} {v : Value} : (fs.map (mv B b)).set j (mv B b v) = (fs.set j v).map (mv B b) := (List.map_set ..).symm
theorem lt_five {t : Nat} (h : t < 5) : t = 0 ∨ t = 1 ∨ t = 2 ∨ t = 3 ∨ t = 4 := by omega
def q_ldc (o i : Nat) (len pc : Nat) (lv : List (Nat × Value)) (st : List Value) (h : mh) (k n : Nat) : Option mF := match len, kiT o i with
  | 2, some v => some (pc + 2, lv, .int v :: st, h, k, n)
  | _, _ => none
theorem o_ldc (E : mE p R s m args meth c B D dA M) {i : Nat} {len pc : Nat} {lv : List (Nat × Value)} {st : List Value} {h : mh} {k n : Nat} {f : mF} (hd : decode (mCd M) pc = .ok (.ldc i, len)) (hq : q_ldc (mOw M) i len pc lv st h k n = some f) (hk : mV p l e R s m args below meth c Q B b D dA (mLx M) f) : mV p l e R s m args below meth c Q B b D dA (mLx M) (pc, lv, st, h, k, n) := by
  unfold q_ldc at hq
  split at hq
  · rename_i v hv
    cases hq
    intro H locs ls hR hS hl
    exact lv_ldc E.hx E.hb E.ho (E.ht (kiT_ok hv) rfl) hd (hk H locs ls hR hS hl)
  · cases hq
def q_ldc_w (o i : Nat) (len pc : Nat) (lv : List (Nat × Value)) (st : List Value) (h : mh) (k n : Nat) : Option mF := match len, kiT o i with
  | 3, some v => some (pc + 3, lv, .int v :: st, h, k, n)
  | _, _ => none
theorem o_ldc_w (E : mE p R s m args meth c B D dA M) {i : Nat} {len pc : Nat} {lv : List (Nat × Value)} {st : List Value} {h : mh} {k n : Nat} {f : mF} (hd : decode (mCd M) pc = .ok (.ldc_w i, len)) (hq : q_ldc_w (mOw M) i len pc lv st h k n = some f) (hk : mV p l e R s m args below meth c Q B b D dA (mLx M) f) : mV p l e R s m args below meth c Q B b D dA (mLx M) (pc, lv, st, h, k, n) := by
  unfold q_ldc_w at hq
  split at hq
  · rename_i v hv
    cases hq
    intro H locs ls hR hS hl
    exact lv_ldcw E.hx E.hb E.ho (E.ht (kiT_ok hv) rfl) hd (hk H locs ls hR hS hl)
  · cases hq
def q_ldc2 (o i : Nat) (len pc : Nat) (lv : List (Nat × Value)) (st : List Value) (h : mh) (k n : Nat) : Option mF := match len, klT o i with
  | 3, some v => some (pc + 3, lv, .long v :: st, h, k, n)
  | _, _ => none
theorem o_ldc2 (E : mE p R s m args meth c B D dA M) {i : Nat} {len pc : Nat} {lv : List (Nat × Value)} {st : List Value} {h : mh} {k n : Nat} {f : mF} (hd : decode (mCd M) pc = .ok (.ldc2_w i, len)) (hq : q_ldc2 (mOw M) i len pc lv st h k n = some f) (hk : mV p l e R s m args below meth c Q B b D dA (mLx M) f) : mV p l e R s m args below meth c Q B b D dA (mLx M) (pc, lv, st, h, k, n) := by
  unfold q_ldc2 at hq
  split at hq
  · rename_i v hv
    cases hq
    intro H locs ls hR hS hl
    exact lv_ldc2 E.hx E.hb E.ho (E.ht (klT_ok hv) rfl) hd (hk H locs ls hR hS hl)
  · cases hq
def q_getf (o i : Nat) (len pc : Nat) (lv : List (Nat × Value)) (st : List Value) (h : mh) (k n : Nat) : Option mF := match len, st with
  | 3, .ref a :: r => (match fT o i with
    | some (ci, j) => (match h[a]? with
      | some (.inr (ci', fs)) => if ci' = ci then (match fs[j]? with
        | some v => some (pc + 3, lv, v :: r, h, k, n)
        | none => none) else none
      | _ => none)
    | none => none)
  | _, _ => none
theorem o_getf (E : mE p R s m args meth c B D dA M) {i : Nat} {len pc : Nat} {lv : List (Nat × Value)} {st : List Value} {h : mh} {k n : Nat} {f : mF} (hd : decode (mCd M) pc = .ok (.getfield i, len)) (hq : q_getf (mOw M) i len pc lv st h k n = some f) (hk : mV p l e R s m args below meth c Q B b D dA (mLx M) f) : mV p l e R s m args below meth c Q B b D dA (mLx M) (pc, lv, st, h, k, n) := by
  unfold q_getf at hq
  split at hq
  · rename_i a r
    split at hq
    · rename_i ci j hf
      split at hq
      · rename_i ci' fs ha
        split at hq
        · rename_i hc
          split at hq
          · rename_i v hv
            cases hq
            subst hc
            intro H locs ls hR hS hl
            obtain ⟨h8, hj, hw⟩ := fT_ok hf
            exact va_get (D := D) (v := mv B b v) (C := cN ci') (T := cT ci') (N := cF ci') (ref := (cT ci' j).1) E.hx E.hb E.hg (cl_ig h8) E.ho E.hK hR.2 a (mW_at ha) (cl_at h8) j hj (E.ht hw rfl) (fun _ z => z) (mfs_at hv) hd (hk H locs ls hR hS hl)
          · cases hq
        · cases hq
      · cases hq
    · cases hq
  · cases hq
def mfit (ty : FieldType) (v : Value) : Bool := match ty, v with
  | .int, .int _ => true
  | .long, .long _ => true
  | .boolean, .int x => x == 0 || x == 1
  | .object _, .ref _ => true
  | .array _, .ref _ => true
  | _, _ => false
theorem mfit_ok {ty : FieldType} {v : Value} (h : mfit ty v = true) : narrow ty (mv B b v) = mv B b v ∧ fits ty (mv B b v) = true := by
  unfold mfit at h
  split at h
  · exact ⟨rfl, rfl⟩
  · exact ⟨rfl, rfl⟩
  · rename_i x
    refine ⟨?_, h⟩
    rw [Bool.or_eq_true, beq_iff_eq, beq_iff_eq] at h
    rcases h with rfl | rfl
    · exact (show Value.int ((0 : Int32) &&& 1) = Value.int 0 by decide)
    · exact (show Value.int ((1 : Int32) &&& 1) = Value.int 1 by decide)
  · exact ⟨rfl, rfl⟩
  · exact ⟨rfl, rfl⟩
  · cases h
/-- what a write of a field leaves -/
theorem mR_put {H H' : Heap} {h : mh} {a ci j : Nat} {fs : List Value} {v : Value} {cell : Cell} (h8 : ci < 8) (hj : j < cF ci) (hR : mR B b D dA h H) (ha : h[a]? = some (.inr (ci, fs))) (hl : j < fs.length) (hap : ∀ x y : Nat, x < cF ci → y < cF ci → x ≠ y → D.2 ci x ≠ D.2 ci y) (q1 : H[B + a]? = some cell) (q2 : cell.cls = D.1 ci) (q3 : cell.vm = .none) (q4 : ∀ k, k < cF ci → cell.slots[D.2 ci k]? = some (vp_V (fs.map (mv B b)) k)) (e1 : H'[B + a]? = some (cell.setSlot (D.2 ci j) (mv B b v))) (e2 : H'.size = H.size) (e3 : ∀ q : Nat, q ≠ B + a → H'[q]? = H[q]?) : mR B b D dA (h.set a (.inr (ci, fs.set j v))) H' := by
  refine mR_set (y := (B + a, .inr (ci, (fs.map (mv B b)).set j (mv B b v)))) (by show _ = (B + a, Sum.inr (ci, (fs.set j v).map (mv B b))); rw [mfs_set]) e2 hR ?_
  exact hR.2.set mW_D (mW_at ha) ⟨_, cl_at h8, t_OB.to (V := updV (vp_V (fs.map (mv B b))) j (mv B b v)) ⟨_, e1, q2, q3, t_set q4 hap hj (mv B b v)⟩ (fun i _ => vp_updV_set (by rw [List.length_map]; exact hl) (mv B b v) i)⟩ e3
def q_putf (o i : Nat) (ini : Bool) (len pc : Nat) (lv : List (Nat × Value)) (st : List Value) (h : mh) (k n : Nat) : Option mF := match len, st with
  | 3, v :: .ref a :: r => (match fT o i with
    | some (ci, j) => (match h[a]? with
      | some (.inr (ci', fs)) => if ci' = ci ∧ mfit (cY ci j) v = true ∧ j < fs.length ∧ ((cT ci j).2.2.2 = false ∨ (ini = true ∧ o = ci)) then some (pc + 3, lv, r, h.set a (.inr (ci, fs.set j v)), k, n) else none
      | _ => none)
    | none => none)
  | _, _ => none
theorem o_putf (E : mE p R s m args meth c B D dA M) {i : Nat} {len pc : Nat} {lv : List (Nat × Value)} {st : List Value} {h : mh} {k n : Nat} {f : mF} (hd : decode (mCd M) pc = .ok (.putfield i, len)) (hq : q_putf (mOw M) i (mIn M) len pc lv st h k n = some f) (hk : mV p l e R s m args below meth c Q B b D dA (mLx M) f) : mV p l e R s m args below meth c Q B b D dA (mLx M) (pc, lv, st, h, k, n) := by
  unfold q_putf at hq
  split at hq
  · rename_i v a r
    split at hq
    · rename_i ci j hf
      split at hq
      · rename_i ci' fs ha
        split at hq
        · rename_i hc
          obtain ⟨hc, hfit, hjl, hfin⟩ := hc
          cases hq
          subst hc
          intro H locs ls hR hS hl
          obtain ⟨h8, hj, hw⟩ := fT_ok hf
          obtain ⟨hn, hfi⟩ := mfit_ok (B := B) (b := b) hfit
          have hd2 := cl_ty h8 j hj
          have hap := va_apart (own := cN (mOw M)) E.hg (cl_ig h8) (cY ci') (cl_ty h8) (cl_nm h8) E.hK (cl_at h8)
          obtain ⟨r2, h1, cell, q1, q2, q3, q4⟩ := hR.2 a _ (mW_at ha)
          have hr : r2 = (cN ci', cT ci', cF ci') := Option.some.inj (h1.symm.trans (cl_at h8))
          subst hr
          obtain ⟨hSl, hfc, kC, hkC, hkind⟩ := E.hK.1 ci' _ (cl_at h8)
          obtain ⟨cf, kf, fi, fd, hi, hsl⟩ := hSl j hj
          have hlay := E.hg _ (cl_ig h8 _ (u_in_lay hj))
          unfold u_lay at hlay
          have hst := (u_facts hfc hkC (u_lays E.hg (cl_ig h8) hj) hi).1
          by_cases hfl : (cT ci' j).2.2.2 = false
          · rw [if_neg (by rw [hfl]; decide)] at hlay
            have h6 := u_store hfc hkC hkind hlay hi hd2 hn hfi
            refine W.putK E.hx E.hb (f := fd) ⟨E.ho, E.ht hw rfl, ⟨_, _, _, hi⟩, hst⟩ (by rw [q2]; exact h6) q1 q3 (by rw [hsl]; exact k2_hasslot (q4 j hj)) rfl rfl hd fun H' e1 e2 e3 => ?_
            rw [hsl] at e1 ⊢
            exact hk H' _ ls (mR_put h8 hj hR ha hjl hap q1 q2 q3 q4 e1 e2 e3) (hS.put e2 e3 (Nat.le_add_right B a)) hl
          · have hfl2 : (cT ci' j).2.2.2 = true := by cases hz : (cT ci' j).2.2.2 with
              | true => rfl
              | false => exact absurd hz hfl
            obtain ⟨hi0, hoc⟩ : mIn M = true ∧ mOw M = ci' := by
              rcases hfin with z | z
              · exact absurd z hfl
              · exact z
            rw [if_pos hfl2] at hlay
            have hcf : m.cls = cf := by
              obtain ⟨_, _, c', _, _, _, -, -, hf', -, -, -, hown2, -⟩ := Cond.laysFinal_spec hlay
              have e1 : c' = cf := by have := hi.symm.trans hf'; simp at this; exact this.1.symm
              rw [cl_dc h8 j hj, ← hoc] at hown2
              rw [← e1]; exact Option.some.inj (E.ho.symm.trans hown2)
            have h6 := u_fits hfc hkC hkind (Or.inr hlay) hi hd2 hn hfi
            refine W.putFinK E.hx E.hb E.ho (E.ht hw rfl) hi hst hcf (E.hi hi0) (by rw [q2]; exact h6) q1 q3 (by rw [hsl]; exact k2_hasslot (q4 j hj)) rfl rfl hd fun H' e1 e2 e3 => ?_
            rw [hsl] at e1 ⊢
            exact hk H' _ ls (mR_put h8 hj hR ha hjl hap q1 q2 q3 q4 e1 e2 e3) (hS.put e2 e3 (Nat.le_add_right B a)) hl
        · cases hq
      · cases hq
    · cases hq
  · cases hq
def q_iald  (len pc : Nat) (lv : List (Nat × Value)) (st : List Value) (h : mh) (k n : Nat) : Option mF := match len, st with
  | 1, .int i :: .ref a :: r => (match h[a]? with
    | some (.inl (0, z, .inl f)) => if i < 0 ∨ z ≤ i.toNatClampNeg then none else some (pc + 1, lv, .int (f i.toNatClampNeg) :: r, h, k, n)
    | _ => none)
  | _, _ => none
theorem o_iald (E : mE p R s m args meth c B D dA M)  {len pc : Nat} {lv : List (Nat × Value)} {st : List Value} {h : mh} {k n : Nat} {f : mF} (hd : decode (mCd M) pc = .ok (.iaload, len)) (hq : q_iald  len pc lv st h k n = some f) (hk : mV p l e R s m args below meth c Q B b D dA (mLx M) f) : mV p l e R s m args below meth c Q B b D dA (mLx M) (pc, lv, st, h, k, n) := by
  unfold q_iald at hq
  split at hq
  · rename_i i a r
    split at hq
    · rename_i z f ha
      split at hq
      · cases hq
      · rename_i hc
        cases hq
        intro H locs ls hR hS hl
        exact va_iald (D := D) E.hx E.hb E.hK hR.2 a 0 (mW_at ha) rfl hc hd (hk H locs ls hR hS hl)
    · cases hq
  · cases hq
def q_lald  (len pc : Nat) (lv : List (Nat × Value)) (st : List Value) (h : mh) (k n : Nat) : Option mF := match len, st with
  | 1, .int i :: .ref a :: r => (match h[a]? with
    | some (.inl (1, z, .inr (.inl f))) => if i < 0 ∨ z ≤ i.toNatClampNeg then none else some (pc + 1, lv, .long (f i.toNatClampNeg) :: r, h, k, n)
    | _ => none)
  | _, _ => none
theorem o_lald (E : mE p R s m args meth c B D dA M)  {len pc : Nat} {lv : List (Nat × Value)} {st : List Value} {h : mh} {k n : Nat} {f : mF} (hd : decode (mCd M) pc = .ok (.laload, len)) (hq : q_lald  len pc lv st h k n = some f) (hk : mV p l e R s m args below meth c Q B b D dA (mLx M) f) : mV p l e R s m args below meth c Q B b D dA (mLx M) (pc, lv, st, h, k, n) := by
  unfold q_lald at hq
  split at hq
  · rename_i i a r
    split at hq
    · rename_i z f ha
      split at hq
      · cases hq
      · rename_i hc
        cases hq
        intro H locs ls hR hS hl
        exact va_lald (D := D) E.hx E.hb E.hK hR.2 a 1 (mW_at ha) rfl hc hd (hk H locs ls hR hS hl)
    · cases hq
  · cases hq
def q_bald  (len pc : Nat) (lv : List (Nat × Value)) (st : List Value) (h : mh) (k n : Nat) : Option mF := match len, st with
  | 1, .int i :: .ref a :: r => (match h[a]? with
    | some (.inl (2, z, .inl f)) => if i < 0 ∨ z ≤ i.toNatClampNeg then none else some (pc + 1, lv, .int (f i.toNatClampNeg) :: r, h, k, n)
    | _ => none)
  | _, _ => none
theorem o_bald (E : mE p R s m args meth c B D dA M)  {len pc : Nat} {lv : List (Nat × Value)} {st : List Value} {h : mh} {k n : Nat} {f : mF} (hd : decode (mCd M) pc = .ok (.baload, len)) (hq : q_bald  len pc lv st h k n = some f) (hk : mV p l e R s m args below meth c Q B b D dA (mLx M) f) : mV p l e R s m args below meth c Q B b D dA (mLx M) (pc, lv, st, h, k, n) := by
  unfold q_bald at hq
  split at hq
  · rename_i i a r
    split at hq
    · rename_i z f ha
      split at hq
      · cases hq
      · rename_i hc
        cases hq
        intro H locs ls hR hS hl
        exact va_zald (D := D) E.hx E.hb E.hK hR.2 a 2 (mW_at ha) rfl hc hd (hk H locs ls hR hS hl)
    · cases hq
  · cases hq
def q_aald  (len pc : Nat) (lv : List (Nat × Value)) (st : List Value) (h : mh) (k n : Nat) : Option mF := match len, st with
  | 1, .int i :: .ref a :: r => (match h[a]? with
    | some (.inl (t, z, .inr (.inr (.inr (.inr f))))) => if t = 3 ∨ t = 4 then (if i < 0 ∨ z ≤ i.toNatClampNeg then none else some (pc + 1, lv, va_rf (f i.toNatClampNeg) :: r, h, k, n)) else none
    | _ => none)
  | _, _ => none
theorem o_aald (E : mE p R s m args meth c B D dA M)  {len pc : Nat} {lv : List (Nat × Value)} {st : List Value} {h : mh} {k n : Nat} {f : mF} (hd : decode (mCd M) pc = .ok (.aaload, len)) (hq : q_aald  len pc lv st h k n = some f) (hk : mV p l e R s m args below meth c Q B b D dA (mLx M) f) : mV p l e R s m args below meth c Q B b D dA (mLx M) (pc, lv, st, h, k, n) := by
  unfold q_aald at hq
  split at hq
  · rename_i i a r
    split at hq
    · rename_i t z f ha
      split at hq
      · rename_i ht
        split at hq
        · cases hq
        · rename_i hc
          cases hq
          intro H locs ls hR hS hl
          have e : mv B b (va_rf (f i.toNatClampNeg)) = va_rf (mrf B f i.toNatClampNeg) := by
            unfold mrf
            cases f i.toNatClampNeg <;> rfl
          have hk2 := hk H locs ls hR hS hl
          simp only [List.map_cons, e] at hk2
          rcases ht with rfl | rfl
          · exact va_aldq (D := D) (C := RX3) E.hx E.hb E.hK hR.2 a 3 (mW_at ha) rfl hc hd hk2
          · exact va_aldq (D := D) (C := RX0) E.hx E.hb E.hK hR.2 a 4 (mW_at ha) rfl hc hd hk2
      · cases hq
    · cases hq
  · cases hq
def q_alen  (len pc : Nat) (lv : List (Nat × Value)) (st : List Value) (h : mh) (k n : Nat) : Option mF := match len, st with
  | 1, .ref a :: r => (match h[a]? with
    | some (.inl (t, z, g)) => if t < 5 then some (pc + 1, lv, .int (Int32.ofNat z) :: r, h, k, n) else none
    | _ => none)
  | _, _ => none
theorem o_alen (E : mE p R s m args meth c B D dA M)  {len pc : Nat} {lv : List (Nat × Value)} {st : List Value} {h : mh} {k n : Nat} {f : mF} (hd : decode (mCd M) pc = .ok (.arraylength, len)) (hq : q_alen  len pc lv st h k n = some f) (hk : mV p l e R s m args below meth c Q B b D dA (mLx M) f) : mV p l e R s m args below meth c Q B b D dA (mLx M) (pc, lv, st, h, k, n) := by
  unfold q_alen at hq
  split at hq
  · rename_i a r
    split at hq
    · rename_i t z g ha
      split at hq
      · rename_i ht
        cases hq
        intro H locs ls hR hS hl
        have ht : @LT.lt Nat _ t 5 := ht
        have hty : ∃ ty, (mtys dA)[t]? = some (dA t, ty) := by
          rcases lt_five ht with rfl | rfl | rfl | rfl | rfl <;> exact ⟨_, rfl⟩
        obtain ⟨ty, hty⟩ := hty
        have hw := mW_at (B := B) (b := b) (dA := dA) ha
        have hx : ∃ x : vp_A, mcv B b dA (.inl (t, z, g)) = .inl (dA t, x) ∧ x.1 = z := by
          rcases g with g | g | g | g | g <;> exact ⟨_, rfl, rfl⟩
        obtain ⟨x, hx, hz⟩ := hx
        rw [hx] at hw
        exact va_alen (D := D) E.hx E.hb E.hK hR.2 a t hw hty (by rw [hz]) hd (hk H locs ls hR hS hl)
      · cases hq
    · cases hq
  · cases hq
def q_iast  (len pc : Nat) (lv : List (Nat × Value)) (st : List Value) (h : mh) (k n : Nat) : Option mF := match len, st with
  | 1, .int x :: .int i :: .ref a :: r => (match h[a]? with
    | some (.inl (0, z, .inl f)) => if i < 0 ∨ z ≤ i.toNatClampNeg then none else some (pc + 1, lv, r, h.set a (.inl (0, z, .inl (upd f i.toNatClampNeg x))), k, n)
    | _ => none)
  | _, _ => none
theorem o_iast (E : mE p R s m args meth c B D dA M)  {len pc : Nat} {lv : List (Nat × Value)} {st : List Value} {h : mh} {k n : Nat} {f : mF} (hd : decode (mCd M) pc = .ok (.iastore, len)) (hq : q_iast  len pc lv st h k n = some f) (hk : mV p l e R s m args below meth c Q B b D dA (mLx M) f) : mV p l e R s m args below meth c Q B b D dA (mLx M) (pc, lv, st, h, k, n) := by
  unfold q_iast at hq
  split at hq
  · rename_i x i a r
    split at hq
    · rename_i z f ha
      split at hq
      · cases hq
      · rename_i hc
        cases hq
        intro H locs ls hR hS hl
        refine W.iast E.hx E.hb (hR.2 a _ (mW_at ha)) ((E.hK.2 0 _ rfl).1 z (fun j => .int (f j))) (fun q => by cases q) (by show ¬ (i < 0 ∨ (arrV _ _ _).slots.size ≤ _); rw [arrV_size]; exact hc) rfl rfl hd fun H1 e1 z1 oq => ?_
        refine hk H1 _ ls (mR_set rfl z1 hR (hR.2.set mW_D (mW_at ha) ?_ oq)) (hS.put z1 oq (Nat.le_add_right B a)) hl
        show H1[B + a]? = some (vp_cell _ _)
        rw [e1]
        rw [vp_cell_i, vp_cell_i, arrV_store]
        congr 2
        funext q
        by_cases hq : q = i.toNatClampNeg
        · subst hq
          simp [updV, upd]
          try rfl
        · simp [updV, upd, hq]
    · cases hq
  · cases hq
def q_last  (len pc : Nat) (lv : List (Nat × Value)) (st : List Value) (h : mh) (k n : Nat) : Option mF := match len, st with
  | 1, .long x :: .int i :: .ref a :: r => (match h[a]? with
    | some (.inl (1, z, .inr (.inl f))) => if i < 0 ∨ z ≤ i.toNatClampNeg then none else some (pc + 1, lv, r, h.set a (.inl (1, z, .inr (.inl (vp_updL f i.toNatClampNeg x)))), k, n)
    | _ => none)
  | _, _ => none
theorem o_last (E : mE p R s m args meth c B D dA M)  {len pc : Nat} {lv : List (Nat × Value)} {st : List Value} {h : mh} {k n : Nat} {f : mF} (hd : decode (mCd M) pc = .ok (.lastore, len)) (hq : q_last  len pc lv st h k n = some f) (hk : mV p l e R s m args below meth c Q B b D dA (mLx M) f) : mV p l e R s m args below meth c Q B b D dA (mLx M) (pc, lv, st, h, k, n) := by
  unfold q_last at hq
  split at hq
  · rename_i x i a r
    split at hq
    · rename_i z f ha
      split at hq
      · cases hq
      · rename_i hc
        cases hq
        intro H locs ls hR hS hl
        refine W.last E.hx E.hb (hR.2 a _ (mW_at ha)) ((E.hK.2 1 _ rfl).1 z (fun j => .long (f j))) (fun q => by cases q) (by show ¬ (i < 0 ∨ (arrV _ _ _).slots.size ≤ _); rw [arrV_size]; exact hc) rfl rfl hd fun H1 e1 z1 oq => ?_
        refine hk H1 _ ls (mR_set rfl z1 hR (hR.2.set mW_D (mW_at ha) ?_ oq)) (hS.put z1 oq (Nat.le_add_right B a)) hl
        show H1[B + a]? = some (vp_cell _ _)
        rw [e1]
        rw [vp_cell_l, vp_cell_l, arrV_store]
        congr 2
        funext q
        by_cases hq : q = i.toNatClampNeg
        · subst hq
          simp [updV, vp_updL]
          try rfl
        · simp [updV, vp_updL, hq]
    · cases hq
  · cases hq
def q_bast  (len pc : Nat) (lv : List (Nat × Value)) (st : List Value) (h : mh) (k n : Nat) : Option mF := match len, st with
  | 1, .int x :: .int i :: .ref a :: r => (match h[a]? with
    | some (.inl (2, z, .inl f)) => if i < 0 ∨ z ≤ i.toNatClampNeg then none else some (pc + 1, lv, r, h.set a (.inl (2, z, .inl (upd f i.toNatClampNeg (vp_nar .boolean x)))), k, n)
    | _ => none)
  | _, _ => none
theorem o_bast (E : mE p R s m args meth c B D dA M)  {len pc : Nat} {lv : List (Nat × Value)} {st : List Value} {h : mh} {k n : Nat} {f : mF} (hd : decode (mCd M) pc = .ok (.bastore, len)) (hq : q_bast  len pc lv st h k n = some f) (hk : mV p l e R s m args below meth c Q B b D dA (mLx M) f) : mV p l e R s m args below meth c Q B b D dA (mLx M) (pc, lv, st, h, k, n) := by
  unfold q_bast at hq
  split at hq
  · rename_i x i a r
    split at hq
    · rename_i z f ha
      split at hq
      · cases hq
      · rename_i hc
        cases hq
        intro H locs ls hR hS hl
        refine W.zast E.hx E.hb (hR.2 a _ (mW_at ha)) ((E.hK.2 2 _ rfl).1 z (fun j => .int (f j))) (fun q => by cases q) (by show ¬ (i < 0 ∨ (arrV _ _ _).slots.size ≤ _); rw [arrV_size]; exact hc) rfl rfl hd fun H1 e1 z1 oq => ?_
        refine hk H1 _ ls (mR_set rfl z1 hR (hR.2.set mW_D (mW_at ha) ?_ oq)) (hS.put z1 oq (Nat.le_add_right B a)) hl
        show H1[B + a]? = some (vp_cell _ _)
        rw [e1]
        rw [vp_cell_i, vp_cell_i, arrV_store]
        congr 2
        funext q
        by_cases hq : q = i.toNatClampNeg
        · subst hq
          simp [updV, upd, vp_nar]
          try rfl
        · simp [updV, upd, hq]
    · cases hq
  · cases hq
def q_aast  (len pc : Nat) (lv : List (Nat × Value)) (st : List Value) (h : mh) (k n : Nat) : Option mF := match len, st with
  | 1, .ref v :: .int i :: .ref a :: r => (match h[a]?, h[v]? with
    | some (.inl (t, z, .inr (.inr (.inr (.inr f))))), some (.inr (ci, vs)) => if (t = 3 ∧ ci = 3) ∨ (t = 4 ∧ ci = 0) then (if i < 0 ∨ z ≤ i.toNatClampNeg then none else some (pc + 1, lv, r, h.set a (.inl (t, z, .inr (.inr (.inr (.inr (va_up f i.toNatClampNeg (some v))))))), k, n)) else none
    | _, _ => none)
  | _, _ => none
theorem o_aast (E : mE p R s m args meth c B D dA M)  {len pc : Nat} {lv : List (Nat × Value)} {st : List Value} {h : mh} {k n : Nat} {f : mF} (hd : decode (mCd M) pc = .ok (.aastore, len)) (hq : q_aast  len pc lv st h k n = some f) (hk : mV p l e R s m args below meth c Q B b D dA (mLx M) f) : mV p l e R s m args below meth c Q B b D dA (mLx M) (pc, lv, st, h, k, n) := by
  unfold q_aast at hq
  split at hq
  · rename_i v i a r
    split at hq
    · rename_i t z f ci vs ha hv
      split at hq
      · rename_i ht
        split at hq
        · cases hq
        · rename_i hc
          cases hq
          intro H locs ls hR hS hl
          have hlt : i.toNatClampNeg < z := Nat.not_le.mp fun q => hc (Or.inr q)
          have h0 : ¬ i < 0 := fun q => hc (Or.inl q)
          have h8 : ci < 8 := by omega
          obtain ⟨r', hr', cellV, g1, g2, g3, -⟩ := hR.2 v _ (mW_at hv)
          have hcls := (E.hK.1 ci _ (cl_at h8)).2
          have hty : (mtys dA)[t]? = some (dA t, .object (cN ci)) := by rcases ht with ⟨rfl, rfl⟩ | ⟨rfl, rfl⟩ <;> rfl
          obtain ⟨kA, comp, k1, k2, k3, -⟩ := (E.hK.2 t _ hty).2
          have hcomp : comp = D.1 ci := Option.some.inj (k3.symm.trans hcls.1)
          subst hcomp
          obtain ⟨kC, hkC, -⟩ := hcls.2
          refine W.aast E.hx E.hb (hR.2 a _ (mW_at ha)) (fun q h => by cases h) (fun h => by cases h) k1 k2 rfl hkC ⟨h0, by show _ < (arrV _ _ _).slots.size; rw [arrV_size]; exact hlt⟩ g1 (fun q h => by rw [g3] at h; cases h) (by rw [g2]; exact hkC) (by rw [g2]; exact va_assign hcls) rfl rfl hd fun H1 e1 z1 oq => ?_
          refine hk H1 _ ls (mR_set rfl z1 hR (hR.2.set mW_D (mW_at ha) ?_ oq)) (hS.put z1 oq (Nat.le_add_right B a)) hl
          show H1[B + a]? = some (vp_cell _ _)
          rw [e1]
          rw [vp_cell_q, vp_cell_q, arrV_store]
          congr 2
          funext q
          by_cases hq : q = i.toNatClampNeg
          · subst hq
            simp [updV, va_up, va_rf, mrf]
          · simp [updV, va_up, hq, mrf]
      · cases hq
    · cases hq
  · cases hq
def q_oini (o i fr lo : Nat) (len pc : Nat) (lv : List (Nat × Value)) (st : List Value) (h : mh) (k n : Nat) : Option mF := match len, st with
  | 3, .ref a :: r => (match koT o i with
    | some _ => if 1 ≤ fr ∧ (r.map fun v => v.category).sum + 12 ≤ lo then some (pc + 3, lv, r, h, k, n) else none
    | none => none)
  | _, _ => none
theorem o_oini (E : mE p R s m args meth c B D dA M) {i : Nat} {len pc : Nat} {lv : List (Nat × Value)} {st : List Value} {h : mh} {k n : Nat} {f : mF} (hd : decode (mCd M) pc = .ok (.invokespecial i, len)) (hq : q_oini (mOw M) i (mFr M) (mLo M) len pc lv st h k n = some f) (hk : mV p l e R s m args below meth c Q B b D dA (mLx M) f) : mV p l e R s m args below meth c Q B b D dA (mLx M) (pc, lv, st, h, k, n) := by
  unfold q_oini at hq
  split at hq
  · rename_i a r
    split at hq
    · rename_i u hu
      split at hq
      · rename_i hc
        cases hq
        intro H locs ls hR hS hl
        exact W.objInit E.hx E.hb E.ho (E.ht (koT_ok hu) rfl) (E.ht tb_oi rfl) (E.ht tb_oc rfl) rfl (by rw [E.hm]; exact hl.1) rfl hd (by rw [E.hr]; exact hc.1) (by rw [E.hr]; show 2 * 0 + ((r.map (mv B b)).map fun v => v.category).sum + 12 ≤ mLo M; rw [cat_mv]; omega) (hk H locs ls hR hS hl)
      · cases hq
    · cases hq
  · cases hq
end MH
end
section
section MN
variable {p : Program} {l : Launch} {e : Env} {R : Room} {s : State} {m : MethodId} {args : Array Value} {below : List Frame} {meth : Method} {c : Code} {Q : State → Prop} {B b : Nat} {D : va_G} {dA : Nat → ClassId} {M : mM}
/-- a new cell at the end -/
theorem mR_push {H H1 : Heap} {h : mh} {x : va_E} (hR : mR B b D dA h H) (z1 : H1.size = H.size + 1) (o1 : ∀ q : Nat, q < H.size → H1[q]? = H[q]?) (e1 : va_at D vwCl (H.size, mcv B b dA x) H1) : mR B b D dA (h ++ [x]) H1 := by
  refine ⟨by rw [z1, hR.1, List.length_append]; show B + h.length + 1 = B + (h.length + 1); omega, ?_⟩
  rw [mW_app, ← hR.1]
  refine va_P.app (hR.2.kept (fun j x hx => o1 x.1 ((hR.2 j x hx).lt))) (fun j x hx => ?_)
  have hz : j < 1 := (List.getElem?_eq_some_iff.mp hx).1
  rw [show j = 0 by omega] at hx
  cases hx
  exact e1
theorem mS_push {H H1 : Heap} {locs : List Loc} {s : State} (hS : va_S (mA B) s.heap H locs) (z1 : H1.size = H.size + 1) (o1 : ∀ q : Nat, q < H.size → H1[q]? = H[q]?) : va_S (mA B) s.heap H1 locs :=
  ⟨Nat.le_trans hS.1 (by omega), fun x h1 h2 => (o1 x (Nat.lt_of_lt_of_le h1 hS.1)).trans (hS.2.1 x h1 h2), hS.2.2⟩
theorem nb_le {N : Nat} {ty : FieldType} (h8 : componentBytes ty ≤ 8) (hN : N ≤ 60000000) : N * componentBytes ty ≤ 536870912 := Nat.le_trans (Nat.mul_le_mul hN h8) (by decide)
def q_newi (ce sl : Nat) (len pc : Nat) (lv : List (Nat × Value)) (st : List Value) (h : mh) (k n : Nat) : Option mF := match len, st with
  | 2, .int i :: r => if i < 0 then none else (if k + 1 ≤ ce ∧ n + i.toNatClampNeg ≤ sl ∧ i.toNatClampNeg ≤ 60000000 then some (pc + 2, lv, .ref h.length :: r, h ++ [.inl (0, i.toNatClampNeg, .inl (fun _ => 0))], k + 1, n + i.toNatClampNeg) else none)
  | _, _ => none
theorem o_newi (E : mE p R s m args meth c B D dA M)  {len pc : Nat} {lv : List (Nat × Value)} {st : List Value} {h : mh} {k n : Nat} {f : mF} (hd : decode (mCd M) pc = .ok (.newarray .int, len)) (hq : q_newi (mCe M) (mSl M) len pc lv st h k n = some f) (hk : mV p l e R s m args below meth c Q B b D dA (mLx M) f) : mV p l e R s m args below meth c Q B b D dA (mLx M) (pc, lv, st, h, k, n) := by
  unfold q_newi at hq
  split at hq
  · rename_i i r
    split at hq
    · cases hq
    · rename_i h0
      split at hq
      · rename_i hc
        cases hq
        intro H locs ls hR hS hl
        have hw0 : (Cond.arrayClass .int).before args s = true := E.ht tb_ci rfl
        refine va_newaK E.hx E.hb (atype := .int) hw0 rfl hd rfl h0 rfl (nb_le (ty := .int) (by decide) hc.2.2) (by rw [E.hr]; exact hc.1) (by rw [E.hr]; exact hc.2.1) rfl fun H1 cA e1 z1 o1 hAr hNm => ?_
        have hcA : cA = dA 0 := by
          have h2 : s.vm.findClass ("[" ++ (FieldType.toString .int)) = some (dA 0) := (E.hK.2 0 _ rfl).2
          exact Option.some.inj (hNm.symm.trans h2)
        subst hcA
        refine W.eq (g2 := F0 m (pc + 2) ls (((Value.ref h.length) :: r).map (mv B b))) (by rw [hR.1]; rfl) ?_
        exact hk H1 locs ls (mR_push hR z1 o1 e1) (mS_push hS z1 o1) hl
      · cases hq
  · cases hq
def q_newl (ce sl : Nat) (len pc : Nat) (lv : List (Nat × Value)) (st : List Value) (h : mh) (k n : Nat) : Option mF := match len, st with
  | 2, .int i :: r => if i < 0 then none else (if k + 1 ≤ ce ∧ n + i.toNatClampNeg ≤ sl ∧ i.toNatClampNeg ≤ 60000000 then some (pc + 2, lv, .ref h.length :: r, h ++ [.inl (1, i.toNatClampNeg, .inr (.inl (fun _ => 0)))], k + 1, n + i.toNatClampNeg) else none)
  | _, _ => none
theorem o_newl (E : mE p R s m args meth c B D dA M)  {len pc : Nat} {lv : List (Nat × Value)} {st : List Value} {h : mh} {k n : Nat} {f : mF} (hd : decode (mCd M) pc = .ok (.newarray .long, len)) (hq : q_newl (mCe M) (mSl M) len pc lv st h k n = some f) (hk : mV p l e R s m args below meth c Q B b D dA (mLx M) f) : mV p l e R s m args below meth c Q B b D dA (mLx M) (pc, lv, st, h, k, n) := by
  unfold q_newl at hq
  split at hq
  · rename_i i r
    split at hq
    · cases hq
    · rename_i h0
      split at hq
      · rename_i hc
        cases hq
        intro H locs ls hR hS hl
        have hw0 : (Cond.arrayClass .long).before args s = true := E.ht tb_cl rfl
        refine va_newaK E.hx E.hb (atype := .long) hw0 rfl hd rfl h0 rfl (nb_le (ty := .long) (by decide) hc.2.2) (by rw [E.hr]; exact hc.1) (by rw [E.hr]; exact hc.2.1) rfl fun H1 cA e1 z1 o1 hAr hNm => ?_
        have hcA : cA = dA 1 := by
          have h2 : s.vm.findClass ("[" ++ (FieldType.toString .long)) = some (dA 1) := (E.hK.2 1 _ rfl).2
          exact Option.some.inj (hNm.symm.trans h2)
        subst hcA
        refine W.eq (g2 := F0 m (pc + 2) ls (((Value.ref h.length) :: r).map (mv B b))) (by rw [hR.1]; rfl) ?_
        exact hk H1 locs ls (mR_push hR z1 o1 e1) (mS_push hS z1 o1) hl
      · cases hq
  · cases hq
def q_newz (ce sl : Nat) (len pc : Nat) (lv : List (Nat × Value)) (st : List Value) (h : mh) (k n : Nat) : Option mF := match len, st with
  | 2, .int i :: r => if i < 0 then none else (if k + 1 ≤ ce ∧ n + i.toNatClampNeg ≤ sl ∧ i.toNatClampNeg ≤ 60000000 then some (pc + 2, lv, .ref h.length :: r, h ++ [.inl (2, i.toNatClampNeg, .inl (fun _ => 0))], k + 1, n + i.toNatClampNeg) else none)
  | _, _ => none
theorem o_newz (E : mE p R s m args meth c B D dA M)  {len pc : Nat} {lv : List (Nat × Value)} {st : List Value} {h : mh} {k n : Nat} {f : mF} (hd : decode (mCd M) pc = .ok (.newarray .boolean, len)) (hq : q_newz (mCe M) (mSl M) len pc lv st h k n = some f) (hk : mV p l e R s m args below meth c Q B b D dA (mLx M) f) : mV p l e R s m args below meth c Q B b D dA (mLx M) (pc, lv, st, h, k, n) := by
  unfold q_newz at hq
  split at hq
  · rename_i i r
    split at hq
    · cases hq
    · rename_i h0
      split at hq
      · rename_i hc
        cases hq
        intro H locs ls hR hS hl
        have hw0 : (Cond.arrayClass .boolean).before args s = true := E.ht tb_cz rfl
        refine va_newaK E.hx E.hb (atype := .boolean) hw0 rfl hd rfl h0 rfl (nb_le (ty := .boolean) (by decide) hc.2.2) (by rw [E.hr]; exact hc.1) (by rw [E.hr]; exact hc.2.1) rfl fun H1 cA e1 z1 o1 hAr hNm => ?_
        have hcA : cA = dA 2 := by
          have h2 : s.vm.findClass ("[" ++ (FieldType.toString .boolean)) = some (dA 2) := (E.hK.2 2 _ rfl).2
          exact Option.some.inj (hNm.symm.trans h2)
        subst hcA
        refine W.eq (g2 := F0 m (pc + 2) ls (((Value.ref h.length) :: r).map (mv B b))) (by rw [hR.1]; rfl) ?_
        exact hk H1 locs ls (mR_push hR z1 o1 e1) (mS_push hS z1 o1) hl
      · cases hq
  · cases hq
def q_anew (o i ce sl : Nat) (len pc : Nat) (lv : List (Nat × Value)) (st : List Value) (h : mh) (k n : Nat) : Option mF := match len, st with
  | 3, .int j :: r => (match kcT o i with
    | some ci => if j < 0 then none else (if k + 1 ≤ ce ∧ n + j.toNatClampNeg ≤ sl ∧ j.toNatClampNeg ≤ 60000000 ∧ (ci = 3 ∨ ci = 0) then some (pc + 3, lv, .ref h.length :: r, h ++ [.inl ((if ci = 3 then 3 else 4), j.toNatClampNeg, .inr (.inr (.inr (.inr (fun _ => none)))))], k + 1, n + j.toNatClampNeg) else none)
    | none => none)
  | _, _ => none
theorem o_anew (E : mE p R s m args meth c B D dA M) {i : Nat} {len pc : Nat} {lv : List (Nat × Value)} {st : List Value} {h : mh} {k n : Nat} {f : mF} (hd : decode (mCd M) pc = .ok (.anewarray i, len)) (hq : q_anew (mOw M) i (mCe M) (mSl M) len pc lv st h k n = some f) (hk : mV p l e R s m args below meth c Q B b D dA (mLx M) f) : mV p l e R s m args below meth c Q B b D dA (mLx M) (pc, lv, st, h, k, n) := by
  unfold q_anew at hq
  split at hq
  · rename_i j r
    split at hq
    · rename_i ci hci
      split at hq
      · cases hq
      · rename_i h0
        split at hq
        · rename_i hc
          cases hq
          intro H locs ls hR hS hl
          obtain ⟨h8, hcl, -, -⟩ := kcT_ok hci
          have hov : (Cond.arrayOver (.object (cN ci))).before args s = true := by
            rcases hc.2.2.2 with rfl | rfl
            · exact va_AO.use E.hn.2.1
            · exact va_AO.use E.hn.2.2
          have hty : (mtys dA)[if ci = 3 then 3 else 4]? = some (dA (if ci = 3 then 3 else 4), .object (cN ci)) := by
            rcases hc.2.2.2 with rfl | rfl <;> rfl
          refine W.anew E.hx E.hb E.ho (E.ht hcl rfl) hov rfl hd rfl h0 (by have := hc.2.2.1; omega) (by rw [E.hr]; exact hc.1) (by rw [E.hr]; exact hc.2.1) fun cA kA comp f1 f2 f3 f4 => ?_
          obtain ⟨kA', comp', -, -, -, hNm⟩ := (E.hK.2 _ _ hty).2
          have hcA : cA = dA (if ci = 3 then 3 else 4) := Option.some.inj (f1.symm.trans hNm)
          subst hcA
          generalize hH1 : H.push ({ cls := dA (if ci = 3 then 3 else 4), slots := Array.replicate j.toNatClampNeg .null, vm := .none } : Cell) = H1
          have z1 : H1.size = H.size + 1 := by rw [← hH1, Array.size_push]
          have e1 : H1[H.size]? = some (arrV (dA (if ci = 3 then 3 else 4)) j.toNatClampNeg (fun _ => .null)) := by rw [← hH1, Array.getElem?_push_size, ← arrV_new]
          have o1 : ∀ q : Nat, q < H.size → H1[q]? = H[q]? := fun q hq => by rw [← hH1, Array.getElem?_push, if_neg (Nat.ne_of_lt hq)]
          refine W.eq (g2 := F0 m (pc + 3) ls (((Value.ref h.length) :: r).map (mv B b))) (by rw [hR.1]; rfl) ?_
          exact hk H1 locs ls (mR_push hR z1 o1 e1) (mS_push hS z1 o1) hl
        · cases hq
    · cases hq
  · cases hq
def dfl (ci : Nat) : List Value := (List.range (cF ci)).map (fun j => defaultValue (cY ci j))
theorem dfl_at {ci j : Nat} (hj : j < cF ci) : defaultValue (cY ci j) = vp_V ((dfl ci).map (mv B b)) j := by
  unfold vp_V dfl
  rw [List.getD_eq_getElem?_getD, List.getElem?_map, List.getElem?_map, List.getElem?_range hj]
  show _ = mv B b (defaultValue (cY ci j))
  cases cY ci j <;> rfl
def q_new (o i ce sl : Nat) (len pc : Nat) (lv : List (Nat × Value)) (st : List Value) (h : mh) (k n : Nat) : Option mF := match len, kcT o i with
  | 3, some ci => if k + 1 ≤ ce ∧ n + cF ci ≤ sl then some (pc + 3, lv, .ref h.length :: st, h ++ [.inr (ci, dfl ci)], k + 1, n + cF ci) else none
  | _, _ => none
theorem o_new (E : mE p R s m args meth c B D dA M) {i : Nat} {len pc : Nat} {lv : List (Nat × Value)} {st : List Value} {h : mh} {k n : Nat} {f : mF} (hd : decode (mCd M) pc = .ok (.new i, len)) (hq : q_new (mOw M) i (mCe M) (mSl M) len pc lv st h k n = some f) (hk : mV p l e R s m args below meth c Q B b D dA (mLx M) f) : mV p l e R s m args below meth c Q B b D dA (mLx M) (pc, lv, st, h, k, n) := by
  unfold q_new at hq
  split at hq
  · rename_i ci hci
    split at hq
    · rename_i hc
      cases hq
      intro H locs ls hR hS hl
      obtain ⟨h8, hcl, hin, hini⟩ := kcT_ok hci
      have hKn := E.hK.1 ci _ (cl_at h8)
      refine W.newcK E.hx E.hb E.ho (E.ht hcl rfl) (E.ht hin rfl) (E.ht hini rfl) rfl hd (by rw [E.hr]; exact hc.1) (by rw [E.hr]; exact hc.2) hKn.2.1 rfl fun H1 kC hkC e1 z1 o1 => ?_
      refine W.eq (g2 := F0 m (pc + 3) ls (((Value.ref h.length) :: st).map (mv B b))) (by rw [hR.1]; rfl) ?_
      exact hk H1 locs ls (mR_push hR z1 o1 ⟨_, cl_at h8, (u_born (cY ci) E.hg (cl_ig h8) hKn hkC e1 (cl_ty h8)).to (fun j hj => dfl_at hj)⟩) (mS_push hS z1 o1) hl
    · cases hq
  · cases hq
def q_acopy (o i fr lo : Nat) (len pc : Nat) (lv : List (Nat × Value)) (st : List Value) (h : mh) (k n : Nat) : Option mF := match len, st with
  | 3, .int q :: .int dp :: .ref a :: .int sp :: .ref a0 :: r => (match kaT o i, h[a0]?, h[a]? with
    | some _, some (.inl (0, n0, .inl u)), some (.inl (0, n1, .inl g)) => if sp < 0 ∨ dp < 0 ∨ q < 0 ∨ n0 < sp.toNatClampNeg + q.toNatClampNeg ∨ n1 < dp.toNatClampNeg + q.toNatClampNeg then none else (if 1 ≤ fr ∧ (r.map fun v => v.category).sum + (nativeFrameWords "java/lang/System" "arraycopy" 5 + 11) ≤ lo then some (pc + 3, lv, r, h.set a (.inl (0, n1, .inl (va_cpy u g sp.toNatClampNeg dp.toNatClampNeg q.toNatClampNeg))), k, n) else none)
    | _, _, _ => none)
  | _, _ => none
theorem o_acopy (E : mE p R s m args meth c B D dA M) {i : Nat} {len pc : Nat} {lv : List (Nat × Value)} {st : List Value} {h : mh} {k n : Nat} {f : mF} (hd : decode (mCd M) pc = .ok (.invokestatic i, len)) (hq : q_acopy (mOw M) i (mFr M) (mLo M) len pc lv st h k n = some f) (hk : mV p l e R s m args below meth c Q B b D dA (mLx M) f) : mV p l e R s m args below meth c Q B b D dA (mLx M) (pc, lv, st, h, k, n) := by
  unfold q_acopy at hq
  split at hq
  · rename_i q dp a sp a0 r
    split at hq
    · rename_i w1 n0 u n1 g hka ha0 ha
      split at hq
      · cases hq
      · rename_i hc
        split at hq
        · rename_i hroom
          cases hq
          intro H locs ls hR hS hl T hT X
          have h1 : ¬ sp < 0 := fun z => hc (Or.inl z)
          have h2 : ¬ dp < 0 := fun z => hc (Or.inr (Or.inl z))
          have h3 : ¬ q < 0 := fun z => hc (Or.inr (Or.inr (Or.inl z)))
          have h4 : sp.toNatClampNeg + q.toNatClampNeg ≤ n0 := Nat.not_lt.mp fun z => hc (Or.inr (Or.inr (Or.inr (Or.inl z))))
          have h5 : dp.toNatClampNeg + q.toNatClampNeg ≤ n1 := Nat.not_lt.mp fun z => hc (Or.inr (Or.inr (Or.inr (Or.inr z))))
          have nn : ∀ z : Int32, ¬ z < 0 → z.toInt = (z.toNatClampNeg : Int) := by
            intro z hz
            have hz0 : (0 : Int) ≤ z.toInt := by
              have := Int32.not_lt.mp hz
              simpa using Int32.le_iff_toInt_le.mp this
            show z.toInt = ((z.toInt.toNat : Nat) : Int)
            omega
          have c0 : H[B + a0]? = some (vp_cell (dA 0) (n0, .inl u)) := hR.2 a0 _ (mW_at ha0)
          have c1 : H[B + a]? = some (vp_cell (dA 0) (n1, .inl g)) := hR.2 a _ (mW_at ha)
          obtain ⟨-, k0, hk0, cm0, hkk0⟩ := (E.hK.2 0 _ rfl).1 n0 (fun j => .int (u j))
          obtain ⟨vm', X', stp⟩ := X.arraycopy E.hx E.ho (E.ht (kaT_ok hka) rfl) (E.ht tb_an rfl) (E.ht tb_as rfl) (E.ht tb_ai rfl) (src := B + a0) (dst := B + a) (cs := vp_cell (dA 0) (n0, .inl u)) (cd := vp_cell (dA 0) (n1, .inl g)) (srcPos := sp) (destPos := dp) (n := q) (by rw [hT]; exact c0) (by rw [hT]; exact c1) (fun _ h => by cases h) (fun _ h => by cases h) (fun h => by cases h) (fun h => by cases h) hk0 hk0 hkk0 hkk0 (by simp [refKind]) h1 h2 h3
            (by rw [nn sp h1, nn q h3]; show ¬ _ > ((arrV (dA 0) n0 (fun j => .int (u j))).slots.size : Int); rw [arrV_size]; omega)
            (by rw [nn dp h2, nn q h3]; show ¬ _ > ((arrV (dA 0) n1 (fun j => .int (g j))).slots.size : Int); rw [arrV_size]; omega)
            (fun vm₁ _ i hi => by
              have e9 : (vp_cell (dA 0) (n0, .inl u)).slots.getD (sp.toNatClampNeg + i) .null = .int (u (sp.toNatClampNeg + i)) := by
                show (arrV (dA 0) n0 (fun j => .int (u j))).slots.getD _ _ = _
                rw [Array.getD_eq_getD_getElem?, arrV_read _ _ (by omega)]
                rfl
              exact ⟨by rw [e9]; rfl, by rw [e9]; trivial⟩)
            (g := F0 m pc ls ((Value.int q :: .int dp :: .ref a :: .int sp :: .ref a0 :: r).map (mv B b))) rfl (by rw [E.hm]; exact hl.1) (rest := r.map (mv B b)) rfl (by rw [E.hb]; exact hd) (by rw [E.hr]; exact hroom.1) (by rw [E.hr]; show 2 * 0 + ((r.map (mv B b)).map fun v => v.category).sum + _ ≤ mLo M; rw [cat_mv]; have := hroom.2; omega)
          rw [show copied (vp_cell (dA 0) (n0, .inl u)) (vp_cell (dA 0) (n1, .inl g)) sp dp q = vp_cell (dA 0) (n1, .inl (va_cpy u g sp.toNatClampNeg dp.toNatClampNeg q.toNatClampNeg)) from va_copied (fun z => .int z) (dA 0) (dA 0) u g h4] at X' stp
          have hlt : B + a < H.size := (Array.getElem?_eq_some_iff.mp c1).1
          generalize hH1 : H.setIfInBounds (B + a) (vp_cell (dA 0) (n1, .inl (va_cpy u g sp.toNatClampNeg dp.toNatClampNeg q.toNatClampNeg))) = H1
          have z1 : H1.size = H.size := by rw [← hH1]; simp
          have oq : ∀ x : Nat, x ≠ B + a → H1[x]? = H[x]? := fun x hx => by rw [← hH1]; simp [Array.getElem?_setIfInBounds, Ne.symm hx]
          have e1 : H1[B + a]? = some (vp_cell (dA 0) (n1, .inl (va_cpy u g sp.toNatClampNeg dp.toNatClampNeg q.toNatClampNeg))) := by rw [← hH1]; simp [Array.getElem?_setIfInBounds, hlt]
          obtain ⟨t, a1, b1⟩ := hk H1 _ ls (mR_set rfl z1 hR (hR.2.set mW_D (mW_at ha) e1 oq)) ⟨by rw [z1]; exact hS.1, fun x g1 g2 => by
              rw [oq x (fun e => g2 (by rw [e]; exact Nat.le_add_right B a))]
              exact hS.2.1 x g1 g2, fun x hx => by
              rcases List.mem_append.mp hx with h | h
              · exact hS.2.2 x h
              · obtain ⟨z, -, hz⟩ := List.mem_map.mp h
                rw [← hz]
                exact Nat.le_add_right B a⟩ hl _ (by rw [← hH1, ← hT]; rfl) X'
          exact ⟨t, stp t a1, b1⟩
        · cases hq
    · cases hq
  · cases hq
theorem mx_if {x y : Int32} : (if x < y then Value.int y else .int x) = .int (if x < y then y else x) := by split <;> rfl
def q_math0 (o i fr lo ce sl : Nat) (len pc : Nat) (lv : List (Nat × Value)) (st : List Value) (h : mh) (k n : Nat) : Option mF := match len, st with
  | 3, .int x :: r => if 1 ≤ fr ∧ (r.map fun v => v.category).sum + 20 ≤ lo ∧ k ≤ ce ∧ n ≤ sl then some (pc + 3, lv, .int (if 0 ≤ x then x else 0 - x) :: r, h, k, n) else none
  | _, _ => none
theorem o_math0 (E : mE p R s m args meth c B D dA M) {i : Nat} {len pc : Nat} {lv : List (Nat × Value)} {st : List Value} {h : mh} {k n : Nat} {f : mF} (hkm : kmT (mOw M) i = some 0) (hd : decode (mCd M) pc = .ok (.invokestatic i, len)) (hq : q_math0 (mOw M) i (mFr M) (mLo M) (mCe M) (mSl M) len pc lv st h k n = some f) (hk : mV p l e R s m args below meth c Q B b D dA (mLx M) f) : mV p l e R s m args below meth c Q B b D dA (mLx M) (pc, lv, st, h, k, n) := by
  unfold q_math0 at hq
  split at hq
  · split at hq
    · rename_i r hc
      cases hq
      intro H locs ls hR hS hl
      exact va_mabs E.hx E.hb (by rw [E.hm]; exact hl.1.symm) E.ho (E.ht (kmT_ok hkm) rfl) (E.ht tb_ms0 rfl) (E.ht tb_mi rfl) (E.ht tb_mc0 rfl) (by rw [E.hr]; exact hc.1) (by rw [E.hr]; show ((r.map (mv B b)).map fun v => v.category).sum + 13 ≤ mLo M; rw [cat_mv]; have := hc.2.1; omega) (by rw [E.hr]; exact hc.2.2.1) (by rw [E.hr]; exact hc.2.2.2) hd (hk H locs ls hR hS hl)
    · cases hq
  · cases hq
def q_math1 (o i fr lo ce sl : Nat) (len pc : Nat) (lv : List (Nat × Value)) (st : List Value) (h : mh) (k n : Nat) : Option mF := match len, st with
  | 3, .long x :: r => if 1 ≤ fr ∧ (r.map fun v => v.category).sum + 20 ≤ lo ∧ k ≤ ce ∧ n ≤ sl then some (pc + 3, lv, .long (if 0 < x then x else -x) :: r, h, k, n) else none
  | _, _ => none
theorem o_math1 (E : mE p R s m args meth c B D dA M) {i : Nat} {len pc : Nat} {lv : List (Nat × Value)} {st : List Value} {h : mh} {k n : Nat} {f : mF} (hkm : kmT (mOw M) i = some 1) (hd : decode (mCd M) pc = .ok (.invokestatic i, len)) (hq : q_math1 (mOw M) i (mFr M) (mLo M) (mCe M) (mSl M) len pc lv st h k n = some f) (hk : mV p l e R s m args below meth c Q B b D dA (mLx M) f) : mV p l e R s m args below meth c Q B b D dA (mLx M) (pc, lv, st, h, k, n) := by
  unfold q_math1 at hq
  split at hq
  · split at hq
    · rename_i r hc
      cases hq
      intro H locs ls hR hS hl
      exact va_mabs_long E.hx E.hb (by rw [E.hm]; exact hl.1.symm) E.ho (E.ht (kmT_ok hkm) rfl) (E.ht tb_ms1 rfl) (E.ht tb_mi rfl) (E.ht tb_mc1 rfl) (by rw [E.hr]; exact hc.1) (by rw [E.hr]; show ((r.map (mv B b)).map fun v => v.category).sum + 13 ≤ mLo M; rw [cat_mv]; have := hc.2.1; omega) (by rw [E.hr]; exact hc.2.2.1) (by rw [E.hr]; exact hc.2.2.2) hd (hk H locs ls hR hS hl)
    · cases hq
  · cases hq
def q_math2 (o i fr lo ce sl : Nat) (len pc : Nat) (lv : List (Nat × Value)) (st : List Value) (h : mh) (k n : Nat) : Option mF := match len, st with
  | 3, .int y :: .int x :: r => if 1 ≤ fr ∧ (r.map fun v => v.category).sum + 20 ≤ lo ∧ k ≤ ce ∧ n ≤ sl then some (pc + 3, lv, .int (if x < y then y else x) :: r, h, k, n) else none
  | _, _ => none
theorem o_math2 (E : mE p R s m args meth c B D dA M) {i : Nat} {len pc : Nat} {lv : List (Nat × Value)} {st : List Value} {h : mh} {k n : Nat} {f : mF} (hkm : kmT (mOw M) i = some 2) (hd : decode (mCd M) pc = .ok (.invokestatic i, len)) (hq : q_math2 (mOw M) i (mFr M) (mLo M) (mCe M) (mSl M) len pc lv st h k n = some f) (hk : mV p l e R s m args below meth c Q B b D dA (mLx M) f) : mV p l e R s m args below meth c Q B b D dA (mLx M) (pc, lv, st, h, k, n) := by
  unfold q_math2 at hq
  split at hq
  · split at hq
    · rename_i r hc
      cases hq
      intro H locs ls hR hS hl
      exact va_mmax E.hx E.hb (by rw [E.hm]; exact hl.1.symm) E.ho (E.ht (kmT_ok hkm) rfl) (E.ht tb_ms2 rfl) (E.ht tb_mi rfl) (E.ht tb_mc2 rfl) (by rw [E.hr]; exact hc.1) (by rw [E.hr]; show ((r.map (mv B b)).map fun v => v.category).sum + 13 ≤ mLo M; rw [cat_mv]; have := hc.2.1; omega) (by rw [E.hr]; exact hc.2.2.1) (by rw [E.hr]; exact hc.2.2.2) hd (hk H locs ls hR hS hl)
    · cases hq
  · cases hq
def q_math3 (o i fr lo ce sl : Nat) (len pc : Nat) (lv : List (Nat × Value)) (st : List Value) (h : mh) (k n : Nat) : Option mF := match len, st with
  | 3, .int y :: .int x :: r => if 1 ≤ fr ∧ (r.map fun v => v.category).sum + 20 ≤ lo ∧ k ≤ ce ∧ n ≤ sl then some (pc + 3, lv, .int (if y < x then y else x) :: r, h, k, n) else none
  | _, _ => none
theorem o_math3 (E : mE p R s m args meth c B D dA M) {i : Nat} {len pc : Nat} {lv : List (Nat × Value)} {st : List Value} {h : mh} {k n : Nat} {f : mF} (hkm : kmT (mOw M) i = some 3) (hd : decode (mCd M) pc = .ok (.invokestatic i, len)) (hq : q_math3 (mOw M) i (mFr M) (mLo M) (mCe M) (mSl M) len pc lv st h k n = some f) (hk : mV p l e R s m args below meth c Q B b D dA (mLx M) f) : mV p l e R s m args below meth c Q B b D dA (mLx M) (pc, lv, st, h, k, n) := by
  unfold q_math3 at hq
  split at hq
  · split at hq
    · rename_i r hc
      cases hq
      intro H locs ls hR hS hl
      exact va_mmin E.hx E.hb (by rw [E.hm]; exact hl.1.symm) E.ho (E.ht (kmT_ok hkm) rfl) (E.ht tb_ms3 rfl) (E.ht tb_mi rfl) (E.ht tb_mc3 rfl) (by rw [E.hr]; exact hc.1) (by rw [E.hr]; show ((r.map (mv B b)).map fun v => v.category).sum + 13 ≤ mLo M; rw [cat_mv]; have := hc.2.1; omega) (by rw [E.hr]; exact hc.2.2.1) (by rw [E.hr]; exact hc.2.2.2) hd (hk H locs ls hR hS hl)
    · cases hq
  · cases hq
def q_stat (o i fr lo ce sl : Nat) (len pc : Nat) (lv : List (Nat × Value)) (st : List Value) (h : mh) (k n : Nat) : Option mF := match kmT o i with
  | some 0 => q_math0 o i fr lo ce sl len pc lv st h k n
  | some 1 => q_math1 o i fr lo ce sl len pc lv st h k n
  | some 2 => q_math2 o i fr lo ce sl len pc lv st h k n
  | some 3 => q_math3 o i fr lo ce sl len pc lv st h k n
  | _ => q_acopy o i fr lo len pc lv st h k n
theorem o_stat (E : mE p R s m args meth c B D dA M) {i : Nat} {len pc : Nat} {lv : List (Nat × Value)} {st : List Value} {h : mh} {k n : Nat} {f : mF} (hd : decode (mCd M) pc = .ok (.invokestatic i, len)) (hq : q_stat (mOw M) i (mFr M) (mLo M) (mCe M) (mSl M) len pc lv st h k n = some f) (hk : mV p l e R s m args below meth c Q B b D dA (mLx M) f) : mV p l e R s m args below meth c Q B b D dA (mLx M) (pc, lv, st, h, k, n) := by
  unfold q_stat at hq
  split at hq
  · rename_i hm
    exact o_math0 E hm hd hq hk
  · rename_i hm
    exact o_math1 E hm hd hq hk
  · rename_i hm
    exact o_math2 E hm hd hq hk
  · rename_i hm
    exact o_math3 E hm hd hq hk
  · exact o_acopy E hd hq hk
end MN
end
section
/-! THE CLAIM OUT OF ONE WALK OF THE LAW'S BODY. Your part is whole_start (and what it stands on); all else here is the same for every law, but numbers. -/
def R_law : String := "HullFoundryLaw"
def lw_P (b : Addr) (xs : List Int32) (args : Array Value) (s : State) : Prop := args = #[.ref b] ∧ s.IntsAt b xs ∧ xs.length ≤ 3072 ∧ (Jvm.Cond.and given_1 narrow_1).before args s = true
def lw_Q (_ : Array Value) (s : State) (o : Outcome) (t : State) : Prop := o = .returned (some (.int 1)) ∧ Framed s o t [] 600000 7302250
def lw_Z (below : List Frame) (a : Array Value) (s : State) : State → Prop := fun t => ∃ o, t.status = .running ∧ Ended t below o ∧ lw_Q a s o t
/-- the law's own end, with 1 on the stack, nothing written that was there before, its room as the claim has it -/
theorem lw_ret {p : Program} {l : Launch} {e : Env} {s : State} {m : MethodId} {below : List Frame} {meth : Method} {c : Code} {b : Nat} (hx : p.tables.exec = Jvm.exec) (hb : c.code = code) (hr : meth.sig.returnType = ret) (hlocks : meth.locks = false) {pc : Nat} {H : Heap} {ls : Array Slot} (hdg : decode code pc = .ok (.ireturn, 1)) : W p l e room_1 s m #[Value.ref b] below meth c H [] 600000 7302250 (lw_Z below #[Value.ref b] s) (F0 m pc ls [.int 1]) := by
  intro T hT X
  obtain ⟨fs, hret, hrun, hended, hW, hframe⟩ := X.leave (v := some (.int 1)) (hlocks := hlocks) (fun h => by rw [hr] at h; cases h)
  have hmeth' : T.vm.method? m = some meth := X.method'
  refine ⟨T.setFrames fs, ?_, .returned (some (.int 1)), hrun, hended, rfl, ⟨_, rfl⟩, hW, hframe⟩
  jvm_step X.here [X.here.top, hx, hb, hdg, hmeth', hr, ret, narrow_b1]
  (try refine ⟨rfl, ?_⟩); (try refine ⟨rfl, ?_⟩)
  first | (intro acts; rw [hret _ acts rfl rfl rfl]) | rw [hret _ _ rfl rfl rfl]
  exact Steps.refl _
/-- what holds at the law's entry: the machine, the code, the tables' words (any of lw_tbl by 'hts w (by decide +kernel)'), the script of L ints xs at the cell b, what the Statement gives of the start (any of its parts by flat_of_before) -/
def lw_At (p : Program) (s : State) (m : MethodId) (meth : Method) (c : Code) (b L : Nat) (xs : Nat → Int32) : Prop :=
  p.tables.exec = Jvm.exec ∧ c.code = code ∧ meth.sig.returnType = ret ∧ c.maxLocals = 4 ∧ s.vm.findClass R_law = some m.cls ∧ (∀ w ∈ lw_tbl, w.before #[Value.ref b] s = true) ∧ va_X b L xs s s.heap ∧ b < s.heap.size ∧ meth.locks = false ∧ (Jvm.Cond.and given_1 narrow_1).before #[Value.ref b] s = true

def mins (M : mM) (ins : Instr) (len pc : Nat) (lv : List (Nat × Value)) (st : List Value) (h : mh) (k n : Nat) : Option mF := match ins with
  | .iadd => q_iadd  len pc lv st h k n
  | .isub => q_isub  len pc lv st h k n
  | .imul => q_imul  len pc lv st h k n
  | .iand => q_iand  len pc lv st h k n
  | .ior => q_ior  len pc lv st h k n
  | .ishl => q_ishl  len pc lv st h k n
  | .ishr => q_ishr  len pc lv st h k n
  | .idiv => q_idiv  len pc lv st h k n
  | .irem => q_irem  len pc lv st h k n
  | .ladd => q_ladd  len pc lv st h k n
  | .lsub => q_lsub  len pc lv st h k n
  | .lmul => q_lmul  len pc lv st h k n
  | .ldiv => q_ldiv  len pc lv st h k n
  | .lrem => q_lrem  len pc lv st h k n
  | .ineg => q_ineg  len pc lv st h k n
  | .lneg => q_lneg  len pc lv st h k n
  | .i2l => q_i2l  len pc lv st h k n
  | .l2i => q_l2i  len pc lv st h k n
  | .lcmp => q_lcmp  len pc lv st h k n
  | .dup => q_dup  len pc lv st h k n
  | .pop => q_pop  len pc lv st h k n
  | .dup2 => q_dup2  len pc lv st h k n
  | .iconst i => q_iconst i len pc lv st h k n
  | .bipush i => q_bipush i len pc lv st h k n
  | .sipush i => q_sipush i len pc lv st h k n
  | .lconst i => q_lconst i len pc lv st h k n
  | .iload i => q_iload i len pc lv st h k n
  | .iload_n i => q_iload_n i len pc lv st h k n
  | .lload i => q_lload i len pc lv st h k n
  | .lload_n i => q_lload_n i len pc lv st h k n
  | .aload i => q_aload i len pc lv st h k n
  | .aload_n i => q_aload_n i len pc lv st h k n
  | .istore i => q_istore i (mLx M) len pc lv st h k n
  | .istore_n i => q_istore_n i (mLx M) len pc lv st h k n
  | .lstore i => q_lstore i (mLx M) len pc lv st h k n
  | .lstore_n i => q_lstore_n i (mLx M) len pc lv st h k n
  | .astore i => q_astore i (mLx M) len pc lv st h k n
  | .astore_n i => q_astore_n i (mLx M) len pc lv st h k n
  | .iinc i d => q_iinc i d (mLx M) len pc lv st h k n
  | .ifCond .eq d => q_if_eq d len pc lv st h k n
  | .if_icmp .eq d => q_icmp_eq d len pc lv st h k n
  | .ifCond .ne d => q_if_ne d len pc lv st h k n
  | .if_icmp .ne d => q_icmp_ne d len pc lv st h k n
  | .ifCond .lt d => q_if_lt d len pc lv st h k n
  | .if_icmp .lt d => q_icmp_lt d len pc lv st h k n
  | .ifCond .ge d => q_if_ge d len pc lv st h k n
  | .if_icmp .ge d => q_icmp_ge d len pc lv st h k n
  | .ifCond .gt d => q_if_gt d len pc lv st h k n
  | .if_icmp .gt d => q_icmp_gt d len pc lv st h k n
  | .ifCond .le d => q_if_le d len pc lv st h k n
  | .if_icmp .le d => q_icmp_le d len pc lv st h k n
  | .goto d => q_goto d len pc lv st h k n
  | .tableswitch df lo hi offs => q_tabsw df lo hi offs len pc lv st h k n
  | .ldc i => q_ldc (mOw M) i len pc lv st h k n
  | .ldc_w i => q_ldc_w (mOw M) i len pc lv st h k n
  | .ldc2_w i => q_ldc2 (mOw M) i len pc lv st h k n
  | .getfield i => q_getf (mOw M) i len pc lv st h k n
  | .putfield i => q_putf (mOw M) i (mIn M) len pc lv st h k n
  | .iaload => q_iald  len pc lv st h k n
  | .laload => q_lald  len pc lv st h k n
  | .baload => q_bald  len pc lv st h k n
  | .aaload => q_aald  len pc lv st h k n
  | .arraylength => q_alen  len pc lv st h k n
  | .iastore => q_iast  len pc lv st h k n
  | .lastore => q_last  len pc lv st h k n
  | .bastore => q_bast  len pc lv st h k n
  | .aastore => q_aast  len pc lv st h k n
  | .invokespecial i => q_oini (mOw M) i (mFr M) (mLo M) len pc lv st h k n
  | .newarray .int => q_newi (mCe M) (mSl M) len pc lv st h k n
  | .newarray .long => q_newl (mCe M) (mSl M) len pc lv st h k n
  | .newarray .boolean => q_newz (mCe M) (mSl M) len pc lv st h k n
  | .anewarray i => q_anew (mOw M) i (mCe M) (mSl M) len pc lv st h k n
  | .new i => q_new (mOw M) i (mCe M) (mSl M) len pc lv st h k n
  | .invokestatic i => q_stat (mOw M) i (mFr M) (mLo M) (mCe M) (mSl M) len pc lv st h k n
  | _ => none
section MS
variable {p : Program} {l : Launch} {e : Env} {R : Room} {s : State} {m : MethodId} {args : Array Value} {below : List Frame} {meth : Method} {c : Code} {Q : State → Prop} {B b : Nat} {D : va_G} {dA : Nat → ClassId} {M : mM}
theorem mins_ok (E : mE p R s m args meth c B D dA M) {ins : Instr} {len pc : Nat} {lv : List (Nat × Value)} {st : List Value} {h : mh} {k n : Nat} {f : mF} (hd : decode (mCd M) pc = .ok (ins, len)) (hq : mins M ins len pc lv st h k n = some f) (hk : mV p l e R s m args below meth c Q B b D dA (mLx M) f) : mV p l e R s m args below meth c Q B b D dA (mLx M) (pc, lv, st, h, k, n) := by
  unfold mins at hq
  split at hq
  · exact o_iadd E hd hq hk
  · exact o_isub E hd hq hk
  · exact o_imul E hd hq hk
  · exact o_iand E hd hq hk
  · exact o_ior E hd hq hk
  · exact o_ishl E hd hq hk
  · exact o_ishr E hd hq hk
  · exact o_idiv E hd hq hk
  · exact o_irem E hd hq hk
  · exact o_ladd E hd hq hk
  · exact o_lsub E hd hq hk
  · exact o_lmul E hd hq hk
  · exact o_ldiv E hd hq hk
  · exact o_lrem E hd hq hk
  · exact o_ineg E hd hq hk
  · exact o_lneg E hd hq hk
  · exact o_i2l E hd hq hk
  · exact o_l2i E hd hq hk
  · exact o_lcmp E hd hq hk
  · exact o_dup E hd hq hk
  · exact o_pop E hd hq hk
  · exact o_dup2 E hd hq hk
  · exact o_iconst E hd hq hk
  · exact o_bipush E hd hq hk
  · exact o_sipush E hd hq hk
  · exact o_lconst E hd hq hk
  · exact o_iload E hd hq hk
  · exact o_iload_n E hd hq hk
  · exact o_lload E hd hq hk
  · exact o_lload_n E hd hq hk
  · exact o_aload E hd hq hk
  · exact o_aload_n E hd hq hk
  · exact o_istore E hd hq hk
  · exact o_istore_n E hd hq hk
  · exact o_lstore E hd hq hk
  · exact o_lstore_n E hd hq hk
  · exact o_astore E hd hq hk
  · exact o_astore_n E hd hq hk
  · exact o_iinc E hd hq hk
  · exact o_if_eq E hd hq hk
  · exact o_icmp_eq E hd hq hk
  · exact o_if_ne E hd hq hk
  · exact o_icmp_ne E hd hq hk
  · exact o_if_lt E hd hq hk
  · exact o_icmp_lt E hd hq hk
  · exact o_if_ge E hd hq hk
  · exact o_icmp_ge E hd hq hk
  · exact o_if_gt E hd hq hk
  · exact o_icmp_gt E hd hq hk
  · exact o_if_le E hd hq hk
  · exact o_icmp_le E hd hq hk
  · exact o_goto E hd hq hk
  · exact o_tabsw E hd hq hk
  · exact o_ldc E hd hq hk
  · exact o_ldc_w E hd hq hk
  · exact o_ldc2 E hd hq hk
  · exact o_getf E hd hq hk
  · exact o_putf E hd hq hk
  · exact o_iald E hd hq hk
  · exact o_lald E hd hq hk
  · exact o_bald E hd hq hk
  · exact o_aald E hd hq hk
  · exact o_alen E hd hq hk
  · exact o_iast E hd hq hk
  · exact o_last E hd hq hk
  · exact o_bast E hd hq hk
  · exact o_aast E hd hq hk
  · exact o_oini E hd hq hk
  · exact o_newi E hd hq hk
  · exact o_newl E hd hq hk
  · exact o_newz E hd hq hk
  · exact o_anew E hd hq hk
  · exact o_new E hd hq hk
  · exact o_stat E hd hq hk
  · cases hq
/-- the decode rows of a method, in one -/
def mOd (M : mM) : Prop := ∀ q ∈ mTb M, decode (mCd M) q.1 = .ok q.2
theorem mOd.get (h : mOd M) {pc : Nat} {x : Instr × Nat} (hx : asc (mTb M) pc = some x) : decode (mCd M) pc = .ok x := by
  have h2 := h (pc, x) (asc_mem hx)
  exact h2
def mst (M : mM) (f : mF) : Option mF := match asc (mTb M) f.1 with
  | some (ins, len) => mins M ins len f.1 f.2.1 f.2.2.1 f.2.2.2.1 f.2.2.2.2.1 f.2.2.2.2.2
  | none => none
def mrun (M : mM) : Nat → mF → Option mF
  | 0, f => some f
  | n + 1, f => match mst M f with
    | some g => mrun M n g
    | none => none
theorem mst_ok (E : mE p R s m args meth c B D dA M) (hod : mOd M) {f g : mF} (hq : mst M f = some g) (hk : mV p l e R s m args below meth c Q B b D dA (mLx M) g) : mV p l e R s m args below meth c Q B b D dA (mLx M) f := by
  unfold mst at hq
  split at hq
  · rename_i ins len hx
    exact mins_ok E (hod.get hx) hq hk
  · cases hq
theorem mrun_ok (E : mE p R s m args meth c B D dA M) (hod : mOd M) : ∀ (n : Nat) {f g : mF}, mrun M n f = some g → mV p l e R s m args below meth c Q B b D dA (mLx M) g → mV p l e R s m args below meth c Q B b D dA (mLx M) f
  | 0, f, g, hq, hk => by cases hq; exact hk
  | n + 1, f, g, hq, hk => by
    unfold mrun at hq
    split at hq
    · rename_i f1 h1
      exact mst_ok E hod h1 (mrun_ok E hod n hq hk)
    · cases hq
end MS
end
section
section MS
variable {p : Program} {l : Launch} {e : Env} {R : Room} {s : State} {m : MethodId} {args : Array Value} {below : List Frame} {meth : Method} {c : Code} {Q : State → Prop} {B b : Nat} {D : va_G} {dA : Nat → ClassId} {M : mM}
/-- what a method must be, to be called -/
def mOK (M : mM) : Prop := plainName (mNm M).cls = true ∧ Cond.code (mNm M) (mCd M) (mLx M) (mRt M) ∈ lw_tbl ∧ (mNm M).cls = cN (mOw M) ∧ ((mNm M).cls ≠ "java/lang/invoke/MethodHandle" ∧ (mNm M).cls ≠ "java/lang/invoke/VarHandle") ∧ (parseMethodDescriptor (mNm M).desc).map (fun d => d.parameters.length) = some (mAr M) ∧ (mIn M = true → (mNm M).name = "<init>")
def mws (M : mM) : List Cond := Cond.code (mNm M) (mCd M) (mLx M) (mRt M) :: lw_g
theorem gin {ws : List Cond} (h : ∀ w ∈ ws, w ∈ lw_g) : GoodIn lw_g ws := fun w hw => ⟨h w hw, good_of_word (List.mem_filter.mp (h w hw)).2⟩
theorem mws_in (ok : mOK M) : ∀ w ∈ mws M, w ∈ lw_g := fun w hw => by
  rcases List.mem_cons.mp hw with rfl | h
  · exact lg_in ok.2.1 rfl
  · exact h
def mQ (B b : Nat) (D : va_G) (dA : Nat → ClassId) (o : mh × Option Value) : Array Value → State → Outcome → State → Prop := fun _ st oc t => oc = .returned (o.2.map (mv B b)) ∧ mR B b D dA o.1 t.heap ∧ va_F (mA B) st t
def mPc (B b : Nat) (D : va_G) (dA : Nat → ClassId) (a : List Value) (h : mh) : Array Value → State → Prop := va_Pc (a.map (mv B b)) (fun U => mR B b D dA h U.heap ∧ B ≤ U.heap.size ∧ va_K D vwCl (mtys dA) U ∧ mNs U)
/-- THE CONTRACT: called with a over the cells h, the method returns with o's cells and o's answer -/
def mC (M : mM) (a : List Value) (h : mh) (o : mh × Option Value) : Prop := ∀ (l : Launch) (B b : Nat) (D : va_G) (dA : Nat → ClassId), Met l (mNm M) (mws M) (mRm M) (mPc B b D dA a h) (mQ B b D dA o) (mCe M) (mSl M) (mA B)
theorem mPc_blind {a : List Value} {h : mh} : FrameBlind (mPc B b D dA a h) := fun x U g mk q => by
  obtain ⟨q0, q1, q2, q3, q4⟩ := q
  exact ⟨q0, q1, q2, va_K.moved (u := U) (U := U.calling g mk x) (Vm.Alike.refl U.vm) q3, mNs.same (s := U) (U := U.calling g mk x) rfl q4⟩
/-- behind a call -/
theorem mV_back {mc ms pc : Nat} {lv : List (Nat × Value)} {st rest : List Value} {k n : Nat} {o : mh × Option Value} {aa : Array Value} {H : Heap} {locs : List Loc} {ls : Array Slot} (hS : va_S (mA B) s.heap H locs) (hl : lv_has ls (mLx M) (lv.map (mg B b))) (hrun : va_Run p l e R s m args below meth c H locs k n mc ms (F0 m pc ls (st.map (mv B b))) (rest.map (mv B b)) (mQ B b D dA o aa) (mA B)) (hk : mV p l e R s m args below meth c Q B b D dA (mLx M) (pc + 3, lv, o.2.toList ++ rest, o.1, k + mc, n + ms)) : W p l e R s m args below meth c H locs k n Q (F0 m pc ls (st.map (mv B b))) := by
  intro T hT X
  obtain ⟨v, st₀, t, T', L, h0, X', hL, e1, e2, ⟨hv, hR1, hz, hkp⟩, stp⟩ := hrun T hT X
  cases hv
  rw [h0] at hz hkp
  have hS1 : va_S (mA B) s.heap T'.heap (locs ++ L) := ⟨Nat.le_trans hS.1 (by rw [e1]; exact hz), fun q h1 h2 => by rw [e1, hkp q (Nat.lt_of_lt_of_le h1 hS.1) h2]; exact hS.2.1 q h1 h2, fun q hq => by
    rcases List.mem_append.mp hq with h | h
    · exact hS.2.2 q h
    · exact hL q h⟩
  obtain ⟨t2, a1, b1⟩ := hk T'.heap (locs ++ L) ls (by rw [e1]; exact hR1) hS1 hl T' rfl X'
  refine ⟨t2, stp t2 ?_, b1⟩
  have e5 : (o.2.map (mv B b)).toList ++ rest.map (mv B b) = (o.2.toList ++ rest).map (mv B b) := by cases o.2 <;> rfl
  rw [e5]
  exact a1
theorem mPc_at {H : Heap} {locs : List Loc} {a : List Value} {h : mh} (E : mE p R s m args meth c B D dA M) (hS : va_S (mA B) s.heap H locs) (hR : mR B b D dA h H) {U : State} (hU : U.heap = H) (hW : s.WarmedH U.vm) : mPc B b D dA a h (a.map (mv B b)).toArray U :=
  ⟨rfl, by rw [hU]; exact hR, by rw [hU]; exact Nat.le_trans E.hz hS.1, va_K.moved hW.alike E.hK, mNs.warm hW E.hn⟩
def mRo (M M2 : mM) (k n : Nat) (rest : List Value) : Bool := decide (mFr M2 + 1 ≤ mFr M) && decide (8 + (mLx M2 + 11) + mLo M2 ≤ mLo M) && decide (k + mCe M2 ≤ mCe M) && decide (n + mSl M2 ≤ mSl M) && decide ((rest.map fun v => v.category).sum ≤ 8)
theorem mRo_ok {M2 : mM} {k n : Nat} {rest : List Value} (h : mRo M M2 k n rest = true) : mFr M2 + 1 ≤ mFr M ∧ 8 + (mLx M2 + 11) + mLo M2 ≤ mLo M ∧ k + mCe M2 ≤ mCe M ∧ n + mSl M2 ≤ mSl M ∧ (rest.map fun v => v.category).sum ≤ 8 := by
  unfold mRo at h
  simp only [Bool.and_eq_true, decide_eq_true_eq] at h
  exact ⟨h.1.1.1.1, h.1.1.1.2, h.1.1.2, h.1.2, h.2⟩
/-- calls: by a link of the class's own -/
def mLV (o i : Nat) (M2 : mM) : Prop := Cond.methodLink (cN o) i (mNm M2) ∈ lw_tbl ∧ Cond.instanceMethod (mNm M2) ∈ lw_tbl ∧ Cond.selects (cN (mOw M2)) (mNm M2) (mNm M2) ∈ lw_tbl ∧ Cond.initialized (cN (mOw M2)) ∈ lw_tbl ∧ mOw M2 < 8
def mLS (o i : Nat) (M2 : mM) : Prop := Cond.methodLink (cN o) i (mNm M2) ∈ lw_tbl ∧ Cond.static (mNm M2) ∈ lw_tbl ∧ Cond.initialized (cN (mOw M2)) ∈ lw_tbl
def mLI (o i : Nat) (M2 : mM) : Prop := Cond.methodLink (cN o) i (mNm M2) ∈ lw_tbl ∧ Cond.instanceMethod (mNm M2) ∈ lw_tbl ∧ Cond.initialized (cN (mOw M2)) ∈ lw_tbl ∧ mIn M2 = true ∧ mRt M2 = none
def mNS (o i : Nat) (M2 : mM) : Prop := (∃ x, (o, i, mNm M2, x) ∈ nT) ∧ Cond.static (mNm M2) ∈ lw_tbl ∧ Cond.initialized (cN (mOw M2)) ∈ lw_tbl
def mNI (o i : Nat) (M2 : mM) : Prop := (∃ x, (o, i, mNm M2, x) ∈ nT) ∧ Cond.instanceMethod (mNm M2) ∈ lw_tbl ∧ Cond.initialized (cN (mOw M2)) ∈ lw_tbl ∧ mIn M2 = true ∧ mRt M2 = none
variable {M2 : mM} {i pc : Nat} {lv : List (Nat × Value)} {st rest as : List Value} {h : mh} {k n a : Nat} {o : mh × Option Value} {fs : List Value}
theorem mCB (E : mE p R s m args meth c B D dA M) (ok2 : mOK M2) (hl : Cond.methodLink (cN (mOw M)) i (mNm M2) ∈ lw_tbl) (hi : Cond.initialized (cN (mOw M2)) ∈ lw_tbl) (hr : mFr M2 + 1 ≤ mFr M ∧ 8 + (mLx M2 + 11) + mLo M2 ≤ mLo M) : CallB R s args (cN (mOw M)) i (mNm M2) (mCd M2) (mLx M2) (mRt M2) (mws M2) (mRm M2) (mCe M2) (mSl M2) (mAr M2) :=
  callB_of (mAr M2) E.hg (gin (mws_in ok2)) rfl rfl rfl (by rw [ok2.2.2.1]; exact E.ht hi rfl) (E.ht hl rfl) ⟨ok2.2.2.2.1.1, ok2.2.2.2.1.2, ok2.2.2.2.2.1⟩ (by rw [E.hr]; exact hr)
theorem mCN (E : mE p R s m args meth c B D dA M) (ok2 : mOK M2) (hl : ∃ x, (mOw M, i, mNm M2, x) ∈ nT) (hi : Cond.initialized (cN (mOw M2)) ∈ lw_tbl) (hr : mFr M2 + 1 ≤ mFr M ∧ 8 + (mLx M2 + 11) + mLo M2 ≤ mLo M) : ∃ x, va_CN R s args (cN (mOw M)) i (mNm M2) x (mCd M2) (mLx M2) (mRt M2) (mws M2) (mRm M2) (mCe M2) (mSl M2) (mAr M2) := by
  obtain ⟨x, hx⟩ := hl
  exact ⟨x, va_cnB (mAr M2) E.hg (gin (mws_in ok2)) rfl rfl rfl (E.hn.1 _ hx) (by rw [ok2.2.2.1]; exact E.ht hi rfl) ⟨ok2.2.2.2.1.1, ok2.2.2.2.1.2, ok2.2.2.2.2.1⟩ (by rw [E.hr]; exact hr)⟩
theorem mV_callV (E : mE p R s m args meth c B D dA M) (ok2 : mOK M2) (hl : mLV (mOw M) i M2) (hd : decode (mCd M) pc = .ok (.invokevirtual i, 3)) (hC : mC M2 (.ref a :: as) h o) (ha : h[a]? = some (.inr (mOw M2, fs))) (hn : as.length = mAr M2) (hro : mRo M M2 k n rest = true) (hst : st = as.reverse ++ .ref a :: rest) (hk : mV p l e R s m args below meth c Q B b D dA (mLx M) (pc + 3, lv, o.2.toList ++ rest, o.1, k + mCe M2, n + mSl M2)) : mV p l e R s m args below meth c Q B b D dA (mLx M) (pc, lv, st, h, k, n) := by
  subst hst
  obtain ⟨r1, r2, r3, r4, r5⟩ := mRo_ok hro
  intro H locs ls hR hS hv
  refine mV_back hS hv (va_runV (As := as.map (mv B b)) (b := B + a) (C := cN (mOw M2)) ⟨E.hx, E.hb, E.hm, E.ho, E.hg⟩ (hC l B b D dA) ⟨mCB E ok2 hl.1 hl.2.2.2.1 ⟨r1, r2⟩, E.ht hl.2.1 rfl, E.ht hl.2.2.1 rfl⟩ ⟨mPc_blind, va_recv E.hK hR.2 (cl_at hl.2.2.2.2) (mW_at ha), fun U hU hW => mPc_at E hS hR hU hW⟩ rfl (by rw [List.length_map]; exact hn) hv.1 ?_ ?_ hd ⟨by rw [E.hr]; exact r3, by rw [E.hr]; exact r4⟩) hk
  · show List.map _ _ = _
    rw [List.map_append, List.map_reverse]
    rfl
  · exact lv_room (by rw [cat_mv]; exact r5)
theorem mV_callS (E : mE p R s m args meth c B D dA M) (ok2 : mOK M2) (hl : mLS (mOw M) i M2) (hd : decode (mCd M) pc = .ok (.invokestatic i, 3)) (hC : mC M2 as h o) (hn : as.length = mAr M2) (hro : mRo M M2 k n rest = true) (hst : st = as.reverse ++ rest) (hk : mV p l e R s m args below meth c Q B b D dA (mLx M) (pc + 3, lv, o.2.toList ++ rest, o.1, k + mCe M2, n + mSl M2)) : mV p l e R s m args below meth c Q B b D dA (mLx M) (pc, lv, st, h, k, n) := by
  subst hst
  obtain ⟨r1, r2, r3, r4, r5⟩ := mRo_ok hro
  intro H locs ls hR hS hv
  refine mV_back hS hv (va_runS (As := as.map (mv B b)) ⟨E.hx, E.hb, E.hm, E.ho, E.hg⟩ (hC l B b D dA) ⟨mCB E ok2 hl.1 hl.2.2 ⟨r1, r2⟩, E.ht hl.2.1 rfl⟩ ⟨mPc_blind, fun U hU hW => mPc_at E hS hR hU hW⟩ rfl (by rw [List.length_map]; exact hn) hv.1 ?_ ?_ hd ⟨by rw [E.hr]; exact r3, by rw [E.hr]; exact r4⟩) hk
  · show List.map _ _ = _
    rw [List.map_append, List.map_reverse]
  · exact lv_room (by rw [cat_mv]; exact r5)
theorem mV_callI (E : mE p R s m args meth c B D dA M) (ok2 : mOK M2) (hl : mLI (mOw M) i M2) (hd : decode (mCd M) pc = .ok (.invokespecial i, 3)) (hC : mC M2 (.ref a :: as) h o) (hn : as.length = mAr M2) (hro : mRo M M2 k n rest = true) (hst : st = as.reverse ++ .ref a :: rest) (hk : mV p l e R s m args below meth c Q B b D dA (mLx M) (pc + 3, lv, o.2.toList ++ rest, o.1, k + mCe M2, n + mSl M2)) : mV p l e R s m args below meth c Q B b D dA (mLx M) (pc, lv, st, h, k, n) := by
  subst hst
  obtain ⟨r1, r2, r3, r4, r5⟩ := mRo_ok hro
  intro H locs ls hR hS hv
  have hcb := mCB E ok2 hl.1 hl.2.2.1 ⟨r1, r2⟩
  rw [hl.2.2.2.2] at hcb
  refine mV_back hS hv (va_runI (As := as.map (mv B b)) (b := B + a) ⟨E.hx, E.hb, E.hm, E.ho, E.hg⟩ (hC l B b D dA) ⟨hcb, ok2.2.2.2.2.2 hl.2.2.2.1, E.ht hl.2.1 rfl⟩ ⟨mPc_blind, fun U hU hW => mPc_at (a := .ref a :: as) E hS hR hU hW⟩ rfl (by rw [List.length_map]; exact hn) hv.1 ?_ ?_ hd ⟨by rw [E.hr]; exact r3, by rw [E.hr]; exact r4⟩) hk
  · show List.map _ _ = _
    rw [List.map_append, List.map_reverse]
    rfl
  · exact lv_room (by rw [cat_mv]; exact r5)
theorem mV_callNS (E : mE p R s m args meth c B D dA M) (ok2 : mOK M2) (hl : mNS (mOw M) i M2) (hd : decode (mCd M) pc = .ok (.invokestatic i, 3)) (hC : mC M2 as h o) (hn : as.length = mAr M2) (hro : mRo M M2 k n rest = true) (hst : st = as.reverse ++ rest) (hk : mV p l e R s m args below meth c Q B b D dA (mLx M) (pc + 3, lv, o.2.toList ++ rest, o.1, k + mCe M2, n + mSl M2)) : mV p l e R s m args below meth c Q B b D dA (mLx M) (pc, lv, st, h, k, n) := by
  subst hst
  obtain ⟨r1, r2, r3, r4, r5⟩ := mRo_ok hro
  intro H locs ls hR hS hv
  obtain ⟨x, hcn⟩ := mCN E ok2 hl.1 hl.2.2 ⟨r1, r2⟩
  refine mV_back hS hv (va_runSN (As := as.map (mv B b)) ⟨E.hx, E.hb, E.hm, E.ho, E.hg⟩ (hC l B b D dA) ⟨hcn, E.ht hl.2.1 rfl, trivial⟩ ⟨mPc_blind, fun U hU hW => mPc_at E hS hR hU hW⟩ rfl (by rw [List.length_map]; exact hn) hv.1 ?_ ?_ hd ⟨by rw [E.hr]; exact r3, by rw [E.hr]; exact r4⟩) hk
  · show List.map _ _ = _
    rw [List.map_append, List.map_reverse]
  · exact lv_room (by rw [cat_mv]; exact r5)
theorem mV_callNI (E : mE p R s m args meth c B D dA M) (ok2 : mOK M2) (hl : mNI (mOw M) i M2) (hd : decode (mCd M) pc = .ok (.invokespecial i, 3)) (hC : mC M2 (.ref a :: as) h o) (hn : as.length = mAr M2) (hro : mRo M M2 k n rest = true) (hst : st = as.reverse ++ .ref a :: rest) (hk : mV p l e R s m args below meth c Q B b D dA (mLx M) (pc + 3, lv, o.2.toList ++ rest, o.1, k + mCe M2, n + mSl M2)) : mV p l e R s m args below meth c Q B b D dA (mLx M) (pc, lv, st, h, k, n) := by
  subst hst
  obtain ⟨r1, r2, r3, r4, r5⟩ := mRo_ok hro
  intro H locs ls hR hS hv
  obtain ⟨x, hcn⟩ := mCN E ok2 hl.1 hl.2.2.1 ⟨r1, r2⟩
  rw [hl.2.2.2.2] at hcn
  refine mV_back hS hv (va_runIN (As := as.map (mv B b)) (b := B + a) ⟨E.hx, E.hb, E.hm, E.ho, E.hg⟩ (hC l B b D dA) ⟨hcn, ok2.2.2.2.2.2 hl.2.2.2.1, E.ht hl.2.1 rfl⟩ ⟨mPc_blind, fun U hU hW => mPc_at (a := .ref a :: as) E hS hR hU hW⟩ rfl (by rw [List.length_map]; exact hn) hv.1 ?_ ?_ hd ⟨by rw [E.hr]; exact r3, by rw [E.hr]; exact r4⟩) hk
  · show List.map _ _ = _
    rw [List.map_append, List.map_reverse]
    rfl
  · exact lv_room (by rw [cat_mv]; exact r5)
end MS
end
section
/-- what is asked at the end, with the machine's own names around it -/
abbrev mG : Type := Program → Launch → Env → State → MethodId → Array Value → List Frame → Method → Code → Nat → Nat → va_G → (Nat → ClassId) → (State → Prop) → Prop
def mB (Γ : mG) (M : mM) (f : mF) : Prop := ∀ (p : Program) (l : Launch) (e : Env) (R : Room) (s : State) (m : MethodId) (args : Array Value) (below : List Frame) (meth : Method) (c : Code) (B b : Nat) (D : va_G) (dA : Nat → ClassId) (Q : State → Prop), Γ p l e s m args below meth c B b D dA Q → mE p R s m args meth c B D dA M → mV p l e R s m args below meth c Q B b D dA (mLx M) f
/-- a method's end: these cells, this answer -/
def gO (M : mM) (o : mh × Option Value) : mG := fun _ _ _ s _ args below meth _ B b D dA Q => Q = MQ below (mQ B b D dA o) args s (mCe M) (mSl M) (mA B) ∧ meth.sig.returnType = mRt M ∧ meth.locks = false
section MB
variable {Γ : mG} {M M2 : mM} {i pc : Nat} {lv : List (Nat × Value)} {st rest as : List Value} {h : mh} {k n a : Nat} {o : mh × Option Value} {fs : List Value} {f g : mF}
theorem mB_run (hod : mOd M) (j : Nat) (hq : mrun M j f = some g) (hk : mB Γ M g) : mB Γ M f := fun p l e R s m args below meth c B b D dA Q hG E => mrun_ok E hod j hq (hk p l e R s m args below meth c B b D dA Q hG E)
theorem mB_st (hod : mOd M) (hq : mst M f = some g) (hk : mB Γ M g) : mB Γ M f := fun p l e R s m args below meth c B b D dA Q hG E => mst_ok E hod hq (hk p l e R s m args below meth c B b D dA Q hG E)
theorem mB_V (hod : mOd M) (ok2 : mOK M2) (hl : mLV (mOw M) i M2) (hd : asc (mTb M) pc = some (.invokevirtual i, 3)) (hC : mC M2 (.ref a :: as) h o) (ha : h[a]? = some (.inr (mOw M2, fs))) (hn : as.length = mAr M2) (hro : mRo M M2 k n rest = true) (hst : st = as.reverse ++ .ref a :: rest) (hk : mB Γ M (pc + 3, lv, o.2.toList ++ rest, o.1, k + mCe M2, n + mSl M2)) : mB Γ M (pc, lv, st, h, k, n) := fun p l e R s m args below meth c B b D dA Q hG E => mV_callV E ok2 hl (hod.get hd) hC ha hn hro hst (hk p l e R s m args below meth c B b D dA Q hG E)
theorem mB_S (hod : mOd M) (ok2 : mOK M2) (hl : mLS (mOw M) i M2) (hd : asc (mTb M) pc = some (.invokestatic i, 3)) (hC : mC M2 as h o) (hn : as.length = mAr M2) (hro : mRo M M2 k n rest = true) (hst : st = as.reverse ++ rest) (hk : mB Γ M (pc + 3, lv, o.2.toList ++ rest, o.1, k + mCe M2, n + mSl M2)) : mB Γ M (pc, lv, st, h, k, n) := fun p l e R s m args below meth c B b D dA Q hG E => mV_callS E ok2 hl (hod.get hd) hC hn hro hst (hk p l e R s m args below meth c B b D dA Q hG E)
theorem mB_I (hod : mOd M) (ok2 : mOK M2) (hl : mLI (mOw M) i M2) (hd : asc (mTb M) pc = some (.invokespecial i, 3)) (hC : mC M2 (.ref a :: as) h o) (hn : as.length = mAr M2) (hro : mRo M M2 k n rest = true) (hst : st = as.reverse ++ .ref a :: rest) (hk : mB Γ M (pc + 3, lv, o.2.toList ++ rest, o.1, k + mCe M2, n + mSl M2)) : mB Γ M (pc, lv, st, h, k, n) := fun p l e R s m args below meth c B b D dA Q hG E => mV_callI E ok2 hl (hod.get hd) hC hn hro hst (hk p l e R s m args below meth c B b D dA Q hG E)
theorem mB_NS (hod : mOd M) (ok2 : mOK M2) (hl : mNS (mOw M) i M2) (hd : asc (mTb M) pc = some (.invokestatic i, 3)) (hC : mC M2 as h o) (hn : as.length = mAr M2) (hro : mRo M M2 k n rest = true) (hst : st = as.reverse ++ rest) (hk : mB Γ M (pc + 3, lv, o.2.toList ++ rest, o.1, k + mCe M2, n + mSl M2)) : mB Γ M (pc, lv, st, h, k, n) := fun p l e R s m args below meth c B b D dA Q hG E => mV_callNS E ok2 hl (hod.get hd) hC hn hro hst (hk p l e R s m args below meth c B b D dA Q hG E)
theorem mB_NI (hod : mOd M) (ok2 : mOK M2) (hl : mNI (mOw M) i M2) (hd : asc (mTb M) pc = some (.invokespecial i, 3)) (hC : mC M2 (.ref a :: as) h o) (hn : as.length = mAr M2) (hro : mRo M M2 k n rest = true) (hst : st = as.reverse ++ .ref a :: rest) (hk : mB Γ M (pc + 3, lv, o.2.toList ++ rest, o.1, k + mCe M2, n + mSl M2)) : mB Γ M (pc, lv, st, h, k, n) := fun p l e R s m args below meth c B b D dA Q hG E => mV_callNI E ok2 hl (hod.get hd) hC hn hro hst (hk p l e R s m args below meth c B b D dA Q hG E)
/-- returns -/
def mret (M : mM) (f : mF) : Option (mh × Option Value) := if f.2.2.2.2.1 ≤ mCe M ∧ f.2.2.2.2.2 ≤ mSl M then (match asc (mTb M) f.1, mRt M, f.2.2.1 with
  | some (.ireturn, 1), some .int, [.int v] => some (f.2.2.2.1, some (.int v))
  | some (.ireturn, 1), some .boolean, [.int v] => if v &&& 1 = v then some (f.2.2.2.1, some (.int v)) else none
  | some (.lreturn, 1), some .long, [.long v] => some (f.2.2.2.1, some (.long v))
  | some (.return_, 1), none, [] => some (f.2.2.2.1, none)
  | _, _, _ => none) else none
theorem mB_ret (hod : mOd M) (hq : mret M (pc, lv, st, h, k, n) = some o) : mB (gO M o) M (pc, lv, st, h, k, n) := by
  intro p l e R s m args below meth c B b D dA Q hG E H locs ls hR hS hl
  obtain ⟨rfl, hr, hlocks⟩ := hG
  unfold mret at hq
  split at hq
  · rename_i hw
    refine W.widen (k := mCe M) (n := mSl M) hw.1 hw.2 ?_
    split at hq
    · rename_i v hd ht hst
      cases hq
      dsimp only at hst hd
      subst hst
      exact W.iret E.hx E.hb (hr.trans ht) (fun t ht hW => ⟨rfl, by rw [ht]; exact hR, hS.F ht⟩) hS.2.2 (hod.get hd) hlocks
    · rename_i v hd ht hst
      split at hq
      · rename_i hv
        cases hq
        dsimp only at hst hd
        subst hst
        exact W.zret E.hx E.hb (hr.trans ht) (by show Value.int (v &&& 1) = _; rw [hv]) (fun t ht hW => ⟨rfl, by rw [ht]; exact hR, hS.F ht⟩) hS.2.2 (hod.get hd) hlocks
      · cases hq
    · rename_i v hd ht hst
      cases hq
      dsimp only at hst hd
      subst hst
      exact W.lret E.hx E.hb (hr.trans ht) (fun t ht hW => ⟨rfl, by rw [ht]; exact hR, hS.F ht⟩) hS.2.2 (hod.get hd) hlocks
    · rename_i hd ht hst
      cases hq
      dsimp only at hst hd
      subst hst
      exact W.vret E.hx E.hb (hr.trans ht) (fun t ht hW => ⟨rfl, by rw [ht]; exact hR, hS.F ht⟩) hS.2.2 (hod.get hd) hlocks
    · cases hq
  · cases hq
/-- a contract out of the judgement at the entry -/
theorem mC_of (ok : mOK M) (hL : (lg_sl as).length ≤ mLx M) (hb : mB (gO M o) M (0, lv_args 0 as, [], h, 0, 0)) : mC M as h o := by
  intro l B b D dA
  refine Met.ofW (cc := mCd M) (maxL := mLx M) (ret := mRt M) ok.1 rfl ?_
  intro p e s m args below meth c s₁ Bd hml hv
  obtain ⟨rfl, hR, hz, hK, hN⟩ := hv
  have hts := atoms_spec (ws := mws M) Bd.pre
  have E : mE p (headSpec (mws M) (mRm M)).room s m (as.map (mv B b)).toArray meth c B D dA M := ⟨Bd.exec, Bd.bytes, hml, by rw [← ok.2.2.1]; exact findClass_of_methodNamed Bd.named, fun w hw => hts w (List.mem_cons_of_mem _ hw), fun hi => ((name_of_methodNamed Bd.named Bd.method).1).trans (ok.2.2.2.2.2 hi), hK, hz, rfl, hN⟩
  rw [lg_entry_eq]
  have hl := lv_entry (as.map (mv B b)) (n := mLx M) (by rw [lg_sl_mv]; exact hL)
  rw [lv_args_mv] at hl
  exact hb p l e _ s m _ below meth c B b D dA _ ⟨rfl, Bd.returns, Bd.notSynchronized⟩ E s.heap [] _ hR va_S.rf hl
end MB
/-- the law's own end -/
def gL (L : Nat) (xs : Nat → Int32) : mG := fun _ _ _ s _ args below meth c B b _ _ Q => Q = lw_Z below #[Value.ref b] s ∧ args = #[Value.ref b] ∧ meth.sig.returnType = ret ∧ meth.locks = false ∧ B = s.heap.size ∧ b < B ∧ va_X b L xs s s.heap ∧ c.code = code
section ML
variable {M : mM} {L pc : Nat} {xs : Nat → Int32} {lv : List (Nat × Value)} {r : List Value} {h : mh} {k n j : Nat} {i : Int32}
theorem mL_len (hod : mOd M) (hd : asc (mTb M) pc = some (.arraylength, 1)) (hk : mB (gL L xs) M (pc + 1, lv, .int (Int32.ofNat L) :: r, h, k, n)) : mB (gL L xs) M (pc, lv, .retAddr j :: r, h, k, n) := by
  intro p l e R s m args below meth c B b D dA Q hG E H locs ls hR hS hl
  exact va_slen (A := mA B) E.hx E.hb hG.2.2.2.2.2.2.1 (by rw [← hG.2.2.2.2.1]; exact hG.2.2.2.2.2.1) (Nat.not_le.mpr hG.2.2.2.2.2.1) hS (hod.get hd) (hk p l e R s m args below meth c B b D dA Q hG E H locs ls hR hS hl)
theorem mL_ld (hod : mOd M) (hd : asc (mTb M) pc = some (.iaload, 1)) (hi : vp_in i L) (hk : mB (gL L xs) M (pc + 1, lv, .int (xs i.toNatClampNeg) :: r, h, k, n)) : mB (gL L xs) M (pc, lv, .int i :: .retAddr j :: r, h, k, n) := by
  intro p l e R s m args below meth c B b D dA Q hG E H locs ls hR hS hl
  exact va_sld (A := mA B) E.hx E.hb hG.2.2.2.2.2.2.1 (by rw [← hG.2.2.2.2.1]; exact hG.2.2.2.2.2.1) (Nat.not_le.mpr hG.2.2.2.2.2.1) hS hi (hod.get hd) (hk p l e R s m args below meth c B b D dA Q hG E H locs ls hR hS hl)
theorem mL_ret (hod : mOd M) (hm : mCd M = code) (hrm : mRm M = room_1) (hd : asc (mTb M) pc = some (.ireturn, 1)) (h1 : k ≤ (mRm M).cells) (h2 : n ≤ (mRm M).slots) : mB (gL L xs) M (pc, lv, [.int 1], h, k, n) := by
  intro p l e R s m args below meth c B b D dA Q hG E H locs ls hR hS hl
  obtain ⟨rfl, rfl, hr, hlocks, hB, -, -, hcc⟩ := hG
  have hR1 : R = room_1 := E.hr.trans hrm
  subst hR1
  rw [hrm] at h1 h2
  refine va_forget (fun q hq => by rw [← hB]; exact hS.2.2 q hq) ?_
  refine W.widen (k := room_1.cells) (n := room_1.slots) h1 h2 ?_
  have hd2 := hod.get hd
  rw [hm] at hd2
  exact lw_ret E.hx hcc hr hlocks hd2
end ML
end
section
def tX0_init_0 : List (Nat × Instr × Nat) := [(0, .aload_n 0, 1), (1, .invokespecial 3, 3), (4, .aload_n 0, 1), (5, .iconst 0, 1), (6, .putfield 9, 3), (9, .aload_n 0, 1), (10, .new 15, 3), (13, .dup, 1), (14, .bipush 24, 2), (16, .invokespecial 17, 3), (19, .putfield 20, 3), (22, .aload_n 0, 1), (23, .iconst 0, 1), (24, .putfield 24, 3), (27, .aload_n 0, 1), (28, .sipush 176, 3), (31, .newarray .int, 2), (33, .putfield 27, 3), (36, .aload_n 0, 1), (37, .bipush 45, 2), (39, .newarray .int, 2), (41, .putfield 31, 3), (44, .aload_n 0, 1), (45, .sipush 132, 3), (48, .newarray .int, 2), (50, .putfield 34, 3), (53, .aload_n 0, 1), (54, .iconst 0, 1), (55, .putfield 37, 3), (58, .aload_n 0, 1), (59, .sipush 264, 3), (62, .newarray .int, 2), (64, .putfield 40, 3), (67, .aload_n 0, 1), (68, .new 43, 3), (71, .dup, 1), (72, .invokespecial 45, 3), (75, .putfield 46, 3), (78, .return_, 1)]
theorem dkX0_init_0 : ∀ q ∈ tX0_init_0, decode cX0_init q.1 = .ok q.2 := by decide +kernel
def tX0_init : List (Nat × Instr × Nat) := tX0_init_0
def mX0_init : mM := (yX0_init, 0, cX0_init, 1, none, tX0_init, (2, 41, 12, 1000), 0, true)
theorem odX0_init : mOd mX0_init := dkX0_init_0
set_option maxRecDepth 100000 in
theorem okX0_init : mOK mX0_init := ⟨by decide +kernel, List.mem_append_right _ (List.mem_of_getElem? (i := 28) rfl), rfl, ⟨by decide +kernel, by decide +kernel⟩, by decide +kernel, fun _ => rfl⟩
def tX0_clear_0 : List (Nat × Instr × Nat) := [(0, .aload_n 0, 1), (1, .iconst 0, 1), (2, .putfield 9, 3), (5, .aload_n 0, 1), (6, .getfield 20, 3), (9, .invokevirtual 50, 3), (12, .aload_n 0, 1), (13, .iconst 0, 1), (14, .putfield 24, 3), (17, .aload_n 0, 1), (18, .iconst 0, 1), (19, .putfield 37, 3), (22, .aload_n 0, 1), (23, .getfield 46, 3), (26, .lconst 0, 1), (27, .putfield 53, 3), (30, .return_, 1)]
theorem dkX0_clear_0 : ∀ q ∈ tX0_clear_0, decode cX0_clear q.1 = .ok q.2 := by decide +kernel
def tX0_clear : List (Nat × Instr × Nat) := tX0_clear_0
def mX0_clear : mM := (yX0_clear, 0, cX0_clear, 1, none, tX0_clear, (1, 20, 0, 0), 0, false)
theorem odX0_clear : mOd mX0_clear := dkX0_clear_0
set_option maxRecDepth 100000 in
theorem okX0_clear : mOK mX0_clear := ⟨by decide +kernel, List.mem_append_right _ (List.mem_of_getElem? (i := 317) rfl), rfl, ⟨by decide +kernel, by decide +kernel⟩, by decide +kernel, fun h => absurd h (by decide)⟩
def tX0_addPlane_0 : List (Nat × Instr × Nat) := [(0, .iload_n 1, 1), (1, .invokestatic 57, 3), (4, .i2l, 1), (5, .iload_n 2, 1), (6, .invokestatic 57, 3), (9, .i2l, 1), (10, .invokestatic 63, 3), (13, .iload_n 3, 1), (14, .invokestatic 57, 3), (17, .i2l, 1), (18, .invokestatic 63, 3), (21, .l2i, 1), (22, .istore 5, 2), (24, .iload 5, 2), (26, .ifCond .eq 12, 3), (29, .aload_n 0, 1), (30, .getfield 24, 3), (33, .bipush 44, 2), (35, .if_icmp .lt 4, 3), (38, .return_, 1), (39, .iconst 0, 1), (40, .istore 6, 2), (42, .iload 6, 2), (44, .aload_n 0, 1), (45, .getfield 24, 3), (48, .if_icmp .ge 30, 3), (51, .aload_n 0, 1), (52, .iload 6, 2), (54, .iload_n 1, 1), (55, .iload 5, 2), (57, .idiv, 1), (58, .iload_n 2, 1), (59, .iload 5, 2), (61, .idiv, 1), (62, .iload_n 3, 1), (63, .iload 5, 2), (65, .idiv, 1), (66, .invokevirtual 67, 3), (69, .ifCond .ge 9, 3), (72, .iinc 6 1, 3), (75, .goto (-33), 3), (78, .iload 6, 2), (80, .aload_n 0, 1), (81, .getfield 24, 3), (84, .if_icmp .ge 25, 3), (87, .aload_n 0, 1), (88, .iload 6, 2), (90, .iload_n 1, 1), (91, .iload 5, 2), (93, .idiv, 1), (94, .iload_n 2, 1), (95, .iload 5, 2), (97, .idiv, 1), (98, .iload_n 3, 1), (99, .iload 5, 2), (101, .idiv, 1), (102, .invokevirtual 67, 3), (105, .ifCond .ne 4, 3), (108, .return_, 1), (109, .aload_n 0, 1)]
theorem dkX0_addPlane_0 : ∀ q ∈ tX0_addPlane_0, decode cX0_addPlane q.1 = .ok q.2 := by decide +kernel
def tX0_addPlane_1 : List (Nat × Instr × Nat) := [(110, .getfield 27, 3), (113, .iconst 4, 1), (114, .iload 6, 2), (116, .imul, 1), (117, .aload_n 0, 1), (118, .getfield 27, 3), (121, .iconst 4, 1), (122, .iload 6, 2), (124, .imul, 1), (125, .iconst 4, 1), (126, .iadd, 1), (127, .iconst 4, 1), (128, .aload_n 0, 1), (129, .getfield 24, 3), (132, .iload 6, 2), (134, .isub, 1), (135, .imul, 1), (136, .invokestatic 71, 3), (139, .aload_n 0, 1), (140, .getfield 27, 3), (143, .iconst 4, 1), (144, .iload 6, 2), (146, .imul, 1), (147, .iload_n 1, 1), (148, .iload 5, 2), (150, .idiv, 1), (151, .iastore, 1), (152, .aload_n 0, 1), (153, .getfield 27, 3), (156, .iconst 4, 1), (157, .iload 6, 2), (159, .imul, 1), (160, .iconst 1, 1), (161, .iadd, 1), (162, .iload_n 2, 1), (163, .iload 5, 2), (165, .idiv, 1), (166, .iastore, 1), (167, .aload_n 0, 1), (168, .getfield 27, 3), (171, .iconst 4, 1), (172, .iload 6, 2), (174, .imul, 1), (175, .iconst 2, 1), (176, .iadd, 1), (177, .iload_n 3, 1), (178, .iload 5, 2), (180, .idiv, 1), (181, .iastore, 1), (182, .aload_n 0, 1), (183, .getfield 27, 3), (186, .iconst 4, 1), (187, .iload 6, 2), (189, .imul, 1), (190, .iconst 3, 1), (191, .iadd, 1), (192, .iload 4, 2), (194, .iload 5, 2), (196, .idiv, 1), (197, .iastore, 1)]
theorem dkX0_addPlane_1 : ∀ q ∈ tX0_addPlane_1, decode cX0_addPlane q.1 = .ok q.2 := by decide +kernel
def tX0_addPlane_2 : List (Nat × Instr × Nat) := [(198, .aload_n 0, 1), (199, .dup, 1), (200, .getfield 24, 3), (203, .iconst 1, 1), (204, .iadd, 1), (205, .putfield 24, 3), (208, .return_, 1)]
theorem dkX0_addPlane_2 : ∀ q ∈ tX0_addPlane_2, decode cX0_addPlane q.1 = .ok q.2 := by decide +kernel
def tX0_addPlane : List (Nat × Instr × Nat) := tX0_addPlane_0 ++ (tX0_addPlane_1 ++ (tX0_addPlane_2))
def mX0_addPlane : mM := (yX0_addPlane, 0, cX0_addPlane, 7, none, tX0_addPlane, (2, 45, 0, 0), 4, false)
theorem odX0_addPlane : mOd mX0_addPlane := List.forall_mem_append.mpr ⟨dkX0_addPlane_0, List.forall_mem_append.mpr ⟨dkX0_addPlane_1, dkX0_addPlane_2⟩⟩
set_option maxRecDepth 100000 in
theorem okX0_addPlane : mOK mX0_addPlane := ⟨by decide +kernel, List.mem_append_right _ (List.mem_of_getElem? (i := 426) rfl), rfl, ⟨by decide +kernel, by decide +kernel⟩, by decide +kernel, fun h => absurd h (by decide)⟩
def tX0_comparePlane_0 : List (Nat × Instr × Nat) := [(0, .aload_n 0, 1), (1, .getfield 27, 3), (4, .iconst 4, 1), (5, .iload_n 1, 1), (6, .imul, 1), (7, .iaload, 1), (8, .iload_n 2, 1), (9, .if_icmp .eq 16, 3), (12, .aload_n 0, 1), (13, .getfield 27, 3), (16, .iconst 4, 1), (17, .iload_n 1, 1), (18, .imul, 1), (19, .iaload, 1), (20, .iload_n 2, 1), (21, .invokestatic 77, 3), (24, .ireturn, 1), (25, .aload_n 0, 1), (26, .getfield 27, 3), (29, .iconst 4, 1), (30, .iload_n 1, 1), (31, .imul, 1), (32, .iconst 1, 1), (33, .iadd, 1), (34, .iaload, 1), (35, .iload_n 3, 1), (36, .if_icmp .eq 18, 3), (39, .aload_n 0, 1), (40, .getfield 27, 3), (43, .iconst 4, 1), (44, .iload_n 1, 1), (45, .imul, 1), (46, .iconst 1, 1), (47, .iadd, 1), (48, .iaload, 1), (49, .iload_n 3, 1), (50, .invokestatic 77, 3), (53, .ireturn, 1), (54, .aload_n 0, 1), (55, .getfield 27, 3), (58, .iconst 4, 1), (59, .iload_n 1, 1), (60, .imul, 1), (61, .iconst 2, 1), (62, .iadd, 1), (63, .iaload, 1), (64, .iload 4, 2), (66, .invokestatic 77, 3), (69, .ireturn, 1)]
theorem dkX0_comparePlane_0 : ∀ q ∈ tX0_comparePlane_0, decode cX0_comparePlane q.1 = .ok q.2 := by decide +kernel
def tX0_comparePlane : List (Nat × Instr × Nat) := tX0_comparePlane_0
def mX0_comparePlane : mM := (yX0_comparePlane, 0, cX0_comparePlane, 5, (some .int), tX0_comparePlane, (1, 21, 0, 0), 4, false)
theorem odX0_comparePlane : mOd mX0_comparePlane := dkX0_comparePlane_0
set_option maxRecDepth 100000 in
theorem okX0_comparePlane : mOK mX0_comparePlane := ⟨by decide +kernel, List.mem_append_right _ (List.mem_of_getElem? (i := 437) rfl), rfl, ⟨by decide +kernel, by decide +kernel⟩, by decide +kernel, fun h => absurd h (by decide)⟩
def tX0_excess_0 : List (Nat × Instr × Nat) := [(0, .aload_n 0, 1), (1, .getfield 27, 3), (4, .iconst 4, 1), (5, .iload_n 1, 1), (6, .imul, 1), (7, .iaload, 1), (8, .i2l, 1), (9, .lload_n 2, 1), (10, .lmul, 1), (11, .aload_n 0, 1), (12, .getfield 27, 3), (15, .iconst 4, 1), (16, .iload_n 1, 1), (17, .imul, 1), (18, .iconst 1, 1), (19, .iadd, 1), (20, .iaload, 1), (21, .i2l, 1), (22, .lload 4, 2), (24, .lmul, 1), (25, .ladd, 1), (26, .aload_n 0, 1), (27, .getfield 27, 3), (30, .iconst 4, 1), (31, .iload_n 1, 1), (32, .imul, 1), (33, .iconst 2, 1), (34, .iadd, 1), (35, .iaload, 1), (36, .i2l, 1), (37, .lload 6, 2), (39, .lmul, 1), (40, .ladd, 1), (41, .aload_n 0, 1), (42, .getfield 27, 3), (45, .iconst 4, 1), (46, .iload_n 1, 1), (47, .imul, 1), (48, .iconst 3, 1), (49, .iadd, 1), (50, .iaload, 1), (51, .i2l, 1), (52, .lload 8, 2), (54, .lmul, 1), (55, .lsub, 1), (56, .lreturn, 1)]
theorem dkX0_excess_0 : ∀ q ∈ tX0_excess_0, decode cX0_excess q.1 = .ok q.2 := by decide +kernel
def tX0_excess : List (Nat × Instr × Nat) := tX0_excess_0
def mX0_excess : mM := (yX0_excess, 0, cX0_excess, 10, (some .long), tX0_excess, (0, 0, 0, 0), 5, false)
theorem odX0_excess : mOd mX0_excess := dkX0_excess_0
set_option maxRecDepth 100000 in
theorem okX0_excess : mOK mX0_excess := ⟨by decide +kernel, List.mem_append_right _ (List.mem_of_getElem? (i := 457) rfl), rfl, ⟨by decide +kernel, by decide +kernel⟩, by decide +kernel, fun h => absurd h (by decide)⟩
def tX0_layRings_0 : List (Nat × Instr × Nat) := [(0, .iconst 0, 1), (1, .istore_n 1, 1), (2, .iconst 0, 1), (3, .istore_n 2, 1), (4, .iload_n 2, 1), (5, .aload_n 0, 1), (6, .getfield 24, 3), (9, .if_icmp .ge 23, 3), (12, .aload_n 0, 1), (13, .getfield 31, 3), (16, .iload_n 2, 1), (17, .iload_n 1, 1), (18, .iastore, 1), (19, .aload_n 0, 1), (20, .iload_n 2, 1), (21, .iload_n 1, 1), (22, .invokevirtual 83, 3), (25, .istore_n 1, 1), (26, .iinc 2 1, 3), (29, .goto (-25), 3), (32, .aload_n 0, 1), (33, .getfield 31, 3), (36, .aload_n 0, 1), (37, .getfield 24, 3), (40, .iload_n 1, 1), (41, .iastore, 1), (42, .return_, 1)]
theorem dkX0_layRings_0 : ∀ q ∈ tX0_layRings_0, decode cX0_layRings q.1 = .ok q.2 := by decide +kernel
def tX0_layRings : List (Nat × Instr × Nat) := tX0_layRings_0
def mX0_layRings : mM := (yX0_layRings, 0, cX0_layRings, 3, none, tX0_layRings, (3, 73, 0, 0), 0, false)
theorem odX0_layRings : mOd mX0_layRings := dkX0_layRings_0
set_option maxRecDepth 100000 in
theorem okX0_layRings : mOK mX0_layRings := ⟨by decide +kernel, List.mem_append_right _ (List.mem_of_getElem? (i := 449) rfl), rfl, ⟨by decide +kernel, by decide +kernel⟩, by decide +kernel, fun h => absurd h (by decide)⟩
def tX0_layRing_0 : List (Nat × Instr × Nat) := [(0, .iload_n 2, 1), (1, .istore_n 3, 1), (2, .iconst 0, 1), (3, .istore 4, 2), (5, .iload 4, 2), (7, .aload_n 0, 1), (8, .getfield 20, 3), (11, .getfield 86, 3), (14, .if_icmp .ge 73, 3), (17, .iload_n 3, 1), (18, .aload_n 0, 1), (19, .getfield 34, 3), (22, .arraylength, 1), (23, .if_icmp .ge 64, 3), (26, .aload_n 0, 1), (27, .iload_n 1, 1), (28, .aload_n 0, 1), (29, .getfield 20, 3), (32, .getfield 89, 3), (35, .iload 4, 2), (37, .iaload, 1), (38, .i2l, 1), (39, .aload_n 0, 1), (40, .getfield 20, 3), (43, .getfield 92, 3), (46, .iload 4, 2), (48, .iaload, 1), (49, .i2l, 1), (50, .aload_n 0, 1), (51, .getfield 20, 3), (54, .getfield 95, 3), (57, .iload 4, 2), (59, .iaload, 1), (60, .i2l, 1), (61, .lconst 1, 1), (62, .invokevirtual 98, 3), (65, .lconst 0, 1), (66, .lcmp, 1), (67, .ifCond .ne 14, 3), (70, .aload_n 0, 1), (71, .getfield 34, 3), (74, .iload_n 3, 1), (75, .iload 4, 2), (77, .iastore, 1), (78, .iinc 3 1, 3), (81, .iinc 4 1, 3), (84, .goto (-79), 3), (87, .iload_n 2, 1), (88, .istore 4, 2), (90, .iload 4, 2), (92, .iconst 2, 1), (93, .iadd, 1), (94, .iload_n 3, 1), (95, .if_icmp .ge 104, 3), (98, .iload 4, 2), (100, .iconst 1, 1), (101, .iadd, 1), (102, .istore 5, 2), (104, .iload 4, 2), (106, .iconst 2, 1)]
theorem dkX0_layRing_0 : ∀ q ∈ tX0_layRing_0, decode cX0_layRing q.1 = .ok q.2 := by decide +kernel
def tX0_layRing_1 : List (Nat × Instr × Nat) := [(107, .iadd, 1), (108, .istore 6, 2), (110, .iload 6, 2), (112, .iload_n 3, 1), (113, .if_icmp .ge 44, 3), (116, .aload_n 0, 1), (117, .iload_n 1, 1), (118, .aload_n 0, 1), (119, .getfield 34, 3), (122, .iload 4, 2), (124, .iaload, 1), (125, .aload_n 0, 1), (126, .getfield 34, 3), (129, .iload 5, 2), (131, .iaload, 1), (132, .aload_n 0, 1), (133, .getfield 34, 3), (136, .iload 6, 2), (138, .iaload, 1), (139, .invokevirtual 102, 3), (142, .lconst 0, 1), (143, .lcmp, 1), (144, .ifCond .ge 7, 3), (147, .iload 6, 2), (149, .istore 5, 2), (151, .iinc 6 1, 3), (154, .goto (-44), 3), (157, .aload_n 0, 1), (158, .getfield 34, 3), (161, .iload 4, 2), (163, .iconst 1, 1), (164, .iadd, 1), (165, .iaload, 1), (166, .istore 6, 2), (168, .aload_n 0, 1), (169, .getfield 34, 3), (172, .iload 4, 2), (174, .iconst 1, 1), (175, .iadd, 1), (176, .aload_n 0, 1), (177, .getfield 34, 3), (180, .iload 5, 2), (182, .iaload, 1), (183, .iastore, 1), (184, .aload_n 0, 1), (185, .getfield 34, 3), (188, .iload 5, 2), (190, .iload 6, 2), (192, .iastore, 1), (193, .iinc 4 1, 3), (196, .goto (-106), 3), (199, .iload_n 3, 1), (200, .ireturn, 1)]
theorem dkX0_layRing_1 : ∀ q ∈ tX0_layRing_1, decode cX0_layRing q.1 = .ok q.2 := by decide +kernel
def tX0_layRing : List (Nat × Instr × Nat) := tX0_layRing_0 ++ (tX0_layRing_1)
def mX0_layRing : mM := (yX0_layRing, 0, cX0_layRing, 7, (some .int), tX0_layRing, (2, 47, 0, 0), 2, false)
theorem odX0_layRing : mOd mX0_layRing := List.forall_mem_append.mpr ⟨dkX0_layRing_0, dkX0_layRing_1⟩
set_option maxRecDepth 100000 in
theorem okX0_layRing : mOK mX0_layRing := ⟨by decide +kernel, List.mem_append_right _ (List.mem_of_getElem? (i := 453) rfl), rfl, ⟨by decide +kernel, by decide +kernel⟩, by decide +kernel, fun h => absurd h (by decide)⟩
def tX0_facing_0 : List (Nat × Instr × Nat) := [(0, .aload_n 0, 1), (1, .getfield 27, 3), (4, .iconst 4, 1), (5, .iload_n 1, 1), (6, .imul, 1), (7, .iaload, 1), (8, .i2l, 1), (9, .aload_n 0, 1), (10, .getfield 20, 3), (13, .iload_n 2, 1), (14, .iload_n 3, 1), (15, .iload 4, 2), (17, .invokevirtual 106, 3), (20, .lmul, 1), (21, .aload_n 0, 1), (22, .getfield 27, 3), (25, .iconst 4, 1), (26, .iload_n 1, 1), (27, .imul, 1), (28, .iconst 1, 1), (29, .iadd, 1), (30, .iaload, 1), (31, .i2l, 1), (32, .aload_n 0, 1), (33, .getfield 20, 3), (36, .iload_n 2, 1), (37, .iload_n 3, 1), (38, .iload 4, 2), (40, .invokevirtual 110, 3), (43, .lmul, 1), (44, .ladd, 1), (45, .aload_n 0, 1), (46, .getfield 27, 3), (49, .iconst 4, 1), (50, .iload_n 1, 1), (51, .imul, 1), (52, .iconst 2, 1), (53, .iadd, 1), (54, .iaload, 1), (55, .i2l, 1), (56, .aload_n 0, 1), (57, .getfield 20, 3), (60, .iload_n 2, 1), (61, .iload_n 3, 1), (62, .iload 4, 2), (64, .invokevirtual 113, 3), (67, .lmul, 1), (68, .ladd, 1), (69, .lreturn, 1)]
theorem dkX0_facing_0 : ∀ q ∈ tX0_facing_0, decode cX0_facing q.1 = .ok q.2 := by decide +kernel
def tX0_facing : List (Nat × Instr × Nat) := tX0_facing_0
def mX0_facing : mM := (yX0_facing, 0, cX0_facing, 5, (some .long), tX0_facing, (1, 23, 0, 0), 4, false)
theorem odX0_facing : mOd mX0_facing := dkX0_facing_0
set_option maxRecDepth 100000 in
theorem okX0_facing : mOK mX0_facing := ⟨by decide +kernel, List.mem_append_right _ (List.mem_of_getElem? (i := 461) rfl), rfl, ⟨by decide +kernel, by decide +kernel⟩, by decide +kernel, fun h => absurd h (by decide)⟩
def tX0_layEdges_0 : List (Nat × Instr × Nat) := [(0, .aload_n 0, 1), (1, .getfield 9, 3), (4, .iconst 2, 1), (5, .if_icmp .ne 12, 3), (8, .aload_n 0, 1), (9, .iconst 0, 1), (10, .iconst 1, 1), (11, .iconst (-1), 1), (12, .iconst (-1), 1), (13, .invokevirtual 116, 3), (16, .return_, 1), (17, .aload_n 1, 1), (18, .iconst (-1), 1), (19, .invokestatic 120, 3), (22, .iconst 0, 1), (23, .istore_n 2, 1), (24, .iload_n 2, 1), (25, .aload_n 0, 1), (26, .getfield 24, 3), (29, .if_icmp .ge 82, 3), (32, .aload_n 0, 1), (33, .getfield 31, 3), (36, .iload_n 2, 1), (37, .iaload, 1), (38, .istore_n 3, 1), (39, .iload_n 3, 1), (40, .aload_n 0, 1), (41, .getfield 31, 3), (44, .iload_n 2, 1), (45, .iconst 1, 1), (46, .iadd, 1), (47, .iaload, 1), (48, .if_icmp .ge 57, 3), (51, .iload_n 3, 1), (52, .iconst 1, 1), (53, .iadd, 1), (54, .aload_n 0, 1), (55, .getfield 31, 3), (58, .iload_n 2, 1), (59, .iconst 1, 1), (60, .iadd, 1), (61, .iaload, 1), (62, .if_icmp .ge 9, 3), (65, .iload_n 3, 1), (66, .iconst 1, 1), (67, .iadd, 1), (68, .goto 9, 3), (71, .aload_n 0, 1), (72, .getfield 31, 3), (75, .iload_n 2, 1), (76, .iaload, 1), (77, .istore 4, 2), (79, .aload_n 1, 1), (80, .aload_n 0, 1), (81, .getfield 34, 3), (84, .iload_n 3, 1), (85, .iaload, 1), (86, .bipush 24, 2), (88, .imul, 1), (89, .aload_n 0, 1)]
theorem dkX0_layEdges_0 : ∀ q ∈ tX0_layEdges_0, decode cX0_layEdges q.1 = .ok q.2 := by decide +kernel
def tX0_layEdges_1 : List (Nat × Instr × Nat) := [(90, .getfield 34, 3), (93, .iload 4, 2), (95, .iaload, 1), (96, .iadd, 1), (97, .iload_n 2, 1), (98, .iastore, 1), (99, .iinc 3 1, 3), (102, .goto (-63), 3), (105, .iinc 2 1, 3), (108, .goto (-84), 3), (111, .iconst 0, 1), (112, .istore_n 2, 1), (113, .iload_n 2, 1), (114, .aload_n 0, 1), (115, .getfield 20, 3), (118, .getfield 86, 3), (121, .if_icmp .ge 82, 3), (124, .iload_n 2, 1), (125, .iconst 1, 1), (126, .iadd, 1), (127, .istore_n 3, 1), (128, .iload_n 3, 1), (129, .aload_n 0, 1), (130, .getfield 20, 3), (133, .getfield 86, 3), (136, .if_icmp .ge 61, 3), (139, .aload_n 1, 1), (140, .iload_n 2, 1), (141, .bipush 24, 2), (143, .imul, 1), (144, .iload_n 3, 1), (145, .iadd, 1), (146, .iaload, 1), (147, .istore 4, 2), (149, .aload_n 1, 1), (150, .iload_n 3, 1), (151, .bipush 24, 2), (153, .imul, 1), (154, .iload_n 2, 1), (155, .iadd, 1), (156, .iaload, 1), (157, .istore 5, 2), (159, .iload 4, 2), (161, .iconst (-1), 1), (162, .if_icmp .eq 29, 3), (165, .iload 5, 2), (167, .iconst (-1), 1), (168, .if_icmp .eq 23, 3), (171, .aload_n 0, 1), (172, .iload_n 2, 1), (173, .iload_n 3, 1), (174, .iload 4, 2), (176, .iload 5, 2), (178, .invokestatic 126, 3), (181, .iload 4, 2), (183, .iload 5, 2), (185, .invokestatic 129, 3), (188, .invokevirtual 116, 3), (191, .iinc 3 1, 3), (194, .goto (-66), 3)]
theorem dkX0_layEdges_1 : ∀ q ∈ tX0_layEdges_1, decode cX0_layEdges q.1 = .ok q.2 := by decide +kernel
def tX0_layEdges_2 : List (Nat × Instr × Nat) := [(197, .iinc 2 1, 3), (200, .goto (-87), 3), (203, .return_, 1)]
theorem dkX0_layEdges_2 : ∀ q ∈ tX0_layEdges_2, decode cX0_layEdges q.1 = .ok q.2 := by decide +kernel
def tX0_layEdges : List (Nat × Instr × Nat) := tX0_layEdges_0 ++ (tX0_layEdges_1 ++ (tX0_layEdges_2))
def mX0_layEdges : mM := (yX0_layEdges, 0, cX0_layEdges, 6, none, tX0_layEdges, (1, 28, 0, 0), 1, false)
theorem odX0_layEdges : mOd mX0_layEdges := List.forall_mem_append.mpr ⟨dkX0_layEdges_0, List.forall_mem_append.mpr ⟨dkX0_layEdges_1, dkX0_layEdges_2⟩⟩
set_option maxRecDepth 100000 in
theorem okX0_layEdges : mOK mX0_layEdges := ⟨by decide +kernel, List.mem_append_right _ (List.mem_of_getElem? (i := 468) rfl), rfl, ⟨by decide +kernel, by decide +kernel⟩, by decide +kernel, fun h => absurd h (by decide)⟩
def tX0_addEdge_0 : List (Nat × Instr × Nat) := [(0, .aload_n 0, 1), (1, .getfield 37, 3), (4, .bipush 66, 2), (6, .if_icmp .ge 68, 3), (9, .aload_n 0, 1), (10, .getfield 40, 3), (13, .iconst 4, 1), (14, .aload_n 0, 1), (15, .getfield 37, 3), (18, .imul, 1), (19, .iload_n 1, 1), (20, .iastore, 1), (21, .aload_n 0, 1), (22, .getfield 40, 3), (25, .iconst 4, 1), (26, .aload_n 0, 1), (27, .getfield 37, 3), (30, .imul, 1), (31, .iconst 1, 1), (32, .iadd, 1), (33, .iload_n 2, 1), (34, .iastore, 1), (35, .aload_n 0, 1), (36, .getfield 40, 3), (39, .iconst 4, 1), (40, .aload_n 0, 1), (41, .getfield 37, 3), (44, .imul, 1), (45, .iconst 2, 1), (46, .iadd, 1), (47, .iload_n 3, 1), (48, .iastore, 1), (49, .aload_n 0, 1), (50, .getfield 40, 3), (53, .iconst 4, 1), (54, .aload_n 0, 1), (55, .getfield 37, 3), (58, .imul, 1), (59, .iconst 3, 1), (60, .iadd, 1), (61, .iload 4, 2), (63, .iastore, 1), (64, .aload_n 0, 1), (65, .dup, 1), (66, .getfield 37, 3), (69, .iconst 1, 1), (70, .iadd, 1), (71, .putfield 37, 3), (74, .return_, 1)]
theorem dkX0_addEdge_0 : ∀ q ∈ tX0_addEdge_0, decode cX0_addEdge q.1 = .ok q.2 := by decide +kernel
def tX0_addEdge : List (Nat × Instr × Nat) := tX0_addEdge_0
def mX0_addEdge : mM := (yX0_addEdge, 0, cX0_addEdge, 5, none, tX0_addEdge, (0, 0, 0, 0), 4, false)
theorem odX0_addEdge : mOd mX0_addEdge := dkX0_addEdge_0
set_option maxRecDepth 100000 in
theorem okX0_addEdge : mOK mX0_addEdge := ⟨by decide +kernel, List.mem_append_right _ (List.mem_of_getElem? (i := 472) rfl), rfl, ⟨by decide +kernel, by decide +kernel⟩, by decide +kernel, fun h => absurd h (by decide)⟩
def tX0_wholeArea_0 : List (Nat × Instr × Nat) := [(0, .lconst 0, 1), (1, .lstore_n 2, 1), (2, .aload_n 0, 1), (3, .getfield 31, 3), (6, .iload_n 1, 1), (7, .iaload, 1), (8, .istore 4, 2), (10, .iload 4, 2), (12, .iconst 1, 1), (13, .iadd, 1), (14, .istore 5, 2), (16, .iload 5, 2), (18, .iconst 1, 1), (19, .iadd, 1), (20, .aload_n 0, 1), (21, .getfield 31, 3), (24, .iload_n 1, 1), (25, .iconst 1, 1), (26, .iadd, 1), (27, .iaload, 1), (28, .if_icmp .ge 40, 3), (31, .lload_n 2, 1), (32, .aload_n 0, 1), (33, .iload_n 1, 1), (34, .aload_n 0, 1), (35, .getfield 34, 3), (38, .iload 4, 2), (40, .iaload, 1), (41, .aload_n 0, 1), (42, .getfield 34, 3), (45, .iload 5, 2), (47, .iaload, 1), (48, .aload_n 0, 1), (49, .getfield 34, 3), (52, .iload 5, 2), (54, .iconst 1, 1), (55, .iadd, 1), (56, .iaload, 1), (57, .invokevirtual 102, 3), (60, .ladd, 1), (61, .lstore_n 2, 1), (62, .iinc 5 1, 3), (65, .goto (-49), 3), (68, .aload_n 0, 1), (69, .getfield 27, 3), (72, .iconst 4, 1), (73, .iload_n 1, 1), (74, .imul, 1), (75, .iaload, 1), (76, .i2l, 1), (77, .aload_n 0, 1), (78, .getfield 27, 3), (81, .iconst 4, 1), (82, .iload_n 1, 1), (83, .imul, 1), (84, .iconst 1, 1), (85, .iadd, 1), (86, .iaload, 1), (87, .i2l, 1), (88, .aload_n 0, 1)]
theorem dkX0_wholeArea_0 : ∀ q ∈ tX0_wholeArea_0, decode cX0_wholeArea q.1 = .ok q.2 := by decide +kernel
def tX0_wholeArea_1 : List (Nat × Instr × Nat) := [(89, .getfield 27, 3), (92, .iconst 4, 1), (93, .iload_n 1, 1), (94, .imul, 1), (95, .iconst 2, 1), (96, .iadd, 1), (97, .iaload, 1), (98, .i2l, 1), (99, .invokestatic 132, 3), (102, .lstore 5, 2), (104, .lload 5, 2), (106, .lconst 0, 1), (107, .lcmp, 1), (108, .ifCond .le 10, 3), (111, .lload_n 2, 1), (112, .lload 5, 2), (114, .ldiv, 1), (115, .goto 4, 3), (118, .lconst 0, 1), (119, .lreturn, 1)]
theorem dkX0_wholeArea_1 : ∀ q ∈ tX0_wholeArea_1, decode cX0_wholeArea q.1 = .ok q.2 := by decide +kernel
def tX0_wholeArea : List (Nat × Instr × Nat) := tX0_wholeArea_0 ++ (tX0_wholeArea_1)
def mX0_wholeArea : mM := (yX0_wholeArea, 0, cX0_wholeArea, 7, (some .long), tX0_wholeArea, (2, 47, 0, 0), 1, false)
theorem odX0_wholeArea : mOd mX0_wholeArea := List.forall_mem_append.mpr ⟨dkX0_wholeArea_0, dkX0_wholeArea_1⟩
set_option maxRecDepth 100000 in
theorem okX0_wholeArea : mOK mX0_wholeArea := ⟨by decide +kernel, List.mem_append_right _ (List.mem_of_getElem? (i := 520) rfl), rfl, ⟨by decide +kernel, by decide +kernel⟩, by decide +kernel, fun h => absurd h (by decide)⟩
def tX0_steepness_0 : List (Nat × Instr × Nat) := [(0, .lload_n 0, 1), (1, .lload_n 0, 1), (2, .lmul, 1), (3, .lload_n 2, 1), (4, .lload_n 2, 1), (5, .lmul, 1), (6, .ladd, 1), (7, .lload 4, 2), (9, .lload 4, 2), (11, .lmul, 1), (12, .ladd, 1), (13, .lreturn, 1)]
theorem dkX0_steepness_0 : ∀ q ∈ tX0_steepness_0, decode cX0_steepness q.1 = .ok q.2 := by decide +kernel
def tX0_steepness : List (Nat × Instr × Nat) := tX0_steepness_0
def mX0_steepness : mM := (yX0_steepness, 0, cX0_steepness, 6, (some .long), tX0_steepness, (0, 0, 0, 0), 3, false)
theorem odX0_steepness : mOd mX0_steepness := dkX0_steepness_0
set_option maxRecDepth 100000 in
theorem okX0_steepness : mOK mX0_steepness := ⟨by decide +kernel, List.mem_append_right _ (List.mem_of_getElem? (i := 523) rfl), rfl, ⟨by decide +kernel, by decide +kernel⟩, by decide +kernel, fun h => absurd h (by decide)⟩
def tX0_sixVolumes_0 : List (Nat × Instr × Nat) := [(0, .aload_n 0, 1), (1, .iconst 3, 1), (2, .invokevirtual 136, 3), (5, .lreturn, 1)]
theorem dkX0_sixVolumes_0 : ∀ q ∈ tX0_sixVolumes_0, decode cX0_sixVolumes q.1 = .ok q.2 := by decide +kernel
def tX0_sixVolumes : List (Nat × Instr × Nat) := tX0_sixVolumes_0
def mX0_sixVolumes : mM := (yX0_sixVolumes, 0, cX0_sixVolumes, 1, (some .long), tX0_sixVolumes, (3, 78, 0, 0), 0, false)
theorem odX0_sixVolumes : mOd mX0_sixVolumes := dkX0_sixVolumes_0
set_option maxRecDepth 100000 in
theorem okX0_sixVolumes : mOK mX0_sixVolumes := ⟨by decide +kernel, List.mem_append_right _ (List.mem_of_getElem? (i := 557) rfl), rfl, ⟨by decide +kernel, by decide +kernel⟩, by decide +kernel, fun h => absurd h (by decide)⟩
def tX0_moment_0 : List (Nat × Instr × Nat) := [(0, .aload_n 0, 1), (1, .iload_n 1, 1), (2, .invokevirtual 136, 3), (5, .lreturn, 1)]
theorem dkX0_moment_0 : ∀ q ∈ tX0_moment_0, decode cX0_moment q.1 = .ok q.2 := by decide +kernel
def tX0_moment : List (Nat × Instr × Nat) := tX0_moment_0
def mX0_moment : mM := (yX0_moment, 0, cX0_moment, 2, (some .long), tX0_moment, (3, 78, 0, 0), 1, false)
theorem odX0_moment : mOd mX0_moment := dkX0_moment_0
set_option maxRecDepth 100000 in
theorem okX0_moment : mOK mX0_moment := ⟨by decide +kernel, List.mem_append_right _ (List.mem_of_getElem? (i := 574) rfl), rfl, ⟨by decide +kernel, by decide +kernel⟩, by decide +kernel, fun h => absurd h (by decide)⟩
def tX0_addUpPieces_0 : List (Nat × Instr × Nat) := [(0, .aload_n 0, 1), (1, .getfield 9, 3), (4, .iconst 4, 1), (5, .if_icmp .eq 5, 3), (8, .lconst 0, 1), (9, .lreturn, 1), (10, .iload_n 1, 1), (11, .ifCond .ne 13, 3), (14, .aload_n 0, 1), (15, .getfield 20, 3), (18, .getfield 89, 3), (21, .goto 25, 3), (24, .iload_n 1, 1), (25, .iconst 1, 1), (26, .if_icmp .ne 13, 3), (29, .aload_n 0, 1), (30, .getfield 20, 3), (33, .getfield 92, 3), (36, .goto 10, 3), (39, .aload_n 0, 1), (40, .getfield 20, 3), (43, .getfield 95, 3), (46, .astore_n 2, 1), (47, .lconst 0, 1), (48, .lstore_n 3, 1), (49, .iconst 0, 1), (50, .istore 5, 2), (52, .iload 5, 2), (54, .aload_n 0, 1), (55, .getfield 24, 3), (58, .if_icmp .ge 129, 3), (61, .aload_n 0, 1), (62, .getfield 34, 3), (65, .aload_n 0, 1), (66, .getfield 31, 3), (69, .iload 5, 2), (71, .iaload, 1), (72, .iaload, 1), (73, .istore 6, 2), (75, .aload_n 0, 1), (76, .getfield 31, 3), (79, .iload 5, 2), (81, .iaload, 1), (82, .iconst 1, 1), (83, .iadd, 1), (84, .istore 7, 2), (86, .iload 7, 2), (88, .iconst 1, 1), (89, .iadd, 1), (90, .aload_n 0, 1), (91, .getfield 31, 3), (94, .iload 5, 2), (96, .iconst 1, 1), (97, .iadd, 1), (98, .iaload, 1), (99, .if_icmp .ge 82, 3), (102, .aload_n 0, 1), (103, .getfield 34, 3), (106, .iload 7, 2), (108, .iaload, 1)]
theorem dkX0_addUpPieces_0 : ∀ q ∈ tX0_addUpPieces_0, decode cX0_addUpPieces q.1 = .ok q.2 := by decide +kernel
def tX0_addUpPieces_1 : List (Nat × Instr × Nat) := [(109, .istore 8, 2), (111, .aload_n 0, 1), (112, .getfield 34, 3), (115, .iload 7, 2), (117, .iconst 1, 1), (118, .iadd, 1), (119, .iaload, 1), (120, .istore 9, 2), (122, .iload_n 1, 1), (123, .iconst 3, 1), (124, .if_icmp .ne 7, 3), (127, .lconst 1, 1), (128, .goto 25, 3), (131, .aload_n 2, 1), (132, .iconst 0, 1), (133, .iaload, 1), (134, .i2l, 1), (135, .aload_n 2, 1), (136, .iload 6, 2), (138, .iaload, 1), (139, .i2l, 1), (140, .ladd, 1), (141, .aload_n 2, 1), (142, .iload 8, 2), (144, .iaload, 1), (145, .i2l, 1), (146, .ladd, 1), (147, .aload_n 2, 1), (148, .iload 9, 2), (150, .iaload, 1), (151, .i2l, 1), (152, .ladd, 1), (153, .lstore 10, 2), (155, .lload_n 3, 1), (156, .lload 10, 2), (158, .aload_n 0, 1), (159, .getfield 20, 3), (162, .iconst 0, 1), (163, .iload 6, 2), (165, .iload 8, 2), (167, .iload 9, 2), (169, .invokevirtual 140, 3), (172, .lmul, 1), (173, .ladd, 1), (174, .lstore_n 3, 1), (175, .iinc 7 1, 3), (178, .goto (-92), 3), (181, .iinc 5 1, 3), (184, .goto (-132), 3), (187, .lload_n 3, 1), (188, .lreturn, 1)]
theorem dkX0_addUpPieces_1 : ∀ q ∈ tX0_addUpPieces_1, decode cX0_addUpPieces q.1 = .ok q.2 := by decide +kernel
def tX0_addUpPieces : List (Nat × Instr × Nat) := tX0_addUpPieces_0 ++ (tX0_addUpPieces_1)
def mX0_addUpPieces : mM := (yX0_addUpPieces, 0, cX0_addUpPieces, 12, (some .long), tX0_addUpPieces, (2, 47, 0, 0), 1, false)
theorem odX0_addUpPieces : mOd mX0_addUpPieces := List.forall_mem_append.mpr ⟨dkX0_addUpPieces_0, dkX0_addUpPieces_1⟩
set_option maxRecDepth 100000 in
theorem okX0_addUpPieces : mOK mX0_addUpPieces := ⟨by decide +kernel, List.mem_append_right _ (List.mem_of_getElem? (i := 561) rfl), rfl, ⟨by decide +kernel, by decide +kernel⟩, by decide +kernel, fun h => absurd h (by decide)⟩
def tX0_locate_0 : List (Nat × Instr × Nat) := [(0, .aload_n 0, 1), (1, .getfield 9, 3), (4, .ifCond .ne 5, 3), (7, .iconst 0, 1), (8, .ireturn, 1), (9, .aload_n 0, 1), (10, .getfield 9, 3), (13, .iconst 4, 1), (14, .if_icmp .ne 14, 3), (17, .aload_n 0, 1), (18, .lload_n 1, 1), (19, .lload_n 3, 1), (20, .lload 5, 2), (22, .lload 7, 2), (24, .invokevirtual 143, 3), (27, .ireturn, 1), (28, .aload_n 0, 1), (29, .getfield 9, 3), (32, .iconst 3, 1), (33, .if_icmp .ne 16, 3), (36, .aload_n 0, 1), (37, .lload_n 1, 1), (38, .lload_n 3, 1), (39, .lload 5, 2), (41, .lload 7, 2), (43, .invokevirtual 147, 3), (46, .goto 13, 3), (49, .aload_n 0, 1), (50, .lload_n 1, 1), (51, .lload_n 3, 1), (52, .lload 5, 2), (54, .lload 7, 2), (56, .invokevirtual 151, 3), (59, .istore 9, 2), (61, .iload 9, 2), (63, .ifCond .eq 7, 3), (66, .iconst 1, 1), (67, .goto 4, 3), (70, .iconst 0, 1), (71, .ireturn, 1)]
theorem dkX0_locate_0 : ∀ q ∈ tX0_locate_0, decode cX0_locate q.1 = .ok q.2 := by decide +kernel
def tX0_locate : List (Nat × Instr × Nat) := tX0_locate_0
def mX0_locate : mM := (yX0_locate, 0, cX0_locate, 10, (some .int), tX0_locate, (2, 68, 0, 0), 4, false)
theorem odX0_locate : mOd mX0_locate := dkX0_locate_0
set_option maxRecDepth 100000 in
theorem okX0_locate : mOK mX0_locate := ⟨by decide +kernel, List.mem_append_right _ (List.mem_of_getElem? (i := 532) rfl), rfl, ⟨by decide +kernel, by decide +kernel⟩, by decide +kernel, fun h => absurd h (by decide)⟩
def tX0_locateAmongFaces_0 : List (Nat × Instr × Nat) := [(0, .iconst 2, 1), (1, .istore 9, 2), (3, .iconst 0, 1), (4, .istore 10, 2), (6, .iload 10, 2), (8, .aload_n 0, 1), (9, .getfield 24, 3), (12, .if_icmp .ge 42, 3), (15, .aload_n 0, 1), (16, .iload 10, 2), (18, .lload_n 1, 1), (19, .lload_n 3, 1), (20, .lload 5, 2), (22, .lload 7, 2), (24, .invokevirtual 98, 3), (27, .lstore 11, 2), (29, .lload 11, 2), (31, .lconst 0, 1), (32, .lcmp, 1), (33, .ifCond .le 5, 3), (36, .iconst 0, 1), (37, .ireturn, 1), (38, .lload 11, 2), (40, .lconst 0, 1), (41, .lcmp, 1), (42, .ifCond .ne 6, 3), (45, .iconst 1, 1), (46, .istore 9, 2), (48, .iinc 10 1, 3), (51, .goto (-45), 3), (54, .iload 9, 2), (56, .ireturn, 1)]
theorem dkX0_locateAmongFaces_0 : ∀ q ∈ tX0_locateAmongFaces_0, decode cX0_locateAmongFaces q.1 = .ok q.2 := by decide +kernel
def tX0_locateAmongFaces : List (Nat × Instr × Nat) := tX0_locateAmongFaces_0
def mX0_locateAmongFaces : mM := (yX0_locateAmongFaces, 0, cX0_locateAmongFaces, 13, (some .int), tX0_locateAmongFaces, (1, 29, 0, 0), 4, false)
theorem odX0_locateAmongFaces : mOd mX0_locateAmongFaces := dkX0_locateAmongFaces_0
set_option maxRecDepth 100000 in
theorem okX0_locateAmongFaces : mOK mX0_locateAmongFaces := ⟨by decide +kernel, List.mem_append_right _ (List.mem_of_getElem? (i := 536) rfl), rfl, ⟨by decide +kernel, by decide +kernel⟩, by decide +kernel, fun h => absurd h (by decide)⟩
def tX0_isInFigure_0 : List (Nat × Instr × Nat) := [(0, .aload_n 0, 1), (1, .getfield 24, 3), (4, .ifCond .eq 19, 3), (7, .aload_n 0, 1), (8, .iconst 0, 1), (9, .lload_n 1, 1), (10, .lload_n 3, 1), (11, .lload 5, 2), (13, .lload 7, 2), (15, .invokevirtual 98, 3), (18, .lconst 0, 1), (19, .lcmp, 1), (20, .ifCond .eq 5, 3), (23, .iconst 0, 1), (24, .ireturn, 1), (25, .iconst 0, 1), (26, .istore 9, 2), (28, .iload 9, 2), (30, .aload_n 0, 1), (31, .getfield 31, 3), (34, .iconst 1, 1), (35, .iaload, 1), (36, .if_icmp .ge 246, 3), (39, .aload_n 0, 1), (40, .getfield 34, 3), (43, .iload 9, 2), (45, .iaload, 1), (46, .istore 10, 2), (48, .aload_n 0, 1), (49, .getfield 34, 3), (52, .iload 9, 2), (54, .iconst 1, 1), (55, .iadd, 1), (56, .aload_n 0, 1), (57, .getfield 31, 3), (60, .iconst 1, 1), (61, .iaload, 1), (62, .if_icmp .ge 10, 3), (65, .iload 9, 2), (67, .iconst 1, 1), (68, .iadd, 1), (69, .goto 4, 3), (72, .iconst 0, 1), (73, .iaload, 1), (74, .istore 11, 2), (76, .aload_n 0, 1), (77, .getfield 20, 3), (80, .getfield 89, 3), (83, .iload 11, 2), (85, .iaload, 1), (86, .aload_n 0, 1), (87, .getfield 20, 3), (90, .getfield 89, 3), (93, .iload 10, 2), (95, .iaload, 1), (96, .isub, 1), (97, .i2l, 1), (98, .lstore 12, 2), (100, .aload_n 0, 1), (101, .getfield 20, 3)]
theorem dkX0_isInFigure_0 : ∀ q ∈ tX0_isInFigure_0, decode cX0_isInFigure q.1 = .ok q.2 := by decide +kernel
def tX0_isInFigure_1 : List (Nat × Instr × Nat) := [(104, .getfield 92, 3), (107, .iload 11, 2), (109, .iaload, 1), (110, .aload_n 0, 1), (111, .getfield 20, 3), (114, .getfield 92, 3), (117, .iload 10, 2), (119, .iaload, 1), (120, .isub, 1), (121, .i2l, 1), (122, .lstore 14, 2), (124, .aload_n 0, 1), (125, .getfield 20, 3), (128, .getfield 95, 3), (131, .iload 11, 2), (133, .iaload, 1), (134, .aload_n 0, 1), (135, .getfield 20, 3), (138, .getfield 95, 3), (141, .iload 10, 2), (143, .iaload, 1), (144, .isub, 1), (145, .i2l, 1), (146, .lstore 16, 2), (148, .lload 14, 2), (150, .aload_n 0, 1), (151, .getfield 27, 3), (154, .iconst 2, 1), (155, .iaload, 1), (156, .i2l, 1), (157, .lmul, 1), (158, .lload 16, 2), (160, .aload_n 0, 1), (161, .getfield 27, 3), (164, .iconst 1, 1), (165, .iaload, 1), (166, .i2l, 1), (167, .lmul, 1), (168, .lsub, 1), (169, .lload_n 1, 1), (170, .lload 7, 2), (172, .aload_n 0, 1), (173, .getfield 20, 3), (176, .getfield 89, 3), (179, .iload 10, 2), (181, .iaload, 1), (182, .i2l, 1), (183, .lmul, 1), (184, .lsub, 1), (185, .lmul, 1), (186, .lload 16, 2), (188, .aload_n 0, 1), (189, .getfield 27, 3), (192, .iconst 0, 1), (193, .iaload, 1), (194, .i2l, 1), (195, .lmul, 1), (196, .lload 12, 2), (198, .aload_n 0, 1), (199, .getfield 27, 3)]
theorem dkX0_isInFigure_1 : ∀ q ∈ tX0_isInFigure_1, decode cX0_isInFigure q.1 = .ok q.2 := by decide +kernel
def tX0_isInFigure_2 : List (Nat × Instr × Nat) := [(202, .iconst 2, 1), (203, .iaload, 1), (204, .i2l, 1), (205, .lmul, 1), (206, .lsub, 1), (207, .lload_n 3, 1), (208, .lload 7, 2), (210, .aload_n 0, 1), (211, .getfield 20, 3), (214, .getfield 92, 3), (217, .iload 10, 2), (219, .iaload, 1), (220, .i2l, 1), (221, .lmul, 1), (222, .lsub, 1), (223, .lmul, 1), (224, .ladd, 1), (225, .lload 12, 2), (227, .aload_n 0, 1), (228, .getfield 27, 3), (231, .iconst 1, 1), (232, .iaload, 1), (233, .i2l, 1), (234, .lmul, 1), (235, .lload 14, 2), (237, .aload_n 0, 1), (238, .getfield 27, 3), (241, .iconst 0, 1), (242, .iaload, 1), (243, .i2l, 1), (244, .lmul, 1), (245, .lsub, 1), (246, .lload 5, 2), (248, .lload 7, 2), (250, .aload_n 0, 1), (251, .getfield 20, 3), (254, .getfield 95, 3), (257, .iload 10, 2), (259, .iaload, 1), (260, .i2l, 1), (261, .lmul, 1), (262, .lsub, 1), (263, .lmul, 1), (264, .ladd, 1), (265, .lstore 18, 2), (267, .lload 18, 2), (269, .lconst 0, 1), (270, .lcmp, 1), (271, .ifCond .le 5, 3), (274, .iconst 0, 1), (275, .ireturn, 1), (276, .iinc 9 1, 3), (279, .goto (-251), 3), (282, .iconst 1, 1), (283, .ireturn, 1)]
theorem dkX0_isInFigure_2 : ∀ q ∈ tX0_isInFigure_2, decode cX0_isInFigure q.1 = .ok q.2 := by decide +kernel
def tX0_isInFigure : List (Nat × Instr × Nat) := tX0_isInFigure_0 ++ (tX0_isInFigure_1 ++ (tX0_isInFigure_2))
def mX0_isInFigure : mM := (yX0_isInFigure, 0, cX0_isInFigure, 20, (some .boolean), tX0_isInFigure, (1, 29, 0, 0), 4, false)
theorem odX0_isInFigure : mOd mX0_isInFigure := List.forall_mem_append.mpr ⟨dkX0_isInFigure_0, List.forall_mem_append.mpr ⟨dkX0_isInFigure_1, dkX0_isInFigure_2⟩⟩
set_option maxRecDepth 100000 in
theorem okX0_isInFigure : mOK mX0_isInFigure := ⟨by decide +kernel, List.mem_append_right _ (List.mem_of_getElem? (i := 540) rfl), rfl, ⟨by decide +kernel, by decide +kernel⟩, by decide +kernel, fun h => absurd h (by decide)⟩
def tX0_isOnLine_0 : List (Nat × Instr × Nat) := [(0, .aload_n 0, 1), (1, .getfield 20, 3), (4, .getfield 86, 3), (7, .iconst 1, 1), (8, .isub, 1), (9, .istore 9, 2), (11, .iload 9, 2), (13, .ifCond .ge 5, 3), (16, .iconst 0, 1), (17, .ireturn, 1), (18, .aload_n 0, 1), (19, .getfield 20, 3), (22, .getfield 89, 3), (25, .iload 9, 2), (27, .iaload, 1), (28, .aload_n 0, 1), (29, .getfield 20, 3), (32, .getfield 89, 3), (35, .iconst 0, 1), (36, .iaload, 1), (37, .isub, 1), (38, .i2l, 1), (39, .lstore 10, 2), (41, .aload_n 0, 1), (42, .getfield 20, 3), (45, .getfield 92, 3), (48, .iload 9, 2), (50, .iaload, 1), (51, .aload_n 0, 1), (52, .getfield 20, 3), (55, .getfield 92, 3), (58, .iconst 0, 1), (59, .iaload, 1), (60, .isub, 1), (61, .i2l, 1), (62, .lstore 12, 2), (64, .aload_n 0, 1), (65, .getfield 20, 3), (68, .getfield 95, 3), (71, .iload 9, 2), (73, .iaload, 1), (74, .aload_n 0, 1), (75, .getfield 20, 3), (78, .getfield 95, 3), (81, .iconst 0, 1), (82, .iaload, 1), (83, .isub, 1), (84, .i2l, 1), (85, .lstore 14, 2), (87, .lload_n 1, 1), (88, .lload 7, 2), (90, .aload_n 0, 1), (91, .getfield 20, 3), (94, .getfield 89, 3), (97, .iconst 0, 1), (98, .iaload, 1), (99, .i2l, 1), (100, .lmul, 1), (101, .lsub, 1), (102, .lstore 16, 2)]
theorem dkX0_isOnLine_0 : ∀ q ∈ tX0_isOnLine_0, decode cX0_isOnLine q.1 = .ok q.2 := by decide +kernel
def tX0_isOnLine_1 : List (Nat × Instr × Nat) := [(104, .lload_n 3, 1), (105, .lload 7, 2), (107, .aload_n 0, 1), (108, .getfield 20, 3), (111, .getfield 92, 3), (114, .iconst 0, 1), (115, .iaload, 1), (116, .i2l, 1), (117, .lmul, 1), (118, .lsub, 1), (119, .lstore 18, 2), (121, .lload 5, 2), (123, .lload 7, 2), (125, .aload_n 0, 1), (126, .getfield 20, 3), (129, .getfield 95, 3), (132, .iconst 0, 1), (133, .iaload, 1), (134, .i2l, 1), (135, .lmul, 1), (136, .lsub, 1), (137, .lstore 20, 2), (139, .iload 9, 2), (141, .ifCond .ne 30, 3), (144, .lload 16, 2), (146, .lconst 0, 1), (147, .lcmp, 1), (148, .ifCond .ne 21, 3), (151, .lload 18, 2), (153, .lconst 0, 1), (154, .lcmp, 1), (155, .ifCond .ne 14, 3), (158, .lload 20, 2), (160, .lconst 0, 1), (161, .lcmp, 1), (162, .ifCond .ne 7, 3), (165, .iconst 1, 1), (166, .goto 4, 3), (169, .iconst 0, 1), (170, .ireturn, 1), (171, .lload 12, 2), (173, .lload 20, 2), (175, .lmul, 1), (176, .lload 14, 2), (178, .lload 18, 2), (180, .lmul, 1), (181, .lcmp, 1), (182, .ifCond .ne 31, 3), (185, .lload 14, 2), (187, .lload 16, 2), (189, .lmul, 1), (190, .lload 10, 2), (192, .lload 20, 2), (194, .lmul, 1), (195, .lcmp, 1), (196, .ifCond .ne 17, 3), (199, .lload 10, 2), (201, .lload 18, 2), (203, .lmul, 1), (204, .lload 12, 2)]
theorem dkX0_isOnLine_1 : ∀ q ∈ tX0_isOnLine_1, decode cX0_isOnLine q.1 = .ok q.2 := by decide +kernel
def tX0_isOnLine_2 : List (Nat × Instr × Nat) := [(206, .lload 16, 2), (208, .lmul, 1), (209, .lcmp, 1), (210, .ifCond .eq 5, 3), (213, .iconst 0, 1), (214, .ireturn, 1), (215, .lload 10, 2), (217, .lload 16, 2), (219, .lmul, 1), (220, .lload 12, 2), (222, .lload 18, 2), (224, .lmul, 1), (225, .ladd, 1), (226, .lload 14, 2), (228, .lload 20, 2), (230, .lmul, 1), (231, .ladd, 1), (232, .lstore 22, 2), (234, .lload 22, 2), (236, .lconst 0, 1), (237, .lcmp, 1), (238, .ifCond .lt 25, 3), (241, .lload 22, 2), (243, .lload 7, 2), (245, .lload 10, 2), (247, .lload 12, 2), (249, .lload 14, 2), (251, .invokestatic 132, 3), (254, .lmul, 1), (255, .lcmp, 1), (256, .ifCond .gt 7, 3), (259, .iconst 1, 1), (260, .goto 4, 3), (263, .iconst 0, 1), (264, .ireturn, 1)]
theorem dkX0_isOnLine_2 : ∀ q ∈ tX0_isOnLine_2, decode cX0_isOnLine q.1 = .ok q.2 := by decide +kernel
def tX0_isOnLine : List (Nat × Instr × Nat) := tX0_isOnLine_0 ++ (tX0_isOnLine_1 ++ (tX0_isOnLine_2))
def mX0_isOnLine : mM := (yX0_isOnLine, 0, cX0_isOnLine, 24, (some .boolean), tX0_isOnLine, (1, 25, 0, 0), 4, false)
theorem odX0_isOnLine : mOd mX0_isOnLine := List.forall_mem_append.mpr ⟨dkX0_isOnLine_0, List.forall_mem_append.mpr ⟨dkX0_isOnLine_1, dkX0_isOnLine_2⟩⟩
set_option maxRecDepth 100000 in
theorem okX0_isOnLine : mOK mX0_isOnLine := ⟨by decide +kernel, List.mem_append_right _ (List.mem_of_getElem? (i := 544) rfl), rfl, ⟨by decide +kernel, by decide +kernel⟩, by decide +kernel, fun h => absurd h (by decide)⟩
def tX0_reckonSlit_0 : List (Nat × Instr × Nat) := [(0, .aload_n 0, 1), (1, .getfield 9, 3), (4, .iconst 4, 1), (5, .if_icmp .ne 15, 3), (8, .aload_n 0, 1), (9, .getfield 46, 3), (12, .getfield 53, 3), (15, .lconst 0, 1), (16, .lcmp, 1), (17, .ifCond .le 4, 3), (20, .return_, 1), (21, .iconst 0, 1), (22, .istore_n 1, 1), (23, .iload_n 1, 1), (24, .aload_n 0, 1), (25, .getfield 24, 3), (28, .if_icmp .ge 102, 3), (31, .aload_n 0, 1), (32, .getfield 27, 3), (35, .iconst 4, 1), (36, .iload_n 1, 1), (37, .imul, 1), (38, .iaload, 1), (39, .istore_n 2, 1), (40, .aload_n 0, 1), (41, .getfield 27, 3), (44, .iconst 4, 1), (45, .iload_n 1, 1), (46, .imul, 1), (47, .iconst 1, 1), (48, .iadd, 1), (49, .iaload, 1), (50, .istore_n 3, 1), (51, .aload_n 0, 1), (52, .getfield 27, 3), (55, .iconst 4, 1), (56, .iload_n 1, 1), (57, .imul, 1), (58, .iconst 2, 1), (59, .iadd, 1), (60, .iaload, 1), (61, .istore 4, 2), (63, .aload_n 0, 1), (64, .getfield 20, 3), (67, .iload_n 2, 1), (68, .ineg, 1), (69, .i2l, 1), (70, .iload_n 3, 1), (71, .ineg, 1), (72, .i2l, 1), (73, .iload 4, 2), (75, .ineg, 1), (76, .i2l, 1), (77, .invokevirtual 154, 3), (80, .istore 5, 2), (82, .aload_n 0, 1), (83, .aload_n 0, 1), (84, .getfield 27, 3), (87, .iconst 4, 1), (88, .iload_n 1, 1)]
theorem dkX0_reckonSlit_0 : ∀ q ∈ tX0_reckonSlit_0, decode cX0_reckonSlit q.1 = .ok q.2 := by decide +kernel
def tX0_reckonSlit_1 : List (Nat × Instr × Nat) := [(89, .imul, 1), (90, .iconst 3, 1), (91, .iadd, 1), (92, .iaload, 1), (93, .i2l, 1), (94, .aload_n 0, 1), (95, .getfield 20, 3), (98, .iload 5, 2), (100, .iload_n 2, 1), (101, .i2l, 1), (102, .iload_n 3, 1), (103, .i2l, 1), (104, .iload 4, 2), (106, .i2l, 1), (107, .invokevirtual 158, 3), (110, .lsub, 1), (111, .iload_n 2, 1), (112, .i2l, 1), (113, .iload_n 3, 1), (114, .i2l, 1), (115, .iload 4, 2), (117, .i2l, 1), (118, .invokestatic 132, 3), (121, .invokevirtual 162, 3), (124, .iinc 1 1, 3), (127, .goto (-104), 3), (130, .iconst 0, 1), (131, .istore_n 1, 1), (132, .iload_n 1, 1), (133, .aload_n 0, 1), (134, .getfield 37, 3), (137, .if_icmp .ge 33, 3), (140, .iload_n 1, 1), (141, .iconst 1, 1), (142, .iadd, 1), (143, .istore_n 2, 1), (144, .iload_n 2, 1), (145, .aload_n 0, 1), (146, .getfield 37, 3), (149, .if_icmp .ge 15, 3), (152, .aload_n 0, 1), (153, .iload_n 1, 1), (154, .iload_n 2, 1), (155, .invokevirtual 166, 3), (158, .iinc 2 1, 3), (161, .goto (-17), 3), (164, .iinc 1 1, 3), (167, .goto (-35), 3), (170, .return_, 1)]
theorem dkX0_reckonSlit_1 : ∀ q ∈ tX0_reckonSlit_1, decode cX0_reckonSlit q.1 = .ok q.2 := by decide +kernel
def tX0_reckonSlit : List (Nat × Instr × Nat) := tX0_reckonSlit_0 ++ (tX0_reckonSlit_1)
def mX0_reckonSlit : mM := (yX0_reckonSlit, 0, cX0_reckonSlit, 6, none, tX0_reckonSlit, (4, 126, 0, 0), 0, false)
theorem odX0_reckonSlit : mOd mX0_reckonSlit := List.forall_mem_append.mpr ⟨dkX0_reckonSlit_0, dkX0_reckonSlit_1⟩
set_option maxRecDepth 100000 in
theorem okX0_reckonSlit : mOK mX0_reckonSlit := ⟨by decide +kernel, List.mem_append_right _ (List.mem_of_getElem? (i := 603) rfl), rfl, ⟨by decide +kernel, by decide +kernel⟩, by decide +kernel, fun h => absurd h (by decide)⟩
def tX0_offerSlit_0 : List (Nat × Instr × Nat) := [(0, .aload_n 0, 1), (1, .getfield 46, 3), (4, .getfield 53, 3), (7, .lconst 0, 1), (8, .lcmp, 1), (9, .ifCond .eq 17, 3), (12, .aload_n 0, 1), (13, .getfield 46, 3), (16, .lload_n 1, 1), (17, .lload_n 1, 1), (18, .lmul, 1), (19, .lload_n 3, 1), (20, .invokevirtual 170, 3), (23, .ifCond .eq 14, 3), (26, .aload_n 0, 1), (27, .getfield 46, 3), (30, .lload_n 1, 1), (31, .lload_n 1, 1), (32, .lmul, 1), (33, .lload_n 3, 1), (34, .invokevirtual 174, 3), (37, .return_, 1)]
theorem dkX0_offerSlit_0 : ∀ q ∈ tX0_offerSlit_0, decode cX0_offerSlit q.1 = .ok q.2 := by decide +kernel
def tX0_offerSlit : List (Nat × Instr × Nat) := tX0_offerSlit_0
def mX0_offerSlit : mM := (yX0_offerSlit, 0, cX0_offerSlit, 5, none, tX0_offerSlit, (2, 56, 0, 0), 2, false)
theorem odX0_offerSlit : mOd mX0_offerSlit := dkX0_offerSlit_0
set_option maxRecDepth 100000 in
theorem okX0_offerSlit : mOK mX0_offerSlit := ⟨by decide +kernel, List.mem_append_right _ (List.mem_of_getElem? (i := 609) rfl), rfl, ⟨by decide +kernel, by decide +kernel⟩, by decide +kernel, fun h => absurd h (by decide)⟩
def tX0_offerEdges_0 : List (Nat × Instr × Nat) := [(0, .aload_n 0, 1), (1, .getfield 40, 3), (4, .iconst 4, 1), (5, .iload_n 1, 1), (6, .imul, 1), (7, .iaload, 1), (8, .istore_n 3, 1), (9, .aload_n 0, 1), (10, .getfield 40, 3), (13, .iconst 4, 1), (14, .iload_n 1, 1), (15, .imul, 1), (16, .iconst 1, 1), (17, .iadd, 1), (18, .iaload, 1), (19, .istore 4, 2), (21, .aload_n 0, 1), (22, .getfield 40, 3), (25, .iconst 4, 1), (26, .iload_n 2, 1), (27, .imul, 1), (28, .iaload, 1), (29, .istore 5, 2), (31, .aload_n 0, 1), (32, .getfield 40, 3), (35, .iconst 4, 1), (36, .iload_n 2, 1), (37, .imul, 1), (38, .iconst 1, 1), (39, .iadd, 1), (40, .iaload, 1), (41, .istore 6, 2), (43, .aload_n 0, 1), (44, .getfield 20, 3), (47, .getfield 89, 3), (50, .iload 4, 2), (52, .iaload, 1), (53, .aload_n 0, 1), (54, .getfield 20, 3), (57, .getfield 89, 3), (60, .iload_n 3, 1), (61, .iaload, 1), (62, .isub, 1), (63, .i2l, 1), (64, .lstore 7, 2), (66, .aload_n 0, 1), (67, .getfield 20, 3), (70, .getfield 92, 3), (73, .iload 4, 2), (75, .iaload, 1), (76, .aload_n 0, 1), (77, .getfield 20, 3), (80, .getfield 92, 3), (83, .iload_n 3, 1), (84, .iaload, 1), (85, .isub, 1), (86, .i2l, 1), (87, .lstore 9, 2), (89, .aload_n 0, 1), (90, .getfield 20, 3)]
theorem dkX0_offerEdges_0 : ∀ q ∈ tX0_offerEdges_0, decode cX0_offerEdges q.1 = .ok q.2 := by decide +kernel
def tX0_offerEdges_1 : List (Nat × Instr × Nat) := [(93, .getfield 95, 3), (96, .iload 4, 2), (98, .iaload, 1), (99, .aload_n 0, 1), (100, .getfield 20, 3), (103, .getfield 95, 3), (106, .iload_n 3, 1), (107, .iaload, 1), (108, .isub, 1), (109, .i2l, 1), (110, .lstore 11, 2), (112, .aload_n 0, 1), (113, .getfield 20, 3), (116, .getfield 89, 3), (119, .iload 6, 2), (121, .iaload, 1), (122, .aload_n 0, 1), (123, .getfield 20, 3), (126, .getfield 89, 3), (129, .iload 5, 2), (131, .iaload, 1), (132, .isub, 1), (133, .i2l, 1), (134, .lstore 13, 2), (136, .aload_n 0, 1), (137, .getfield 20, 3), (140, .getfield 92, 3), (143, .iload 6, 2), (145, .iaload, 1), (146, .aload_n 0, 1), (147, .getfield 20, 3), (150, .getfield 92, 3), (153, .iload 5, 2), (155, .iaload, 1), (156, .isub, 1), (157, .i2l, 1), (158, .lstore 15, 2), (160, .aload_n 0, 1), (161, .getfield 20, 3), (164, .getfield 95, 3), (167, .iload 6, 2), (169, .iaload, 1), (170, .aload_n 0, 1), (171, .getfield 20, 3), (174, .getfield 95, 3), (177, .iload 5, 2), (179, .iaload, 1), (180, .isub, 1), (181, .i2l, 1), (182, .lstore 17, 2), (184, .aload_n 0, 1), (185, .iload_n 1, 1), (186, .lload 13, 2), (188, .lload 15, 2), (190, .lload 17, 2), (192, .invokevirtual 177, 3), (195, .ifCond .eq 17, 3), (198, .aload_n 0, 1), (199, .iload_n 2, 1), (200, .lload 7, 2)]
theorem dkX0_offerEdges_1 : ∀ q ∈ tX0_offerEdges_1, decode cX0_offerEdges q.1 = .ok q.2 := by decide +kernel
def tX0_offerEdges_2 : List (Nat × Instr × Nat) := [(202, .lload 9, 2), (204, .lload 11, 2), (206, .invokevirtual 177, 3), (209, .ifCond .ne 4, 3), (212, .return_, 1), (213, .lload 9, 2), (215, .lload 17, 2), (217, .lmul, 1), (218, .lload 11, 2), (220, .lload 15, 2), (222, .lmul, 1), (223, .lsub, 1), (224, .lstore 19, 2), (226, .lload 11, 2), (228, .lload 13, 2), (230, .lmul, 1), (231, .lload 7, 2), (233, .lload 17, 2), (235, .lmul, 1), (236, .lsub, 1), (237, .lstore 21, 2), (239, .lload 7, 2), (241, .lload 15, 2), (243, .lmul, 1), (244, .lload 9, 2), (246, .lload 13, 2), (248, .lmul, 1), (249, .lsub, 1), (250, .lstore 23, 2), (252, .aload_n 0, 1), (253, .getfield 20, 3), (256, .iload_n 3, 1), (257, .lload 19, 2), (259, .lload 21, 2), (261, .lload 23, 2), (263, .invokevirtual 158, 3), (266, .aload_n 0, 1), (267, .getfield 20, 3), (270, .iload 5, 2), (272, .lload 19, 2), (274, .lload 21, 2), (276, .lload 23, 2), (278, .invokevirtual 158, 3), (281, .lsub, 1), (282, .lstore 25, 2), (284, .lload 25, 2), (286, .lconst 0, 1), (287, .lcmp, 1), (288, .ifCond .eq 18, 3), (291, .aload_n 0, 1), (292, .lload 25, 2), (294, .lload 19, 2), (296, .lload 21, 2), (298, .lload 23, 2), (300, .invokestatic 132, 3), (303, .invokevirtual 162, 3), (306, .return_, 1)]
theorem dkX0_offerEdges_2 : ∀ q ∈ tX0_offerEdges_2, decode cX0_offerEdges q.1 = .ok q.2 := by decide +kernel
def tX0_offerEdges : List (Nat × Instr × Nat) := tX0_offerEdges_0 ++ (tX0_offerEdges_1 ++ (tX0_offerEdges_2))
def mX0_offerEdges : mM := (yX0_offerEdges, 0, cX0_offerEdges, 27, none, tX0_offerEdges, (3, 80, 0, 0), 2, false)
theorem odX0_offerEdges : mOd mX0_offerEdges := List.forall_mem_append.mpr ⟨dkX0_offerEdges_0, List.forall_mem_append.mpr ⟨dkX0_offerEdges_1, dkX0_offerEdges_2⟩⟩
set_option maxRecDepth 100000 in
theorem okX0_offerEdges : mOK mX0_offerEdges := ⟨by decide +kernel, List.mem_append_right _ (List.mem_of_getElem? (i := 619) rfl), rfl, ⟨by decide +kernel, by decide +kernel⟩, by decide +kernel, fun h => absurd h (by decide)⟩
def tX0_isPassedBy_0 : List (Nat × Instr × Nat) := [(0, .iconst 4, 1), (1, .aload_n 0, 1), (2, .getfield 40, 3), (5, .iconst 4, 1), (6, .iload_n 1, 1), (7, .imul, 1), (8, .iconst 2, 1), (9, .iadd, 1), (10, .iaload, 1), (11, .imul, 1), (12, .istore 8, 2), (14, .iconst 4, 1), (15, .aload_n 0, 1), (16, .getfield 40, 3), (19, .iconst 4, 1), (20, .iload_n 1, 1), (21, .imul, 1), (22, .iconst 3, 1), (23, .iadd, 1), (24, .iaload, 1), (25, .imul, 1), (26, .istore 9, 2), (28, .aload_n 0, 1), (29, .getfield 27, 3), (32, .iload 8, 2), (34, .iaload, 1), (35, .i2l, 1), (36, .lload_n 2, 1), (37, .lmul, 1), (38, .aload_n 0, 1), (39, .getfield 27, 3), (42, .iload 8, 2), (44, .iconst 1, 1), (45, .iadd, 1), (46, .iaload, 1), (47, .i2l, 1), (48, .lload 4, 2), (50, .lmul, 1), (51, .ladd, 1), (52, .aload_n 0, 1), (53, .getfield 27, 3), (56, .iload 8, 2), (58, .iconst 2, 1), (59, .iadd, 1), (60, .iaload, 1), (61, .i2l, 1), (62, .lload 6, 2), (64, .lmul, 1), (65, .ladd, 1), (66, .lstore 10, 2), (68, .aload_n 0, 1), (69, .getfield 27, 3), (72, .iload 9, 2), (74, .iaload, 1), (75, .i2l, 1), (76, .lload_n 2, 1), (77, .lmul, 1), (78, .aload_n 0, 1), (79, .getfield 27, 3), (82, .iload 9, 2)]
theorem dkX0_isPassedBy_0 : ∀ q ∈ tX0_isPassedBy_0, decode cX0_isPassedBy q.1 = .ok q.2 := by decide +kernel
def tX0_isPassedBy_1 : List (Nat × Instr × Nat) := [(84, .iconst 1, 1), (85, .iadd, 1), (86, .iaload, 1), (87, .i2l, 1), (88, .lload 4, 2), (90, .lmul, 1), (91, .ladd, 1), (92, .aload_n 0, 1), (93, .getfield 27, 3), (96, .iload 9, 2), (98, .iconst 2, 1), (99, .iadd, 1), (100, .iaload, 1), (101, .i2l, 1), (102, .lload 6, 2), (104, .lmul, 1), (105, .ladd, 1), (106, .lstore 12, 2), (108, .lload 10, 2), (110, .lconst 0, 1), (111, .lcmp, 1), (112, .ifCond .gt 10, 3), (115, .lload 12, 2), (117, .lconst 0, 1), (118, .lcmp, 1), (119, .ifCond .ge 17, 3), (122, .lload 10, 2), (124, .lconst 0, 1), (125, .lcmp, 1), (126, .ifCond .lt 14, 3), (129, .lload 12, 2), (131, .lconst 0, 1), (132, .lcmp, 1), (133, .ifCond .gt 7, 3), (136, .iconst 1, 1), (137, .goto 4, 3), (140, .iconst 0, 1), (141, .ireturn, 1)]
theorem dkX0_isPassedBy_1 : ∀ q ∈ tX0_isPassedBy_1, decode cX0_isPassedBy q.1 = .ok q.2 := by decide +kernel
def tX0_isPassedBy : List (Nat × Instr × Nat) := tX0_isPassedBy_0 ++ (tX0_isPassedBy_1)
def mX0_isPassedBy : mM := (yX0_isPassedBy, 0, cX0_isPassedBy, 14, (some .boolean), tX0_isPassedBy, (0, 0, 0, 0), 4, false)
theorem odX0_isPassedBy : mOd mX0_isPassedBy := List.forall_mem_append.mpr ⟨dkX0_isPassedBy_0, dkX0_isPassedBy_1⟩
set_option maxRecDepth 100000 in
theorem okX0_isPassedBy : mOK mX0_isPassedBy := ⟨by decide +kernel, List.mem_append_right _ (List.mem_of_getElem? (i := 623) rfl), rfl, ⟨by decide +kernel, by decide +kernel⟩, by decide +kernel, fun h => absurd h (by decide)⟩
def tX1_init_0 : List (Nat × Instr × Nat) := [(0, .aload_n 0, 1), (1, .invokespecial 3, 3), (4, .aload_n 0, 1), (5, .lconst 0, 1), (6, .putfield 9, 3), (9, .aload_n 0, 1), (10, .lconst 1, 1), (11, .putfield 15, 3), (14, .aload_n 0, 1), (15, .iconst 0, 1), (16, .putfield 18, 3), (19, .aload_n 0, 1), (20, .iconst 4, 1), (21, .newarray .int, 2), (23, .putfield 22, 3), (26, .aload_n 0, 1), (27, .iconst 4, 1), (28, .newarray .int, 2), (30, .putfield 26, 3), (33, .aload_n 0, 1), (34, .iconst 4, 1), (35, .newarray .int, 2), (37, .putfield 29, 3), (40, .aload_n 0, 1), (41, .iconst 4, 1), (42, .newarray .int, 2), (44, .putfield 32, 3), (47, .aload_n 0, 1), (48, .lconst 0, 1), (49, .putfield 35, 3), (52, .aload_n 0, 1), (53, .lconst 0, 1), (54, .putfield 38, 3), (57, .aload_n 0, 1), (58, .lconst 0, 1), (59, .putfield 41, 3), (62, .return_, 1)]
theorem dkX1_init_0 : ∀ q ∈ tX1_init_0, decode cX1_init q.1 = .ok q.2 := by decide +kernel
def tX1_init : List (Nat × Instr × Nat) := tX1_init_0
def mX1_init : mM := (yX1_init, 1, cX1_init, 1, none, tX1_init, (1, 20, 8, 64), 0, true)
theorem odX1_init : mOd mX1_init := dkX1_init_0
set_option maxRecDepth 100000 in
theorem okX1_init : mOK mX1_init := ⟨by decide +kernel, List.mem_append_right _ (List.mem_of_getElem? (i := 196) rfl), rfl, ⟨by decide +kernel, by decide +kernel⟩, by decide +kernel, fun _ => rfl⟩
def tX1_reckon_0 : List (Nat × Instr × Nat) := [(0, .aload_n 0, 1), (1, .iconst 0, 1), (2, .putfield 18, 3), (5, .aload_n 0, 1), (6, .aload_n 1, 1), (7, .iconst 0, 1), (8, .aload_n 2, 1), (9, .iconst 0, 1), (10, .invokevirtual 44, 3), (13, .iconst 0, 1), (14, .istore_n 3, 1), (15, .iload_n 3, 1), (16, .ldc 48, 2), (18, .if_icmp .ge 96, 3), (21, .aload_n 0, 1), (22, .invokevirtual 49, 3), (25, .ifCond .eq 12, 3), (28, .aload_n 0, 1), (29, .getfield 9, 3), (32, .lconst 0, 1), (33, .lcmp, 1), (34, .ifCond .ne 14, 3), (37, .aload_n 0, 1), (38, .lconst 0, 1), (39, .putfield 9, 3), (42, .aload_n 0, 1), (43, .lconst 1, 1), (44, .putfield 15, 3), (47, .return_, 1), (48, .aload_n 0, 1), (49, .aload_n 1, 1), (50, .aload_n 1, 1), (51, .aload_n 0, 1), (52, .getfield 35, 3), (55, .lneg, 1), (56, .aload_n 0, 1), (57, .getfield 38, 3), (60, .lneg, 1), (61, .aload_n 0, 1), (62, .getfield 41, 3), (65, .lneg, 1), (66, .invokevirtual 53, 3), (69, .aload_n 2, 1), (70, .aload_n 2, 1), (71, .aload_n 0, 1), (72, .getfield 35, 3), (75, .aload_n 0, 1), (76, .getfield 38, 3), (79, .aload_n 0, 1), (80, .getfield 41, 3), (83, .invokevirtual 53, 3), (86, .invokevirtual 44, 3), (89, .aload_n 0, 1), (90, .aload_n 0, 1), (91, .getfield 18, 3), (94, .iconst 1, 1), (95, .isub, 1), (96, .invokevirtual 59, 3), (99, .aload_n 0, 1), (100, .getfield 9, 3)]
theorem dkX1_reckon_0 : ∀ q ∈ tX1_reckon_0, decode cX1_reckon q.1 = .ok q.2 := by decide +kernel
def tX1_reckon_1 : List (Nat × Instr × Nat) := [(103, .lcmp, 1), (104, .ifCond .lt 4, 3), (107, .return_, 1), (108, .iinc 3 1, 3), (111, .goto (-96), 3), (114, .return_, 1)]
theorem dkX1_reckon_1 : ∀ q ∈ tX1_reckon_1, decode cX1_reckon q.1 = .ok q.2 := by decide +kernel
def tX1_reckon : List (Nat × Instr × Nat) := tX1_reckon_0 ++ (tX1_reckon_1)
def mX1_reckon : mM := (yX1_reckon, 1, cX1_reckon, 4, none, tX1_reckon, (5, 115, 0, 0), 2, false)
theorem odX1_reckon : mOd mX1_reckon := List.forall_mem_append.mpr ⟨dkX1_reckon_0, dkX1_reckon_1⟩
set_option maxRecDepth 100000 in
theorem okX1_reckon : mOK mX1_reckon := ⟨by decide +kernel, List.mem_append_right _ (List.mem_of_getElem? (i := 635) rfl), rfl, ⟨by decide +kernel, by decide +kernel⟩, by decide +kernel, fun h => absurd h (by decide)⟩
end
section
def tX1_addDifference_0 : List (Nat × Instr × Nat) := [(0, .aload_n 0, 1), (1, .getfield 18, 3), (4, .aload_n 0, 1), (5, .getfield 22, 3), (8, .arraylength, 1), (9, .if_icmp .ge 82, 3), (12, .aload_n 0, 1), (13, .getfield 22, 3), (16, .aload_n 0, 1), (17, .getfield 18, 3), (20, .aload_n 1, 1), (21, .getfield 63, 3), (24, .iload_n 2, 1), (25, .iaload, 1), (26, .aload_n 3, 1), (27, .getfield 63, 3), (30, .iload 4, 2), (32, .iaload, 1), (33, .isub, 1), (34, .iastore, 1), (35, .aload_n 0, 1), (36, .getfield 26, 3), (39, .aload_n 0, 1), (40, .getfield 18, 3), (43, .aload_n 1, 1), (44, .getfield 64, 3), (47, .iload_n 2, 1), (48, .iaload, 1), (49, .aload_n 3, 1), (50, .getfield 64, 3), (53, .iload 4, 2), (55, .iaload, 1), (56, .isub, 1), (57, .iastore, 1), (58, .aload_n 0, 1), (59, .getfield 29, 3), (62, .aload_n 0, 1), (63, .getfield 18, 3), (66, .aload_n 1, 1), (67, .getfield 65, 3), (70, .iload_n 2, 1), (71, .iaload, 1), (72, .aload_n 3, 1), (73, .getfield 65, 3), (76, .iload 4, 2), (78, .iaload, 1), (79, .isub, 1), (80, .iastore, 1), (81, .aload_n 0, 1), (82, .dup, 1), (83, .getfield 18, 3), (86, .iconst 1, 1), (87, .iadd, 1), (88, .putfield 18, 3), (91, .return_, 1)]
theorem dkX1_addDifference_0 : ∀ q ∈ tX1_addDifference_0, decode cX1_addDifference q.1 = .ok q.2 := by decide +kernel
def tX1_addDifference : List (Nat × Instr × Nat) := tX1_addDifference_0
def mX1_addDifference : mM := (yX1_addDifference, 1, cX1_addDifference, 5, none, tX1_addDifference, (0, 0, 0, 0), 4, false)
theorem odX1_addDifference : mOd mX1_addDifference := dkX1_addDifference_0
set_option maxRecDepth 100000 in
theorem okX1_addDifference : mOK mX1_addDifference := ⟨by decide +kernel, List.mem_append_right _ (List.mem_of_getElem? (i := 639) rfl), rfl, ⟨by decide +kernel, by decide +kernel⟩, by decide +kernel, fun h => absurd h (by decide)⟩
def tX1_shrink_0 : List (Nat × Instr × Nat) := [(0, .iconst 1, 1), (1, .aload_n 0, 1), (2, .getfield 18, 3), (5, .iconst 1, 1), (6, .isub, 1), (7, .ishl, 1), (8, .istore_n 1, 1), (9, .iconst 0, 1), (10, .istore_n 2, 1), (11, .iload_n 2, 1), (12, .iload_n 1, 1), (13, .if_icmp .ge 28, 3), (16, .aload_n 0, 1), (17, .iload_n 1, 1), (18, .iload_n 2, 1), (19, .ior, 1), (20, .invokevirtual 66, 3), (23, .ifCond .eq 12, 3), (26, .aload_n 0, 1), (27, .iload_n 1, 1), (28, .iload_n 2, 1), (29, .ior, 1), (30, .invokevirtual 70, 3), (33, .iconst 1, 1), (34, .ireturn, 1), (35, .iinc 2 1, 3), (38, .goto (-27), 3), (41, .iconst 0, 1), (42, .ireturn, 1)]
theorem dkX1_shrink_0 : ∀ q ∈ tX1_shrink_0, decode cX1_shrink q.1 = .ok q.2 := by decide +kernel
def tX1_shrink : List (Nat × Instr × Nat) := tX1_shrink_0
def mX1_shrink : mM := (yX1_shrink, 1, cX1_shrink, 3, (some .boolean), tX1_shrink, (4, 93, 0, 0), 0, false)
theorem odX1_shrink : mOd mX1_shrink := dkX1_shrink_0
set_option maxRecDepth 100000 in
theorem okX1_shrink : mOK mX1_shrink := ⟨by decide +kernel, List.mem_append_right _ (List.mem_of_getElem? (i := 644) rfl), rfl, ⟨by decide +kernel, by decide +kernel⟩, by decide +kernel, fun h => absurd h (by decide)⟩
def tX1_holdsNearest_0 : List (Nat × Instr × Nat) := [(0, .iconst 0, 1), (1, .istore_n 2, 1), (2, .iconst 0, 1), (3, .istore_n 3, 1), (4, .iload_n 3, 1), (5, .aload_n 0, 1), (6, .getfield 18, 3), (9, .if_icmp .ge 28, 3), (12, .iload_n 1, 1), (13, .iload_n 3, 1), (14, .ishr, 1), (15, .iconst 1, 1), (16, .iand, 1), (17, .iconst 1, 1), (18, .if_icmp .ne 13, 3), (21, .aload_n 0, 1), (22, .getfield 32, 3), (25, .iload_n 2, 1), (26, .iload_n 3, 1), (27, .iastore, 1), (28, .iinc 2 1, 3), (31, .iinc 3 1, 3), (34, .goto (-30), 3), (37, .iload_n 2, 1), (38, .iconst 1, 1), (39, .if_icmp .ne 16, 3), (42, .aload_n 0, 1), (43, .aload_n 0, 1), (44, .getfield 32, 3), (47, .iconst 0, 1), (48, .iaload, 1), (49, .invokevirtual 74, 3), (52, .goto 62, 3), (55, .iload_n 2, 1), (56, .iconst 2, 1), (57, .if_icmp .ne 22, 3), (60, .aload_n 0, 1), (61, .aload_n 0, 1), (62, .getfield 32, 3), (65, .iconst 0, 1), (66, .iaload, 1), (67, .aload_n 0, 1), (68, .getfield 32, 3), (71, .iconst 1, 1), (72, .iaload, 1), (73, .invokevirtual 77, 3), (76, .goto 38, 3), (79, .iload_n 2, 1), (80, .iconst 3, 1), (81, .if_icmp .ne 32, 3), (84, .aload_n 0, 1), (85, .aload_n 0, 1), (86, .getfield 32, 3), (89, .iconst 0, 1), (90, .iaload, 1), (91, .aload_n 0, 1), (92, .getfield 32, 3), (95, .iconst 1, 1), (96, .iaload, 1), (97, .aload_n 0, 1)]
theorem dkX1_holdsNearest_0 : ∀ q ∈ tX1_holdsNearest_0, decode cX1_holdsNearest q.1 = .ok q.2 := by decide +kernel
def tX1_holdsNearest_1 : List (Nat × Instr × Nat) := [(98, .getfield 32, 3), (101, .iconst 2, 1), (102, .iaload, 1), (103, .invokevirtual 81, 3), (106, .ifCond .eq 7, 3), (109, .iconst 1, 1), (110, .goto 4, 3), (113, .iconst 0, 1), (114, .istore_n 3, 1), (115, .iconst 0, 1), (116, .istore 4, 2), (118, .iload 4, 2), (120, .aload_n 0, 1), (121, .getfield 18, 3), (124, .if_icmp .ge 43, 3), (127, .iload_n 3, 1), (128, .ifCond .eq 39, 3), (131, .iload_n 1, 1), (132, .iload 4, 2), (134, .ishr, 1), (135, .iconst 1, 1), (136, .iand, 1), (137, .iconst 1, 1), (138, .if_icmp .eq 17, 3), (141, .aload_n 0, 1), (142, .iload 4, 2), (144, .invokevirtual 59, 3), (147, .aload_n 0, 1), (148, .getfield 9, 3), (151, .lcmp, 1), (152, .ifCond .lt 7, 3), (155, .iconst 1, 1), (156, .goto 4, 3), (159, .iconst 0, 1), (160, .istore_n 3, 1), (161, .iinc 4 1, 3), (164, .goto (-46), 3), (167, .iload_n 3, 1), (168, .ireturn, 1)]
theorem dkX1_holdsNearest_1 : ∀ q ∈ tX1_holdsNearest_1, decode cX1_holdsNearest q.1 = .ok q.2 := by decide +kernel
def tX1_holdsNearest : List (Nat × Instr × Nat) := tX1_holdsNearest_0 ++ (tX1_holdsNearest_1)
def mX1_holdsNearest : mM := (yX1_holdsNearest, 1, cX1_holdsNearest, 5, (some .boolean), tX1_holdsNearest, (3, 69, 0, 0), 1, false)
theorem odX1_holdsNearest : mOd mX1_holdsNearest := List.forall_mem_append.mpr ⟨dkX1_holdsNearest_0, dkX1_holdsNearest_1⟩
set_option maxRecDepth 100000 in
theorem okX1_holdsNearest : mOK mX1_holdsNearest := ⟨by decide +kernel, List.mem_append_right _ (List.mem_of_getElem? (i := 648) rfl), rfl, ⟨by decide +kernel, by decide +kernel⟩, by decide +kernel, fun h => absurd h (by decide)⟩
def tX1_keepPicked_0 : List (Nat × Instr × Nat) := [(0, .iconst 0, 1), (1, .istore_n 2, 1), (2, .iconst 0, 1), (3, .istore_n 3, 1), (4, .iload_n 3, 1), (5, .aload_n 0, 1), (6, .getfield 18, 3), (9, .if_icmp .ge 57, 3), (12, .iload_n 1, 1), (13, .iload_n 3, 1), (14, .ishr, 1), (15, .iconst 1, 1), (16, .iand, 1), (17, .iconst 1, 1), (18, .if_icmp .ne 42, 3), (21, .aload_n 0, 1), (22, .getfield 22, 3), (25, .iload_n 2, 1), (26, .aload_n 0, 1), (27, .getfield 22, 3), (30, .iload_n 3, 1), (31, .iaload, 1), (32, .iastore, 1), (33, .aload_n 0, 1), (34, .getfield 26, 3), (37, .iload_n 2, 1), (38, .aload_n 0, 1), (39, .getfield 26, 3), (42, .iload_n 3, 1), (43, .iaload, 1), (44, .iastore, 1), (45, .aload_n 0, 1), (46, .getfield 29, 3), (49, .iload_n 2, 1), (50, .aload_n 0, 1), (51, .getfield 29, 3), (54, .iload_n 3, 1), (55, .iaload, 1), (56, .iastore, 1), (57, .iinc 2 1, 3), (60, .iinc 3 1, 3), (63, .goto (-59), 3), (66, .aload_n 0, 1), (67, .iload_n 2, 1), (68, .putfield 18, 3), (71, .return_, 1)]
theorem dkX1_keepPicked_0 : ∀ q ∈ tX1_keepPicked_0, decode cX1_keepPicked q.1 = .ok q.2 := by decide +kernel
def tX1_keepPicked : List (Nat × Instr × Nat) := tX1_keepPicked_0
def mX1_keepPicked : mM := (yX1_keepPicked, 1, cX1_keepPicked, 4, none, tX1_keepPicked, (0, 0, 0, 0), 1, false)
theorem odX1_keepPicked : mOd mX1_keepPicked := dkX1_keepPicked_0
set_option maxRecDepth 100000 in
theorem okX1_keepPicked : mOK mX1_keepPicked := ⟨by decide +kernel, List.mem_append_right _ (List.mem_of_getElem? (i := 684) rfl), rfl, ⟨by decide +kernel, by decide +kernel⟩, by decide +kernel, fun h => absurd h (by decide)⟩
def tX1_stepToPoint_0 : List (Nat × Instr × Nat) := [(0, .aload_n 0, 1), (1, .aload_n 0, 1), (2, .getfield 22, 3), (5, .iload_n 1, 1), (6, .iaload, 1), (7, .i2l, 1), (8, .putfield 35, 3), (11, .aload_n 0, 1), (12, .aload_n 0, 1), (13, .getfield 26, 3), (16, .iload_n 1, 1), (17, .iaload, 1), (18, .i2l, 1), (19, .putfield 38, 3), (22, .aload_n 0, 1), (23, .aload_n 0, 1), (24, .getfield 29, 3), (27, .iload_n 1, 1), (28, .iaload, 1), (29, .i2l, 1), (30, .putfield 41, 3), (33, .aload_n 0, 1), (34, .aload_n 0, 1), (35, .iload_n 1, 1), (36, .invokevirtual 59, 3), (39, .putfield 9, 3), (42, .aload_n 0, 1), (43, .lconst 1, 1), (44, .putfield 15, 3), (47, .iconst 1, 1), (48, .ireturn, 1)]
theorem dkX1_stepToPoint_0 : ∀ q ∈ tX1_stepToPoint_0, decode cX1_stepToPoint q.1 = .ok q.2 := by decide +kernel
def tX1_stepToPoint : List (Nat × Instr × Nat) := tX1_stepToPoint_0
def mX1_stepToPoint : mM := (yX1_stepToPoint, 1, cX1_stepToPoint, 2, (some .boolean), tX1_stepToPoint, (1, 21, 0, 0), 1, false)
theorem odX1_stepToPoint : mOd mX1_stepToPoint := dkX1_stepToPoint_0
set_option maxRecDepth 100000 in
theorem okX1_stepToPoint : mOK mX1_stepToPoint := ⟨by decide +kernel, List.mem_append_right _ (List.mem_of_getElem? (i := 652) rfl), rfl, ⟨by decide +kernel, by decide +kernel⟩, by decide +kernel, fun h => absurd h (by decide)⟩
def tX1_stepToLine_0 : List (Nat × Instr × Nat) := [(0, .aload_n 0, 1), (1, .getfield 22, 3), (4, .iload_n 2, 1), (5, .iaload, 1), (6, .aload_n 0, 1), (7, .getfield 22, 3), (10, .iload_n 1, 1), (11, .iaload, 1), (12, .isub, 1), (13, .i2l, 1), (14, .lstore_n 3, 1), (15, .aload_n 0, 1), (16, .getfield 26, 3), (19, .iload_n 2, 1), (20, .iaload, 1), (21, .aload_n 0, 1), (22, .getfield 26, 3), (25, .iload_n 1, 1), (26, .iaload, 1), (27, .isub, 1), (28, .i2l, 1), (29, .lstore 5, 2), (31, .aload_n 0, 1), (32, .getfield 29, 3), (35, .iload_n 2, 1), (36, .iaload, 1), (37, .aload_n 0, 1), (38, .getfield 29, 3), (41, .iload_n 1, 1), (42, .iaload, 1), (43, .isub, 1), (44, .i2l, 1), (45, .lstore 7, 2), (47, .lload_n 3, 1), (48, .aload_n 0, 1), (49, .getfield 22, 3), (52, .iload_n 1, 1), (53, .iaload, 1), (54, .i2l, 1), (55, .lmul, 1), (56, .lload 5, 2), (58, .aload_n 0, 1), (59, .getfield 26, 3), (62, .iload_n 1, 1), (63, .iaload, 1), (64, .i2l, 1), (65, .lmul, 1), (66, .ladd, 1), (67, .lload 7, 2), (69, .aload_n 0, 1), (70, .getfield 29, 3), (73, .iload_n 1, 1), (74, .iaload, 1), (75, .i2l, 1), (76, .lmul, 1), (77, .ladd, 1), (78, .lneg, 1), (79, .lstore 9, 2), (81, .lload_n 3, 1), (82, .aload_n 0, 1)]
theorem dkX1_stepToLine_0 : ∀ q ∈ tX1_stepToLine_0, decode cX1_stepToLine q.1 = .ok q.2 := by decide +kernel
def tX1_stepToLine_1 : List (Nat × Instr × Nat) := [(83, .getfield 22, 3), (86, .iload_n 2, 1), (87, .iaload, 1), (88, .i2l, 1), (89, .lmul, 1), (90, .lload 5, 2), (92, .aload_n 0, 1), (93, .getfield 26, 3), (96, .iload_n 2, 1), (97, .iaload, 1), (98, .i2l, 1), (99, .lmul, 1), (100, .ladd, 1), (101, .lload 7, 2), (103, .aload_n 0, 1), (104, .getfield 29, 3), (107, .iload_n 2, 1), (108, .iaload, 1), (109, .i2l, 1), (110, .lmul, 1), (111, .ladd, 1), (112, .lstore 11, 2), (114, .lload 9, 2), (116, .lconst 0, 1), (117, .lcmp, 1), (118, .ifCond .le 10, 3), (121, .lload 11, 2), (123, .lconst 0, 1), (124, .lcmp, 1), (125, .ifCond .gt 5, 3), (128, .iconst 0, 1), (129, .ireturn, 1), (130, .aload_n 0, 1), (131, .lload 11, 2), (133, .aload_n 0, 1), (134, .getfield 22, 3), (137, .iload_n 1, 1), (138, .iaload, 1), (139, .i2l, 1), (140, .lmul, 1), (141, .lload 9, 2), (143, .aload_n 0, 1), (144, .getfield 22, 3), (147, .iload_n 2, 1), (148, .iaload, 1), (149, .i2l, 1), (150, .lmul, 1), (151, .ladd, 1), (152, .putfield 35, 3), (155, .aload_n 0, 1), (156, .lload 11, 2), (158, .aload_n 0, 1), (159, .getfield 26, 3), (162, .iload_n 1, 1), (163, .iaload, 1), (164, .i2l, 1), (165, .lmul, 1), (166, .lload 9, 2), (168, .aload_n 0, 1), (169, .getfield 26, 3)]
theorem dkX1_stepToLine_1 : ∀ q ∈ tX1_stepToLine_1, decode cX1_stepToLine q.1 = .ok q.2 := by decide +kernel
def tX1_stepToLine_2 : List (Nat × Instr × Nat) := [(172, .iload_n 2, 1), (173, .iaload, 1), (174, .i2l, 1), (175, .lmul, 1), (176, .ladd, 1), (177, .putfield 38, 3), (180, .aload_n 0, 1), (181, .lload 11, 2), (183, .aload_n 0, 1), (184, .getfield 29, 3), (187, .iload_n 1, 1), (188, .iaload, 1), (189, .i2l, 1), (190, .lmul, 1), (191, .lload 9, 2), (193, .aload_n 0, 1), (194, .getfield 29, 3), (197, .iload_n 2, 1), (198, .iaload, 1), (199, .i2l, 1), (200, .lmul, 1), (201, .ladd, 1), (202, .putfield 41, 3), (205, .aload_n 0, 1), (206, .aload_n 0, 1), (207, .iload_n 1, 1), (208, .invokevirtual 59, 3), (211, .putfield 9, 3), (214, .aload_n 0, 1), (215, .lload 9, 2), (217, .lload 11, 2), (219, .ladd, 1), (220, .putfield 15, 3), (223, .iconst 1, 1), (224, .ireturn, 1)]
theorem dkX1_stepToLine_2 : ∀ q ∈ tX1_stepToLine_2, decode cX1_stepToLine q.1 = .ok q.2 := by decide +kernel
def tX1_stepToLine : List (Nat × Instr × Nat) := tX1_stepToLine_0 ++ (tX1_stepToLine_1 ++ (tX1_stepToLine_2))
def mX1_stepToLine : mM := (yX1_stepToLine, 1, cX1_stepToLine, 13, (some .boolean), tX1_stepToLine, (1, 21, 0, 0), 2, false)
theorem odX1_stepToLine : mOd mX1_stepToLine := List.forall_mem_append.mpr ⟨dkX1_stepToLine_0, List.forall_mem_append.mpr ⟨dkX1_stepToLine_1, dkX1_stepToLine_2⟩⟩
set_option maxRecDepth 100000 in
theorem okX1_stepToLine : mOK mX1_stepToLine := ⟨by decide +kernel, List.mem_append_right _ (List.mem_of_getElem? (i := 660) rfl), rfl, ⟨by decide +kernel, by decide +kernel⟩, by decide +kernel, fun h => absurd h (by decide)⟩
def tX1_stepToPlane_0 : List (Nat × Instr × Nat) := [(0, .aload_n 0, 1), (1, .aload_n 0, 1), (2, .iload_n 1, 1), (3, .iload_n 2, 1), (4, .invokevirtual 85, 3), (7, .aload_n 0, 1), (8, .iload_n 2, 1), (9, .iload_n 3, 1), (10, .invokevirtual 85, 3), (13, .ladd, 1), (14, .aload_n 0, 1), (15, .iload_n 3, 1), (16, .iload_n 1, 1), (17, .invokevirtual 85, 3), (20, .ladd, 1), (21, .putfield 35, 3), (24, .aload_n 0, 1), (25, .aload_n 0, 1), (26, .iload_n 1, 1), (27, .iload_n 2, 1), (28, .invokevirtual 89, 3), (31, .aload_n 0, 1), (32, .iload_n 2, 1), (33, .iload_n 3, 1), (34, .invokevirtual 89, 3), (37, .ladd, 1), (38, .aload_n 0, 1), (39, .iload_n 3, 1), (40, .iload_n 1, 1), (41, .invokevirtual 89, 3), (44, .ladd, 1), (45, .putfield 38, 3), (48, .aload_n 0, 1), (49, .aload_n 0, 1), (50, .iload_n 1, 1), (51, .iload_n 2, 1), (52, .invokevirtual 92, 3), (55, .aload_n 0, 1), (56, .iload_n 2, 1), (57, .iload_n 3, 1), (58, .invokevirtual 92, 3), (61, .ladd, 1), (62, .aload_n 0, 1), (63, .iload_n 3, 1), (64, .iload_n 1, 1), (65, .invokevirtual 92, 3), (68, .ladd, 1), (69, .putfield 41, 3), (72, .aload_n 0, 1), (73, .iload_n 1, 1), (74, .iload_n 2, 1), (75, .invokevirtual 95, 3), (78, .lconst 0, 1), (79, .lcmp, 1), (80, .ifCond .le 25, 3), (83, .aload_n 0, 1), (84, .iload_n 2, 1), (85, .iload_n 3, 1), (86, .invokevirtual 95, 3), (89, .lconst 0, 1)]
theorem dkX1_stepToPlane_0 : ∀ q ∈ tX1_stepToPlane_0, decode cX1_stepToPlane q.1 = .ok q.2 := by decide +kernel
def tX1_stepToPlane_1 : List (Nat × Instr × Nat) := [(90, .lcmp, 1), (91, .ifCond .le 14, 3), (94, .aload_n 0, 1), (95, .iload_n 3, 1), (96, .iload_n 1, 1), (97, .invokevirtual 95, 3), (100, .lconst 0, 1), (101, .lcmp, 1), (102, .ifCond .gt 5, 3), (105, .iconst 0, 1), (106, .ireturn, 1), (107, .aload_n 0, 1), (108, .aload_n 0, 1), (109, .getfield 35, 3), (112, .aload_n 0, 1), (113, .getfield 35, 3), (116, .lmul, 1), (117, .aload_n 0, 1), (118, .getfield 38, 3), (121, .aload_n 0, 1), (122, .getfield 38, 3), (125, .lmul, 1), (126, .ladd, 1), (127, .aload_n 0, 1), (128, .getfield 41, 3), (131, .aload_n 0, 1), (132, .getfield 41, 3), (135, .lmul, 1), (136, .ladd, 1), (137, .putfield 15, 3), (140, .aload_n 0, 1), (141, .iload_n 1, 1), (142, .invokevirtual 59, 3), (145, .lstore 4, 2), (147, .aload_n 0, 1), (148, .dup, 1), (149, .getfield 35, 3), (152, .lload 4, 2), (154, .lmul, 1), (155, .putfield 35, 3), (158, .aload_n 0, 1), (159, .dup, 1), (160, .getfield 38, 3), (163, .lload 4, 2), (165, .lmul, 1), (166, .putfield 38, 3), (169, .aload_n 0, 1), (170, .dup, 1), (171, .getfield 41, 3), (174, .lload 4, 2), (176, .lmul, 1), (177, .putfield 41, 3), (180, .aload_n 0, 1), (181, .aload_n 0, 1), (182, .iload_n 1, 1), (183, .invokevirtual 59, 3), (186, .putfield 9, 3), (189, .iconst 1, 1), (190, .ireturn, 1)]
theorem dkX1_stepToPlane_1 : ∀ q ∈ tX1_stepToPlane_1, decode cX1_stepToPlane q.1 = .ok q.2 := by decide +kernel
def tX1_stepToPlane : List (Nat × Instr × Nat) := tX1_stepToPlane_0 ++ (tX1_stepToPlane_1)
def mX1_stepToPlane : mM := (yX1_stepToPlane, 1, cX1_stepToPlane, 6, (some .boolean), tX1_stepToPlane, (2, 44, 0, 0), 3, false)
theorem odX1_stepToPlane : mOd mX1_stepToPlane := List.forall_mem_append.mpr ⟨dkX1_stepToPlane_0, dkX1_stepToPlane_1⟩
set_option maxRecDepth 100000 in
theorem okX1_stepToPlane : mOK mX1_stepToPlane := ⟨by decide +kernel, List.mem_append_right _ (List.mem_of_getElem? (i := 664) rfl), rfl, ⟨by decide +kernel, by decide +kernel⟩, by decide +kernel, fun h => absurd h (by decide)⟩
def tX1_along_0 : List (Nat × Instr × Nat) := [(0, .aload_n 0, 1), (1, .getfield 35, 3), (4, .aload_n 0, 1), (5, .getfield 22, 3), (8, .iload_n 1, 1), (9, .iaload, 1), (10, .i2l, 1), (11, .lmul, 1), (12, .aload_n 0, 1), (13, .getfield 38, 3), (16, .aload_n 0, 1), (17, .getfield 26, 3), (20, .iload_n 1, 1), (21, .iaload, 1), (22, .i2l, 1), (23, .lmul, 1), (24, .ladd, 1), (25, .aload_n 0, 1), (26, .getfield 41, 3), (29, .aload_n 0, 1), (30, .getfield 29, 3), (33, .iload_n 1, 1), (34, .iaload, 1), (35, .i2l, 1), (36, .lmul, 1), (37, .ladd, 1), (38, .lreturn, 1)]
theorem dkX1_along_0 : ∀ q ∈ tX1_along_0, decode cX1_along q.1 = .ok q.2 := by decide +kernel
def tX1_along : List (Nat × Instr × Nat) := tX1_along_0
def mX1_along : mM := (yX1_along, 1, cX1_along, 2, (some .long), tX1_along, (0, 0, 0, 0), 1, false)
theorem odX1_along : mOd mX1_along := dkX1_along_0
set_option maxRecDepth 100000 in
theorem okX1_along : mOK mX1_along := ⟨by decide +kernel, List.mem_append_right _ (List.mem_of_getElem? (i := 656) rfl), rfl, ⟨by decide +kernel, by decide +kernel⟩, by decide +kernel, fun h => absurd h (by decide)⟩
def tX1_share_0 : List (Nat × Instr × Nat) := [(0, .aload_n 0, 1), (1, .getfield 35, 3), (4, .aload_n 0, 1), (5, .iload_n 1, 1), (6, .iload_n 2, 1), (7, .invokevirtual 85, 3), (10, .lmul, 1), (11, .aload_n 0, 1), (12, .getfield 38, 3), (15, .aload_n 0, 1), (16, .iload_n 1, 1), (17, .iload_n 2, 1), (18, .invokevirtual 89, 3), (21, .lmul, 1), (22, .ladd, 1), (23, .aload_n 0, 1), (24, .getfield 41, 3), (27, .aload_n 0, 1), (28, .iload_n 1, 1), (29, .iload_n 2, 1), (30, .invokevirtual 92, 3), (33, .lmul, 1), (34, .ladd, 1), (35, .lreturn, 1)]
theorem dkX1_share_0 : ∀ q ∈ tX1_share_0, decode cX1_share q.1 = .ok q.2 := by decide +kernel
def tX1_share : List (Nat × Instr × Nat) := tX1_share_0
def mX1_share : mM := (yX1_share, 1, cX1_share, 3, (some .long), tX1_share, (1, 22, 0, 0), 2, false)
theorem odX1_share : mOd mX1_share := dkX1_share_0
set_option maxRecDepth 100000 in
theorem okX1_share : mOK mX1_share := ⟨by decide +kernel, List.mem_append_right _ (List.mem_of_getElem? (i := 680) rfl), rfl, ⟨by decide +kernel, by decide +kernel⟩, by decide +kernel, fun h => absurd h (by decide)⟩
def tX1_crossX_0 : List (Nat × Instr × Nat) := [(0, .aload_n 0, 1), (1, .getfield 26, 3), (4, .iload_n 1, 1), (5, .iaload, 1), (6, .i2l, 1), (7, .aload_n 0, 1), (8, .getfield 29, 3), (11, .iload_n 2, 1), (12, .iaload, 1), (13, .i2l, 1), (14, .lmul, 1), (15, .aload_n 0, 1), (16, .getfield 29, 3), (19, .iload_n 1, 1), (20, .iaload, 1), (21, .i2l, 1), (22, .aload_n 0, 1), (23, .getfield 26, 3), (26, .iload_n 2, 1), (27, .iaload, 1), (28, .i2l, 1), (29, .lmul, 1), (30, .lsub, 1), (31, .lreturn, 1)]
theorem dkX1_crossX_0 : ∀ q ∈ tX1_crossX_0, decode cX1_crossX q.1 = .ok q.2 := by decide +kernel
def tX1_crossX : List (Nat × Instr × Nat) := tX1_crossX_0
def mX1_crossX : mM := (yX1_crossX, 1, cX1_crossX, 3, (some .long), tX1_crossX, (0, 0, 0, 0), 2, false)
theorem odX1_crossX : mOd mX1_crossX := dkX1_crossX_0
set_option maxRecDepth 100000 in
theorem okX1_crossX : mOK mX1_crossX := ⟨by decide +kernel, List.mem_append_right _ (List.mem_of_getElem? (i := 668) rfl), rfl, ⟨by decide +kernel, by decide +kernel⟩, by decide +kernel, fun h => absurd h (by decide)⟩
def tX1_crossY_0 : List (Nat × Instr × Nat) := [(0, .aload_n 0, 1), (1, .getfield 29, 3), (4, .iload_n 1, 1), (5, .iaload, 1), (6, .i2l, 1), (7, .aload_n 0, 1), (8, .getfield 22, 3), (11, .iload_n 2, 1), (12, .iaload, 1), (13, .i2l, 1), (14, .lmul, 1), (15, .aload_n 0, 1), (16, .getfield 22, 3), (19, .iload_n 1, 1), (20, .iaload, 1), (21, .i2l, 1), (22, .aload_n 0, 1), (23, .getfield 29, 3), (26, .iload_n 2, 1), (27, .iaload, 1), (28, .i2l, 1), (29, .lmul, 1), (30, .lsub, 1), (31, .lreturn, 1)]
theorem dkX1_crossY_0 : ∀ q ∈ tX1_crossY_0, decode cX1_crossY q.1 = .ok q.2 := by decide +kernel
def tX1_crossY : List (Nat × Instr × Nat) := tX1_crossY_0
def mX1_crossY : mM := (yX1_crossY, 1, cX1_crossY, 3, (some .long), tX1_crossY, (0, 0, 0, 0), 2, false)
theorem odX1_crossY : mOd mX1_crossY := dkX1_crossY_0
set_option maxRecDepth 100000 in
theorem okX1_crossY : mOK mX1_crossY := ⟨by decide +kernel, List.mem_append_right _ (List.mem_of_getElem? (i := 672) rfl), rfl, ⟨by decide +kernel, by decide +kernel⟩, by decide +kernel, fun h => absurd h (by decide)⟩
def tX1_crossZ_0 : List (Nat × Instr × Nat) := [(0, .aload_n 0, 1), (1, .getfield 22, 3), (4, .iload_n 1, 1), (5, .iaload, 1), (6, .i2l, 1), (7, .aload_n 0, 1), (8, .getfield 26, 3), (11, .iload_n 2, 1), (12, .iaload, 1), (13, .i2l, 1), (14, .lmul, 1), (15, .aload_n 0, 1), (16, .getfield 26, 3), (19, .iload_n 1, 1), (20, .iaload, 1), (21, .i2l, 1), (22, .aload_n 0, 1), (23, .getfield 22, 3), (26, .iload_n 2, 1), (27, .iaload, 1), (28, .i2l, 1), (29, .lmul, 1), (30, .lsub, 1), (31, .lreturn, 1)]
theorem dkX1_crossZ_0 : ∀ q ∈ tX1_crossZ_0, decode cX1_crossZ q.1 = .ok q.2 := by decide +kernel
def tX1_crossZ : List (Nat × Instr × Nat) := tX1_crossZ_0
def mX1_crossZ : mM := (yX1_crossZ, 1, cX1_crossZ, 3, (some .long), tX1_crossZ, (0, 0, 0, 0), 2, false)
theorem odX1_crossZ : mOd mX1_crossZ := dkX1_crossZ_0
set_option maxRecDepth 100000 in
theorem okX1_crossZ : mOK mX1_crossZ := ⟨by decide +kernel, List.mem_append_right _ (List.mem_of_getElem? (i := 676) rfl), rfl, ⟨by decide +kernel, by decide +kernel⟩, by decide +kernel, fun h => absurd h (by decide)⟩
def tX2_init_0 : List (Nat × Instr × Nat) := [(0, .aload_n 0, 1), (1, .invokespecial 3, 3), (4, .aload_n 0, 1), (5, .new 9, 3), (8, .dup, 1), (9, .invokespecial 11, 3), (12, .putfield 12, 3), (15, .aload_n 0, 1), (16, .sipush 576, 3), (19, .newarray .int, 2), (21, .putfield 18, 3), (24, .aload_n 0, 1), (25, .iconst 0, 1), (26, .putfield 22, 3), (29, .aload_n 0, 1), (30, .iconst 0, 1), (31, .putfield 26, 3), (34, .aload_n 0, 1), (35, .iconst 0, 1), (36, .putfield 30, 3), (39, .aload_n 0, 1), (40, .iconst 0, 1), (41, .putfield 33, 3), (44, .aload_n 0, 1), (45, .iconst 0, 1), (46, .putfield 36, 3), (49, .return_, 1)]
theorem dkX2_init_0 : ∀ q ∈ tX2_init_0, decode cX2_init q.1 = .ok q.2 := by decide +kernel
def tX2_init : List (Nat × Instr × Nat) := tX2_init_0
def mX2_init : mM := (yX2_init, 2, cX2_init, 1, none, tX2_init, (3, 61, 40, 4000), 0, true)
theorem odX2_init : mOd mX2_init := dkX2_init_0
set_option maxRecDepth 100000 in
theorem okX2_init : mOK mX2_init := ⟨by decide +kernel, List.mem_append_right _ (List.mem_of_getElem? (i := 128) rfl), rfl, ⟨by decide +kernel, by decide +kernel⟩, by decide +kernel, fun _ => rfl⟩
def tX2_build_0 : List (Nat × Instr × Nat) := [(0, .aload_n 3, 1), (1, .invokevirtual 39, 3), (4, .aload_n 1, 1), (5, .getfield 44, 3), (8, .ifCond .eq 10, 3), (11, .aload_n 2, 1), (12, .getfield 44, 3), (15, .ifCond .ne 5, 3), (18, .iconst 0, 1), (19, .ireturn, 1), (20, .aload_n 0, 1), (21, .getfield 12, 3), (24, .invokevirtual 49, 3), (27, .aload_n 0, 1), (28, .iconst 0, 1), (29, .putfield 22, 3), (32, .aload_n 0, 1), (33, .iconst 0, 1), (34, .putfield 26, 3), (37, .aload_n 0, 1), (38, .aload_n 1, 1), (39, .aload_n 2, 1), (40, .invokevirtual 50, 3), (43, .istore 4, 2), (45, .iload 4, 2), (47, .iconst 3, 1), (48, .if_icmp .lt 18, 3), (51, .aload_n 0, 1), (52, .getfield 22, 3), (55, .ifCond .ne 11, 3), (58, .aload_n 0, 1), (59, .aload_n 1, 1), (60, .aload_n 2, 1), (61, .iload 4, 2), (63, .invokevirtual 54, 3), (66, .aload_n 0, 1), (67, .getfield 22, 3), (70, .ifCond .eq 6, 3), (73, .bipush (-2), 2), (75, .ireturn, 1), (76, .aload_n 0, 1), (77, .aload_n 3, 1), (78, .iload 4, 2), (80, .invokevirtual 58, 3), (83, .aload_n 3, 1), (84, .invokevirtual 62, 3), (87, .aload_n 3, 1), (88, .aload_n 0, 1), (89, .getfield 18, 3), (92, .invokevirtual 65, 3), (95, .iload 4, 2), (97, .ireturn, 1)]
theorem dkX2_build_0 : ∀ q ∈ tX2_build_0, decode cX2_build q.1 = .ok q.2 := by decide +kernel
def tX2_build : List (Nat × Instr × Nat) := tX2_build_0
def mX2_build : mM := (yX2_build, 2, cX2_build, 5, (some .int), tX2_build, (5, 120, 0, 0), 3, false)
theorem odX2_build : mOd mX2_build := dkX2_build_0
set_option maxRecDepth 100000 in
theorem okX2_build : mOK mX2_build := ⟨by decide +kernel, List.mem_append_right _ (List.mem_of_getElem? (i := 313) rfl), rfl, ⟨by decide +kernel, by decide +kernel⟩, by decide +kernel, fun h => absurd h (by decide)⟩
def tX2_spread_0 : List (Nat × Instr × Nat) := [(0, .aload_n 0, 1), (1, .getfield 12, 3), (4, .getfield 69, 3), (7, .astore_n 3, 1), (8, .aload_n 0, 1), (9, .aload_n 1, 1), (10, .aload_n 2, 1), (11, .lconst 0, 1), (12, .lconst 0, 1), (13, .lconst 0, 1), (14, .invokevirtual 73, 3), (17, .aload_n 0, 1), (18, .invokevirtual 77, 3), (21, .aload_n 0, 1), (22, .aload_n 1, 1), (23, .aload_n 2, 1), (24, .lconst 1, 1), (25, .lconst 0, 1), (26, .lconst 0, 1), (27, .invokevirtual 80, 3), (30, .ifCond .ne 29, 3), (33, .aload_n 0, 1), (34, .aload_n 1, 1), (35, .aload_n 2, 1), (36, .lconst 0, 1), (37, .lconst 1, 1), (38, .lconst 0, 1), (39, .invokevirtual 80, 3), (42, .ifCond .ne 17, 3), (45, .aload_n 0, 1), (46, .aload_n 1, 1), (47, .aload_n 2, 1), (48, .lconst 0, 1), (49, .lconst 0, 1), (50, .lconst 1, 1), (51, .invokevirtual 80, 3), (54, .ifCond .ne 5, 3), (57, .iconst 1, 1), (58, .ireturn, 1), (59, .aload_n 3, 1), (60, .getfield 84, 3), (63, .iconst 1, 1), (64, .iaload, 1), (65, .aload_n 3, 1), (66, .getfield 84, 3), (69, .iconst 0, 1), (70, .iaload, 1), (71, .isub, 1), (72, .istore 4, 2), (74, .aload_n 3, 1), (75, .getfield 87, 3), (78, .iconst 1, 1), (79, .iaload, 1), (80, .aload_n 3, 1), (81, .getfield 87, 3), (84, .iconst 0, 1), (85, .iaload, 1), (86, .isub, 1), (87, .istore 5, 2), (89, .aload_n 3, 1)]
theorem dkX2_spread_0 : ∀ q ∈ tX2_spread_0, decode cX2_spread q.1 = .ok q.2 := by decide +kernel
def tX2_spread_1 : List (Nat × Instr × Nat) := [(90, .getfield 90, 3), (93, .iconst 1, 1), (94, .iaload, 1), (95, .aload_n 3, 1), (96, .getfield 90, 3), (99, .iconst 0, 1), (100, .iaload, 1), (101, .isub, 1), (102, .istore 6, 2), (104, .aload_n 0, 1), (105, .aload_n 1, 1), (106, .aload_n 2, 1), (107, .lconst 0, 1), (108, .iload 6, 2), (110, .i2l, 1), (111, .iload 5, 2), (113, .ineg, 1), (114, .i2l, 1), (115, .invokevirtual 80, 3), (118, .ifCond .ne 39, 3), (121, .aload_n 0, 1), (122, .aload_n 1, 1), (123, .aload_n 2, 1), (124, .iload 6, 2), (126, .ineg, 1), (127, .i2l, 1), (128, .lconst 0, 1), (129, .iload 4, 2), (131, .i2l, 1), (132, .invokevirtual 80, 3), (135, .ifCond .ne 22, 3), (138, .aload_n 0, 1), (139, .aload_n 1, 1), (140, .aload_n 2, 1), (141, .iload 5, 2), (143, .i2l, 1), (144, .iload 4, 2), (146, .ineg, 1), (147, .i2l, 1), (148, .lconst 0, 1), (149, .invokevirtual 80, 3), (152, .ifCond .ne 5, 3), (155, .iconst 2, 1), (156, .ireturn, 1), (157, .aload_n 0, 1), (158, .aload_n 1, 1), (159, .aload_n 2, 1), (160, .aload_n 3, 1), (161, .iconst 0, 1), (162, .iconst 1, 1), (163, .iconst 2, 1), (164, .invokevirtual 93, 3), (167, .aload_n 3, 1), (168, .iconst 0, 1), (169, .iconst 1, 1), (170, .iconst 2, 1), (171, .invokevirtual 97, 3), (174, .aload_n 3, 1), (175, .iconst 0, 1), (176, .iconst 1, 1)]
theorem dkX2_spread_1 : ∀ q ∈ tX2_spread_1, decode cX2_spread q.1 = .ok q.2 := by decide +kernel
def tX2_spread_2 : List (Nat × Instr × Nat) := [(177, .iconst 2, 1), (178, .invokevirtual 100, 3), (181, .invokevirtual 80, 3), (184, .ifCond .ne 7, 3), (187, .iconst 1, 1), (188, .goto 4, 3), (191, .iconst 0, 1), (192, .istore 7, 2), (194, .iload 7, 2), (196, .ifCond .eq 7, 3), (199, .iconst 3, 1), (200, .goto 4, 3), (203, .iconst 4, 1), (204, .ireturn, 1)]
theorem dkX2_spread_2 : ∀ q ∈ tX2_spread_2, decode cX2_spread q.1 = .ok q.2 := by decide +kernel
def tX2_spread : List (Nat × Instr × Nat) := tX2_spread_0 ++ (tX2_spread_1 ++ (tX2_spread_2))
def mX2_spread : mM := (yX2_spread, 2, cX2_spread, 8, (some .int), tX2_spread, (4, 93, 0, 0), 2, false)
theorem odX2_spread : mOd mX2_spread := List.forall_mem_append.mpr ⟨dkX2_spread_0, List.forall_mem_append.mpr ⟨dkX2_spread_1, dkX2_spread_2⟩⟩
set_option maxRecDepth 100000 in
theorem okX2_spread : mOK mX2_spread := ⟨by decide +kernel, List.mem_append_right _ (List.mem_of_getElem? (i := 327) rfl), rfl, ⟨by decide +kernel, by decide +kernel⟩, by decide +kernel, fun h => absurd h (by decide)⟩
def tX2_stepOff_0 : List (Nat × Instr × Nat) := [(0, .aload_n 0, 1), (1, .getfield 12, 3), (4, .getfield 69, 3), (7, .iconst 0, 1), (8, .lload_n 3, 1), (9, .lload 5, 2), (11, .lload 7, 2), (13, .invokevirtual 103, 3), (16, .lstore 9, 2), (18, .aload_n 0, 1), (19, .aload_n 1, 1), (20, .aload_n 2, 1), (21, .lload_n 3, 1), (22, .lload 5, 2), (24, .lload 7, 2), (26, .invokevirtual 73, 3), (29, .lload_n 3, 1), (30, .aload_n 0, 1), (31, .getfield 30, 3), (34, .i2l, 1), (35, .lmul, 1), (36, .lload 5, 2), (38, .aload_n 0, 1), (39, .getfield 33, 3), (42, .i2l, 1), (43, .lmul, 1), (44, .ladd, 1), (45, .lload 7, 2), (47, .aload_n 0, 1), (48, .getfield 36, 3), (51, .i2l, 1), (52, .lmul, 1), (53, .ladd, 1), (54, .lload 9, 2), (56, .lcmp, 1), (57, .ifCond .ne 17, 3), (60, .aload_n 0, 1), (61, .aload_n 1, 1), (62, .aload_n 2, 1), (63, .lload_n 3, 1), (64, .lneg, 1), (65, .lload 5, 2), (67, .lneg, 1), (68, .lload 7, 2), (70, .lneg, 1), (71, .invokevirtual 73, 3), (74, .lload_n 3, 1), (75, .aload_n 0, 1), (76, .getfield 30, 3), (79, .i2l, 1), (80, .lmul, 1), (81, .lload 5, 2), (83, .aload_n 0, 1), (84, .getfield 33, 3), (87, .i2l, 1), (88, .lmul, 1), (89, .ladd, 1), (90, .lload 7, 2), (92, .aload_n 0, 1), (93, .getfield 36, 3)]
theorem dkX2_stepOff_0 : ∀ q ∈ tX2_stepOff_0, decode cX2_stepOff q.1 = .ok q.2 := by decide +kernel
def tX2_stepOff_1 : List (Nat × Instr × Nat) := [(96, .i2l, 1), (97, .lmul, 1), (98, .ladd, 1), (99, .lload 9, 2), (101, .lcmp, 1), (102, .ifCond .ne 5, 3), (105, .iconst 0, 1), (106, .ireturn, 1), (107, .aload_n 0, 1), (108, .invokevirtual 77, 3), (111, .iconst 1, 1), (112, .ireturn, 1)]
theorem dkX2_stepOff_1 : ∀ q ∈ tX2_stepOff_1, decode cX2_stepOff q.1 = .ok q.2 := by decide +kernel
def tX2_stepOff : List (Nat × Instr × Nat) := tX2_stepOff_0 ++ (tX2_stepOff_1)
def mX2_stepOff : mM := (yX2_stepOff, 2, cX2_stepOff, 11, (some .boolean), tX2_stepOff, (3, 63, 0, 0), 5, false)
theorem odX2_stepOff : mOd mX2_stepOff := List.forall_mem_append.mpr ⟨dkX2_stepOff_0, dkX2_stepOff_1⟩
set_option maxRecDepth 100000 in
theorem okX2_stepOff : mOK mX2_stepOff := ⟨by decide +kernel, List.mem_append_right _ (List.mem_of_getElem? (i := 345) rfl), rfl, ⟨by decide +kernel, by decide +kernel⟩, by decide +kernel, fun h => absurd h (by decide)⟩
def tX2_seek_0 : List (Nat × Instr × Nat) := [(0, .aload_n 1, 1), (1, .lload_n 3, 1), (2, .lload 5, 2), (4, .lload 7, 2), (6, .invokevirtual 107, 3), (9, .istore 9, 2), (11, .aload_n 2, 1), (12, .lload_n 3, 1), (13, .lload 5, 2), (15, .lload 7, 2), (17, .invokevirtual 107, 3), (20, .istore 10, 2), (22, .aload_n 0, 1), (23, .aload_n 1, 1), (24, .getfield 84, 3), (27, .iload 9, 2), (29, .iaload, 1), (30, .aload_n 2, 1), (31, .getfield 84, 3), (34, .iload 10, 2), (36, .iaload, 1), (37, .iadd, 1), (38, .putfield 30, 3), (41, .aload_n 0, 1), (42, .aload_n 1, 1), (43, .getfield 87, 3), (46, .iload 9, 2), (48, .iaload, 1), (49, .aload_n 2, 1), (50, .getfield 87, 3), (53, .iload 10, 2), (55, .iaload, 1), (56, .iadd, 1), (57, .putfield 33, 3), (60, .aload_n 0, 1), (61, .aload_n 1, 1), (62, .getfield 90, 3), (65, .iload 9, 2), (67, .iaload, 1), (68, .aload_n 2, 1), (69, .getfield 90, 3), (72, .iload 10, 2), (74, .iaload, 1), (75, .iadd, 1), (76, .putfield 36, 3), (79, .return_, 1)]
theorem dkX2_seek_0 : ∀ q ∈ tX2_seek_0, decode cX2_seek q.1 = .ok q.2 := by decide +kernel
def tX2_seek : List (Nat × Instr × Nat) := tX2_seek_0
def mX2_seek : mM := (yX2_seek, 2, cX2_seek, 11, none, tX2_seek, (1, 33, 0, 0), 5, false)
theorem odX2_seek : mOd mX2_seek := dkX2_seek_0
set_option maxRecDepth 100000 in
theorem okX2_seek : mOK mX2_seek := ⟨by decide +kernel, List.mem_append_right _ (List.mem_of_getElem? (i := 331) rfl), rfl, ⟨by decide +kernel, by decide +kernel⟩, by decide +kernel, fun h => absurd h (by decide)⟩
def tX2_take_0 : List (Nat × Instr × Nat) := [(0, .aload_n 0, 1), (1, .getfield 30, 3), (4, .aload_n 0, 1), (5, .getfield 33, 3), (8, .aload_n 0, 1), (9, .getfield 36, 3), (12, .invokestatic 111, 3), (15, .ifCond .eq 12, 3), (18, .aload_n 0, 1), (19, .getfield 26, 3), (22, .bipush 24, 2), (24, .if_icmp .lt 8, 3), (27, .aload_n 0, 1), (28, .iconst 1, 1), (29, .putfield 22, 3), (32, .aload_n 0, 1), (33, .dup, 1), (34, .getfield 26, 3), (37, .iconst 1, 1), (38, .iadd, 1), (39, .putfield 26, 3), (42, .aload_n 0, 1), (43, .getfield 12, 3), (46, .getfield 69, 3), (49, .aload_n 0, 1), (50, .getfield 30, 3), (53, .aload_n 0, 1), (54, .getfield 33, 3), (57, .aload_n 0, 1), (58, .getfield 36, 3), (61, .invokevirtual 115, 3), (64, .return_, 1)]
theorem dkX2_take_0 : ∀ q ∈ tX2_take_0, decode cX2_take q.1 = .ok q.2 := by decide +kernel
def tX2_take : List (Nat × Instr × Nat) := tX2_take_0
def mX2_take : mM := (yX2_take, 2, cX2_take, 1, none, tX2_take, (2, 43, 0, 0), 0, false)
theorem odX2_take : mOd mX2_take := dkX2_take_0
set_option maxRecDepth 100000 in
theorem okX2_take : mOK mX2_take := ⟨by decide +kernel, List.mem_append_right _ (List.mem_of_getElem? (i := 339) rfl), rfl, ⟨by decide +kernel, by decide +kernel⟩, by decide +kernel, fun h => absurd h (by decide)⟩
def tX2_wrap_0 : List (Nat × Instr × Nat) := [(0, .iload_n 3, 1), (1, .iconst 3, 1), (2, .if_icmp .ne 10, 3), (5, .aload_n 0, 1), (6, .getfield 12, 3), (9, .invokevirtual 119, 3), (12, .aload_n 0, 1), (13, .getfield 12, 3), (16, .invokevirtual 122, 3), (19, .iconst 0, 1), (20, .istore 4, 2), (22, .iload 4, 2), (24, .ldc 125, 2), (26, .if_icmp .ge 140, 3), (29, .aload_n 0, 1), (30, .getfield 22, 3), (33, .ifCond .ne 133, 3), (36, .aload_n 0, 1), (37, .getfield 12, 3), (40, .invokevirtual 126, 3), (43, .istore 5, 2), (45, .iload 5, 2), (47, .iconst (-1), 1), (48, .if_icmp .ne 4, 3), (51, .return_, 1), (52, .aload_n 0, 1), (53, .aload_n 1, 1), (54, .aload_n 2, 1), (55, .aload_n 0, 1), (56, .getfield 12, 3), (59, .getfield 130, 3), (62, .iconst 4, 1), (63, .iload 5, 2), (65, .imul, 1), (66, .iaload, 1), (67, .i2l, 1), (68, .aload_n 0, 1), (69, .getfield 12, 3), (72, .getfield 130, 3), (75, .iconst 4, 1), (76, .iload 5, 2), (78, .imul, 1), (79, .iconst 1, 1), (80, .iadd, 1), (81, .iaload, 1), (82, .i2l, 1), (83, .aload_n 0, 1), (84, .getfield 12, 3), (87, .getfield 130, 3), (90, .iconst 4, 1), (91, .iload 5, 2), (93, .imul, 1), (94, .iconst 2, 1), (95, .iadd, 1), (96, .iaload, 1), (97, .i2l, 1), (98, .invokevirtual 73, 3), (101, .aload_n 0, 1), (102, .getfield 12, 3), (105, .iload 5, 2)]
theorem dkX2_wrap_0 : ∀ q ∈ tX2_wrap_0, decode cX2_wrap q.1 = .ok q.2 := by decide +kernel
def tX2_wrap_1 : List (Nat × Instr × Nat) := [(107, .aload_n 0, 1), (108, .getfield 30, 3), (111, .i2l, 1), (112, .aload_n 0, 1), (113, .getfield 33, 3), (116, .i2l, 1), (117, .aload_n 0, 1), (118, .getfield 36, 3), (121, .i2l, 1), (122, .invokevirtual 133, 3), (125, .ifCond .ne 17, 3), (128, .aload_n 0, 1), (129, .getfield 12, 3), (132, .getfield 137, 3), (135, .iload 5, 2), (137, .iconst 1, 1), (138, .bastore, 1), (139, .goto 21, 3), (142, .aload_n 0, 1), (143, .invokevirtual 77, 3), (146, .aload_n 0, 1), (147, .getfield 22, 3), (150, .ifCond .ne 10, 3), (153, .aload_n 0, 1), (154, .getfield 12, 3), (157, .invokevirtual 141, 3), (160, .iinc 4 1, 3), (163, .goto (-141), 3), (166, .return_, 1)]
theorem dkX2_wrap_1 : ∀ q ∈ tX2_wrap_1, decode cX2_wrap q.1 = .ok q.2 := by decide +kernel
def tX2_wrap : List (Nat × Instr × Nat) := tX2_wrap_0 ++ (tX2_wrap_1)
def mX2_wrap : mM := (yX2_wrap, 2, cX2_wrap, 6, none, tX2_wrap, (3, 72, 0, 0), 3, false)
theorem odX2_wrap : mOd mX2_wrap := List.forall_mem_append.mpr ⟨dkX2_wrap_0, dkX2_wrap_1⟩
set_option maxRecDepth 100000 in
theorem okX2_wrap : mOK mX2_wrap := ⟨by decide +kernel, List.mem_append_right _ (List.mem_of_getElem? (i := 365) rfl), rfl, ⟨by decide +kernel, by decide +kernel⟩, by decide +kernel, fun h => absurd h (by decide)⟩
def tX2_fill_0 : List (Nat × Instr × Nat) := [(0, .aload_n 0, 1), (1, .getfield 12, 3), (4, .getfield 69, 3), (7, .astore_n 3, 1), (8, .aload_n 1, 1), (9, .iload_n 2, 1), (10, .putfield 144, 3), (13, .iconst 0, 1), (14, .istore 4, 2), (16, .iload 4, 2), (18, .aload_n 3, 1), (19, .getfield 44, 3), (22, .if_icmp .ge 48, 3), (25, .iload_n 2, 1), (26, .iconst 3, 1), (27, .if_icmp .ne 9, 3), (30, .iload 4, 2), (32, .iconst 3, 1), (33, .if_icmp .eq 31, 3), (36, .aload_n 1, 1), (37, .getfield 147, 3), (40, .aload_n 3, 1), (41, .getfield 84, 3), (44, .iload 4, 2), (46, .iaload, 1), (47, .aload_n 3, 1), (48, .getfield 87, 3), (51, .iload 4, 2), (53, .iaload, 1), (54, .aload_n 3, 1), (55, .getfield 90, 3), (58, .iload 4, 2), (60, .iaload, 1), (61, .invokevirtual 149, 3), (64, .iinc 4 1, 3), (67, .goto (-51), 3), (70, .iconst 0, 1), (71, .istore 4, 2), (73, .iload 4, 2), (75, .aload_n 0, 1), (76, .getfield 12, 3), (79, .getfield 152, 3), (82, .if_icmp .ge 132, 3), (85, .aload_n 0, 1), (86, .getfield 12, 3), (89, .getfield 130, 3), (92, .iconst 4, 1), (93, .iload 4, 2), (95, .imul, 1), (96, .iaload, 1), (97, .istore 5, 2), (99, .aload_n 0, 1), (100, .getfield 12, 3), (103, .getfield 130, 3), (106, .iconst 4, 1), (107, .iload 4, 2), (109, .imul, 1), (110, .iconst 1, 1), (111, .iadd, 1), (112, .iaload, 1)]
theorem dkX2_fill_0 : ∀ q ∈ tX2_fill_0, decode cX2_fill q.1 = .ok q.2 := by decide +kernel
def tX2_fill_1 : List (Nat × Instr × Nat) := [(113, .istore 6, 2), (115, .aload_n 0, 1), (116, .getfield 12, 3), (119, .getfield 130, 3), (122, .iconst 4, 1), (123, .iload 4, 2), (125, .imul, 1), (126, .iconst 2, 1), (127, .iadd, 1), (128, .iaload, 1), (129, .istore 7, 2), (131, .aload_n 0, 1), (132, .getfield 12, 3), (135, .getfield 130, 3), (138, .iconst 4, 1), (139, .iload 4, 2), (141, .imul, 1), (142, .iconst 3, 1), (143, .iadd, 1), (144, .iaload, 1), (145, .istore 8, 2), (147, .iload_n 2, 1), (148, .iconst 4, 1), (149, .if_icmp .ne 18, 3), (152, .aload_n 1, 1), (153, .iload 5, 2), (155, .iload 6, 2), (157, .iload 7, 2), (159, .iload 8, 2), (161, .invokevirtual 155, 3), (164, .goto 44, 3), (167, .aload_n 0, 1), (168, .getfield 12, 3), (171, .iload 4, 2), (173, .iconst 3, 1), (174, .invokevirtual 159, 3), (177, .ifCond .ne 31, 3), (180, .aload_n 1, 1), (181, .iload 5, 2), (183, .iload 6, 2), (185, .iload 7, 2), (187, .iload 8, 2), (189, .invokevirtual 155, 3), (192, .aload_n 1, 1), (193, .iload 5, 2), (195, .ineg, 1), (196, .iload 6, 2), (198, .ineg, 1), (199, .iload 7, 2), (201, .ineg, 1), (202, .iload 8, 2), (204, .ineg, 1), (205, .invokevirtual 155, 3), (208, .iinc 4 1, 3), (211, .goto (-138), 3), (214, .return_, 1)]
theorem dkX2_fill_1 : ∀ q ∈ tX2_fill_1, decode cX2_fill q.1 = .ok q.2 := by decide +kernel
def tX2_fill : List (Nat × Instr × Nat) := tX2_fill_0 ++ (tX2_fill_1)
def mX2_fill : mM := (yX2_fill, 2, cX2_fill, 9, none, tX2_fill, (3, 71, 0, 0), 2, false)
theorem odX2_fill : mOd mX2_fill := List.forall_mem_append.mpr ⟨dkX2_fill_0, dkX2_fill_1⟩
set_option maxRecDepth 100000 in
theorem okX2_fill : mOK mX2_fill := ⟨by decide +kernel, List.mem_append_right _ (List.mem_of_getElem? (i := 413) rfl), rfl, ⟨by decide +kernel, by decide +kernel⟩, by decide +kernel, fun h => absurd h (by decide)⟩
def tX3_init_0 : List (Nat × Instr × Nat) := [(0, .aload_n 0, 1), (1, .invokespecial 1, 3), (4, .aload_n 0, 1), (5, .iconst 0, 1), (6, .putfield 7, 3), (9, .aload_n 0, 1), (10, .iload_n 1, 1), (11, .newarray .int, 2), (13, .putfield 13, 3), (16, .aload_n 0, 1), (17, .iload_n 1, 1), (18, .newarray .int, 2), (20, .putfield 17, 3), (23, .aload_n 0, 1), (24, .iload_n 1, 1), (25, .newarray .int, 2), (27, .putfield 20, 3), (30, .return_, 1)]
theorem dkX3_init_0 : ∀ q ∈ tX3_init_0, decode cX3_init q.1 = .ok q.2 := by decide +kernel
def tX3_init : List (Nat × Instr × Nat) := tX3_init_0
def mX3_init : mM := (yX3_init, 3, cX3_init, 2, none, tX3_init, (1, 20, 3, 75), 1, true)
theorem odX3_init : mOd mX3_init := dkX3_init_0
set_option maxRecDepth 100000 in
theorem okX3_init : mOK mX3_init := ⟨by decide +kernel, List.mem_append_right _ (List.mem_of_getElem? (i := 34) rfl), rfl, ⟨by decide +kernel, by decide +kernel⟩, by decide +kernel, fun _ => rfl⟩
def tX3_clear_0 : List (Nat × Instr × Nat) := [(0, .aload_n 0, 1), (1, .iconst 0, 1), (2, .putfield 7, 3), (5, .return_, 1)]
theorem dkX3_clear_0 : ∀ q ∈ tX3_clear_0, decode cX3_clear q.1 = .ok q.2 := by decide +kernel
def tX3_clear : List (Nat × Instr × Nat) := tX3_clear_0
def mX3_clear : mM := (yX3_clear, 3, cX3_clear, 1, none, tX3_clear, (0, 0, 0, 0), 0, false)
theorem odX3_clear : mOd mX3_clear := dkX3_clear_0
set_option maxRecDepth 100000 in
theorem okX3_clear : mOK mX3_clear := ⟨by decide +kernel, List.mem_append_right _ (List.mem_of_getElem? (i := 287) rfl), rfl, ⟨by decide +kernel, by decide +kernel⟩, by decide +kernel, fun h => absurd h (by decide)⟩
def tX3_put_0 : List (Nat × Instr × Nat) := [(0, .aload_n 0, 1), (1, .getfield 7, 3), (4, .aload_n 0, 1), (5, .getfield 13, 3), (8, .arraylength, 1), (9, .if_icmp .ge 43, 3), (12, .aload_n 0, 1), (13, .getfield 13, 3), (16, .aload_n 0, 1), (17, .getfield 7, 3), (20, .iload_n 1, 1), (21, .iastore, 1), (22, .aload_n 0, 1), (23, .getfield 17, 3), (26, .aload_n 0, 1), (27, .getfield 7, 3), (30, .iload_n 2, 1), (31, .iastore, 1), (32, .aload_n 0, 1), (33, .getfield 20, 3), (36, .aload_n 0, 1), (37, .getfield 7, 3), (40, .iload_n 3, 1), (41, .iastore, 1), (42, .aload_n 0, 1), (43, .dup, 1), (44, .getfield 7, 3), (47, .iconst 1, 1), (48, .iadd, 1), (49, .putfield 7, 3), (52, .return_, 1)]
theorem dkX3_put_0 : ∀ q ∈ tX3_put_0, decode cX3_put q.1 = .ok q.2 := by decide +kernel
def tX3_put : List (Nat × Instr × Nat) := tX3_put_0
def mX3_put : mM := (yX3_put, 3, cX3_put, 4, none, tX3_put, (0, 0, 0, 0), 3, false)
theorem odX3_put : mOd mX3_put := dkX3_put_0
set_option maxRecDepth 100000 in
theorem okX3_put : mOK mX3_put := ⟨by decide +kernel, List.mem_append_right _ (List.mem_of_getElem? (i := 236) rfl), rfl, ⟨by decide +kernel, by decide +kernel⟩, by decide +kernel, fun h => absurd h (by decide)⟩
def tX3_replace_0 : List (Nat × Instr × Nat) := [(0, .iload_n 1, 1), (1, .ifCond .lt 11, 3), (4, .iload_n 1, 1), (5, .aload_n 0, 1), (6, .getfield 7, 3), (9, .if_icmp .lt 5, 3), (12, .iconst 0, 1), (13, .ireturn, 1), (14, .aload_n 0, 1), (15, .getfield 13, 3), (18, .iload_n 1, 1), (19, .iload_n 2, 1), (20, .iastore, 1), (21, .aload_n 0, 1), (22, .getfield 17, 3), (25, .iload_n 1, 1), (26, .iload_n 3, 1), (27, .iastore, 1), (28, .aload_n 0, 1), (29, .getfield 20, 3), (32, .iload_n 1, 1), (33, .iload 4, 2), (35, .iastore, 1), (36, .iconst 1, 1), (37, .ireturn, 1)]
theorem dkX3_replace_0 : ∀ q ∈ tX3_replace_0, decode cX3_replace q.1 = .ok q.2 := by decide +kernel
def tX3_replace : List (Nat × Instr × Nat) := tX3_replace_0
def mX3_replace : mM := (yX3_replace, 3, cX3_replace, 5, (some .boolean), tX3_replace, (0, 0, 0, 0), 4, false)
theorem odX3_replace : mOd mX3_replace := dkX3_replace_0
set_option maxRecDepth 100000 in
theorem okX3_replace : mOK mX3_replace := ⟨by decide +kernel, List.mem_append_right _ (List.mem_of_getElem? (i := 301) rfl), rfl, ⟨by decide +kernel, by decide +kernel⟩, by decide +kernel, fun h => absurd h (by decide)⟩
def tX3_takeAll_0 : List (Nat × Instr × Nat) := [(0, .aload_n 0, 1), (1, .invokevirtual 23, 3), (4, .iconst 0, 1), (5, .istore_n 2, 1), (6, .iload_n 2, 1), (7, .aload_n 1, 1), (8, .getfield 7, 3), (11, .if_icmp .ge 31, 3), (14, .aload_n 0, 1), (15, .aload_n 1, 1), (16, .getfield 13, 3), (19, .iload_n 2, 1), (20, .iaload, 1), (21, .aload_n 1, 1), (22, .getfield 17, 3), (25, .iload_n 2, 1), (26, .iaload, 1), (27, .aload_n 1, 1), (28, .getfield 20, 3), (31, .iload_n 2, 1), (32, .iaload, 1), (33, .invokevirtual 26, 3), (36, .iinc 2 1, 3), (39, .goto (-33), 3), (42, .return_, 1)]
theorem dkX3_takeAll_0 : ∀ q ∈ tX3_takeAll_0, decode cX3_takeAll q.1 = .ok q.2 := by decide +kernel
def tX3_takeAll : List (Nat × Instr × Nat) := tX3_takeAll_0
def mX3_takeAll : mM := (yX3_takeAll, 3, cX3_takeAll, 3, none, tX3_takeAll, (1, 23, 0, 0), 1, false)
theorem odX3_takeAll : mOd mX3_takeAll := dkX3_takeAll_0
set_option maxRecDepth 100000 in
theorem okX3_takeAll : mOK mX3_takeAll := ⟨by decide +kernel, List.mem_append_right _ (List.mem_of_getElem? (i := 497) rfl), rfl, ⟨by decide +kernel, by decide +kernel⟩, by decide +kernel, fun h => absurd h (by decide)⟩
def tX3_putInOrder_0 : List (Nat × Instr × Nat) := [(0, .aload_n 0, 1), (1, .getfield 7, 3), (4, .aload_n 0, 1), (5, .getfield 13, 3), (8, .arraylength, 1), (9, .if_icmp .lt 4, 3), (12, .return_, 1), (13, .aload_n 0, 1), (14, .getfield 7, 3), (17, .istore 4, 2), (19, .aload_n 0, 1), (20, .dup, 1), (21, .getfield 7, 3), (24, .iconst 1, 1), (25, .iadd, 1), (26, .putfield 7, 3), (29, .iload 4, 2), (31, .ifCond .le 57, 3), (34, .aload_n 0, 1), (35, .iload_n 1, 1), (36, .iload_n 2, 1), (37, .iload_n 3, 1), (38, .iload 4, 2), (40, .iconst 1, 1), (41, .isub, 1), (42, .invokevirtual 30, 3), (45, .ifCond .eq 43, 3), (48, .aload_n 0, 1), (49, .iload 4, 2), (51, .aload_n 0, 1), (52, .getfield 13, 3), (55, .iload 4, 2), (57, .iconst 1, 1), (58, .isub, 1), (59, .iaload, 1), (60, .aload_n 0, 1), (61, .getfield 17, 3), (64, .iload 4, 2), (66, .iconst 1, 1), (67, .isub, 1), (68, .iaload, 1), (69, .aload_n 0, 1), (70, .getfield 20, 3), (73, .iload 4, 2), (75, .iconst 1, 1), (76, .isub, 1), (77, .iaload, 1), (78, .invokevirtual 34, 3), (81, .pop, 1), (82, .iinc 4 (-1), 3), (85, .goto (-56), 3), (88, .aload_n 0, 1), (89, .iload 4, 2), (91, .iload_n 1, 1), (92, .iload_n 2, 1), (93, .iload_n 3, 1), (94, .invokevirtual 34, 3), (97, .pop, 1), (98, .return_, 1)]
theorem dkX3_putInOrder_0 : ∀ q ∈ tX3_putInOrder_0, decode cX3_putInOrder q.1 = .ok q.2 := by decide +kernel
def tX3_putInOrder : List (Nat × Instr × Nat) := tX3_putInOrder_0
def mX3_putInOrder : mM := (yX3_putInOrder, 3, cX3_putInOrder, 5, none, tX3_putInOrder, (1, 24, 0, 0), 3, false)
theorem odX3_putInOrder : mOd mX3_putInOrder := dkX3_putInOrder_0
set_option maxRecDepth 100000 in
theorem okX3_putInOrder : mOK mX3_putInOrder := ⟨by decide +kernel, List.mem_append_right _ (List.mem_of_getElem? (i := 417) rfl), rfl, ⟨by decide +kernel, by decide +kernel⟩, by decide +kernel, fun h => absurd h (by decide)⟩
def tX3_isLess_0 : List (Nat × Instr × Nat) := [(0, .iload_n 1, 1), (1, .aload_n 0, 1), (2, .getfield 13, 3), (5, .iload 4, 2), (7, .iaload, 1), (8, .if_icmp .eq 20, 3), (11, .iload_n 1, 1), (12, .aload_n 0, 1), (13, .getfield 13, 3), (16, .iload 4, 2), (18, .iaload, 1), (19, .if_icmp .ge 7, 3), (22, .iconst 1, 1), (23, .goto 4, 3), (26, .iconst 0, 1), (27, .ireturn, 1), (28, .iload_n 2, 1), (29, .aload_n 0, 1), (30, .getfield 17, 3), (33, .iload 4, 2), (35, .iaload, 1), (36, .if_icmp .eq 22, 3), (39, .iload_n 2, 1), (40, .aload_n 0, 1), (41, .getfield 17, 3), (44, .iload 4, 2), (46, .iaload, 1), (47, .if_icmp .ge 7, 3), (50, .iconst 1, 1), (51, .goto 23, 3), (54, .iconst 0, 1), (55, .goto 19, 3), (58, .iload_n 3, 1), (59, .aload_n 0, 1), (60, .getfield 20, 3), (63, .iload 4, 2), (65, .iaload, 1), (66, .if_icmp .ge 7, 3), (69, .iconst 1, 1), (70, .goto 4, 3), (73, .iconst 0, 1), (74, .ireturn, 1)]
theorem dkX3_isLess_0 : ∀ q ∈ tX3_isLess_0, decode cX3_isLess q.1 = .ok q.2 := by decide +kernel
def tX3_isLess : List (Nat × Instr × Nat) := tX3_isLess_0
def mX3_isLess : mM := (yX3_isLess, 3, cX3_isLess, 5, (some .boolean), tX3_isLess, (0, 0, 0, 0), 4, false)
theorem odX3_isLess : mOd mX3_isLess := dkX3_isLess_0
set_option maxRecDepth 100000 in
theorem okX3_isLess : mOK mX3_isLess := ⟨by decide +kernel, List.mem_append_right _ (List.mem_of_getElem? (i := 421) rfl), rfl, ⟨by decide +kernel, by decide +kernel⟩, by decide +kernel, fun h => absurd h (by decide)⟩
def tX3_along_0 : List (Nat × Instr × Nat) := [(0, .lload_n 2, 1), (1, .aload_n 0, 1), (2, .getfield 13, 3), (5, .iload_n 1, 1), (6, .iaload, 1), (7, .i2l, 1), (8, .lmul, 1), (9, .lload 4, 2), (11, .aload_n 0, 1), (12, .getfield 17, 3), (15, .iload_n 1, 1), (16, .iaload, 1), (17, .i2l, 1), (18, .lmul, 1), (19, .ladd, 1), (20, .lload 6, 2), (22, .aload_n 0, 1), (23, .getfield 20, 3), (26, .iload_n 1, 1), (27, .iaload, 1), (28, .i2l, 1), (29, .lmul, 1), (30, .ladd, 1), (31, .lreturn, 1)]
theorem dkX3_along_0 : ∀ q ∈ tX3_along_0, decode cX3_along q.1 = .ok q.2 := by decide +kernel
def tX3_along : List (Nat × Instr × Nat) := tX3_along_0
def mX3_along : mM := (yX3_along, 3, cX3_along, 8, (some .long), tX3_along, (0, 0, 0, 0), 4, false)
theorem odX3_along : mOd mX3_along := dkX3_along_0
set_option maxRecDepth 100000 in
theorem okX3_along : mOK mX3_along := ⟨by decide +kernel, List.mem_append_right _ (List.mem_of_getElem? (i := 349) rfl), rfl, ⟨by decide +kernel, by decide +kernel⟩, by decide +kernel, fun h => absurd h (by decide)⟩
def tX3_farthest_0 : List (Nat × Instr × Nat) := [(0, .iconst 0, 1), (1, .istore 7, 2), (3, .lload_n 1, 1), (4, .aload_n 0, 1), (5, .getfield 13, 3), (8, .iconst 0, 1), (9, .iaload, 1), (10, .i2l, 1), (11, .lmul, 1), (12, .lload_n 3, 1), (13, .aload_n 0, 1), (14, .getfield 17, 3), (17, .iconst 0, 1), (18, .iaload, 1), (19, .i2l, 1), (20, .lmul, 1), (21, .ladd, 1), (22, .lload 5, 2), (24, .aload_n 0, 1), (25, .getfield 20, 3), (28, .iconst 0, 1), (29, .iaload, 1), (30, .i2l, 1), (31, .lmul, 1), (32, .ladd, 1), (33, .lstore 8, 2), (35, .iconst 1, 1), (36, .istore 10, 2), (38, .iload 10, 2), (40, .aload_n 0, 1), (41, .getfield 7, 3), (44, .if_icmp .ge 181, 3), (47, .lload_n 1, 1), (48, .aload_n 0, 1), (49, .getfield 13, 3), (52, .iload 10, 2), (54, .iaload, 1), (55, .i2l, 1), (56, .lmul, 1), (57, .lload_n 3, 1), (58, .aload_n 0, 1), (59, .getfield 17, 3), (62, .iload 10, 2), (64, .iaload, 1), (65, .i2l, 1), (66, .lmul, 1), (67, .ladd, 1), (68, .lload 5, 2), (70, .aload_n 0, 1), (71, .getfield 20, 3), (74, .iload 10, 2), (76, .iaload, 1), (77, .i2l, 1), (78, .lmul, 1), (79, .ladd, 1), (80, .lstore 11, 2), (82, .aload_n 0, 1), (83, .getfield 13, 3), (86, .iload 10, 2), (88, .iaload, 1)]
theorem dkX3_farthest_0 : ∀ q ∈ tX3_farthest_0, decode cX3_farthest q.1 = .ok q.2 := by decide +kernel
def tX3_farthest_1 : List (Nat × Instr × Nat) := [(89, .aload_n 0, 1), (90, .getfield 13, 3), (93, .iload 7, 2), (95, .iaload, 1), (96, .if_icmp .eq 28, 3), (99, .aload_n 0, 1), (100, .getfield 13, 3), (103, .iload 10, 2), (105, .iaload, 1), (106, .aload_n 0, 1), (107, .getfield 13, 3), (110, .iload 7, 2), (112, .iaload, 1), (113, .if_icmp .le 7, 3), (116, .iconst 1, 1), (117, .goto 71, 3), (120, .iconst 0, 1), (121, .goto 67, 3), (124, .aload_n 0, 1), (125, .getfield 17, 3), (128, .iload 10, 2), (130, .iaload, 1), (131, .aload_n 0, 1), (132, .getfield 17, 3), (135, .iload 7, 2), (137, .iaload, 1), (138, .if_icmp .eq 28, 3), (141, .aload_n 0, 1), (142, .getfield 17, 3), (145, .iload 10, 2), (147, .iaload, 1), (148, .aload_n 0, 1), (149, .getfield 17, 3), (152, .iload 7, 2), (154, .iaload, 1), (155, .if_icmp .le 7, 3), (158, .iconst 1, 1), (159, .goto 29, 3), (162, .iconst 0, 1), (163, .goto 25, 3), (166, .aload_n 0, 1), (167, .getfield 20, 3), (170, .iload 10, 2), (172, .iaload, 1), (173, .aload_n 0, 1), (174, .getfield 20, 3), (177, .iload 7, 2), (179, .iaload, 1), (180, .if_icmp .le 7, 3), (183, .iconst 1, 1), (184, .goto 4, 3), (187, .iconst 0, 1), (188, .istore 13, 2), (190, .lload 11, 2), (192, .lload 8, 2), (194, .lcmp, 1), (195, .ifCond .gt 16, 3), (198, .lload 11, 2), (200, .lload 8, 2), (202, .lcmp, 1)]
theorem dkX3_farthest_1 : ∀ q ∈ tX3_farthest_1, decode cX3_farthest q.1 = .ok q.2 := by decide +kernel
def tX3_farthest_2 : List (Nat × Instr × Nat) := [(203, .ifCond .ne 16, 3), (206, .iload 13, 2), (208, .ifCond .eq 11, 3), (211, .iload 10, 2), (213, .istore 7, 2), (215, .lload 11, 2), (217, .lstore 8, 2), (219, .iinc 10 1, 3), (222, .goto (-184), 3), (225, .iload 7, 2), (227, .ireturn, 1)]
theorem dkX3_farthest_2 : ∀ q ∈ tX3_farthest_2, decode cX3_farthest q.1 = .ok q.2 := by decide +kernel
def tX3_farthest : List (Nat × Instr × Nat) := tX3_farthest_0 ++ (tX3_farthest_1 ++ (tX3_farthest_2))
def mX3_farthest : mM := (yX3_farthest, 3, cX3_farthest, 14, (some .int), tX3_farthest, (0, 0, 0, 0), 3, false)
theorem odX3_farthest : mOd mX3_farthest := List.forall_mem_append.mpr ⟨dkX3_farthest_0, List.forall_mem_append.mpr ⟨dkX3_farthest_1, dkX3_farthest_2⟩⟩
set_option maxRecDepth 100000 in
theorem okX3_farthest : mOK mX3_farthest := ⟨by decide +kernel, List.mem_append_right _ (List.mem_of_getElem? (i := 335) rfl), rfl, ⟨by decide +kernel, by decide +kernel⟩, by decide +kernel, fun h => absurd h (by decide)⟩
def tX3_squareBetween_0 : List (Nat × Instr × Nat) := [(0, .aload_n 0, 1), (1, .getfield 13, 3), (4, .iload_n 1, 1), (5, .iaload, 1), (6, .aload_n 0, 1), (7, .getfield 13, 3), (10, .iload_n 2, 1), (11, .iaload, 1), (12, .isub, 1), (13, .istore_n 3, 1), (14, .aload_n 0, 1), (15, .getfield 17, 3), (18, .iload_n 1, 1), (19, .iaload, 1), (20, .aload_n 0, 1), (21, .getfield 17, 3), (24, .iload_n 2, 1), (25, .iaload, 1), (26, .isub, 1), (27, .istore 4, 2), (29, .aload_n 0, 1), (30, .getfield 20, 3), (33, .iload_n 1, 1), (34, .iaload, 1), (35, .aload_n 0, 1), (36, .getfield 20, 3), (39, .iload_n 2, 1), (40, .iaload, 1), (41, .isub, 1), (42, .istore 5, 2), (44, .iload_n 3, 1), (45, .iload_n 3, 1), (46, .imul, 1), (47, .iload 4, 2), (49, .iload 4, 2), (51, .imul, 1), (52, .iadd, 1), (53, .iload 5, 2), (55, .iload 5, 2), (57, .imul, 1), (58, .iadd, 1), (59, .ireturn, 1)]
theorem dkX3_squareBetween_0 : ∀ q ∈ tX3_squareBetween_0, decode cX3_squareBetween q.1 = .ok q.2 := by decide +kernel
def tX3_squareBetween : List (Nat × Instr × Nat) := tX3_squareBetween_0
def mX3_squareBetween : mM := (yX3_squareBetween, 3, cX3_squareBetween, 6, (some .int), tX3_squareBetween, (0, 0, 0, 0), 2, false)
theorem odX3_squareBetween : mOd mX3_squareBetween := dkX3_squareBetween_0
set_option maxRecDepth 100000 in
theorem okX3_squareBetween : mOK mX3_squareBetween := ⟨by decide +kernel, List.mem_append_right _ (List.mem_of_getElem? (i := 595) rfl), rfl, ⟨by decide +kernel, by decide +kernel⟩, by decide +kernel, fun h => absurd h (by decide)⟩
def tX3_isLike_0 : List (Nat × Instr × Nat) := [(0, .aload_n 0, 1), (1, .getfield 7, 3), (4, .aload_n 1, 1), (5, .getfield 7, 3), (8, .if_icmp .eq 5, 3), (11, .iconst 0, 1), (12, .ireturn, 1), (13, .iconst 0, 1), (14, .istore_n 2, 1), (15, .iload_n 2, 1), (16, .aload_n 0, 1), (17, .getfield 7, 3), (20, .if_icmp .ge 56, 3), (23, .aload_n 0, 1), (24, .getfield 13, 3), (27, .iload_n 2, 1), (28, .iaload, 1), (29, .aload_n 1, 1), (30, .getfield 13, 3), (33, .iload_n 2, 1), (34, .iaload, 1), (35, .if_icmp .ne 33, 3), (38, .aload_n 0, 1), (39, .getfield 17, 3), (42, .iload_n 2, 1), (43, .iaload, 1), (44, .aload_n 1, 1), (45, .getfield 17, 3), (48, .iload_n 2, 1), (49, .iaload, 1), (50, .if_icmp .ne 18, 3), (53, .aload_n 0, 1), (54, .getfield 20, 3), (57, .iload_n 2, 1), (58, .iaload, 1), (59, .aload_n 1, 1), (60, .getfield 20, 3), (63, .iload_n 2, 1), (64, .iaload, 1), (65, .if_icmp .eq 5, 3), (68, .iconst 0, 1), (69, .ireturn, 1), (70, .iinc 2 1, 3), (73, .goto (-58), 3), (76, .iconst 1, 1), (77, .ireturn, 1)]
theorem dkX3_isLike_0 : ∀ q ∈ tX3_isLike_0, decode cX3_isLike q.1 = .ok q.2 := by decide +kernel
def tX3_isLike : List (Nat × Instr × Nat) := tX3_isLike_0
def mX3_isLike : mM := (yX3_isLike, 3, cX3_isLike, 3, (some .boolean), tX3_isLike, (0, 0, 0, 0), 1, false)
theorem odX3_isLike : mOd mX3_isLike := dkX3_isLike_0
set_option maxRecDepth 100000 in
theorem okX3_isLike : mOK mX3_isLike := ⟨by decide +kernel, List.mem_append_right _ (List.mem_of_getElem? (i := 697) rfl), rfl, ⟨by decide +kernel, by decide +kernel⟩, by decide +kernel, fun h => absurd h (by decide)⟩
def tX3_boxOf_0 : List (Nat × Instr × Nat) := [(0, .aload_n 0, 1), (1, .iload_n 1, 1), (2, .iload_n 2, 1), (3, .iload_n 3, 1), (4, .invokevirtual 37, 3), (7, .aload_n 0, 1), (8, .getfield 13, 3), (11, .iload 4, 2), (13, .iaload, 1), (14, .aload_n 0, 1), (15, .getfield 13, 3), (18, .iload_n 1, 1), (19, .iaload, 1), (20, .isub, 1), (21, .i2l, 1), (22, .lmul, 1), (23, .aload_n 0, 1), (24, .iload_n 1, 1), (25, .iload_n 2, 1), (26, .iload_n 3, 1), (27, .invokevirtual 41, 3), (30, .aload_n 0, 1), (31, .getfield 17, 3), (34, .iload 4, 2), (36, .iaload, 1), (37, .aload_n 0, 1), (38, .getfield 17, 3), (41, .iload_n 1, 1), (42, .iaload, 1), (43, .isub, 1), (44, .i2l, 1), (45, .lmul, 1), (46, .ladd, 1), (47, .aload_n 0, 1), (48, .iload_n 1, 1), (49, .iload_n 2, 1), (50, .iload_n 3, 1), (51, .invokevirtual 44, 3), (54, .aload_n 0, 1), (55, .getfield 20, 3), (58, .iload 4, 2), (60, .iaload, 1), (61, .aload_n 0, 1), (62, .getfield 20, 3), (65, .iload_n 1, 1), (66, .iaload, 1), (67, .isub, 1), (68, .i2l, 1), (69, .lmul, 1), (70, .ladd, 1), (71, .lreturn, 1)]
theorem dkX3_boxOf_0 : ∀ q ∈ tX3_boxOf_0, decode cX3_boxOf q.1 = .ok q.2 := by decide +kernel
def tX3_boxOf : List (Nat × Instr × Nat) := tX3_boxOf_0
def mX3_boxOf : mM := (yX3_boxOf, 3, cX3_boxOf, 5, (some .long), tX3_boxOf, (1, 23, 0, 0), 4, false)
theorem odX3_boxOf : mOd mX3_boxOf := dkX3_boxOf_0
set_option maxRecDepth 100000 in
theorem okX3_boxOf : mOK mX3_boxOf := ⟨by decide +kernel, List.mem_append_right _ (List.mem_of_getElem? (i := 380) rfl), rfl, ⟨by decide +kernel, by decide +kernel⟩, by decide +kernel, fun h => absurd h (by decide)⟩
def tX3_acrossX_0 : List (Nat × Instr × Nat) := [(0, .aload_n 0, 1), (1, .getfield 17, 3), (4, .iload_n 2, 1), (5, .iaload, 1), (6, .aload_n 0, 1), (7, .getfield 17, 3), (10, .iload_n 1, 1), (11, .iaload, 1), (12, .isub, 1), (13, .i2l, 1), (14, .aload_n 0, 1), (15, .getfield 20, 3), (18, .iload_n 3, 1), (19, .iaload, 1), (20, .aload_n 0, 1), (21, .getfield 20, 3), (24, .iload_n 1, 1), (25, .iaload, 1), (26, .isub, 1), (27, .i2l, 1), (28, .lmul, 1), (29, .aload_n 0, 1), (30, .getfield 20, 3), (33, .iload_n 2, 1), (34, .iaload, 1), (35, .aload_n 0, 1), (36, .getfield 20, 3), (39, .iload_n 1, 1), (40, .iaload, 1), (41, .isub, 1), (42, .i2l, 1), (43, .aload_n 0, 1), (44, .getfield 17, 3), (47, .iload_n 3, 1), (48, .iaload, 1), (49, .aload_n 0, 1), (50, .getfield 17, 3), (53, .iload_n 1, 1), (54, .iaload, 1), (55, .isub, 1), (56, .i2l, 1), (57, .lmul, 1), (58, .lsub, 1), (59, .lreturn, 1)]
theorem dkX3_acrossX_0 : ∀ q ∈ tX3_acrossX_0, decode cX3_acrossX q.1 = .ok q.2 := by decide +kernel
def tX3_acrossX : List (Nat × Instr × Nat) := tX3_acrossX_0
def mX3_acrossX : mM := (yX3_acrossX, 3, cX3_acrossX, 4, (some .long), tX3_acrossX, (0, 0, 0, 0), 3, false)
theorem odX3_acrossX : mOd mX3_acrossX := dkX3_acrossX_0
set_option maxRecDepth 100000 in
theorem okX3_acrossX : mOK mX3_acrossX := ⟨by decide +kernel, List.mem_append_right _ (List.mem_of_getElem? (i := 353) rfl), rfl, ⟨by decide +kernel, by decide +kernel⟩, by decide +kernel, fun h => absurd h (by decide)⟩
end
section
def tX3_acrossY_0 : List (Nat × Instr × Nat) := [(0, .aload_n 0, 1), (1, .getfield 20, 3), (4, .iload_n 2, 1), (5, .iaload, 1), (6, .aload_n 0, 1), (7, .getfield 20, 3), (10, .iload_n 1, 1), (11, .iaload, 1), (12, .isub, 1), (13, .i2l, 1), (14, .aload_n 0, 1), (15, .getfield 13, 3), (18, .iload_n 3, 1), (19, .iaload, 1), (20, .aload_n 0, 1), (21, .getfield 13, 3), (24, .iload_n 1, 1), (25, .iaload, 1), (26, .isub, 1), (27, .i2l, 1), (28, .lmul, 1), (29, .aload_n 0, 1), (30, .getfield 13, 3), (33, .iload_n 2, 1), (34, .iaload, 1), (35, .aload_n 0, 1), (36, .getfield 13, 3), (39, .iload_n 1, 1), (40, .iaload, 1), (41, .isub, 1), (42, .i2l, 1), (43, .aload_n 0, 1), (44, .getfield 20, 3), (47, .iload_n 3, 1), (48, .iaload, 1), (49, .aload_n 0, 1), (50, .getfield 20, 3), (53, .iload_n 1, 1), (54, .iaload, 1), (55, .isub, 1), (56, .i2l, 1), (57, .lmul, 1), (58, .lsub, 1), (59, .lreturn, 1)]
theorem dkX3_acrossY_0 : ∀ q ∈ tX3_acrossY_0, decode cX3_acrossY q.1 = .ok q.2 := by decide +kernel
def tX3_acrossY : List (Nat × Instr × Nat) := tX3_acrossY_0
def mX3_acrossY : mM := (yX3_acrossY, 3, cX3_acrossY, 4, (some .long), tX3_acrossY, (0, 0, 0, 0), 3, false)
theorem odX3_acrossY : mOd mX3_acrossY := dkX3_acrossY_0
set_option maxRecDepth 100000 in
theorem okX3_acrossY : mOK mX3_acrossY := ⟨by decide +kernel, List.mem_append_right _ (List.mem_of_getElem? (i := 357) rfl), rfl, ⟨by decide +kernel, by decide +kernel⟩, by decide +kernel, fun h => absurd h (by decide)⟩
def tX3_acrossZ_0 : List (Nat × Instr × Nat) := [(0, .aload_n 0, 1), (1, .getfield 13, 3), (4, .iload_n 2, 1), (5, .iaload, 1), (6, .aload_n 0, 1), (7, .getfield 13, 3), (10, .iload_n 1, 1), (11, .iaload, 1), (12, .isub, 1), (13, .i2l, 1), (14, .aload_n 0, 1), (15, .getfield 17, 3), (18, .iload_n 3, 1), (19, .iaload, 1), (20, .aload_n 0, 1), (21, .getfield 17, 3), (24, .iload_n 1, 1), (25, .iaload, 1), (26, .isub, 1), (27, .i2l, 1), (28, .lmul, 1), (29, .aload_n 0, 1), (30, .getfield 17, 3), (33, .iload_n 2, 1), (34, .iaload, 1), (35, .aload_n 0, 1), (36, .getfield 17, 3), (39, .iload_n 1, 1), (40, .iaload, 1), (41, .isub, 1), (42, .i2l, 1), (43, .aload_n 0, 1), (44, .getfield 13, 3), (47, .iload_n 3, 1), (48, .iaload, 1), (49, .aload_n 0, 1), (50, .getfield 13, 3), (53, .iload_n 1, 1), (54, .iaload, 1), (55, .isub, 1), (56, .i2l, 1), (57, .lmul, 1), (58, .lsub, 1), (59, .lreturn, 1)]
theorem dkX3_acrossZ_0 : ∀ q ∈ tX3_acrossZ_0, decode cX3_acrossZ q.1 = .ok q.2 := by decide +kernel
def tX3_acrossZ : List (Nat × Instr × Nat) := tX3_acrossZ_0
def mX3_acrossZ : mM := (yX3_acrossZ, 3, cX3_acrossZ, 4, (some .long), tX3_acrossZ, (0, 0, 0, 0), 3, false)
theorem odX3_acrossZ : mOd mX3_acrossZ := dkX3_acrossZ_0
set_option maxRecDepth 100000 in
theorem okX3_acrossZ : mOK mX3_acrossZ := ⟨by decide +kernel, List.mem_append_right _ (List.mem_of_getElem? (i := 361) rfl), rfl, ⟨by decide +kernel, by decide +kernel⟩, by decide +kernel, fun h => absurd h (by decide)⟩
def tX4_init_0 : List (Nat × Instr × Nat) := [(0, .aload_n 0, 1), (1, .invokespecial 3, 3), (4, .aload_n 0, 1), (5, .lconst 0, 1), (6, .putfield 9, 3), (9, .aload_n 0, 1), (10, .lconst 0, 1), (11, .putfield 15, 3), (14, .return_, 1)]
theorem dkX4_init_0 : ∀ q ∈ tX4_init_0, decode cX4_init q.1 = .ok q.2 := by decide +kernel
def tX4_init : List (Nat × Instr × Nat) := tX4_init_0
def mX4_init : mM := (yX4_init, 4, cX4_init, 1, none, tX4_init, (1, 20, 0, 0), 0, true)
theorem odX4_init : mOd mX4_init := dkX4_init_0
set_option maxRecDepth 100000 in
theorem okX4_init : mOK mX4_init := ⟨by decide +kernel, List.mem_append_right _ (List.mem_of_getElem? (i := 74) rfl), rfl, ⟨by decide +kernel, by decide +kernel⟩, by decide +kernel, fun _ => rfl⟩
def tX4_put_0 : List (Nat × Instr × Nat) := [(0, .lload_n 1, 1), (1, .invokestatic 18, 3), (4, .lload_n 3, 1), (5, .invokestatic 24, 3), (8, .lstore 5, 2), (10, .lload 5, 2), (12, .lconst 0, 1), (13, .lcmp, 1), (14, .ifCond .le 19, 3), (17, .aload_n 0, 1), (18, .lload_n 1, 1), (19, .lload 5, 2), (21, .ldiv, 1), (22, .putfield 9, 3), (25, .aload_n 0, 1), (26, .lload_n 3, 1), (27, .lload 5, 2), (29, .ldiv, 1), (30, .putfield 15, 3), (33, .return_, 1)]
theorem dkX4_put_0 : ∀ q ∈ tX4_put_0, decode cX4_put q.1 = .ok q.2 := by decide +kernel
def tX4_put : List (Nat × Instr × Nat) := tX4_put_0
def mX4_put : mM := (yX4_put, 4, cX4_put, 7, none, tX4_put, (1, 30, 0, 0), 2, false)
theorem odX4_put : mOd mX4_put := dkX4_put_0
set_option maxRecDepth 100000 in
theorem okX4_put : mOK mX4_put := ⟨by decide +kernel, List.mem_append_right _ (List.mem_of_getElem? (i := 579) rfl), rfl, ⟨by decide +kernel, by decide +kernel⟩, by decide +kernel, fun h => absurd h (by decide)⟩
def tX4_part_0 : List (Nat × Instr × Nat) := [(0, .iload_n 1, 1), (1, .ifCond .ne 10, 3), (4, .aload_n 0, 1), (5, .getfield 9, 3), (8, .goto 7, 3), (11, .aload_n 0, 1), (12, .getfield 15, 3), (15, .lreturn, 1)]
theorem dkX4_part_0 : ∀ q ∈ tX4_part_0, decode cX4_part q.1 = .ok q.2 := by decide +kernel
def tX4_part : List (Nat × Instr × Nat) := tX4_part_0
def mX4_part : mM := (yX4_part, 4, cX4_part, 2, (some .long), tX4_part, (0, 0, 0, 0), 1, false)
theorem odX4_part : mOd mX4_part := dkX4_part_0
set_option maxRecDepth 100000 in
theorem okX4_part : mOK mX4_part := ⟨by decide +kernel, List.mem_append_right _ (List.mem_of_getElem? (i := 587) rfl), rfl, ⟨by decide +kernel, by decide +kernel⟩, by decide +kernel, fun h => absurd h (by decide)⟩
def tX4_isAbove_0 : List (Nat × Instr × Nat) := [(0, .aload_n 0, 1), (1, .getfield 9, 3), (4, .lstore 5, 2), (6, .aload_n 0, 1), (7, .getfield 15, 3), (10, .lstore 7, 2), (12, .lload_n 1, 1), (13, .lstore 9, 2), (15, .lload_n 3, 1), (16, .lstore 11, 2), (18, .iconst 0, 1), (19, .istore 13, 2), (21, .iload 13, 2), (23, .ldc 28, 2), (25, .if_icmp .ge 117, 3), (28, .lload 7, 2), (30, .lconst 0, 1), (31, .lcmp, 1), (32, .ifCond .le 110, 3), (35, .lload 11, 2), (37, .lconst 0, 1), (38, .lcmp, 1), (39, .ifCond .le 103, 3), (42, .lload 5, 2), (44, .lload 7, 2), (46, .ldiv, 1), (47, .lstore 14, 2), (49, .lload 9, 2), (51, .lload 11, 2), (53, .ldiv, 1), (54, .lstore 16, 2), (56, .lload 14, 2), (58, .lload 16, 2), (60, .lcmp, 1), (61, .ifCond .eq 17, 3), (64, .lload 14, 2), (66, .lload 16, 2), (68, .lcmp, 1), (69, .ifCond .le 7, 3), (72, .iconst 1, 1), (73, .goto 4, 3), (76, .iconst 0, 1), (77, .ireturn, 1), (78, .lload 5, 2), (80, .lload 7, 2), (82, .lrem, 1), (83, .lstore 18, 2), (85, .lload 9, 2), (87, .lload 11, 2), (89, .lrem, 1), (90, .lstore 20, 2), (92, .lload 18, 2), (94, .lconst 0, 1), (95, .lcmp, 1), (96, .ifCond .eq 10, 3), (99, .lload 20, 2), (101, .lconst 0, 1), (102, .lcmp, 1), (103, .ifCond .ne 17, 3), (106, .lload 18, 2)]
theorem dkX4_isAbove_0 : ∀ q ∈ tX4_isAbove_0, decode cX4_isAbove q.1 = .ok q.2 := by decide +kernel
def tX4_isAbove_1 : List (Nat × Instr × Nat) := [(108, .lload 20, 2), (110, .lcmp, 1), (111, .ifCond .le 7, 3), (114, .iconst 1, 1), (115, .goto 4, 3), (118, .iconst 0, 1), (119, .ireturn, 1), (120, .lload 11, 2), (122, .lstore 5, 2), (124, .lload 7, 2), (126, .lstore 9, 2), (128, .lload 20, 2), (130, .lstore 7, 2), (132, .lload 18, 2), (134, .lstore 11, 2), (136, .iinc 13 1, 3), (139, .goto (-118), 3), (142, .iconst 0, 1), (143, .ireturn, 1)]
theorem dkX4_isAbove_1 : ∀ q ∈ tX4_isAbove_1, decode cX4_isAbove q.1 = .ok q.2 := by decide +kernel
def tX4_isAbove : List (Nat × Instr × Nat) := tX4_isAbove_0 ++ (tX4_isAbove_1)
def mX4_isAbove : mM := (yX4_isAbove, 4, cX4_isAbove, 22, (some .boolean), tX4_isAbove, (0, 0, 0, 0), 2, false)
theorem odX4_isAbove : mOd mX4_isAbove := List.forall_mem_append.mpr ⟨dkX4_isAbove_0, dkX4_isAbove_1⟩
set_option maxRecDepth 100000 in
theorem okX4_isAbove : mOK mX4_isAbove := ⟨by decide +kernel, List.mem_append_right _ (List.mem_of_getElem? (i := 613) rfl), rfl, ⟨by decide +kernel, by decide +kernel⟩, by decide +kernel, fun h => absurd h (by decide)⟩
def tX5_init_0 : List (Nat × Instr × Nat) := [(0, .aload_n 0, 1), (1, .invokespecial 5, 3), (4, .aload_n 0, 1), (5, .new 11, 3), (8, .dup, 1), (9, .bipush 25, 2), (11, .invokespecial 13, 3), (14, .putfield 16, 3), (17, .aload_n 0, 1), (18, .iconst 0, 1), (19, .putfield 20, 3), (22, .aload_n 0, 1), (23, .sipush 138, 3), (26, .newarray .int, 2), (28, .putfield 24, 3), (31, .aload_n 0, 1), (32, .sipush 184, 3), (35, .newarray .int, 2), (37, .putfield 28, 3), (40, .aload_n 0, 1), (41, .bipush 46, 2), (43, .newarray .boolean, 2), (45, .putfield 31, 3), (48, .aload_n 0, 1), (49, .iconst 0, 1), (50, .putfield 35, 3), (53, .aload_n 0, 1), (54, .sipush 138, 3), (57, .newarray .int, 2), (59, .putfield 38, 3), (62, .aload_n 0, 1), (63, .sipush 138, 3), (66, .newarray .int, 2), (68, .putfield 41, 3), (71, .aload_n 0, 1), (72, .sipush 625, 3), (75, .newarray .boolean, 2), (77, .putfield 44, 3), (80, .return_, 1)]
theorem dkX5_init_0 : ∀ q ∈ tX5_init_0, decode cX5_init q.1 = .ok q.2 := by decide +kernel
def tX5_init : List (Nat × Instr × Nat) := tX5_init_0
def mX5_init : mM := (yX5_init, 5, cX5_init, 1, none, tX5_init, (2, 41, 20, 2000), 0, true)
theorem odX5_init : mOd mX5_init := dkX5_init_0
set_option maxRecDepth 100000 in
theorem okX5_init : mOK mX5_init := ⟨by decide +kernel, List.mem_append_right _ (List.mem_of_getElem? (i := 134) rfl), rfl, ⟨by decide +kernel, by decide +kernel⟩, by decide +kernel, fun _ => rfl⟩
def tX5_clear_0 : List (Nat × Instr × Nat) := [(0, .aload_n 0, 1), (1, .getfield 16, 3), (4, .invokevirtual 47, 3), (7, .aload_n 0, 1), (8, .iconst 0, 1), (9, .putfield 20, 3), (12, .return_, 1)]
theorem dkX5_clear_0 : ∀ q ∈ tX5_clear_0, decode cX5_clear q.1 = .ok q.2 := by decide +kernel
def tX5_clear : List (Nat × Instr × Nat) := tX5_clear_0
def mX5_clear : mM := (yX5_clear, 5, cX5_clear, 1, none, tX5_clear, (1, 20, 0, 0), 0, false)
theorem odX5_clear : mOd mX5_clear := dkX5_clear_0
set_option maxRecDepth 100000 in
theorem okX5_clear : mOK mX5_clear := ⟨by decide +kernel, List.mem_append_right _ (List.mem_of_getElem? (i := 322) rfl), rfl, ⟨by decide +kernel, by decide +kernel⟩, by decide +kernel, fun h => absurd h (by decide)⟩
def tX5_addProp_0 : List (Nat × Instr × Nat) := [(0, .aload_n 0, 1), (1, .getfield 16, 3), (4, .iconst 0, 1), (5, .iconst 1, 1), (6, .iconst 2, 1), (7, .invokevirtual 50, 3), (10, .lconst 0, 1), (11, .lcmp, 1), (12, .ifCond .eq 42, 3), (15, .aload_n 0, 1), (16, .getfield 16, 3), (19, .aload_n 0, 1), (20, .getfield 16, 3), (23, .getfield 54, 3), (26, .iconst 0, 1), (27, .iaload, 1), (28, .iconst 1, 1), (29, .iadd, 1), (30, .aload_n 0, 1), (31, .getfield 16, 3), (34, .getfield 57, 3), (37, .iconst 0, 1), (38, .iaload, 1), (39, .aload_n 0, 1), (40, .getfield 16, 3), (43, .getfield 60, 3), (46, .iconst 0, 1), (47, .iaload, 1), (48, .invokevirtual 63, 3), (51, .goto 93, 3), (54, .aload_n 0, 1), (55, .getfield 16, 3), (58, .iconst 0, 1), (59, .iconst 1, 1), (60, .iconst 2, 1), (61, .invokevirtual 67, 3), (64, .lconst 0, 1), (65, .lcmp, 1), (66, .ifCond .eq 42, 3), (69, .aload_n 0, 1), (70, .getfield 16, 3), (73, .aload_n 0, 1), (74, .getfield 16, 3), (77, .getfield 54, 3), (80, .iconst 0, 1), (81, .iaload, 1), (82, .aload_n 0, 1), (83, .getfield 16, 3), (86, .getfield 57, 3), (89, .iconst 0, 1), (90, .iaload, 1), (91, .iconst 1, 1), (92, .iadd, 1), (93, .aload_n 0, 1), (94, .getfield 16, 3), (97, .getfield 60, 3), (100, .iconst 0, 1), (101, .iaload, 1), (102, .invokevirtual 63, 3), (105, .goto 39, 3)]
theorem dkX5_addProp_0 : ∀ q ∈ tX5_addProp_0, decode cX5_addProp q.1 = .ok q.2 := by decide +kernel
def tX5_addProp_1 : List (Nat × Instr × Nat) := [(108, .aload_n 0, 1), (109, .getfield 16, 3), (112, .aload_n 0, 1), (113, .getfield 16, 3), (116, .getfield 54, 3), (119, .iconst 0, 1), (120, .iaload, 1), (121, .aload_n 0, 1), (122, .getfield 16, 3), (125, .getfield 57, 3), (128, .iconst 0, 1), (129, .iaload, 1), (130, .aload_n 0, 1), (131, .getfield 16, 3), (134, .getfield 60, 3), (137, .iconst 0, 1), (138, .iaload, 1), (139, .iconst 1, 1), (140, .iadd, 1), (141, .invokevirtual 63, 3), (144, .return_, 1)]
theorem dkX5_addProp_1 : ∀ q ∈ tX5_addProp_1, decode cX5_addProp q.1 = .ok q.2 := by decide +kernel
def tX5_addProp : List (Nat × Instr × Nat) := tX5_addProp_0 ++ (tX5_addProp_1)
def mX5_addProp : mM := (yX5_addProp, 5, cX5_addProp, 1, none, tX5_addProp, (1, 23, 0, 0), 0, false)
theorem odX5_addProp : mOd mX5_addProp := List.forall_mem_append.mpr ⟨dkX5_addProp_0, dkX5_addProp_1⟩
set_option maxRecDepth 100000 in
theorem okX5_addProp : mOK mX5_addProp := ⟨by decide +kernel, List.mem_append_right _ (List.mem_of_getElem? (i := 369) rfl), rfl, ⟨by decide +kernel, by decide +kernel⟩, by decide +kernel, fun h => absurd h (by decide)⟩
def tX5_beginWithFour_0 : List (Nat × Instr × Nat) := [(0, .aload_n 0, 1), (1, .getfield 16, 3), (4, .iconst 0, 1), (5, .iconst 1, 1), (6, .iconst 2, 1), (7, .iconst 3, 1), (8, .invokevirtual 70, 3), (11, .lconst 0, 1), (12, .lcmp, 1), (13, .ifCond .ge 7, 3), (16, .iconst 1, 1), (17, .goto 4, 3), (20, .iconst 0, 1), (21, .istore_n 1, 1), (22, .iload_n 1, 1), (23, .ifCond .eq 7, 3), (26, .iconst 1, 1), (27, .goto 4, 3), (30, .iconst 2, 1), (31, .istore_n 2, 1), (32, .iload_n 1, 1), (33, .ifCond .eq 7, 3), (36, .iconst 2, 1), (37, .goto 4, 3), (40, .iconst 1, 1), (41, .istore_n 3, 1), (42, .aload_n 0, 1), (43, .iconst 0, 1), (44, .iload_n 2, 1), (45, .iload_n 3, 1), (46, .invokevirtual 74, 3), (49, .aload_n 0, 1), (50, .iload_n 2, 1), (51, .iconst 0, 1), (52, .iconst 3, 1), (53, .invokevirtual 74, 3), (56, .aload_n 0, 1), (57, .iload_n 3, 1), (58, .iload_n 2, 1), (59, .iconst 3, 1), (60, .invokevirtual 74, 3), (63, .aload_n 0, 1), (64, .iconst 0, 1), (65, .iload_n 3, 1), (66, .iconst 3, 1), (67, .invokevirtual 74, 3), (70, .return_, 1)]
theorem dkX5_beginWithFour_0 : ∀ q ∈ tX5_beginWithFour_0, decode cX5_beginWithFour q.1 = .ok q.2 := by decide +kernel
def tX5_beginWithFour : List (Nat × Instr × Nat) := tX5_beginWithFour_0
def mX5_beginWithFour : mM := (yX5_beginWithFour, 5, cX5_beginWithFour, 4, none, tX5_beginWithFour, (2, 49, 0, 0), 0, false)
theorem odX5_beginWithFour : mOd mX5_beginWithFour := dkX5_beginWithFour_0
set_option maxRecDepth 100000 in
theorem okX5_beginWithFour : mOK mX5_beginWithFour := ⟨by decide +kernel, List.mem_append_right _ (List.mem_of_getElem? (i := 376) rfl), rfl, ⟨by decide +kernel, by decide +kernel⟩, by decide +kernel, fun h => absurd h (by decide)⟩
def tX5_firstOpen_0 : List (Nat × Instr × Nat) := [(0, .iconst 0, 1), (1, .istore_n 1, 1), (2, .iload_n 1, 1), (3, .aload_n 0, 1), (4, .getfield 20, 3), (7, .if_icmp .ge 20, 3), (10, .aload_n 0, 1), (11, .getfield 31, 3), (14, .iload_n 1, 1), (15, .baload, 1), (16, .ifCond .ne 5, 3), (19, .iload_n 1, 1), (20, .ireturn, 1), (21, .iinc 1 1, 3), (24, .goto (-22), 3), (27, .iconst (-1), 1), (28, .ireturn, 1)]
theorem dkX5_firstOpen_0 : ∀ q ∈ tX5_firstOpen_0, decode cX5_firstOpen q.1 = .ok q.2 := by decide +kernel
def tX5_firstOpen : List (Nat × Instr × Nat) := tX5_firstOpen_0
def mX5_firstOpen : mM := (yX5_firstOpen, 5, cX5_firstOpen, 2, (some .int), tX5_firstOpen, (0, 0, 0, 0), 0, false)
theorem odX5_firstOpen : mOd mX5_firstOpen := dkX5_firstOpen_0
set_option maxRecDepth 100000 in
theorem okX5_firstOpen : mOK mX5_firstOpen := ⟨by decide +kernel, List.mem_append_right _ (List.mem_of_getElem? (i := 393) rfl), rfl, ⟨by decide +kernel, by decide +kernel⟩, by decide +kernel, fun h => absurd h (by decide)⟩
def tX5_isBeyond_0 : List (Nat × Instr × Nat) := [(0, .aload_n 0, 1), (1, .getfield 28, 3), (4, .iconst 4, 1), (5, .iload_n 1, 1), (6, .imul, 1), (7, .iaload, 1), (8, .i2l, 1), (9, .lload_n 2, 1), (10, .lmul, 1), (11, .aload_n 0, 1), (12, .getfield 28, 3), (15, .iconst 4, 1), (16, .iload_n 1, 1), (17, .imul, 1), (18, .iconst 1, 1), (19, .iadd, 1), (20, .iaload, 1), (21, .i2l, 1), (22, .lload 4, 2), (24, .lmul, 1), (25, .ladd, 1), (26, .aload_n 0, 1), (27, .getfield 28, 3), (30, .iconst 4, 1), (31, .iload_n 1, 1), (32, .imul, 1), (33, .iconst 2, 1), (34, .iadd, 1), (35, .iaload, 1), (36, .i2l, 1), (37, .lload 6, 2), (39, .lmul, 1), (40, .ladd, 1), (41, .aload_n 0, 1), (42, .getfield 28, 3), (45, .iconst 4, 1), (46, .iload_n 1, 1), (47, .imul, 1), (48, .iconst 3, 1), (49, .iadd, 1), (50, .iaload, 1), (51, .i2l, 1), (52, .lcmp, 1), (53, .ifCond .le 7, 3), (56, .iconst 1, 1), (57, .goto 4, 3), (60, .iconst 0, 1), (61, .ireturn, 1)]
theorem dkX5_isBeyond_0 : ∀ q ∈ tX5_isBeyond_0, decode cX5_isBeyond q.1 = .ok q.2 := by decide +kernel
def tX5_isBeyond : List (Nat × Instr × Nat) := tX5_isBeyond_0
def mX5_isBeyond : mM := (yX5_isBeyond, 5, cX5_isBeyond, 8, (some .boolean), tX5_isBeyond, (0, 0, 0, 0), 4, false)
theorem odX5_isBeyond : mOd mX5_isBeyond := dkX5_isBeyond_0
set_option maxRecDepth 100000 in
theorem okX5_isBeyond : mOK mX5_isBeyond := ⟨by decide +kernel, List.mem_append_right _ (List.mem_of_getElem? (i := 397) rfl), rfl, ⟨by decide +kernel, by decide +kernel⟩, by decide +kernel, fun h => absurd h (by decide)⟩
def tX5_touches_0 : List (Nat × Instr × Nat) := [(0, .aload_n 0, 1), (1, .getfield 24, 3), (4, .iconst 3, 1), (5, .iload_n 1, 1), (6, .imul, 1), (7, .iaload, 1), (8, .iload_n 2, 1), (9, .if_icmp .eq 31, 3), (12, .aload_n 0, 1), (13, .getfield 24, 3), (16, .iconst 3, 1), (17, .iload_n 1, 1), (18, .imul, 1), (19, .iconst 1, 1), (20, .iadd, 1), (21, .iaload, 1), (22, .iload_n 2, 1), (23, .if_icmp .eq 17, 3), (26, .aload_n 0, 1), (27, .getfield 24, 3), (30, .iconst 3, 1), (31, .iload_n 1, 1), (32, .imul, 1), (33, .iconst 2, 1), (34, .iadd, 1), (35, .iaload, 1), (36, .iload_n 2, 1), (37, .if_icmp .ne 7, 3), (40, .iconst 1, 1), (41, .goto 4, 3), (44, .iconst 0, 1), (45, .ireturn, 1)]
theorem dkX5_touches_0 : ∀ q ∈ tX5_touches_0, decode cX5_touches q.1 = .ok q.2 := by decide +kernel
def tX5_touches : List (Nat × Instr × Nat) := tX5_touches_0
def mX5_touches : mM := (yX5_touches, 5, cX5_touches, 3, (some .boolean), tX5_touches, (0, 0, 0, 0), 2, false)
theorem odX5_touches : mOd mX5_touches := dkX5_touches_0
set_option maxRecDepth 100000 in
theorem okX5_touches : mOK mX5_touches := ⟨by decide +kernel, List.mem_append_right _ (List.mem_of_getElem? (i := 445) rfl), rfl, ⟨by decide +kernel, by decide +kernel⟩, by decide +kernel, fun h => absurd h (by decide)⟩
def tX5_attachLatest_0 : List (Nat × Instr × Nat) := [(0, .aload_n 0, 1), (1, .getfield 16, 3), (4, .getfield 77, 3), (7, .iconst 1, 1), (8, .isub, 1), (9, .istore_n 1, 1), (10, .aload_n 0, 1), (11, .iconst 0, 1), (12, .putfield 35, 3), (15, .aload_n 0, 1), (16, .getfield 20, 3), (19, .iconst 1, 1), (20, .isub, 1), (21, .istore_n 2, 1), (22, .iload_n 2, 1), (23, .ifCond .lt 52, 3), (26, .aload_n 0, 1), (27, .iload_n 2, 1), (28, .aload_n 0, 1), (29, .getfield 16, 3), (32, .getfield 54, 3), (35, .iload_n 1, 1), (36, .iaload, 1), (37, .i2l, 1), (38, .aload_n 0, 1), (39, .getfield 16, 3), (42, .getfield 57, 3), (45, .iload_n 1, 1), (46, .iaload, 1), (47, .i2l, 1), (48, .aload_n 0, 1), (49, .getfield 16, 3), (52, .getfield 60, 3), (55, .iload_n 1, 1), (56, .iaload, 1), (57, .i2l, 1), (58, .invokevirtual 80, 3), (61, .ifCond .eq 8, 3), (64, .aload_n 0, 1), (65, .iload_n 2, 1), (66, .invokevirtual 84, 3), (69, .iinc 2 (-1), 3), (72, .goto (-50), 3), (75, .iconst 0, 1), (76, .istore_n 2, 1), (77, .iload_n 2, 1), (78, .aload_n 0, 1), (79, .getfield 35, 3), (82, .if_icmp .ge 50, 3), (85, .aload_n 0, 1), (86, .getfield 44, 3), (89, .aload_n 0, 1), (90, .getfield 41, 3), (93, .iload_n 2, 1), (94, .iaload, 1), (95, .bipush 25, 2), (97, .imul, 1), (98, .aload_n 0, 1), (99, .getfield 38, 3), (102, .iload_n 2, 1)]
theorem dkX5_attachLatest_0 : ∀ q ∈ tX5_attachLatest_0, decode cX5_attachLatest q.1 = .ok q.2 := by decide +kernel
def tX5_attachLatest_1 : List (Nat × Instr × Nat) := [(103, .iaload, 1), (104, .iadd, 1), (105, .baload, 1), (106, .ifCond .ne 20, 3), (109, .aload_n 0, 1), (110, .aload_n 0, 1), (111, .getfield 38, 3), (114, .iload_n 2, 1), (115, .iaload, 1), (116, .aload_n 0, 1), (117, .getfield 41, 3), (120, .iload_n 2, 1), (121, .iaload, 1), (122, .iload_n 1, 1), (123, .invokevirtual 74, 3), (126, .iinc 2 1, 3), (129, .goto (-52), 3), (132, .iconst 0, 1), (133, .istore_n 2, 1), (134, .iload_n 2, 1), (135, .aload_n 0, 1), (136, .getfield 35, 3), (139, .if_icmp .ge 31, 3), (142, .aload_n 0, 1), (143, .getfield 44, 3), (146, .aload_n 0, 1), (147, .getfield 38, 3), (150, .iload_n 2, 1), (151, .iaload, 1), (152, .bipush 25, 2), (154, .imul, 1), (155, .aload_n 0, 1), (156, .getfield 41, 3), (159, .iload_n 2, 1), (160, .iaload, 1), (161, .iadd, 1), (162, .iconst 0, 1), (163, .bastore, 1), (164, .iinc 2 1, 3), (167, .goto (-33), 3), (170, .return_, 1)]
theorem dkX5_attachLatest_1 : ∀ q ∈ tX5_attachLatest_1, decode cX5_attachLatest q.1 = .ok q.2 := by decide +kernel
def tX5_attachLatest : List (Nat × Instr × Nat) := tX5_attachLatest_0 ++ (tX5_attachLatest_1)
def mX5_attachLatest : mM := (yX5_attachLatest, 5, cX5_attachLatest, 3, none, tX5_attachLatest, (2, 50, 0, 0), 0, false)
theorem odX5_attachLatest : mOd mX5_attachLatest := List.forall_mem_append.mpr ⟨dkX5_attachLatest_0, dkX5_attachLatest_1⟩
set_option maxRecDepth 100000 in
theorem okX5_attachLatest : mOK mX5_attachLatest := ⟨by decide +kernel, List.mem_append_right _ (List.mem_of_getElem? (i := 401) rfl), rfl, ⟨by decide +kernel, by decide +kernel⟩, by decide +kernel, fun h => absurd h (by decide)⟩
def tX5_tearOff_0 : List (Nat × Instr × Nat) := [(0, .iconst 0, 1), (1, .istore_n 2, 1), (2, .iload_n 2, 1), (3, .iconst 3, 1), (4, .if_icmp .ge 101, 3), (7, .aload_n 0, 1), (8, .getfield 35, 3), (11, .aload_n 0, 1), (12, .getfield 38, 3), (15, .arraylength, 1), (16, .if_icmp .ge 89, 3), (19, .aload_n 0, 1), (20, .getfield 38, 3), (23, .aload_n 0, 1), (24, .getfield 35, 3), (27, .aload_n 0, 1), (28, .getfield 24, 3), (31, .iconst 3, 1), (32, .iload_n 1, 1), (33, .imul, 1), (34, .iload_n 2, 1), (35, .iadd, 1), (36, .iaload, 1), (37, .iastore, 1), (38, .aload_n 0, 1), (39, .getfield 41, 3), (42, .aload_n 0, 1), (43, .getfield 35, 3), (46, .aload_n 0, 1), (47, .getfield 24, 3), (50, .iconst 3, 1), (51, .iload_n 1, 1), (52, .imul, 1), (53, .iload_n 2, 1), (54, .iconst 1, 1), (55, .iadd, 1), (56, .iconst 3, 1), (57, .irem, 1), (58, .iadd, 1), (59, .iaload, 1), (60, .iastore, 1), (61, .aload_n 0, 1), (62, .getfield 44, 3), (65, .aload_n 0, 1), (66, .getfield 38, 3), (69, .aload_n 0, 1), (70, .getfield 35, 3), (73, .iaload, 1), (74, .bipush 25, 2), (76, .imul, 1), (77, .aload_n 0, 1), (78, .getfield 41, 3), (81, .aload_n 0, 1), (82, .getfield 35, 3), (85, .iaload, 1), (86, .iadd, 1), (87, .iconst 1, 1), (88, .bastore, 1), (89, .aload_n 0, 1), (90, .dup, 1)]
theorem dkX5_tearOff_0 : ∀ q ∈ tX5_tearOff_0, decode cX5_tearOff q.1 = .ok q.2 := by decide +kernel
def tX5_tearOff_1 : List (Nat × Instr × Nat) := [(91, .getfield 35, 3), (94, .iconst 1, 1), (95, .iadd, 1), (96, .putfield 35, 3), (99, .iinc 2 1, 3), (102, .goto (-100), 3), (105, .aload_n 0, 1), (106, .dup, 1), (107, .getfield 20, 3), (110, .iconst 1, 1), (111, .isub, 1), (112, .putfield 20, 3), (115, .aload_n 0, 1), (116, .getfield 24, 3), (119, .iconst 3, 1), (120, .aload_n 0, 1), (121, .getfield 20, 3), (124, .imul, 1), (125, .aload_n 0, 1), (126, .getfield 24, 3), (129, .iconst 3, 1), (130, .iload_n 1, 1), (131, .imul, 1), (132, .iconst 3, 1), (133, .invokestatic 87, 3), (136, .aload_n 0, 1), (137, .getfield 28, 3), (140, .iconst 4, 1), (141, .aload_n 0, 1), (142, .getfield 20, 3), (145, .imul, 1), (146, .aload_n 0, 1), (147, .getfield 28, 3), (150, .iconst 4, 1), (151, .iload_n 1, 1), (152, .imul, 1), (153, .iconst 4, 1), (154, .invokestatic 87, 3), (157, .aload_n 0, 1), (158, .getfield 31, 3), (161, .iload_n 1, 1), (162, .aload_n 0, 1), (163, .getfield 31, 3), (166, .aload_n 0, 1), (167, .getfield 20, 3), (170, .baload, 1), (171, .bastore, 1), (172, .return_, 1)]
theorem dkX5_tearOff_1 : ∀ q ∈ tX5_tearOff_1, decode cX5_tearOff q.1 = .ok q.2 := by decide +kernel
def tX5_tearOff : List (Nat × Instr × Nat) := tX5_tearOff_0 ++ (tX5_tearOff_1)
def mX5_tearOff : mM := (yX5_tearOff, 5, cX5_tearOff, 3, none, tX5_tearOff, (1, 28, 0, 0), 1, false)
theorem odX5_tearOff : mOd mX5_tearOff := List.forall_mem_append.mpr ⟨dkX5_tearOff_0, dkX5_tearOff_1⟩
set_option maxRecDepth 100000 in
theorem okX5_tearOff : mOK mX5_tearOff := ⟨by decide +kernel, List.mem_append_right _ (List.mem_of_getElem? (i := 406) rfl), rfl, ⟨by decide +kernel, by decide +kernel⟩, by decide +kernel, fun h => absurd h (by decide)⟩
def tX5_addTriangle_0 : List (Nat × Instr × Nat) := [(0, .aload_n 0, 1), (1, .getfield 20, 3), (4, .bipush 46, 2), (6, .if_icmp .lt 4, 3), (9, .return_, 1), (10, .aload_n 0, 1), (11, .getfield 16, 3), (14, .iload_n 1, 1), (15, .iload_n 2, 1), (16, .iload_n 3, 1), (17, .invokevirtual 50, 3), (20, .l2i, 1), (21, .istore 4, 2), (23, .aload_n 0, 1), (24, .getfield 16, 3), (27, .iload_n 1, 1), (28, .iload_n 2, 1), (29, .iload_n 3, 1), (30, .invokevirtual 67, 3), (33, .l2i, 1), (34, .istore 5, 2), (36, .aload_n 0, 1), (37, .getfield 16, 3), (40, .iload_n 1, 1), (41, .iload_n 2, 1), (42, .iload_n 3, 1), (43, .invokevirtual 93, 3), (46, .l2i, 1), (47, .istore 6, 2), (49, .aload_n 0, 1), (50, .getfield 24, 3), (53, .iconst 3, 1), (54, .aload_n 0, 1), (55, .getfield 20, 3), (58, .imul, 1), (59, .iload_n 1, 1), (60, .iastore, 1), (61, .aload_n 0, 1), (62, .getfield 24, 3), (65, .iconst 3, 1), (66, .aload_n 0, 1), (67, .getfield 20, 3), (70, .imul, 1), (71, .iconst 1, 1), (72, .iadd, 1), (73, .iload_n 2, 1), (74, .iastore, 1), (75, .aload_n 0, 1), (76, .getfield 24, 3), (79, .iconst 3, 1), (80, .aload_n 0, 1), (81, .getfield 20, 3), (84, .imul, 1), (85, .iconst 2, 1), (86, .iadd, 1), (87, .iload_n 3, 1), (88, .iastore, 1), (89, .aload_n 0, 1), (90, .getfield 28, 3), (93, .iconst 4, 1)]
theorem dkX5_addTriangle_0 : ∀ q ∈ tX5_addTriangle_0, decode cX5_addTriangle q.1 = .ok q.2 := by decide +kernel
def tX5_addTriangle_1 : List (Nat × Instr × Nat) := [(94, .aload_n 0, 1), (95, .getfield 20, 3), (98, .imul, 1), (99, .iload 4, 2), (101, .iastore, 1), (102, .aload_n 0, 1), (103, .getfield 28, 3), (106, .iconst 4, 1), (107, .aload_n 0, 1), (108, .getfield 20, 3), (111, .imul, 1), (112, .iconst 1, 1), (113, .iadd, 1), (114, .iload 5, 2), (116, .iastore, 1), (117, .aload_n 0, 1), (118, .getfield 28, 3), (121, .iconst 4, 1), (122, .aload_n 0, 1), (123, .getfield 20, 3), (126, .imul, 1), (127, .iconst 2, 1), (128, .iadd, 1), (129, .iload 6, 2), (131, .iastore, 1), (132, .aload_n 0, 1), (133, .getfield 28, 3), (136, .iconst 4, 1), (137, .aload_n 0, 1), (138, .getfield 20, 3), (141, .imul, 1), (142, .iconst 3, 1), (143, .iadd, 1), (144, .iload 4, 2), (146, .aload_n 0, 1), (147, .getfield 16, 3), (150, .getfield 54, 3), (153, .iload_n 1, 1), (154, .iaload, 1), (155, .imul, 1), (156, .iload 5, 2), (158, .aload_n 0, 1), (159, .getfield 16, 3), (162, .getfield 57, 3), (165, .iload_n 1, 1), (166, .iaload, 1), (167, .imul, 1), (168, .iadd, 1), (169, .iload 6, 2), (171, .aload_n 0, 1), (172, .getfield 16, 3), (175, .getfield 60, 3), (178, .iload_n 1, 1), (179, .iaload, 1), (180, .imul, 1), (181, .iadd, 1), (182, .iastore, 1), (183, .aload_n 0, 1), (184, .getfield 31, 3), (187, .aload_n 0, 1)]
theorem dkX5_addTriangle_1 : ∀ q ∈ tX5_addTriangle_1, decode cX5_addTriangle q.1 = .ok q.2 := by decide +kernel
def tX5_addTriangle_2 : List (Nat × Instr × Nat) := [(188, .getfield 20, 3), (191, .iconst 0, 1), (192, .bastore, 1), (193, .aload_n 0, 1), (194, .dup, 1), (195, .getfield 20, 3), (198, .iconst 1, 1), (199, .iadd, 1), (200, .putfield 20, 3), (203, .return_, 1)]
theorem dkX5_addTriangle_2 : ∀ q ∈ tX5_addTriangle_2, decode cX5_addTriangle q.1 = .ok q.2 := by decide +kernel
def tX5_addTriangle : List (Nat × Instr × Nat) := tX5_addTriangle_0 ++ (tX5_addTriangle_1 ++ (tX5_addTriangle_2))
def mX5_addTriangle : mM := (yX5_addTriangle, 5, cX5_addTriangle, 7, none, tX5_addTriangle, (1, 23, 0, 0), 3, false)
theorem odX5_addTriangle : mOd mX5_addTriangle := List.forall_mem_append.mpr ⟨dkX5_addTriangle_0, List.forall_mem_append.mpr ⟨dkX5_addTriangle_1, dkX5_addTriangle_2⟩⟩
set_option maxRecDepth 100000 in
theorem okX5_addTriangle : mOK mX5_addTriangle := ⟨by decide +kernel, List.mem_append_right _ (List.mem_of_getElem? (i := 387) rfl), rfl, ⟨by decide +kernel, by decide +kernel⟩, by decide +kernel, fun h => absurd h (by decide)⟩
def tX6_init_0 : List (Nat × Instr × Nat) := [(0, .aload_n 0, 1), (1, .invokespecial 1, 3), (4, .aload_n 0, 1), (5, .bipush 8, 2), (7, .anewarray 9, 3), (10, .putfield 11, 3), (13, .aload_n 0, 1), (14, .bipush 8, 2), (16, .newarray .boolean, 2), (18, .putfield 15, 3), (21, .aload_n 0, 1), (22, .bipush 8, 2), (24, .anewarray 19, 3), (27, .putfield 21, 3), (30, .aload_n 0, 1), (31, .bipush 8, 2), (33, .anewarray 19, 3), (36, .putfield 25, 3), (39, .aload_n 0, 1), (40, .bipush 8, 2), (42, .newarray .int, 2), (44, .putfield 28, 3), (47, .aload_n 0, 1), (48, .iconst 0, 1), (49, .putfield 32, 3), (52, .aload_n 0, 1), (53, .new 19, 3), (56, .dup, 1), (57, .invokespecial 36, 3), (60, .putfield 37, 3), (63, .aload_n 0, 1), (64, .new 9, 3), (67, .dup, 1), (68, .bipush 25, 2), (70, .invokespecial 41, 3), (73, .putfield 44, 3), (76, .aload_n 0, 1), (77, .new 9, 3), (80, .dup, 1), (81, .iconst 1, 1), (82, .invokespecial 41, 3), (85, .putfield 48, 3), (88, .aload_n 0, 1), (89, .new 9, 3), (92, .dup, 1), (93, .iconst 1, 1), (94, .invokespecial 41, 3), (97, .putfield 51, 3), (100, .aload_n 0, 1), (101, .new 54, 3), (104, .dup, 1), (105, .invokespecial 56, 3), (108, .putfield 57, 3), (111, .aload_n 0, 1), (112, .new 61, 3), (115, .dup, 1), (116, .invokespecial 63, 3), (119, .putfield 64, 3), (122, .aload_n 0, 1), (123, .new 68, 3)]
theorem dkX6_init_0 : ∀ q ∈ tX6_init_0, decode cX6_init q.1 = .ok q.2 := by decide +kernel
def tX6_init_1 : List (Nat × Instr × Nat) := [(126, .dup, 1), (127, .invokespecial 70, 3), (130, .putfield 71, 3), (133, .iconst 0, 1), (134, .istore_n 1, 1), (135, .iload_n 1, 1), (136, .bipush 8, 2), (138, .if_icmp .ge 37, 3), (141, .aload_n 0, 1), (142, .getfield 11, 3), (145, .iload_n 1, 1), (146, .new 9, 3), (149, .dup, 1), (150, .bipush 24, 2), (152, .invokespecial 41, 3), (155, .aastore, 1), (156, .aload_n 0, 1), (157, .getfield 21, 3), (160, .iload_n 1, 1), (161, .new 19, 3), (164, .dup, 1), (165, .invokespecial 36, 3), (168, .aastore, 1), (169, .iinc 1 1, 3), (172, .goto (-37), 3), (175, .iconst 0, 1), (176, .istore_n 1, 1), (177, .iload_n 1, 1), (178, .bipush 8, 2), (180, .if_icmp .ge 22, 3), (183, .aload_n 0, 1), (184, .getfield 25, 3), (187, .iload_n 1, 1), (188, .new 19, 3), (191, .dup, 1), (192, .invokespecial 36, 3), (195, .aastore, 1), (196, .iinc 1 1, 3), (199, .goto (-22), 3), (202, .aload_n 0, 1), (203, .getfield 48, 3), (206, .iconst 0, 1), (207, .iconst 0, 1), (208, .iconst 0, 1), (209, .invokevirtual 75, 3), (212, .return_, 1)]
theorem dkX6_init_1 : ∀ q ∈ tX6_init_1, decode cX6_init q.1 = .ok q.2 := by decide +kernel
def tX6_init : List (Nat × Instr × Nat) := tX6_init_0 ++ (tX6_init_1)
def mX6_init : mM := (yX6_init, 6, cX6_init, 2, none, tX6_init, (4, 81, 2000, 60000), 0, true)
theorem odX6_init : mOd mX6_init := List.forall_mem_append.mpr ⟨dkX6_init_0, dkX6_init_1⟩
set_option maxRecDepth 100000 in
theorem okX6_init : mOK mX6_init := ⟨by decide +kernel, List.mem_append_right _ (List.mem_of_getElem? (i := 17) rfl), rfl, ⟨by decide +kernel, by decide +kernel⟩, by decide +kernel, fun _ => rfl⟩
def tX6_tray_0 : List (Nat × Instr × Nat) := [(0, .iload_n 1, 1), (1, .invokestatic 79, 3), (4, .ifCond .eq 14, 3), (7, .iload_n 2, 1), (8, .iconst (-1), 1), (9, .if_icmp .lt 9, 3), (12, .iload_n 2, 1), (13, .bipush 24, 2), (15, .if_icmp .le 5, 3), (18, .iconst 0, 1), (19, .ireturn, 1), (20, .aload_n 0, 1), (21, .getfield 15, 3), (24, .iload_n 1, 1), (25, .iload_n 2, 1), (26, .iconst (-1), 1), (27, .if_icmp .eq 7, 3), (30, .iconst 1, 1), (31, .goto 4, 3), (34, .iconst 0, 1), (35, .bastore, 1), (36, .aload_n 0, 1), (37, .getfield 11, 3), (40, .iload_n 1, 1), (41, .aaload, 1), (42, .invokevirtual 83, 3), (45, .iconst 0, 1), (46, .istore_n 3, 1), (47, .iload_n 3, 1), (48, .iload_n 2, 1), (49, .if_icmp .ge 21, 3), (52, .aload_n 0, 1), (53, .getfield 11, 3), (56, .iload_n 1, 1), (57, .aaload, 1), (58, .iconst 0, 1), (59, .iconst 0, 1), (60, .iconst 0, 1), (61, .invokevirtual 75, 3), (64, .iinc 3 1, 3), (67, .goto (-20), 3), (70, .iconst 1, 1), (71, .ireturn, 1)]
theorem dkX6_tray_0 : ∀ q ∈ tX6_tray_0, decode cX6_tray q.1 = .ok q.2 := by decide +kernel
def tX6_tray : List (Nat × Instr × Nat) := tX6_tray_0
def mX6_tray : mM := (yX6_tray, 6, cX6_tray, 4, (some .boolean), tX6_tray, (1, 23, 0, 0), 2, false)
theorem odX6_tray : mOd mX6_tray := dkX6_tray_0
set_option maxRecDepth 100000 in
theorem okX6_tray : mOK mX6_tray := ⟨by decide +kernel, List.mem_append_right _ (List.mem_of_getElem? (i := 280) rfl), rfl, ⟨by decide +kernel, by decide +kernel⟩, by decide +kernel, fun h => absurd h (by decide)⟩
def tX6_point_0 : List (Nat × Instr × Nat) := [(0, .iload_n 1, 1), (1, .invokestatic 79, 3), (4, .ifCond .eq 23, 3), (7, .aload_n 0, 1), (8, .getfield 15, 3), (11, .iload_n 1, 1), (12, .baload, 1), (13, .ifCond .eq 14, 3), (16, .iload_n 3, 1), (17, .iload 4, 2), (19, .iload 5, 2), (21, .invokestatic 86, 3), (24, .ifCond .ne 5, 3), (27, .iconst 0, 1), (28, .ireturn, 1), (29, .aload_n 0, 1), (30, .getfield 11, 3), (33, .iload_n 1, 1), (34, .aaload, 1), (35, .iload_n 2, 1), (36, .iload_n 3, 1), (37, .iload 4, 2), (39, .iload 5, 2), (41, .invokevirtual 90, 3), (44, .ireturn, 1)]
theorem dkX6_point_0 : ∀ q ∈ tX6_point_0, decode cX6_point q.1 = .ok q.2 := by decide +kernel
def tX6_point : List (Nat × Instr × Nat) := tX6_point_0
def mX6_point : mM := (yX6_point, 6, cX6_point, 6, (some .boolean), tX6_point, (2, 43, 0, 0), 5, false)
theorem odX6_point : mOd mX6_point := dkX6_point_0
set_option maxRecDepth 100000 in
theorem okX6_point : mOK mX6_point := ⟨by decide +kernel, List.mem_append_right _ (List.mem_of_getElem? (i := 291) rfl), rfl, ⟨by decide +kernel, by decide +kernel⟩, by decide +kernel, fun h => absurd h (by decide)⟩
def tX6_solid_0 : List (Nat × Instr × Nat) := [(0, .iload_n 1, 1), (1, .invokestatic 79, 3), (4, .ifCond .eq 19, 3), (7, .iload_n 2, 1), (8, .invokestatic 79, 3), (11, .ifCond .eq 12, 3), (14, .aload_n 0, 1), (15, .getfield 15, 3), (18, .iload_n 2, 1), (19, .baload, 1), (20, .ifCond .ne 5, 3), (23, .iconst (-1), 1), (24, .ireturn, 1), (25, .aload_n 0, 1), (26, .iload_n 1, 1), (27, .aload_n 0, 1), (28, .getfield 11, 3), (31, .iload_n 2, 1), (32, .aaload, 1), (33, .aload_n 0, 1), (34, .getfield 48, 3), (37, .invokevirtual 94, 3), (40, .ireturn, 1)]
theorem dkX6_solid_0 : ∀ q ∈ tX6_solid_0, decode cX6_solid q.1 = .ok q.2 := by decide +kernel
def tX6_solid : List (Nat × Instr × Nat) := tX6_solid_0
def mX6_solid : mM := (yX6_solid, 6, cX6_solid, 3, (some .int), tX6_solid, (7, 168, 0, 0), 2, false)
theorem odX6_solid : mOd mX6_solid := dkX6_solid_0
set_option maxRecDepth 100000 in
theorem okX6_solid : mOK mX6_solid := ⟨by decide +kernel, List.mem_append_right _ (List.mem_of_getElem? (i := 305) rfl), rfl, ⟨by decide +kernel, by decide +kernel⟩, by decide +kernel, fun h => absurd h (by decide)⟩
def tX6_grow_0 : List (Nat × Instr × Nat) := [(0, .iload_n 1, 1), (1, .invokestatic 79, 3), (4, .ifCond .eq 13, 3), (7, .iload_n 2, 1), (8, .iload_n 3, 1), (9, .iload 4, 2), (11, .invokestatic 86, 3), (14, .ifCond .ne 5, 3), (17, .iconst (-1), 1), (18, .ireturn, 1), (19, .aload_n 0, 1), (20, .getfield 44, 3), (23, .aload_n 0, 1), (24, .getfield 21, 3), (27, .iload_n 1, 1), (28, .aaload, 1), (29, .getfield 98, 3), (32, .invokevirtual 101, 3), (35, .aload_n 0, 1), (36, .getfield 44, 3), (39, .iload_n 2, 1), (40, .iload_n 3, 1), (41, .iload 4, 2), (43, .invokevirtual 75, 3), (46, .aload_n 0, 1), (47, .iload_n 1, 1), (48, .aload_n 0, 1), (49, .getfield 44, 3), (52, .aload_n 0, 1), (53, .getfield 48, 3), (56, .invokevirtual 94, 3), (59, .ireturn, 1)]
theorem dkX6_grow_0 : ∀ q ∈ tX6_grow_0, decode cX6_grow q.1 = .ok q.2 := by decide +kernel
def tX6_grow : List (Nat × Instr × Nat) := tX6_grow_0
def mX6_grow : mM := (yX6_grow, 6, cX6_grow, 5, (some .int), tX6_grow, (7, 168, 0, 0), 4, false)
theorem odX6_grow : mOd mX6_grow := dkX6_grow_0
set_option maxRecDepth 100000 in
theorem okX6_grow : mOK mX6_grow := ⟨by decide +kernel, List.mem_append_right _ (List.mem_of_getElem? (i := 493) rfl), rfl, ⟨by decide +kernel, by decide +kernel⟩, by decide +kernel, fun h => absurd h (by decide)⟩
def tX6_count_0 : List (Nat × Instr × Nat) := [(0, .iload_n 1, 1), (1, .invokestatic 79, 3), (4, .ifCond .ne 5, 3), (7, .iconst (-1), 1), (8, .ireturn, 1), (9, .aload_n 0, 1), (10, .getfield 21, 3), (13, .iload_n 1, 1), (14, .aaload, 1), (15, .astore_n 3, 1), (16, .iload_n 2, 1), (17, .tableswitch 54 0 3 #[31, 36, 44, 49], 31), (48, .aload_n 3, 1), (49, .getfield 105, 3), (52, .ireturn, 1), (53, .aload_n 3, 1), (54, .getfield 98, 3), (57, .getfield 108, 3), (60, .ireturn, 1), (61, .aload_n 3, 1), (62, .getfield 111, 3), (65, .ireturn, 1), (66, .aload_n 3, 1), (67, .getfield 114, 3), (70, .ireturn, 1), (71, .iconst (-1), 1), (72, .ireturn, 1)]
theorem dkX6_count_0 : ∀ q ∈ tX6_count_0, decode cX6_count q.1 = .ok q.2 := by decide +kernel
def tX6_count : List (Nat × Instr × Nat) := tX6_count_0
def mX6_count : mM := (yX6_count, 6, cX6_count, 4, (some .int), tX6_count, (1, 20, 0, 0), 2, false)
theorem odX6_count : mOd mX6_count := dkX6_count_0
set_option maxRecDepth 100000 in
theorem okX6_count : mOK mX6_count := ⟨by decide +kernel, List.mem_append_right _ (List.mem_of_getElem? (i := 503) rfl), rfl, ⟨by decide +kernel, by decide +kernel⟩, by decide +kernel, fun h => absurd h (by decide)⟩
def tX6_corner_0 : List (Nat × Instr × Nat) := [(0, .iload_n 1, 1), (1, .invokestatic 79, 3), (4, .ifCond .eq 23, 3), (7, .iload_n 2, 1), (8, .ifCond .lt 19, 3), (11, .iload_n 2, 1), (12, .aload_n 0, 1), (13, .getfield 21, 3), (16, .iload_n 1, 1), (17, .aaload, 1), (18, .getfield 98, 3), (21, .getfield 108, 3), (24, .if_icmp .lt 7, 3), (27, .sipush (-1000), 3), (30, .ireturn, 1), (31, .aload_n 0, 1), (32, .getfield 21, 3), (35, .iload_n 1, 1), (36, .aaload, 1), (37, .getfield 98, 3), (40, .astore 4, 2), (42, .iload_n 3, 1), (43, .tableswitch 49 0 2 #[25, 33, 41], 25), (68, .aload 4, 2), (70, .getfield 117, 3), (73, .iload_n 2, 1), (74, .iaload, 1), (75, .ireturn, 1), (76, .aload 4, 2), (78, .getfield 120, 3), (81, .iload_n 2, 1), (82, .iaload, 1), (83, .ireturn, 1), (84, .aload 4, 2), (86, .getfield 123, 3), (89, .iload_n 2, 1), (90, .iaload, 1), (91, .ireturn, 1), (92, .sipush (-1000), 3), (95, .ireturn, 1)]
theorem dkX6_corner_0 : ∀ q ∈ tX6_corner_0, decode cX6_corner q.1 = .ok q.2 := by decide +kernel
def tX6_corner : List (Nat × Instr × Nat) := tX6_corner_0
def mX6_corner : mM := (yX6_corner, 6, cX6_corner, 5, (some .int), tX6_corner, (1, 20, 0, 0), 3, false)
theorem odX6_corner : mOd mX6_corner := dkX6_corner_0
set_option maxRecDepth 100000 in
theorem okX6_corner : mOK mX6_corner := ⟨by decide +kernel, List.mem_append_right _ (List.mem_of_getElem? (i := 507) rfl), rfl, ⟨by decide +kernel, by decide +kernel⟩, by decide +kernel, fun h => absurd h (by decide)⟩
def tX6_edge_0 : List (Nat × Instr × Nat) := [(0, .iload_n 1, 1), (1, .invokestatic 79, 3), (4, .ifCond .eq 29, 3), (7, .iload_n 2, 1), (8, .ifCond .lt 25, 3), (11, .iload_n 2, 1), (12, .aload_n 0, 1), (13, .getfield 21, 3), (16, .iload_n 1, 1), (17, .aaload, 1), (18, .getfield 111, 3), (21, .if_icmp .ge 12, 3), (24, .iload_n 3, 1), (25, .ifCond .lt 8, 3), (28, .iload_n 3, 1), (29, .iconst 3, 1), (30, .if_icmp .le 5, 3), (33, .iconst (-1), 1), (34, .ireturn, 1), (35, .aload_n 0, 1), (36, .getfield 21, 3), (39, .iload_n 1, 1), (40, .aaload, 1), (41, .getfield 126, 3), (44, .iconst 4, 1), (45, .iload_n 2, 1), (46, .imul, 1), (47, .iload_n 3, 1), (48, .iadd, 1), (49, .iaload, 1), (50, .ireturn, 1)]
theorem dkX6_edge_0 : ∀ q ∈ tX6_edge_0, decode cX6_edge q.1 = .ok q.2 := by decide +kernel
def tX6_edge : List (Nat × Instr × Nat) := tX6_edge_0
def mX6_edge : mM := (yX6_edge, 6, cX6_edge, 4, (some .int), tX6_edge, (1, 20, 0, 0), 3, false)
theorem odX6_edge : mOd mX6_edge := dkX6_edge_0
set_option maxRecDepth 100000 in
theorem okX6_edge : mOK mX6_edge := ⟨by decide +kernel, List.mem_append_right _ (List.mem_of_getElem? (i := 511) rfl), rfl, ⟨by decide +kernel, by decide +kernel⟩, by decide +kernel, fun h => absurd h (by decide)⟩
def tX6_face_0 : List (Nat × Instr × Nat) := [(0, .iload_n 1, 1), (1, .invokestatic 79, 3), (4, .ifCond .eq 24, 3), (7, .iload_n 2, 1), (8, .ifCond .lt 20, 3), (11, .iload_n 2, 1), (12, .aload_n 0, 1), (13, .getfield 21, 3), (16, .iload_n 1, 1), (17, .aaload, 1), (18, .getfield 114, 3), (21, .if_icmp .ge 7, 3), (24, .iload_n 3, 1), (25, .ifCond .ge 7, 3), (28, .ldc2_w 129, 3), (31, .lreturn, 1), (32, .aload_n 0, 1), (33, .getfield 21, 3), (36, .iload_n 1, 1), (37, .aaload, 1), (38, .astore 4, 2), (40, .iload_n 3, 1), (41, .iconst 3, 1), (42, .if_icmp .gt 16, 3), (45, .aload 4, 2), (47, .getfield 131, 3), (50, .iconst 4, 1), (51, .iload_n 2, 1), (52, .imul, 1), (53, .iload_n 3, 1), (54, .iadd, 1), (55, .iaload, 1), (56, .i2l, 1), (57, .lreturn, 1), (58, .aload 4, 2), (60, .getfield 134, 3), (63, .iload_n 2, 1), (64, .iaload, 1), (65, .istore 5, 2), (67, .aload 4, 2), (69, .getfield 134, 3), (72, .iload_n 2, 1), (73, .iconst 1, 1), (74, .iadd, 1), (75, .iaload, 1), (76, .iload 5, 2), (78, .isub, 1), (79, .istore 6, 2), (81, .iload_n 3, 1), (82, .iconst 4, 1), (83, .if_icmp .ne 7, 3), (86, .iload 6, 2), (88, .i2l, 1), (89, .lreturn, 1), (90, .iload_n 3, 1), (91, .iconst 5, 1), (92, .if_icmp .ne 10, 3), (95, .aload 4, 2), (97, .iload_n 2, 1), (98, .invokevirtual 137, 3)]
theorem dkX6_face_0 : ∀ q ∈ tX6_face_0, decode cX6_face q.1 = .ok q.2 := by decide +kernel
def tX6_face_1 : List (Nat × Instr × Nat) := [(101, .lreturn, 1), (102, .iload_n 3, 1), (103, .bipush 6, 2), (105, .isub, 1), (106, .iload 6, 2), (108, .if_icmp .ge 20, 3), (111, .aload 4, 2), (113, .getfield 141, 3), (116, .iload 5, 2), (118, .iload_n 3, 1), (119, .iadd, 1), (120, .bipush 6, 2), (122, .isub, 1), (123, .iaload, 1), (124, .i2l, 1), (125, .goto 6, 3), (128, .ldc2_w 129, 3), (131, .lreturn, 1)]
theorem dkX6_face_1 : ∀ q ∈ tX6_face_1, decode cX6_face q.1 = .ok q.2 := by decide +kernel
def tX6_face : List (Nat × Instr × Nat) := tX6_face_0 ++ (tX6_face_1)
def mX6_face : mM := (yX6_face, 6, cX6_face, 7, (some .long), tX6_face, (3, 73, 0, 0), 3, false)
theorem odX6_face : mOd mX6_face := List.forall_mem_append.mpr ⟨dkX6_face_0, dkX6_face_1⟩
set_option maxRecDepth 100000 in
theorem okX6_face : mOK mX6_face := ⟨by decide +kernel, List.mem_append_right _ (List.mem_of_getElem? (i := 515) rfl), rfl, ⟨by decide +kernel, by decide +kernel⟩, by decide +kernel, fun h => absurd h (by decide)⟩
def tX6_in_0 : List (Nat × Instr × Nat) := [(0, .iload_n 1, 1), (1, .invokestatic 79, 3), (4, .ifCond .eq 17, 3), (7, .iload 5, 2), (9, .iconst 1, 1), (10, .if_icmp .lt 11, 3), (13, .iload 5, 2), (15, .sipush 1000, 3), (18, .if_icmp .le 5, 3), (21, .iconst (-1), 1), (22, .ireturn, 1), (23, .iload_n 2, 1), (24, .ldc 144, 2), (26, .invokestatic 145, 3), (29, .ifCond .eq 22, 3), (32, .iload_n 3, 1), (33, .ldc 144, 2), (35, .invokestatic 145, 3), (38, .ifCond .eq 13, 3), (41, .iload 4, 2), (43, .ldc 144, 2), (45, .invokestatic 145, 3), (48, .ifCond .ne 5, 3), (51, .iconst (-1), 1), (52, .ireturn, 1), (53, .aload_n 0, 1), (54, .getfield 21, 3), (57, .iload_n 1, 1), (58, .aaload, 1), (59, .iload_n 2, 1), (60, .i2l, 1), (61, .iload_n 3, 1), (62, .i2l, 1), (63, .iload 4, 2), (65, .i2l, 1), (66, .iload 5, 2), (68, .i2l, 1), (69, .invokevirtual 149, 3), (72, .ireturn, 1)]
theorem dkX6_in_0 : ∀ q ∈ tX6_in_0, decode cX6_in q.1 = .ok q.2 := by decide +kernel
def tX6_in : List (Nat × Instr × Nat) := tX6_in_0
def mX6_in : mM := (yX6_in, 6, cX6_in, 6, (some .int), tX6_in, (3, 97, 0, 0), 5, false)
theorem odX6_in : mOd mX6_in := dkX6_in_0
set_option maxRecDepth 100000 in
theorem okX6_in : mOK mX6_in := ⟨by decide +kernel, List.mem_append_right _ (List.mem_of_getElem? (i := 527) rfl), rfl, ⟨by decide +kernel, by decide +kernel⟩, by decide +kernel, fun h => absurd h (by decide)⟩
def tX6_side_0 : List (Nat × Instr × Nat) := [(0, .iload_n 1, 1), (1, .invokestatic 79, 3), (4, .ifCond .eq 26, 3), (7, .iload_n 2, 1), (8, .ifCond .ne 12, 3), (11, .iload_n 3, 1), (12, .ifCond .ne 8, 3), (15, .iload 4, 2), (17, .ifCond .eq 13, 3), (20, .iload 5, 2), (22, .ldc 144, 2), (24, .invokestatic 145, 3), (27, .ifCond .ne 5, 3), (30, .iconst (-1), 1), (31, .ireturn, 1), (32, .iload_n 2, 1), (33, .sipush 1000, 3), (36, .invokestatic 145, 3), (39, .ifCond .eq 24, 3), (42, .iload_n 3, 1), (43, .sipush 1000, 3), (46, .invokestatic 145, 3), (49, .ifCond .eq 14, 3), (52, .iload 4, 2), (54, .sipush 1000, 3), (57, .invokestatic 145, 3), (60, .ifCond .ne 5, 3), (63, .iconst (-1), 1), (64, .ireturn, 1), (65, .aload_n 0, 1), (66, .getfield 21, 3), (69, .iload_n 1, 1), (70, .aaload, 1), (71, .getfield 98, 3), (74, .astore 6, 2), (76, .iconst 0, 1), (77, .istore 7, 2), (79, .iconst 0, 1), (80, .istore 8, 2), (82, .iload 8, 2), (84, .aload 6, 2), (86, .getfield 108, 3), (89, .if_icmp .ge 57, 3), (92, .aload 6, 2), (94, .iload 8, 2), (96, .iload_n 2, 1), (97, .i2l, 1), (98, .iload_n 3, 1), (99, .i2l, 1), (100, .iload 4, 2), (102, .i2l, 1), (103, .invokevirtual 153, 3), (106, .iload 5, 2), (108, .i2l, 1), (109, .lsub, 1), (110, .lstore 9, 2), (112, .iload 7, 2), (114, .lload 9, 2), (116, .lconst 0, 1), (117, .lcmp, 1)]
theorem dkX6_side_0 : ∀ q ∈ tX6_side_0, decode cX6_side q.1 = .ok q.2 := by decide +kernel
def tX6_side_1 : List (Nat × Instr × Nat) := [(118, .ifCond .ge 7, 3), (121, .iconst 1, 1), (122, .goto 15, 3), (125, .lload 9, 2), (127, .lconst 0, 1), (128, .lcmp, 1), (129, .ifCond .ne 7, 3), (132, .iconst 2, 1), (133, .goto 4, 3), (136, .iconst 4, 1), (137, .ior, 1), (138, .istore 7, 2), (140, .iinc 8 1, 3), (143, .goto (-61), 3), (146, .iload 7, 2), (148, .ireturn, 1)]
theorem dkX6_side_1 : ∀ q ∈ tX6_side_1, decode cX6_side q.1 = .ok q.2 := by decide +kernel
def tX6_side : List (Nat × Instr × Nat) := tX6_side_0 ++ (tX6_side_1)
def mX6_side : mM := (yX6_side, 6, cX6_side, 11, (some .int), tX6_side, (1, 27, 0, 0), 5, false)
theorem odX6_side : mOd mX6_side := List.forall_mem_append.mpr ⟨dkX6_side_0, dkX6_side_1⟩
set_option maxRecDepth 100000 in
theorem okX6_side : mOK mX6_side := ⟨by decide +kernel, List.mem_append_right _ (List.mem_of_getElem? (i := 548) rfl), rfl, ⟨by decide +kernel, by decide +kernel⟩, by decide +kernel, fun h => absurd h (by decide)⟩
def tX6_volume_0 : List (Nat × Instr × Nat) := [(0, .iload_n 1, 1), (1, .invokestatic 79, 3), (4, .ifCond .eq 15, 3), (7, .aload_n 0, 1), (8, .getfield 21, 3), (11, .iload_n 1, 1), (12, .aaload, 1), (13, .invokevirtual 157, 3), (16, .goto 6, 3), (19, .ldc2_w 161, 3), (22, .lreturn, 1)]
theorem dkX6_volume_0 : ∀ q ∈ tX6_volume_0, decode cX6_volume q.1 = .ok q.2 := by decide +kernel
def tX6_volume : List (Nat × Instr × Nat) := tX6_volume_0
def mX6_volume : mM := (yX6_volume, 6, cX6_volume, 2, (some .long), tX6_volume, (4, 98, 0, 0), 1, false)
theorem odX6_volume : mOd mX6_volume := dkX6_volume_0
set_option maxRecDepth 100000 in
theorem okX6_volume : mOK mX6_volume := ⟨by decide +kernel, List.mem_append_right _ (List.mem_of_getElem? (i := 553) rfl), rfl, ⟨by decide +kernel, by decide +kernel⟩, by decide +kernel, fun h => absurd h (by decide)⟩
def tX6_middle_0 : List (Nat × Instr × Nat) := [(0, .iload_n 1, 1), (1, .invokestatic 79, 3), (4, .ifCond .eq 32, 3), (7, .aload_n 0, 1), (8, .getfield 21, 3), (11, .iload_n 1, 1), (12, .aaload, 1), (13, .getfield 105, 3), (16, .iconst 4, 1), (17, .if_icmp .ne 19, 3), (20, .iload_n 2, 1), (21, .ifCond .lt 15, 3), (24, .iload_n 2, 1), (25, .iconst 2, 1), (26, .if_icmp .gt 10, 3), (29, .iload_n 3, 1), (30, .invokestatic 163, 3), (33, .ifCond .ne 5, 3), (36, .lconst 0, 1), (37, .lreturn, 1), (38, .aload_n 0, 1), (39, .getfield 71, 3), (42, .aload_n 0, 1), (43, .getfield 21, 3), (46, .iload_n 1, 1), (47, .aaload, 1), (48, .iload_n 2, 1), (49, .invokevirtual 166, 3), (52, .ldc2_w 169, 3), (55, .aload_n 0, 1), (56, .getfield 21, 3), (59, .iload_n 1, 1), (60, .aaload, 1), (61, .invokevirtual 157, 3), (64, .lmul, 1), (65, .invokevirtual 171, 3), (68, .aload_n 0, 1), (69, .getfield 71, 3), (72, .iload_n 3, 1), (73, .invokevirtual 174, 3), (76, .lreturn, 1)]
theorem dkX6_middle_0 : ∀ q ∈ tX6_middle_0, decode cX6_middle q.1 = .ok q.2 := by decide +kernel
def tX6_middle : List (Nat × Instr × Nat) := tX6_middle_0
def mX6_middle : mM := (yX6_middle, 6, cX6_middle, 4, (some .long), tX6_middle, (4, 99, 0, 0), 3, false)
theorem odX6_middle : mOd mX6_middle := dkX6_middle_0
set_option maxRecDepth 100000 in
theorem okX6_middle : mOK mX6_middle := ⟨by decide +kernel, List.mem_append_right _ (List.mem_of_getElem? (i := 567) rfl), rfl, ⟨by decide +kernel, by decide +kernel⟩, by decide +kernel, fun h => absurd h (by decide)⟩
def tX6_far_0 : List (Nat × Instr × Nat) := [(0, .iload_n 1, 1), (1, .invokestatic 79, 3), (4, .ifCond .eq 19, 3), (7, .aload_n 0, 1), (8, .getfield 21, 3), (11, .iload_n 1, 1), (12, .aaload, 1), (13, .getfield 98, 3), (16, .getfield 108, 3), (19, .iconst 2, 1), (20, .if_icmp .ge 5, 3), (23, .iconst (-1), 1), (24, .ireturn, 1), (25, .aload_n 0, 1), (26, .getfield 21, 3), (29, .iload_n 1, 1), (30, .aaload, 1), (31, .getfield 98, 3), (34, .astore_n 3, 1), (35, .iconst 0, 1), (36, .istore 4, 2), (38, .iconst 1, 1), (39, .istore 5, 2), (41, .iconst 0, 1), (42, .istore 6, 2), (44, .iload 6, 2), (46, .aload_n 3, 1), (47, .getfield 108, 3), (50, .if_icmp .ge 57, 3), (53, .iload 6, 2), (55, .iconst 1, 1), (56, .iadd, 1), (57, .istore 7, 2), (59, .iload 7, 2), (61, .aload_n 3, 1), (62, .getfield 108, 3), (65, .if_icmp .ge 36, 3), (68, .aload_n 3, 1), (69, .iload 6, 2), (71, .iload 7, 2), (73, .invokevirtual 177, 3), (76, .aload_n 3, 1), (77, .iload 4, 2), (79, .iload 5, 2), (81, .invokevirtual 177, 3), (84, .if_icmp .le 11, 3), (87, .iload 6, 2), (89, .istore 4, 2), (91, .iload 7, 2), (93, .istore 5, 2), (95, .iinc 7 1, 3), (98, .goto (-39), 3), (101, .iinc 6 1, 3), (104, .goto (-60), 3), (107, .iload_n 2, 1), (108, .tableswitch 43 0 2 #[28, 31, 34], 28), (136, .iload 4, 2), (138, .ireturn, 1), (139, .iload 5, 2), (141, .ireturn, 1)]
theorem dkX6_far_0 : ∀ q ∈ tX6_far_0, decode cX6_far q.1 = .ok q.2 := by decide +kernel
def tX6_far_1 : List (Nat × Instr × Nat) := [(142, .aload_n 3, 1), (143, .iload 4, 2), (145, .iload 5, 2), (147, .invokevirtual 177, 3), (150, .ireturn, 1), (151, .iconst (-1), 1), (152, .ireturn, 1)]
theorem dkX6_far_1 : ∀ q ∈ tX6_far_1, decode cX6_far q.1 = .ok q.2 := by decide +kernel
def tX6_far : List (Nat × Instr × Nat) := tX6_far_0 ++ (tX6_far_1)
def mX6_far : mM := (yX6_far, 6, cX6_far, 8, (some .int), tX6_far, (1, 25, 0, 0), 2, false)
theorem odX6_far : mOd mX6_far := List.forall_mem_append.mpr ⟨dkX6_far_0, dkX6_far_1⟩
set_option maxRecDepth 100000 in
theorem okX6_far : mOK mX6_far := ⟨by decide +kernel, List.mem_append_right _ (List.mem_of_getElem? (i := 591) rfl), rfl, ⟨by decide +kernel, by decide +kernel⟩, by decide +kernel, fun h => absurd h (by decide)⟩
def tX6_width_0 : List (Nat × Instr × Nat) := [(0, .iload_n 1, 1), (1, .invokestatic 79, 3), (4, .ifCond .eq 23, 3), (7, .aload_n 0, 1), (8, .getfield 21, 3), (11, .iload_n 1, 1), (12, .aaload, 1), (13, .getfield 105, 3), (16, .iconst 4, 1), (17, .if_icmp .ne 10, 3), (20, .iload_n 2, 1), (21, .invokestatic 163, 3), (24, .ifCond .ne 7, 3), (27, .ldc2_w 161, 3), (30, .lreturn, 1), (31, .aload_n 0, 1), (32, .getfield 21, 3), (35, .iload_n 1, 1), (36, .aaload, 1), (37, .invokevirtual 181, 3), (40, .aload_n 0, 1), (41, .getfield 21, 3), (44, .iload_n 1, 1), (45, .aaload, 1), (46, .getfield 184, 3), (49, .iload_n 2, 1), (50, .invokevirtual 174, 3), (53, .lreturn, 1)]
theorem dkX6_width_0 : ∀ q ∈ tX6_width_0, decode cX6_width q.1 = .ok q.2 := by decide +kernel
def tX6_width : List (Nat × Instr × Nat) := tX6_width_0
def mX6_width : mM := (yX6_width, 6, cX6_width, 3, (some .long), tX6_width, (5, 151, 0, 0), 2, false)
theorem odX6_width : mOd mX6_width := dkX6_width_0
set_option maxRecDepth 100000 in
theorem okX6_width : mOK mX6_width := ⟨by decide +kernel, List.mem_append_right _ (List.mem_of_getElem? (i := 599) rfl), rfl, ⟨by decide +kernel, by decide +kernel⟩, by decide +kernel, fun h => absurd h (by decide)⟩
def tX6_sum_0 : List (Nat × Instr × Nat) := [(0, .iload_n 1, 1), (1, .invokestatic 79, 3), (4, .ifCond .eq 17, 3), (7, .iload_n 2, 1), (8, .invokestatic 79, 3), (11, .ifCond .eq 10, 3), (14, .iload_n 3, 1), (15, .invokestatic 79, 3), (18, .ifCond .ne 5, 3), (21, .iconst (-1), 1), (22, .ireturn, 1), (23, .aload_n 0, 1), (24, .iload_n 3, 1), (25, .aload_n 0, 1), (26, .getfield 21, 3), (29, .iload_n 1, 1), (30, .aaload, 1), (31, .getfield 98, 3), (34, .aload_n 0, 1), (35, .getfield 21, 3), (38, .iload_n 2, 1), (39, .aaload, 1), (40, .getfield 98, 3), (43, .invokevirtual 94, 3), (46, .ireturn, 1)]
theorem dkX6_sum_0 : ∀ q ∈ tX6_sum_0, decode cX6_sum q.1 = .ok q.2 := by decide +kernel
def tX6_sum : List (Nat × Instr × Nat) := tX6_sum_0
def mX6_sum : mM := (yX6_sum, 6, cX6_sum, 4, (some .int), tX6_sum, (7, 168, 0, 0), 3, false)
theorem odX6_sum : mOd mX6_sum := dkX6_sum_0
set_option maxRecDepth 100000 in
theorem okX6_sum : mOK mX6_sum := ⟨by decide +kernel, List.mem_append_right _ (List.mem_of_getElem? (i := 627) rfl), rfl, ⟨by decide +kernel, by decide +kernel⟩, by decide +kernel, fun h => absurd h (by decide)⟩
def tX6_apart_0 : List (Nat × Instr × Nat) := [(0, .iload_n 1, 1), (1, .invokestatic 79, 3), (4, .ifCond .eq 10, 3), (7, .iload_n 2, 1), (8, .invokestatic 79, 3), (11, .ifCond .ne 5, 3), (14, .iconst (-1), 1), (15, .ireturn, 1), (16, .aload_n 0, 1), (17, .getfield 21, 3), (20, .iload_n 1, 1), (21, .aaload, 1), (22, .getfield 105, 3), (25, .ifCond .eq 15, 3), (28, .aload_n 0, 1), (29, .getfield 21, 3), (32, .iload_n 2, 1), (33, .aaload, 1), (34, .getfield 105, 3), (37, .ifCond .ne 5, 3), (40, .iconst 1, 1), (41, .ireturn, 1), (42, .aload_n 0, 1), (43, .getfield 64, 3), (46, .aload_n 0, 1), (47, .getfield 21, 3), (50, .iload_n 1, 1), (51, .aaload, 1), (52, .getfield 98, 3), (55, .aload_n 0, 1), (56, .getfield 21, 3), (59, .iload_n 2, 1), (60, .aaload, 1), (61, .getfield 98, 3), (64, .invokevirtual 187, 3), (67, .aload_n 0, 1), (68, .getfield 64, 3), (71, .getfield 191, 3), (74, .lconst 0, 1), (75, .lcmp, 1), (76, .ifCond .le 7, 3), (79, .iconst 1, 1), (80, .goto 4, 3), (83, .iconst 0, 1), (84, .ireturn, 1)]
theorem dkX6_apart_0 : ∀ q ∈ tX6_apart_0, decode cX6_apart q.1 = .ok q.2 := by decide +kernel
def tX6_apart : List (Nat × Instr × Nat) := tX6_apart_0
def mX6_apart : mM := (yX6_apart, 6, cX6_apart, 3, (some .int), tX6_apart, (6, 138, 0, 0), 2, false)
theorem odX6_apart : mOd mX6_apart := dkX6_apart_0
set_option maxRecDepth 100000 in
theorem okX6_apart : mOK mX6_apart := ⟨by decide +kernel, List.mem_append_right _ (List.mem_of_getElem? (i := 631) rfl), rfl, ⟨by decide +kernel, by decide +kernel⟩, by decide +kernel, fun h => absurd h (by decide)⟩
def tX6_near_0 : List (Nat × Instr × Nat) := [(0, .iload_n 1, 1), (1, .invokestatic 79, 3), (4, .ifCond .eq 17, 3), (7, .iload_n 2, 1), (8, .invokestatic 79, 3), (11, .ifCond .eq 10, 3), (14, .iload_n 3, 1), (15, .invokestatic 163, 3), (18, .ifCond .ne 7, 3), (21, .ldc2_w 161, 3), (24, .lreturn, 1), (25, .aload_n 0, 1), (26, .getfield 21, 3), (29, .iload_n 1, 1), (30, .aaload, 1), (31, .getfield 105, 3), (34, .ifCond .eq 15, 3), (37, .aload_n 0, 1), (38, .getfield 21, 3), (41, .iload_n 2, 1), (42, .aaload, 1), (43, .getfield 105, 3), (46, .ifCond .ne 7, 3), (49, .ldc2_w 161, 3), (52, .lreturn, 1), (53, .aload_n 0, 1), (54, .getfield 64, 3), (57, .aload_n 0, 1), (58, .getfield 21, 3), (61, .iload_n 1, 1), (62, .aaload, 1), (63, .getfield 98, 3), (66, .aload_n 0, 1), (67, .getfield 21, 3), (70, .iload_n 2, 1), (71, .aaload, 1), (72, .getfield 98, 3), (75, .invokevirtual 187, 3), (78, .aload_n 0, 1), (79, .getfield 71, 3), (82, .aload_n 0, 1), (83, .getfield 64, 3), (86, .getfield 191, 3), (89, .aload_n 0, 1), (90, .getfield 64, 3), (93, .getfield 195, 3), (96, .invokevirtual 171, 3), (99, .aload_n 0, 1), (100, .getfield 71, 3), (103, .iload_n 3, 1), (104, .invokevirtual 174, 3), (107, .lreturn, 1)]
theorem dkX6_near_0 : ∀ q ∈ tX6_near_0, decode cX6_near q.1 = .ok q.2 := by decide +kernel
def tX6_near : List (Nat × Instr × Nat) := tX6_near_0
def mX6_near : mM := (yX6_near, 6, cX6_near, 4, (some .long), tX6_near, (6, 138, 0, 0), 3, false)
theorem odX6_near : mOd mX6_near := dkX6_near_0
set_option maxRecDepth 100000 in
theorem okX6_near : mOK mX6_near := ⟨by decide +kernel, List.mem_append_right _ (List.mem_of_getElem? (i := 689) rfl), rfl, ⟨by decide +kernel, by decide +kernel⟩, by decide +kernel, fun h => absurd h (by decide)⟩
def tX6_same_0 : List (Nat × Instr × Nat) := [(0, .iload_n 1, 1), (1, .invokestatic 79, 3), (4, .ifCond .eq 10, 3), (7, .iload_n 2, 1), (8, .invokestatic 79, 3), (11, .ifCond .ne 5, 3), (14, .iconst (-1), 1), (15, .ireturn, 1), (16, .aload_n 0, 1), (17, .getfield 21, 3), (20, .iload_n 1, 1), (21, .aaload, 1), (22, .getfield 98, 3), (25, .aload_n 0, 1), (26, .getfield 21, 3), (29, .iload_n 2, 1), (30, .aaload, 1), (31, .getfield 98, 3), (34, .invokevirtual 198, 3), (37, .ifCond .eq 7, 3), (40, .iconst 1, 1), (41, .goto 4, 3), (44, .iconst 0, 1), (45, .ireturn, 1)]
theorem dkX6_same_0 : ∀ q ∈ tX6_same_0, decode cX6_same q.1 = .ok q.2 := by decide +kernel
def tX6_same : List (Nat × Instr × Nat) := tX6_same_0
def mX6_same : mM := (yX6_same, 6, cX6_same, 3, (some .int), tX6_same, (1, 22, 0, 0), 2, false)
theorem odX6_same : mOd mX6_same := dkX6_same_0
set_option maxRecDepth 100000 in
theorem okX6_same : mOK mX6_same := ⟨by decide +kernel, List.mem_append_right _ (List.mem_of_getElem? (i := 693) rfl), rfl, ⟨by decide +kernel, by decide +kernel⟩, by decide +kernel, fun h => absurd h (by decide)⟩
def tX6_move_0 : List (Nat × Instr × Nat) := [(0, .iload_n 1, 1), (1, .invokestatic 79, 3), (4, .ifCond .ne 5, 3), (7, .iconst 0, 1), (8, .ireturn, 1), (9, .aload_n 0, 1), (10, .getfield 21, 3), (13, .iload_n 1, 1), (14, .aaload, 1), (15, .getfield 98, 3), (18, .astore 5, 2), (20, .sipush 200, 3), (23, .istore 6, 2), (25, .iload_n 2, 1), (26, .iload 6, 2), (28, .invokestatic 145, 3), (31, .ifCond .eq 26, 3), (34, .iload_n 3, 1), (35, .iload 6, 2), (37, .invokestatic 145, 3), (40, .ifCond .eq 17, 3), (43, .iload 4, 2), (45, .iload 6, 2), (47, .invokestatic 145, 3), (50, .ifCond .eq 7, 3), (53, .iconst 1, 1), (54, .goto 4, 3), (57, .iconst 0, 1), (58, .istore 7, 2), (60, .aload 5, 2), (62, .getfield 108, 3), (65, .ifCond .le 10, 3), (68, .iload 7, 2), (70, .ifCond .ne 5, 3), (73, .iconst 0, 1), (74, .ireturn, 1), (75, .aload_n 0, 1), (76, .getfield 51, 3), (79, .invokevirtual 83, 3), (82, .aload_n 0, 1), (83, .getfield 51, 3), (86, .iload_n 2, 1), (87, .iload_n 3, 1), (88, .iload 4, 2), (90, .invokevirtual 75, 3), (93, .aload_n 0, 1), (94, .iload_n 1, 1), (95, .aload 5, 2), (97, .aload_n 0, 1), (98, .getfield 51, 3), (101, .invokevirtual 94, 3), (104, .bipush (-2), 2), (106, .if_icmp .eq 7, 3), (109, .iconst 1, 1), (110, .goto 4, 3), (113, .iconst 0, 1), (114, .ireturn, 1)]
theorem dkX6_move_0 : ∀ q ∈ tX6_move_0, decode cX6_move q.1 = .ok q.2 := by decide +kernel
def tX6_move : List (Nat × Instr × Nat) := tX6_move_0
def mX6_move : mM := (yX6_move, 6, cX6_move, 8, (some .boolean), tX6_move, (7, 168, 0, 0), 4, false)
theorem odX6_move : mOd mX6_move := dkX6_move_0
set_option maxRecDepth 100000 in
theorem okX6_move : mOK mX6_move := ⟨by decide +kernel, List.mem_append_right _ (List.mem_of_getElem? (i := 701) rfl), rfl, ⟨by decide +kernel, by decide +kernel⟩, by decide +kernel, fun h => absurd h (by decide)⟩
def tX6_mirror_0 : List (Nat × Instr × Nat) := [(0, .iload_n 1, 1), (1, .invokestatic 79, 3), (4, .ifCond .eq 12, 3), (7, .iload_n 2, 1), (8, .ifCond .lt 8, 3), (11, .iload_n 2, 1), (12, .iconst 3, 1), (13, .if_icmp .le 5, 3), (16, .iconst 0, 1), (17, .ireturn, 1), (18, .aload_n 0, 1), (19, .getfield 21, 3), (22, .iload_n 1, 1), (23, .aaload, 1), (24, .getfield 98, 3), (27, .astore_n 3, 1), (28, .iload_n 2, 1), (29, .ifCond .eq 8, 3), (32, .iload_n 2, 1), (33, .iconst 3, 1), (34, .if_icmp .ne 7, 3), (37, .iconst (-1), 1), (38, .goto 4, 3), (41, .iconst 1, 1), (42, .istore 4, 2), (44, .iload_n 2, 1), (45, .iconst 1, 1), (46, .if_icmp .eq 8, 3), (49, .iload_n 2, 1), (50, .iconst 3, 1), (51, .if_icmp .ne 7, 3), (54, .iconst (-1), 1), (55, .goto 4, 3), (58, .iconst 1, 1), (59, .istore 5, 2), (61, .iload_n 2, 1), (62, .iconst 2, 1), (63, .if_icmp .eq 8, 3), (66, .iload_n 2, 1), (67, .iconst 3, 1), (68, .if_icmp .ne 7, 3), (71, .iconst (-1), 1), (72, .goto 4, 3), (75, .iconst 1, 1), (76, .istore 6, 2), (78, .aload_n 0, 1), (79, .getfield 44, 3), (82, .invokevirtual 83, 3), (85, .iconst 0, 1), (86, .istore 7, 2), (88, .iload 7, 2), (90, .aload_n 3, 1), (91, .getfield 108, 3), (94, .if_icmp .ge 46, 3), (97, .aload_n 0, 1), (98, .getfield 44, 3), (101, .iload 4, 2), (103, .aload_n 3, 1), (104, .getfield 117, 3), (107, .iload 7, 2)]
theorem dkX6_mirror_0 : ∀ q ∈ tX6_mirror_0, decode cX6_mirror q.1 = .ok q.2 := by decide +kernel
def tX6_mirror_1 : List (Nat × Instr × Nat) := [(109, .iaload, 1), (110, .imul, 1), (111, .iload 5, 2), (113, .aload_n 3, 1), (114, .getfield 120, 3), (117, .iload 7, 2), (119, .iaload, 1), (120, .imul, 1), (121, .iload 6, 2), (123, .aload_n 3, 1), (124, .getfield 123, 3), (127, .iload 7, 2), (129, .iaload, 1), (130, .imul, 1), (131, .invokevirtual 75, 3), (134, .iinc 7 1, 3), (137, .goto (-49), 3), (140, .aload_n 0, 1), (141, .iload_n 1, 1), (142, .aload_n 0, 1), (143, .getfield 44, 3), (146, .aload_n 0, 1), (147, .getfield 48, 3), (150, .invokevirtual 94, 3), (153, .pop, 1), (154, .iconst 1, 1), (155, .ireturn, 1)]
theorem dkX6_mirror_1 : ∀ q ∈ tX6_mirror_1, decode cX6_mirror q.1 = .ok q.2 := by decide +kernel
def tX6_mirror : List (Nat × Instr × Nat) := tX6_mirror_0 ++ (tX6_mirror_1)
def mX6_mirror : mM := (yX6_mirror, 6, cX6_mirror, 8, (some .boolean), tX6_mirror, (7, 168, 0, 0), 2, false)
theorem odX6_mirror : mOd mX6_mirror := List.forall_mem_append.mpr ⟨dkX6_mirror_0, dkX6_mirror_1⟩
set_option maxRecDepth 100000 in
theorem okX6_mirror : mOK mX6_mirror := ⟨by decide +kernel, List.mem_append_right _ (List.mem_of_getElem? (i := 705) rfl), rfl, ⟨by decide +kernel, by decide +kernel⟩, by decide +kernel, fun h => absurd h (by decide)⟩
end
section
def tX6_turn_0 : List (Nat × Instr × Nat) := [(0, .iload_n 1, 1), (1, .invokestatic 79, 3), (4, .ifCond .eq 12, 3), (7, .iload_n 2, 1), (8, .ifCond .lt 8, 3), (11, .iload_n 2, 1), (12, .iconst 2, 1), (13, .if_icmp .le 5, 3), (16, .iconst 0, 1), (17, .ireturn, 1), (18, .aload_n 0, 1), (19, .getfield 21, 3), (22, .iload_n 1, 1), (23, .aaload, 1), (24, .getfield 98, 3), (27, .astore_n 3, 1), (28, .aload_n 0, 1), (29, .getfield 44, 3), (32, .invokevirtual 83, 3), (35, .iconst 0, 1), (36, .istore 4, 2), (38, .iload 4, 2), (40, .aload_n 3, 1), (41, .getfield 108, 3), (44, .if_icmp .ge 93, 3), (47, .aload_n 3, 1), (48, .getfield 117, 3), (51, .iload 4, 2), (53, .iaload, 1), (54, .istore 5, 2), (56, .aload_n 3, 1), (57, .getfield 120, 3), (60, .iload 4, 2), (62, .iaload, 1), (63, .istore 6, 2), (65, .aload_n 3, 1), (66, .getfield 123, 3), (69, .iload 4, 2), (71, .iaload, 1), (72, .istore 7, 2), (74, .iload_n 2, 1), (75, .ifCond .ne 20, 3), (78, .aload_n 0, 1), (79, .getfield 44, 3), (82, .iload 5, 2), (84, .iload 7, 2), (86, .ineg, 1), (87, .iload 6, 2), (89, .invokevirtual 75, 3), (92, .goto 39, 3), (95, .iload_n 2, 1), (96, .iconst 1, 1), (97, .if_icmp .ne 20, 3), (100, .aload_n 0, 1), (101, .getfield 44, 3), (104, .iload 7, 2), (106, .iload 6, 2), (108, .iload 5, 2), (110, .ineg, 1), (111, .invokevirtual 75, 3)]
theorem dkX6_turn_0 : ∀ q ∈ tX6_turn_0, decode cX6_turn q.1 = .ok q.2 := by decide +kernel
def tX6_turn_1 : List (Nat × Instr × Nat) := [(114, .goto 17, 3), (117, .aload_n 0, 1), (118, .getfield 44, 3), (121, .iload 6, 2), (123, .ineg, 1), (124, .iload 5, 2), (126, .iload 7, 2), (128, .invokevirtual 75, 3), (131, .iinc 4 1, 3), (134, .goto (-96), 3), (137, .aload_n 0, 1), (138, .iload_n 1, 1), (139, .aload_n 0, 1), (140, .getfield 44, 3), (143, .aload_n 0, 1), (144, .getfield 48, 3), (147, .invokevirtual 94, 3), (150, .pop, 1), (151, .iconst 1, 1), (152, .ireturn, 1)]
theorem dkX6_turn_1 : ∀ q ∈ tX6_turn_1, decode cX6_turn q.1 = .ok q.2 := by decide +kernel
def tX6_turn : List (Nat × Instr × Nat) := tX6_turn_0 ++ (tX6_turn_1)
def mX6_turn : mM := (yX6_turn, 6, cX6_turn, 8, (some .boolean), tX6_turn, (7, 168, 0, 0), 2, false)
theorem odX6_turn : mOd mX6_turn := List.forall_mem_append.mpr ⟨dkX6_turn_0, dkX6_turn_1⟩
set_option maxRecDepth 100000 in
theorem okX6_turn : mOK mX6_turn := ⟨by decide +kernel, List.mem_append_right _ (List.mem_of_getElem? (i := 709) rfl), rfl, ⟨by decide +kernel, by decide +kernel⟩, by decide +kernel, fun h => absurd h (by decide)⟩
def tX6_copy_0 : List (Nat × Instr × Nat) := [(0, .iload_n 1, 1), (1, .invokestatic 79, 3), (4, .ifCond .eq 10, 3), (7, .iload_n 2, 1), (8, .invokestatic 79, 3), (11, .ifCond .ne 5, 3), (14, .iconst 0, 1), (15, .ireturn, 1), (16, .aload_n 0, 1), (17, .iload_n 2, 1), (18, .aload_n 0, 1), (19, .getfield 21, 3), (22, .iload_n 1, 1), (23, .aaload, 1), (24, .getfield 98, 3), (27, .aload_n 0, 1), (28, .getfield 48, 3), (31, .invokevirtual 94, 3), (34, .pop, 1), (35, .iconst 1, 1), (36, .ireturn, 1)]
theorem dkX6_copy_0 : ∀ q ∈ tX6_copy_0, decode cX6_copy q.1 = .ok q.2 := by decide +kernel
def tX6_copy : List (Nat × Instr × Nat) := tX6_copy_0
def mX6_copy : mM := (yX6_copy, 6, cX6_copy, 3, (some .boolean), tX6_copy, (7, 168, 0, 0), 2, false)
theorem odX6_copy : mOd mX6_copy := dkX6_copy_0
set_option maxRecDepth 100000 in
theorem okX6_copy : mOK mX6_copy := ⟨by decide +kernel, List.mem_append_right _ (List.mem_of_getElem? (i := 713) rfl), rfl, ⟨by decide +kernel, by decide +kernel⟩, by decide +kernel, fun h => absurd h (by decide)⟩
def tX6_undo_0 : List (Nat × Instr × Nat) := [(0, .aload_n 0, 1), (1, .getfield 32, 3), (4, .ifCond .ne 5, 3), (7, .iconst (-1), 1), (8, .ireturn, 1), (9, .aload_n 0, 1), (10, .dup, 1), (11, .getfield 32, 3), (14, .iconst 1, 1), (15, .isub, 1), (16, .putfield 32, 3), (19, .aload_n 0, 1), (20, .getfield 28, 3), (23, .aload_n 0, 1), (24, .getfield 32, 3), (27, .iaload, 1), (28, .istore_n 1, 1), (29, .aload_n 0, 1), (30, .getfield 21, 3), (33, .iload_n 1, 1), (34, .aaload, 1), (35, .astore_n 2, 1), (36, .aload_n 0, 1), (37, .getfield 21, 3), (40, .iload_n 1, 1), (41, .aload_n 0, 1), (42, .getfield 25, 3), (45, .aload_n 0, 1), (46, .getfield 32, 3), (49, .aaload, 1), (50, .aastore, 1), (51, .aload_n 0, 1), (52, .getfield 25, 3), (55, .aload_n 0, 1), (56, .getfield 32, 3), (59, .aload_n 2, 1), (60, .aastore, 1), (61, .aload_n 0, 1), (62, .getfield 32, 3), (65, .ireturn, 1)]
theorem dkX6_undo_0 : ∀ q ∈ tX6_undo_0, decode cX6_undo q.1 = .ok q.2 := by decide +kernel
def tX6_undo : List (Nat × Instr × Nat) := tX6_undo_0
def mX6_undo : mM := (yX6_undo, 6, cX6_undo, 3, (some .int), tX6_undo, (0, 0, 0, 0), 0, false)
theorem odX6_undo : mOd mX6_undo := dkX6_undo_0
set_option maxRecDepth 100000 in
theorem okX6_undo : mOK mX6_undo := ⟨by decide +kernel, List.mem_append_right _ (List.mem_of_getElem? (i := 717) rfl), rfl, ⟨by decide +kernel, by decide +kernel⟩, by decide +kernel, fun h => absurd h (by decide)⟩
def tX6_isSlot_0 : List (Nat × Instr × Nat) := [(0, .iload_n 0, 1), (1, .ifCond .lt 13, 3), (4, .iload_n 0, 1), (5, .bipush 8, 2), (7, .if_icmp .ge 7, 3), (10, .iconst 1, 1), (11, .goto 4, 3), (14, .iconst 0, 1), (15, .ireturn, 1)]
theorem dkX6_isSlot_0 : ∀ q ∈ tX6_isSlot_0, decode cX6_isSlot q.1 = .ok q.2 := by decide +kernel
def tX6_isSlot : List (Nat × Instr × Nat) := tX6_isSlot_0
def mX6_isSlot : mM := (yX6_isSlot, 6, cX6_isSlot, 1, (some .boolean), tX6_isSlot, (0, 0, 0, 0), 1, false)
theorem odX6_isSlot : mOd mX6_isSlot := dkX6_isSlot_0
set_option maxRecDepth 100000 in
theorem okX6_isSlot : mOK mX6_isSlot := ⟨by decide +kernel, List.mem_append_right _ (List.mem_of_getElem? (i := 283) rfl), rfl, ⟨by decide +kernel, by decide +kernel⟩, by decide +kernel, fun h => absurd h (by decide)⟩
def tX6_isTopOrBottom_0 : List (Nat × Instr × Nat) := [(0, .iload_n 0, 1), (1, .ifCond .eq 8, 3), (4, .iload_n 0, 1), (5, .iconst 1, 1), (6, .if_icmp .ne 7, 3), (9, .iconst 1, 1), (10, .goto 4, 3), (13, .iconst 0, 1), (14, .ireturn, 1)]
theorem dkX6_isTopOrBottom_0 : ∀ q ∈ tX6_isTopOrBottom_0, decode cX6_isTopOrBottom q.1 = .ok q.2 := by decide +kernel
def tX6_isTopOrBottom : List (Nat × Instr × Nat) := tX6_isTopOrBottom_0
def mX6_isTopOrBottom : mM := (yX6_isTopOrBottom, 6, cX6_isTopOrBottom, 1, (some .boolean), tX6_isTopOrBottom, (0, 0, 0, 0), 1, false)
theorem odX6_isTopOrBottom : mOd mX6_isTopOrBottom := dkX6_isTopOrBottom_0
set_option maxRecDepth 100000 in
theorem okX6_isTopOrBottom : mOK mX6_isTopOrBottom := ⟨by decide +kernel, List.mem_append_right _ (List.mem_of_getElem? (i := 570) rfl), rfl, ⟨by decide +kernel, by decide +kernel⟩, by decide +kernel, fun h => absurd h (by decide)⟩
def tX6_isWithin_0 : List (Nat × Instr × Nat) := [(0, .iload_n 0, 1), (1, .iload_n 1, 1), (2, .ineg, 1), (3, .if_icmp .lt 12, 3), (6, .iload_n 0, 1), (7, .iload_n 1, 1), (8, .if_icmp .gt 7, 3), (11, .iconst 1, 1), (12, .goto 4, 3), (15, .iconst 0, 1), (16, .ireturn, 1)]
theorem dkX6_isWithin_0 : ∀ q ∈ tX6_isWithin_0, decode cX6_isWithin q.1 = .ok q.2 := by decide +kernel
def tX6_isWithin : List (Nat × Instr × Nat) := tX6_isWithin_0
def mX6_isWithin : mM := (yX6_isWithin, 6, cX6_isWithin, 2, (some .boolean), tX6_isWithin, (0, 0, 0, 0), 2, false)
theorem odX6_isWithin : mOd mX6_isWithin := dkX6_isWithin_0
set_option maxRecDepth 100000 in
theorem okX6_isWithin : mOK mX6_isWithin := ⟨by decide +kernel, List.mem_append_right _ (List.mem_of_getElem? (i := 297) rfl), rfl, ⟨by decide +kernel, by decide +kernel⟩, by decide +kernel, fun h => absurd h (by decide)⟩
def tX6_isPoint_0 : List (Nat × Instr × Nat) := [(0, .iload_n 0, 1), (1, .bipush 100, 2), (3, .invokestatic 145, 3), (6, .ifCond .eq 25, 3), (9, .iload_n 1, 1), (10, .bipush 100, 2), (12, .invokestatic 145, 3), (15, .ifCond .eq 16, 3), (18, .iload_n 2, 1), (19, .bipush 100, 2), (21, .invokestatic 145, 3), (24, .ifCond .eq 7, 3), (27, .iconst 1, 1), (28, .goto 4, 3), (31, .iconst 0, 1), (32, .ireturn, 1)]
theorem dkX6_isPoint_0 : ∀ q ∈ tX6_isPoint_0, decode cX6_isPoint q.1 = .ok q.2 := by decide +kernel
def tX6_isPoint : List (Nat × Instr × Nat) := tX6_isPoint_0
def mX6_isPoint : mM := (yX6_isPoint, 6, cX6_isPoint, 3, (some .boolean), tX6_isPoint, (1, 21, 0, 0), 3, false)
theorem odX6_isPoint : mOd mX6_isPoint := dkX6_isPoint_0
set_option maxRecDepth 100000 in
theorem okX6_isPoint : mOK mX6_isPoint := ⟨by decide +kernel, List.mem_append_right _ (List.mem_of_getElem? (i := 294) rfl), rfl, ⟨by decide +kernel, by decide +kernel⟩, by decide +kernel, fun h => absurd h (by decide)⟩
def tX6_divisor_0 : List (Nat × Instr × Nat) := [(0, .lload_n 0, 1), (1, .lstore 4, 2), (3, .lload_n 2, 1), (4, .lstore 6, 2), (6, .iconst 0, 1), (7, .istore 8, 2), (9, .iload 8, 2), (11, .ldc 202, 2), (13, .if_icmp .ge 31, 3), (16, .lload 6, 2), (18, .lconst 0, 1), (19, .lcmp, 1), (20, .ifCond .le 24, 3), (23, .lload 4, 2), (25, .lload 6, 2), (27, .lrem, 1), (28, .lstore 9, 2), (30, .lload 6, 2), (32, .lstore 4, 2), (34, .lload 9, 2), (36, .lstore 6, 2), (38, .iinc 8 1, 3), (41, .goto (-32), 3), (44, .lload 4, 2), (46, .lreturn, 1)]
theorem dkX6_divisor_0 : ∀ q ∈ tX6_divisor_0, decode cX6_divisor q.1 = .ok q.2 := by decide +kernel
def tX6_divisor : List (Nat × Instr × Nat) := tX6_divisor_0
def mX6_divisor : mM := (yX6_divisor, 6, cX6_divisor, 11, (some .long), tX6_divisor, (0, 0, 0, 0), 2, false)
theorem odX6_divisor : mOd mX6_divisor := dkX6_divisor_0
set_option maxRecDepth 100000 in
theorem okX6_divisor : mOK mX6_divisor := ⟨by decide +kernel, List.mem_append_right _ (List.mem_of_getElem? (i := 432) rfl), rfl, ⟨by decide +kernel, by decide +kernel⟩, by decide +kernel, fun h => absurd h (by decide)⟩
def tX6_become_0 : List (Nat × Instr × Nat) := [(0, .aload_n 0, 1), (1, .getfield 57, 3), (4, .aload_n 2, 1), (5, .aload_n 3, 1), (6, .aload_n 0, 1), (7, .getfield 37, 3), (10, .invokevirtual 203, 3), (13, .istore 4, 2), (15, .iload 4, 2), (17, .bipush (-2), 2), (19, .if_icmp .eq 8, 3), (22, .aload_n 0, 1), (23, .iload_n 1, 1), (24, .invokevirtual 207, 3), (27, .iload 4, 2), (29, .ireturn, 1)]
theorem dkX6_become_0 : ∀ q ∈ tX6_become_0, decode cX6_become q.1 = .ok q.2 := by decide +kernel
def tX6_become : List (Nat × Instr × Nat) := tX6_become_0
def mX6_become : mM := (yX6_become, 6, cX6_become, 5, (some .int), tX6_become, (6, 144, 0, 0), 3, false)
theorem odX6_become : mOd mX6_become := dkX6_become_0
set_option maxRecDepth 100000 in
theorem okX6_become : mOK mX6_become := ⟨by decide +kernel, List.mem_append_right _ (List.mem_of_getElem? (i := 309) rfl), rfl, ⟨by decide +kernel, by decide +kernel⟩, by decide +kernel, fun h => absurd h (by decide)⟩
def tX6_keepFresh_0 : List (Nat × Instr × Nat) := [(0, .aload_n 0, 1), (1, .getfield 32, 3), (4, .bipush 8, 2), (6, .if_icmp .ne 7, 3), (9, .aload_n 0, 1), (10, .invokevirtual 210, 3), (13, .aload_n 0, 1), (14, .getfield 25, 3), (17, .aload_n 0, 1), (18, .getfield 32, 3), (21, .aaload, 1), (22, .astore_n 2, 1), (23, .aload_n 0, 1), (24, .getfield 25, 3), (27, .aload_n 0, 1), (28, .getfield 32, 3), (31, .aload_n 0, 1), (32, .getfield 21, 3), (35, .iload_n 1, 1), (36, .aaload, 1), (37, .aastore, 1), (38, .aload_n 0, 1), (39, .getfield 28, 3), (42, .aload_n 0, 1), (43, .getfield 32, 3), (46, .iload_n 1, 1), (47, .iastore, 1), (48, .aload_n 0, 1), (49, .dup, 1), (50, .getfield 32, 3), (53, .iconst 1, 1), (54, .iadd, 1), (55, .putfield 32, 3), (58, .aload_n 0, 1), (59, .getfield 21, 3), (62, .iload_n 1, 1), (63, .aload_n 0, 1), (64, .getfield 37, 3), (67, .aastore, 1), (68, .aload_n 0, 1), (69, .aload_n 2, 1), (70, .putfield 37, 3), (73, .return_, 1)]
theorem dkX6_keepFresh_0 : ∀ q ∈ tX6_keepFresh_0, decode cX6_keepFresh q.1 = .ok q.2 := by decide +kernel
def tX6_keepFresh : List (Nat × Instr × Nat) := tX6_keepFresh_0
def mX6_keepFresh : mM := (yX6_keepFresh, 6, cX6_keepFresh, 3, none, tX6_keepFresh, (1, 22, 0, 0), 1, false)
theorem odX6_keepFresh : mOd mX6_keepFresh := dkX6_keepFresh_0
set_option maxRecDepth 100000 in
theorem okX6_keepFresh : mOK mX6_keepFresh := ⟨by decide +kernel, List.mem_append_right _ (List.mem_of_getElem? (i := 485) rfl), rfl, ⟨by decide +kernel, by decide +kernel⟩, by decide +kernel, fun h => absurd h (by decide)⟩
def tX6_forgetOldest_0 : List (Nat × Instr × Nat) := [(0, .aload_n 0, 1), (1, .getfield 25, 3), (4, .iconst 0, 1), (5, .aaload, 1), (6, .astore_n 1, 1), (7, .iconst 1, 1), (8, .istore_n 2, 1), (9, .iload_n 2, 1), (10, .bipush 8, 2), (12, .if_icmp .ge 37, 3), (15, .aload_n 0, 1), (16, .getfield 25, 3), (19, .iload_n 2, 1), (20, .iconst 1, 1), (21, .isub, 1), (22, .aload_n 0, 1), (23, .getfield 25, 3), (26, .iload_n 2, 1), (27, .aaload, 1), (28, .aastore, 1), (29, .aload_n 0, 1), (30, .getfield 28, 3), (33, .iload_n 2, 1), (34, .iconst 1, 1), (35, .isub, 1), (36, .aload_n 0, 1), (37, .getfield 28, 3), (40, .iload_n 2, 1), (41, .iaload, 1), (42, .iastore, 1), (43, .iinc 2 1, 3), (46, .goto (-37), 3), (49, .aload_n 0, 1), (50, .bipush 7, 2), (52, .putfield 32, 3), (55, .aload_n 0, 1), (56, .getfield 25, 3), (59, .aload_n 0, 1), (60, .getfield 32, 3), (63, .aload_n 1, 1), (64, .aastore, 1), (65, .return_, 1)]
theorem dkX6_forgetOldest_0 : ∀ q ∈ tX6_forgetOldest_0, decode cX6_forgetOldest q.1 = .ok q.2 := by decide +kernel
def tX6_forgetOldest : List (Nat × Instr × Nat) := tX6_forgetOldest_0
def mX6_forgetOldest : mM := (yX6_forgetOldest, 6, cX6_forgetOldest, 3, none, tX6_forgetOldest, (0, 0, 0, 0), 0, false)
theorem odX6_forgetOldest : mOd mX6_forgetOldest := dkX6_forgetOldest_0
set_option maxRecDepth 100000 in
theorem okX6_forgetOldest : mOK mX6_forgetOldest := ⟨by decide +kernel, List.mem_append_right _ (List.mem_of_getElem? (i := 489) rfl), rfl, ⟨by decide +kernel, by decide +kernel⟩, by decide +kernel, fun h => absurd h (by decide)⟩
def tX7_init_0 : List (Nat × Instr × Nat) := [(0, .aload_n 0, 1), (1, .invokespecial 1, 3), (4, .aload_n 0, 1), (5, .bipush 8, 2), (7, .newarray .int, 2), (9, .dup, 1), (10, .iconst 0, 1), (11, .iconst (-1), 1), (12, .iastore, 1), (13, .dup, 1), (14, .iconst 1, 1), (15, .iconst (-1), 1), (16, .iastore, 1), (17, .dup, 1), (18, .iconst 2, 1), (19, .iconst (-1), 1), (20, .iastore, 1), (21, .dup, 1), (22, .iconst 3, 1), (23, .iconst (-1), 1), (24, .iastore, 1), (25, .dup, 1), (26, .iconst 4, 1), (27, .iconst (-1), 1), (28, .iastore, 1), (29, .dup, 1), (30, .iconst 5, 1), (31, .iconst (-1), 1), (32, .iastore, 1), (33, .dup, 1), (34, .bipush 6, 2), (36, .iconst (-1), 1), (37, .iastore, 1), (38, .dup, 1), (39, .bipush 7, 2), (41, .iconst (-1), 1), (42, .iastore, 1), (43, .putfield 7, 3), (46, .aload_n 0, 1), (47, .sipush 192, 3), (50, .newarray .int, 2), (52, .putfield 13, 3), (55, .aload_n 0, 1), (56, .sipush 192, 3), (59, .newarray .int, 2), (61, .putfield 16, 3), (64, .aload_n 0, 1), (65, .sipush 192, 3), (68, .newarray .int, 2), (70, .putfield 19, 3), (73, .aload_n 0, 1), (74, .bipush 8, 2), (76, .newarray .int, 2), (78, .putfield 22, 3), (81, .aload_n 0, 1), (82, .bipush 8, 2), (84, .newarray .int, 2), (86, .putfield 25, 3), (89, .aload_n 0, 1), (90, .sipush 192, 3)]
theorem dkX7_init_0 : ∀ q ∈ tX7_init_0, decode cX7_init q.1 = .ok q.2 := by decide +kernel
def tX7_init_1 : List (Nat × Instr × Nat) := [(93, .newarray .int, 2), (95, .putfield 28, 3), (98, .aload_n 0, 1), (99, .sipush 192, 3), (102, .newarray .int, 2), (104, .putfield 31, 3), (107, .aload_n 0, 1), (108, .sipush 192, 3), (111, .newarray .int, 2), (113, .putfield 34, 3), (116, .aload_n 0, 1), (117, .bipush 64, 2), (119, .newarray .int, 2), (121, .putfield 37, 3), (124, .aload_n 0, 1), (125, .bipush 64, 2), (127, .newarray .int, 2), (129, .putfield 40, 3), (132, .aload_n 0, 1), (133, .sipush 1536, 3), (136, .newarray .int, 2), (138, .putfield 43, 3), (141, .aload_n 0, 1), (142, .sipush 1536, 3), (145, .newarray .int, 2), (147, .putfield 46, 3), (150, .aload_n 0, 1), (151, .sipush 1536, 3), (154, .newarray .int, 2), (156, .putfield 49, 3), (159, .aload_n 0, 1), (160, .sipush 600, 3), (163, .newarray .long, 2), (165, .putfield 52, 3), (168, .aload_n 0, 1), (169, .sipush 600, 3), (172, .newarray .long, 2), (174, .putfield 56, 3), (177, .aload_n 0, 1), (178, .sipush 600, 3), (181, .newarray .long, 2), (183, .putfield 59, 3), (186, .aload_n 0, 1), (187, .sipush 600, 3), (190, .newarray .boolean, 2), (192, .putfield 62, 3), (195, .aload_n 0, 1), (196, .sipush 600, 3), (199, .newarray .int, 2), (201, .putfield 66, 3), (204, .aload_n 0, 1), (205, .sipush 600, 3), (208, .newarray .int, 2), (210, .putfield 69, 3), (213, .aload_n 0, 1), (214, .iconst 2, 1), (215, .newarray .int, 2), (217, .putfield 72, 3), (220, .aload_n 0, 1), (221, .sipush 128, 3)]
theorem dkX7_init_1 : ∀ q ∈ tX7_init_1, decode cX7_init q.1 = .ok q.2 := by decide +kernel
def tX7_init_2 : List (Nat × Instr × Nat) := [(224, .newarray .long, 2), (226, .putfield 75, 3), (229, .aload_n 0, 1), (230, .sipush 128, 3), (233, .newarray .long, 2), (235, .putfield 78, 3), (238, .aload_n 0, 1), (239, .sipush 128, 3), (242, .newarray .long, 2), (244, .putfield 81, 3), (247, .aload_n 0, 1), (248, .sipush 128, 3), (251, .newarray .long, 2), (253, .putfield 84, 3), (256, .aload_n 0, 1), (257, .sipush 128, 3), (260, .newarray .int, 2), (262, .putfield 87, 3), (265, .aload_n 0, 1), (266, .sipush 3200, 3), (269, .newarray .int, 2), (271, .putfield 90, 3), (274, .aload_n 0, 1), (275, .iconst 2, 1), (276, .newarray .int, 2), (278, .putfield 93, 3), (281, .aload_n 0, 1), (282, .sipush 160, 3), (285, .newarray .int, 2), (287, .putfield 96, 3), (290, .aload_n 0, 1), (291, .sipush 160, 3), (294, .newarray .int, 2), (296, .putfield 99, 3), (299, .aload_n 0, 1), (300, .sipush 160, 3), (303, .newarray .int, 2), (305, .putfield 102, 3), (308, .aload_n 0, 1), (309, .sipush 160, 3), (312, .newarray .int, 2), (314, .putfield 105, 3), (317, .aload_n 0, 1), (318, .bipush 48, 2), (320, .newarray .long, 2), (322, .putfield 108, 3), (325, .aload_n 0, 1), (326, .bipush 48, 2), (328, .newarray .long, 2), (330, .putfield 111, 3), (333, .aload_n 0, 1), (334, .bipush 48, 2), (336, .newarray .long, 2), (338, .putfield 114, 3), (341, .aload_n 0, 1), (342, .iconst 2, 1), (343, .newarray .int, 2), (345, .putfield 117, 3), (348, .aload_n 0, 1), (349, .bipush 32, 2)]
theorem dkX7_init_2 : ∀ q ∈ tX7_init_2, decode cX7_init q.1 = .ok q.2 := by decide +kernel
def tX7_init_3 : List (Nat × Instr × Nat) := [(351, .newarray .long, 2), (353, .putfield 120, 3), (356, .aload_n 0, 1), (357, .bipush 32, 2), (359, .newarray .long, 2), (361, .putfield 123, 3), (364, .aload_n 0, 1), (365, .bipush 32, 2), (367, .newarray .long, 2), (369, .putfield 126, 3), (372, .return_, 1)]
theorem dkX7_init_3 : ∀ q ∈ tX7_init_3, decode cX7_init q.1 = .ok q.2 := by decide +kernel
def tX7_init : List (Nat × Instr × Nat) := tX7_init_0 ++ (tX7_init_1 ++ (tX7_init_2 ++ (tX7_init_3)))
def mX7_init : mM := (yX7_init, 7, cX7_init, 1, none, tX7_init, (1, 20, 200, 50000), 0, true)
theorem odX7_init : mOd mX7_init := List.forall_mem_append.mpr ⟨dkX7_init_0, List.forall_mem_append.mpr ⟨dkX7_init_1, List.forall_mem_append.mpr ⟨dkX7_init_2, dkX7_init_3⟩⟩⟩
set_option maxRecDepth 100000 in
theorem okX7_init : mOK mX7_init := ⟨by decide +kernel, List.mem_append_right _ (List.mem_of_getElem? (i := 722) rfl), rfl, ⟨by decide +kernel, by decide +kernel⟩, by decide +kernel, fun _ => rfl⟩
def tX7_isPoint_0 : List (Nat × Instr × Nat) := [(0, .lload_n 0, 1), (1, .ldc2_w 129, 3), (4, .lcmp, 1), (5, .ifCond .lt 49, 3), (8, .lload_n 0, 1), (9, .ldc2_w 131, 3), (12, .lcmp, 1), (13, .ifCond .gt 41, 3), (16, .lload_n 2, 1), (17, .ldc2_w 129, 3), (20, .lcmp, 1), (21, .ifCond .lt 33, 3), (24, .lload_n 2, 1), (25, .ldc2_w 131, 3), (28, .lcmp, 1), (29, .ifCond .gt 25, 3), (32, .lload 4, 2), (34, .ldc2_w 129, 3), (37, .lcmp, 1), (38, .ifCond .lt 16, 3), (41, .lload 4, 2), (43, .ldc2_w 131, 3), (46, .lcmp, 1), (47, .ifCond .gt 7, 3), (50, .iconst 1, 1), (51, .goto 4, 3), (54, .iconst 0, 1), (55, .ireturn, 1)]
theorem dkX7_isPoint_0 : ∀ q ∈ tX7_isPoint_0, decode cX7_isPoint q.1 = .ok q.2 := by decide +kernel
def tX7_isPoint : List (Nat × Instr × Nat) := tX7_isPoint_0
def mX7_isPoint : mM := (yX7_isPoint, 7, cX7_isPoint, 6, (some .boolean), tX7_isPoint, (0, 0, 0, 0), 3, false)
theorem odX7_isPoint : mOd mX7_isPoint := dkX7_isPoint_0
set_option maxRecDepth 100000 in
theorem okX7_isPoint : mOK mX7_isPoint := ⟨by decide +kernel, List.mem_append_right _ (List.mem_of_getElem? (i := 916) rfl), rfl, ⟨by decide +kernel, by decide +kernel⟩, by decide +kernel, fun h => absurd h (by decide)⟩
def tX7_isSolid_0 : List (Nat × Instr × Nat) := [(0, .iload_n 0, 1), (1, .ifCond .lt 13, 3), (4, .iload_n 0, 1), (5, .bipush 8, 2), (7, .if_icmp .ge 7, 3), (10, .iconst 1, 1), (11, .goto 4, 3), (14, .iconst 0, 1), (15, .ireturn, 1)]
theorem dkX7_isSolid_0 : ∀ q ∈ tX7_isSolid_0, decode cX7_isSolid q.1 = .ok q.2 := by decide +kernel
def tX7_isSolid : List (Nat × Instr × Nat) := tX7_isSolid_0
def mX7_isSolid : mM := (yX7_isSolid, 7, cX7_isSolid, 1, (some .boolean), tX7_isSolid, (0, 0, 0, 0), 1, false)
theorem odX7_isSolid : mOd mX7_isSolid := dkX7_isSolid_0
set_option maxRecDepth 100000 in
theorem okX7_isSolid : mOK mX7_isSolid := ⟨by decide +kernel, List.mem_append_right _ (List.mem_of_getElem? (i := 909) rfl), rfl, ⟨by decide +kernel, by decide +kernel⟩, by decide +kernel, fun h => absurd h (by decide)⟩
def tX7_tray_0 : List (Nat × Instr × Nat) := [(0, .iload_n 1, 1), (1, .invokestatic 133, 3), (4, .ifCond .eq 14, 3), (7, .iload_n 2, 1), (8, .iconst (-1), 1), (9, .if_icmp .lt 9, 3), (12, .iload_n 2, 1), (13, .bipush 24, 2), (15, .if_icmp .le 5, 3), (18, .iconst 0, 1), (19, .ireturn, 1), (20, .aload_n 0, 1), (21, .getfield 7, 3), (24, .iload_n 1, 1), (25, .iload_n 2, 1), (26, .iastore, 1), (27, .iconst 0, 1), (28, .istore_n 3, 1), (29, .iload_n 3, 1), (30, .bipush 24, 2), (32, .if_icmp .ge 45, 3), (35, .aload_n 0, 1), (36, .getfield 13, 3), (39, .bipush 24, 2), (41, .iload_n 1, 1), (42, .imul, 1), (43, .iload_n 3, 1), (44, .iadd, 1), (45, .iconst 0, 1), (46, .iastore, 1), (47, .aload_n 0, 1), (48, .getfield 16, 3), (51, .bipush 24, 2), (53, .iload_n 1, 1), (54, .imul, 1), (55, .iload_n 3, 1), (56, .iadd, 1), (57, .iconst 0, 1), (58, .iastore, 1), (59, .aload_n 0, 1), (60, .getfield 19, 3), (63, .bipush 24, 2), (65, .iload_n 1, 1), (66, .imul, 1), (67, .iload_n 3, 1), (68, .iadd, 1), (69, .iconst 0, 1), (70, .iastore, 1), (71, .iinc 3 1, 3), (74, .goto (-45), 3), (77, .iconst 1, 1), (78, .ireturn, 1)]
theorem dkX7_tray_0 : ∀ q ∈ tX7_tray_0, decode cX7_tray q.1 = .ok q.2 := by decide +kernel
def tX7_tray : List (Nat × Instr × Nat) := tX7_tray_0
def mX7_tray : mM := (yX7_tray, 7, cX7_tray, 4, (some .boolean), tX7_tray, (1, 20, 0, 0), 2, false)
theorem odX7_tray : mOd mX7_tray := dkX7_tray_0
set_option maxRecDepth 100000 in
theorem okX7_tray : mOK mX7_tray := ⟨by decide +kernel, List.mem_append_right _ (List.mem_of_getElem? (i := 906) rfl), rfl, ⟨by decide +kernel, by decide +kernel⟩, by decide +kernel, fun h => absurd h (by decide)⟩
def tX7_point_0 : List (Nat × Instr × Nat) := [(0, .iload_n 1, 1), (1, .invokestatic 133, 3), (4, .ifCond .eq 31, 3), (7, .iload_n 2, 1), (8, .ifCond .lt 27, 3), (11, .iload_n 2, 1), (12, .aload_n 0, 1), (13, .getfield 7, 3), (16, .iload_n 1, 1), (17, .iaload, 1), (18, .if_icmp .ge 17, 3), (21, .iload_n 3, 1), (22, .i2l, 1), (23, .iload 4, 2), (25, .i2l, 1), (26, .iload 5, 2), (28, .i2l, 1), (29, .invokestatic 137, 3), (32, .ifCond .ne 5, 3), (35, .iconst 0, 1), (36, .ireturn, 1), (37, .aload_n 0, 1), (38, .getfield 13, 3), (41, .bipush 24, 2), (43, .iload_n 1, 1), (44, .imul, 1), (45, .iload_n 2, 1), (46, .iadd, 1), (47, .iload_n 3, 1), (48, .iastore, 1), (49, .aload_n 0, 1), (50, .getfield 16, 3), (53, .bipush 24, 2), (55, .iload_n 1, 1), (56, .imul, 1), (57, .iload_n 2, 1), (58, .iadd, 1), (59, .iload 4, 2), (61, .iastore, 1), (62, .aload_n 0, 1), (63, .getfield 19, 3), (66, .bipush 24, 2), (68, .iload_n 1, 1), (69, .imul, 1), (70, .iload_n 2, 1), (71, .iadd, 1), (72, .iload 5, 2), (74, .iastore, 1), (75, .iconst 1, 1), (76, .ireturn, 1)]
theorem dkX7_point_0 : ∀ q ∈ tX7_point_0, decode cX7_point q.1 = .ok q.2 := by decide +kernel
def tX7_point : List (Nat × Instr × Nat) := tX7_point_0
def mX7_point : mM := (yX7_point, 7, cX7_point, 6, (some .boolean), tX7_point, (1, 25, 0, 0), 5, false)
theorem odX7_point : mOd mX7_point := dkX7_point_0
set_option maxRecDepth 100000 in
theorem okX7_point : mOK mX7_point := ⟨by decide +kernel, List.mem_append_right _ (List.mem_of_getElem? (i := 913) rfl), rfl, ⟨by decide +kernel, by decide +kernel⟩, by decide +kernel, fun h => absurd h (by decide)⟩
def tX7_keeps_0 : List (Nat × Instr × Nat) := [(0, .aload_n 0, 1), (1, .getfield 141, 3), (4, .bipush 8, 2), (6, .if_icmp .ne 116, 3), (9, .iconst 0, 1), (10, .istore_n 1, 1), (11, .iload_n 1, 1), (12, .bipush 56, 2), (14, .if_icmp .ge 39, 3), (17, .aload_n 0, 1), (18, .getfield 37, 3), (21, .iload_n 1, 1), (22, .aload_n 0, 1), (23, .getfield 37, 3), (26, .iload_n 1, 1), (27, .bipush 8, 2), (29, .iadd, 1), (30, .iaload, 1), (31, .iastore, 1), (32, .aload_n 0, 1), (33, .getfield 40, 3), (36, .iload_n 1, 1), (37, .aload_n 0, 1), (38, .getfield 40, 3), (41, .iload_n 1, 1), (42, .bipush 8, 2), (44, .iadd, 1), (45, .iaload, 1), (46, .iastore, 1), (47, .iinc 1 1, 3), (50, .goto (-39), 3), (53, .iconst 0, 1), (54, .istore_n 1, 1), (55, .iload_n 1, 1), (56, .sipush 1344, 3), (59, .if_icmp .ge 57, 3), (62, .aload_n 0, 1), (63, .getfield 43, 3), (66, .iload_n 1, 1), (67, .aload_n 0, 1), (68, .getfield 43, 3), (71, .iload_n 1, 1), (72, .sipush 192, 3), (75, .iadd, 1), (76, .iaload, 1), (77, .iastore, 1), (78, .aload_n 0, 1), (79, .getfield 46, 3), (82, .iload_n 1, 1), (83, .aload_n 0, 1), (84, .getfield 46, 3), (87, .iload_n 1, 1), (88, .sipush 192, 3), (91, .iadd, 1), (92, .iaload, 1), (93, .iastore, 1), (94, .aload_n 0, 1), (95, .getfield 49, 3), (98, .iload_n 1, 1), (99, .aload_n 0, 1)]
theorem dkX7_keeps_0 : ∀ q ∈ tX7_keeps_0, decode cX7_keeps q.1 = .ok q.2 := by decide +kernel
def tX7_keeps_1 : List (Nat × Instr × Nat) := [(100, .getfield 49, 3), (103, .iload_n 1, 1), (104, .sipush 192, 3), (107, .iadd, 1), (108, .iaload, 1), (109, .iastore, 1), (110, .iinc 1 1, 3), (113, .goto (-58), 3), (116, .aload_n 0, 1), (117, .bipush 7, 2), (119, .putfield 141, 3), (122, .iconst 0, 1), (123, .istore_n 1, 1), (124, .iload_n 1, 1), (125, .bipush 8, 2), (127, .if_icmp .ge 49, 3), (130, .aload_n 0, 1), (131, .getfield 37, 3), (134, .bipush 8, 2), (136, .aload_n 0, 1), (137, .getfield 141, 3), (140, .imul, 1), (141, .iload_n 1, 1), (142, .iadd, 1), (143, .aload_n 0, 1), (144, .getfield 22, 3), (147, .iload_n 1, 1), (148, .iaload, 1), (149, .iastore, 1), (150, .aload_n 0, 1), (151, .getfield 40, 3), (154, .bipush 8, 2), (156, .aload_n 0, 1), (157, .getfield 141, 3), (160, .imul, 1), (161, .iload_n 1, 1), (162, .iadd, 1), (163, .aload_n 0, 1), (164, .getfield 25, 3), (167, .iload_n 1, 1), (168, .iaload, 1), (169, .iastore, 1), (170, .iinc 1 1, 3), (173, .goto (-49), 3), (176, .iconst 0, 1), (177, .istore_n 1, 1), (178, .iload_n 1, 1), (179, .sipush 192, 3), (182, .if_icmp .ge 72, 3), (185, .aload_n 0, 1), (186, .getfield 43, 3), (189, .sipush 192, 3), (192, .aload_n 0, 1), (193, .getfield 141, 3), (196, .imul, 1), (197, .iload_n 1, 1), (198, .iadd, 1), (199, .aload_n 0, 1), (200, .getfield 28, 3), (203, .iload_n 1, 1)]
theorem dkX7_keeps_1 : ∀ q ∈ tX7_keeps_1, decode cX7_keeps q.1 = .ok q.2 := by decide +kernel
def tX7_keeps_2 : List (Nat × Instr × Nat) := [(204, .iaload, 1), (205, .iastore, 1), (206, .aload_n 0, 1), (207, .getfield 46, 3), (210, .sipush 192, 3), (213, .aload_n 0, 1), (214, .getfield 141, 3), (217, .imul, 1), (218, .iload_n 1, 1), (219, .iadd, 1), (220, .aload_n 0, 1), (221, .getfield 31, 3), (224, .iload_n 1, 1), (225, .iaload, 1), (226, .iastore, 1), (227, .aload_n 0, 1), (228, .getfield 49, 3), (231, .sipush 192, 3), (234, .aload_n 0, 1), (235, .getfield 141, 3), (238, .imul, 1), (239, .iload_n 1, 1), (240, .iadd, 1), (241, .aload_n 0, 1), (242, .getfield 34, 3), (245, .iload_n 1, 1), (246, .iaload, 1), (247, .iastore, 1), (248, .iinc 1 1, 3), (251, .goto (-73), 3), (254, .aload_n 0, 1), (255, .dup, 1), (256, .getfield 141, 3), (259, .iconst 1, 1), (260, .iadd, 1), (261, .putfield 141, 3), (264, .return_, 1)]
theorem dkX7_keeps_2 : ∀ q ∈ tX7_keeps_2, decode cX7_keeps q.1 = .ok q.2 := by decide +kernel
def tX7_keeps : List (Nat × Instr × Nat) := tX7_keeps_0 ++ (tX7_keeps_1 ++ (tX7_keeps_2))
def mX7_keeps : mM := (yX7_keeps, 7, cX7_keeps, 2, none, tX7_keeps, (0, 0, 0, 0), 0, false)
theorem odX7_keeps : mOd mX7_keeps := List.forall_mem_append.mpr ⟨dkX7_keeps_0, List.forall_mem_append.mpr ⟨dkX7_keeps_1, dkX7_keeps_2⟩⟩
set_option maxRecDepth 100000 in
theorem okX7_keeps : mOK mX7_keeps := ⟨by decide +kernel, List.mem_append_right _ (List.mem_of_getElem? (i := 1002) rfl), rfl, ⟨by decide +kernel, by decide +kernel⟩, by decide +kernel, fun h => absurd h (by decide)⟩
def tX7_undo_0 : List (Nat × Instr × Nat) := [(0, .aload_n 0, 1), (1, .getfield 141, 3), (4, .ifCond .ne 5, 3), (7, .iconst (-1), 1), (8, .ireturn, 1), (9, .aload_n 0, 1), (10, .dup, 1), (11, .getfield 141, 3), (14, .iconst 1, 1), (15, .isub, 1), (16, .putfield 141, 3), (19, .iconst 0, 1), (20, .istore_n 1, 1), (21, .iload_n 1, 1), (22, .bipush 8, 2), (24, .if_icmp .ge 49, 3), (27, .aload_n 0, 1), (28, .getfield 22, 3), (31, .iload_n 1, 1), (32, .aload_n 0, 1), (33, .getfield 37, 3), (36, .bipush 8, 2), (38, .aload_n 0, 1), (39, .getfield 141, 3), (42, .imul, 1), (43, .iload_n 1, 1), (44, .iadd, 1), (45, .iaload, 1), (46, .iastore, 1), (47, .aload_n 0, 1), (48, .getfield 25, 3), (51, .iload_n 1, 1), (52, .aload_n 0, 1), (53, .getfield 40, 3), (56, .bipush 8, 2), (58, .aload_n 0, 1), (59, .getfield 141, 3), (62, .imul, 1), (63, .iload_n 1, 1), (64, .iadd, 1), (65, .iaload, 1), (66, .iastore, 1), (67, .iinc 1 1, 3), (70, .goto (-49), 3), (73, .iconst 0, 1), (74, .istore_n 1, 1), (75, .iload_n 1, 1), (76, .sipush 192, 3), (79, .if_icmp .ge 72, 3), (82, .aload_n 0, 1), (83, .getfield 28, 3), (86, .iload_n 1, 1), (87, .aload_n 0, 1), (88, .getfield 43, 3), (91, .sipush 192, 3), (94, .aload_n 0, 1), (95, .getfield 141, 3), (98, .imul, 1), (99, .iload_n 1, 1), (100, .iadd, 1)]
theorem dkX7_undo_0 : ∀ q ∈ tX7_undo_0, decode cX7_undo q.1 = .ok q.2 := by decide +kernel
def tX7_undo_1 : List (Nat × Instr × Nat) := [(101, .iaload, 1), (102, .iastore, 1), (103, .aload_n 0, 1), (104, .getfield 31, 3), (107, .iload_n 1, 1), (108, .aload_n 0, 1), (109, .getfield 46, 3), (112, .sipush 192, 3), (115, .aload_n 0, 1), (116, .getfield 141, 3), (119, .imul, 1), (120, .iload_n 1, 1), (121, .iadd, 1), (122, .iaload, 1), (123, .iastore, 1), (124, .aload_n 0, 1), (125, .getfield 34, 3), (128, .iload_n 1, 1), (129, .aload_n 0, 1), (130, .getfield 49, 3), (133, .sipush 192, 3), (136, .aload_n 0, 1), (137, .getfield 141, 3), (140, .imul, 1), (141, .iload_n 1, 1), (142, .iadd, 1), (143, .iaload, 1), (144, .iastore, 1), (145, .iinc 1 1, 3), (148, .goto (-73), 3), (151, .aload_n 0, 1), (152, .getfield 141, 3), (155, .ireturn, 1)]
theorem dkX7_undo_1 : ∀ q ∈ tX7_undo_1, decode cX7_undo q.1 = .ok q.2 := by decide +kernel
def tX7_undo : List (Nat × Instr × Nat) := tX7_undo_0 ++ (tX7_undo_1)
def mX7_undo : mM := (yX7_undo, 7, cX7_undo, 2, (some .int), tX7_undo, (0, 0, 0, 0), 0, false)
theorem odX7_undo : mOd mX7_undo := List.forall_mem_append.mpr ⟨dkX7_undo_0, dkX7_undo_1⟩
set_option maxRecDepth 100000 in
theorem okX7_undo : mOK mX7_undo := ⟨by decide +kernel, List.mem_append_right _ (List.mem_of_getElem? (i := 922) rfl), rfl, ⟨by decide +kernel, by decide +kernel⟩, by decide +kernel, fun h => absurd h (by decide)⟩
def tX7_heaps_0 : List (Nat × Instr × Nat) := [(0, .iconst 0, 1), (1, .istore 7, 2), (3, .iload 7, 2), (5, .aload_n 0, 1), (6, .getfield 145, 3), (9, .if_icmp .ge 70, 3), (12, .aload_n 0, 1), (13, .getfield 52, 3), (16, .iload 7, 2), (18, .laload, 1), (19, .lload_n 1, 1), (20, .lcmp, 1), (21, .ifCond .lt 52, 3), (24, .aload_n 0, 1), (25, .getfield 52, 3), (28, .iload 7, 2), (30, .laload, 1), (31, .lload_n 1, 1), (32, .lcmp, 1), (33, .ifCond .ne 46, 3), (36, .aload_n 0, 1), (37, .getfield 56, 3), (40, .iload 7, 2), (42, .laload, 1), (43, .lload_n 3, 1), (44, .lcmp, 1), (45, .ifCond .lt 28, 3), (48, .aload_n 0, 1), (49, .getfield 56, 3), (52, .iload 7, 2), (54, .laload, 1), (55, .lload_n 3, 1), (56, .lcmp, 1), (57, .ifCond .ne 22, 3), (60, .aload_n 0, 1), (61, .getfield 59, 3), (64, .iload 7, 2), (66, .laload, 1), (67, .lload 5, 2), (69, .lcmp, 1), (70, .ifCond .ge 9, 3), (73, .iinc 7 1, 3), (76, .goto (-73), 3), (79, .iload 7, 2), (81, .aload_n 0, 1), (82, .getfield 145, 3), (85, .if_icmp .ge 41, 3), (88, .aload_n 0, 1), (89, .getfield 52, 3), (92, .iload 7, 2), (94, .laload, 1), (95, .lload_n 1, 1), (96, .lcmp, 1), (97, .ifCond .ne 29, 3), (100, .aload_n 0, 1), (101, .getfield 56, 3), (104, .iload 7, 2), (106, .laload, 1), (107, .lload_n 3, 1), (108, .lcmp, 1)]
theorem dkX7_heaps_0 : ∀ q ∈ tX7_heaps_0, decode cX7_heaps q.1 = .ok q.2 := by decide +kernel
def tX7_heaps_1 : List (Nat × Instr × Nat) := [(109, .ifCond .ne 17, 3), (112, .aload_n 0, 1), (113, .getfield 59, 3), (116, .iload 7, 2), (118, .laload, 1), (119, .lload 5, 2), (121, .lcmp, 1), (122, .ifCond .ne 4, 3), (125, .return_, 1), (126, .aload_n 0, 1), (127, .getfield 145, 3), (130, .istore 8, 2), (132, .iload 8, 2), (134, .iload 7, 2), (136, .if_icmp .le 57, 3), (139, .aload_n 0, 1), (140, .getfield 52, 3), (143, .iload 8, 2), (145, .aload_n 0, 1), (146, .getfield 52, 3), (149, .iload 8, 2), (151, .iconst 1, 1), (152, .isub, 1), (153, .laload, 1), (154, .lastore, 1), (155, .aload_n 0, 1), (156, .getfield 56, 3), (159, .iload 8, 2), (161, .aload_n 0, 1), (162, .getfield 56, 3), (165, .iload 8, 2), (167, .iconst 1, 1), (168, .isub, 1), (169, .laload, 1), (170, .lastore, 1), (171, .aload_n 0, 1), (172, .getfield 59, 3), (175, .iload 8, 2), (177, .aload_n 0, 1), (178, .getfield 59, 3), (181, .iload 8, 2), (183, .iconst 1, 1), (184, .isub, 1), (185, .laload, 1), (186, .lastore, 1), (187, .iinc 8 (-1), 3), (190, .goto (-58), 3), (193, .aload_n 0, 1), (194, .getfield 52, 3), (197, .iload 7, 2), (199, .lload_n 1, 1), (200, .lastore, 1), (201, .aload_n 0, 1), (202, .getfield 56, 3), (205, .iload 7, 2), (207, .lload_n 3, 1), (208, .lastore, 1), (209, .aload_n 0, 1), (210, .getfield 59, 3), (213, .iload 7, 2)]
theorem dkX7_heaps_1 : ∀ q ∈ tX7_heaps_1, decode cX7_heaps q.1 = .ok q.2 := by decide +kernel
def tX7_heaps_2 : List (Nat × Instr × Nat) := [(215, .lload 5, 2), (217, .lastore, 1), (218, .aload_n 0, 1), (219, .dup, 1), (220, .getfield 145, 3), (223, .iconst 1, 1), (224, .iadd, 1), (225, .putfield 145, 3), (228, .return_, 1)]
theorem dkX7_heaps_2 : ∀ q ∈ tX7_heaps_2, decode cX7_heaps q.1 = .ok q.2 := by decide +kernel
def tX7_heaps : List (Nat × Instr × Nat) := tX7_heaps_0 ++ (tX7_heaps_1 ++ (tX7_heaps_2))
def mX7_heaps : mM := (yX7_heaps, 7, cX7_heaps, 9, none, tX7_heaps, (0, 0, 0, 0), 3, false)
theorem odX7_heaps : mOd mX7_heaps := List.forall_mem_append.mpr ⟨dkX7_heaps_0, List.forall_mem_append.mpr ⟨dkX7_heaps_1, dkX7_heaps_2⟩⟩
set_option maxRecDepth 100000 in
theorem okX7_heaps : mOK mX7_heaps := ⟨by decide +kernel, List.mem_append_right _ (List.mem_of_getElem? (i := 930) rfl), rfl, ⟨by decide +kernel, by decide +kernel⟩, by decide +kernel, fun h => absurd h (by decide)⟩
def tX7_across_0 : List (Nat × Instr × Nat) := [(0, .aload_n 0, 1), (1, .getfield 52, 3), (4, .iload_n 2, 1), (5, .laload, 1), (6, .aload_n 0, 1), (7, .getfield 52, 3), (10, .iload_n 1, 1), (11, .laload, 1), (12, .lsub, 1), (13, .lstore 4, 2), (15, .aload_n 0, 1), (16, .getfield 56, 3), (19, .iload_n 2, 1), (20, .laload, 1), (21, .aload_n 0, 1), (22, .getfield 56, 3), (25, .iload_n 1, 1), (26, .laload, 1), (27, .lsub, 1), (28, .lstore 6, 2), (30, .aload_n 0, 1), (31, .getfield 59, 3), (34, .iload_n 2, 1), (35, .laload, 1), (36, .aload_n 0, 1), (37, .getfield 59, 3), (40, .iload_n 1, 1), (41, .laload, 1), (42, .lsub, 1), (43, .lstore 8, 2), (45, .aload_n 0, 1), (46, .getfield 52, 3), (49, .iload_n 3, 1), (50, .laload, 1), (51, .aload_n 0, 1), (52, .getfield 52, 3), (55, .iload_n 1, 1), (56, .laload, 1), (57, .lsub, 1), (58, .lstore 10, 2), (60, .aload_n 0, 1), (61, .getfield 56, 3), (64, .iload_n 3, 1), (65, .laload, 1), (66, .aload_n 0, 1), (67, .getfield 56, 3), (70, .iload_n 1, 1), (71, .laload, 1), (72, .lsub, 1), (73, .lstore 12, 2), (75, .aload_n 0, 1), (76, .getfield 59, 3), (79, .iload_n 3, 1), (80, .laload, 1), (81, .aload_n 0, 1), (82, .getfield 59, 3), (85, .iload_n 1, 1), (86, .laload, 1), (87, .lsub, 1), (88, .lstore 14, 2)]
theorem dkX7_across_0 : ∀ q ∈ tX7_across_0, decode cX7_across q.1 = .ok q.2 := by decide +kernel
def tX7_across_1 : List (Nat × Instr × Nat) := [(90, .aload_n 0, 1), (91, .lload 6, 2), (93, .lload 14, 2), (95, .lmul, 1), (96, .lload 8, 2), (98, .lload 12, 2), (100, .lmul, 1), (101, .lsub, 1), (102, .putfield 148, 3), (105, .aload_n 0, 1), (106, .lload 8, 2), (108, .lload 10, 2), (110, .lmul, 1), (111, .lload 4, 2), (113, .lload 14, 2), (115, .lmul, 1), (116, .lsub, 1), (117, .putfield 152, 3), (120, .aload_n 0, 1), (121, .lload 4, 2), (123, .lload 12, 2), (125, .lmul, 1), (126, .lload 6, 2), (128, .lload 10, 2), (130, .lmul, 1), (131, .lsub, 1), (132, .putfield 155, 3), (135, .return_, 1)]
theorem dkX7_across_1 : ∀ q ∈ tX7_across_1, decode cX7_across q.1 = .ok q.2 := by decide +kernel
def tX7_across : List (Nat × Instr × Nat) := tX7_across_0 ++ (tX7_across_1)
def mX7_across : mM := (yX7_across, 7, cX7_across, 16, none, tX7_across, (0, 0, 0, 0), 3, false)
theorem odX7_across : mOd mX7_across := List.forall_mem_append.mpr ⟨dkX7_across_0, dkX7_across_1⟩
set_option maxRecDepth 100000 in
theorem okX7_across : mOK mX7_across := ⟨by decide +kernel, List.mem_append_right _ (List.mem_of_getElem? (i := 942) rfl), rfl, ⟨by decide +kernel, by decide +kernel⟩, by decide +kernel, fun h => absurd h (by decide)⟩
def tX7_common_0 : List (Nat × Instr × Nat) := [(0, .lload_n 0, 1), (1, .lconst 0, 1), (2, .lcmp, 1), (3, .ifCond .ge 8, 3), (6, .lload_n 0, 1), (7, .lneg, 1), (8, .goto 4, 3), (11, .lload_n 0, 1), (12, .lstore 4, 2), (14, .lload_n 2, 1), (15, .lconst 0, 1), (16, .lcmp, 1), (17, .ifCond .ge 8, 3), (20, .lload_n 2, 1), (21, .lneg, 1), (22, .goto 4, 3), (25, .lload_n 2, 1), (26, .lstore 6, 2), (28, .lload 6, 2), (30, .lconst 0, 1), (31, .lcmp, 1), (32, .ifCond .eq 21, 3), (35, .lload 4, 2), (37, .lload 6, 2), (39, .lrem, 1), (40, .lstore 8, 2), (42, .lload 6, 2), (44, .lstore 4, 2), (46, .lload 8, 2), (48, .lstore 6, 2), (50, .goto (-22), 3), (53, .lload 4, 2), (55, .lreturn, 1)]
theorem dkX7_common_0 : ∀ q ∈ tX7_common_0, decode cX7_common q.1 = .ok q.2 := by decide +kernel
def tX7_common : List (Nat × Instr × Nat) := tX7_common_0
def mX7_common : mM := (yX7_common, 7, cX7_common, 10, (some .long), tX7_common, (0, 0, 0, 0), 2, false)
theorem odX7_common : mOd mX7_common := dkX7_common_0
set_option maxRecDepth 100000 in
theorem okX7_common : mOK mX7_common := ⟨by decide +kernel, List.mem_append_right _ (List.mem_of_getElem? (i := 953) rfl), rfl, ⟨by decide +kernel, by decide +kernel⟩, by decide +kernel, fun h => absurd h (by decide)⟩
def tX7_isFlat_0 : List (Nat × Instr × Nat) := [(0, .aload_n 0, 1), (1, .getfield 148, 3), (4, .lconst 0, 1), (5, .lcmp, 1), (6, .ifCond .ne 25, 3), (9, .aload_n 0, 1), (10, .getfield 152, 3), (13, .lconst 0, 1), (14, .lcmp, 1), (15, .ifCond .ne 16, 3), (18, .aload_n 0, 1), (19, .getfield 155, 3), (22, .lconst 0, 1), (23, .lcmp, 1), (24, .ifCond .ne 7, 3), (27, .iconst 1, 1), (28, .goto 4, 3), (31, .iconst 0, 1), (32, .ireturn, 1)]
theorem dkX7_isFlat_0 : ∀ q ∈ tX7_isFlat_0, decode cX7_isFlat q.1 = .ok q.2 := by decide +kernel
def tX7_isFlat : List (Nat × Instr × Nat) := tX7_isFlat_0
def mX7_isFlat : mM := (yX7_isFlat, 7, cX7_isFlat, 1, (some .boolean), tX7_isFlat, (0, 0, 0, 0), 0, false)
theorem odX7_isFlat : mOd mX7_isFlat := dkX7_isFlat_0
set_option maxRecDepth 100000 in
theorem okX7_isFlat : mOK mX7_isFlat := ⟨by decide +kernel, List.mem_append_right _ (List.mem_of_getElem? (i := 946) rfl), rfl, ⟨by decide +kernel, by decide +kernel⟩, by decide +kernel, fun h => absurd h (by decide)⟩
def tX7_plain_0 : List (Nat × Instr × Nat) := [(0, .aload_n 0, 1), (1, .getfield 148, 3), (4, .aload_n 0, 1), (5, .getfield 152, 3), (8, .invokestatic 158, 3), (11, .aload_n 0, 1), (12, .getfield 155, 3), (15, .invokestatic 158, 3), (18, .lstore_n 1, 1), (19, .aload_n 0, 1), (20, .dup, 1), (21, .getfield 148, 3), (24, .lload_n 1, 1), (25, .ldiv, 1), (26, .putfield 148, 3), (29, .aload_n 0, 1), (30, .dup, 1), (31, .getfield 152, 3), (34, .lload_n 1, 1), (35, .ldiv, 1), (36, .putfield 152, 3), (39, .aload_n 0, 1), (40, .dup, 1), (41, .getfield 155, 3), (44, .lload_n 1, 1), (45, .ldiv, 1), (46, .putfield 155, 3), (49, .return_, 1)]
theorem dkX7_plain_0 : ∀ q ∈ tX7_plain_0, decode cX7_plain q.1 = .ok q.2 := by decide +kernel
def tX7_plain : List (Nat × Instr × Nat) := tX7_plain_0
def mX7_plain : mM := (yX7_plain, 7, cX7_plain, 3, none, tX7_plain, (1, 29, 0, 0), 0, false)
theorem odX7_plain : mOd mX7_plain := dkX7_plain_0
set_option maxRecDepth 100000 in
theorem okX7_plain : mOK mX7_plain := ⟨by decide +kernel, List.mem_append_right _ (List.mem_of_getElem? (i := 950) rfl), rfl, ⟨by decide +kernel, by decide +kernel⟩, by decide +kernel, fun h => absurd h (by decide)⟩
def tX7_height_0 : List (Nat × Instr × Nat) := [(0, .aload_n 0, 1), (1, .getfield 148, 3), (4, .aload_n 0, 1), (5, .getfield 52, 3), (8, .iload_n 1, 1), (9, .laload, 1), (10, .lmul, 1), (11, .aload_n 0, 1), (12, .getfield 152, 3), (15, .aload_n 0, 1), (16, .getfield 56, 3), (19, .iload_n 1, 1), (20, .laload, 1), (21, .lmul, 1), (22, .ladd, 1), (23, .aload_n 0, 1), (24, .getfield 155, 3), (27, .aload_n 0, 1), (28, .getfield 59, 3), (31, .iload_n 1, 1), (32, .laload, 1), (33, .lmul, 1), (34, .ladd, 1), (35, .lreturn, 1)]
theorem dkX7_height_0 : ∀ q ∈ tX7_height_0, decode cX7_height q.1 = .ok q.2 := by decide +kernel
def tX7_height : List (Nat × Instr × Nat) := tX7_height_0
def mX7_height : mM := (yX7_height, 7, cX7_height, 2, (some .long), tX7_height, (0, 0, 0, 0), 1, false)
theorem odX7_height : mOd mX7_height := dkX7_height_0
set_option maxRecDepth 100000 in
theorem okX7_height : mOK mX7_height := ⟨by decide +kernel, List.mem_append_right _ (List.mem_of_getElem? (i := 957) rfl), rfl, ⟨by decide +kernel, by decide +kernel⟩, by decide +kernel, fun h => absurd h (by decide)⟩
def tX7_leftOf_0 : List (Nat × Instr × Nat) := [(0, .aload_n 0, 1), (1, .getfield 52, 3), (4, .iload_n 2, 1), (5, .laload, 1), (6, .aload_n 0, 1), (7, .getfield 52, 3), (10, .iload_n 1, 1), (11, .laload, 1), (12, .lsub, 1), (13, .lstore 4, 2), (15, .aload_n 0, 1), (16, .getfield 56, 3), (19, .iload_n 2, 1), (20, .laload, 1), (21, .aload_n 0, 1), (22, .getfield 56, 3), (25, .iload_n 1, 1), (26, .laload, 1), (27, .lsub, 1), (28, .lstore 6, 2), (30, .aload_n 0, 1), (31, .getfield 59, 3), (34, .iload_n 2, 1), (35, .laload, 1), (36, .aload_n 0, 1), (37, .getfield 59, 3), (40, .iload_n 1, 1), (41, .laload, 1), (42, .lsub, 1), (43, .lstore 8, 2), (45, .aload_n 0, 1), (46, .getfield 52, 3), (49, .iload_n 3, 1), (50, .laload, 1), (51, .aload_n 0, 1), (52, .getfield 52, 3), (55, .iload_n 1, 1), (56, .laload, 1), (57, .lsub, 1), (58, .lstore 10, 2), (60, .aload_n 0, 1), (61, .getfield 56, 3), (64, .iload_n 3, 1), (65, .laload, 1), (66, .aload_n 0, 1), (67, .getfield 56, 3), (70, .iload_n 1, 1), (71, .laload, 1), (72, .lsub, 1), (73, .lstore 12, 2), (75, .aload_n 0, 1), (76, .getfield 59, 3), (79, .iload_n 3, 1), (80, .laload, 1), (81, .aload_n 0, 1), (82, .getfield 59, 3), (85, .iload_n 1, 1), (86, .laload, 1), (87, .lsub, 1), (88, .lstore 14, 2)]
theorem dkX7_leftOf_0 : ∀ q ∈ tX7_leftOf_0, decode cX7_leftOf q.1 = .ok q.2 := by decide +kernel
def tX7_leftOf_1 : List (Nat × Instr × Nat) := [(90, .lload 6, 2), (92, .lload 14, 2), (94, .lmul, 1), (95, .lload 8, 2), (97, .lload 12, 2), (99, .lmul, 1), (100, .lsub, 1), (101, .aload_n 0, 1), (102, .getfield 148, 3), (105, .lmul, 1), (106, .lload 8, 2), (108, .lload 10, 2), (110, .lmul, 1), (111, .lload 4, 2), (113, .lload 14, 2), (115, .lmul, 1), (116, .lsub, 1), (117, .aload_n 0, 1), (118, .getfield 152, 3), (121, .lmul, 1), (122, .ladd, 1), (123, .lload 4, 2), (125, .lload 12, 2), (127, .lmul, 1), (128, .lload 6, 2), (130, .lload 10, 2), (132, .lmul, 1), (133, .lsub, 1), (134, .aload_n 0, 1), (135, .getfield 155, 3), (138, .lmul, 1), (139, .ladd, 1), (140, .lreturn, 1)]
theorem dkX7_leftOf_1 : ∀ q ∈ tX7_leftOf_1, decode cX7_leftOf q.1 = .ok q.2 := by decide +kernel
def tX7_leftOf : List (Nat × Instr × Nat) := tX7_leftOf_0 ++ (tX7_leftOf_1)
def mX7_leftOf : mM := (yX7_leftOf, 7, cX7_leftOf, 16, (some .long), tX7_leftOf, (0, 0, 0, 0), 3, false)
theorem odX7_leftOf : mOd mX7_leftOf := List.forall_mem_append.mpr ⟨dkX7_leftOf_0, dkX7_leftOf_1⟩
set_option maxRecDepth 100000 in
theorem okX7_leftOf : mOK mX7_leftOf := ⟨by decide +kernel, List.mem_append_right _ (List.mem_of_getElem? (i := 970) rfl), rfl, ⟨by decide +kernel, by decide +kernel⟩, by decide +kernel, fun h => absurd h (by decide)⟩
def tX7_apartOf_0 : List (Nat × Instr × Nat) := [(0, .aload_n 0, 1), (1, .getfield 52, 3), (4, .iload_n 1, 1), (5, .laload, 1), (6, .aload_n 0, 1), (7, .getfield 52, 3), (10, .iload_n 2, 1), (11, .laload, 1), (12, .lsub, 1), (13, .aload_n 0, 1), (14, .getfield 52, 3), (17, .iload_n 1, 1), (18, .laload, 1), (19, .aload_n 0, 1), (20, .getfield 52, 3), (23, .iload_n 2, 1), (24, .laload, 1), (25, .lsub, 1), (26, .lmul, 1), (27, .aload_n 0, 1), (28, .getfield 56, 3), (31, .iload_n 1, 1), (32, .laload, 1), (33, .aload_n 0, 1), (34, .getfield 56, 3), (37, .iload_n 2, 1), (38, .laload, 1), (39, .lsub, 1), (40, .aload_n 0, 1), (41, .getfield 56, 3), (44, .iload_n 1, 1), (45, .laload, 1), (46, .aload_n 0, 1), (47, .getfield 56, 3), (50, .iload_n 2, 1), (51, .laload, 1), (52, .lsub, 1), (53, .lmul, 1), (54, .ladd, 1), (55, .aload_n 0, 1), (56, .getfield 59, 3), (59, .iload_n 1, 1), (60, .laload, 1), (61, .aload_n 0, 1), (62, .getfield 59, 3), (65, .iload_n 2, 1), (66, .laload, 1), (67, .lsub, 1), (68, .aload_n 0, 1), (69, .getfield 59, 3), (72, .iload_n 1, 1), (73, .laload, 1), (74, .aload_n 0, 1), (75, .getfield 59, 3), (78, .iload_n 2, 1), (79, .laload, 1), (80, .lsub, 1), (81, .lmul, 1), (82, .ladd, 1), (83, .lreturn, 1)]
theorem dkX7_apartOf_0 : ∀ q ∈ tX7_apartOf_0, decode cX7_apartOf q.1 = .ok q.2 := by decide +kernel
def tX7_apartOf : List (Nat × Instr × Nat) := tX7_apartOf_0
def mX7_apartOf : mM := (yX7_apartOf, 7, cX7_apartOf, 3, (some .long), tX7_apartOf, (0, 0, 0, 0), 2, false)
theorem odX7_apartOf : mOd mX7_apartOf := dkX7_apartOf_0
set_option maxRecDepth 100000 in
theorem okX7_apartOf : mOK mX7_apartOf := ⟨by decide +kernel, List.mem_append_right _ (List.mem_of_getElem? (i := 974) rfl), rfl, ⟨by decide +kernel, by decide +kernel⟩, by decide +kernel, fun h => absurd h (by decide)⟩
def tX7_rings_0 : List (Nat × Instr × Nat) := [(0, .aload_n 0, 1), (1, .iconst 0, 1), (2, .putfield 162, 3), (5, .aload_n 0, 1), (6, .getfield 66, 3), (9, .iconst 0, 1), (10, .iaload, 1), (11, .istore_n 1, 1), (12, .aload_n 0, 1), (13, .getfield 69, 3), (16, .aload_n 0, 1), (17, .getfield 162, 3), (20, .iload_n 1, 1), (21, .iastore, 1), (22, .aload_n 0, 1), (23, .dup, 1), (24, .getfield 162, 3), (27, .iconst 1, 1), (28, .iadd, 1), (29, .putfield 162, 3), (32, .iconst (-1), 1), (33, .istore_n 2, 1), (34, .iconst 0, 1), (35, .istore_n 3, 1), (36, .iload_n 3, 1), (37, .aload_n 0, 1), (38, .getfield 165, 3), (41, .if_icmp .ge 81, 3), (44, .aload_n 0, 1), (45, .getfield 66, 3), (48, .iload_n 3, 1), (49, .iaload, 1), (50, .istore 4, 2), (52, .iload 4, 2), (54, .iload_n 1, 1), (55, .if_icmp .ne 6, 3), (58, .goto 58, 3), (61, .iload_n 2, 1), (62, .iconst (-1), 1), (63, .if_icmp .ne 9, 3), (66, .ldc2_w 168, 3), (69, .goto 11, 3), (72, .aload_n 0, 1), (73, .iload_n 1, 1), (74, .iload_n 2, 1), (75, .iload 4, 2), (77, .invokevirtual 170, 3), (80, .lstore 5, 2), (82, .lload 5, 2), (84, .lconst 0, 1), (85, .lcmp, 1), (86, .ifCond .lt 27, 3), (89, .lload 5, 2), (91, .lconst 0, 1), (92, .lcmp, 1), (93, .ifCond .ne 23, 3), (96, .aload_n 0, 1), (97, .iload_n 1, 1), (98, .iload 4, 2), (100, .invokevirtual 174, 3)]
theorem dkX7_rings_0 : ∀ q ∈ tX7_rings_0, decode cX7_rings q.1 = .ok q.2 := by decide +kernel
def tX7_rings_1 : List (Nat × Instr × Nat) := [(103, .aload_n 0, 1), (104, .iload_n 1, 1), (105, .iload_n 2, 1), (106, .invokevirtual 174, 3), (109, .lcmp, 1), (110, .ifCond .le 6, 3), (113, .iload 4, 2), (115, .istore_n 2, 1), (116, .iinc 3 1, 3), (119, .goto (-83), 3), (122, .iload_n 2, 1), (123, .istore_n 1, 1), (124, .iload_n 1, 1), (125, .aload_n 0, 1), (126, .getfield 66, 3), (129, .iconst 0, 1), (130, .iaload, 1), (131, .if_icmp .eq 8, 3), (134, .iload_n 1, 1), (135, .iconst (-1), 1), (136, .if_icmp .ne (-124), 3), (139, .return_, 1)]
theorem dkX7_rings_1 : ∀ q ∈ tX7_rings_1, decode cX7_rings q.1 = .ok q.2 := by decide +kernel
def tX7_rings : List (Nat × Instr × Nat) := tX7_rings_0 ++ (tX7_rings_1)
def mX7_rings : mM := (yX7_rings, 7, cX7_rings, 7, none, tX7_rings, (1, 35, 0, 0), 0, false)
theorem odX7_rings : mOd mX7_rings := List.forall_mem_append.mpr ⟨dkX7_rings_0, dkX7_rings_1⟩
set_option maxRecDepth 100000 in
theorem okX7_rings : mOK mX7_rings := ⟨by decide +kernel, List.mem_append_right _ (List.mem_of_getElem? (i := 965) rfl), rfl, ⟨by decide +kernel, by decide +kernel⟩, by decide +kernel, fun h => absurd h (by decide)⟩
def tX7_kindOfHeap_0 : List (Nat × Instr × Nat) := [(0, .aload_n 0, 1), (1, .getfield 145, 3), (4, .iconst 3, 1), (5, .if_icmp .ge 8, 3), (8, .aload_n 0, 1), (9, .getfield 145, 3), (12, .ireturn, 1), (13, .iconst 2, 1), (14, .istore_n 1, 1), (15, .aload_n 0, 1), (16, .iconst 0, 1), (17, .iconst 1, 1), (18, .iconst 2, 1), (19, .invokevirtual 178, 3), (22, .aload_n 0, 1), (23, .invokevirtual 182, 3), (26, .ifCond .eq 26, 3), (29, .iload_n 1, 1), (30, .iconst 1, 1), (31, .iadd, 1), (32, .aload_n 0, 1), (33, .getfield 145, 3), (36, .if_icmp .ge 16, 3), (39, .iinc 1 1, 3), (42, .aload_n 0, 1), (43, .iconst 0, 1), (44, .iconst 1, 1), (45, .iload_n 1, 1), (46, .invokevirtual 178, 3), (49, .goto (-27), 3), (52, .aload_n 0, 1), (53, .invokevirtual 182, 3), (56, .ifCond .eq 5, 3), (59, .iconst 2, 1), (60, .ireturn, 1), (61, .aload_n 0, 1), (62, .invokevirtual 186, 3), (65, .iconst 0, 1), (66, .istore_n 2, 1), (67, .iload_n 2, 1), (68, .aload_n 0, 1), (69, .getfield 145, 3), (72, .if_icmp .ge 25, 3), (75, .aload_n 0, 1), (76, .iload_n 2, 1), (77, .invokevirtual 189, 3), (80, .aload_n 0, 1), (81, .iconst 0, 1), (82, .invokevirtual 189, 3), (85, .lcmp, 1), (86, .ifCond .eq 5, 3), (89, .iconst 4, 1), (90, .ireturn, 1), (91, .iinc 2 1, 3), (94, .goto (-27), 3), (97, .iconst 3, 1), (98, .ireturn, 1)]
theorem dkX7_kindOfHeap_0 : ∀ q ∈ tX7_kindOfHeap_0, decode cX7_kindOfHeap q.1 = .ok q.2 := by decide +kernel
def tX7_kindOfHeap : List (Nat × Instr × Nat) := tX7_kindOfHeap_0
def mX7_kindOfHeap : mM := (yX7_kindOfHeap, 7, cX7_kindOfHeap, 3, (some .int), tX7_kindOfHeap, (2, 51, 0, 0), 0, false)
theorem odX7_kindOfHeap : mOd mX7_kindOfHeap := dkX7_kindOfHeap_0
set_option maxRecDepth 100000 in
theorem okX7_kindOfHeap : mOK mX7_kindOfHeap := ⟨by decide +kernel, List.mem_append_right _ (List.mem_of_getElem? (i := 938) rfl), rfl, ⟨by decide +kernel, by decide +kernel⟩, by decide +kernel, fun h => absurd h (by decide)⟩
def tX7_isKnown_0 : List (Nat × Instr × Nat) := [(0, .bipush 64, 2), (2, .iload_n 1, 1), (3, .imul, 1), (4, .istore 4, 2), (6, .iload 4, 2), (8, .bipush 64, 2), (10, .iload_n 1, 1), (11, .imul, 1), (12, .aload_n 0, 1), (13, .getfield 72, 3), (16, .iload_n 1, 1), (17, .iaload, 1), (18, .iadd, 1), (19, .if_icmp .ge 68, 3), (22, .aload_n 0, 1), (23, .getfield 75, 3), (26, .iload 4, 2), (28, .laload, 1), (29, .aload_n 0, 1), (30, .getfield 148, 3), (33, .lcmp, 1), (34, .ifCond .ne 47, 3), (37, .aload_n 0, 1), (38, .getfield 78, 3), (41, .iload 4, 2), (43, .laload, 1), (44, .aload_n 0, 1), (45, .getfield 152, 3), (48, .lcmp, 1), (49, .ifCond .ne 32, 3), (52, .aload_n 0, 1), (53, .getfield 81, 3), (56, .iload 4, 2), (58, .laload, 1), (59, .aload_n 0, 1), (60, .getfield 155, 3), (63, .lcmp, 1), (64, .ifCond .ne 17, 3), (67, .aload_n 0, 1), (68, .getfield 84, 3), (71, .iload 4, 2), (73, .laload, 1), (74, .lload_n 2, 1), (75, .lcmp, 1), (76, .ifCond .ne 5, 3), (79, .iconst 1, 1), (80, .ireturn, 1), (81, .iinc 4 1, 3), (84, .goto (-78), 3), (87, .iconst 0, 1), (88, .ireturn, 1)]
theorem dkX7_isKnown_0 : ∀ q ∈ tX7_isKnown_0, decode cX7_isKnown q.1 = .ok q.2 := by decide +kernel
def tX7_isKnown : List (Nat × Instr × Nat) := tX7_isKnown_0
def mX7_isKnown : mM := (yX7_isKnown, 7, cX7_isKnown, 5, (some .boolean), tX7_isKnown, (0, 0, 0, 0), 2, false)
theorem odX7_isKnown : mOd mX7_isKnown := dkX7_isKnown_0
set_option maxRecDepth 100000 in
theorem okX7_isKnown : mOK mX7_isKnown := ⟨by decide +kernel, List.mem_append_right _ (List.mem_of_getElem? (i := 994) rfl), rfl, ⟨by decide +kernel, by decide +kernel⟩, by decide +kernel, fun h => absurd h (by decide)⟩
def tX7_isAhead_0 : List (Nat × Instr × Nat) := [(0, .aload_n 0, 1), (1, .getfield 75, 3), (4, .iload_n 1, 1), (5, .laload, 1), (6, .aload_n 0, 1), (7, .getfield 148, 3), (10, .lcmp, 1), (11, .ifCond .eq 23, 3), (14, .aload_n 0, 1), (15, .getfield 75, 3), (18, .iload_n 1, 1), (19, .laload, 1), (20, .aload_n 0, 1), (21, .getfield 148, 3), (24, .lcmp, 1), (25, .ifCond .ge 7, 3), (28, .iconst 1, 1), (29, .goto 4, 3), (32, .iconst 0, 1), (33, .ireturn, 1), (34, .aload_n 0, 1), (35, .getfield 78, 3), (38, .iload_n 1, 1), (39, .laload, 1), (40, .aload_n 0, 1), (41, .getfield 152, 3), (44, .lcmp, 1), (45, .ifCond .eq 23, 3), (48, .aload_n 0, 1), (49, .getfield 78, 3), (52, .iload_n 1, 1), (53, .laload, 1), (54, .aload_n 0, 1), (55, .getfield 152, 3), (58, .lcmp, 1), (59, .ifCond .ge 7, 3), (62, .iconst 1, 1), (63, .goto 4, 3), (66, .iconst 0, 1), (67, .ireturn, 1), (68, .aload_n 0, 1), (69, .getfield 81, 3), (72, .iload_n 1, 1), (73, .laload, 1), (74, .aload_n 0, 1), (75, .getfield 155, 3), (78, .lcmp, 1), (79, .ifCond .eq 23, 3), (82, .aload_n 0, 1), (83, .getfield 81, 3), (86, .iload_n 1, 1), (87, .laload, 1), (88, .aload_n 0, 1), (89, .getfield 155, 3), (92, .lcmp, 1), (93, .ifCond .ge 7, 3), (96, .iconst 1, 1), (97, .goto 4, 3), (100, .iconst 0, 1), (101, .ireturn, 1)]
theorem dkX7_isAhead_0 : ∀ q ∈ tX7_isAhead_0, decode cX7_isAhead q.1 = .ok q.2 := by decide +kernel
def tX7_isAhead_1 : List (Nat × Instr × Nat) := [(102, .aload_n 0, 1), (103, .getfield 84, 3), (106, .iload_n 1, 1), (107, .laload, 1), (108, .lload_n 2, 1), (109, .lcmp, 1), (110, .ifCond .ge 7, 3), (113, .iconst 1, 1), (114, .goto 4, 3), (117, .iconst 0, 1), (118, .ireturn, 1)]
theorem dkX7_isAhead_1 : ∀ q ∈ tX7_isAhead_1, decode cX7_isAhead q.1 = .ok q.2 := by decide +kernel
def tX7_isAhead : List (Nat × Instr × Nat) := tX7_isAhead_0 ++ (tX7_isAhead_1)
def mX7_isAhead : mM := (yX7_isAhead, 7, cX7_isAhead, 4, (some .boolean), tX7_isAhead, (0, 0, 0, 0), 2, false)
theorem odX7_isAhead : mOd mX7_isAhead := List.forall_mem_append.mpr ⟨dkX7_isAhead_0, dkX7_isAhead_1⟩
set_option maxRecDepth 100000 in
theorem okX7_isAhead : mOK mX7_isAhead := ⟨by decide +kernel, List.mem_append_right _ (List.mem_of_getElem? (i := 982) rfl), rfl, ⟨by decide +kernel, by decide +kernel⟩, by decide +kernel, fun h => absurd h (by decide)⟩
def tX7_faceHere_0 : List (Nat × Instr × Nat) := [(0, .bipush 64, 2), (2, .iload_n 1, 1), (3, .imul, 1), (4, .istore 4, 2), (6, .iload 4, 2), (8, .bipush 64, 2), (10, .iload_n 1, 1), (11, .imul, 1), (12, .aload_n 0, 1), (13, .getfield 72, 3), (16, .iload_n 1, 1), (17, .iaload, 1), (18, .iadd, 1), (19, .if_icmp .ge 19, 3), (22, .aload_n 0, 1), (23, .iload 4, 2), (25, .lload_n 2, 1), (26, .invokevirtual 193, 3), (29, .ifCond .eq 9, 3), (32, .iinc 4 1, 3), (35, .goto (-29), 3), (38, .bipush 64, 2), (40, .iload_n 1, 1), (41, .imul, 1), (42, .aload_n 0, 1), (43, .getfield 72, 3), (46, .iload_n 1, 1), (47, .iaload, 1), (48, .iadd, 1), (49, .istore 5, 2), (51, .iload 5, 2), (53, .iload 4, 2), (55, .if_icmp .le 134, 3), (58, .aload_n 0, 1), (59, .getfield 75, 3), (62, .iload 5, 2), (64, .aload_n 0, 1), (65, .getfield 75, 3), (68, .iload 5, 2), (70, .iconst 1, 1), (71, .isub, 1), (72, .laload, 1), (73, .lastore, 1), (74, .aload_n 0, 1), (75, .getfield 78, 3), (78, .iload 5, 2), (80, .aload_n 0, 1), (81, .getfield 78, 3), (84, .iload 5, 2), (86, .iconst 1, 1), (87, .isub, 1), (88, .laload, 1), (89, .lastore, 1), (90, .aload_n 0, 1), (91, .getfield 81, 3), (94, .iload 5, 2), (96, .aload_n 0, 1), (97, .getfield 81, 3), (100, .iload 5, 2), (102, .iconst 1, 1)]
theorem dkX7_faceHere_0 : ∀ q ∈ tX7_faceHere_0, decode cX7_faceHere q.1 = .ok q.2 := by decide +kernel
def tX7_faceHere_1 : List (Nat × Instr × Nat) := [(103, .isub, 1), (104, .laload, 1), (105, .lastore, 1), (106, .aload_n 0, 1), (107, .getfield 84, 3), (110, .iload 5, 2), (112, .aload_n 0, 1), (113, .getfield 84, 3), (116, .iload 5, 2), (118, .iconst 1, 1), (119, .isub, 1), (120, .laload, 1), (121, .lastore, 1), (122, .aload_n 0, 1), (123, .getfield 87, 3), (126, .iload 5, 2), (128, .aload_n 0, 1), (129, .getfield 87, 3), (132, .iload 5, 2), (134, .iconst 1, 1), (135, .isub, 1), (136, .iaload, 1), (137, .iastore, 1), (138, .iconst 0, 1), (139, .istore 6, 2), (141, .iload 6, 2), (143, .bipush 25, 2), (145, .if_icmp .ge 38, 3), (148, .aload_n 0, 1), (149, .getfield 90, 3), (152, .bipush 25, 2), (154, .iload 5, 2), (156, .imul, 1), (157, .iload 6, 2), (159, .iadd, 1), (160, .aload_n 0, 1), (161, .getfield 90, 3), (164, .bipush 25, 2), (166, .iload 5, 2), (168, .imul, 1), (169, .bipush 25, 2), (171, .isub, 1), (172, .iload 6, 2), (174, .iadd, 1), (175, .iaload, 1), (176, .iastore, 1), (177, .iinc 6 1, 3), (180, .goto (-39), 3), (183, .iinc 5 (-1), 3), (186, .goto (-135), 3), (189, .aload_n 0, 1), (190, .getfield 75, 3), (193, .iload 4, 2), (195, .aload_n 0, 1), (196, .getfield 148, 3), (199, .lastore, 1), (200, .aload_n 0, 1), (201, .getfield 78, 3), (204, .iload 4, 2), (206, .aload_n 0, 1)]
theorem dkX7_faceHere_1 : ∀ q ∈ tX7_faceHere_1, decode cX7_faceHere q.1 = .ok q.2 := by decide +kernel
def tX7_faceHere_2 : List (Nat × Instr × Nat) := [(207, .getfield 152, 3), (210, .lastore, 1), (211, .aload_n 0, 1), (212, .getfield 81, 3), (215, .iload 4, 2), (217, .aload_n 0, 1), (218, .getfield 155, 3), (221, .lastore, 1), (222, .aload_n 0, 1), (223, .getfield 84, 3), (226, .iload 4, 2), (228, .lload_n 2, 1), (229, .lastore, 1), (230, .aload_n 0, 1), (231, .getfield 87, 3), (234, .iload 4, 2), (236, .aload_n 0, 1), (237, .getfield 162, 3), (240, .iastore, 1), (241, .iconst 0, 1), (242, .istore 5, 2), (244, .iload 5, 2), (246, .aload_n 0, 1), (247, .getfield 162, 3), (250, .if_icmp .ge 29, 3), (253, .aload_n 0, 1), (254, .getfield 90, 3), (257, .bipush 25, 2), (259, .iload 4, 2), (261, .imul, 1), (262, .iload 5, 2), (264, .iadd, 1), (265, .aload_n 0, 1), (266, .getfield 69, 3), (269, .iload 5, 2), (271, .iaload, 1), (272, .iastore, 1), (273, .iinc 5 1, 3), (276, .goto (-32), 3), (279, .aload_n 0, 1), (280, .getfield 72, 3), (283, .iload_n 1, 1), (284, .dup2, 1), (285, .iaload, 1), (286, .iconst 1, 1), (287, .iadd, 1), (288, .iastore, 1), (289, .return_, 1)]
theorem dkX7_faceHere_2 : ∀ q ∈ tX7_faceHere_2, decode cX7_faceHere q.1 = .ok q.2 := by decide +kernel
def tX7_faceHere : List (Nat × Instr × Nat) := tX7_faceHere_0 ++ (tX7_faceHere_1 ++ (tX7_faceHere_2))
def mX7_faceHere : mM := (yX7_faceHere, 7, cX7_faceHere, 7, none, tX7_faceHere, (1, 23, 0, 0), 2, false)
theorem odX7_faceHere : mOd mX7_faceHere := List.forall_mem_append.mpr ⟨dkX7_faceHere_0, List.forall_mem_append.mpr ⟨dkX7_faceHere_1, dkX7_faceHere_2⟩⟩
set_option maxRecDepth 100000 in
theorem okX7_faceHere : mOK mX7_faceHere := ⟨by decide +kernel, List.mem_append_right _ (List.mem_of_getElem? (i := 978) rfl), rfl, ⟨by decide +kernel, by decide +kernel⟩, by decide +kernel, fun h => absurd h (by decide)⟩
end
section
def tX7_turnsAbout_0 : List (Nat × Instr × Nat) := [(0, .aload_n 0, 1), (1, .aload_n 0, 1), (2, .getfield 148, 3), (5, .lneg, 1), (6, .putfield 148, 3), (9, .aload_n 0, 1), (10, .aload_n 0, 1), (11, .getfield 152, 3), (14, .lneg, 1), (15, .putfield 152, 3), (18, .aload_n 0, 1), (19, .aload_n 0, 1), (20, .getfield 155, 3), (23, .lneg, 1), (24, .putfield 155, 3), (27, .return_, 1)]
theorem dkX7_turnsAbout_0 : ∀ q ∈ tX7_turnsAbout_0, decode cX7_turnsAbout q.1 = .ok q.2 := by decide +kernel
def tX7_turnsAbout : List (Nat × Instr × Nat) := tX7_turnsAbout_0
def mX7_turnsAbout : mM := (yX7_turnsAbout, 7, cX7_turnsAbout, 1, none, tX7_turnsAbout, (0, 0, 0, 0), 0, false)
theorem odX7_turnsAbout : mOd mX7_turnsAbout := dkX7_turnsAbout_0
set_option maxRecDepth 100000 in
theorem okX7_turnsAbout : mOK mX7_turnsAbout := ⟨by decide +kernel, List.mem_append_right _ (List.mem_of_getElem? (i := 986) rfl), rfl, ⟨by decide +kernel, by decide +kernel⟩, by decide +kernel, fun h => absurd h (by decide)⟩
def tX7_lists_0 : List (Nat × Instr × Nat) := [(0, .aload_n 0, 1), (1, .iconst 0, 1), (2, .putfield 165, 3), (5, .iconst 0, 1), (6, .istore_n 3, 1), (7, .iload_n 3, 1), (8, .aload_n 0, 1), (9, .getfield 145, 3), (12, .if_icmp .ge 55, 3), (15, .aload_n 0, 1), (16, .iload_n 3, 1), (17, .invokevirtual 189, 3), (20, .lstore 4, 2), (22, .lload 4, 2), (24, .lload_n 1, 1), (25, .lcmp, 1), (26, .ifCond .le 5, 3), (29, .iconst 0, 1), (30, .ireturn, 1), (31, .lload 4, 2), (33, .lload_n 1, 1), (34, .lcmp, 1), (35, .ifCond .eq 6, 3), (38, .goto 23, 3), (41, .aload_n 0, 1), (42, .getfield 66, 3), (45, .aload_n 0, 1), (46, .getfield 165, 3), (49, .iload_n 3, 1), (50, .iastore, 1), (51, .aload_n 0, 1), (52, .dup, 1), (53, .getfield 165, 3), (56, .iconst 1, 1), (57, .iadd, 1), (58, .putfield 165, 3), (61, .iinc 3 1, 3), (64, .goto (-57), 3), (67, .iconst 1, 1), (68, .ireturn, 1)]
theorem dkX7_lists_0 : ∀ q ∈ tX7_lists_0, decode cX7_lists q.1 = .ok q.2 := by decide +kernel
def tX7_lists : List (Nat × Instr × Nat) := tX7_lists_0
def mX7_lists : mM := (yX7_lists, 7, cX7_lists, 6, (some .boolean), tX7_lists, (1, 21, 0, 0), 1, false)
theorem odX7_lists : mOd mX7_lists := dkX7_lists_0
set_option maxRecDepth 100000 in
theorem okX7_lists : mOK mX7_lists := ⟨by decide +kernel, List.mem_append_right _ (List.mem_of_getElem? (i := 961) rfl), rfl, ⟨by decide +kernel, by decide +kernel⟩, by decide +kernel, fun h => absurd h (by decide)⟩
def tX7_hulls_0 : List (Nat × Instr × Nat) := [(0, .aload_n 0, 1), (1, .getfield 72, 3), (4, .iload_n 1, 1), (5, .iconst 0, 1), (6, .iastore, 1), (7, .aload_n 0, 1), (8, .invokevirtual 197, 3), (11, .istore_n 2, 1), (12, .iconst 0, 1), (13, .istore_n 3, 1), (14, .iload_n 3, 1), (15, .aload_n 0, 1), (16, .getfield 145, 3), (19, .if_icmp .ge 44, 3), (22, .aload_n 0, 1), (23, .getfield 62, 3), (26, .iload_n 3, 1), (27, .iload_n 2, 1), (28, .iconst 2, 1), (29, .if_icmp .lt 22, 3), (32, .iload_n 2, 1), (33, .iconst 2, 1), (34, .if_icmp .ne 21, 3), (37, .iload_n 3, 1), (38, .ifCond .eq 13, 3), (41, .iload_n 3, 1), (42, .aload_n 0, 1), (43, .getfield 145, 3), (46, .iconst 1, 1), (47, .isub, 1), (48, .if_icmp .ne 7, 3), (51, .iconst 1, 1), (52, .goto 4, 3), (55, .iconst 0, 1), (56, .bastore, 1), (57, .iinc 3 1, 3), (60, .goto (-46), 3), (63, .iload_n 2, 1), (64, .iconst 3, 1), (65, .if_icmp .ne 84, 3), (68, .iconst 0, 1), (69, .istore_n 3, 1), (70, .iload_n 3, 1), (71, .iconst 2, 1), (72, .if_icmp .ge 77, 3), (75, .aload_n 0, 1), (76, .aload_n 0, 1), (77, .iconst 0, 1), (78, .invokevirtual 189, 3), (81, .invokevirtual 201, 3), (84, .pop, 1), (85, .aload_n 0, 1), (86, .invokevirtual 205, 3), (89, .iconst 0, 1), (90, .istore 4, 2), (92, .iload 4, 2), (94, .aload_n 0, 1), (95, .getfield 162, 3), (98, .if_icmp .ge 22, 3), (101, .aload_n 0, 1)]
theorem dkX7_hulls_0 : ∀ q ∈ tX7_hulls_0, decode cX7_hulls q.1 = .ok q.2 := by decide +kernel
def tX7_hulls_1 : List (Nat × Instr × Nat) := [(102, .getfield 62, 3), (105, .aload_n 0, 1), (106, .getfield 69, 3), (109, .iload 4, 2), (111, .iaload, 1), (112, .iconst 1, 1), (113, .bastore, 1), (114, .iinc 4 1, 3), (117, .goto (-25), 3), (120, .aload_n 0, 1), (121, .getfield 162, 3), (124, .bipush 24, 2), (126, .if_icmp .gt 13, 3), (129, .aload_n 0, 1), (130, .iload_n 1, 1), (131, .aload_n 0, 1), (132, .iconst 0, 1), (133, .invokevirtual 189, 3), (136, .invokevirtual 208, 3), (139, .aload_n 0, 1), (140, .invokevirtual 212, 3), (143, .iinc 3 1, 3), (146, .goto (-76), 3), (149, .iload_n 2, 1), (150, .iconst 4, 1), (151, .if_icmp .ne 8, 3), (154, .aload_n 0, 1), (155, .iload_n 1, 1), (156, .invokevirtual 215, 3), (159, .iload_n 2, 1), (160, .ireturn, 1)]
theorem dkX7_hulls_1 : ∀ q ∈ tX7_hulls_1, decode cX7_hulls q.1 = .ok q.2 := by decide +kernel
def tX7_hulls : List (Nat × Instr × Nat) := tX7_hulls_0 ++ (tX7_hulls_1)
def mX7_hulls : mM := (yX7_hulls, 7, cX7_hulls, 5, (some .int), tX7_hulls, (3, 89, 0, 0), 1, false)
theorem odX7_hulls : mOd mX7_hulls := List.forall_mem_append.mpr ⟨dkX7_hulls_0, dkX7_hulls_1⟩
set_option maxRecDepth 100000 in
theorem okX7_hulls : mOK mX7_hulls := ⟨by decide +kernel, List.mem_append_right _ (List.mem_of_getElem? (i := 934) rfl), rfl, ⟨by decide +kernel, by decide +kernel⟩, by decide +kernel, fun h => absurd h (by decide)⟩
def tX7_planes_0 : List (Nat × Instr × Nat) := [(0, .iconst 0, 1), (1, .istore_n 2, 1), (2, .iload_n 2, 1), (3, .aload_n 0, 1), (4, .getfield 145, 3), (7, .if_icmp .ge 156, 3), (10, .iload_n 2, 1), (11, .iconst 1, 1), (12, .iadd, 1), (13, .istore_n 3, 1), (14, .iload_n 3, 1), (15, .aload_n 0, 1), (16, .getfield 145, 3), (19, .if_icmp .ge 138, 3), (22, .iload_n 3, 1), (23, .iconst 1, 1), (24, .iadd, 1), (25, .istore 4, 2), (27, .iload 4, 2), (29, .aload_n 0, 1), (30, .getfield 145, 3), (33, .if_icmp .ge 118, 3), (36, .aload_n 0, 1), (37, .iload_n 2, 1), (38, .iload_n 3, 1), (39, .iload 4, 2), (41, .invokevirtual 178, 3), (44, .aload_n 0, 1), (45, .invokevirtual 182, 3), (48, .ifCond .eq 6, 3), (51, .goto 94, 3), (54, .aload_n 0, 1), (55, .invokevirtual 186, 3), (58, .iconst 0, 1), (59, .istore 5, 2), (61, .iload 5, 2), (63, .iconst 2, 1), (64, .if_icmp .ge 81, 3), (67, .aload_n 0, 1), (68, .iload_n 2, 1), (69, .invokevirtual 189, 3), (72, .lstore 6, 2), (74, .aload_n 0, 1), (75, .iload_n 1, 1), (76, .lload 6, 2), (78, .invokevirtual 219, 3), (81, .ifCond .ne 54, 3), (84, .aload_n 0, 1), (85, .lload 6, 2), (87, .invokevirtual 201, 3), (90, .ifCond .eq 45, 3), (93, .aload_n 0, 1), (94, .invokevirtual 205, 3), (97, .iconst 0, 1), (98, .istore 8, 2), (100, .iload 8, 2), (102, .aload_n 0, 1), (103, .getfield 162, 3), (106, .if_icmp .ge 22, 3), (109, .aload_n 0, 1)]
theorem dkX7_planes_0 : ∀ q ∈ tX7_planes_0, decode cX7_planes q.1 = .ok q.2 := by decide +kernel
def tX7_planes_1 : List (Nat × Instr × Nat) := [(110, .getfield 62, 3), (113, .aload_n 0, 1), (114, .getfield 69, 3), (117, .iload 8, 2), (119, .iaload, 1), (120, .iconst 1, 1), (121, .bastore, 1), (122, .iinc 8 1, 3), (125, .goto (-25), 3), (128, .aload_n 0, 1), (129, .iload_n 1, 1), (130, .lload 6, 2), (132, .invokevirtual 208, 3), (135, .aload_n 0, 1), (136, .invokevirtual 212, 3), (139, .iinc 5 1, 3), (142, .goto (-81), 3), (145, .iinc 4 1, 3), (148, .goto (-121), 3), (151, .iinc 3 1, 3), (154, .goto (-140), 3), (157, .iinc 2 1, 3), (160, .goto (-158), 3), (163, .return_, 1)]
theorem dkX7_planes_1 : ∀ q ∈ tX7_planes_1, decode cX7_planes q.1 = .ok q.2 := by decide +kernel
def tX7_planes : List (Nat × Instr × Nat) := tX7_planes_0 ++ (tX7_planes_1)
def mX7_planes : mM := (yX7_planes, 7, cX7_planes, 9, none, tX7_planes, (2, 61, 0, 0), 1, false)
theorem odX7_planes : mOd mX7_planes := List.forall_mem_append.mpr ⟨dkX7_planes_0, dkX7_planes_1⟩
set_option maxRecDepth 100000 in
theorem okX7_planes : mOK mX7_planes := ⟨by decide +kernel, List.mem_append_right _ (List.mem_of_getElem? (i := 990) rfl), rfl, ⟨by decide +kernel, by decide +kernel⟩, by decide +kernel, fun h => absurd h (by decide)⟩
def tX7_loads_0 : List (Nat × Instr × Nat) := [(0, .aload_n 0, 1), (1, .iconst 0, 1), (2, .putfield 145, 3), (5, .iconst 0, 1), (6, .istore_n 2, 1), (7, .iload_n 2, 1), (8, .aload_n 0, 1), (9, .getfield 22, 3), (12, .iload_n 1, 1), (13, .iaload, 1), (14, .if_icmp .ge 49, 3), (17, .aload_n 0, 1), (18, .aload_n 0, 1), (19, .getfield 28, 3), (22, .bipush 24, 2), (24, .iload_n 1, 1), (25, .imul, 1), (26, .iload_n 2, 1), (27, .iadd, 1), (28, .iaload, 1), (29, .i2l, 1), (30, .aload_n 0, 1), (31, .getfield 31, 3), (34, .bipush 24, 2), (36, .iload_n 1, 1), (37, .imul, 1), (38, .iload_n 2, 1), (39, .iadd, 1), (40, .iaload, 1), (41, .i2l, 1), (42, .aload_n 0, 1), (43, .getfield 34, 3), (46, .bipush 24, 2), (48, .iload_n 1, 1), (49, .imul, 1), (50, .iload_n 2, 1), (51, .iadd, 1), (52, .iaload, 1), (53, .i2l, 1), (54, .invokevirtual 222, 3), (57, .iinc 2 1, 3), (60, .goto (-53), 3), (63, .return_, 1)]
theorem dkX7_loads_0 : ∀ q ∈ tX7_loads_0, decode cX7_loads q.1 = .ok q.2 := by decide +kernel
def tX7_loads : List (Nat × Instr × Nat) := tX7_loads_0
def mX7_loads : mM := (yX7_loads, 7, cX7_loads, 3, none, tX7_loads, (1, 28, 0, 0), 1, false)
theorem odX7_loads : mOd mX7_loads := dkX7_loads_0
set_option maxRecDepth 100000 in
theorem okX7_loads : mOK mX7_loads := ⟨by decide +kernel, List.mem_append_right _ (List.mem_of_getElem? (i := 1010) rfl), rfl, ⟨by decide +kernel, by decide +kernel⟩, by decide +kernel, fun h => absurd h (by decide)⟩
def tX7_knows_0 : List (Nat × Instr × Nat) := [(0, .aload_n 0, 1), (1, .iload_n 1, 1), (2, .invokevirtual 226, 3), (5, .aload_n 0, 1), (6, .iload_n 2, 1), (7, .invokevirtual 229, 3), (10, .pop, 1), (11, .aload_n 0, 1), (12, .getfield 93, 3), (15, .iload_n 2, 1), (16, .iconst 0, 1), (17, .iastore, 1), (18, .aload_n 0, 1), (19, .getfield 25, 3), (22, .iload_n 1, 1), (23, .iaload, 1), (24, .iconst 2, 1), (25, .if_icmp .ne 50, 3), (28, .aload_n 0, 1), (29, .getfield 96, 3), (32, .bipush 80, 2), (34, .iload_n 2, 1), (35, .imul, 1), (36, .iconst 0, 1), (37, .iastore, 1), (38, .aload_n 0, 1), (39, .getfield 99, 3), (42, .bipush 80, 2), (44, .iload_n 2, 1), (45, .imul, 1), (46, .iconst 1, 1), (47, .iastore, 1), (48, .aload_n 0, 1), (49, .getfield 102, 3), (52, .bipush 80, 2), (54, .iload_n 2, 1), (55, .imul, 1), (56, .iconst (-1), 1), (57, .iastore, 1), (58, .aload_n 0, 1), (59, .getfield 105, 3), (62, .bipush 80, 2), (64, .iload_n 2, 1), (65, .imul, 1), (66, .iconst (-1), 1), (67, .iastore, 1), (68, .aload_n 0, 1), (69, .getfield 93, 3), (72, .iload_n 2, 1), (73, .iconst 1, 1), (74, .iastore, 1), (75, .iconst 0, 1), (76, .istore_n 3, 1), (77, .iload_n 3, 1), (78, .aload_n 0, 1), (79, .getfield 72, 3), (82, .iload_n 2, 1), (83, .iaload, 1), (84, .if_icmp .ge 112, 3), (87, .bipush 64, 2)]
theorem dkX7_knows_0 : ∀ q ∈ tX7_knows_0, decode cX7_knows q.1 = .ok q.2 := by decide +kernel
def tX7_knows_1 : List (Nat × Instr × Nat) := [(89, .iload_n 2, 1), (90, .imul, 1), (91, .iload_n 3, 1), (92, .iadd, 1), (93, .istore 4, 2), (95, .iconst 0, 1), (96, .istore 5, 2), (98, .iload 5, 2), (100, .aload_n 0, 1), (101, .getfield 87, 3), (104, .iload 4, 2), (106, .iaload, 1), (107, .if_icmp .ge 83, 3), (110, .aload_n 0, 1), (111, .getfield 90, 3), (114, .bipush 25, 2), (116, .iload 4, 2), (118, .imul, 1), (119, .iload 5, 2), (121, .iadd, 1), (122, .iaload, 1), (123, .istore 6, 2), (125, .aload_n 0, 1), (126, .getfield 90, 3), (129, .bipush 25, 2), (131, .iload 4, 2), (133, .imul, 1), (134, .iload 5, 2), (136, .iconst 1, 1), (137, .iadd, 1), (138, .aload_n 0, 1), (139, .getfield 87, 3), (142, .iload 4, 2), (144, .iaload, 1), (145, .irem, 1), (146, .iadd, 1), (147, .iaload, 1), (148, .istore 7, 2), (150, .aload_n 0, 1), (151, .iload_n 2, 1), (152, .iload 6, 2), (154, .iload 7, 2), (156, .if_icmp .ge 8, 3), (159, .iload 6, 2), (161, .goto 5, 3), (164, .iload 7, 2), (166, .iload 6, 2), (168, .iload 7, 2), (170, .if_icmp .ge 8, 3), (173, .iload 7, 2), (175, .goto 5, 3), (178, .iload 6, 2), (180, .iload_n 3, 1), (181, .invokevirtual 233, 3), (184, .iinc 5 1, 3), (187, .goto (-89), 3), (190, .iinc 3 1, 3), (193, .goto (-116), 3), (196, .return_, 1)]
theorem dkX7_knows_1 : ∀ q ∈ tX7_knows_1, decode cX7_knows q.1 = .ok q.2 := by decide +kernel
def tX7_knows : List (Nat × Instr × Nat) := tX7_knows_0 ++ (tX7_knows_1)
def mX7_knows : mM := (yX7_knows, 7, cX7_knows, 8, none, tX7_knows, (4, 113, 0, 0), 2, false)
theorem odX7_knows : mOd mX7_knows := List.forall_mem_append.mpr ⟨dkX7_knows_0, dkX7_knows_1⟩
set_option maxRecDepth 100000 in
theorem okX7_knows : mOK mX7_knows := ⟨by decide +kernel, List.mem_append_right _ (List.mem_of_getElem? (i := 1018) rfl), rfl, ⟨by decide +kernel, by decide +kernel⟩, by decide +kernel, fun h => absurd h (by decide)⟩
def tX7_edgeHere_0 : List (Nat × Instr × Nat) := [(0, .bipush 80, 2), (2, .iload_n 1, 1), (3, .imul, 1), (4, .istore 5, 2), (6, .bipush 80, 2), (8, .iload_n 1, 1), (9, .imul, 1), (10, .aload_n 0, 1), (11, .getfield 93, 3), (14, .iload_n 1, 1), (15, .iaload, 1), (16, .iadd, 1), (17, .istore 6, 2), (19, .iload 5, 2), (21, .iload 6, 2), (23, .if_icmp .ge 42, 3), (26, .aload_n 0, 1), (27, .getfield 96, 3), (30, .iload 5, 2), (32, .iaload, 1), (33, .iload_n 2, 1), (34, .if_icmp .lt 25, 3), (37, .aload_n 0, 1), (38, .getfield 96, 3), (41, .iload 5, 2), (43, .iaload, 1), (44, .iload_n 2, 1), (45, .if_icmp .ne 20, 3), (48, .aload_n 0, 1), (49, .getfield 99, 3), (52, .iload 5, 2), (54, .iaload, 1), (55, .iload_n 3, 1), (56, .if_icmp .ge 9, 3), (59, .iinc 5 1, 3), (62, .goto (-43), 3), (65, .iload 5, 2), (67, .iload 6, 2), (69, .if_icmp .ge 35, 3), (72, .aload_n 0, 1), (73, .getfield 96, 3), (76, .iload 5, 2), (78, .iaload, 1), (79, .iload_n 2, 1), (80, .if_icmp .ne 24, 3), (83, .aload_n 0, 1), (84, .getfield 99, 3), (87, .iload 5, 2), (89, .iaload, 1), (90, .iload_n 3, 1), (91, .if_icmp .ne 13, 3), (94, .aload_n 0, 1), (95, .getfield 105, 3), (98, .iload 5, 2), (100, .iload 4, 2), (102, .iastore, 1), (103, .return_, 1), (104, .iload 6, 2), (106, .istore 7, 2), (108, .iload 7, 2)]
theorem dkX7_edgeHere_0 : ∀ q ∈ tX7_edgeHere_0, decode cX7_edgeHere q.1 = .ok q.2 := by decide +kernel
def tX7_edgeHere_1 : List (Nat × Instr × Nat) := [(110, .iload 5, 2), (112, .if_icmp .le 73, 3), (115, .aload_n 0, 1), (116, .getfield 96, 3), (119, .iload 7, 2), (121, .aload_n 0, 1), (122, .getfield 96, 3), (125, .iload 7, 2), (127, .iconst 1, 1), (128, .isub, 1), (129, .iaload, 1), (130, .iastore, 1), (131, .aload_n 0, 1), (132, .getfield 99, 3), (135, .iload 7, 2), (137, .aload_n 0, 1), (138, .getfield 99, 3), (141, .iload 7, 2), (143, .iconst 1, 1), (144, .isub, 1), (145, .iaload, 1), (146, .iastore, 1), (147, .aload_n 0, 1), (148, .getfield 102, 3), (151, .iload 7, 2), (153, .aload_n 0, 1), (154, .getfield 102, 3), (157, .iload 7, 2), (159, .iconst 1, 1), (160, .isub, 1), (161, .iaload, 1), (162, .iastore, 1), (163, .aload_n 0, 1), (164, .getfield 105, 3), (167, .iload 7, 2), (169, .aload_n 0, 1), (170, .getfield 105, 3), (173, .iload 7, 2), (175, .iconst 1, 1), (176, .isub, 1), (177, .iaload, 1), (178, .iastore, 1), (179, .iinc 7 (-1), 3), (182, .goto (-74), 3), (185, .aload_n 0, 1), (186, .getfield 96, 3), (189, .iload 5, 2), (191, .iload_n 2, 1), (192, .iastore, 1), (193, .aload_n 0, 1), (194, .getfield 99, 3), (197, .iload 5, 2), (199, .iload_n 3, 1), (200, .iastore, 1), (201, .aload_n 0, 1), (202, .getfield 102, 3), (205, .iload 5, 2), (207, .iload 4, 2), (209, .iastore, 1), (210, .aload_n 0, 1)]
theorem dkX7_edgeHere_1 : ∀ q ∈ tX7_edgeHere_1, decode cX7_edgeHere q.1 = .ok q.2 := by decide +kernel
def tX7_edgeHere_2 : List (Nat × Instr × Nat) := [(211, .getfield 105, 3), (214, .iload 5, 2), (216, .iload 4, 2), (218, .iastore, 1), (219, .aload_n 0, 1), (220, .getfield 93, 3), (223, .iload_n 1, 1), (224, .dup2, 1), (225, .iaload, 1), (226, .iconst 1, 1), (227, .iadd, 1), (228, .iastore, 1), (229, .return_, 1)]
theorem dkX7_edgeHere_2 : ∀ q ∈ tX7_edgeHere_2, decode cX7_edgeHere q.1 = .ok q.2 := by decide +kernel
def tX7_edgeHere : List (Nat × Instr × Nat) := tX7_edgeHere_0 ++ (tX7_edgeHere_1 ++ (tX7_edgeHere_2))
def mX7_edgeHere : mM := (yX7_edgeHere, 7, cX7_edgeHere, 8, none, tX7_edgeHere, (0, 0, 0, 0), 4, false)
theorem odX7_edgeHere : mOd mX7_edgeHere := List.forall_mem_append.mpr ⟨dkX7_edgeHere_0, List.forall_mem_append.mpr ⟨dkX7_edgeHere_1, dkX7_edgeHere_2⟩⟩
set_option maxRecDepth 100000 in
theorem okX7_edgeHere : mOK mX7_edgeHere := ⟨by decide +kernel, List.mem_append_right _ (List.mem_of_getElem? (i := 1022) rfl), rfl, ⟨by decide +kernel, by decide +kernel⟩, by decide +kernel, fun h => absurd h (by decide)⟩
def tX7_becomes_0 : List (Nat × Instr × Nat) := [(0, .iconst 0, 1), (1, .istore_n 3, 1), (2, .iconst 0, 1), (3, .istore 4, 2), (5, .iload 4, 2), (7, .aload_n 0, 1), (8, .getfield 145, 3), (11, .if_icmp .ge 60, 3), (14, .aload_n 0, 1), (15, .getfield 62, 3), (18, .iload 4, 2), (20, .baload, 1), (21, .ifCond .ne 6, 3), (24, .goto 41, 3), (27, .iinc 3 1, 3), (30, .iload_n 3, 1), (31, .bipush 24, 2), (33, .if_icmp .gt 30, 3), (36, .aload_n 0, 1), (37, .getfield 52, 3), (40, .iload 4, 2), (42, .laload, 1), (43, .aload_n 0, 1), (44, .getfield 56, 3), (47, .iload 4, 2), (49, .laload, 1), (50, .aload_n 0, 1), (51, .getfield 59, 3), (54, .iload 4, 2), (56, .laload, 1), (57, .invokestatic 137, 3), (60, .ifCond .ne 5, 3), (63, .iconst 0, 1), (64, .ireturn, 1), (65, .iinc 4 1, 3), (68, .goto (-63), 3), (71, .aload_n 0, 1), (72, .invokevirtual 237, 3), (75, .iconst 0, 1), (76, .istore_n 3, 1), (77, .iconst 0, 1), (78, .istore 4, 2), (80, .iload 4, 2), (82, .aload_n 0, 1), (83, .getfield 145, 3), (86, .if_icmp .ge 82, 3), (89, .aload_n 0, 1), (90, .getfield 62, 3), (93, .iload 4, 2), (95, .baload, 1), (96, .ifCond .ne 6, 3), (99, .goto 63, 3), (102, .aload_n 0, 1), (103, .getfield 28, 3), (106, .bipush 24, 2), (108, .iload_n 1, 1), (109, .imul, 1), (110, .iload_n 3, 1), (111, .iadd, 1), (112, .aload_n 0, 1)]
theorem dkX7_becomes_0 : ∀ q ∈ tX7_becomes_0, decode cX7_becomes q.1 = .ok q.2 := by decide +kernel
def tX7_becomes_1 : List (Nat × Instr × Nat) := [(113, .getfield 52, 3), (116, .iload 4, 2), (118, .laload, 1), (119, .l2i, 1), (120, .iastore, 1), (121, .aload_n 0, 1), (122, .getfield 31, 3), (125, .bipush 24, 2), (127, .iload_n 1, 1), (128, .imul, 1), (129, .iload_n 3, 1), (130, .iadd, 1), (131, .aload_n 0, 1), (132, .getfield 56, 3), (135, .iload 4, 2), (137, .laload, 1), (138, .l2i, 1), (139, .iastore, 1), (140, .aload_n 0, 1), (141, .getfield 34, 3), (144, .bipush 24, 2), (146, .iload_n 1, 1), (147, .imul, 1), (148, .iload_n 3, 1), (149, .iadd, 1), (150, .aload_n 0, 1), (151, .getfield 59, 3), (154, .iload 4, 2), (156, .laload, 1), (157, .l2i, 1), (158, .iastore, 1), (159, .iinc 3 1, 3), (162, .iinc 4 1, 3), (165, .goto (-85), 3), (168, .aload_n 0, 1), (169, .getfield 22, 3), (172, .iload_n 1, 1), (173, .iload_n 3, 1), (174, .iastore, 1), (175, .aload_n 0, 1), (176, .getfield 25, 3), (179, .iload_n 1, 1), (180, .iload_n 2, 1), (181, .iastore, 1), (182, .iconst 1, 1), (183, .ireturn, 1)]
theorem dkX7_becomes_1 : ∀ q ∈ tX7_becomes_1, decode cX7_becomes q.1 = .ok q.2 := by decide +kernel
def tX7_becomes : List (Nat × Instr × Nat) := tX7_becomes_0 ++ (tX7_becomes_1)
def mX7_becomes : mM := (yX7_becomes, 7, cX7_becomes, 5, (some .boolean), tX7_becomes, (1, 25, 0, 0), 2, false)
theorem odX7_becomes : mOd mX7_becomes := List.forall_mem_append.mpr ⟨dkX7_becomes_0, dkX7_becomes_1⟩
set_option maxRecDepth 100000 in
theorem okX7_becomes : mOK mX7_becomes := ⟨by decide +kernel, List.mem_append_right _ (List.mem_of_getElem? (i := 998) rfl), rfl, ⟨by decide +kernel, by decide +kernel⟩, by decide +kernel, fun h => absurd h (by decide)⟩
def tX7_solid_0 : List (Nat × Instr × Nat) := [(0, .iload_n 1, 1), (1, .invokestatic 133, 3), (4, .ifCond .eq 20, 3), (7, .iload_n 2, 1), (8, .invokestatic 133, 3), (11, .ifCond .eq 13, 3), (14, .aload_n 0, 1), (15, .getfield 7, 3), (18, .iload_n 2, 1), (19, .iaload, 1), (20, .iconst (-1), 1), (21, .if_icmp .ne 5, 3), (24, .iconst (-1), 1), (25, .ireturn, 1), (26, .aload_n 0, 1), (27, .iconst 0, 1), (28, .putfield 145, 3), (31, .iconst 0, 1), (32, .istore_n 3, 1), (33, .iload_n 3, 1), (34, .aload_n 0, 1), (35, .getfield 7, 3), (38, .iload_n 2, 1), (39, .iaload, 1), (40, .if_icmp .ge 49, 3), (43, .aload_n 0, 1), (44, .aload_n 0, 1), (45, .getfield 13, 3), (48, .bipush 24, 2), (50, .iload_n 2, 1), (51, .imul, 1), (52, .iload_n 3, 1), (53, .iadd, 1), (54, .iaload, 1), (55, .i2l, 1), (56, .aload_n 0, 1), (57, .getfield 16, 3), (60, .bipush 24, 2), (62, .iload_n 2, 1), (63, .imul, 1), (64, .iload_n 3, 1), (65, .iadd, 1), (66, .iaload, 1), (67, .i2l, 1), (68, .aload_n 0, 1), (69, .getfield 19, 3), (72, .bipush 24, 2), (74, .iload_n 2, 1), (75, .imul, 1), (76, .iload_n 3, 1), (77, .iadd, 1), (78, .iaload, 1), (79, .i2l, 1), (80, .invokevirtual 222, 3), (83, .iinc 3 1, 3), (86, .goto (-53), 3), (89, .aload_n 0, 1), (90, .iload_n 1, 1), (91, .aload_n 0, 1), (92, .iconst 0, 1)]
theorem dkX7_solid_0 : ∀ q ∈ tX7_solid_0, decode cX7_solid q.1 = .ok q.2 := by decide +kernel
def tX7_solid_1 : List (Nat × Instr × Nat) := [(93, .invokevirtual 229, 3), (96, .invokevirtual 240, 3), (99, .pop, 1), (100, .aload_n 0, 1), (101, .getfield 25, 3), (104, .iload_n 1, 1), (105, .iaload, 1), (106, .ireturn, 1)]
theorem dkX7_solid_1 : ∀ q ∈ tX7_solid_1, decode cX7_solid q.1 = .ok q.2 := by decide +kernel
def tX7_solid : List (Nat × Instr × Nat) := tX7_solid_0 ++ (tX7_solid_1)
def mX7_solid : mM := (yX7_solid, 7, cX7_solid, 4, (some .int), tX7_solid, (4, 113, 0, 0), 2, false)
theorem odX7_solid : mOd mX7_solid := List.forall_mem_append.mpr ⟨dkX7_solid_0, dkX7_solid_1⟩
set_option maxRecDepth 100000 in
theorem okX7_solid : mOK mX7_solid := ⟨by decide +kernel, List.mem_append_right _ (List.mem_of_getElem? (i := 926) rfl), rfl, ⟨by decide +kernel, by decide +kernel⟩, by decide +kernel, fun h => absurd h (by decide)⟩
def tX7_grow_0 : List (Nat × Instr × Nat) := [(0, .iload_n 1, 1), (1, .invokestatic 133, 3), (4, .ifCond .eq 16, 3), (7, .iload_n 2, 1), (8, .i2l, 1), (9, .iload_n 3, 1), (10, .i2l, 1), (11, .iload 4, 2), (13, .i2l, 1), (14, .invokestatic 137, 3), (17, .ifCond .ne 5, 3), (20, .iconst (-1), 1), (21, .ireturn, 1), (22, .aload_n 0, 1), (23, .iload_n 1, 1), (24, .invokevirtual 226, 3), (27, .aload_n 0, 1), (28, .iload_n 2, 1), (29, .i2l, 1), (30, .iload_n 3, 1), (31, .i2l, 1), (32, .iload 4, 2), (34, .i2l, 1), (35, .invokevirtual 222, 3), (38, .aload_n 0, 1), (39, .iload_n 1, 1), (40, .aload_n 0, 1), (41, .iconst 0, 1), (42, .invokevirtual 229, 3), (45, .invokevirtual 240, 3), (48, .ifCond .eq 12, 3), (51, .aload_n 0, 1), (52, .getfield 25, 3), (55, .iload_n 1, 1), (56, .iaload, 1), (57, .goto 5, 3), (60, .bipush (-2), 2), (62, .ireturn, 1)]
theorem dkX7_grow_0 : ∀ q ∈ tX7_grow_0, decode cX7_grow q.1 = .ok q.2 := by decide +kernel
def tX7_grow : List (Nat × Instr × Nat) := tX7_grow_0
def mX7_grow : mM := (yX7_grow, 7, cX7_grow, 5, (some .int), tX7_grow, (4, 113, 0, 0), 4, false)
theorem odX7_grow : mOd mX7_grow := dkX7_grow_0
set_option maxRecDepth 100000 in
theorem okX7_grow : mOK mX7_grow := ⟨by decide +kernel, List.mem_append_right _ (List.mem_of_getElem? (i := 1006) rfl), rfl, ⟨by decide +kernel, by decide +kernel⟩, by decide +kernel, fun h => absurd h (by decide)⟩
def tX7_count_0 : List (Nat × Instr × Nat) := [(0, .iload_n 1, 1), (1, .invokestatic 133, 3), (4, .ifCond .ne 5, 3), (7, .iconst (-1), 1), (8, .ireturn, 1), (9, .iload_n 2, 1), (10, .ifCond .ne 10, 3), (13, .aload_n 0, 1), (14, .getfield 25, 3), (17, .iload_n 1, 1), (18, .iaload, 1), (19, .ireturn, 1), (20, .iload_n 2, 1), (21, .iconst 1, 1), (22, .if_icmp .ne 10, 3), (25, .aload_n 0, 1), (26, .getfield 22, 3), (29, .iload_n 1, 1), (30, .iaload, 1), (31, .ireturn, 1), (32, .iload_n 2, 1), (33, .iconst 2, 1), (34, .if_icmp .eq 10, 3), (37, .iload_n 2, 1), (38, .iconst 3, 1), (39, .if_icmp .eq 5, 3), (42, .iconst (-1), 1), (43, .ireturn, 1), (44, .aload_n 0, 1), (45, .iload_n 1, 1), (46, .iconst 0, 1), (47, .invokevirtual 244, 3), (50, .iload_n 2, 1), (51, .iconst 2, 1), (52, .if_icmp .ne 12, 3), (55, .aload_n 0, 1), (56, .getfield 93, 3), (59, .iconst 0, 1), (60, .iaload, 1), (61, .goto 9, 3), (64, .aload_n 0, 1), (65, .getfield 72, 3), (68, .iconst 0, 1), (69, .iaload, 1), (70, .ireturn, 1)]
theorem dkX7_count_0 : ∀ q ∈ tX7_count_0, decode cX7_count q.1 = .ok q.2 := by decide +kernel
def tX7_count : List (Nat × Instr × Nat) := tX7_count_0
def mX7_count : mM := (yX7_count, 7, cX7_count, 3, (some .int), tX7_count, (5, 140, 0, 0), 2, false)
theorem odX7_count : mOd mX7_count := dkX7_count_0
set_option maxRecDepth 100000 in
theorem okX7_count : mOK mX7_count := ⟨by decide +kernel, List.mem_append_right _ (List.mem_of_getElem? (i := 1014) rfl), rfl, ⟨by decide +kernel, by decide +kernel⟩, by decide +kernel, fun h => absurd h (by decide)⟩
def tX7_corner_0 : List (Nat × Instr × Nat) := [(0, .iload_n 1, 1), (1, .invokestatic 133, 3), (4, .ifCond .eq 17, 3), (7, .iload_n 2, 1), (8, .ifCond .lt 13, 3), (11, .iload_n 2, 1), (12, .aload_n 0, 1), (13, .getfield 22, 3), (16, .iload_n 1, 1), (17, .iaload, 1), (18, .if_icmp .lt 7, 3), (21, .sipush (-1000), 3), (24, .ireturn, 1), (25, .iload_n 3, 1), (26, .ifCond .ne 17, 3), (29, .aload_n 0, 1), (30, .getfield 28, 3), (33, .bipush 24, 2), (35, .iload_n 1, 1), (36, .imul, 1), (37, .iload_n 2, 1), (38, .iadd, 1), (39, .iaload, 1), (40, .goto 44, 3), (43, .iload_n 3, 1), (44, .iconst 1, 1), (45, .if_icmp .ne 17, 3), (48, .aload_n 0, 1), (49, .getfield 31, 3), (52, .bipush 24, 2), (54, .iload_n 1, 1), (55, .imul, 1), (56, .iload_n 2, 1), (57, .iadd, 1), (58, .iaload, 1), (59, .goto 25, 3), (62, .iload_n 3, 1), (63, .iconst 2, 1), (64, .if_icmp .ne 17, 3), (67, .aload_n 0, 1), (68, .getfield 34, 3), (71, .bipush 24, 2), (73, .iload_n 1, 1), (74, .imul, 1), (75, .iload_n 2, 1), (76, .iadd, 1), (77, .iaload, 1), (78, .goto 6, 3), (81, .sipush (-1000), 3), (84, .ireturn, 1)]
theorem dkX7_corner_0 : ∀ q ∈ tX7_corner_0, decode cX7_corner q.1 = .ok q.2 := by decide +kernel
def tX7_corner : List (Nat × Instr × Nat) := tX7_corner_0
def mX7_corner : mM := (yX7_corner, 7, cX7_corner, 4, (some .int), tX7_corner, (1, 20, 0, 0), 3, false)
theorem odX7_corner : mOd mX7_corner := dkX7_corner_0
set_option maxRecDepth 100000 in
theorem okX7_corner : mOK mX7_corner := ⟨by decide +kernel, List.mem_append_right _ (List.mem_of_getElem? (i := 1026) rfl), rfl, ⟨by decide +kernel, by decide +kernel⟩, by decide +kernel, fun h => absurd h (by decide)⟩
def tX7_edge_0 : List (Nat × Instr × Nat) := [(0, .iload_n 1, 1), (1, .invokestatic 133, 3), (4, .ifCond .eq 7, 3), (7, .iload_n 2, 1), (8, .ifCond .ge 5, 3), (11, .iconst (-1), 1), (12, .ireturn, 1), (13, .aload_n 0, 1), (14, .iload_n 1, 1), (15, .iconst 0, 1), (16, .invokevirtual 244, 3), (19, .iload_n 2, 1), (20, .aload_n 0, 1), (21, .getfield 93, 3), (24, .iconst 0, 1), (25, .iaload, 1), (26, .if_icmp .lt 5, 3), (29, .iconst (-1), 1), (30, .ireturn, 1), (31, .iload_n 3, 1), (32, .tableswitch 60 0 3 #[32, 39, 46, 53], 32), (64, .aload_n 0, 1), (65, .getfield 96, 3), (68, .iload_n 2, 1), (69, .iaload, 1), (70, .ireturn, 1), (71, .aload_n 0, 1), (72, .getfield 99, 3), (75, .iload_n 2, 1), (76, .iaload, 1), (77, .ireturn, 1), (78, .aload_n 0, 1), (79, .getfield 102, 3), (82, .iload_n 2, 1), (83, .iaload, 1), (84, .ireturn, 1), (85, .aload_n 0, 1), (86, .getfield 105, 3), (89, .iload_n 2, 1), (90, .iaload, 1), (91, .ireturn, 1), (92, .iconst (-1), 1), (93, .ireturn, 1)]
theorem dkX7_edge_0 : ∀ q ∈ tX7_edge_0, decode cX7_edge q.1 = .ok q.2 := by decide +kernel
def tX7_edge : List (Nat × Instr × Nat) := tX7_edge_0
def mX7_edge : mM := (yX7_edge, 7, cX7_edge, 4, (some .int), tX7_edge, (5, 140, 0, 0), 3, false)
theorem odX7_edge : mOd mX7_edge := dkX7_edge_0
set_option maxRecDepth 100000 in
theorem okX7_edge : mOK mX7_edge := ⟨by decide +kernel, List.mem_append_right _ (List.mem_of_getElem? (i := 1030) rfl), rfl, ⟨by decide +kernel, by decide +kernel⟩, by decide +kernel, fun h => absurd h (by decide)⟩
def tX7_area_0 : List (Nat × Instr × Nat) := [(0, .aload_n 0, 1), (1, .lconst 0, 1), (2, .putfield 148, 3), (5, .aload_n 0, 1), (6, .lconst 0, 1), (7, .putfield 152, 3), (10, .aload_n 0, 1), (11, .lconst 0, 1), (12, .putfield 155, 3), (15, .lconst 0, 1), (16, .lstore_n 2, 1), (17, .lconst 0, 1), (18, .lstore 4, 2), (20, .lconst 0, 1), (21, .lstore 6, 2), (23, .iconst 1, 1), (24, .istore 8, 2), (26, .iload 8, 2), (28, .iconst 1, 1), (29, .iadd, 1), (30, .aload_n 0, 1), (31, .getfield 87, 3), (34, .iload_n 1, 1), (35, .iaload, 1), (36, .if_icmp .ge 73, 3), (39, .aload_n 0, 1), (40, .aload_n 0, 1), (41, .getfield 90, 3), (44, .bipush 25, 2), (46, .iload_n 1, 1), (47, .imul, 1), (48, .iaload, 1), (49, .aload_n 0, 1), (50, .getfield 90, 3), (53, .bipush 25, 2), (55, .iload_n 1, 1), (56, .imul, 1), (57, .iload 8, 2), (59, .iadd, 1), (60, .iaload, 1), (61, .aload_n 0, 1), (62, .getfield 90, 3), (65, .bipush 25, 2), (67, .iload_n 1, 1), (68, .imul, 1), (69, .iload 8, 2), (71, .iadd, 1), (72, .iconst 1, 1), (73, .iadd, 1), (74, .iaload, 1), (75, .invokevirtual 178, 3), (78, .lload_n 2, 1), (79, .aload_n 0, 1), (80, .getfield 148, 3), (83, .ladd, 1), (84, .lstore_n 2, 1), (85, .lload 4, 2), (87, .aload_n 0, 1), (88, .getfield 152, 3), (91, .ladd, 1)]
theorem dkX7_area_0 : ∀ q ∈ tX7_area_0, decode cX7_area q.1 = .ok q.2 := by decide +kernel
def tX7_area_1 : List (Nat × Instr × Nat) := [(92, .lstore 4, 2), (94, .lload 6, 2), (96, .aload_n 0, 1), (97, .getfield 155, 3), (100, .ladd, 1), (101, .lstore 6, 2), (103, .iinc 8 1, 3), (106, .goto (-80), 3), (109, .aload_n 0, 1), (110, .getfield 75, 3), (113, .iload_n 1, 1), (114, .laload, 1), (115, .lconst 0, 1), (116, .lcmp, 1), (117, .ifCond .eq 14, 3), (120, .lload_n 2, 1), (121, .aload_n 0, 1), (122, .getfield 75, 3), (125, .iload_n 1, 1), (126, .laload, 1), (127, .ldiv, 1), (128, .goto 35, 3), (131, .aload_n 0, 1), (132, .getfield 78, 3), (135, .iload_n 1, 1), (136, .laload, 1), (137, .lconst 0, 1), (138, .lcmp, 1), (139, .ifCond .eq 15, 3), (142, .lload 4, 2), (144, .aload_n 0, 1), (145, .getfield 78, 3), (148, .iload_n 1, 1), (149, .laload, 1), (150, .ldiv, 1), (151, .goto 12, 3), (154, .lload 6, 2), (156, .aload_n 0, 1), (157, .getfield 81, 3), (160, .iload_n 1, 1), (161, .laload, 1), (162, .ldiv, 1), (163, .lreturn, 1)]
theorem dkX7_area_1 : ∀ q ∈ tX7_area_1, decode cX7_area q.1 = .ok q.2 := by decide +kernel
def tX7_area : List (Nat × Instr × Nat) := tX7_area_0 ++ (tX7_area_1)
def mX7_area : mM := (yX7_area, 7, cX7_area, 9, (some .long), tX7_area, (1, 35, 0, 0), 1, false)
theorem odX7_area : mOd mX7_area := List.forall_mem_append.mpr ⟨dkX7_area_0, dkX7_area_1⟩
set_option maxRecDepth 100000 in
theorem okX7_area : mOK mX7_area := ⟨by decide +kernel, List.mem_append_right _ (List.mem_of_getElem? (i := 1039) rfl), rfl, ⟨by decide +kernel, by decide +kernel⟩, by decide +kernel, fun h => absurd h (by decide)⟩
def tX7_face_0 : List (Nat × Instr × Nat) := [(0, .iload_n 1, 1), (1, .invokestatic 133, 3), (4, .ifCond .eq 7, 3), (7, .iload_n 2, 1), (8, .ifCond .ge 7, 3), (11, .ldc2_w 248, 3), (14, .lreturn, 1), (15, .aload_n 0, 1), (16, .iload_n 1, 1), (17, .iconst 0, 1), (18, .invokevirtual 244, 3), (21, .iload_n 2, 1), (22, .aload_n 0, 1), (23, .getfield 72, 3), (26, .iconst 0, 1), (27, .iaload, 1), (28, .if_icmp .lt 7, 3), (31, .ldc2_w 248, 3), (34, .lreturn, 1), (35, .iload_n 3, 1), (36, .tableswitch 82 0 5 #[40, 47, 54, 61, 68, 76], 40), (76, .aload_n 0, 1), (77, .getfield 75, 3), (80, .iload_n 2, 1), (81, .laload, 1), (82, .lreturn, 1), (83, .aload_n 0, 1), (84, .getfield 78, 3), (87, .iload_n 2, 1), (88, .laload, 1), (89, .lreturn, 1), (90, .aload_n 0, 1), (91, .getfield 81, 3), (94, .iload_n 2, 1), (95, .laload, 1), (96, .lreturn, 1), (97, .aload_n 0, 1), (98, .getfield 84, 3), (101, .iload_n 2, 1), (102, .laload, 1), (103, .lreturn, 1), (104, .aload_n 0, 1), (105, .getfield 87, 3), (108, .iload_n 2, 1), (109, .iaload, 1), (110, .i2l, 1), (111, .lreturn, 1), (112, .aload_n 0, 1), (113, .iload_n 2, 1), (114, .invokevirtual 250, 3), (117, .lreturn, 1), (118, .iload_n 3, 1), (119, .iconst 5, 1), (120, .if_icmp .le 34, 3), (123, .iload_n 3, 1), (124, .bipush 6, 2), (126, .isub, 1), (127, .aload_n 0, 1), (128, .getfield 87, 3), (131, .iload_n 2, 1)]
theorem dkX7_face_0 : ∀ q ∈ tX7_face_0, decode cX7_face q.1 = .ok q.2 := by decide +kernel
def tX7_face_1 : List (Nat × Instr × Nat) := [(132, .iaload, 1), (133, .if_icmp .ge 21, 3), (136, .aload_n 0, 1), (137, .getfield 90, 3), (140, .bipush 25, 2), (142, .iload_n 2, 1), (143, .imul, 1), (144, .iload_n 3, 1), (145, .iadd, 1), (146, .bipush 6, 2), (148, .isub, 1), (149, .iaload, 1), (150, .i2l, 1), (151, .goto 6, 3), (154, .ldc2_w 248, 3), (157, .lreturn, 1)]
theorem dkX7_face_1 : ∀ q ∈ tX7_face_1, decode cX7_face q.1 = .ok q.2 := by decide +kernel
def tX7_face : List (Nat × Instr × Nat) := tX7_face_0 ++ (tX7_face_1)
def mX7_face : mM := (yX7_face, 7, cX7_face, 4, (some .long), tX7_face, (5, 140, 0, 0), 3, false)
theorem odX7_face : mOd mX7_face := List.forall_mem_append.mpr ⟨dkX7_face_0, dkX7_face_1⟩
set_option maxRecDepth 100000 in
theorem okX7_face : mOK mX7_face := ⟨by decide +kernel, List.mem_append_right _ (List.mem_of_getElem? (i := 1034) rfl), rfl, ⟨by decide +kernel, by decide +kernel⟩, by decide +kernel, fun h => absurd h (by decide)⟩
def tX7_overFace_0 : List (Nat × Instr × Nat) := [(0, .aload_n 0, 1), (1, .getfield 75, 3), (4, .iload_n 1, 1), (5, .laload, 1), (6, .aload_n 0, 1), (7, .getfield 253, 3), (10, .lmul, 1), (11, .aload_n 0, 1), (12, .getfield 78, 3), (15, .iload_n 1, 1), (16, .laload, 1), (17, .aload_n 0, 1), (18, .getfield 256, 3), (21, .lmul, 1), (22, .ladd, 1), (23, .aload_n 0, 1), (24, .getfield 81, 3), (27, .iload_n 1, 1), (28, .laload, 1), (29, .aload_n 0, 1), (30, .getfield 259, 3), (33, .lmul, 1), (34, .ladd, 1), (35, .aload_n 0, 1), (36, .getfield 84, 3), (39, .iload_n 1, 1), (40, .laload, 1), (41, .aload_n 0, 1), (42, .getfield 262, 3), (45, .lmul, 1), (46, .lsub, 1), (47, .lreturn, 1)]
theorem dkX7_overFace_0 : ∀ q ∈ tX7_overFace_0, decode cX7_overFace q.1 = .ok q.2 := by decide +kernel
def tX7_overFace : List (Nat × Instr × Nat) := tX7_overFace_0
def mX7_overFace : mM := (yX7_overFace, 7, cX7_overFace, 2, (some .long), tX7_overFace, (0, 0, 0, 0), 1, false)
theorem odX7_overFace : mOd mX7_overFace := dkX7_overFace_0
set_option maxRecDepth 100000 in
theorem okX7_overFace : mOK mX7_overFace := ⟨by decide +kernel, List.mem_append_right _ (List.mem_of_getElem? (i := 1068) rfl), rfl, ⟨by decide +kernel, by decide +kernel⟩, by decide +kernel, fun h => absurd h (by decide)⟩
def tX7_owns_0 : List (Nat × Instr × Nat) := [(0, .aload_n 0, 1), (1, .iload_n 1, 1), (2, .iload_n 2, 1), (3, .invokevirtual 244, 3), (6, .aload_n 0, 1), (7, .getfield 117, 3), (10, .iload_n 2, 1), (11, .aload_n 0, 1), (12, .getfield 145, 3), (15, .iastore, 1), (16, .iconst 0, 1), (17, .istore_n 3, 1), (18, .iload_n 3, 1), (19, .aload_n 0, 1), (20, .getfield 145, 3), (23, .if_icmp .ge 60, 3), (26, .aload_n 0, 1), (27, .getfield 108, 3), (30, .bipush 24, 2), (32, .iload_n 2, 1), (33, .imul, 1), (34, .iload_n 3, 1), (35, .iadd, 1), (36, .aload_n 0, 1), (37, .getfield 52, 3), (40, .iload_n 3, 1), (41, .laload, 1), (42, .lastore, 1), (43, .aload_n 0, 1), (44, .getfield 111, 3), (47, .bipush 24, 2), (49, .iload_n 2, 1), (50, .imul, 1), (51, .iload_n 3, 1), (52, .iadd, 1), (53, .aload_n 0, 1), (54, .getfield 56, 3), (57, .iload_n 3, 1), (58, .laload, 1), (59, .lastore, 1), (60, .aload_n 0, 1), (61, .getfield 114, 3), (64, .bipush 24, 2), (66, .iload_n 2, 1), (67, .imul, 1), (68, .iload_n 3, 1), (69, .iadd, 1), (70, .aload_n 0, 1), (71, .getfield 59, 3), (74, .iload_n 3, 1), (75, .laload, 1), (76, .lastore, 1), (77, .iinc 3 1, 3), (80, .goto (-62), 3), (83, .return_, 1)]
theorem dkX7_owns_0 : ∀ q ∈ tX7_owns_0, decode cX7_owns q.1 = .ok q.2 := by decide +kernel
def tX7_owns : List (Nat × Instr × Nat) := tX7_owns_0
def mX7_owns : mM := (yX7_owns, 7, cX7_owns, 4, none, tX7_owns, (5, 140, 0, 0), 2, false)
theorem odX7_owns : mOd mX7_owns := dkX7_owns_0
set_option maxRecDepth 100000 in
theorem okX7_owns : mOK mX7_owns := ⟨by decide +kernel, List.mem_append_right _ (List.mem_of_getElem? (i := 1052) rfl), rfl, ⟨by decide +kernel, by decide +kernel⟩, by decide +kernel, fun h => absurd h (by decide)⟩
def tX7_isOver_0 : List (Nat × Instr × Nat) := [(0, .aload_n 0, 1), (1, .getfield 87, 3), (4, .iload_n 2, 1), (5, .iaload, 1), (6, .istore_n 3, 1), (7, .iconst 0, 1), (8, .istore 4, 2), (10, .iload 4, 2), (12, .iload_n 3, 1), (13, .if_icmp .ge 226, 3), (16, .bipush 24, 2), (18, .iload_n 1, 1), (19, .imul, 1), (20, .aload_n 0, 1), (21, .getfield 90, 3), (24, .bipush 25, 2), (26, .iload_n 2, 1), (27, .imul, 1), (28, .iload 4, 2), (30, .iadd, 1), (31, .iaload, 1), (32, .iadd, 1), (33, .istore 5, 2), (35, .bipush 24, 2), (37, .iload_n 1, 1), (38, .imul, 1), (39, .aload_n 0, 1), (40, .getfield 90, 3), (43, .bipush 25, 2), (45, .iload_n 2, 1), (46, .imul, 1), (47, .iload 4, 2), (49, .iconst 1, 1), (50, .iadd, 1), (51, .iload_n 3, 1), (52, .irem, 1), (53, .iadd, 1), (54, .iaload, 1), (55, .iadd, 1), (56, .istore 6, 2), (58, .aload_n 0, 1), (59, .getfield 108, 3), (62, .iload 6, 2), (64, .laload, 1), (65, .aload_n 0, 1), (66, .getfield 108, 3), (69, .iload 5, 2), (71, .laload, 1), (72, .lsub, 1), (73, .lstore 7, 2), (75, .aload_n 0, 1), (76, .getfield 111, 3), (79, .iload 6, 2), (81, .laload, 1), (82, .aload_n 0, 1), (83, .getfield 111, 3), (86, .iload 5, 2), (88, .laload, 1), (89, .lsub, 1), (90, .lstore 9, 2)]
theorem dkX7_isOver_0 : ∀ q ∈ tX7_isOver_0, decode cX7_isOver q.1 = .ok q.2 := by decide +kernel
def tX7_isOver_1 : List (Nat × Instr × Nat) := [(92, .aload_n 0, 1), (93, .getfield 114, 3), (96, .iload 6, 2), (98, .laload, 1), (99, .aload_n 0, 1), (100, .getfield 114, 3), (103, .iload 5, 2), (105, .laload, 1), (106, .lsub, 1), (107, .lstore 11, 2), (109, .aload_n 0, 1), (110, .getfield 253, 3), (113, .aload_n 0, 1), (114, .getfield 262, 3), (117, .aload_n 0, 1), (118, .getfield 108, 3), (121, .iload 5, 2), (123, .laload, 1), (124, .lmul, 1), (125, .lsub, 1), (126, .lstore 13, 2), (128, .aload_n 0, 1), (129, .getfield 256, 3), (132, .aload_n 0, 1), (133, .getfield 262, 3), (136, .aload_n 0, 1), (137, .getfield 111, 3), (140, .iload 5, 2), (142, .laload, 1), (143, .lmul, 1), (144, .lsub, 1), (145, .lstore 15, 2), (147, .aload_n 0, 1), (148, .getfield 259, 3), (151, .aload_n 0, 1), (152, .getfield 262, 3), (155, .aload_n 0, 1), (156, .getfield 114, 3), (159, .iload 5, 2), (161, .laload, 1), (162, .lmul, 1), (163, .lsub, 1), (164, .lstore 17, 2), (166, .lload 9, 2), (168, .lload 17, 2), (170, .lmul, 1), (171, .lload 11, 2), (173, .lload 15, 2), (175, .lmul, 1), (176, .lsub, 1), (177, .aload_n 0, 1), (178, .getfield 75, 3), (181, .iload_n 2, 1), (182, .laload, 1), (183, .lmul, 1), (184, .lload 11, 2), (186, .lload 13, 2), (188, .lmul, 1), (189, .lload 7, 2), (191, .lload 17, 2)]
theorem dkX7_isOver_1 : ∀ q ∈ tX7_isOver_1, decode cX7_isOver q.1 = .ok q.2 := by decide +kernel
def tX7_isOver_2 : List (Nat × Instr × Nat) := [(193, .lmul, 1), (194, .lsub, 1), (195, .aload_n 0, 1), (196, .getfield 78, 3), (199, .iload_n 2, 1), (200, .laload, 1), (201, .lmul, 1), (202, .ladd, 1), (203, .lload 7, 2), (205, .lload 15, 2), (207, .lmul, 1), (208, .lload 9, 2), (210, .lload 13, 2), (212, .lmul, 1), (213, .lsub, 1), (214, .aload_n 0, 1), (215, .getfield 81, 3), (218, .iload_n 2, 1), (219, .laload, 1), (220, .lmul, 1), (221, .ladd, 1), (222, .lstore 19, 2), (224, .lload 19, 2), (226, .lconst 0, 1), (227, .lcmp, 1), (228, .ifCond .ge 5, 3), (231, .iconst 0, 1), (232, .ireturn, 1), (233, .iinc 4 1, 3), (236, .goto (-226), 3), (239, .iconst 1, 1), (240, .ireturn, 1)]
theorem dkX7_isOver_2 : ∀ q ∈ tX7_isOver_2, decode cX7_isOver q.1 = .ok q.2 := by decide +kernel
def tX7_isOver : List (Nat × Instr × Nat) := tX7_isOver_0 ++ (tX7_isOver_1 ++ (tX7_isOver_2))
def mX7_isOver : mM := (yX7_isOver, 7, cX7_isOver, 21, (some .boolean), tX7_isOver, (0, 0, 0, 0), 2, false)
theorem odX7_isOver : mOd mX7_isOver := List.forall_mem_append.mpr ⟨dkX7_isOver_0, List.forall_mem_append.mpr ⟨dkX7_isOver_1, dkX7_isOver_2⟩⟩
set_option maxRecDepth 100000 in
theorem okX7_isOver : mOK mX7_isOver := ⟨by decide +kernel, List.mem_append_right _ (List.mem_of_getElem? (i := 1072) rfl), rfl, ⟨by decide +kernel, by decide +kernel⟩, by decide +kernel, fun h => absurd h (by decide)⟩
def tX7_where_0 : List (Nat × Instr × Nat) := [(0, .bipush 24, 2), (2, .iload_n 2, 1), (3, .imul, 1), (4, .istore_n 3, 1), (5, .iload_n 1, 1), (6, .ifCond .ne 5, 3), (9, .iconst 0, 1), (10, .ireturn, 1), (11, .iload_n 1, 1), (12, .iconst 1, 1), (13, .if_icmp .ne 66, 3), (16, .aload_n 0, 1), (17, .getfield 253, 3), (20, .aload_n 0, 1), (21, .getfield 262, 3), (24, .aload_n 0, 1), (25, .getfield 108, 3), (28, .iload_n 3, 1), (29, .laload, 1), (30, .lmul, 1), (31, .lcmp, 1), (32, .ifCond .ne 45, 3), (35, .aload_n 0, 1), (36, .getfield 256, 3), (39, .aload_n 0, 1), (40, .getfield 262, 3), (43, .aload_n 0, 1), (44, .getfield 111, 3), (47, .iload_n 3, 1), (48, .laload, 1), (49, .lmul, 1), (50, .lcmp, 1), (51, .ifCond .ne 26, 3), (54, .aload_n 0, 1), (55, .getfield 259, 3), (58, .aload_n 0, 1), (59, .getfield 262, 3), (62, .aload_n 0, 1), (63, .getfield 114, 3), (66, .iload_n 3, 1), (67, .laload, 1), (68, .lmul, 1), (69, .lcmp, 1), (70, .ifCond .ne 7, 3), (73, .iconst 1, 1), (74, .goto 4, 3), (77, .iconst 0, 1), (78, .ireturn, 1), (79, .iload_n 1, 1), (80, .iconst 2, 1), (81, .if_icmp .ne 20, 3), (84, .aload_n 0, 1), (85, .iload_n 3, 1), (86, .iload_n 3, 1), (87, .iconst 1, 1), (88, .iadd, 1), (89, .invokevirtual 265, 3), (92, .ifCond .eq 7, 3), (95, .iconst 1, 1), (96, .goto 4, 3)]
theorem dkX7_where_0 : ∀ q ∈ tX7_where_0, decode cX7_where q.1 = .ok q.2 := by decide +kernel
def tX7_where_1 : List (Nat × Instr × Nat) := [(99, .iconst 0, 1), (100, .ireturn, 1), (101, .iload_n 1, 1), (102, .iconst 3, 1), (103, .if_icmp .ne 34, 3), (106, .aload_n 0, 1), (107, .bipush 64, 2), (109, .iload_n 2, 1), (110, .imul, 1), (111, .invokevirtual 268, 3), (114, .lconst 0, 1), (115, .lcmp, 1), (116, .ifCond .ne 19, 3), (119, .aload_n 0, 1), (120, .iload_n 2, 1), (121, .bipush 64, 2), (123, .iload_n 2, 1), (124, .imul, 1), (125, .invokevirtual 271, 3), (128, .ifCond .eq 7, 3), (131, .iconst 1, 1), (132, .goto 4, 3), (135, .iconst 0, 1), (136, .ireturn, 1), (137, .iconst 2, 1), (138, .istore 4, 2), (140, .bipush 64, 2), (142, .iload_n 2, 1), (143, .imul, 1), (144, .istore 5, 2), (146, .iload 5, 2), (148, .bipush 64, 2), (150, .iload_n 2, 1), (151, .imul, 1), (152, .aload_n 0, 1), (153, .getfield 72, 3), (156, .iload_n 2, 1), (157, .iaload, 1), (158, .iadd, 1), (159, .if_icmp .ge 36, 3), (162, .aload_n 0, 1), (163, .iload 5, 2), (165, .invokevirtual 268, 3), (168, .lstore 6, 2), (170, .lload 6, 2), (172, .lconst 0, 1), (173, .lcmp, 1), (174, .ifCond .le 5, 3), (177, .iconst 0, 1), (178, .ireturn, 1), (179, .lload 6, 2), (181, .lconst 0, 1), (182, .lcmp, 1), (183, .ifCond .ne 6, 3), (186, .iconst 1, 1), (187, .istore 4, 2), (189, .iinc 5 1, 3), (192, .goto (-46), 3), (195, .iload 4, 2), (197, .ireturn, 1)]
theorem dkX7_where_1 : ∀ q ∈ tX7_where_1, decode cX7_where q.1 = .ok q.2 := by decide +kernel
def tX7_where : List (Nat × Instr × Nat) := tX7_where_0 ++ (tX7_where_1)
def mX7_where : mM := (yX7_where, 7, cX7_where, 8, (some .int), tX7_where, (1, 40, 0, 0), 2, false)
theorem odX7_where : mOd mX7_where := List.forall_mem_append.mpr ⟨dkX7_where_0, dkX7_where_1⟩
set_option maxRecDepth 100000 in
theorem okX7_where : mOK mX7_where := ⟨by decide +kernel, List.mem_append_right _ (List.mem_of_getElem? (i := 1060) rfl), rfl, ⟨by decide +kernel, by decide +kernel⟩, by decide +kernel, fun h => absurd h (by decide)⟩
def tX7_onLine_0 : List (Nat × Instr × Nat) := [(0, .aload_n 0, 1), (1, .getfield 108, 3), (4, .iload_n 2, 1), (5, .laload, 1), (6, .aload_n 0, 1), (7, .getfield 108, 3), (10, .iload_n 1, 1), (11, .laload, 1), (12, .lsub, 1), (13, .lstore_n 3, 1), (14, .aload_n 0, 1), (15, .getfield 111, 3), (18, .iload_n 2, 1), (19, .laload, 1), (20, .aload_n 0, 1), (21, .getfield 111, 3), (24, .iload_n 1, 1), (25, .laload, 1), (26, .lsub, 1), (27, .lstore 5, 2), (29, .aload_n 0, 1), (30, .getfield 114, 3), (33, .iload_n 2, 1), (34, .laload, 1), (35, .aload_n 0, 1), (36, .getfield 114, 3), (39, .iload_n 1, 1), (40, .laload, 1), (41, .lsub, 1), (42, .lstore 7, 2), (44, .aload_n 0, 1), (45, .getfield 253, 3), (48, .aload_n 0, 1), (49, .getfield 262, 3), (52, .aload_n 0, 1), (53, .getfield 108, 3), (56, .iload_n 1, 1), (57, .laload, 1), (58, .lmul, 1), (59, .lsub, 1), (60, .lstore 9, 2), (62, .aload_n 0, 1), (63, .getfield 256, 3), (66, .aload_n 0, 1), (67, .getfield 262, 3), (70, .aload_n 0, 1), (71, .getfield 111, 3), (74, .iload_n 1, 1), (75, .laload, 1), (76, .lmul, 1), (77, .lsub, 1), (78, .lstore 11, 2), (80, .aload_n 0, 1), (81, .getfield 259, 3), (84, .aload_n 0, 1), (85, .getfield 262, 3), (88, .aload_n 0, 1), (89, .getfield 114, 3), (92, .iload_n 1, 1), (93, .laload, 1)]
theorem dkX7_onLine_0 : ∀ q ∈ tX7_onLine_0, decode cX7_onLine q.1 = .ok q.2 := by decide +kernel
def tX7_onLine_1 : List (Nat × Instr × Nat) := [(94, .lmul, 1), (95, .lsub, 1), (96, .lstore 13, 2), (98, .lload 5, 2), (100, .lload 13, 2), (102, .lmul, 1), (103, .lload 7, 2), (105, .lload 11, 2), (107, .lmul, 1), (108, .lcmp, 1), (109, .ifCond .ne 29, 3), (112, .lload 7, 2), (114, .lload 9, 2), (116, .lmul, 1), (117, .lload_n 3, 1), (118, .lload 13, 2), (120, .lmul, 1), (121, .lcmp, 1), (122, .ifCond .ne 16, 3), (125, .lload_n 3, 1), (126, .lload 11, 2), (128, .lmul, 1), (129, .lload 5, 2), (131, .lload 9, 2), (133, .lmul, 1), (134, .lcmp, 1), (135, .ifCond .eq 5, 3), (138, .iconst 0, 1), (139, .ireturn, 1), (140, .lload_n 3, 1), (141, .lload 9, 2), (143, .lmul, 1), (144, .lload 5, 2), (146, .lload 11, 2), (148, .lmul, 1), (149, .ladd, 1), (150, .lload 7, 2), (152, .lload 13, 2), (154, .lmul, 1), (155, .ladd, 1), (156, .lstore 15, 2), (158, .lload 15, 2), (160, .lconst 0, 1), (161, .lcmp, 1), (162, .ifCond .lt 33, 3), (165, .lload 15, 2), (167, .aload_n 0, 1), (168, .getfield 262, 3), (171, .lload_n 3, 1), (172, .lload_n 3, 1), (173, .lmul, 1), (174, .lload 5, 2), (176, .lload 5, 2), (178, .lmul, 1), (179, .ladd, 1), (180, .lload 7, 2), (182, .lload 7, 2), (184, .lmul, 1), (185, .ladd, 1), (186, .lmul, 1)]
theorem dkX7_onLine_1 : ∀ q ∈ tX7_onLine_1, decode cX7_onLine q.1 = .ok q.2 := by decide +kernel
def tX7_onLine_2 : List (Nat × Instr × Nat) := [(187, .lcmp, 1), (188, .ifCond .gt 7, 3), (191, .iconst 1, 1), (192, .goto 4, 3), (195, .iconst 0, 1), (196, .ireturn, 1)]
theorem dkX7_onLine_2 : ∀ q ∈ tX7_onLine_2, decode cX7_onLine q.1 = .ok q.2 := by decide +kernel
def tX7_onLine : List (Nat × Instr × Nat) := tX7_onLine_0 ++ (tX7_onLine_1 ++ (tX7_onLine_2))
def mX7_onLine : mM := (yX7_onLine, 7, cX7_onLine, 17, (some .boolean), tX7_onLine, (0, 0, 0, 0), 2, false)
theorem odX7_onLine : mOd mX7_onLine := List.forall_mem_append.mpr ⟨dkX7_onLine_0, List.forall_mem_append.mpr ⟨dkX7_onLine_1, dkX7_onLine_2⟩⟩
set_option maxRecDepth 100000 in
theorem okX7_onLine : mOK mX7_onLine := ⟨by decide +kernel, List.mem_append_right _ (List.mem_of_getElem? (i := 1064) rfl), rfl, ⟨by decide +kernel, by decide +kernel⟩, by decide +kernel, fun h => absurd h (by decide)⟩
def tX7_isFar_0 : List (Nat × Instr × Nat) := [(0, .iload_n 0, 1), (1, .ldc_w 274, 3), (4, .if_icmp .lt 10, 3), (7, .iload_n 0, 1), (8, .ldc_w 275, 3), (11, .if_icmp .le 7, 3), (14, .iconst 1, 1), (15, .goto 4, 3), (18, .iconst 0, 1), (19, .ireturn, 1)]
theorem dkX7_isFar_0 : ∀ q ∈ tX7_isFar_0, decode cX7_isFar q.1 = .ok q.2 := by decide +kernel
def tX7_isFar : List (Nat × Instr × Nat) := tX7_isFar_0
def mX7_isFar : mM := (yX7_isFar, 7, cX7_isFar, 1, (some .boolean), tX7_isFar, (0, 0, 0, 0), 1, false)
theorem odX7_isFar : mOd mX7_isFar := dkX7_isFar_0
set_option maxRecDepth 100000 in
theorem okX7_isFar : mOK mX7_isFar := ⟨by decide +kernel, List.mem_append_right _ (List.mem_of_getElem? (i := 1046) rfl), rfl, ⟨by decide +kernel, by decide +kernel⟩, by decide +kernel, fun h => absurd h (by decide)⟩
def tX7_points_0 : List (Nat × Instr × Nat) := [(0, .aload_n 0, 1), (1, .lload_n 1, 1), (2, .putfield 253, 3), (5, .aload_n 0, 1), (6, .lload_n 3, 1), (7, .putfield 256, 3), (10, .aload_n 0, 1), (11, .lload 5, 2), (13, .putfield 259, 3), (16, .aload_n 0, 1), (17, .lload 7, 2), (19, .putfield 262, 3), (22, .return_, 1)]
theorem dkX7_points_0 : ∀ q ∈ tX7_points_0, decode cX7_points q.1 = .ok q.2 := by decide +kernel
def tX7_points : List (Nat × Instr × Nat) := tX7_points_0
def mX7_points : mM := (yX7_points, 7, cX7_points, 9, none, tX7_points, (0, 0, 0, 0), 4, false)
theorem odX7_points : mOd mX7_points := dkX7_points_0
set_option maxRecDepth 100000 in
theorem okX7_points : mOK mX7_points := ⟨by decide +kernel, List.mem_append_right _ (List.mem_of_getElem? (i := 1056) rfl), rfl, ⟨by decide +kernel, by decide +kernel⟩, by decide +kernel, fun h => absurd h (by decide)⟩
def tX7_in_0 : List (Nat × Instr × Nat) := [(0, .iload_n 1, 1), (1, .invokestatic 133, 3), (4, .ifCond .eq 39, 3), (7, .iload 5, 2), (9, .iconst 1, 1), (10, .if_icmp .lt 33, 3), (13, .iload 5, 2), (15, .sipush 1000, 3), (18, .if_icmp .gt 25, 3), (21, .iload_n 2, 1), (22, .invokestatic 276, 3), (25, .ifCond .ne 18, 3), (28, .iload_n 3, 1), (29, .invokestatic 276, 3), (32, .ifCond .ne 11, 3), (35, .iload 4, 2), (37, .invokestatic 276, 3), (40, .ifCond .eq 5, 3), (43, .iconst (-1), 1), (44, .ireturn, 1), (45, .aload_n 0, 1), (46, .iload_n 1, 1), (47, .iconst 0, 1), (48, .invokevirtual 279, 3), (51, .aload_n 0, 1), (52, .iload_n 2, 1), (53, .i2l, 1), (54, .iload_n 3, 1), (55, .i2l, 1), (56, .iload 4, 2), (58, .i2l, 1), (59, .iload 5, 2), (61, .i2l, 1), (62, .invokevirtual 281, 3), (65, .aload_n 0, 1), (66, .aload_n 0, 1), (67, .getfield 25, 3), (70, .iload_n 1, 1), (71, .iaload, 1), (72, .iconst 0, 1), (73, .invokevirtual 285, 3), (76, .ireturn, 1)]
theorem dkX7_in_0 : ∀ q ∈ tX7_in_0, decode cX7_in q.1 = .ok q.2 := by decide +kernel
def tX7_in : List (Nat × Instr × Nat) := tX7_in_0
def mX7_in : mM := (yX7_in, 7, cX7_in, 6, (some .int), tX7_in, (6, 163, 0, 0), 5, false)
theorem odX7_in : mOd mX7_in := dkX7_in_0
set_option maxRecDepth 100000 in
theorem okX7_in : mOK mX7_in := ⟨by decide +kernel, List.mem_append_right _ (List.mem_of_getElem? (i := 1043) rfl), rfl, ⟨by decide +kernel, by decide +kernel⟩, by decide +kernel, fun h => absurd h (by decide)⟩
def tX7_isSmall_0 : List (Nat × Instr × Nat) := [(0, .iload_n 0, 1), (1, .sipush (-1000), 3), (4, .if_icmp .lt 14, 3), (7, .iload_n 0, 1), (8, .sipush 1000, 3), (11, .if_icmp .gt 7, 3), (14, .iconst 1, 1), (15, .goto 4, 3), (18, .iconst 0, 1), (19, .ireturn, 1)]
theorem dkX7_isSmall_0 : ∀ q ∈ tX7_isSmall_0, decode cX7_isSmall q.1 = .ok q.2 := by decide +kernel
def tX7_isSmall : List (Nat × Instr × Nat) := tX7_isSmall_0
def mX7_isSmall : mM := (yX7_isSmall, 7, cX7_isSmall, 1, (some .boolean), tX7_isSmall, (0, 0, 0, 0), 1, false)
theorem odX7_isSmall : mOd mX7_isSmall := dkX7_isSmall_0
set_option maxRecDepth 100000 in
theorem okX7_isSmall : mOK mX7_isSmall := ⟨by decide +kernel, List.mem_append_right _ (List.mem_of_getElem? (i := 1079) rfl), rfl, ⟨by decide +kernel, by decide +kernel⟩, by decide +kernel, fun h => absurd h (by decide)⟩
def tX7_side_0 : List (Nat × Instr × Nat) := [(0, .iload_n 1, 1), (1, .invokestatic 133, 3), (4, .ifCond .eq 46, 3), (7, .iload_n 2, 1), (8, .invokestatic 289, 3), (11, .ifCond .eq 39, 3), (14, .iload_n 3, 1), (15, .invokestatic 289, 3), (18, .ifCond .eq 32, 3), (21, .iload 4, 2), (23, .invokestatic 289, 3), (26, .ifCond .eq 24, 3), (29, .iload 5, 2), (31, .invokestatic 276, 3), (34, .ifCond .ne 16, 3), (37, .iload_n 2, 1), (38, .ifCond .ne 14, 3), (41, .iload_n 3, 1), (42, .ifCond .ne 10, 3), (45, .iload 4, 2), (47, .ifCond .ne 5, 3), (50, .iconst (-1), 1), (51, .ireturn, 1), (52, .iconst 0, 1), (53, .istore 6, 2), (55, .iconst 0, 1), (56, .istore 7, 2), (58, .iload 7, 2), (60, .aload_n 0, 1), (61, .getfield 22, 3), (64, .iload_n 1, 1), (65, .iaload, 1), (66, .if_icmp .ge 71, 3), (69, .iload_n 2, 1), (70, .aload_n 0, 1), (71, .iload_n 1, 1), (72, .iload 7, 2), (74, .iconst 0, 1), (75, .invokevirtual 292, 3), (78, .imul, 1), (79, .iload_n 3, 1), (80, .aload_n 0, 1), (81, .iload_n 1, 1), (82, .iload 7, 2), (84, .iconst 1, 1), (85, .invokevirtual 292, 3), (88, .imul, 1), (89, .iadd, 1), (90, .iload 4, 2), (92, .aload_n 0, 1), (93, .iload_n 1, 1), (94, .iload 7, 2), (96, .iconst 2, 1), (97, .invokevirtual 292, 3), (100, .imul, 1), (101, .iadd, 1), (102, .iload 5, 2), (104, .isub, 1), (105, .istore 8, 2), (107, .iload 6, 2)]
theorem dkX7_side_0 : ∀ q ∈ tX7_side_0, decode cX7_side q.1 = .ok q.2 := by decide +kernel
def tX7_side_1 : List (Nat × Instr × Nat) := [(109, .iload 8, 2), (111, .ifCond .ge 7, 3), (114, .iconst 1, 1), (115, .goto 13, 3), (118, .iload 8, 2), (120, .ifCond .ne 7, 3), (123, .iconst 2, 1), (124, .goto 4, 3), (127, .iconst 4, 1), (128, .ior, 1), (129, .istore 6, 2), (131, .iinc 7 1, 3), (134, .goto (-76), 3), (137, .iload 6, 2), (139, .ireturn, 1)]
theorem dkX7_side_1 : ∀ q ∈ tX7_side_1, decode cX7_side q.1 = .ok q.2 := by decide +kernel
def tX7_side : List (Nat × Instr × Nat) := tX7_side_0 ++ (tX7_side_1)
def mX7_side : mM := (yX7_side, 7, cX7_side, 9, (some .int), tX7_side, (2, 43, 0, 0), 5, false)
theorem odX7_side : mOd mX7_side := List.forall_mem_append.mpr ⟨dkX7_side_0, dkX7_side_1⟩
set_option maxRecDepth 100000 in
theorem okX7_side : mOK mX7_side := ⟨by decide +kernel, List.mem_append_right _ (List.mem_of_getElem? (i := 1076) rfl), rfl, ⟨by decide +kernel, by decide +kernel⟩, by decide +kernel, fun h => absurd h (by decide)⟩
end
section
def tX7_adds_0 : List (Nat × Instr × Nat) := [(0, .aload_n 0, 1), (1, .lconst 0, 1), (2, .putfield 296, 3), (5, .aload_n 0, 1), (6, .lconst 0, 1), (7, .putfield 299, 3), (10, .aload_n 0, 1), (11, .lconst 0, 1), (12, .putfield 302, 3), (15, .aload_n 0, 1), (16, .lconst 0, 1), (17, .putfield 305, 3), (20, .iconst 0, 1), (21, .istore_n 1, 1), (22, .iload_n 1, 1), (23, .aload_n 0, 1), (24, .getfield 72, 3), (27, .iconst 0, 1), (28, .iaload, 1), (29, .if_icmp .ge 298, 3), (32, .iconst 1, 1), (33, .istore_n 2, 1), (34, .iload_n 2, 1), (35, .iconst 1, 1), (36, .iadd, 1), (37, .aload_n 0, 1), (38, .getfield 87, 3), (41, .iload_n 1, 1), (42, .iaload, 1), (43, .if_icmp .ge 278, 3), (46, .aload_n 0, 1), (47, .getfield 90, 3), (50, .bipush 25, 2), (52, .iload_n 1, 1), (53, .imul, 1), (54, .iaload, 1), (55, .istore_n 3, 1), (56, .aload_n 0, 1), (57, .getfield 90, 3), (60, .bipush 25, 2), (62, .iload_n 1, 1), (63, .imul, 1), (64, .iload_n 2, 1), (65, .iadd, 1), (66, .iaload, 1), (67, .istore 4, 2), (69, .aload_n 0, 1), (70, .getfield 90, 3), (73, .bipush 25, 2), (75, .iload_n 1, 1), (76, .imul, 1), (77, .iload_n 2, 1), (78, .iadd, 1), (79, .iconst 1, 1), (80, .iadd, 1), (81, .iaload, 1), (82, .istore 5, 2), (84, .aload_n 0, 1), (85, .getfield 52, 3), (88, .iload_n 3, 1)]
theorem dkX7_adds_0 : ∀ q ∈ tX7_adds_0, decode cX7_adds q.1 = .ok q.2 := by decide +kernel
def tX7_adds_1 : List (Nat × Instr × Nat) := [(89, .laload, 1), (90, .aload_n 0, 1), (91, .getfield 56, 3), (94, .iload 4, 2), (96, .laload, 1), (97, .aload_n 0, 1), (98, .getfield 59, 3), (101, .iload 5, 2), (103, .laload, 1), (104, .lmul, 1), (105, .aload_n 0, 1), (106, .getfield 59, 3), (109, .iload 4, 2), (111, .laload, 1), (112, .aload_n 0, 1), (113, .getfield 56, 3), (116, .iload 5, 2), (118, .laload, 1), (119, .lmul, 1), (120, .lsub, 1), (121, .lmul, 1), (122, .aload_n 0, 1), (123, .getfield 56, 3), (126, .iload_n 3, 1), (127, .laload, 1), (128, .aload_n 0, 1), (129, .getfield 59, 3), (132, .iload 4, 2), (134, .laload, 1), (135, .aload_n 0, 1), (136, .getfield 52, 3), (139, .iload 5, 2), (141, .laload, 1), (142, .lmul, 1), (143, .aload_n 0, 1), (144, .getfield 52, 3), (147, .iload 4, 2), (149, .laload, 1), (150, .aload_n 0, 1), (151, .getfield 59, 3), (154, .iload 5, 2), (156, .laload, 1), (157, .lmul, 1), (158, .lsub, 1), (159, .lmul, 1), (160, .ladd, 1), (161, .aload_n 0, 1), (162, .getfield 59, 3), (165, .iload_n 3, 1), (166, .laload, 1), (167, .aload_n 0, 1), (168, .getfield 52, 3), (171, .iload 4, 2), (173, .laload, 1), (174, .aload_n 0, 1), (175, .getfield 56, 3), (178, .iload 5, 2), (180, .laload, 1), (181, .lmul, 1), (182, .aload_n 0, 1)]
theorem dkX7_adds_1 : ∀ q ∈ tX7_adds_1, decode cX7_adds q.1 = .ok q.2 := by decide +kernel
def tX7_adds_2 : List (Nat × Instr × Nat) := [(183, .getfield 56, 3), (186, .iload 4, 2), (188, .laload, 1), (189, .aload_n 0, 1), (190, .getfield 52, 3), (193, .iload 5, 2), (195, .laload, 1), (196, .lmul, 1), (197, .lsub, 1), (198, .lmul, 1), (199, .ladd, 1), (200, .lstore 6, 2), (202, .aload_n 0, 1), (203, .dup, 1), (204, .getfield 296, 3), (207, .lload 6, 2), (209, .ladd, 1), (210, .putfield 296, 3), (213, .aload_n 0, 1), (214, .dup, 1), (215, .getfield 299, 3), (218, .lload 6, 2), (220, .aload_n 0, 1), (221, .getfield 52, 3), (224, .iload_n 3, 1), (225, .laload, 1), (226, .aload_n 0, 1), (227, .getfield 52, 3), (230, .iload 4, 2), (232, .laload, 1), (233, .ladd, 1), (234, .aload_n 0, 1), (235, .getfield 52, 3), (238, .iload 5, 2), (240, .laload, 1), (241, .ladd, 1), (242, .lmul, 1), (243, .ladd, 1), (244, .putfield 299, 3), (247, .aload_n 0, 1), (248, .dup, 1), (249, .getfield 302, 3), (252, .lload 6, 2), (254, .aload_n 0, 1), (255, .getfield 56, 3), (258, .iload_n 3, 1), (259, .laload, 1), (260, .aload_n 0, 1), (261, .getfield 56, 3), (264, .iload 4, 2), (266, .laload, 1), (267, .ladd, 1), (268, .aload_n 0, 1), (269, .getfield 56, 3), (272, .iload 5, 2), (274, .laload, 1), (275, .ladd, 1), (276, .lmul, 1), (277, .ladd, 1), (278, .putfield 302, 3)]
theorem dkX7_adds_2 : ∀ q ∈ tX7_adds_2, decode cX7_adds q.1 = .ok q.2 := by decide +kernel
def tX7_adds_3 : List (Nat × Instr × Nat) := [(281, .aload_n 0, 1), (282, .dup, 1), (283, .getfield 305, 3), (286, .lload 6, 2), (288, .aload_n 0, 1), (289, .getfield 59, 3), (292, .iload_n 3, 1), (293, .laload, 1), (294, .aload_n 0, 1), (295, .getfield 59, 3), (298, .iload 4, 2), (300, .laload, 1), (301, .ladd, 1), (302, .aload_n 0, 1), (303, .getfield 59, 3), (306, .iload 5, 2), (308, .laload, 1), (309, .ladd, 1), (310, .lmul, 1), (311, .ladd, 1), (312, .putfield 305, 3), (315, .iinc 2 1, 3), (318, .goto (-284), 3), (321, .iinc 1 1, 3), (324, .goto (-302), 3), (327, .return_, 1)]
theorem dkX7_adds_3 : ∀ q ∈ tX7_adds_3, decode cX7_adds q.1 = .ok q.2 := by decide +kernel
def tX7_adds : List (Nat × Instr × Nat) := tX7_adds_0 ++ (tX7_adds_1 ++ (tX7_adds_2 ++ (tX7_adds_3)))
def mX7_adds : mM := (yX7_adds, 7, cX7_adds, 8, none, tX7_adds, (0, 0, 0, 0), 0, false)
theorem odX7_adds : mOd mX7_adds := List.forall_mem_append.mpr ⟨dkX7_adds_0, List.forall_mem_append.mpr ⟨dkX7_adds_1, List.forall_mem_append.mpr ⟨dkX7_adds_2, dkX7_adds_3⟩⟩⟩
set_option maxRecDepth 100000 in
theorem okX7_adds : mOK mX7_adds := ⟨by decide +kernel, List.mem_append_right _ (List.mem_of_getElem? (i := 1088) rfl), rfl, ⟨by decide +kernel, by decide +kernel⟩, by decide +kernel, fun h => absurd h (by decide)⟩
def tX7_volume_0 : List (Nat × Instr × Nat) := [(0, .iload_n 1, 1), (1, .invokestatic 133, 3), (4, .ifCond .ne 7, 3), (7, .ldc2_w 168, 3), (10, .lreturn, 1), (11, .aload_n 0, 1), (12, .getfield 25, 3), (15, .iload_n 1, 1), (16, .iaload, 1), (17, .iconst 4, 1), (18, .if_icmp .ge 5, 3), (21, .lconst 0, 1), (22, .lreturn, 1), (23, .aload_n 0, 1), (24, .iload_n 1, 1), (25, .iconst 0, 1), (26, .invokevirtual 244, 3), (29, .aload_n 0, 1), (30, .invokevirtual 308, 3), (33, .aload_n 0, 1), (34, .getfield 296, 3), (37, .lreturn, 1)]
theorem dkX7_volume_0 : ∀ q ∈ tX7_volume_0, decode cX7_volume q.1 = .ok q.2 := by decide +kernel
def tX7_volume : List (Nat × Instr × Nat) := tX7_volume_0
def mX7_volume : mM := (yX7_volume, 7, cX7_volume, 2, (some .long), tX7_volume, (5, 140, 0, 0), 1, false)
theorem odX7_volume : mOd mX7_volume := dkX7_volume_0
set_option maxRecDepth 100000 in
theorem okX7_volume : mOK mX7_volume := ⟨by decide +kernel, List.mem_append_right _ (List.mem_of_getElem? (i := 1084) rfl), rfl, ⟨by decide +kernel, by decide +kernel⟩, by decide +kernel, fun h => absurd h (by decide)⟩
def tX7_middle_0 : List (Nat × Instr × Nat) := [(0, .iload_n 1, 1), (1, .invokestatic 133, 3), (4, .ifCond .eq 31, 3), (7, .aload_n 0, 1), (8, .getfield 25, 3), (11, .iload_n 1, 1), (12, .iaload, 1), (13, .iconst 4, 1), (14, .if_icmp .lt 21, 3), (17, .iload_n 2, 1), (18, .ifCond .lt 17, 3), (21, .iload_n 2, 1), (22, .iconst 2, 1), (23, .if_icmp .gt 12, 3), (26, .iload_n 3, 1), (27, .ifCond .eq 10, 3), (30, .iload_n 3, 1), (31, .iconst 1, 1), (32, .if_icmp .eq 5, 3), (35, .lconst 0, 1), (36, .lreturn, 1), (37, .aload_n 0, 1), (38, .iload_n 1, 1), (39, .iconst 0, 1), (40, .invokevirtual 244, 3), (43, .aload_n 0, 1), (44, .invokevirtual 308, 3), (47, .iload_n 2, 1), (48, .ifCond .ne 10, 3), (51, .aload_n 0, 1), (52, .getfield 299, 3), (55, .goto 19, 3), (58, .iload_n 2, 1), (59, .iconst 1, 1), (60, .if_icmp .ne 10, 3), (63, .aload_n 0, 1), (64, .getfield 302, 3), (67, .goto 7, 3), (70, .aload_n 0, 1), (71, .getfield 305, 3), (74, .lstore 4, 2), (76, .lload 4, 2), (78, .ldc2_w 311, 3), (81, .aload_n 0, 1), (82, .getfield 296, 3), (85, .lmul, 1), (86, .invokestatic 158, 3), (89, .lstore 6, 2), (91, .iload_n 3, 1), (92, .ifCond .ne 11, 3), (95, .lload 4, 2), (97, .lload 6, 2), (99, .ldiv, 1), (100, .goto 14, 3), (103, .ldc2_w 311, 3), (106, .aload_n 0, 1), (107, .getfield 296, 3), (110, .lmul, 1), (111, .lload 6, 2), (113, .ldiv, 1)]
theorem dkX7_middle_0 : ∀ q ∈ tX7_middle_0, decode cX7_middle q.1 = .ok q.2 := by decide +kernel
def tX7_middle_1 : List (Nat × Instr × Nat) := [(114, .lreturn, 1)]
theorem dkX7_middle_1 : ∀ q ∈ tX7_middle_1, decode cX7_middle q.1 = .ok q.2 := by decide +kernel
def tX7_middle : List (Nat × Instr × Nat) := tX7_middle_0 ++ (tX7_middle_1)
def mX7_middle : mM := (yX7_middle, 7, cX7_middle, 8, (some .long), tX7_middle, (5, 140, 0, 0), 3, false)
theorem odX7_middle : mOd mX7_middle := List.forall_mem_append.mpr ⟨dkX7_middle_0, dkX7_middle_1⟩
set_option maxRecDepth 100000 in
theorem okX7_middle : mOK mX7_middle := ⟨by decide +kernel, List.mem_append_right _ (List.mem_of_getElem? (i := 1092) rfl), rfl, ⟨by decide +kernel, by decide +kernel⟩, by decide +kernel, fun h => absurd h (by decide)⟩
def tX7_far_0 : List (Nat × Instr × Nat) := [(0, .iload_n 1, 1), (1, .invokestatic 133, 3), (4, .ifCond .eq 13, 3), (7, .aload_n 0, 1), (8, .getfield 22, 3), (11, .iload_n 1, 1), (12, .iaload, 1), (13, .iconst 2, 1), (14, .if_icmp .ge 5, 3), (17, .iconst (-1), 1), (18, .ireturn, 1), (19, .aload_n 0, 1), (20, .iload_n 1, 1), (21, .invokevirtual 226, 3), (24, .iconst 0, 1), (25, .istore_n 3, 1), (26, .iconst 1, 1), (27, .istore 4, 2), (29, .iconst 0, 1), (30, .istore 5, 2), (32, .iload 5, 2), (34, .aload_n 0, 1), (35, .getfield 145, 3), (38, .if_icmp .ge 59, 3), (41, .iload 5, 2), (43, .iconst 1, 1), (44, .iadd, 1), (45, .istore 6, 2), (47, .iload 6, 2), (49, .aload_n 0, 1), (50, .getfield 145, 3), (53, .if_icmp .ge 38, 3), (56, .aload_n 0, 1), (57, .iload 5, 2), (59, .iload 6, 2), (61, .invokevirtual 174, 3), (64, .aload_n 0, 1), (65, .iload_n 3, 1), (66, .iload 4, 2), (68, .invokevirtual 174, 3), (71, .lcmp, 1), (72, .ifCond .gt 6, 3), (75, .goto 10, 3), (78, .iload 5, 2), (80, .istore_n 3, 1), (81, .iload 6, 2), (83, .istore 4, 2), (85, .iinc 6 1, 3), (88, .goto (-41), 3), (91, .iinc 5 1, 3), (94, .goto (-62), 3), (97, .iload_n 2, 1), (98, .ifCond .ne 7, 3), (101, .iload_n 3, 1), (102, .goto 30, 3), (105, .iload_n 2, 1), (106, .iconst 1, 1), (107, .if_icmp .ne 8, 3), (110, .iload 4, 2), (112, .goto 20, 3)]
theorem dkX7_far_0 : ∀ q ∈ tX7_far_0, decode cX7_far q.1 = .ok q.2 := by decide +kernel
def tX7_far_1 : List (Nat × Instr × Nat) := [(115, .iload_n 2, 1), (116, .iconst 2, 1), (117, .if_icmp .ne 14, 3), (120, .aload_n 0, 1), (121, .iload_n 3, 1), (122, .iload 4, 2), (124, .invokevirtual 174, 3), (127, .l2i, 1), (128, .goto 4, 3), (131, .iconst (-1), 1), (132, .ireturn, 1)]
theorem dkX7_far_1 : ∀ q ∈ tX7_far_1, decode cX7_far q.1 = .ok q.2 := by decide +kernel
def tX7_far : List (Nat × Instr × Nat) := tX7_far_0 ++ (tX7_far_1)
def mX7_far : mM := (yX7_far, 7, cX7_far, 7, (some .int), tX7_far, (2, 50, 0, 0), 2, false)
theorem odX7_far : mOd mX7_far := List.forall_mem_append.mpr ⟨dkX7_far_0, dkX7_far_1⟩
set_option maxRecDepth 100000 in
theorem okX7_far : mOK mX7_far := ⟨by decide +kernel, List.mem_append_right _ (List.mem_of_getElem? (i := 1097) rfl), rfl, ⟨by decide +kernel, by decide +kernel⟩, by decide +kernel, fun h => absurd h (by decide)⟩
def tX7_fractions_0 : List (Nat × Instr × Nat) := [(0, .lload_n 0, 1), (1, .lstore 8, 2), (3, .lload_n 2, 1), (4, .lstore 10, 2), (6, .lload 4, 2), (8, .lstore 12, 2), (10, .lload 6, 2), (12, .lstore 14, 2), (14, .iconst 1, 1), (15, .istore 16, 2), (17, .lload 8, 2), (19, .lload 10, 2), (21, .ldiv, 1), (22, .lstore 17, 2), (24, .lload 12, 2), (26, .lload 14, 2), (28, .ldiv, 1), (29, .lstore 19, 2), (31, .lload 17, 2), (33, .lload 19, 2), (35, .lcmp, 1), (36, .ifCond .eq 20, 3), (39, .lload 17, 2), (41, .lload 19, 2), (43, .lcmp, 1), (44, .ifCond .le 8, 3), (47, .iload 16, 2), (49, .goto 6, 3), (52, .iload 16, 2), (54, .ineg, 1), (55, .ireturn, 1), (56, .lload 8, 2), (58, .lload 17, 2), (60, .lload 10, 2), (62, .lmul, 1), (63, .lsub, 1), (64, .lstore 8, 2), (66, .lload 12, 2), (68, .lload 19, 2), (70, .lload 14, 2), (72, .lmul, 1), (73, .lsub, 1), (74, .lstore 12, 2), (76, .lload 8, 2), (78, .lconst 0, 1), (79, .lcmp, 1), (80, .ifCond .eq 10, 3), (83, .lload 12, 2), (85, .lconst 0, 1), (86, .lcmp, 1), (87, .ifCond .ne 31, 3), (90, .lload 8, 2), (92, .lload 12, 2), (94, .lcmp, 1), (95, .ifCond .ne 7, 3), (98, .iconst 0, 1), (99, .goto 18, 3), (102, .lload 8, 2), (104, .lconst 0, 1), (105, .lcmp, 1)]
theorem dkX7_fractions_0 : ∀ q ∈ tX7_fractions_0, decode cX7_fractions q.1 = .ok q.2 := by decide +kernel
def tX7_fractions_1 : List (Nat × Instr × Nat) := [(106, .ifCond .ne 9, 3), (109, .iload 16, 2), (111, .ineg, 1), (112, .goto 5, 3), (115, .iload 16, 2), (117, .ireturn, 1), (118, .lload 8, 2), (120, .lstore 21, 2), (122, .lload 10, 2), (124, .lstore 8, 2), (126, .lload 21, 2), (128, .lstore 10, 2), (130, .lload 12, 2), (132, .lstore 21, 2), (134, .lload 14, 2), (136, .lstore 12, 2), (138, .lload 21, 2), (140, .lstore 14, 2), (142, .iload 16, 2), (144, .ineg, 1), (145, .istore 16, 2), (147, .goto (-130), 3)]
theorem dkX7_fractions_1 : ∀ q ∈ tX7_fractions_1, decode cX7_fractions q.1 = .ok q.2 := by decide +kernel
def tX7_fractions : List (Nat × Instr × Nat) := tX7_fractions_0 ++ (tX7_fractions_1)
def mX7_fractions : mM := (yX7_fractions, 7, cX7_fractions, 23, (some .int), tX7_fractions, (0, 0, 0, 0), 4, false)
theorem odX7_fractions : mOd mX7_fractions := List.forall_mem_append.mpr ⟨dkX7_fractions_0, dkX7_fractions_1⟩
set_option maxRecDepth 100000 in
theorem okX7_fractions : mOK mX7_fractions := ⟨by decide +kernel, List.mem_append_right _ (List.mem_of_getElem? (i := 1112) rfl), rfl, ⟨by decide +kernel, by decide +kernel⟩, by decide +kernel, fun h => absurd h (by decide)⟩
def tX7_tries_0 : List (Nat × Instr × Nat) := [(0, .aload_n 0, 1), (1, .getfield 313, 3), (4, .ifCond .eq 20, 3), (7, .lload_n 1, 1), (8, .lload_n 3, 1), (9, .aload_n 0, 1), (10, .getfield 317, 3), (13, .aload_n 0, 1), (14, .getfield 320, 3), (17, .invokestatic 323, 3), (20, .ifCond .lt 4, 3), (23, .return_, 1), (24, .aload_n 0, 1), (25, .iconst 1, 1), (26, .putfield 313, 3), (29, .aload_n 0, 1), (30, .lload_n 1, 1), (31, .putfield 317, 3), (34, .aload_n 0, 1), (35, .lload_n 3, 1), (36, .putfield 320, 3), (39, .return_, 1)]
theorem dkX7_tries_0 : ∀ q ∈ tX7_tries_0, decode cX7_tries q.1 = .ok q.2 := by decide +kernel
def tX7_tries : List (Nat × Instr × Nat) := tX7_tries_0
def mX7_tries : mM := (yX7_tries, 7, cX7_tries, 5, none, tX7_tries, (1, 42, 0, 0), 2, false)
theorem odX7_tries : mOd mX7_tries := dkX7_tries_0
set_option maxRecDepth 100000 in
theorem okX7_tries : mOK mX7_tries := ⟨by decide +kernel, List.mem_append_right _ (List.mem_of_getElem? (i := 1109) rfl), rfl, ⟨by decide +kernel, by decide +kernel⟩, by decide +kernel, fun h => absurd h (by decide)⟩
def tX7_told_0 : List (Nat × Instr × Nat) := [(0, .aload_n 0, 1), (1, .getfield 317, 3), (4, .aload_n 0, 1), (5, .getfield 320, 3), (8, .invokestatic 158, 3), (11, .lstore_n 2, 1), (12, .iload_n 1, 1), (13, .ifCond .ne 12, 3), (16, .aload_n 0, 1), (17, .getfield 317, 3), (20, .lload_n 2, 1), (21, .ldiv, 1), (22, .goto 20, 3), (25, .iload_n 1, 1), (26, .iconst 1, 1), (27, .if_icmp .ne 12, 3), (30, .aload_n 0, 1), (31, .getfield 320, 3), (34, .lload_n 2, 1), (35, .ldiv, 1), (36, .goto 6, 3), (39, .ldc2_w 168, 3), (42, .lreturn, 1)]
theorem dkX7_told_0 : ∀ q ∈ tX7_told_0, decode cX7_told q.1 = .ok q.2 := by decide +kernel
def tX7_told : List (Nat × Instr × Nat) := tX7_told_0
def mX7_told : mM := (yX7_told, 7, cX7_told, 4, (some .long), tX7_told, (1, 29, 0, 0), 1, false)
theorem odX7_told : mOd mX7_told := dkX7_told_0
set_option maxRecDepth 100000 in
theorem okX7_told : mOK mX7_told := ⟨by decide +kernel, List.mem_append_right _ (List.mem_of_getElem? (i := 1120) rfl), rfl, ⟨by decide +kernel, by decide +kernel⟩, by decide +kernel, fun h => absurd h (by decide)⟩
def tX7_thick_0 : List (Nat × Instr × Nat) := [(0, .aload_n 0, 1), (1, .invokevirtual 182, 3), (4, .ifCond .eq 4, 3), (7, .return_, 1), (8, .aload_n 0, 1), (9, .invokevirtual 186, 3), (12, .aload_n 0, 1), (13, .iconst 0, 1), (14, .invokevirtual 189, 3), (17, .lstore_n 1, 1), (18, .lload_n 1, 1), (19, .lstore_n 3, 1), (20, .iconst 1, 1), (21, .istore 5, 2), (23, .iload 5, 2), (25, .aload_n 0, 1), (26, .getfield 145, 3), (29, .if_icmp .ge 37, 3), (32, .aload_n 0, 1), (33, .iload 5, 2), (35, .invokevirtual 189, 3), (38, .lstore 6, 2), (40, .lload 6, 2), (42, .lload_n 1, 1), (43, .lcmp, 1), (44, .ifCond .ge 6, 3), (47, .lload 6, 2), (49, .lstore_n 1, 1), (50, .lload 6, 2), (52, .lload_n 3, 1), (53, .lcmp, 1), (54, .ifCond .le 6, 3), (57, .lload 6, 2), (59, .lstore_n 3, 1), (60, .iinc 5 1, 3), (63, .goto (-40), 3), (66, .aload_n 0, 1), (67, .lload_n 3, 1), (68, .lload_n 1, 1), (69, .lsub, 1), (70, .lload_n 3, 1), (71, .lload_n 1, 1), (72, .lsub, 1), (73, .lmul, 1), (74, .aload_n 0, 1), (75, .getfield 148, 3), (78, .aload_n 0, 1), (79, .getfield 148, 3), (82, .lmul, 1), (83, .aload_n 0, 1), (84, .getfield 152, 3), (87, .aload_n 0, 1), (88, .getfield 152, 3), (91, .lmul, 1), (92, .ladd, 1), (93, .aload_n 0, 1), (94, .getfield 155, 3), (97, .aload_n 0, 1), (98, .getfield 155, 3), (101, .lmul, 1)]
theorem dkX7_thick_0 : ∀ q ∈ tX7_thick_0, decode cX7_thick q.1 = .ok q.2 := by decide +kernel
def tX7_thick_1 : List (Nat × Instr × Nat) := [(102, .ladd, 1), (103, .invokevirtual 327, 3), (106, .return_, 1)]
theorem dkX7_thick_1 : ∀ q ∈ tX7_thick_1, decode cX7_thick q.1 = .ok q.2 := by decide +kernel
def tX7_thick : List (Nat × Instr × Nat) := tX7_thick_0 ++ (tX7_thick_1)
def mX7_thick : mM := (yX7_thick, 7, cX7_thick, 8, none, tX7_thick, (2, 66, 0, 0), 0, false)
theorem odX7_thick : mOd mX7_thick := List.forall_mem_append.mpr ⟨dkX7_thick_0, dkX7_thick_1⟩
set_option maxRecDepth 100000 in
theorem okX7_thick : mOK mX7_thick := ⟨by decide +kernel, List.mem_append_right _ (List.mem_of_getElem? (i := 1105) rfl), rfl, ⟨by decide +kernel, by decide +kernel⟩, by decide +kernel, fun h => absurd h (by decide)⟩
def tX7_width_0 : List (Nat × Instr × Nat) := [(0, .iload_n 1, 1), (1, .invokestatic 133, 3), (4, .ifCond .eq 13, 3), (7, .aload_n 0, 1), (8, .getfield 25, 3), (11, .iload_n 1, 1), (12, .iaload, 1), (13, .iconst 4, 1), (14, .if_icmp .ge 7, 3), (17, .ldc2_w 168, 3), (20, .lreturn, 1), (21, .aload_n 0, 1), (22, .iload_n 1, 1), (23, .iconst 0, 1), (24, .invokevirtual 244, 3), (27, .aload_n 0, 1), (28, .iconst 0, 1), (29, .putfield 313, 3), (32, .iconst 0, 1), (33, .istore_n 3, 1), (34, .iload_n 3, 1), (35, .aload_n 0, 1), (36, .getfield 72, 3), (39, .iconst 0, 1), (40, .iaload, 1), (41, .if_icmp .ge 43, 3), (44, .aload_n 0, 1), (45, .aload_n 0, 1), (46, .getfield 75, 3), (49, .iload_n 3, 1), (50, .laload, 1), (51, .putfield 148, 3), (54, .aload_n 0, 1), (55, .aload_n 0, 1), (56, .getfield 78, 3), (59, .iload_n 3, 1), (60, .laload, 1), (61, .putfield 152, 3), (64, .aload_n 0, 1), (65, .aload_n 0, 1), (66, .getfield 81, 3), (69, .iload_n 3, 1), (70, .laload, 1), (71, .putfield 155, 3), (74, .aload_n 0, 1), (75, .invokevirtual 331, 3), (78, .iinc 3 1, 3), (81, .goto (-47), 3), (84, .iconst 0, 1), (85, .istore_n 3, 1), (86, .iload_n 3, 1), (87, .aload_n 0, 1), (88, .getfield 93, 3), (91, .iconst 0, 1), (92, .iaload, 1), (93, .if_icmp .ge 183, 3), (96, .iload_n 3, 1), (97, .iconst 1, 1), (98, .iadd, 1), (99, .istore 4, 2)]
theorem dkX7_width_0 : ∀ q ∈ tX7_width_0, decode cX7_width q.1 = .ok q.2 := by decide +kernel
def tX7_width_1 : List (Nat × Instr × Nat) := [(101, .iload 4, 2), (103, .aload_n 0, 1), (104, .getfield 93, 3), (107, .iconst 0, 1), (108, .iaload, 1), (109, .if_icmp .ge 161, 3), (112, .aload_n 0, 1), (113, .aload_n 0, 1), (114, .getfield 52, 3), (117, .aload_n 0, 1), (118, .getfield 99, 3), (121, .iload_n 3, 1), (122, .iaload, 1), (123, .laload, 1), (124, .aload_n 0, 1), (125, .getfield 52, 3), (128, .aload_n 0, 1), (129, .getfield 96, 3), (132, .iload_n 3, 1), (133, .iaload, 1), (134, .laload, 1), (135, .lsub, 1), (136, .aload_n 0, 1), (137, .getfield 56, 3), (140, .aload_n 0, 1), (141, .getfield 99, 3), (144, .iload_n 3, 1), (145, .iaload, 1), (146, .laload, 1), (147, .aload_n 0, 1), (148, .getfield 56, 3), (151, .aload_n 0, 1), (152, .getfield 96, 3), (155, .iload_n 3, 1), (156, .iaload, 1), (157, .laload, 1), (158, .lsub, 1), (159, .aload_n 0, 1), (160, .getfield 59, 3), (163, .aload_n 0, 1), (164, .getfield 99, 3), (167, .iload_n 3, 1), (168, .iaload, 1), (169, .laload, 1), (170, .aload_n 0, 1), (171, .getfield 59, 3), (174, .aload_n 0, 1), (175, .getfield 96, 3), (178, .iload_n 3, 1), (179, .iaload, 1), (180, .laload, 1), (181, .lsub, 1), (182, .aload_n 0, 1), (183, .getfield 52, 3), (186, .aload_n 0, 1), (187, .getfield 99, 3), (190, .iload 4, 2), (192, .iaload, 1), (193, .laload, 1), (194, .aload_n 0, 1)]
theorem dkX7_width_1 : ∀ q ∈ tX7_width_1, decode cX7_width q.1 = .ok q.2 := by decide +kernel
def tX7_width_2 : List (Nat × Instr × Nat) := [(195, .getfield 52, 3), (198, .aload_n 0, 1), (199, .getfield 96, 3), (202, .iload 4, 2), (204, .iaload, 1), (205, .laload, 1), (206, .lsub, 1), (207, .aload_n 0, 1), (208, .getfield 56, 3), (211, .aload_n 0, 1), (212, .getfield 99, 3), (215, .iload 4, 2), (217, .iaload, 1), (218, .laload, 1), (219, .aload_n 0, 1), (220, .getfield 56, 3), (223, .aload_n 0, 1), (224, .getfield 96, 3), (227, .iload 4, 2), (229, .iaload, 1), (230, .laload, 1), (231, .lsub, 1), (232, .aload_n 0, 1), (233, .getfield 59, 3), (236, .aload_n 0, 1), (237, .getfield 99, 3), (240, .iload 4, 2), (242, .iaload, 1), (243, .laload, 1), (244, .aload_n 0, 1), (245, .getfield 59, 3), (248, .aload_n 0, 1), (249, .getfield 96, 3), (252, .iload 4, 2), (254, .iaload, 1), (255, .laload, 1), (256, .lsub, 1), (257, .invokevirtual 334, 3), (260, .aload_n 0, 1), (261, .invokevirtual 331, 3), (264, .iinc 4 1, 3), (267, .goto (-166), 3), (270, .iinc 3 1, 3), (273, .goto (-187), 3), (276, .aload_n 0, 1), (277, .iload_n 2, 1), (278, .invokevirtual 338, 3), (281, .lreturn, 1)]
theorem dkX7_width_2 : ∀ q ∈ tX7_width_2, decode cX7_width q.1 = .ok q.2 := by decide +kernel
def tX7_width : List (Nat × Instr × Nat) := tX7_width_0 ++ (tX7_width_1 ++ (tX7_width_2))
def mX7_width : mM := (yX7_width, 7, cX7_width, 5, (some .long), tX7_width, (5, 140, 0, 0), 2, false)
theorem odX7_width : mOd mX7_width := List.forall_mem_append.mpr ⟨dkX7_width_0, List.forall_mem_append.mpr ⟨dkX7_width_1, dkX7_width_2⟩⟩
set_option maxRecDepth 100000 in
theorem okX7_width : mOK mX7_width := ⟨by decide +kernel, List.mem_append_right _ (List.mem_of_getElem? (i := 1101) rfl), rfl, ⟨by decide +kernel, by decide +kernel⟩, by decide +kernel, fun h => absurd h (by decide)⟩
def tX7_crosses_0 : List (Nat × Instr × Nat) := [(0, .aload_n 0, 1), (1, .lload_n 3, 1), (2, .lload 11, 2), (4, .lmul, 1), (5, .lload 5, 2), (7, .lload 9, 2), (9, .lmul, 1), (10, .lsub, 1), (11, .putfield 148, 3), (14, .aload_n 0, 1), (15, .lload 5, 2), (17, .lload 7, 2), (19, .lmul, 1), (20, .lload_n 1, 1), (21, .lload 11, 2), (23, .lmul, 1), (24, .lsub, 1), (25, .putfield 152, 3), (28, .aload_n 0, 1), (29, .lload_n 1, 1), (30, .lload 9, 2), (32, .lmul, 1), (33, .lload_n 3, 1), (34, .lload 7, 2), (36, .lmul, 1), (37, .lsub, 1), (38, .putfield 155, 3), (41, .return_, 1)]
theorem dkX7_crosses_0 : ∀ q ∈ tX7_crosses_0, decode cX7_crosses q.1 = .ok q.2 := by decide +kernel
def tX7_crosses : List (Nat × Instr × Nat) := tX7_crosses_0
def mX7_crosses : mM := (yX7_crosses, 7, cX7_crosses, 13, none, tX7_crosses, (0, 0, 0, 0), 6, false)
theorem odX7_crosses : mOd mX7_crosses := dkX7_crosses_0
set_option maxRecDepth 100000 in
theorem okX7_crosses : mOK mX7_crosses := ⟨by decide +kernel, List.mem_append_right _ (List.mem_of_getElem? (i := 1116) rfl), rfl, ⟨by decide +kernel, by decide +kernel⟩, by decide +kernel, fun h => absurd h (by decide)⟩
def tX7_along_0 : List (Nat × Instr × Nat) := [(0, .aload_n 0, 1), (1, .getfield 148, 3), (4, .aload_n 0, 1), (5, .getfield 108, 3), (8, .iload_n 1, 1), (9, .laload, 1), (10, .lmul, 1), (11, .aload_n 0, 1), (12, .getfield 152, 3), (15, .aload_n 0, 1), (16, .getfield 111, 3), (19, .iload_n 1, 1), (20, .laload, 1), (21, .lmul, 1), (22, .ladd, 1), (23, .aload_n 0, 1), (24, .getfield 155, 3), (27, .aload_n 0, 1), (28, .getfield 114, 3), (31, .iload_n 1, 1), (32, .laload, 1), (33, .lmul, 1), (34, .ladd, 1), (35, .lreturn, 1)]
theorem dkX7_along_0 : ∀ q ∈ tX7_along_0, decode cX7_along q.1 = .ok q.2 := by decide +kernel
def tX7_along : List (Nat × Instr × Nat) := tX7_along_0
def mX7_along : mM := (yX7_along, 7, cX7_along, 2, (some .long), tX7_along, (0, 0, 0, 0), 1, false)
theorem odX7_along : mOd mX7_along := dkX7_along_0
set_option maxRecDepth 100000 in
theorem okX7_along : mOK mX7_along := ⟨by decide +kernel, List.mem_append_right _ (List.mem_of_getElem? (i := 1140) rfl), rfl, ⟨by decide +kernel, by decide +kernel⟩, by decide +kernel, fun h => absurd h (by decide)⟩
def tX7_highest_0 : List (Nat × Instr × Nat) := [(0, .aload_n 0, 1), (1, .bipush 24, 2), (3, .iload_n 1, 1), (4, .imul, 1), (5, .invokevirtual 341, 3), (8, .lstore_n 2, 1), (9, .iconst 1, 1), (10, .istore 4, 2), (12, .iload 4, 2), (14, .aload_n 0, 1), (15, .getfield 117, 3), (18, .iload_n 1, 1), (19, .iaload, 1), (20, .if_icmp .ge 37, 3), (23, .aload_n 0, 1), (24, .bipush 24, 2), (26, .iload_n 1, 1), (27, .imul, 1), (28, .iload 4, 2), (30, .iadd, 1), (31, .invokevirtual 341, 3), (34, .lload_n 2, 1), (35, .lcmp, 1), (36, .ifCond .le 15, 3), (39, .aload_n 0, 1), (40, .bipush 24, 2), (42, .iload_n 1, 1), (43, .imul, 1), (44, .iload 4, 2), (46, .iadd, 1), (47, .invokevirtual 341, 3), (50, .lstore_n 2, 1), (51, .iinc 4 1, 3), (54, .goto (-42), 3), (57, .lload_n 2, 1), (58, .lreturn, 1)]
theorem dkX7_highest_0 : ∀ q ∈ tX7_highest_0, decode cX7_highest q.1 = .ok q.2 := by decide +kernel
def tX7_highest : List (Nat × Instr × Nat) := tX7_highest_0
def mX7_highest : mM := (yX7_highest, 7, cX7_highest, 5, (some .long), tX7_highest, (1, 21, 0, 0), 1, false)
theorem odX7_highest : mOd mX7_highest := dkX7_highest_0
set_option maxRecDepth 100000 in
theorem okX7_highest : mOK mX7_highest := ⟨by decide +kernel, List.mem_append_right _ (List.mem_of_getElem? (i := 1136) rfl), rfl, ⟨by decide +kernel, by decide +kernel⟩, by decide +kernel, fun h => absurd h (by decide)⟩
def tX7_looks_0 : List (Nat × Instr × Nat) := [(0, .aload_n 0, 1), (1, .invokevirtual 182, 3), (4, .ifCond .ne 10, 3), (7, .aload_n 0, 1), (8, .getfield 344, 3), (11, .ifCond .eq 4, 3), (14, .return_, 1), (15, .aload_n 0, 1), (16, .invokevirtual 186, 3), (19, .aload_n 0, 1), (20, .iconst 0, 1), (21, .invokevirtual 347, 3), (24, .lstore_n 1, 1), (25, .aload_n 0, 1), (26, .iconst 1, 1), (27, .invokevirtual 347, 3), (30, .lstore_n 3, 1), (31, .aload_n 0, 1), (32, .iconst 0, 1), (33, .putfield 145, 3), (36, .iconst 0, 1), (37, .istore 5, 2), (39, .iload 5, 2), (41, .aload_n 0, 1), (42, .getfield 117, 3), (45, .iconst 0, 1), (46, .iaload, 1), (47, .if_icmp .ge 115, 3), (50, .aload_n 0, 1), (51, .iload 5, 2), (53, .invokevirtual 341, 3), (56, .lload_n 1, 1), (57, .lcmp, 1), (58, .ifCond .eq 6, 3), (61, .goto 95, 3), (64, .iconst 0, 1), (65, .istore 6, 2), (67, .iload 6, 2), (69, .aload_n 0, 1), (70, .getfield 117, 3), (73, .iconst 1, 1), (74, .iaload, 1), (75, .if_icmp .ge 81, 3), (78, .aload_n 0, 1), (79, .bipush 24, 2), (81, .iload 6, 2), (83, .iadd, 1), (84, .invokevirtual 341, 3), (87, .lload_n 3, 1), (88, .lcmp, 1), (89, .ifCond .ne 61, 3), (92, .aload_n 0, 1), (93, .aload_n 0, 1), (94, .getfield 108, 3), (97, .iload 5, 2), (99, .laload, 1), (100, .aload_n 0, 1), (101, .getfield 108, 3), (104, .bipush 24, 2), (106, .iload 6, 2)]
theorem dkX7_looks_0 : ∀ q ∈ tX7_looks_0, decode cX7_looks q.1 = .ok q.2 := by decide +kernel
def tX7_looks_1 : List (Nat × Instr × Nat) := [(108, .iadd, 1), (109, .laload, 1), (110, .ladd, 1), (111, .aload_n 0, 1), (112, .getfield 111, 3), (115, .iload 5, 2), (117, .laload, 1), (118, .aload_n 0, 1), (119, .getfield 111, 3), (122, .bipush 24, 2), (124, .iload 6, 2), (126, .iadd, 1), (127, .laload, 1), (128, .ladd, 1), (129, .aload_n 0, 1), (130, .getfield 114, 3), (133, .iload 5, 2), (135, .laload, 1), (136, .aload_n 0, 1), (137, .getfield 114, 3), (140, .bipush 24, 2), (142, .iload 6, 2), (144, .iadd, 1), (145, .laload, 1), (146, .ladd, 1), (147, .invokevirtual 222, 3), (150, .iinc 6 1, 3), (153, .goto (-86), 3), (156, .iinc 5 1, 3), (159, .goto (-120), 3), (162, .aload_n 0, 1), (163, .getfield 148, 3), (166, .lstore 5, 2), (168, .aload_n 0, 1), (169, .getfield 152, 3), (172, .lstore 7, 2), (174, .aload_n 0, 1), (175, .getfield 155, 3), (178, .lstore 9, 2), (180, .aload_n 0, 1), (181, .invokevirtual 197, 3), (184, .iconst 3, 1), (185, .if_icmp .ne 7, 3), (188, .iconst 1, 1), (189, .goto 4, 3), (192, .iconst 0, 1), (193, .istore 11, 2), (195, .aload_n 0, 1), (196, .lload 5, 2), (198, .putfield 148, 3), (201, .aload_n 0, 1), (202, .lload 7, 2), (204, .putfield 152, 3), (207, .aload_n 0, 1), (208, .lload 9, 2), (210, .putfield 155, 3), (213, .iload 11, 2), (215, .ifCond .ne 4, 3), (218, .return_, 1), (219, .aload_n 0, 1)]
theorem dkX7_looks_1 : ∀ q ∈ tX7_looks_1, decode cX7_looks q.1 = .ok q.2 := by decide +kernel
def tX7_looks_2 : List (Nat × Instr × Nat) := [(220, .aload_n 0, 1), (221, .getfield 145, 3), (224, .putfield 165, 3), (227, .iconst 0, 1), (228, .istore 12, 2), (230, .iload 12, 2), (232, .aload_n 0, 1), (233, .getfield 145, 3), (236, .if_icmp .ge 18, 3), (239, .aload_n 0, 1), (240, .getfield 66, 3), (243, .iload 12, 2), (245, .iload 12, 2), (247, .iastore, 1), (248, .iinc 12 1, 3), (251, .goto (-21), 3), (254, .aload_n 0, 1), (255, .invokevirtual 205, 3), (258, .iconst 0, 1), (259, .istore 12, 2), (261, .iload 12, 2), (263, .aload_n 0, 1), (264, .getfield 162, 3), (267, .if_icmp .ge 56, 3), (270, .aload_n 0, 1), (271, .getfield 344, 3), (274, .ifCond .ne 49, 3), (277, .aload_n 0, 1), (278, .aload_n 0, 1), (279, .getfield 52, 3), (282, .aload_n 0, 1), (283, .getfield 69, 3), (286, .iload 12, 2), (288, .iaload, 1), (289, .laload, 1), (290, .aload_n 0, 1), (291, .getfield 56, 3), (294, .aload_n 0, 1), (295, .getfield 69, 3), (298, .iload 12, 2), (300, .iaload, 1), (301, .laload, 1), (302, .aload_n 0, 1), (303, .getfield 59, 3), (306, .aload_n 0, 1), (307, .getfield 69, 3), (310, .iload 12, 2), (312, .iaload, 1), (313, .laload, 1), (314, .invokevirtual 350, 3), (317, .iinc 12 1, 3), (320, .goto (-59), 3), (323, .return_, 1)]
theorem dkX7_looks_2 : ∀ q ∈ tX7_looks_2, decode cX7_looks q.1 = .ok q.2 := by decide +kernel
def tX7_looks : List (Nat × Instr × Nat) := tX7_looks_0 ++ (tX7_looks_1 ++ (tX7_looks_2))
def mX7_looks : mM := (yX7_looks, 7, cX7_looks, 13, none, tX7_looks, (3, 73, 0, 0), 0, false)
theorem odX7_looks : mOd mX7_looks := List.forall_mem_append.mpr ⟨dkX7_looks_0, List.forall_mem_append.mpr ⟨dkX7_looks_1, dkX7_looks_2⟩⟩
set_option maxRecDepth 100000 in
theorem okX7_looks : mOK mX7_looks := ⟨by decide +kernel, List.mem_append_right _ (List.mem_of_getElem? (i := 1132) rfl), rfl, ⟨by decide +kernel, by decide +kernel⟩, by decide +kernel, fun h => absurd h (by decide)⟩
def tX7_finds_0 : List (Nat × Instr × Nat) := [(0, .iconst 0, 1), (1, .istore 7, 2), (3, .iload 7, 2), (5, .aload_n 0, 1), (6, .getfield 353, 3), (9, .if_icmp .ge 47, 3), (12, .aload_n 0, 1), (13, .getfield 120, 3), (16, .iload 7, 2), (18, .laload, 1), (19, .lload_n 1, 1), (20, .lcmp, 1), (21, .ifCond .ne 29, 3), (24, .aload_n 0, 1), (25, .getfield 123, 3), (28, .iload 7, 2), (30, .laload, 1), (31, .lload_n 3, 1), (32, .lcmp, 1), (33, .ifCond .ne 17, 3), (36, .aload_n 0, 1), (37, .getfield 126, 3), (40, .iload 7, 2), (42, .laload, 1), (43, .lload 5, 2), (45, .lcmp, 1), (46, .ifCond .ne 4, 3), (49, .return_, 1), (50, .iinc 7 1, 3), (53, .goto (-50), 3), (56, .aload_n 0, 1), (57, .getfield 353, 3), (60, .bipush 24, 2), (62, .if_icmp .eq 13, 3), (65, .lload_n 1, 1), (66, .lload_n 3, 1), (67, .lload 5, 2), (69, .invokestatic 137, 3), (72, .ifCond .ne 9, 3), (75, .aload_n 0, 1), (76, .iconst 1, 1), (77, .putfield 344, 3), (80, .return_, 1), (81, .aload_n 0, 1), (82, .getfield 120, 3), (85, .aload_n 0, 1), (86, .getfield 353, 3), (89, .lload_n 1, 1), (90, .lastore, 1), (91, .aload_n 0, 1), (92, .getfield 123, 3), (95, .aload_n 0, 1), (96, .getfield 353, 3), (99, .lload_n 3, 1), (100, .lastore, 1), (101, .aload_n 0, 1), (102, .getfield 126, 3), (105, .aload_n 0, 1), (106, .getfield 353, 3), (109, .lload 5, 2)]
theorem dkX7_finds_0 : ∀ q ∈ tX7_finds_0, decode cX7_finds q.1 = .ok q.2 := by decide +kernel
def tX7_finds_1 : List (Nat × Instr × Nat) := [(111, .lastore, 1), (112, .aload_n 0, 1), (113, .dup, 1), (114, .getfield 353, 3), (117, .iconst 1, 1), (118, .iadd, 1), (119, .putfield 353, 3), (122, .return_, 1)]
theorem dkX7_finds_1 : ∀ q ∈ tX7_finds_1, decode cX7_finds q.1 = .ok q.2 := by decide +kernel
def tX7_finds : List (Nat × Instr × Nat) := tX7_finds_0 ++ (tX7_finds_1)
def mX7_finds : mM := (yX7_finds, 7, cX7_finds, 8, none, tX7_finds, (1, 25, 0, 0), 3, false)
theorem odX7_finds : mOd mX7_finds := List.forall_mem_append.mpr ⟨dkX7_finds_0, dkX7_finds_1⟩
set_option maxRecDepth 100000 in
theorem okX7_finds : mOK mX7_finds := ⟨by decide +kernel, List.mem_append_right _ (List.mem_of_getElem? (i := 1144) rfl), rfl, ⟨by decide +kernel, by decide +kernel⟩, by decide +kernel, fun h => absurd h (by decide)⟩
def tX7_looksBothWays_0 : List (Nat × Instr × Nat) := [(0, .aload_n 0, 1), (1, .invokevirtual 356, 3), (4, .aload_n 0, 1), (5, .invokevirtual 212, 3), (8, .aload_n 0, 1), (9, .invokevirtual 356, 3), (12, .return_, 1)]
theorem dkX7_looksBothWays_0 : ∀ q ∈ tX7_looksBothWays_0, decode cX7_looksBothWays q.1 = .ok q.2 := by decide +kernel
def tX7_looksBothWays : List (Nat × Instr × Nat) := tX7_looksBothWays_0
def mX7_looksBothWays : mM := (yX7_looksBothWays, 7, cX7_looksBothWays, 1, none, tX7_looksBothWays, (4, 105, 0, 0), 0, false)
theorem odX7_looksBothWays : mOd mX7_looksBothWays := dkX7_looksBothWays_0
set_option maxRecDepth 100000 in
theorem okX7_looksBothWays : mOK mX7_looksBothWays := ⟨by decide +kernel, List.mem_append_right _ (List.mem_of_getElem? (i := 1148) rfl), rfl, ⟨by decide +kernel, by decide +kernel⟩, by decide +kernel, fun h => absurd h (by decide)⟩
def tX7_looksAll_0 : List (Nat × Instr × Nat) := [(0, .aload_n 0, 1), (1, .iconst 0, 1), (2, .putfield 353, 3), (5, .aload_n 0, 1), (6, .iconst 0, 1), (7, .putfield 344, 3), (10, .iconst 0, 1), (11, .istore_n 1, 1), (12, .iload_n 1, 1), (13, .iconst 2, 1), (14, .if_icmp .ge 69, 3), (17, .bipush 64, 2), (19, .iload_n 1, 1), (20, .imul, 1), (21, .istore_n 2, 1), (22, .iload_n 2, 1), (23, .bipush 64, 2), (25, .iload_n 1, 1), (26, .imul, 1), (27, .aload_n 0, 1), (28, .getfield 72, 3), (31, .iload_n 1, 1), (32, .iaload, 1), (33, .iadd, 1), (34, .if_icmp .ge 43, 3), (37, .aload_n 0, 1), (38, .aload_n 0, 1), (39, .getfield 75, 3), (42, .iload_n 2, 1), (43, .laload, 1), (44, .putfield 148, 3), (47, .aload_n 0, 1), (48, .aload_n 0, 1), (49, .getfield 78, 3), (52, .iload_n 2, 1), (53, .laload, 1), (54, .putfield 152, 3), (57, .aload_n 0, 1), (58, .aload_n 0, 1), (59, .getfield 81, 3), (62, .iload_n 2, 1), (63, .laload, 1), (64, .putfield 155, 3), (67, .aload_n 0, 1), (68, .invokevirtual 356, 3), (71, .iinc 2 1, 3), (74, .goto (-52), 3), (77, .iinc 1 1, 3), (80, .goto (-68), 3), (83, .iconst 0, 1), (84, .istore_n 1, 1), (85, .iload_n 1, 1), (86, .aload_n 0, 1), (87, .getfield 93, 3), (90, .iconst 0, 1), (91, .iaload, 1), (92, .if_icmp .ge 177, 3), (95, .aload_n 0, 1), (96, .getfield 344, 3), (99, .ifCond .ne 170, 3)]
theorem dkX7_looksAll_0 : ∀ q ∈ tX7_looksAll_0, decode cX7_looksAll q.1 = .ok q.2 := by decide +kernel
def tX7_looksAll_1 : List (Nat × Instr × Nat) := [(102, .bipush 80, 2), (104, .istore_n 2, 1), (105, .iload_n 2, 1), (106, .bipush 80, 2), (108, .aload_n 0, 1), (109, .getfield 93, 3), (112, .iconst 1, 1), (113, .iaload, 1), (114, .iadd, 1), (115, .if_icmp .ge 148, 3), (118, .aload_n 0, 1), (119, .getfield 344, 3), (122, .ifCond .ne 141, 3), (125, .aload_n 0, 1), (126, .getfield 96, 3), (129, .iload_n 1, 1), (130, .iaload, 1), (131, .istore_n 3, 1), (132, .aload_n 0, 1), (133, .getfield 99, 3), (136, .iload_n 1, 1), (137, .iaload, 1), (138, .istore 4, 2), (140, .bipush 24, 2), (142, .aload_n 0, 1), (143, .getfield 96, 3), (146, .iload_n 2, 1), (147, .iaload, 1), (148, .iadd, 1), (149, .istore 5, 2), (151, .bipush 24, 2), (153, .aload_n 0, 1), (154, .getfield 99, 3), (157, .iload_n 2, 1), (158, .iaload, 1), (159, .iadd, 1), (160, .istore 6, 2), (162, .aload_n 0, 1), (163, .aload_n 0, 1), (164, .getfield 108, 3), (167, .iload 4, 2), (169, .laload, 1), (170, .aload_n 0, 1), (171, .getfield 108, 3), (174, .iload_n 3, 1), (175, .laload, 1), (176, .lsub, 1), (177, .aload_n 0, 1), (178, .getfield 111, 3), (181, .iload 4, 2), (183, .laload, 1), (184, .aload_n 0, 1), (185, .getfield 111, 3), (188, .iload_n 3, 1), (189, .laload, 1), (190, .lsub, 1), (191, .aload_n 0, 1), (192, .getfield 114, 3), (195, .iload 4, 2), (197, .laload, 1)]
theorem dkX7_looksAll_1 : ∀ q ∈ tX7_looksAll_1, decode cX7_looksAll q.1 = .ok q.2 := by decide +kernel
def tX7_looksAll_2 : List (Nat × Instr × Nat) := [(198, .aload_n 0, 1), (199, .getfield 114, 3), (202, .iload_n 3, 1), (203, .laload, 1), (204, .lsub, 1), (205, .aload_n 0, 1), (206, .getfield 108, 3), (209, .iload 6, 2), (211, .laload, 1), (212, .aload_n 0, 1), (213, .getfield 108, 3), (216, .iload 5, 2), (218, .laload, 1), (219, .lsub, 1), (220, .aload_n 0, 1), (221, .getfield 111, 3), (224, .iload 6, 2), (226, .laload, 1), (227, .aload_n 0, 1), (228, .getfield 111, 3), (231, .iload 5, 2), (233, .laload, 1), (234, .lsub, 1), (235, .aload_n 0, 1), (236, .getfield 114, 3), (239, .iload 6, 2), (241, .laload, 1), (242, .aload_n 0, 1), (243, .getfield 114, 3), (246, .iload 5, 2), (248, .laload, 1), (249, .lsub, 1), (250, .invokevirtual 334, 3), (253, .aload_n 0, 1), (254, .invokevirtual 359, 3), (257, .iinc 2 1, 3), (260, .goto (-155), 3), (263, .iinc 1 1, 3), (266, .goto (-181), 3), (269, .return_, 1)]
theorem dkX7_looksAll_2 : ∀ q ∈ tX7_looksAll_2, decode cX7_looksAll q.1 = .ok q.2 := by decide +kernel
def tX7_looksAll : List (Nat × Instr × Nat) := tX7_looksAll_0 ++ (tX7_looksAll_1 ++ (tX7_looksAll_2))
def mX7_looksAll : mM := (yX7_looksAll, 7, cX7_looksAll, 7, none, tX7_looksAll, (5, 125, 0, 0), 0, false)
theorem odX7_looksAll : mOd mX7_looksAll := List.forall_mem_append.mpr ⟨dkX7_looksAll_0, List.forall_mem_append.mpr ⟨dkX7_looksAll_1, dkX7_looksAll_2⟩⟩
set_option maxRecDepth 100000 in
theorem okX7_looksAll : mOK mX7_looksAll := ⟨by decide +kernel, List.mem_append_right _ (List.mem_of_getElem? (i := 1128) rfl), rfl, ⟨by decide +kernel, by decide +kernel⟩, by decide +kernel, fun h => absurd h (by decide)⟩
def tX7_sum_0 : List (Nat × Instr × Nat) := [(0, .iload_n 1, 1), (1, .invokestatic 133, 3), (4, .ifCond .eq 17, 3), (7, .iload_n 2, 1), (8, .invokestatic 133, 3), (11, .ifCond .eq 10, 3), (14, .iload_n 3, 1), (15, .invokestatic 133, 3), (18, .ifCond .ne 5, 3), (21, .iconst (-1), 1), (22, .ireturn, 1), (23, .aload_n 0, 1), (24, .iload_n 1, 1), (25, .iconst 0, 1), (26, .invokevirtual 279, 3), (29, .aload_n 0, 1), (30, .iload_n 2, 1), (31, .iconst 1, 1), (32, .invokevirtual 279, 3), (35, .aload_n 0, 1), (36, .iconst 0, 1), (37, .putfield 145, 3), (40, .iconst 0, 1), (41, .istore 4, 2), (43, .iload 4, 2), (45, .aload_n 0, 1), (46, .getfield 117, 3), (49, .iconst 0, 1), (50, .iaload, 1), (51, .if_icmp .ge 87, 3), (54, .iconst 0, 1), (55, .istore 5, 2), (57, .iload 5, 2), (59, .aload_n 0, 1), (60, .getfield 117, 3), (63, .iconst 1, 1), (64, .iaload, 1), (65, .if_icmp .ge 67, 3), (68, .aload_n 0, 1), (69, .aload_n 0, 1), (70, .getfield 108, 3), (73, .iload 4, 2), (75, .laload, 1), (76, .aload_n 0, 1), (77, .getfield 108, 3), (80, .bipush 24, 2), (82, .iload 5, 2), (84, .iadd, 1), (85, .laload, 1), (86, .ladd, 1), (87, .aload_n 0, 1), (88, .getfield 111, 3), (91, .iload 4, 2), (93, .laload, 1), (94, .aload_n 0, 1), (95, .getfield 111, 3), (98, .bipush 24, 2), (100, .iload 5, 2), (102, .iadd, 1), (103, .laload, 1)]
theorem dkX7_sum_0 : ∀ q ∈ tX7_sum_0, decode cX7_sum q.1 = .ok q.2 := by decide +kernel
def tX7_sum_1 : List (Nat × Instr × Nat) := [(104, .ladd, 1), (105, .aload_n 0, 1), (106, .getfield 114, 3), (109, .iload 4, 2), (111, .laload, 1), (112, .aload_n 0, 1), (113, .getfield 114, 3), (116, .bipush 24, 2), (118, .iload 5, 2), (120, .iadd, 1), (121, .laload, 1), (122, .ladd, 1), (123, .invokevirtual 222, 3), (126, .iinc 5 1, 3), (129, .goto (-72), 3), (132, .iinc 4 1, 3), (135, .goto (-92), 3), (138, .aload_n 0, 1), (139, .invokevirtual 197, 3), (142, .istore 4, 2), (144, .iload 4, 2), (146, .iconst 4, 1), (147, .if_icmp .ne 94, 3), (150, .aload_n 0, 1), (151, .invokevirtual 362, 3), (154, .aload_n 0, 1), (155, .getfield 344, 3), (158, .ifCond .eq 6, 3), (161, .bipush (-2), 2), (163, .ireturn, 1), (164, .aload_n 0, 1), (165, .iconst 0, 1), (166, .putfield 145, 3), (169, .iconst 0, 1), (170, .istore 5, 2), (172, .iload 5, 2), (174, .aload_n 0, 1), (175, .getfield 353, 3), (178, .if_icmp .ge 34, 3), (181, .aload_n 0, 1), (182, .aload_n 0, 1), (183, .getfield 120, 3), (186, .iload 5, 2), (188, .laload, 1), (189, .aload_n 0, 1), (190, .getfield 123, 3), (193, .iload 5, 2), (195, .laload, 1), (196, .aload_n 0, 1), (197, .getfield 126, 3), (200, .iload 5, 2), (202, .laload, 1), (203, .invokevirtual 222, 3), (206, .iinc 5 1, 3), (209, .goto (-37), 3), (212, .iconst 0, 1), (213, .istore 5, 2), (215, .iload 5, 2), (217, .aload_n 0, 1), (218, .getfield 145, 3)]
theorem dkX7_sum_1 : ∀ q ∈ tX7_sum_1, decode cX7_sum q.1 = .ok q.2 := by decide +kernel
def tX7_sum_2 : List (Nat × Instr × Nat) := [(221, .if_icmp .ge 17, 3), (224, .aload_n 0, 1), (225, .getfield 62, 3), (228, .iload 5, 2), (230, .iconst 1, 1), (231, .bastore, 1), (232, .iinc 5 1, 3), (235, .goto (-20), 3), (238, .goto 9, 3), (241, .aload_n 0, 1), (242, .iconst 0, 1), (243, .invokevirtual 229, 3), (246, .pop, 1), (247, .aload_n 0, 1), (248, .iload_n 3, 1), (249, .iload 4, 2), (251, .invokevirtual 240, 3), (254, .ifCond .eq 8, 3), (257, .iload 4, 2), (259, .goto 5, 3), (262, .bipush (-2), 2), (264, .ireturn, 1)]
theorem dkX7_sum_2 : ∀ q ∈ tX7_sum_2, decode cX7_sum q.1 = .ok q.2 := by decide +kernel
def tX7_sum : List (Nat × Instr × Nat) := tX7_sum_0 ++ (tX7_sum_1 ++ (tX7_sum_2))
def mX7_sum : mM := (yX7_sum, 7, cX7_sum, 6, (some .int), tX7_sum, (6, 163, 0, 0), 3, false)
theorem odX7_sum : mOd mX7_sum := List.forall_mem_append.mpr ⟨dkX7_sum_0, List.forall_mem_append.mpr ⟨dkX7_sum_1, dkX7_sum_2⟩⟩
set_option maxRecDepth 100000 in
theorem okX7_sum : mOK mX7_sum := ⟨by decide +kernel, List.mem_append_right _ (List.mem_of_getElem? (i := 1124) rfl), rfl, ⟨by decide +kernel, by decide +kernel⟩, by decide +kernel, fun h => absurd h (by decide)⟩
def tX7_cornerAt_0 : List (Nat × Instr × Nat) := [(0, .aload_n 0, 1), (1, .aload_n 0, 1), (2, .getfield 108, 3), (5, .iload_n 1, 1), (6, .laload, 1), (7, .aload_n 0, 1), (8, .getfield 111, 3), (11, .iload_n 1, 1), (12, .laload, 1), (13, .aload_n 0, 1), (14, .getfield 114, 3), (17, .iload_n 1, 1), (18, .laload, 1), (19, .lconst 1, 1), (20, .invokevirtual 281, 3), (23, .return_, 1)]
theorem dkX7_cornerAt_0 : ∀ q ∈ tX7_cornerAt_0, decode cX7_cornerAt q.1 = .ok q.2 := by decide +kernel
def tX7_cornerAt : List (Nat × Instr × Nat) := tX7_cornerAt_0
def mX7_cornerAt : mM := (yX7_cornerAt, 7, cX7_cornerAt, 2, none, tX7_cornerAt, (1, 28, 0, 0), 1, false)
theorem odX7_cornerAt : mOd mX7_cornerAt := dkX7_cornerAt_0
set_option maxRecDepth 100000 in
theorem okX7_cornerAt : mOK mX7_cornerAt := ⟨by decide +kernel, List.mem_append_right _ (List.mem_of_getElem? (i := 1164) rfl), rfl, ⟨by decide +kernel, by decide +kernel⟩, by decide +kernel, fun h => absurd h (by decide)⟩
def tX7_toEdge_0 : List (Nat × Instr × Nat) := [(0, .aload_n 0, 1), (1, .getfield 108, 3), (4, .iload_n 3, 1), (5, .laload, 1), (6, .aload_n 0, 1), (7, .getfield 108, 3), (10, .iload_n 2, 1), (11, .laload, 1), (12, .lsub, 1), (13, .lstore 4, 2), (15, .aload_n 0, 1), (16, .getfield 111, 3), (19, .iload_n 3, 1), (20, .laload, 1), (21, .aload_n 0, 1), (22, .getfield 111, 3), (25, .iload_n 2, 1), (26, .laload, 1), (27, .lsub, 1), (28, .lstore 6, 2), (30, .aload_n 0, 1), (31, .getfield 114, 3), (34, .iload_n 3, 1), (35, .laload, 1), (36, .aload_n 0, 1), (37, .getfield 114, 3), (40, .iload_n 2, 1), (41, .laload, 1), (42, .lsub, 1), (43, .lstore 8, 2), (45, .aload_n 0, 1), (46, .getfield 108, 3), (49, .iload_n 1, 1), (50, .laload, 1), (51, .aload_n 0, 1), (52, .getfield 108, 3), (55, .iload_n 2, 1), (56, .laload, 1), (57, .lsub, 1), (58, .lstore 10, 2), (60, .aload_n 0, 1), (61, .getfield 111, 3), (64, .iload_n 1, 1), (65, .laload, 1), (66, .aload_n 0, 1), (67, .getfield 111, 3), (70, .iload_n 2, 1), (71, .laload, 1), (72, .lsub, 1), (73, .lstore 12, 2), (75, .aload_n 0, 1), (76, .getfield 114, 3), (79, .iload_n 1, 1), (80, .laload, 1), (81, .aload_n 0, 1), (82, .getfield 114, 3), (85, .iload_n 2, 1), (86, .laload, 1), (87, .lsub, 1), (88, .lstore 14, 2)]
theorem dkX7_toEdge_0 : ∀ q ∈ tX7_toEdge_0, decode cX7_toEdge q.1 = .ok q.2 := by decide +kernel
def tX7_toEdge_1 : List (Nat × Instr × Nat) := [(90, .lload 4, 2), (92, .lload 10, 2), (94, .lmul, 1), (95, .lload 6, 2), (97, .lload 12, 2), (99, .lmul, 1), (100, .ladd, 1), (101, .lload 8, 2), (103, .lload 14, 2), (105, .lmul, 1), (106, .ladd, 1), (107, .lstore 16, 2), (109, .lload 4, 2), (111, .lload 4, 2), (113, .lmul, 1), (114, .lload 6, 2), (116, .lload 6, 2), (118, .lmul, 1), (119, .ladd, 1), (120, .lload 8, 2), (122, .lload 8, 2), (124, .lmul, 1), (125, .ladd, 1), (126, .lstore 18, 2), (128, .lload 16, 2), (130, .lconst 0, 1), (131, .lcmp, 1), (132, .ifCond .lt 11, 3), (135, .lload 16, 2), (137, .lload 18, 2), (139, .lcmp, 1), (140, .ifCond .le 4, 3), (143, .return_, 1), (144, .aload_n 0, 1), (145, .lload 10, 2), (147, .lload 10, 2), (149, .lmul, 1), (150, .lload 12, 2), (152, .lload 12, 2), (154, .lmul, 1), (155, .ladd, 1), (156, .lload 14, 2), (158, .lload 14, 2), (160, .lmul, 1), (161, .ladd, 1), (162, .lload 18, 2), (164, .lmul, 1), (165, .lload 16, 2), (167, .lload 16, 2), (169, .lmul, 1), (170, .lsub, 1), (171, .lload 18, 2), (173, .invokevirtual 327, 3), (176, .return_, 1)]
theorem dkX7_toEdge_1 : ∀ q ∈ tX7_toEdge_1, decode cX7_toEdge q.1 = .ok q.2 := by decide +kernel
def tX7_toEdge : List (Nat × Instr × Nat) := tX7_toEdge_0 ++ (tX7_toEdge_1)
def mX7_toEdge : mM := (yX7_toEdge, 7, cX7_toEdge, 20, none, tX7_toEdge, (2, 66, 0, 0), 3, false)
theorem odX7_toEdge : mOd mX7_toEdge := List.forall_mem_append.mpr ⟨dkX7_toEdge_0, dkX7_toEdge_1⟩
set_option maxRecDepth 100000 in
theorem okX7_toEdge : mOK mX7_toEdge := ⟨by decide +kernel, List.mem_append_right _ (List.mem_of_getElem? (i := 1172) rfl), rfl, ⟨by decide +kernel, by decide +kernel⟩, by decide +kernel, fun h => absurd h (by decide)⟩
def tX7_toCorner_0 : List (Nat × Instr × Nat) := [(0, .aload_n 0, 1), (1, .getfield 108, 3), (4, .iload_n 1, 1), (5, .laload, 1), (6, .aload_n 0, 1), (7, .getfield 108, 3), (10, .iload_n 2, 1), (11, .laload, 1), (12, .lsub, 1), (13, .lstore_n 3, 1), (14, .aload_n 0, 1), (15, .getfield 111, 3), (18, .iload_n 1, 1), (19, .laload, 1), (20, .aload_n 0, 1), (21, .getfield 111, 3), (24, .iload_n 2, 1), (25, .laload, 1), (26, .lsub, 1), (27, .lstore 5, 2), (29, .aload_n 0, 1), (30, .getfield 114, 3), (33, .iload_n 1, 1), (34, .laload, 1), (35, .aload_n 0, 1), (36, .getfield 114, 3), (39, .iload_n 2, 1), (40, .laload, 1), (41, .lsub, 1), (42, .lstore 7, 2), (44, .aload_n 0, 1), (45, .lload_n 3, 1), (46, .lload_n 3, 1), (47, .lmul, 1), (48, .lload 5, 2), (50, .lload 5, 2), (52, .lmul, 1), (53, .ladd, 1), (54, .lload 7, 2), (56, .lload 7, 2), (58, .lmul, 1), (59, .ladd, 1), (60, .lconst 1, 1), (61, .invokevirtual 327, 3), (64, .return_, 1)]
theorem dkX7_toCorner_0 : ∀ q ∈ tX7_toCorner_0, decode cX7_toCorner q.1 = .ok q.2 := by decide +kernel
def tX7_toCorner : List (Nat × Instr × Nat) := tX7_toCorner_0
def mX7_toCorner : mM := (yX7_toCorner, 7, cX7_toCorner, 9, none, tX7_toCorner, (2, 66, 0, 0), 2, false)
theorem odX7_toCorner : mOd mX7_toCorner := dkX7_toCorner_0
set_option maxRecDepth 100000 in
theorem okX7_toCorner : mOK mX7_toCorner := ⟨by decide +kernel, List.mem_append_right _ (List.mem_of_getElem? (i := 1168) rfl), rfl, ⟨by decide +kernel, by decide +kernel⟩, by decide +kernel, fun h => absurd h (by decide)⟩
def tX7_toFace_0 : List (Nat × Instr × Nat) := [(0, .aload_n 0, 1), (1, .iload_n 1, 1), (2, .invokevirtual 365, 3), (5, .aload_n 0, 1), (6, .iload_n 2, 1), (7, .iload_n 3, 1), (8, .invokevirtual 271, 3), (11, .ifCond .ne 4, 3), (14, .return_, 1), (15, .aload_n 0, 1), (16, .iload_n 3, 1), (17, .invokevirtual 268, 3), (20, .lstore 4, 2), (22, .aload_n 0, 1), (23, .lload 4, 2), (25, .lload 4, 2), (27, .lmul, 1), (28, .aload_n 0, 1), (29, .getfield 75, 3), (32, .iload_n 3, 1), (33, .laload, 1), (34, .aload_n 0, 1), (35, .getfield 75, 3), (38, .iload_n 3, 1), (39, .laload, 1), (40, .lmul, 1), (41, .aload_n 0, 1), (42, .getfield 78, 3), (45, .iload_n 3, 1), (46, .laload, 1), (47, .aload_n 0, 1), (48, .getfield 78, 3), (51, .iload_n 3, 1), (52, .laload, 1), (53, .lmul, 1), (54, .ladd, 1), (55, .aload_n 0, 1), (56, .getfield 81, 3), (59, .iload_n 3, 1), (60, .laload, 1), (61, .aload_n 0, 1), (62, .getfield 81, 3), (65, .iload_n 3, 1), (66, .laload, 1), (67, .lmul, 1), (68, .ladd, 1), (69, .invokevirtual 327, 3), (72, .return_, 1)]
theorem dkX7_toFace_0 : ∀ q ∈ tX7_toFace_0, decode cX7_toFace q.1 = .ok q.2 := by decide +kernel
def tX7_toFace : List (Nat × Instr × Nat) := tX7_toFace_0
def mX7_toFace : mM := (yX7_toFace, 7, cX7_toFace, 6, none, tX7_toFace, (2, 66, 0, 0), 3, false)
theorem odX7_toFace : mOd mX7_toFace := dkX7_toFace_0
set_option maxRecDepth 100000 in
theorem okX7_toFace : mOK mX7_toFace := ⟨by decide +kernel, List.mem_append_right _ (List.mem_of_getElem? (i := 1176) rfl), rfl, ⟨by decide +kernel, by decide +kernel⟩, by decide +kernel, fun h => absurd h (by decide)⟩
end
section
def tX7_toEdges_0 : List (Nat × Instr × Nat) := [(0, .aload_n 0, 1), (1, .getfield 108, 3), (4, .iload_n 2, 1), (5, .laload, 1), (6, .aload_n 0, 1), (7, .getfield 108, 3), (10, .iload_n 1, 1), (11, .laload, 1), (12, .lsub, 1), (13, .lstore 5, 2), (15, .aload_n 0, 1), (16, .getfield 111, 3), (19, .iload_n 2, 1), (20, .laload, 1), (21, .aload_n 0, 1), (22, .getfield 111, 3), (25, .iload_n 1, 1), (26, .laload, 1), (27, .lsub, 1), (28, .lstore 7, 2), (30, .aload_n 0, 1), (31, .getfield 114, 3), (34, .iload_n 2, 1), (35, .laload, 1), (36, .aload_n 0, 1), (37, .getfield 114, 3), (40, .iload_n 1, 1), (41, .laload, 1), (42, .lsub, 1), (43, .lstore 9, 2), (45, .aload_n 0, 1), (46, .getfield 108, 3), (49, .iload 4, 2), (51, .laload, 1), (52, .aload_n 0, 1), (53, .getfield 108, 3), (56, .iload_n 3, 1), (57, .laload, 1), (58, .lsub, 1), (59, .lstore 11, 2), (61, .aload_n 0, 1), (62, .getfield 111, 3), (65, .iload 4, 2), (67, .laload, 1), (68, .aload_n 0, 1), (69, .getfield 111, 3), (72, .iload_n 3, 1), (73, .laload, 1), (74, .lsub, 1), (75, .lstore 13, 2), (77, .aload_n 0, 1), (78, .getfield 114, 3), (81, .iload 4, 2), (83, .laload, 1), (84, .aload_n 0, 1), (85, .getfield 114, 3), (88, .iload_n 3, 1), (89, .laload, 1), (90, .lsub, 1), (91, .lstore 15, 2)]
theorem dkX7_toEdges_0 : ∀ q ∈ tX7_toEdges_0, decode cX7_toEdges q.1 = .ok q.2 := by decide +kernel
def tX7_toEdges_1 : List (Nat × Instr × Nat) := [(93, .aload_n 0, 1), (94, .getfield 108, 3), (97, .iload_n 3, 1), (98, .laload, 1), (99, .aload_n 0, 1), (100, .getfield 108, 3), (103, .iload_n 1, 1), (104, .laload, 1), (105, .lsub, 1), (106, .lstore 17, 2), (108, .aload_n 0, 1), (109, .getfield 111, 3), (112, .iload_n 3, 1), (113, .laload, 1), (114, .aload_n 0, 1), (115, .getfield 111, 3), (118, .iload_n 1, 1), (119, .laload, 1), (120, .lsub, 1), (121, .lstore 19, 2), (123, .aload_n 0, 1), (124, .getfield 114, 3), (127, .iload_n 3, 1), (128, .laload, 1), (129, .aload_n 0, 1), (130, .getfield 114, 3), (133, .iload_n 1, 1), (134, .laload, 1), (135, .lsub, 1), (136, .lstore 21, 2), (138, .aload_n 0, 1), (139, .lload 5, 2), (141, .lload 7, 2), (143, .lload 9, 2), (145, .lload 11, 2), (147, .lload 13, 2), (149, .lload 15, 2), (151, .invokevirtual 334, 3), (154, .aload_n 0, 1), (155, .invokevirtual 182, 3), (158, .ifCond .eq 4, 3), (161, .return_, 1), (162, .aload_n 0, 1), (163, .getfield 148, 3), (166, .aload_n 0, 1), (167, .getfield 148, 3), (170, .lmul, 1), (171, .aload_n 0, 1), (172, .getfield 152, 3), (175, .aload_n 0, 1), (176, .getfield 152, 3), (179, .lmul, 1), (180, .ladd, 1), (181, .aload_n 0, 1), (182, .getfield 155, 3), (185, .aload_n 0, 1), (186, .getfield 155, 3), (189, .lmul, 1), (190, .ladd, 1), (191, .lstore 23, 2)]
theorem dkX7_toEdges_1 : ∀ q ∈ tX7_toEdges_1, decode cX7_toEdges q.1 = .ok q.2 := by decide +kernel
def tX7_toEdges_2 : List (Nat × Instr × Nat) := [(193, .lload 19, 2), (195, .lload 15, 2), (197, .lmul, 1), (198, .lload 21, 2), (200, .lload 13, 2), (202, .lmul, 1), (203, .lsub, 1), (204, .aload_n 0, 1), (205, .getfield 148, 3), (208, .lmul, 1), (209, .lload 21, 2), (211, .lload 11, 2), (213, .lmul, 1), (214, .lload 17, 2), (216, .lload 15, 2), (218, .lmul, 1), (219, .lsub, 1), (220, .aload_n 0, 1), (221, .getfield 152, 3), (224, .lmul, 1), (225, .ladd, 1), (226, .lload 17, 2), (228, .lload 13, 2), (230, .lmul, 1), (231, .lload 19, 2), (233, .lload 11, 2), (235, .lmul, 1), (236, .lsub, 1), (237, .aload_n 0, 1), (238, .getfield 155, 3), (241, .lmul, 1), (242, .ladd, 1), (243, .lstore 25, 2), (245, .lload 19, 2), (247, .lload 9, 2), (249, .lmul, 1), (250, .lload 21, 2), (252, .lload 7, 2), (254, .lmul, 1), (255, .lsub, 1), (256, .aload_n 0, 1), (257, .getfield 148, 3), (260, .lmul, 1), (261, .lload 21, 2), (263, .lload 5, 2), (265, .lmul, 1), (266, .lload 17, 2), (268, .lload 9, 2), (270, .lmul, 1), (271, .lsub, 1), (272, .aload_n 0, 1), (273, .getfield 152, 3), (276, .lmul, 1), (277, .ladd, 1), (278, .lload 17, 2), (280, .lload 7, 2), (282, .lmul, 1), (283, .lload 19, 2), (285, .lload 5, 2), (287, .lmul, 1)]
theorem dkX7_toEdges_2 : ∀ q ∈ tX7_toEdges_2, decode cX7_toEdges q.1 = .ok q.2 := by decide +kernel
def tX7_toEdges_3 : List (Nat × Instr × Nat) := [(288, .lsub, 1), (289, .aload_n 0, 1), (290, .getfield 155, 3), (293, .lmul, 1), (294, .ladd, 1), (295, .lstore 27, 2), (297, .lload 25, 2), (299, .lconst 0, 1), (300, .lcmp, 1), (301, .ifCond .lt 26, 3), (304, .lload 25, 2), (306, .lload 23, 2), (308, .lcmp, 1), (309, .ifCond .gt 18, 3), (312, .lload 27, 2), (314, .lconst 0, 1), (315, .lcmp, 1), (316, .ifCond .lt 11, 3), (319, .lload 27, 2), (321, .lload 23, 2), (323, .lcmp, 1), (324, .ifCond .le 4, 3), (327, .return_, 1), (328, .lload 17, 2), (330, .aload_n 0, 1), (331, .getfield 148, 3), (334, .lmul, 1), (335, .lload 19, 2), (337, .aload_n 0, 1), (338, .getfield 152, 3), (341, .lmul, 1), (342, .ladd, 1), (343, .lload 21, 2), (345, .aload_n 0, 1), (346, .getfield 155, 3), (349, .lmul, 1), (350, .ladd, 1), (351, .lstore 29, 2), (353, .aload_n 0, 1), (354, .lload 29, 2), (356, .lload 29, 2), (358, .lmul, 1), (359, .lload 23, 2), (361, .invokevirtual 327, 3), (364, .return_, 1)]
theorem dkX7_toEdges_3 : ∀ q ∈ tX7_toEdges_3, decode cX7_toEdges q.1 = .ok q.2 := by decide +kernel
def tX7_toEdges : List (Nat × Instr × Nat) := tX7_toEdges_0 ++ (tX7_toEdges_1 ++ (tX7_toEdges_2 ++ (tX7_toEdges_3)))
def mX7_toEdges : mM := (yX7_toEdges, 7, cX7_toEdges, 31, none, tX7_toEdges, (2, 66, 0, 0), 4, false)
theorem odX7_toEdges : mOd mX7_toEdges := List.forall_mem_append.mpr ⟨dkX7_toEdges_0, List.forall_mem_append.mpr ⟨dkX7_toEdges_1, List.forall_mem_append.mpr ⟨dkX7_toEdges_2, dkX7_toEdges_3⟩⟩⟩
set_option maxRecDepth 100000 in
theorem okX7_toEdges : mOK mX7_toEdges := ⟨by decide +kernel, List.mem_append_right _ (List.mem_of_getElem? (i := 1184) rfl), rfl, ⟨by decide +kernel, by decide +kernel⟩, by decide +kernel, fun h => absurd h (by decide)⟩
def tX7_through_0 : List (Nat × Instr × Nat) := [(0, .aload_n 0, 1), (1, .iload_n 1, 1), (2, .invokevirtual 365, 3), (5, .aload_n 0, 1), (6, .iload 4, 2), (8, .invokevirtual 268, 3), (11, .lstore 5, 2), (13, .aload_n 0, 1), (14, .iload_n 2, 1), (15, .invokevirtual 365, 3), (18, .aload_n 0, 1), (19, .iload 4, 2), (21, .invokevirtual 268, 3), (24, .lstore 7, 2), (26, .lload 5, 2), (28, .lconst 0, 1), (29, .lcmp, 1), (30, .ifCond .lt 10, 3), (33, .lload 7, 2), (35, .lconst 0, 1), (36, .lcmp, 1), (37, .ifCond .ge 17, 3), (40, .lload 5, 2), (42, .lconst 0, 1), (43, .lcmp, 1), (44, .ifCond .gt 11, 3), (47, .lload 7, 2), (49, .lconst 0, 1), (50, .lcmp, 1), (51, .ifCond .gt 4, 3), (54, .return_, 1), (55, .lload 5, 2), (57, .lconst 0, 1), (58, .lcmp, 1), (59, .ifCond .ge 9, 3), (62, .lload 5, 2), (64, .lneg, 1), (65, .goto 5, 3), (68, .lload 5, 2), (70, .lstore 9, 2), (72, .lload 7, 2), (74, .lconst 0, 1), (75, .lcmp, 1), (76, .ifCond .ge 9, 3), (79, .lload 7, 2), (81, .lneg, 1), (82, .goto 5, 3), (85, .lload 7, 2), (87, .lstore 11, 2), (89, .aload_n 0, 1), (90, .aload_n 0, 1), (91, .getfield 108, 3), (94, .iload_n 1, 1), (95, .laload, 1), (96, .lload 11, 2), (98, .lmul, 1), (99, .aload_n 0, 1), (100, .getfield 108, 3), (103, .iload_n 2, 1), (104, .laload, 1)]
theorem dkX7_through_0 : ∀ q ∈ tX7_through_0, decode cX7_through q.1 = .ok q.2 := by decide +kernel
def tX7_through_1 : List (Nat × Instr × Nat) := [(105, .lload 9, 2), (107, .lmul, 1), (108, .ladd, 1), (109, .aload_n 0, 1), (110, .getfield 111, 3), (113, .iload_n 1, 1), (114, .laload, 1), (115, .lload 11, 2), (117, .lmul, 1), (118, .aload_n 0, 1), (119, .getfield 111, 3), (122, .iload_n 2, 1), (123, .laload, 1), (124, .lload 9, 2), (126, .lmul, 1), (127, .ladd, 1), (128, .aload_n 0, 1), (129, .getfield 114, 3), (132, .iload_n 1, 1), (133, .laload, 1), (134, .lload 11, 2), (136, .lmul, 1), (137, .aload_n 0, 1), (138, .getfield 114, 3), (141, .iload_n 2, 1), (142, .laload, 1), (143, .lload 9, 2), (145, .lmul, 1), (146, .ladd, 1), (147, .lload 9, 2), (149, .lload 11, 2), (151, .ladd, 1), (152, .invokevirtual 281, 3), (155, .aload_n 0, 1), (156, .iload_n 3, 1), (157, .iload 4, 2), (159, .invokevirtual 271, 3), (162, .ifCond .eq 9, 3), (165, .aload_n 0, 1), (166, .lconst 0, 1), (167, .lconst 1, 1), (168, .invokevirtual 327, 3), (171, .return_, 1)]
theorem dkX7_through_1 : ∀ q ∈ tX7_through_1, decode cX7_through q.1 = .ok q.2 := by decide +kernel
def tX7_through : List (Nat × Instr × Nat) := tX7_through_0 ++ (tX7_through_1)
def mX7_through : mM := (yX7_through, 7, cX7_through, 13, none, tX7_through, (2, 66, 0, 0), 4, false)
theorem odX7_through : mOd mX7_through := List.forall_mem_append.mpr ⟨dkX7_through_0, dkX7_through_1⟩
set_option maxRecDepth 100000 in
theorem okX7_through : mOK mX7_through := ⟨by decide +kernel, List.mem_append_right _ (List.mem_of_getElem? (i := 1180) rfl), rfl, ⟨by decide +kernel, by decide +kernel⟩, by decide +kernel, fun h => absurd h (by decide)⟩
def tX7_against_0 : List (Nat × Instr × Nat) := [(0, .iconst 1, 1), (1, .iload_n 1, 1), (2, .isub, 1), (3, .istore_n 3, 1), (4, .bipush 24, 2), (6, .iload_n 1, 1), (7, .imul, 1), (8, .istore 4, 2), (10, .iload 4, 2), (12, .bipush 24, 2), (14, .iload_n 1, 1), (15, .imul, 1), (16, .aload_n 0, 1), (17, .getfield 117, 3), (20, .iload_n 1, 1), (21, .iaload, 1), (22, .iadd, 1), (23, .if_icmp .ge 161, 3), (26, .aload_n 0, 1), (27, .iload 4, 2), (29, .invokevirtual 365, 3), (32, .aload_n 0, 1), (33, .iload_n 2, 1), (34, .iload_n 3, 1), (35, .invokevirtual 285, 3), (38, .ifCond .le 9, 3), (41, .aload_n 0, 1), (42, .lconst 0, 1), (43, .lconst 1, 1), (44, .invokevirtual 327, 3), (47, .bipush 24, 2), (49, .iload_n 3, 1), (50, .imul, 1), (51, .istore 5, 2), (53, .iload 5, 2), (55, .bipush 24, 2), (57, .iload_n 3, 1), (58, .imul, 1), (59, .aload_n 0, 1), (60, .getfield 117, 3), (63, .iload_n 3, 1), (64, .iaload, 1), (65, .iadd, 1), (66, .if_icmp .ge 17, 3), (69, .aload_n 0, 1), (70, .iload 4, 2), (72, .iload 5, 2), (74, .invokevirtual 368, 3), (77, .iinc 5 1, 3), (80, .goto (-27), 3), (83, .bipush 80, 2), (85, .iload_n 3, 1), (86, .imul, 1), (87, .istore 5, 2), (89, .iload 5, 2), (91, .bipush 80, 2), (93, .iload_n 3, 1), (94, .imul, 1), (95, .aload_n 0, 1), (96, .getfield 93, 3)]
theorem dkX7_against_0 : ∀ q ∈ tX7_against_0, decode cX7_against q.1 = .ok q.2 := by decide +kernel
def tX7_against_1 : List (Nat × Instr × Nat) := [(99, .iload_n 3, 1), (100, .iaload, 1), (101, .iadd, 1), (102, .if_icmp .ge 39, 3), (105, .aload_n 0, 1), (106, .iload 4, 2), (108, .bipush 24, 2), (110, .iload_n 3, 1), (111, .imul, 1), (112, .aload_n 0, 1), (113, .getfield 96, 3), (116, .iload 5, 2), (118, .iaload, 1), (119, .iadd, 1), (120, .bipush 24, 2), (122, .iload_n 3, 1), (123, .imul, 1), (124, .aload_n 0, 1), (125, .getfield 99, 3), (128, .iload 5, 2), (130, .iaload, 1), (131, .iadd, 1), (132, .invokevirtual 371, 3), (135, .iinc 5 1, 3), (138, .goto (-49), 3), (141, .bipush 64, 2), (143, .iload_n 3, 1), (144, .imul, 1), (145, .istore 5, 2), (147, .iload 5, 2), (149, .bipush 64, 2), (151, .iload_n 3, 1), (152, .imul, 1), (153, .aload_n 0, 1), (154, .getfield 72, 3), (157, .iload_n 3, 1), (158, .iaload, 1), (159, .iadd, 1), (160, .if_icmp .ge 18, 3), (163, .aload_n 0, 1), (164, .iload 4, 2), (166, .iload_n 3, 1), (167, .iload 5, 2), (169, .invokevirtual 374, 3), (172, .iinc 5 1, 3), (175, .goto (-28), 3), (178, .iinc 4 1, 3), (181, .goto (-171), 3), (184, .bipush 80, 2), (186, .iload_n 1, 1), (187, .imul, 1), (188, .istore 4, 2), (190, .iload 4, 2), (192, .bipush 80, 2), (194, .iload_n 1, 1), (195, .imul, 1), (196, .aload_n 0, 1), (197, .getfield 93, 3), (200, .iload_n 1, 1), (201, .iaload, 1)]
theorem dkX7_against_1 : ∀ q ∈ tX7_against_1, decode cX7_against q.1 = .ok q.2 := by decide +kernel
def tX7_against_2 : List (Nat × Instr × Nat) := [(202, .iadd, 1), (203, .if_icmp .ge 136, 3), (206, .bipush 24, 2), (208, .iload_n 1, 1), (209, .imul, 1), (210, .aload_n 0, 1), (211, .getfield 96, 3), (214, .iload 4, 2), (216, .iaload, 1), (217, .iadd, 1), (218, .istore 5, 2), (220, .bipush 24, 2), (222, .iload_n 1, 1), (223, .imul, 1), (224, .aload_n 0, 1), (225, .getfield 99, 3), (228, .iload 4, 2), (230, .iaload, 1), (231, .iadd, 1), (232, .istore 6, 2), (234, .bipush 64, 2), (236, .iload_n 3, 1), (237, .imul, 1), (238, .istore 7, 2), (240, .iload 7, 2), (242, .bipush 64, 2), (244, .iload_n 3, 1), (245, .imul, 1), (246, .aload_n 0, 1), (247, .getfield 72, 3), (250, .iload_n 3, 1), (251, .iaload, 1), (252, .iadd, 1), (253, .if_icmp .ge 20, 3), (256, .aload_n 0, 1), (257, .iload 5, 2), (259, .iload 6, 2), (261, .iload_n 3, 1), (262, .iload 7, 2), (264, .invokevirtual 377, 3), (267, .iinc 7 1, 3), (270, .goto (-30), 3), (273, .bipush 80, 2), (275, .iload_n 3, 1), (276, .imul, 1), (277, .istore 7, 2), (279, .iload 7, 2), (281, .bipush 80, 2), (283, .iload_n 3, 1), (284, .imul, 1), (285, .aload_n 0, 1), (286, .getfield 93, 3), (289, .iload_n 3, 1), (290, .iaload, 1), (291, .iadd, 1), (292, .if_icmp .ge 41, 3), (295, .aload_n 0, 1), (296, .iload 5, 2), (298, .iload 6, 2), (300, .bipush 24, 2)]
theorem dkX7_against_2 : ∀ q ∈ tX7_against_2, decode cX7_against q.1 = .ok q.2 := by decide +kernel
def tX7_against_3 : List (Nat × Instr × Nat) := [(302, .iload_n 3, 1), (303, .imul, 1), (304, .aload_n 0, 1), (305, .getfield 96, 3), (308, .iload 7, 2), (310, .iaload, 1), (311, .iadd, 1), (312, .bipush 24, 2), (314, .iload_n 3, 1), (315, .imul, 1), (316, .aload_n 0, 1), (317, .getfield 99, 3), (320, .iload 7, 2), (322, .iaload, 1), (323, .iadd, 1), (324, .invokevirtual 380, 3), (327, .iinc 7 1, 3), (330, .goto (-51), 3), (333, .iinc 4 1, 3), (336, .goto (-146), 3), (339, .return_, 1)]
theorem dkX7_against_3 : ∀ q ∈ tX7_against_3, decode cX7_against q.1 = .ok q.2 := by decide +kernel
def tX7_against : List (Nat × Instr × Nat) := tX7_against_0 ++ (tX7_against_1 ++ (tX7_against_2 ++ (tX7_against_3)))
def mX7_against : mM := (yX7_against, 7, cX7_against, 8, none, tX7_against, (3, 116, 0, 0), 2, false)
theorem odX7_against : mOd mX7_against := List.forall_mem_append.mpr ⟨dkX7_against_0, List.forall_mem_append.mpr ⟨dkX7_against_1, List.forall_mem_append.mpr ⟨dkX7_against_2, dkX7_against_3⟩⟩⟩
set_option maxRecDepth 100000 in
theorem okX7_against : mOK mX7_against := ⟨by decide +kernel, List.mem_append_right _ (List.mem_of_getElem? (i := 1160) rfl), rfl, ⟨by decide +kernel, by decide +kernel⟩, by decide +kernel, fun h => absurd h (by decide)⟩
def tX7_nears_0 : List (Nat × Instr × Nat) := [(0, .aload_n 0, 1), (1, .iload_n 1, 1), (2, .iconst 0, 1), (3, .invokevirtual 279, 3), (6, .aload_n 0, 1), (7, .iload_n 2, 1), (8, .iconst 1, 1), (9, .invokevirtual 279, 3), (12, .aload_n 0, 1), (13, .iconst 0, 1), (14, .putfield 313, 3), (17, .aload_n 0, 1), (18, .iconst 0, 1), (19, .aload_n 0, 1), (20, .getfield 25, 3), (23, .iload_n 2, 1), (24, .iaload, 1), (25, .invokevirtual 383, 3), (28, .aload_n 0, 1), (29, .iconst 1, 1), (30, .aload_n 0, 1), (31, .getfield 25, 3), (34, .iload_n 1, 1), (35, .iaload, 1), (36, .invokevirtual 383, 3), (39, .return_, 1)]
theorem dkX7_nears_0 : ∀ q ∈ tX7_nears_0, decode cX7_nears q.1 = .ok q.2 := by decide +kernel
def tX7_nears : List (Nat × Instr × Nat) := tX7_nears_0
def mX7_nears : mM := (yX7_nears, 7, cX7_nears, 3, none, tX7_nears, (6, 163, 0, 0), 2, false)
theorem odX7_nears : mOd mX7_nears := dkX7_nears_0
set_option maxRecDepth 100000 in
theorem okX7_nears : mOK mX7_nears := ⟨by decide +kernel, List.mem_append_right _ (List.mem_of_getElem? (i := 1156) rfl), rfl, ⟨by decide +kernel, by decide +kernel⟩, by decide +kernel, fun h => absurd h (by decide)⟩
def tX7_apart_0 : List (Nat × Instr × Nat) := [(0, .iload_n 1, 1), (1, .invokestatic 133, 3), (4, .ifCond .eq 10, 3), (7, .iload_n 2, 1), (8, .invokestatic 133, 3), (11, .ifCond .ne 5, 3), (14, .iconst (-1), 1), (15, .ireturn, 1), (16, .aload_n 0, 1), (17, .getfield 25, 3), (20, .iload_n 1, 1), (21, .iaload, 1), (22, .ifCond .eq 12, 3), (25, .aload_n 0, 1), (26, .getfield 25, 3), (29, .iload_n 2, 1), (30, .iaload, 1), (31, .ifCond .ne 5, 3), (34, .iconst 1, 1), (35, .ireturn, 1), (36, .aload_n 0, 1), (37, .iload_n 1, 1), (38, .iload_n 2, 1), (39, .invokevirtual 386, 3), (42, .aload_n 0, 1), (43, .getfield 317, 3), (46, .lconst 0, 1), (47, .lcmp, 1), (48, .ifCond .le 7, 3), (51, .iconst 1, 1), (52, .goto 4, 3), (55, .iconst 0, 1), (56, .ireturn, 1)]
theorem dkX7_apart_0 : ∀ q ∈ tX7_apart_0, decode cX7_apart q.1 = .ok q.2 := by decide +kernel
def tX7_apart : List (Nat × Instr × Nat) := tX7_apart_0
def mX7_apart : mM := (yX7_apart, 7, cX7_apart, 3, (some .int), tX7_apart, (7, 185, 0, 0), 2, false)
theorem odX7_apart : mOd mX7_apart := dkX7_apart_0
set_option maxRecDepth 100000 in
theorem okX7_apart : mOK mX7_apart := ⟨by decide +kernel, List.mem_append_right _ (List.mem_of_getElem? (i := 1152) rfl), rfl, ⟨by decide +kernel, by decide +kernel⟩, by decide +kernel, fun h => absurd h (by decide)⟩
def tX7_near_0 : List (Nat × Instr × Nat) := [(0, .iload_n 1, 1), (1, .invokestatic 133, 3), (4, .ifCond .eq 28, 3), (7, .iload_n 2, 1), (8, .invokestatic 133, 3), (11, .ifCond .eq 21, 3), (14, .aload_n 0, 1), (15, .getfield 25, 3), (18, .iload_n 1, 1), (19, .iaload, 1), (20, .ifCond .eq 12, 3), (23, .aload_n 0, 1), (24, .getfield 25, 3), (27, .iload_n 2, 1), (28, .iaload, 1), (29, .ifCond .ne 7, 3), (32, .ldc2_w 168, 3), (35, .lreturn, 1), (36, .aload_n 0, 1), (37, .iload_n 1, 1), (38, .iload_n 2, 1), (39, .invokevirtual 386, 3), (42, .aload_n 0, 1), (43, .iload_n 3, 1), (44, .invokevirtual 338, 3), (47, .lreturn, 1)]
theorem dkX7_near_0 : ∀ q ∈ tX7_near_0, decode cX7_near q.1 = .ok q.2 := by decide +kernel
def tX7_near : List (Nat × Instr × Nat) := tX7_near_0
def mX7_near : mM := (yX7_near, 7, cX7_near, 4, (some .long), tX7_near, (7, 185, 0, 0), 3, false)
theorem odX7_near : mOd mX7_near := dkX7_near_0
set_option maxRecDepth 100000 in
theorem okX7_near : mOK mX7_near := ⟨by decide +kernel, List.mem_append_right _ (List.mem_of_getElem? (i := 1188) rfl), rfl, ⟨by decide +kernel, by decide +kernel⟩, by decide +kernel, fun h => absurd h (by decide)⟩
def tX7_same_0 : List (Nat × Instr × Nat) := [(0, .iload_n 1, 1), (1, .invokestatic 133, 3), (4, .ifCond .eq 10, 3), (7, .iload_n 2, 1), (8, .invokestatic 133, 3), (11, .ifCond .ne 5, 3), (14, .iconst (-1), 1), (15, .ireturn, 1), (16, .aload_n 0, 1), (17, .getfield 22, 3), (20, .iload_n 1, 1), (21, .iaload, 1), (22, .aload_n 0, 1), (23, .getfield 22, 3), (26, .iload_n 2, 1), (27, .iaload, 1), (28, .if_icmp .ne 7, 3), (31, .iconst 1, 1), (32, .goto 4, 3), (35, .iconst 0, 1), (36, .istore_n 3, 1), (37, .iconst 0, 1), (38, .istore 4, 2), (40, .iload 4, 2), (42, .aload_n 0, 1), (43, .getfield 22, 3), (46, .iload_n 1, 1), (47, .iaload, 1), (48, .if_icmp .ge 59, 3), (51, .iload_n 3, 1), (52, .ifCond .eq 55, 3), (55, .iconst 0, 1), (56, .istore 5, 2), (58, .iload 5, 2), (60, .iconst 3, 1), (61, .if_icmp .ge 40, 3), (64, .iload_n 3, 1), (65, .ifCond .eq 28, 3), (68, .aload_n 0, 1), (69, .iload_n 1, 1), (70, .iload 4, 2), (72, .iload 5, 2), (74, .invokevirtual 292, 3), (77, .aload_n 0, 1), (78, .iload_n 2, 1), (79, .iload 4, 2), (81, .iload 5, 2), (83, .invokevirtual 292, 3), (86, .if_icmp .ne 7, 3), (89, .iconst 1, 1), (90, .goto 4, 3), (93, .iconst 0, 1), (94, .istore_n 3, 1), (95, .iinc 5 1, 3), (98, .goto (-40), 3), (101, .iinc 4 1, 3), (104, .goto (-64), 3), (107, .iload_n 3, 1), (108, .ifCond .eq 7, 3), (111, .iconst 1, 1)]
theorem dkX7_same_0 : ∀ q ∈ tX7_same_0, decode cX7_same q.1 = .ok q.2 := by decide +kernel
def tX7_same_1 : List (Nat × Instr × Nat) := [(112, .goto 4, 3), (115, .iconst 0, 1), (116, .ireturn, 1)]
theorem dkX7_same_1 : ∀ q ∈ tX7_same_1, decode cX7_same q.1 = .ok q.2 := by decide +kernel
def tX7_same : List (Nat × Instr × Nat) := tX7_same_0 ++ (tX7_same_1)
def mX7_same : mM := (yX7_same, 7, cX7_same, 6, (some .int), tX7_same, (2, 43, 0, 0), 2, false)
theorem odX7_same : mOd mX7_same := List.forall_mem_append.mpr ⟨dkX7_same_0, dkX7_same_1⟩
set_option maxRecDepth 100000 in
theorem okX7_same : mOK mX7_same := ⟨by decide +kernel, List.mem_append_right _ (List.mem_of_getElem? (i := 1192) rfl), rfl, ⟨by decide +kernel, by decide +kernel⟩, by decide +kernel, fun h => absurd h (by decide)⟩
def tX7_move_0 : List (Nat × Instr × Nat) := [(0, .iload_n 1, 1), (1, .invokestatic 133, 3), (4, .ifCond .ne 5, 3), (7, .iconst 0, 1), (8, .ireturn, 1), (9, .iconst 0, 1), (10, .istore 5, 2), (12, .iload 5, 2), (14, .aload_n 0, 1), (15, .getfield 22, 3), (18, .iload_n 1, 1), (19, .iaload, 1), (20, .if_icmp .ge 54, 3), (23, .aload_n 0, 1), (24, .iload_n 1, 1), (25, .iload 5, 2), (27, .iconst 0, 1), (28, .invokevirtual 292, 3), (31, .i2l, 1), (32, .iload_n 2, 1), (33, .i2l, 1), (34, .ladd, 1), (35, .aload_n 0, 1), (36, .iload_n 1, 1), (37, .iload 5, 2), (39, .iconst 1, 1), (40, .invokevirtual 292, 3), (43, .i2l, 1), (44, .iload_n 3, 1), (45, .i2l, 1), (46, .ladd, 1), (47, .aload_n 0, 1), (48, .iload_n 1, 1), (49, .iload 5, 2), (51, .iconst 2, 1), (52, .invokevirtual 292, 3), (55, .i2l, 1), (56, .iload 4, 2), (58, .i2l, 1), (59, .ladd, 1), (60, .invokestatic 137, 3), (63, .ifCond .ne 5, 3), (66, .iconst 0, 1), (67, .ireturn, 1), (68, .iinc 5 1, 3), (71, .goto (-59), 3), (74, .aload_n 0, 1), (75, .invokevirtual 237, 3), (78, .bipush 24, 2), (80, .iload_n 1, 1), (81, .imul, 1), (82, .istore 5, 2), (84, .iload 5, 2), (86, .bipush 24, 2), (88, .iload_n 1, 1), (89, .imul, 1), (90, .aload_n 0, 1), (91, .getfield 22, 3), (94, .iload_n 1, 1), (95, .iaload, 1)]
theorem dkX7_move_0 : ∀ q ∈ tX7_move_0, decode cX7_move q.1 = .ok q.2 := by decide +kernel
def tX7_move_1 : List (Nat × Instr × Nat) := [(96, .iadd, 1), (97, .if_icmp .ge 43, 3), (100, .aload_n 0, 1), (101, .getfield 28, 3), (104, .iload 5, 2), (106, .dup2, 1), (107, .iaload, 1), (108, .iload_n 2, 1), (109, .iadd, 1), (110, .iastore, 1), (111, .aload_n 0, 1), (112, .getfield 31, 3), (115, .iload 5, 2), (117, .dup2, 1), (118, .iaload, 1), (119, .iload_n 3, 1), (120, .iadd, 1), (121, .iastore, 1), (122, .aload_n 0, 1), (123, .getfield 34, 3), (126, .iload 5, 2), (128, .dup2, 1), (129, .iaload, 1), (130, .iload 4, 2), (132, .iadd, 1), (133, .iastore, 1), (134, .iinc 5 1, 3), (137, .goto (-53), 3), (140, .iconst 1, 1), (141, .ireturn, 1)]
theorem dkX7_move_1 : ∀ q ∈ tX7_move_1, decode cX7_move q.1 = .ok q.2 := by decide +kernel
def tX7_move : List (Nat × Instr × Nat) := tX7_move_0 ++ (tX7_move_1)
def mX7_move : mM := (yX7_move, 7, cX7_move, 6, (some .boolean), tX7_move, (2, 43, 0, 0), 4, false)
theorem odX7_move : mOd mX7_move := List.forall_mem_append.mpr ⟨dkX7_move_0, dkX7_move_1⟩
set_option maxRecDepth 100000 in
theorem okX7_move : mOK mX7_move := ⟨by decide +kernel, List.mem_append_right _ (List.mem_of_getElem? (i := 1196) rfl), rfl, ⟨by decide +kernel, by decide +kernel⟩, by decide +kernel, fun h => absurd h (by decide)⟩
def tX7_orders_0 : List (Nat × Instr × Nat) := [(0, .aload_n 0, 1), (1, .iload_n 1, 1), (2, .invokevirtual 226, 3), (5, .iconst 0, 1), (6, .istore_n 2, 1), (7, .iload_n 2, 1), (8, .aload_n 0, 1), (9, .getfield 145, 3), (12, .if_icmp .ge 63, 3), (15, .aload_n 0, 1), (16, .getfield 28, 3), (19, .bipush 24, 2), (21, .iload_n 1, 1), (22, .imul, 1), (23, .iload_n 2, 1), (24, .iadd, 1), (25, .aload_n 0, 1), (26, .getfield 52, 3), (29, .iload_n 2, 1), (30, .laload, 1), (31, .l2i, 1), (32, .iastore, 1), (33, .aload_n 0, 1), (34, .getfield 31, 3), (37, .bipush 24, 2), (39, .iload_n 1, 1), (40, .imul, 1), (41, .iload_n 2, 1), (42, .iadd, 1), (43, .aload_n 0, 1), (44, .getfield 56, 3), (47, .iload_n 2, 1), (48, .laload, 1), (49, .l2i, 1), (50, .iastore, 1), (51, .aload_n 0, 1), (52, .getfield 34, 3), (55, .bipush 24, 2), (57, .iload_n 1, 1), (58, .imul, 1), (59, .iload_n 2, 1), (60, .iadd, 1), (61, .aload_n 0, 1), (62, .getfield 59, 3), (65, .iload_n 2, 1), (66, .laload, 1), (67, .l2i, 1), (68, .iastore, 1), (69, .iinc 2 1, 3), (72, .goto (-65), 3), (75, .return_, 1)]
theorem dkX7_orders_0 : ∀ q ∈ tX7_orders_0, decode cX7_orders q.1 = .ok q.2 := by decide +kernel
def tX7_orders : List (Nat × Instr × Nat) := tX7_orders_0
def mX7_orders : mM := (yX7_orders, 7, cX7_orders, 3, none, tX7_orders, (2, 50, 0, 0), 1, false)
theorem odX7_orders : mOd mX7_orders := dkX7_orders_0
set_option maxRecDepth 100000 in
theorem okX7_orders : mOK mX7_orders := ⟨by decide +kernel, List.mem_append_right _ (List.mem_of_getElem? (i := 1204) rfl), rfl, ⟨by decide +kernel, by decide +kernel⟩, by decide +kernel, fun h => absurd h (by decide)⟩
def tX7_mirror_0 : List (Nat × Instr × Nat) := [(0, .iload_n 1, 1), (1, .invokestatic 133, 3), (4, .ifCond .eq 12, 3), (7, .iload_n 2, 1), (8, .ifCond .lt 8, 3), (11, .iload_n 2, 1), (12, .iconst 3, 1), (13, .if_icmp .le 5, 3), (16, .iconst 0, 1), (17, .ireturn, 1), (18, .aload_n 0, 1), (19, .invokevirtual 237, 3), (22, .bipush 24, 2), (24, .iload_n 1, 1), (25, .imul, 1), (26, .istore_n 3, 1), (27, .iload_n 3, 1), (28, .bipush 24, 2), (30, .iload_n 1, 1), (31, .imul, 1), (32, .aload_n 0, 1), (33, .getfield 22, 3), (36, .iload_n 1, 1), (37, .iaload, 1), (38, .iadd, 1), (39, .if_icmp .ge 77, 3), (42, .iload_n 2, 1), (43, .ifCond .eq 8, 3), (46, .iload_n 2, 1), (47, .iconst 3, 1), (48, .if_icmp .ne 16, 3), (51, .aload_n 0, 1), (52, .getfield 28, 3), (55, .iload_n 3, 1), (56, .aload_n 0, 1), (57, .getfield 28, 3), (60, .iload_n 3, 1), (61, .iaload, 1), (62, .ineg, 1), (63, .iastore, 1), (64, .iload_n 2, 1), (65, .iconst 1, 1), (66, .if_icmp .eq 8, 3), (69, .iload_n 2, 1), (70, .iconst 3, 1), (71, .if_icmp .ne 16, 3), (74, .aload_n 0, 1), (75, .getfield 31, 3), (78, .iload_n 3, 1), (79, .aload_n 0, 1), (80, .getfield 31, 3), (83, .iload_n 3, 1), (84, .iaload, 1), (85, .ineg, 1), (86, .iastore, 1), (87, .iload_n 2, 1), (88, .iconst 2, 1), (89, .if_icmp .eq 8, 3), (92, .iload_n 2, 1), (93, .iconst 3, 1)]
theorem dkX7_mirror_0 : ∀ q ∈ tX7_mirror_0, decode cX7_mirror q.1 = .ok q.2 := by decide +kernel
def tX7_mirror_1 : List (Nat × Instr × Nat) := [(94, .if_icmp .ne 16, 3), (97, .aload_n 0, 1), (98, .getfield 34, 3), (101, .iload_n 3, 1), (102, .aload_n 0, 1), (103, .getfield 34, 3), (106, .iload_n 3, 1), (107, .iaload, 1), (108, .ineg, 1), (109, .iastore, 1), (110, .iinc 3 1, 3), (113, .goto (-86), 3), (116, .aload_n 0, 1), (117, .iload_n 1, 1), (118, .invokevirtual 389, 3), (121, .iconst 1, 1), (122, .ireturn, 1)]
theorem dkX7_mirror_1 : ∀ q ∈ tX7_mirror_1, decode cX7_mirror q.1 = .ok q.2 := by decide +kernel
def tX7_mirror : List (Nat × Instr × Nat) := tX7_mirror_0 ++ (tX7_mirror_1)
def mX7_mirror : mM := (yX7_mirror, 7, cX7_mirror, 4, (some .boolean), tX7_mirror, (3, 72, 0, 0), 2, false)
theorem odX7_mirror : mOd mX7_mirror := List.forall_mem_append.mpr ⟨dkX7_mirror_0, dkX7_mirror_1⟩
set_option maxRecDepth 100000 in
theorem okX7_mirror : mOK mX7_mirror := ⟨by decide +kernel, List.mem_append_right _ (List.mem_of_getElem? (i := 1200) rfl), rfl, ⟨by decide +kernel, by decide +kernel⟩, by decide +kernel, fun h => absurd h (by decide)⟩
def tX7_turn_0 : List (Nat × Instr × Nat) := [(0, .iload_n 1, 1), (1, .invokestatic 133, 3), (4, .ifCond .eq 12, 3), (7, .iload_n 2, 1), (8, .ifCond .lt 8, 3), (11, .iload_n 2, 1), (12, .iconst 2, 1), (13, .if_icmp .le 5, 3), (16, .iconst 0, 1), (17, .ireturn, 1), (18, .aload_n 0, 1), (19, .invokevirtual 237, 3), (22, .bipush 24, 2), (24, .iload_n 1, 1), (25, .imul, 1), (26, .istore_n 3, 1), (27, .iload_n 3, 1), (28, .bipush 24, 2), (30, .iload_n 1, 1), (31, .imul, 1), (32, .aload_n 0, 1), (33, .getfield 22, 3), (36, .iload_n 1, 1), (37, .iaload, 1), (38, .iadd, 1), (39, .if_icmp .ge 117, 3), (42, .aload_n 0, 1), (43, .getfield 28, 3), (46, .iload_n 3, 1), (47, .iaload, 1), (48, .istore 4, 2), (50, .aload_n 0, 1), (51, .getfield 31, 3), (54, .iload_n 3, 1), (55, .iaload, 1), (56, .istore 5, 2), (58, .aload_n 0, 1), (59, .getfield 34, 3), (62, .iload_n 3, 1), (63, .iaload, 1), (64, .istore 6, 2), (66, .aload_n 0, 1), (67, .getfield 28, 3), (70, .iload_n 3, 1), (71, .iload_n 2, 1), (72, .ifCond .ne 8, 3), (75, .iload 4, 2), (77, .goto 16, 3), (80, .iload_n 2, 1), (81, .iconst 1, 1), (82, .if_icmp .ne 8, 3), (85, .iload 6, 2), (87, .goto 6, 3), (90, .iload 5, 2), (92, .ineg, 1), (93, .iastore, 1), (94, .aload_n 0, 1), (95, .getfield 31, 3), (98, .iload_n 3, 1), (99, .iload_n 2, 1)]
theorem dkX7_turn_0 : ∀ q ∈ tX7_turn_0, decode cX7_turn q.1 = .ok q.2 := by decide +kernel
def tX7_turn_1 : List (Nat × Instr × Nat) := [(100, .ifCond .ne 9, 3), (103, .iload 6, 2), (105, .ineg, 1), (106, .goto 15, 3), (109, .iload_n 2, 1), (110, .iconst 1, 1), (111, .if_icmp .ne 8, 3), (114, .iload 5, 2), (116, .goto 5, 3), (119, .iload 4, 2), (121, .iastore, 1), (122, .aload_n 0, 1), (123, .getfield 34, 3), (126, .iload_n 3, 1), (127, .iload_n 2, 1), (128, .ifCond .ne 8, 3), (131, .iload 5, 2), (133, .goto 16, 3), (136, .iload_n 2, 1), (137, .iconst 1, 1), (138, .if_icmp .ne 9, 3), (141, .iload 4, 2), (143, .ineg, 1), (144, .goto 5, 3), (147, .iload 6, 2), (149, .iastore, 1), (150, .iinc 3 1, 3), (153, .goto (-126), 3), (156, .aload_n 0, 1), (157, .iload_n 1, 1), (158, .invokevirtual 389, 3), (161, .iconst 1, 1), (162, .ireturn, 1)]
theorem dkX7_turn_1 : ∀ q ∈ tX7_turn_1, decode cX7_turn q.1 = .ok q.2 := by decide +kernel
def tX7_turn : List (Nat × Instr × Nat) := tX7_turn_0 ++ (tX7_turn_1)
def mX7_turn : mM := (yX7_turn, 7, cX7_turn, 7, (some .boolean), tX7_turn, (3, 72, 0, 0), 2, false)
theorem odX7_turn : mOd mX7_turn := List.forall_mem_append.mpr ⟨dkX7_turn_0, dkX7_turn_1⟩
set_option maxRecDepth 100000 in
theorem okX7_turn : mOK mX7_turn := ⟨by decide +kernel, List.mem_append_right _ (List.mem_of_getElem? (i := 1208) rfl), rfl, ⟨by decide +kernel, by decide +kernel⟩, by decide +kernel, fun h => absurd h (by decide)⟩
def tX7_copy_0 : List (Nat × Instr × Nat) := [(0, .iload_n 1, 1), (1, .invokestatic 133, 3), (4, .ifCond .eq 10, 3), (7, .iload_n 2, 1), (8, .invokestatic 133, 3), (11, .ifCond .ne 5, 3), (14, .iconst 0, 1), (15, .ireturn, 1), (16, .aload_n 0, 1), (17, .invokevirtual 237, 3), (20, .iconst 0, 1), (21, .istore_n 3, 1), (22, .iload_n 3, 1), (23, .bipush 24, 2), (25, .if_icmp .ge 75, 3), (28, .aload_n 0, 1), (29, .getfield 28, 3), (32, .bipush 24, 2), (34, .iload_n 2, 1), (35, .imul, 1), (36, .iload_n 3, 1), (37, .iadd, 1), (38, .aload_n 0, 1), (39, .getfield 28, 3), (42, .bipush 24, 2), (44, .iload_n 1, 1), (45, .imul, 1), (46, .iload_n 3, 1), (47, .iadd, 1), (48, .iaload, 1), (49, .iastore, 1), (50, .aload_n 0, 1), (51, .getfield 31, 3), (54, .bipush 24, 2), (56, .iload_n 2, 1), (57, .imul, 1), (58, .iload_n 3, 1), (59, .iadd, 1), (60, .aload_n 0, 1), (61, .getfield 31, 3), (64, .bipush 24, 2), (66, .iload_n 1, 1), (67, .imul, 1), (68, .iload_n 3, 1), (69, .iadd, 1), (70, .iaload, 1), (71, .iastore, 1), (72, .aload_n 0, 1), (73, .getfield 34, 3), (76, .bipush 24, 2), (78, .iload_n 2, 1), (79, .imul, 1), (80, .iload_n 3, 1), (81, .iadd, 1), (82, .aload_n 0, 1), (83, .getfield 34, 3), (86, .bipush 24, 2), (88, .iload_n 1, 1), (89, .imul, 1), (90, .iload_n 3, 1)]
theorem dkX7_copy_0 : ∀ q ∈ tX7_copy_0, decode cX7_copy q.1 = .ok q.2 := by decide +kernel
def tX7_copy_1 : List (Nat × Instr × Nat) := [(91, .iadd, 1), (92, .iaload, 1), (93, .iastore, 1), (94, .iinc 3 1, 3), (97, .goto (-75), 3), (100, .aload_n 0, 1), (101, .getfield 22, 3), (104, .iload_n 2, 1), (105, .aload_n 0, 1), (106, .getfield 22, 3), (109, .iload_n 1, 1), (110, .iaload, 1), (111, .iastore, 1), (112, .aload_n 0, 1), (113, .getfield 25, 3), (116, .iload_n 2, 1), (117, .aload_n 0, 1), (118, .getfield 25, 3), (121, .iload_n 1, 1), (122, .iaload, 1), (123, .iastore, 1), (124, .iconst 1, 1), (125, .ireturn, 1)]
theorem dkX7_copy_1 : ∀ q ∈ tX7_copy_1, decode cX7_copy q.1 = .ok q.2 := by decide +kernel
def tX7_copy : List (Nat × Instr × Nat) := tX7_copy_0 ++ (tX7_copy_1)
def mX7_copy : mM := (yX7_copy, 7, cX7_copy, 4, (some .boolean), tX7_copy, (1, 21, 0, 0), 2, false)
theorem odX7_copy : mOd mX7_copy := List.forall_mem_append.mpr ⟨dkX7_copy_0, dkX7_copy_1⟩
set_option maxRecDepth 100000 in
theorem okX7_copy : mOK mX7_copy := ⟨by decide +kernel, List.mem_append_right _ (List.mem_of_getElem? (i := 1212) rfl), rfl, ⟨by decide +kernel, by decide +kernel⟩, by decide +kernel, fun h => absurd h (by decide)⟩
def tJ6_compare_7cf53_0 : List (Nat × Instr × Nat) := [(0, .iload_n 0, 1), (1, .iload_n 1, 1), (2, .if_icmp .ge 7, 3), (5, .iconst (-1), 1), (6, .goto 13, 3), (9, .iload_n 0, 1), (10, .iload_n 1, 1), (11, .if_icmp .ne 7, 3), (14, .iconst 0, 1), (15, .goto 4, 3), (18, .iconst 1, 1), (19, .ireturn, 1)]
theorem dkJ6_compare_7cf53_0 : ∀ q ∈ tJ6_compare_7cf53_0, decode cJ6_compare_7cf53 q.1 = .ok q.2 := by decide +kernel
def tJ6_compare_7cf53 : List (Nat × Instr × Nat) := tJ6_compare_7cf53_0
def mJ6_compare_7cf53 : mM := (yJ6_compare_7cf53, 8, cJ6_compare_7cf53, 2, (some .int), tJ6_compare_7cf53, (0, 0, 0, 0), 2, false)
theorem odJ6_compare_7cf53 : mOd mJ6_compare_7cf53 := dkJ6_compare_7cf53_0
set_option maxRecDepth 100000 in
theorem okJ6_compare_7cf53 : mOK mJ6_compare_7cf53 := ⟨by decide +kernel, List.mem_append_right _ (List.mem_of_getElem? (i := 440) rfl), rfl, ⟨by decide +kernel, by decide +kernel⟩, by decide +kernel, fun h => absurd h (by decide)⟩
def tJ7_fill_53178_0 : List (Nat × Instr × Nat) := [(0, .iconst 0, 1), (1, .istore_n 2, 1), (2, .aload_n 0, 1), (3, .arraylength, 1), (4, .istore_n 3, 1), (5, .iload_n 2, 1), (6, .iload_n 3, 1), (7, .if_icmp .ge 13, 3), (10, .aload_n 0, 1), (11, .iload_n 2, 1), (12, .iload_n 1, 1), (13, .iastore, 1), (14, .iinc 2 1, 3), (17, .goto (-12), 3), (20, .return_, 1)]
theorem dkJ7_fill_53178_0 : ∀ q ∈ tJ7_fill_53178_0, decode cJ7_fill_53178 q.1 = .ok q.2 := by decide +kernel
def tJ7_fill_53178 : List (Nat × Instr × Nat) := tJ7_fill_53178_0
def mJ7_fill_53178 : mM := (yJ7_fill_53178, 11, cJ7_fill_53178, 4, none, tJ7_fill_53178, (0, 0, 0, 0), 2, false)
theorem odJ7_fill_53178 : mOd mJ7_fill_53178 := dkJ7_fill_53178_0
set_option maxRecDepth 100000 in
theorem okJ7_fill_53178 : mOK mJ7_fill_53178 := ⟨by decide +kernel, List.mem_append_right _ (List.mem_of_getElem? (i := 475) rfl), rfl, ⟨by decide +kernel, by decide +kernel⟩, by decide +kernel, fun h => absurd h (by decide)⟩
end
section
def tL_law_0 : List (Nat × Instr × Nat) := [(0, .new 7, 3), (3, .dup, 1), (4, .invokespecial 9, 3), (7, .astore_n 1, 1), (8, .new 10, 3), (11, .dup, 1), (12, .invokespecial 12, 3), (15, .astore_n 2, 1), (16, .iconst 0, 1), (17, .istore_n 3, 1), (18, .iload_n 3, 1), (19, .aload_n 0, 1), (20, .arraylength, 1), (21, .bipush 6, 2), (23, .isub, 1), (24, .if_icmp .gt 1046, 3), (27, .aload_n 0, 1), (28, .iload_n 3, 1), (29, .iaload, 1), (30, .bipush 31, 2), (32, .iand, 1), (33, .tableswitch 1031 0 22 #[107, 140, 203, 236, 289, 322, 365, 408, 452, 515, 578, 602, 646, 679, 713, 756, 789, 833, 866, 919, 952, 985, 1018], 107), (140, .aload_n 1, 1), (141, .aload_n 0, 1), (142, .iload_n 3, 1), (143, .iconst 1, 1), (144, .iadd, 1), (145, .iaload, 1), (146, .aload_n 0, 1), (147, .iload_n 3, 1), (148, .iconst 2, 1), (149, .iadd, 1), (150, .iaload, 1), (151, .invokevirtual 13, 3), (154, .aload_n 2, 1), (155, .aload_n 0, 1), (156, .iload_n 3, 1), (157, .iconst 1, 1), (158, .iadd, 1), (159, .iaload, 1), (160, .aload_n 0, 1), (161, .iload_n 3, 1), (162, .iconst 2, 1), (163, .iadd, 1), (164, .iaload, 1), (165, .invokevirtual 17, 3), (168, .if_icmp .eq 896, 3), (171, .iconst 0, 1), (172, .ireturn, 1), (173, .aload_n 1, 1), (174, .aload_n 0, 1), (175, .iload_n 3, 1), (176, .iconst 1, 1), (177, .iadd, 1), (178, .iaload, 1), (179, .aload_n 0, 1), (180, .iload_n 3, 1), (181, .iconst 2, 1), (182, .iadd, 1), (183, .iaload, 1)]
theorem dkL_law_0 : ∀ q ∈ tL_law_0, decode cL_law q.1 = .ok q.2 := by decide +kernel
def tL_law_1 : List (Nat × Instr × Nat) := [(184, .aload_n 0, 1), (185, .iload_n 3, 1), (186, .iconst 3, 1), (187, .iadd, 1), (188, .iaload, 1), (189, .aload_n 0, 1), (190, .iload_n 3, 1), (191, .iconst 4, 1), (192, .iadd, 1), (193, .iaload, 1), (194, .aload_n 0, 1), (195, .iload_n 3, 1), (196, .iconst 5, 1), (197, .iadd, 1), (198, .iaload, 1), (199, .invokevirtual 18, 3), (202, .aload_n 2, 1), (203, .aload_n 0, 1), (204, .iload_n 3, 1), (205, .iconst 1, 1), (206, .iadd, 1), (207, .iaload, 1), (208, .aload_n 0, 1), (209, .iload_n 3, 1), (210, .iconst 2, 1), (211, .iadd, 1), (212, .iaload, 1), (213, .aload_n 0, 1), (214, .iload_n 3, 1), (215, .iconst 3, 1), (216, .iadd, 1), (217, .iaload, 1), (218, .aload_n 0, 1), (219, .iload_n 3, 1), (220, .iconst 4, 1), (221, .iadd, 1), (222, .iaload, 1), (223, .aload_n 0, 1), (224, .iload_n 3, 1), (225, .iconst 5, 1), (226, .iadd, 1), (227, .iaload, 1), (228, .invokevirtual 22, 3), (231, .if_icmp .eq 833, 3), (234, .iconst 0, 1), (235, .ireturn, 1), (236, .aload_n 1, 1), (237, .aload_n 0, 1), (238, .iload_n 3, 1), (239, .iconst 1, 1), (240, .iadd, 1), (241, .iaload, 1), (242, .aload_n 0, 1), (243, .iload_n 3, 1), (244, .iconst 2, 1), (245, .iadd, 1), (246, .iaload, 1), (247, .invokevirtual 23, 3), (250, .aload_n 2, 1), (251, .aload_n 0, 1)]
theorem dkL_law_1 : ∀ q ∈ tL_law_1, decode cL_law q.1 = .ok q.2 := by decide +kernel
def tL_law_2 : List (Nat × Instr × Nat) := [(252, .iload_n 3, 1), (253, .iconst 1, 1), (254, .iadd, 1), (255, .iaload, 1), (256, .aload_n 0, 1), (257, .iload_n 3, 1), (258, .iconst 2, 1), (259, .iadd, 1), (260, .iaload, 1), (261, .invokevirtual 27, 3), (264, .if_icmp .eq 800, 3), (267, .iconst 0, 1), (268, .ireturn, 1), (269, .aload_n 1, 1), (270, .aload_n 0, 1), (271, .iload_n 3, 1), (272, .iconst 1, 1), (273, .iadd, 1), (274, .iaload, 1), (275, .aload_n 0, 1), (276, .iload_n 3, 1), (277, .iconst 2, 1), (278, .iadd, 1), (279, .iaload, 1), (280, .aload_n 0, 1), (281, .iload_n 3, 1), (282, .iconst 3, 1), (283, .iadd, 1), (284, .iaload, 1), (285, .aload_n 0, 1), (286, .iload_n 3, 1), (287, .iconst 4, 1), (288, .iadd, 1), (289, .iaload, 1), (290, .invokevirtual 28, 3), (293, .aload_n 2, 1), (294, .aload_n 0, 1), (295, .iload_n 3, 1), (296, .iconst 1, 1), (297, .iadd, 1), (298, .iaload, 1), (299, .aload_n 0, 1), (300, .iload_n 3, 1), (301, .iconst 2, 1), (302, .iadd, 1), (303, .iaload, 1), (304, .aload_n 0, 1), (305, .iload_n 3, 1), (306, .iconst 3, 1), (307, .iadd, 1), (308, .iaload, 1), (309, .aload_n 0, 1), (310, .iload_n 3, 1), (311, .iconst 4, 1), (312, .iadd, 1), (313, .iaload, 1), (314, .invokevirtual 32, 3), (317, .if_icmp .eq 747, 3), (320, .iconst 0, 1), (321, .ireturn, 1)]
theorem dkL_law_2 : ∀ q ∈ tL_law_2, decode cL_law q.1 = .ok q.2 := by decide +kernel
def tL_law_3 : List (Nat × Instr × Nat) := [(322, .aload_n 1, 1), (323, .aload_n 0, 1), (324, .iload_n 3, 1), (325, .iconst 1, 1), (326, .iadd, 1), (327, .iaload, 1), (328, .aload_n 0, 1), (329, .iload_n 3, 1), (330, .iconst 2, 1), (331, .iadd, 1), (332, .iaload, 1), (333, .invokevirtual 33, 3), (336, .aload_n 2, 1), (337, .aload_n 0, 1), (338, .iload_n 3, 1), (339, .iconst 1, 1), (340, .iadd, 1), (341, .iaload, 1), (342, .aload_n 0, 1), (343, .iload_n 3, 1), (344, .iconst 2, 1), (345, .iadd, 1), (346, .iaload, 1), (347, .invokevirtual 36, 3), (350, .if_icmp .eq 714, 3), (353, .iconst 0, 1), (354, .ireturn, 1), (355, .aload_n 1, 1), (356, .aload_n 0, 1), (357, .iload_n 3, 1), (358, .iconst 1, 1), (359, .iadd, 1), (360, .iaload, 1), (361, .aload_n 0, 1), (362, .iload_n 3, 1), (363, .iconst 2, 1), (364, .iadd, 1), (365, .iaload, 1), (366, .aload_n 0, 1), (367, .iload_n 3, 1), (368, .iconst 3, 1), (369, .iadd, 1), (370, .iaload, 1), (371, .invokevirtual 37, 3), (374, .aload_n 2, 1), (375, .aload_n 0, 1), (376, .iload_n 3, 1), (377, .iconst 1, 1), (378, .iadd, 1), (379, .iaload, 1), (380, .aload_n 0, 1), (381, .iload_n 3, 1), (382, .iconst 2, 1), (383, .iadd, 1), (384, .iaload, 1), (385, .aload_n 0, 1), (386, .iload_n 3, 1), (387, .iconst 3, 1), (388, .iadd, 1), (389, .iaload, 1)]
theorem dkL_law_3 : ∀ q ∈ tL_law_3, decode cL_law q.1 = .ok q.2 := by decide +kernel
def tL_law_4 : List (Nat × Instr × Nat) := [(390, .invokevirtual 41, 3), (393, .if_icmp .eq 671, 3), (396, .iconst 0, 1), (397, .ireturn, 1), (398, .aload_n 1, 1), (399, .aload_n 0, 1), (400, .iload_n 3, 1), (401, .iconst 1, 1), (402, .iadd, 1), (403, .iaload, 1), (404, .aload_n 0, 1), (405, .iload_n 3, 1), (406, .iconst 2, 1), (407, .iadd, 1), (408, .iaload, 1), (409, .aload_n 0, 1), (410, .iload_n 3, 1), (411, .iconst 3, 1), (412, .iadd, 1), (413, .iaload, 1), (414, .invokevirtual 42, 3), (417, .aload_n 2, 1), (418, .aload_n 0, 1), (419, .iload_n 3, 1), (420, .iconst 1, 1), (421, .iadd, 1), (422, .iaload, 1), (423, .aload_n 0, 1), (424, .iload_n 3, 1), (425, .iconst 2, 1), (426, .iadd, 1), (427, .iaload, 1), (428, .aload_n 0, 1), (429, .iload_n 3, 1), (430, .iconst 3, 1), (431, .iadd, 1), (432, .iaload, 1), (433, .invokevirtual 45, 3), (436, .if_icmp .eq 628, 3), (439, .iconst 0, 1), (440, .ireturn, 1), (441, .aload_n 1, 1), (442, .aload_n 0, 1), (443, .iload_n 3, 1), (444, .iconst 1, 1), (445, .iadd, 1), (446, .iaload, 1), (447, .aload_n 0, 1), (448, .iload_n 3, 1), (449, .iconst 2, 1), (450, .iadd, 1), (451, .iaload, 1), (452, .aload_n 0, 1), (453, .iload_n 3, 1), (454, .iconst 3, 1), (455, .iadd, 1), (456, .iaload, 1), (457, .invokevirtual 46, 3), (460, .aload_n 2, 1), (461, .aload_n 0, 1)]
theorem dkL_law_4 : ∀ q ∈ tL_law_4, decode cL_law q.1 = .ok q.2 := by decide +kernel
def tL_law_5 : List (Nat × Instr × Nat) := [(462, .iload_n 3, 1), (463, .iconst 1, 1), (464, .iadd, 1), (465, .iaload, 1), (466, .aload_n 0, 1), (467, .iload_n 3, 1), (468, .iconst 2, 1), (469, .iadd, 1), (470, .iaload, 1), (471, .aload_n 0, 1), (472, .iload_n 3, 1), (473, .iconst 3, 1), (474, .iadd, 1), (475, .iaload, 1), (476, .invokevirtual 50, 3), (479, .lcmp, 1), (480, .ifCond .eq 584, 3), (483, .iconst 0, 1), (484, .ireturn, 1), (485, .aload_n 1, 1), (486, .aload_n 0, 1), (487, .iload_n 3, 1), (488, .iconst 1, 1), (489, .iadd, 1), (490, .iaload, 1), (491, .aload_n 0, 1), (492, .iload_n 3, 1), (493, .iconst 2, 1), (494, .iadd, 1), (495, .iaload, 1), (496, .aload_n 0, 1), (497, .iload_n 3, 1), (498, .iconst 3, 1), (499, .iadd, 1), (500, .iaload, 1), (501, .aload_n 0, 1), (502, .iload_n 3, 1), (503, .iconst 4, 1), (504, .iadd, 1), (505, .iaload, 1), (506, .aload_n 0, 1), (507, .iload_n 3, 1), (508, .iconst 5, 1), (509, .iadd, 1), (510, .iaload, 1), (511, .invokevirtual 51, 3), (514, .aload_n 2, 1), (515, .aload_n 0, 1), (516, .iload_n 3, 1), (517, .iconst 1, 1), (518, .iadd, 1), (519, .iaload, 1), (520, .aload_n 0, 1), (521, .iload_n 3, 1), (522, .iconst 2, 1), (523, .iadd, 1), (524, .iaload, 1), (525, .aload_n 0, 1), (526, .iload_n 3, 1), (527, .iconst 3, 1)]
theorem dkL_law_5 : ∀ q ∈ tL_law_5, decode cL_law q.1 = .ok q.2 := by decide +kernel
def tL_law_6 : List (Nat × Instr × Nat) := [(528, .iadd, 1), (529, .iaload, 1), (530, .aload_n 0, 1), (531, .iload_n 3, 1), (532, .iconst 4, 1), (533, .iadd, 1), (534, .iaload, 1), (535, .aload_n 0, 1), (536, .iload_n 3, 1), (537, .iconst 5, 1), (538, .iadd, 1), (539, .iaload, 1), (540, .invokevirtual 55, 3), (543, .if_icmp .eq 521, 3), (546, .iconst 0, 1), (547, .ireturn, 1), (548, .aload_n 1, 1), (549, .aload_n 0, 1), (550, .iload_n 3, 1), (551, .iconst 1, 1), (552, .iadd, 1), (553, .iaload, 1), (554, .aload_n 0, 1), (555, .iload_n 3, 1), (556, .iconst 2, 1), (557, .iadd, 1), (558, .iaload, 1), (559, .aload_n 0, 1), (560, .iload_n 3, 1), (561, .iconst 3, 1), (562, .iadd, 1), (563, .iaload, 1), (564, .aload_n 0, 1), (565, .iload_n 3, 1), (566, .iconst 4, 1), (567, .iadd, 1), (568, .iaload, 1), (569, .aload_n 0, 1), (570, .iload_n 3, 1), (571, .iconst 5, 1), (572, .iadd, 1), (573, .iaload, 1), (574, .invokevirtual 56, 3), (577, .aload_n 2, 1), (578, .aload_n 0, 1), (579, .iload_n 3, 1), (580, .iconst 1, 1), (581, .iadd, 1), (582, .iaload, 1), (583, .aload_n 0, 1), (584, .iload_n 3, 1), (585, .iconst 2, 1), (586, .iadd, 1), (587, .iaload, 1), (588, .aload_n 0, 1), (589, .iload_n 3, 1), (590, .iconst 3, 1), (591, .iadd, 1), (592, .iaload, 1), (593, .aload_n 0, 1)]
theorem dkL_law_6 : ∀ q ∈ tL_law_6, decode cL_law q.1 = .ok q.2 := by decide +kernel
def tL_law_7 : List (Nat × Instr × Nat) := [(594, .iload_n 3, 1), (595, .iconst 4, 1), (596, .iadd, 1), (597, .iaload, 1), (598, .aload_n 0, 1), (599, .iload_n 3, 1), (600, .iconst 5, 1), (601, .iadd, 1), (602, .iaload, 1), (603, .invokevirtual 59, 3), (606, .if_icmp .eq 458, 3), (609, .iconst 0, 1), (610, .ireturn, 1), (611, .aload_n 1, 1), (612, .aload_n 0, 1), (613, .iload_n 3, 1), (614, .iconst 1, 1), (615, .iadd, 1), (616, .iaload, 1), (617, .invokevirtual 60, 3), (620, .aload_n 2, 1), (621, .aload_n 0, 1), (622, .iload_n 3, 1), (623, .iconst 1, 1), (624, .iadd, 1), (625, .iaload, 1), (626, .invokevirtual 64, 3), (629, .lcmp, 1), (630, .ifCond .eq 434, 3), (633, .iconst 0, 1), (634, .ireturn, 1), (635, .aload_n 1, 1), (636, .aload_n 0, 1), (637, .iload_n 3, 1), (638, .iconst 1, 1), (639, .iadd, 1), (640, .iaload, 1), (641, .aload_n 0, 1), (642, .iload_n 3, 1), (643, .iconst 2, 1), (644, .iadd, 1), (645, .iaload, 1), (646, .aload_n 0, 1), (647, .iload_n 3, 1), (648, .iconst 3, 1), (649, .iadd, 1), (650, .iaload, 1), (651, .invokevirtual 65, 3), (654, .aload_n 2, 1), (655, .aload_n 0, 1), (656, .iload_n 3, 1), (657, .iconst 1, 1), (658, .iadd, 1), (659, .iaload, 1), (660, .aload_n 0, 1), (661, .iload_n 3, 1), (662, .iconst 2, 1), (663, .iadd, 1), (664, .iaload, 1), (665, .aload_n 0, 1)]
theorem dkL_law_7 : ∀ q ∈ tL_law_7, decode cL_law q.1 = .ok q.2 := by decide +kernel
def tL_law_8 : List (Nat × Instr × Nat) := [(666, .iload_n 3, 1), (667, .iconst 3, 1), (668, .iadd, 1), (669, .iaload, 1), (670, .invokevirtual 68, 3), (673, .lcmp, 1), (674, .ifCond .eq 390, 3), (677, .iconst 0, 1), (678, .ireturn, 1), (679, .aload_n 1, 1), (680, .aload_n 0, 1), (681, .iload_n 3, 1), (682, .iconst 1, 1), (683, .iadd, 1), (684, .iaload, 1), (685, .aload_n 0, 1), (686, .iload_n 3, 1), (687, .iconst 2, 1), (688, .iadd, 1), (689, .iaload, 1), (690, .invokevirtual 69, 3), (693, .aload_n 2, 1), (694, .aload_n 0, 1), (695, .iload_n 3, 1), (696, .iconst 1, 1), (697, .iadd, 1), (698, .iaload, 1), (699, .aload_n 0, 1), (700, .iload_n 3, 1), (701, .iconst 2, 1), (702, .iadd, 1), (703, .iaload, 1), (704, .invokevirtual 72, 3), (707, .if_icmp .eq 357, 3), (710, .iconst 0, 1), (711, .ireturn, 1), (712, .aload_n 1, 1), (713, .aload_n 0, 1), (714, .iload_n 3, 1), (715, .iconst 1, 1), (716, .iadd, 1), (717, .iaload, 1), (718, .aload_n 0, 1), (719, .iload_n 3, 1), (720, .iconst 2, 1), (721, .iadd, 1), (722, .iaload, 1), (723, .invokevirtual 73, 3), (726, .aload_n 2, 1), (727, .aload_n 0, 1), (728, .iload_n 3, 1), (729, .iconst 1, 1), (730, .iadd, 1), (731, .iaload, 1), (732, .aload_n 0, 1), (733, .iload_n 3, 1), (734, .iconst 2, 1), (735, .iadd, 1), (736, .iaload, 1), (737, .invokevirtual 77, 3)]
theorem dkL_law_8 : ∀ q ∈ tL_law_8, decode cL_law q.1 = .ok q.2 := by decide +kernel
def tL_law_9 : List (Nat × Instr × Nat) := [(740, .lcmp, 1), (741, .ifCond .eq 323, 3), (744, .iconst 0, 1), (745, .ireturn, 1), (746, .aload_n 1, 1), (747, .aload_n 0, 1), (748, .iload_n 3, 1), (749, .iconst 1, 1), (750, .iadd, 1), (751, .iaload, 1), (752, .aload_n 0, 1), (753, .iload_n 3, 1), (754, .iconst 2, 1), (755, .iadd, 1), (756, .iaload, 1), (757, .aload_n 0, 1), (758, .iload_n 3, 1), (759, .iconst 3, 1), (760, .iadd, 1), (761, .iaload, 1), (762, .invokevirtual 78, 3), (765, .aload_n 2, 1), (766, .aload_n 0, 1), (767, .iload_n 3, 1), (768, .iconst 1, 1), (769, .iadd, 1), (770, .iaload, 1), (771, .aload_n 0, 1), (772, .iload_n 3, 1), (773, .iconst 2, 1), (774, .iadd, 1), (775, .iaload, 1), (776, .aload_n 0, 1), (777, .iload_n 3, 1), (778, .iconst 3, 1), (779, .iadd, 1), (780, .iaload, 1), (781, .invokevirtual 81, 3), (784, .if_icmp .eq 280, 3), (787, .iconst 0, 1), (788, .ireturn, 1), (789, .aload_n 1, 1), (790, .aload_n 0, 1), (791, .iload_n 3, 1), (792, .iconst 1, 1), (793, .iadd, 1), (794, .iaload, 1), (795, .aload_n 0, 1), (796, .iload_n 3, 1), (797, .iconst 2, 1), (798, .iadd, 1), (799, .iaload, 1), (800, .invokevirtual 82, 3), (803, .aload_n 2, 1), (804, .aload_n 0, 1), (805, .iload_n 3, 1), (806, .iconst 1, 1), (807, .iadd, 1), (808, .iaload, 1), (809, .aload_n 0, 1)]
theorem dkL_law_9 : ∀ q ∈ tL_law_9, decode cL_law q.1 = .ok q.2 := by decide +kernel
def tL_law_10 : List (Nat × Instr × Nat) := [(810, .iload_n 3, 1), (811, .iconst 2, 1), (812, .iadd, 1), (813, .iaload, 1), (814, .invokevirtual 85, 3), (817, .if_icmp .eq 247, 3), (820, .iconst 0, 1), (821, .ireturn, 1), (822, .aload_n 1, 1), (823, .aload_n 0, 1), (824, .iload_n 3, 1), (825, .iconst 1, 1), (826, .iadd, 1), (827, .iaload, 1), (828, .aload_n 0, 1), (829, .iload_n 3, 1), (830, .iconst 2, 1), (831, .iadd, 1), (832, .iaload, 1), (833, .aload_n 0, 1), (834, .iload_n 3, 1), (835, .iconst 3, 1), (836, .iadd, 1), (837, .iaload, 1), (838, .invokevirtual 86, 3), (841, .aload_n 2, 1), (842, .aload_n 0, 1), (843, .iload_n 3, 1), (844, .iconst 1, 1), (845, .iadd, 1), (846, .iaload, 1), (847, .aload_n 0, 1), (848, .iload_n 3, 1), (849, .iconst 2, 1), (850, .iadd, 1), (851, .iaload, 1), (852, .aload_n 0, 1), (853, .iload_n 3, 1), (854, .iconst 3, 1), (855, .iadd, 1), (856, .iaload, 1), (857, .invokevirtual 89, 3), (860, .lcmp, 1), (861, .ifCond .eq 203, 3), (864, .iconst 0, 1), (865, .ireturn, 1), (866, .aload_n 1, 1), (867, .aload_n 0, 1), (868, .iload_n 3, 1), (869, .iconst 1, 1), (870, .iadd, 1), (871, .iaload, 1), (872, .aload_n 0, 1), (873, .iload_n 3, 1), (874, .iconst 2, 1), (875, .iadd, 1), (876, .iaload, 1), (877, .invokevirtual 90, 3), (880, .aload_n 2, 1), (881, .aload_n 0, 1)]
theorem dkL_law_10 : ∀ q ∈ tL_law_10, decode cL_law q.1 = .ok q.2 := by decide +kernel
def tL_law_11 : List (Nat × Instr × Nat) := [(882, .iload_n 3, 1), (883, .iconst 1, 1), (884, .iadd, 1), (885, .iaload, 1), (886, .aload_n 0, 1), (887, .iload_n 3, 1), (888, .iconst 2, 1), (889, .iadd, 1), (890, .iaload, 1), (891, .invokevirtual 93, 3), (894, .if_icmp .eq 170, 3), (897, .iconst 0, 1), (898, .ireturn, 1), (899, .aload_n 1, 1), (900, .aload_n 0, 1), (901, .iload_n 3, 1), (902, .iconst 1, 1), (903, .iadd, 1), (904, .iaload, 1), (905, .aload_n 0, 1), (906, .iload_n 3, 1), (907, .iconst 2, 1), (908, .iadd, 1), (909, .iaload, 1), (910, .aload_n 0, 1), (911, .iload_n 3, 1), (912, .iconst 3, 1), (913, .iadd, 1), (914, .iaload, 1), (915, .aload_n 0, 1), (916, .iload_n 3, 1), (917, .iconst 4, 1), (918, .iadd, 1), (919, .iaload, 1), (920, .invokevirtual 94, 3), (923, .aload_n 2, 1), (924, .aload_n 0, 1), (925, .iload_n 3, 1), (926, .iconst 1, 1), (927, .iadd, 1), (928, .iaload, 1), (929, .aload_n 0, 1), (930, .iload_n 3, 1), (931, .iconst 2, 1), (932, .iadd, 1), (933, .iaload, 1), (934, .aload_n 0, 1), (935, .iload_n 3, 1), (936, .iconst 3, 1), (937, .iadd, 1), (938, .iaload, 1), (939, .aload_n 0, 1), (940, .iload_n 3, 1), (941, .iconst 4, 1), (942, .iadd, 1), (943, .iaload, 1), (944, .invokevirtual 98, 3), (947, .if_icmp .eq 117, 3), (950, .iconst 0, 1), (951, .ireturn, 1)]
theorem dkL_law_11 : ∀ q ∈ tL_law_11, decode cL_law q.1 = .ok q.2 := by decide +kernel
def tL_law_12 : List (Nat × Instr × Nat) := [(952, .aload_n 1, 1), (953, .aload_n 0, 1), (954, .iload_n 3, 1), (955, .iconst 1, 1), (956, .iadd, 1), (957, .iaload, 1), (958, .aload_n 0, 1), (959, .iload_n 3, 1), (960, .iconst 2, 1), (961, .iadd, 1), (962, .iaload, 1), (963, .invokevirtual 99, 3), (966, .aload_n 2, 1), (967, .aload_n 0, 1), (968, .iload_n 3, 1), (969, .iconst 1, 1), (970, .iadd, 1), (971, .iaload, 1), (972, .aload_n 0, 1), (973, .iload_n 3, 1), (974, .iconst 2, 1), (975, .iadd, 1), (976, .iaload, 1), (977, .invokevirtual 102, 3), (980, .if_icmp .eq 84, 3), (983, .iconst 0, 1), (984, .ireturn, 1), (985, .aload_n 1, 1), (986, .aload_n 0, 1), (987, .iload_n 3, 1), (988, .iconst 1, 1), (989, .iadd, 1), (990, .iaload, 1), (991, .aload_n 0, 1), (992, .iload_n 3, 1), (993, .iconst 2, 1), (994, .iadd, 1), (995, .iaload, 1), (996, .invokevirtual 103, 3), (999, .aload_n 2, 1), (1000, .aload_n 0, 1), (1001, .iload_n 3, 1), (1002, .iconst 1, 1), (1003, .iadd, 1), (1004, .iaload, 1), (1005, .aload_n 0, 1), (1006, .iload_n 3, 1), (1007, .iconst 2, 1), (1008, .iadd, 1), (1009, .iaload, 1), (1010, .invokevirtual 106, 3), (1013, .if_icmp .eq 51, 3), (1016, .iconst 0, 1), (1017, .ireturn, 1), (1018, .aload_n 1, 1), (1019, .aload_n 0, 1), (1020, .iload_n 3, 1), (1021, .iconst 1, 1), (1022, .iadd, 1), (1023, .iaload, 1)]
theorem dkL_law_12 : ∀ q ∈ tL_law_12, decode cL_law q.1 = .ok q.2 := by decide +kernel
def tL_law_13 : List (Nat × Instr × Nat) := [(1024, .aload_n 0, 1), (1025, .iload_n 3, 1), (1026, .iconst 2, 1), (1027, .iadd, 1), (1028, .iaload, 1), (1029, .invokevirtual 107, 3), (1032, .aload_n 2, 1), (1033, .aload_n 0, 1), (1034, .iload_n 3, 1), (1035, .iconst 1, 1), (1036, .iadd, 1), (1037, .iaload, 1), (1038, .aload_n 0, 1), (1039, .iload_n 3, 1), (1040, .iconst 2, 1), (1041, .iadd, 1), (1042, .iaload, 1), (1043, .invokevirtual 110, 3), (1046, .if_icmp .eq 18, 3), (1049, .iconst 0, 1), (1050, .ireturn, 1), (1051, .aload_n 1, 1), (1052, .invokevirtual 111, 3), (1055, .aload_n 2, 1), (1056, .invokevirtual 115, 3), (1059, .if_icmp .eq 5, 3), (1062, .iconst 0, 1), (1063, .ireturn, 1), (1064, .iinc 3 6, 3), (1067, .goto (-1049), 3), (1070, .iconst 1, 1), (1071, .ireturn, 1)]
theorem dkL_law_13 : ∀ q ∈ tL_law_13, decode cL_law q.1 = .ok q.2 := by decide +kernel
def tL_law : List (Nat × Instr × Nat) := tL_law_0 ++ (tL_law_1 ++ (tL_law_2 ++ (tL_law_3 ++ (tL_law_4 ++ (tL_law_5 ++ (tL_law_6 ++ (tL_law_7 ++ (tL_law_8 ++ (tL_law_9 ++ (tL_law_10 ++ (tL_law_11 ++ (tL_law_12 ++ (tL_law_13)))))))))))))
def mL_law : mM := (yL_law, 12, cL_law, 4, (some .boolean), tL_law, (10, 418, 600000, 7302250), 1, false)
theorem odL_law : mOd mL_law := List.forall_mem_append.mpr ⟨dkL_law_0, List.forall_mem_append.mpr ⟨dkL_law_1, List.forall_mem_append.mpr ⟨dkL_law_2, List.forall_mem_append.mpr ⟨dkL_law_3, List.forall_mem_append.mpr ⟨dkL_law_4, List.forall_mem_append.mpr ⟨dkL_law_5, List.forall_mem_append.mpr ⟨dkL_law_6, List.forall_mem_append.mpr ⟨dkL_law_7, List.forall_mem_append.mpr ⟨dkL_law_8, List.forall_mem_append.mpr ⟨dkL_law_9, List.forall_mem_append.mpr ⟨dkL_law_10, List.forall_mem_append.mpr ⟨dkL_law_11, List.forall_mem_append.mpr ⟨dkL_law_12, dkL_law_13⟩⟩⟩⟩⟩⟩⟩⟩⟩⟩⟩⟩⟩
end
section
theorem lk_0_17 : mLI 0 17 mX3_init := ⟨List.mem_append_right _ (List.mem_of_getElem? (i := 32) (by decide +kernel)), List.mem_append_right _ (List.mem_of_getElem? (i := 33) (by decide +kernel)), List.mem_append_right _ (List.mem_of_getElem? (i := 3) (by decide +kernel)), rfl, rfl⟩
theorem lk_0_45 : mNI 0 45 mX4_init := ⟨⟨"HullFoundry", by decide +kernel⟩, List.mem_append_right _ (List.mem_of_getElem? (i := 73) (by decide +kernel)), List.mem_append_right _ (List.mem_of_getElem? (i := 4) (by decide +kernel)), rfl, rfl⟩
theorem lk_0_50 : mLV 0 50 mX3_clear := ⟨List.mem_append_right _ (List.mem_of_getElem? (i := 318) (by decide +kernel)), List.mem_append_right _ (List.mem_of_getElem? (i := 285) (by decide +kernel)), List.mem_append_right _ (List.mem_of_getElem? (i := 286) (by decide +kernel)), List.mem_append_right _ (List.mem_of_getElem? (i := 3) (by decide +kernel)), by decide⟩
theorem lk_0_63 : mNS 0 63 mX6_divisor := ⟨⟨"HullFoundry", by decide +kernel⟩, List.mem_append_right _ (List.mem_of_getElem? (i := 431) (by decide +kernel)), List.mem_append_right _ (List.mem_of_getElem? (i := 1) (by decide +kernel))⟩
theorem lk_0_67 : mLV 0 67 mX0_comparePlane := ⟨List.mem_append_right _ (List.mem_of_getElem? (i := 434) (by decide +kernel)), List.mem_append_right _ (List.mem_of_getElem? (i := 436) (by decide +kernel)), List.mem_append_left _ (List.mem_of_getElem? (i := 9) (by decide +kernel)), List.mem_append_right _ (List.mem_of_getElem? (i := 2) (by decide +kernel)), by decide⟩
theorem lk_0_77 : mLS 0 77 mJ6_compare_7cf53 := ⟨List.mem_append_right _ (List.mem_of_getElem? (i := 438) (by decide +kernel)), List.mem_append_right _ (List.mem_of_getElem? (i := 439) (by decide +kernel)), List.mem_append_right _ (List.mem_of_getElem? (i := 11) (by decide +kernel))⟩
theorem lk_0_83 : mLV 0 83 mX0_layRing := ⟨List.mem_append_right _ (List.mem_of_getElem? (i := 450) (by decide +kernel)), List.mem_append_right _ (List.mem_of_getElem? (i := 452) (by decide +kernel)), List.mem_append_left _ (List.mem_of_getElem? (i := 10) (by decide +kernel)), List.mem_append_right _ (List.mem_of_getElem? (i := 2) (by decide +kernel)), by decide⟩
theorem lk_0_98 : mLV 0 98 mX0_excess := ⟨List.mem_append_right _ (List.mem_of_getElem? (i := 454) (by decide +kernel)), List.mem_append_right _ (List.mem_of_getElem? (i := 456) (by decide +kernel)), List.mem_append_left _ (List.mem_of_getElem? (i := 11) (by decide +kernel)), List.mem_append_right _ (List.mem_of_getElem? (i := 2) (by decide +kernel)), by decide⟩
theorem lk_0_102 : mLV 0 102 mX0_facing := ⟨List.mem_append_right _ (List.mem_of_getElem? (i := 458) (by decide +kernel)), List.mem_append_right _ (List.mem_of_getElem? (i := 460) (by decide +kernel)), List.mem_append_left _ (List.mem_of_getElem? (i := 12) (by decide +kernel)), List.mem_append_right _ (List.mem_of_getElem? (i := 2) (by decide +kernel)), by decide⟩
theorem lk_0_106 : mLV 0 106 mX3_acrossX := ⟨List.mem_append_right _ (List.mem_of_getElem? (i := 462) (by decide +kernel)), List.mem_append_right _ (List.mem_of_getElem? (i := 351) (by decide +kernel)), List.mem_append_right _ (List.mem_of_getElem? (i := 352) (by decide +kernel)), List.mem_append_right _ (List.mem_of_getElem? (i := 3) (by decide +kernel)), by decide⟩
theorem lk_0_110 : mLV 0 110 mX3_acrossY := ⟨List.mem_append_right _ (List.mem_of_getElem? (i := 463) (by decide +kernel)), List.mem_append_right _ (List.mem_of_getElem? (i := 355) (by decide +kernel)), List.mem_append_right _ (List.mem_of_getElem? (i := 356) (by decide +kernel)), List.mem_append_right _ (List.mem_of_getElem? (i := 3) (by decide +kernel)), by decide⟩
theorem lk_0_113 : mLV 0 113 mX3_acrossZ := ⟨List.mem_append_right _ (List.mem_of_getElem? (i := 464) (by decide +kernel)), List.mem_append_right _ (List.mem_of_getElem? (i := 359) (by decide +kernel)), List.mem_append_right _ (List.mem_of_getElem? (i := 360) (by decide +kernel)), List.mem_append_right _ (List.mem_of_getElem? (i := 3) (by decide +kernel)), by decide⟩
theorem lk_0_116 : mLV 0 116 mX0_addEdge := ⟨List.mem_append_right _ (List.mem_of_getElem? (i := 469) (by decide +kernel)), List.mem_append_right _ (List.mem_of_getElem? (i := 471) (by decide +kernel)), List.mem_append_left _ (List.mem_of_getElem? (i := 13) (by decide +kernel)), List.mem_append_right _ (List.mem_of_getElem? (i := 2) (by decide +kernel)), by decide⟩
theorem lk_0_120 : mLS 0 120 mJ7_fill_53178 := ⟨List.mem_append_right _ (List.mem_of_getElem? (i := 473) (by decide +kernel)), List.mem_append_right _ (List.mem_of_getElem? (i := 474) (by decide +kernel)), List.mem_append_right _ (List.mem_of_getElem? (i := 12) (by decide +kernel))⟩
theorem lk_0_132 : mLS 0 132 mX0_steepness := ⟨List.mem_append_right _ (List.mem_of_getElem? (i := 521) (by decide +kernel)), List.mem_append_right _ (List.mem_of_getElem? (i := 522) (by decide +kernel)), List.mem_append_right _ (List.mem_of_getElem? (i := 2) (by decide +kernel))⟩
theorem lk_0_136 : mLV 0 136 mX0_addUpPieces := ⟨List.mem_append_right _ (List.mem_of_getElem? (i := 558) (by decide +kernel)), List.mem_append_right _ (List.mem_of_getElem? (i := 560) (by decide +kernel)), List.mem_append_left _ (List.mem_of_getElem? (i := 19) (by decide +kernel)), List.mem_append_right _ (List.mem_of_getElem? (i := 2) (by decide +kernel)), by decide⟩
theorem lk_0_140 : mLV 0 140 mX3_boxOf := ⟨List.mem_append_right _ (List.mem_of_getElem? (i := 562) (by decide +kernel)), List.mem_append_right _ (List.mem_of_getElem? (i := 378) (by decide +kernel)), List.mem_append_right _ (List.mem_of_getElem? (i := 379) (by decide +kernel)), List.mem_append_right _ (List.mem_of_getElem? (i := 3) (by decide +kernel)), by decide⟩
theorem lk_0_143 : mLV 0 143 mX0_locateAmongFaces := ⟨List.mem_append_right _ (List.mem_of_getElem? (i := 533) (by decide +kernel)), List.mem_append_right _ (List.mem_of_getElem? (i := 535) (by decide +kernel)), List.mem_append_left _ (List.mem_of_getElem? (i := 16) (by decide +kernel)), List.mem_append_right _ (List.mem_of_getElem? (i := 2) (by decide +kernel)), by decide⟩
theorem lk_0_147 : mLV 0 147 mX0_isInFigure := ⟨List.mem_append_right _ (List.mem_of_getElem? (i := 537) (by decide +kernel)), List.mem_append_right _ (List.mem_of_getElem? (i := 539) (by decide +kernel)), List.mem_append_left _ (List.mem_of_getElem? (i := 17) (by decide +kernel)), List.mem_append_right _ (List.mem_of_getElem? (i := 2) (by decide +kernel)), by decide⟩
theorem lk_0_151 : mLV 0 151 mX0_isOnLine := ⟨List.mem_append_right _ (List.mem_of_getElem? (i := 541) (by decide +kernel)), List.mem_append_right _ (List.mem_of_getElem? (i := 543) (by decide +kernel)), List.mem_append_left _ (List.mem_of_getElem? (i := 18) (by decide +kernel)), List.mem_append_right _ (List.mem_of_getElem? (i := 2) (by decide +kernel)), by decide⟩
theorem lk_0_154 : mLV 0 154 mX3_farthest := ⟨List.mem_append_right _ (List.mem_of_getElem? (i := 604) (by decide +kernel)), List.mem_append_right _ (List.mem_of_getElem? (i := 333) (by decide +kernel)), List.mem_append_right _ (List.mem_of_getElem? (i := 334) (by decide +kernel)), List.mem_append_right _ (List.mem_of_getElem? (i := 3) (by decide +kernel)), by decide⟩
theorem lk_0_158 : mLV 0 158 mX3_along := ⟨List.mem_append_right _ (List.mem_of_getElem? (i := 605) (by decide +kernel)), List.mem_append_right _ (List.mem_of_getElem? (i := 347) (by decide +kernel)), List.mem_append_right _ (List.mem_of_getElem? (i := 348) (by decide +kernel)), List.mem_append_right _ (List.mem_of_getElem? (i := 3) (by decide +kernel)), by decide⟩
theorem lk_0_162 : mLV 0 162 mX0_offerSlit := ⟨List.mem_append_right _ (List.mem_of_getElem? (i := 606) (by decide +kernel)), List.mem_append_right _ (List.mem_of_getElem? (i := 608) (by decide +kernel)), List.mem_append_left _ (List.mem_of_getElem? (i := 20) (by decide +kernel)), List.mem_append_right _ (List.mem_of_getElem? (i := 2) (by decide +kernel)), by decide⟩
theorem lk_0_166 : mLV 0 166 mX0_offerEdges := ⟨List.mem_append_right _ (List.mem_of_getElem? (i := 616) (by decide +kernel)), List.mem_append_right _ (List.mem_of_getElem? (i := 618) (by decide +kernel)), List.mem_append_left _ (List.mem_of_getElem? (i := 21) (by decide +kernel)), List.mem_append_right _ (List.mem_of_getElem? (i := 2) (by decide +kernel)), by decide⟩
theorem lk_0_170 : mLV 0 170 mX4_isAbove := ⟨List.mem_append_right _ (List.mem_of_getElem? (i := 610) (by decide +kernel)), List.mem_append_right _ (List.mem_of_getElem? (i := 611) (by decide +kernel)), List.mem_append_right _ (List.mem_of_getElem? (i := 612) (by decide +kernel)), List.mem_append_right _ (List.mem_of_getElem? (i := 4) (by decide +kernel)), by decide⟩
theorem lk_0_174 : mLV 0 174 mX4_put := ⟨List.mem_append_right _ (List.mem_of_getElem? (i := 615) (by decide +kernel)), List.mem_append_right _ (List.mem_of_getElem? (i := 577) (by decide +kernel)), List.mem_append_right _ (List.mem_of_getElem? (i := 578) (by decide +kernel)), List.mem_append_right _ (List.mem_of_getElem? (i := 4) (by decide +kernel)), by decide⟩
theorem lk_0_177 : mLV 0 177 mX0_isPassedBy := ⟨List.mem_append_right _ (List.mem_of_getElem? (i := 620) (by decide +kernel)), List.mem_append_right _ (List.mem_of_getElem? (i := 622) (by decide +kernel)), List.mem_append_left _ (List.mem_of_getElem? (i := 22) (by decide +kernel)), List.mem_append_right _ (List.mem_of_getElem? (i := 2) (by decide +kernel)), by decide⟩
theorem lk_1_44 : mLV 1 44 mX1_addDifference := ⟨List.mem_append_right _ (List.mem_of_getElem? (i := 636) (by decide +kernel)), List.mem_append_right _ (List.mem_of_getElem? (i := 638) (by decide +kernel)), List.mem_append_left _ (List.mem_of_getElem? (i := 23) (by decide +kernel)), List.mem_append_right _ (List.mem_of_getElem? (i := 7) (by decide +kernel)), by decide⟩
theorem lk_1_49 : mLV 1 49 mX1_shrink := ⟨List.mem_append_right _ (List.mem_of_getElem? (i := 641) (by decide +kernel)), List.mem_append_right _ (List.mem_of_getElem? (i := 643) (by decide +kernel)), List.mem_append_left _ (List.mem_of_getElem? (i := 24) (by decide +kernel)), List.mem_append_right _ (List.mem_of_getElem? (i := 7) (by decide +kernel)), by decide⟩
theorem lk_1_53 : mLV 1 53 mX3_farthest := ⟨List.mem_append_right _ (List.mem_of_getElem? (i := 685) (by decide +kernel)), List.mem_append_right _ (List.mem_of_getElem? (i := 333) (by decide +kernel)), List.mem_append_right _ (List.mem_of_getElem? (i := 334) (by decide +kernel)), List.mem_append_right _ (List.mem_of_getElem? (i := 3) (by decide +kernel)), by decide⟩
theorem lk_1_59 : mLV 1 59 mX1_along := ⟨List.mem_append_right _ (List.mem_of_getElem? (i := 653) (by decide +kernel)), List.mem_append_right _ (List.mem_of_getElem? (i := 655) (by decide +kernel)), List.mem_append_left _ (List.mem_of_getElem? (i := 27) (by decide +kernel)), List.mem_append_right _ (List.mem_of_getElem? (i := 7) (by decide +kernel)), by decide⟩
theorem lk_1_66 : mLV 1 66 mX1_holdsNearest := ⟨List.mem_append_right _ (List.mem_of_getElem? (i := 645) (by decide +kernel)), List.mem_append_right _ (List.mem_of_getElem? (i := 647) (by decide +kernel)), List.mem_append_left _ (List.mem_of_getElem? (i := 25) (by decide +kernel)), List.mem_append_right _ (List.mem_of_getElem? (i := 7) (by decide +kernel)), by decide⟩
theorem lk_1_70 : mLV 1 70 mX1_keepPicked := ⟨List.mem_append_right _ (List.mem_of_getElem? (i := 681) (by decide +kernel)), List.mem_append_right _ (List.mem_of_getElem? (i := 683) (by decide +kernel)), List.mem_append_left _ (List.mem_of_getElem? (i := 34) (by decide +kernel)), List.mem_append_right _ (List.mem_of_getElem? (i := 7) (by decide +kernel)), by decide⟩
theorem lk_1_74 : mLV 1 74 mX1_stepToPoint := ⟨List.mem_append_right _ (List.mem_of_getElem? (i := 649) (by decide +kernel)), List.mem_append_right _ (List.mem_of_getElem? (i := 651) (by decide +kernel)), List.mem_append_left _ (List.mem_of_getElem? (i := 26) (by decide +kernel)), List.mem_append_right _ (List.mem_of_getElem? (i := 7) (by decide +kernel)), by decide⟩
theorem lk_1_77 : mLV 1 77 mX1_stepToLine := ⟨List.mem_append_right _ (List.mem_of_getElem? (i := 657) (by decide +kernel)), List.mem_append_right _ (List.mem_of_getElem? (i := 659) (by decide +kernel)), List.mem_append_left _ (List.mem_of_getElem? (i := 28) (by decide +kernel)), List.mem_append_right _ (List.mem_of_getElem? (i := 7) (by decide +kernel)), by decide⟩
theorem lk_1_81 : mLV 1 81 mX1_stepToPlane := ⟨List.mem_append_right _ (List.mem_of_getElem? (i := 661) (by decide +kernel)), List.mem_append_right _ (List.mem_of_getElem? (i := 663) (by decide +kernel)), List.mem_append_left _ (List.mem_of_getElem? (i := 29) (by decide +kernel)), List.mem_append_right _ (List.mem_of_getElem? (i := 7) (by decide +kernel)), by decide⟩
theorem lk_1_85 : mLV 1 85 mX1_crossX := ⟨List.mem_append_right _ (List.mem_of_getElem? (i := 665) (by decide +kernel)), List.mem_append_right _ (List.mem_of_getElem? (i := 667) (by decide +kernel)), List.mem_append_left _ (List.mem_of_getElem? (i := 30) (by decide +kernel)), List.mem_append_right _ (List.mem_of_getElem? (i := 7) (by decide +kernel)), by decide⟩
theorem lk_1_89 : mLV 1 89 mX1_crossY := ⟨List.mem_append_right _ (List.mem_of_getElem? (i := 669) (by decide +kernel)), List.mem_append_right _ (List.mem_of_getElem? (i := 671) (by decide +kernel)), List.mem_append_left _ (List.mem_of_getElem? (i := 31) (by decide +kernel)), List.mem_append_right _ (List.mem_of_getElem? (i := 7) (by decide +kernel)), by decide⟩
theorem lk_1_92 : mLV 1 92 mX1_crossZ := ⟨List.mem_append_right _ (List.mem_of_getElem? (i := 673) (by decide +kernel)), List.mem_append_right _ (List.mem_of_getElem? (i := 675) (by decide +kernel)), List.mem_append_left _ (List.mem_of_getElem? (i := 32) (by decide +kernel)), List.mem_append_right _ (List.mem_of_getElem? (i := 7) (by decide +kernel)), by decide⟩
theorem lk_1_95 : mLV 1 95 mX1_share := ⟨List.mem_append_right _ (List.mem_of_getElem? (i := 677) (by decide +kernel)), List.mem_append_right _ (List.mem_of_getElem? (i := 679) (by decide +kernel)), List.mem_append_left _ (List.mem_of_getElem? (i := 33) (by decide +kernel)), List.mem_append_right _ (List.mem_of_getElem? (i := 7) (by decide +kernel)), by decide⟩
theorem lk_2_11 : mNI 2 11 mX5_init := ⟨⟨"HullFoundry", by decide +kernel⟩, List.mem_append_right _ (List.mem_of_getElem? (i := 133) (by decide +kernel)), List.mem_append_right _ (List.mem_of_getElem? (i := 6) (by decide +kernel)), rfl, rfl⟩
theorem lk_2_39 : mLV 2 39 mX0_clear := ⟨List.mem_append_right _ (List.mem_of_getElem? (i := 314) (by decide +kernel)), List.mem_append_right _ (List.mem_of_getElem? (i := 315) (by decide +kernel)), List.mem_append_right _ (List.mem_of_getElem? (i := 316) (by decide +kernel)), List.mem_append_right _ (List.mem_of_getElem? (i := 2) (by decide +kernel)), by decide⟩
theorem lk_2_49 : mLV 2 49 mX5_clear := ⟨List.mem_append_right _ (List.mem_of_getElem? (i := 319) (by decide +kernel)), List.mem_append_right _ (List.mem_of_getElem? (i := 320) (by decide +kernel)), List.mem_append_right _ (List.mem_of_getElem? (i := 321) (by decide +kernel)), List.mem_append_right _ (List.mem_of_getElem? (i := 6) (by decide +kernel)), by decide⟩
theorem lk_2_50 : mLV 2 50 mX2_spread := ⟨List.mem_append_right _ (List.mem_of_getElem? (i := 324) (by decide +kernel)), List.mem_append_right _ (List.mem_of_getElem? (i := 326) (by decide +kernel)), List.mem_append_left _ (List.mem_of_getElem? (i := 1) (by decide +kernel)), List.mem_append_right _ (List.mem_of_getElem? (i := 5) (by decide +kernel)), by decide⟩
theorem lk_2_54 : mLV 2 54 mX2_wrap := ⟨List.mem_append_right _ (List.mem_of_getElem? (i := 362) (by decide +kernel)), List.mem_append_right _ (List.mem_of_getElem? (i := 364) (by decide +kernel)), List.mem_append_left _ (List.mem_of_getElem? (i := 5) (by decide +kernel)), List.mem_append_right _ (List.mem_of_getElem? (i := 5) (by decide +kernel)), by decide⟩
theorem lk_2_58 : mLV 2 58 mX2_fill := ⟨List.mem_append_right _ (List.mem_of_getElem? (i := 410) (by decide +kernel)), List.mem_append_right _ (List.mem_of_getElem? (i := 412) (by decide +kernel)), List.mem_append_left _ (List.mem_of_getElem? (i := 8) (by decide +kernel)), List.mem_append_right _ (List.mem_of_getElem? (i := 5) (by decide +kernel)), by decide⟩
theorem lk_2_62 : mLV 2 62 mX0_layRings := ⟨List.mem_append_right _ (List.mem_of_getElem? (i := 446) (by decide +kernel)), List.mem_append_right _ (List.mem_of_getElem? (i := 447) (by decide +kernel)), List.mem_append_right _ (List.mem_of_getElem? (i := 448) (by decide +kernel)), List.mem_append_right _ (List.mem_of_getElem? (i := 2) (by decide +kernel)), by decide⟩
theorem lk_2_65 : mLV 2 65 mX0_layEdges := ⟨List.mem_append_right _ (List.mem_of_getElem? (i := 465) (by decide +kernel)), List.mem_append_right _ (List.mem_of_getElem? (i := 466) (by decide +kernel)), List.mem_append_right _ (List.mem_of_getElem? (i := 467) (by decide +kernel)), List.mem_append_right _ (List.mem_of_getElem? (i := 2) (by decide +kernel)), by decide⟩
theorem lk_2_73 : mLV 2 73 mX2_seek := ⟨List.mem_append_right _ (List.mem_of_getElem? (i := 328) (by decide +kernel)), List.mem_append_right _ (List.mem_of_getElem? (i := 330) (by decide +kernel)), List.mem_append_left _ (List.mem_of_getElem? (i := 2) (by decide +kernel)), List.mem_append_right _ (List.mem_of_getElem? (i := 5) (by decide +kernel)), by decide⟩
theorem lk_2_77 : mLV 2 77 mX2_take := ⟨List.mem_append_right _ (List.mem_of_getElem? (i := 336) (by decide +kernel)), List.mem_append_right _ (List.mem_of_getElem? (i := 338) (by decide +kernel)), List.mem_append_left _ (List.mem_of_getElem? (i := 3) (by decide +kernel)), List.mem_append_right _ (List.mem_of_getElem? (i := 5) (by decide +kernel)), by decide⟩
theorem lk_2_80 : mLV 2 80 mX2_stepOff := ⟨List.mem_append_right _ (List.mem_of_getElem? (i := 342) (by decide +kernel)), List.mem_append_right _ (List.mem_of_getElem? (i := 344) (by decide +kernel)), List.mem_append_left _ (List.mem_of_getElem? (i := 4) (by decide +kernel)), List.mem_append_right _ (List.mem_of_getElem? (i := 5) (by decide +kernel)), by decide⟩
theorem lk_2_93 : mLV 2 93 mX3_acrossX := ⟨List.mem_append_right _ (List.mem_of_getElem? (i := 350) (by decide +kernel)), List.mem_append_right _ (List.mem_of_getElem? (i := 351) (by decide +kernel)), List.mem_append_right _ (List.mem_of_getElem? (i := 352) (by decide +kernel)), List.mem_append_right _ (List.mem_of_getElem? (i := 3) (by decide +kernel)), by decide⟩
theorem lk_2_97 : mLV 2 97 mX3_acrossY := ⟨List.mem_append_right _ (List.mem_of_getElem? (i := 354) (by decide +kernel)), List.mem_append_right _ (List.mem_of_getElem? (i := 355) (by decide +kernel)), List.mem_append_right _ (List.mem_of_getElem? (i := 356) (by decide +kernel)), List.mem_append_right _ (List.mem_of_getElem? (i := 3) (by decide +kernel)), by decide⟩
theorem lk_2_100 : mLV 2 100 mX3_acrossZ := ⟨List.mem_append_right _ (List.mem_of_getElem? (i := 358) (by decide +kernel)), List.mem_append_right _ (List.mem_of_getElem? (i := 359) (by decide +kernel)), List.mem_append_right _ (List.mem_of_getElem? (i := 360) (by decide +kernel)), List.mem_append_right _ (List.mem_of_getElem? (i := 3) (by decide +kernel)), by decide⟩
theorem lk_2_103 : mLV 2 103 mX3_along := ⟨List.mem_append_right _ (List.mem_of_getElem? (i := 346) (by decide +kernel)), List.mem_append_right _ (List.mem_of_getElem? (i := 347) (by decide +kernel)), List.mem_append_right _ (List.mem_of_getElem? (i := 348) (by decide +kernel)), List.mem_append_right _ (List.mem_of_getElem? (i := 3) (by decide +kernel)), by decide⟩
theorem lk_2_107 : mLV 2 107 mX3_farthest := ⟨List.mem_append_right _ (List.mem_of_getElem? (i := 332) (by decide +kernel)), List.mem_append_right _ (List.mem_of_getElem? (i := 333) (by decide +kernel)), List.mem_append_right _ (List.mem_of_getElem? (i := 334) (by decide +kernel)), List.mem_append_right _ (List.mem_of_getElem? (i := 3) (by decide +kernel)), by decide⟩
theorem lk_2_111 : mNS 2 111 mX6_isPoint := ⟨⟨"HullFoundry", by decide +kernel⟩, List.mem_append_right _ (List.mem_of_getElem? (i := 293) (by decide +kernel)), List.mem_append_right _ (List.mem_of_getElem? (i := 1) (by decide +kernel))⟩
theorem lk_2_115 : mLV 2 115 mX3_put := ⟨List.mem_append_right _ (List.mem_of_getElem? (i := 341) (by decide +kernel)), List.mem_append_right _ (List.mem_of_getElem? (i := 234) (by decide +kernel)), List.mem_append_right _ (List.mem_of_getElem? (i := 235) (by decide +kernel)), List.mem_append_right _ (List.mem_of_getElem? (i := 3) (by decide +kernel)), by decide⟩
theorem lk_2_119 : mLV 2 119 mX5_addProp := ⟨List.mem_append_right _ (List.mem_of_getElem? (i := 366) (by decide +kernel)), List.mem_append_right _ (List.mem_of_getElem? (i := 367) (by decide +kernel)), List.mem_append_right _ (List.mem_of_getElem? (i := 368) (by decide +kernel)), List.mem_append_right _ (List.mem_of_getElem? (i := 6) (by decide +kernel)), by decide⟩
theorem lk_2_122 : mLV 2 122 mX5_beginWithFour := ⟨List.mem_append_right _ (List.mem_of_getElem? (i := 373) (by decide +kernel)), List.mem_append_right _ (List.mem_of_getElem? (i := 374) (by decide +kernel)), List.mem_append_right _ (List.mem_of_getElem? (i := 375) (by decide +kernel)), List.mem_append_right _ (List.mem_of_getElem? (i := 6) (by decide +kernel)), by decide⟩
theorem lk_2_126 : mLV 2 126 mX5_firstOpen := ⟨List.mem_append_right _ (List.mem_of_getElem? (i := 390) (by decide +kernel)), List.mem_append_right _ (List.mem_of_getElem? (i := 391) (by decide +kernel)), List.mem_append_right _ (List.mem_of_getElem? (i := 392) (by decide +kernel)), List.mem_append_right _ (List.mem_of_getElem? (i := 6) (by decide +kernel)), by decide⟩
theorem lk_2_133 : mLV 2 133 mX5_isBeyond := ⟨List.mem_append_right _ (List.mem_of_getElem? (i := 394) (by decide +kernel)), List.mem_append_right _ (List.mem_of_getElem? (i := 395) (by decide +kernel)), List.mem_append_right _ (List.mem_of_getElem? (i := 396) (by decide +kernel)), List.mem_append_right _ (List.mem_of_getElem? (i := 6) (by decide +kernel)), by decide⟩
theorem lk_2_141 : mLV 2 141 mX5_attachLatest := ⟨List.mem_append_right _ (List.mem_of_getElem? (i := 398) (by decide +kernel)), List.mem_append_right _ (List.mem_of_getElem? (i := 399) (by decide +kernel)), List.mem_append_right _ (List.mem_of_getElem? (i := 400) (by decide +kernel)), List.mem_append_right _ (List.mem_of_getElem? (i := 6) (by decide +kernel)), by decide⟩
theorem lk_2_149 : mLV 2 149 mX3_putInOrder := ⟨List.mem_append_right _ (List.mem_of_getElem? (i := 414) (by decide +kernel)), List.mem_append_right _ (List.mem_of_getElem? (i := 415) (by decide +kernel)), List.mem_append_right _ (List.mem_of_getElem? (i := 416) (by decide +kernel)), List.mem_append_right _ (List.mem_of_getElem? (i := 3) (by decide +kernel)), by decide⟩
theorem lk_2_155 : mLV 2 155 mX0_addPlane := ⟨List.mem_append_right _ (List.mem_of_getElem? (i := 423) (by decide +kernel)), List.mem_append_right _ (List.mem_of_getElem? (i := 424) (by decide +kernel)), List.mem_append_right _ (List.mem_of_getElem? (i := 425) (by decide +kernel)), List.mem_append_right _ (List.mem_of_getElem? (i := 2) (by decide +kernel)), by decide⟩
theorem lk_2_159 : mLV 2 159 mX5_touches := ⟨List.mem_append_right _ (List.mem_of_getElem? (i := 442) (by decide +kernel)), List.mem_append_right _ (List.mem_of_getElem? (i := 443) (by decide +kernel)), List.mem_append_right _ (List.mem_of_getElem? (i := 444) (by decide +kernel)), List.mem_append_right _ (List.mem_of_getElem? (i := 6) (by decide +kernel)), by decide⟩
theorem lk_3_23 : mLV 3 23 mX3_clear := ⟨List.mem_append_right _ (List.mem_of_getElem? (i := 498) (by decide +kernel)), List.mem_append_right _ (List.mem_of_getElem? (i := 285) (by decide +kernel)), List.mem_append_right _ (List.mem_of_getElem? (i := 286) (by decide +kernel)), List.mem_append_right _ (List.mem_of_getElem? (i := 3) (by decide +kernel)), by decide⟩
theorem lk_3_26 : mLV 3 26 mX3_put := ⟨List.mem_append_right _ (List.mem_of_getElem? (i := 499) (by decide +kernel)), List.mem_append_right _ (List.mem_of_getElem? (i := 234) (by decide +kernel)), List.mem_append_right _ (List.mem_of_getElem? (i := 235) (by decide +kernel)), List.mem_append_right _ (List.mem_of_getElem? (i := 3) (by decide +kernel)), by decide⟩
theorem lk_3_30 : mLV 3 30 mX3_isLess := ⟨List.mem_append_right _ (List.mem_of_getElem? (i := 418) (by decide +kernel)), List.mem_append_right _ (List.mem_of_getElem? (i := 419) (by decide +kernel)), List.mem_append_right _ (List.mem_of_getElem? (i := 420) (by decide +kernel)), List.mem_append_right _ (List.mem_of_getElem? (i := 3) (by decide +kernel)), by decide⟩
theorem lk_3_34 : mLV 3 34 mX3_replace := ⟨List.mem_append_right _ (List.mem_of_getElem? (i := 422) (by decide +kernel)), List.mem_append_right _ (List.mem_of_getElem? (i := 299) (by decide +kernel)), List.mem_append_right _ (List.mem_of_getElem? (i := 300) (by decide +kernel)), List.mem_append_right _ (List.mem_of_getElem? (i := 3) (by decide +kernel)), by decide⟩
theorem lk_3_37 : mLV 3 37 mX3_acrossX := ⟨List.mem_append_right _ (List.mem_of_getElem? (i := 381) (by decide +kernel)), List.mem_append_right _ (List.mem_of_getElem? (i := 351) (by decide +kernel)), List.mem_append_right _ (List.mem_of_getElem? (i := 352) (by decide +kernel)), List.mem_append_right _ (List.mem_of_getElem? (i := 3) (by decide +kernel)), by decide⟩
theorem lk_3_41 : mLV 3 41 mX3_acrossY := ⟨List.mem_append_right _ (List.mem_of_getElem? (i := 382) (by decide +kernel)), List.mem_append_right _ (List.mem_of_getElem? (i := 355) (by decide +kernel)), List.mem_append_right _ (List.mem_of_getElem? (i := 356) (by decide +kernel)), List.mem_append_right _ (List.mem_of_getElem? (i := 3) (by decide +kernel)), by decide⟩
theorem lk_3_44 : mLV 3 44 mX3_acrossZ := ⟨List.mem_append_right _ (List.mem_of_getElem? (i := 383) (by decide +kernel)), List.mem_append_right _ (List.mem_of_getElem? (i := 359) (by decide +kernel)), List.mem_append_right _ (List.mem_of_getElem? (i := 360) (by decide +kernel)), List.mem_append_right _ (List.mem_of_getElem? (i := 3) (by decide +kernel)), by decide⟩
theorem lk_4_24 : mNS 4 24 mX6_divisor := ⟨⟨"HullFoundry", by decide +kernel⟩, List.mem_append_right _ (List.mem_of_getElem? (i := 431) (by decide +kernel)), List.mem_append_right _ (List.mem_of_getElem? (i := 1) (by decide +kernel))⟩
theorem lk_5_13 : mLI 5 13 mX3_init := ⟨List.mem_append_right _ (List.mem_of_getElem? (i := 137) (by decide +kernel)), List.mem_append_right _ (List.mem_of_getElem? (i := 33) (by decide +kernel)), List.mem_append_right _ (List.mem_of_getElem? (i := 3) (by decide +kernel)), rfl, rfl⟩
theorem lk_5_47 : mLV 5 47 mX3_clear := ⟨List.mem_append_right _ (List.mem_of_getElem? (i := 323) (by decide +kernel)), List.mem_append_right _ (List.mem_of_getElem? (i := 285) (by decide +kernel)), List.mem_append_right _ (List.mem_of_getElem? (i := 286) (by decide +kernel)), List.mem_append_right _ (List.mem_of_getElem? (i := 3) (by decide +kernel)), by decide⟩
theorem lk_5_50 : mLV 5 50 mX3_acrossX := ⟨List.mem_append_right _ (List.mem_of_getElem? (i := 370) (by decide +kernel)), List.mem_append_right _ (List.mem_of_getElem? (i := 351) (by decide +kernel)), List.mem_append_right _ (List.mem_of_getElem? (i := 352) (by decide +kernel)), List.mem_append_right _ (List.mem_of_getElem? (i := 3) (by decide +kernel)), by decide⟩
theorem lk_5_63 : mLV 5 63 mX3_put := ⟨List.mem_append_right _ (List.mem_of_getElem? (i := 371) (by decide +kernel)), List.mem_append_right _ (List.mem_of_getElem? (i := 234) (by decide +kernel)), List.mem_append_right _ (List.mem_of_getElem? (i := 235) (by decide +kernel)), List.mem_append_right _ (List.mem_of_getElem? (i := 3) (by decide +kernel)), by decide⟩
theorem lk_5_67 : mLV 5 67 mX3_acrossY := ⟨List.mem_append_right _ (List.mem_of_getElem? (i := 372) (by decide +kernel)), List.mem_append_right _ (List.mem_of_getElem? (i := 355) (by decide +kernel)), List.mem_append_right _ (List.mem_of_getElem? (i := 356) (by decide +kernel)), List.mem_append_right _ (List.mem_of_getElem? (i := 3) (by decide +kernel)), by decide⟩
theorem lk_5_70 : mLV 5 70 mX3_boxOf := ⟨List.mem_append_right _ (List.mem_of_getElem? (i := 377) (by decide +kernel)), List.mem_append_right _ (List.mem_of_getElem? (i := 378) (by decide +kernel)), List.mem_append_right _ (List.mem_of_getElem? (i := 379) (by decide +kernel)), List.mem_append_right _ (List.mem_of_getElem? (i := 3) (by decide +kernel)), by decide⟩
theorem lk_5_74 : mLV 5 74 mX5_addTriangle := ⟨List.mem_append_right _ (List.mem_of_getElem? (i := 384) (by decide +kernel)), List.mem_append_right _ (List.mem_of_getElem? (i := 386) (by decide +kernel)), List.mem_append_left _ (List.mem_of_getElem? (i := 6) (by decide +kernel)), List.mem_append_right _ (List.mem_of_getElem? (i := 6) (by decide +kernel)), by decide⟩
theorem lk_5_80 : mLV 5 80 mX5_isBeyond := ⟨List.mem_append_right _ (List.mem_of_getElem? (i := 402) (by decide +kernel)), List.mem_append_right _ (List.mem_of_getElem? (i := 395) (by decide +kernel)), List.mem_append_right _ (List.mem_of_getElem? (i := 396) (by decide +kernel)), List.mem_append_right _ (List.mem_of_getElem? (i := 6) (by decide +kernel)), by decide⟩
theorem lk_5_84 : mLV 5 84 mX5_tearOff := ⟨List.mem_append_right _ (List.mem_of_getElem? (i := 403) (by decide +kernel)), List.mem_append_right _ (List.mem_of_getElem? (i := 405) (by decide +kernel)), List.mem_append_left _ (List.mem_of_getElem? (i := 7) (by decide +kernel)), List.mem_append_right _ (List.mem_of_getElem? (i := 6) (by decide +kernel)), by decide⟩
theorem lk_5_93 : mLV 5 93 mX3_acrossZ := ⟨List.mem_append_right _ (List.mem_of_getElem? (i := 388) (by decide +kernel)), List.mem_append_right _ (List.mem_of_getElem? (i := 359) (by decide +kernel)), List.mem_append_right _ (List.mem_of_getElem? (i := 360) (by decide +kernel)), List.mem_append_right _ (List.mem_of_getElem? (i := 3) (by decide +kernel)), by decide⟩
theorem lk_6_36 : mNI 6 36 mX0_init := ⟨⟨"HullFoundry", by decide +kernel⟩, List.mem_append_right _ (List.mem_of_getElem? (i := 27) (by decide +kernel)), List.mem_append_right _ (List.mem_of_getElem? (i := 2) (by decide +kernel)), rfl, rfl⟩
theorem lk_6_41 : mLI 6 41 mX3_init := ⟨List.mem_append_right _ (List.mem_of_getElem? (i := 123) (by decide +kernel)), List.mem_append_right _ (List.mem_of_getElem? (i := 33) (by decide +kernel)), List.mem_append_right _ (List.mem_of_getElem? (i := 3) (by decide +kernel)), rfl, rfl⟩
theorem lk_6_56 : mNI 6 56 mX2_init := ⟨⟨"HullFoundry", by decide +kernel⟩, List.mem_append_right _ (List.mem_of_getElem? (i := 127) (by decide +kernel)), List.mem_append_right _ (List.mem_of_getElem? (i := 5) (by decide +kernel)), rfl, rfl⟩
theorem lk_6_63 : mNI 6 63 mX1_init := ⟨⟨"HullFoundry", by decide +kernel⟩, List.mem_append_right _ (List.mem_of_getElem? (i := 195) (by decide +kernel)), List.mem_append_right _ (List.mem_of_getElem? (i := 7) (by decide +kernel)), rfl, rfl⟩
theorem lk_6_70 : mNI 6 70 mX4_init := ⟨⟨"HullFoundry", by decide +kernel⟩, List.mem_append_right _ (List.mem_of_getElem? (i := 73) (by decide +kernel)), List.mem_append_right _ (List.mem_of_getElem? (i := 4) (by decide +kernel)), rfl, rfl⟩
theorem lk_6_75 : mLV 6 75 mX3_put := ⟨List.mem_append_right _ (List.mem_of_getElem? (i := 233) (by decide +kernel)), List.mem_append_right _ (List.mem_of_getElem? (i := 234) (by decide +kernel)), List.mem_append_right _ (List.mem_of_getElem? (i := 235) (by decide +kernel)), List.mem_append_right _ (List.mem_of_getElem? (i := 3) (by decide +kernel)), by decide⟩
theorem lk_6_79 : mLS 6 79 mX6_isSlot := ⟨List.mem_append_right _ (List.mem_of_getElem? (i := 281) (by decide +kernel)), List.mem_append_right _ (List.mem_of_getElem? (i := 282) (by decide +kernel)), List.mem_append_right _ (List.mem_of_getElem? (i := 1) (by decide +kernel))⟩
theorem lk_6_83 : mLV 6 83 mX3_clear := ⟨List.mem_append_right _ (List.mem_of_getElem? (i := 284) (by decide +kernel)), List.mem_append_right _ (List.mem_of_getElem? (i := 285) (by decide +kernel)), List.mem_append_right _ (List.mem_of_getElem? (i := 286) (by decide +kernel)), List.mem_append_right _ (List.mem_of_getElem? (i := 3) (by decide +kernel)), by decide⟩
theorem lk_6_86 : mLS 6 86 mX6_isPoint := ⟨List.mem_append_right _ (List.mem_of_getElem? (i := 292) (by decide +kernel)), List.mem_append_right _ (List.mem_of_getElem? (i := 293) (by decide +kernel)), List.mem_append_right _ (List.mem_of_getElem? (i := 1) (by decide +kernel))⟩
theorem lk_6_90 : mLV 6 90 mX3_replace := ⟨List.mem_append_right _ (List.mem_of_getElem? (i := 298) (by decide +kernel)), List.mem_append_right _ (List.mem_of_getElem? (i := 299) (by decide +kernel)), List.mem_append_right _ (List.mem_of_getElem? (i := 300) (by decide +kernel)), List.mem_append_right _ (List.mem_of_getElem? (i := 3) (by decide +kernel)), by decide⟩
theorem lk_6_94 : mLV 6 94 mX6_become := ⟨List.mem_append_right _ (List.mem_of_getElem? (i := 306) (by decide +kernel)), List.mem_append_right _ (List.mem_of_getElem? (i := 308) (by decide +kernel)), List.mem_append_left _ (List.mem_of_getElem? (i := 0) (by decide +kernel)), List.mem_append_right _ (List.mem_of_getElem? (i := 1) (by decide +kernel)), by decide⟩
theorem lk_6_101 : mLV 6 101 mX3_takeAll := ⟨List.mem_append_right _ (List.mem_of_getElem? (i := 494) (by decide +kernel)), List.mem_append_right _ (List.mem_of_getElem? (i := 495) (by decide +kernel)), List.mem_append_right _ (List.mem_of_getElem? (i := 496) (by decide +kernel)), List.mem_append_right _ (List.mem_of_getElem? (i := 3) (by decide +kernel)), by decide⟩
theorem lk_6_137 : mLV 6 137 mX0_wholeArea := ⟨List.mem_append_right _ (List.mem_of_getElem? (i := 517) (by decide +kernel)), List.mem_append_right _ (List.mem_of_getElem? (i := 518) (by decide +kernel)), List.mem_append_right _ (List.mem_of_getElem? (i := 519) (by decide +kernel)), List.mem_append_right _ (List.mem_of_getElem? (i := 2) (by decide +kernel)), by decide⟩
theorem lk_6_145 : mLS 6 145 mX6_isWithin := ⟨List.mem_append_right _ (List.mem_of_getElem? (i := 295) (by decide +kernel)), List.mem_append_right _ (List.mem_of_getElem? (i := 296) (by decide +kernel)), List.mem_append_right _ (List.mem_of_getElem? (i := 1) (by decide +kernel))⟩
theorem lk_6_149 : mLV 6 149 mX0_locate := ⟨List.mem_append_right _ (List.mem_of_getElem? (i := 529) (by decide +kernel)), List.mem_append_right _ (List.mem_of_getElem? (i := 530) (by decide +kernel)), List.mem_append_right _ (List.mem_of_getElem? (i := 531) (by decide +kernel)), List.mem_append_right _ (List.mem_of_getElem? (i := 2) (by decide +kernel)), by decide⟩
theorem lk_6_153 : mLV 6 153 mX3_along := ⟨List.mem_append_right _ (List.mem_of_getElem? (i := 549) (by decide +kernel)), List.mem_append_right _ (List.mem_of_getElem? (i := 347) (by decide +kernel)), List.mem_append_right _ (List.mem_of_getElem? (i := 348) (by decide +kernel)), List.mem_append_right _ (List.mem_of_getElem? (i := 3) (by decide +kernel)), by decide⟩
theorem lk_6_157 : mLV 6 157 mX0_sixVolumes := ⟨List.mem_append_right _ (List.mem_of_getElem? (i := 554) (by decide +kernel)), List.mem_append_right _ (List.mem_of_getElem? (i := 555) (by decide +kernel)), List.mem_append_right _ (List.mem_of_getElem? (i := 556) (by decide +kernel)), List.mem_append_right _ (List.mem_of_getElem? (i := 2) (by decide +kernel)), by decide⟩
theorem lk_6_163 : mLS 6 163 mX6_isTopOrBottom := ⟨List.mem_append_right _ (List.mem_of_getElem? (i := 568) (by decide +kernel)), List.mem_append_right _ (List.mem_of_getElem? (i := 569) (by decide +kernel)), List.mem_append_right _ (List.mem_of_getElem? (i := 1) (by decide +kernel))⟩
theorem lk_6_166 : mLV 6 166 mX0_moment := ⟨List.mem_append_right _ (List.mem_of_getElem? (i := 571) (by decide +kernel)), List.mem_append_right _ (List.mem_of_getElem? (i := 572) (by decide +kernel)), List.mem_append_right _ (List.mem_of_getElem? (i := 573) (by decide +kernel)), List.mem_append_right _ (List.mem_of_getElem? (i := 2) (by decide +kernel)), by decide⟩
theorem lk_6_171 : mLV 6 171 mX4_put := ⟨List.mem_append_right _ (List.mem_of_getElem? (i := 576) (by decide +kernel)), List.mem_append_right _ (List.mem_of_getElem? (i := 577) (by decide +kernel)), List.mem_append_right _ (List.mem_of_getElem? (i := 578) (by decide +kernel)), List.mem_append_right _ (List.mem_of_getElem? (i := 4) (by decide +kernel)), by decide⟩
theorem lk_6_174 : mLV 6 174 mX4_part := ⟨List.mem_append_right _ (List.mem_of_getElem? (i := 584) (by decide +kernel)), List.mem_append_right _ (List.mem_of_getElem? (i := 585) (by decide +kernel)), List.mem_append_right _ (List.mem_of_getElem? (i := 586) (by decide +kernel)), List.mem_append_right _ (List.mem_of_getElem? (i := 4) (by decide +kernel)), by decide⟩
theorem lk_6_177 : mLV 6 177 mX3_squareBetween := ⟨List.mem_append_right _ (List.mem_of_getElem? (i := 592) (by decide +kernel)), List.mem_append_right _ (List.mem_of_getElem? (i := 593) (by decide +kernel)), List.mem_append_right _ (List.mem_of_getElem? (i := 594) (by decide +kernel)), List.mem_append_right _ (List.mem_of_getElem? (i := 3) (by decide +kernel)), by decide⟩
theorem lk_6_181 : mLV 6 181 mX0_reckonSlit := ⟨List.mem_append_right _ (List.mem_of_getElem? (i := 600) (by decide +kernel)), List.mem_append_right _ (List.mem_of_getElem? (i := 601) (by decide +kernel)), List.mem_append_right _ (List.mem_of_getElem? (i := 602) (by decide +kernel)), List.mem_append_right _ (List.mem_of_getElem? (i := 2) (by decide +kernel)), by decide⟩
theorem lk_6_187 : mLV 6 187 mX1_reckon := ⟨List.mem_append_right _ (List.mem_of_getElem? (i := 632) (by decide +kernel)), List.mem_append_right _ (List.mem_of_getElem? (i := 633) (by decide +kernel)), List.mem_append_right _ (List.mem_of_getElem? (i := 634) (by decide +kernel)), List.mem_append_right _ (List.mem_of_getElem? (i := 7) (by decide +kernel)), by decide⟩
theorem lk_6_198 : mLV 6 198 mX3_isLike := ⟨List.mem_append_right _ (List.mem_of_getElem? (i := 694) (by decide +kernel)), List.mem_append_right _ (List.mem_of_getElem? (i := 695) (by decide +kernel)), List.mem_append_right _ (List.mem_of_getElem? (i := 696) (by decide +kernel)), List.mem_append_right _ (List.mem_of_getElem? (i := 3) (by decide +kernel)), by decide⟩
theorem lk_6_203 : mLV 6 203 mX2_build := ⟨List.mem_append_right _ (List.mem_of_getElem? (i := 310) (by decide +kernel)), List.mem_append_right _ (List.mem_of_getElem? (i := 311) (by decide +kernel)), List.mem_append_right _ (List.mem_of_getElem? (i := 312) (by decide +kernel)), List.mem_append_right _ (List.mem_of_getElem? (i := 5) (by decide +kernel)), by decide⟩
theorem lk_6_207 : mLV 6 207 mX6_keepFresh := ⟨List.mem_append_right _ (List.mem_of_getElem? (i := 482) (by decide +kernel)), List.mem_append_right _ (List.mem_of_getElem? (i := 484) (by decide +kernel)), List.mem_append_left _ (List.mem_of_getElem? (i := 14) (by decide +kernel)), List.mem_append_right _ (List.mem_of_getElem? (i := 1) (by decide +kernel)), by decide⟩
theorem lk_6_210 : mLV 6 210 mX6_forgetOldest := ⟨List.mem_append_right _ (List.mem_of_getElem? (i := 486) (by decide +kernel)), List.mem_append_right _ (List.mem_of_getElem? (i := 488) (by decide +kernel)), List.mem_append_left _ (List.mem_of_getElem? (i := 15) (by decide +kernel)), List.mem_append_right _ (List.mem_of_getElem? (i := 1) (by decide +kernel)), by decide⟩
theorem lk_7_133 : mLS 7 133 mX7_isSolid := ⟨List.mem_append_right _ (List.mem_of_getElem? (i := 907) (by decide +kernel)), List.mem_append_right _ (List.mem_of_getElem? (i := 908) (by decide +kernel)), List.mem_append_right _ (List.mem_of_getElem? (i := 8) (by decide +kernel))⟩
theorem lk_7_137 : mLS 7 137 mX7_isPoint := ⟨List.mem_append_right _ (List.mem_of_getElem? (i := 914) (by decide +kernel)), List.mem_append_right _ (List.mem_of_getElem? (i := 915) (by decide +kernel)), List.mem_append_right _ (List.mem_of_getElem? (i := 8) (by decide +kernel))⟩
theorem lk_7_158 : mLS 7 158 mX7_common := ⟨List.mem_append_right _ (List.mem_of_getElem? (i := 951) (by decide +kernel)), List.mem_append_right _ (List.mem_of_getElem? (i := 952) (by decide +kernel)), List.mem_append_right _ (List.mem_of_getElem? (i := 8) (by decide +kernel))⟩
theorem lk_7_170 : mLV 7 170 mX7_leftOf := ⟨List.mem_append_right _ (List.mem_of_getElem? (i := 967) (by decide +kernel)), List.mem_append_right _ (List.mem_of_getElem? (i := 969) (by decide +kernel)), List.mem_append_left _ (List.mem_of_getElem? (i := 44) (by decide +kernel)), List.mem_append_right _ (List.mem_of_getElem? (i := 8) (by decide +kernel)), by decide⟩
theorem lk_7_174 : mLV 7 174 mX7_apartOf := ⟨List.mem_append_right _ (List.mem_of_getElem? (i := 971) (by decide +kernel)), List.mem_append_right _ (List.mem_of_getElem? (i := 973) (by decide +kernel)), List.mem_append_left _ (List.mem_of_getElem? (i := 45) (by decide +kernel)), List.mem_append_right _ (List.mem_of_getElem? (i := 8) (by decide +kernel)), by decide⟩
theorem lk_7_178 : mLV 7 178 mX7_across := ⟨List.mem_append_right _ (List.mem_of_getElem? (i := 939) (by decide +kernel)), List.mem_append_right _ (List.mem_of_getElem? (i := 941) (by decide +kernel)), List.mem_append_left _ (List.mem_of_getElem? (i := 38) (by decide +kernel)), List.mem_append_right _ (List.mem_of_getElem? (i := 8) (by decide +kernel)), by decide⟩
theorem lk_7_182 : mLV 7 182 mX7_isFlat := ⟨List.mem_append_right _ (List.mem_of_getElem? (i := 943) (by decide +kernel)), List.mem_append_right _ (List.mem_of_getElem? (i := 945) (by decide +kernel)), List.mem_append_left _ (List.mem_of_getElem? (i := 39) (by decide +kernel)), List.mem_append_right _ (List.mem_of_getElem? (i := 8) (by decide +kernel)), by decide⟩
theorem lk_7_186 : mLV 7 186 mX7_plain := ⟨List.mem_append_right _ (List.mem_of_getElem? (i := 947) (by decide +kernel)), List.mem_append_right _ (List.mem_of_getElem? (i := 949) (by decide +kernel)), List.mem_append_left _ (List.mem_of_getElem? (i := 40) (by decide +kernel)), List.mem_append_right _ (List.mem_of_getElem? (i := 8) (by decide +kernel)), by decide⟩
theorem lk_7_189 : mLV 7 189 mX7_height := ⟨List.mem_append_right _ (List.mem_of_getElem? (i := 954) (by decide +kernel)), List.mem_append_right _ (List.mem_of_getElem? (i := 956) (by decide +kernel)), List.mem_append_left _ (List.mem_of_getElem? (i := 41) (by decide +kernel)), List.mem_append_right _ (List.mem_of_getElem? (i := 8) (by decide +kernel)), by decide⟩
theorem lk_7_193 : mLV 7 193 mX7_isAhead := ⟨List.mem_append_right _ (List.mem_of_getElem? (i := 979) (by decide +kernel)), List.mem_append_right _ (List.mem_of_getElem? (i := 981) (by decide +kernel)), List.mem_append_left _ (List.mem_of_getElem? (i := 47) (by decide +kernel)), List.mem_append_right _ (List.mem_of_getElem? (i := 8) (by decide +kernel)), by decide⟩
theorem lk_7_197 : mLV 7 197 mX7_kindOfHeap := ⟨List.mem_append_right _ (List.mem_of_getElem? (i := 935) (by decide +kernel)), List.mem_append_right _ (List.mem_of_getElem? (i := 937) (by decide +kernel)), List.mem_append_left _ (List.mem_of_getElem? (i := 37) (by decide +kernel)), List.mem_append_right _ (List.mem_of_getElem? (i := 8) (by decide +kernel)), by decide⟩
theorem lk_7_201 : mLV 7 201 mX7_lists := ⟨List.mem_append_right _ (List.mem_of_getElem? (i := 958) (by decide +kernel)), List.mem_append_right _ (List.mem_of_getElem? (i := 960) (by decide +kernel)), List.mem_append_left _ (List.mem_of_getElem? (i := 42) (by decide +kernel)), List.mem_append_right _ (List.mem_of_getElem? (i := 8) (by decide +kernel)), by decide⟩
theorem lk_7_205 : mLV 7 205 mX7_rings := ⟨List.mem_append_right _ (List.mem_of_getElem? (i := 962) (by decide +kernel)), List.mem_append_right _ (List.mem_of_getElem? (i := 964) (by decide +kernel)), List.mem_append_left _ (List.mem_of_getElem? (i := 43) (by decide +kernel)), List.mem_append_right _ (List.mem_of_getElem? (i := 8) (by decide +kernel)), by decide⟩
theorem lk_7_208 : mLV 7 208 mX7_faceHere := ⟨List.mem_append_right _ (List.mem_of_getElem? (i := 975) (by decide +kernel)), List.mem_append_right _ (List.mem_of_getElem? (i := 977) (by decide +kernel)), List.mem_append_left _ (List.mem_of_getElem? (i := 46) (by decide +kernel)), List.mem_append_right _ (List.mem_of_getElem? (i := 8) (by decide +kernel)), by decide⟩
theorem lk_7_212 : mLV 7 212 mX7_turnsAbout := ⟨List.mem_append_right _ (List.mem_of_getElem? (i := 983) (by decide +kernel)), List.mem_append_right _ (List.mem_of_getElem? (i := 985) (by decide +kernel)), List.mem_append_left _ (List.mem_of_getElem? (i := 48) (by decide +kernel)), List.mem_append_right _ (List.mem_of_getElem? (i := 8) (by decide +kernel)), by decide⟩
theorem lk_7_215 : mLV 7 215 mX7_planes := ⟨List.mem_append_right _ (List.mem_of_getElem? (i := 987) (by decide +kernel)), List.mem_append_right _ (List.mem_of_getElem? (i := 989) (by decide +kernel)), List.mem_append_left _ (List.mem_of_getElem? (i := 49) (by decide +kernel)), List.mem_append_right _ (List.mem_of_getElem? (i := 8) (by decide +kernel)), by decide⟩
theorem lk_7_219 : mLV 7 219 mX7_isKnown := ⟨List.mem_append_right _ (List.mem_of_getElem? (i := 991) (by decide +kernel)), List.mem_append_right _ (List.mem_of_getElem? (i := 993) (by decide +kernel)), List.mem_append_left _ (List.mem_of_getElem? (i := 50) (by decide +kernel)), List.mem_append_right _ (List.mem_of_getElem? (i := 8) (by decide +kernel)), by decide⟩
theorem lk_7_222 : mLV 7 222 mX7_heaps := ⟨List.mem_append_right _ (List.mem_of_getElem? (i := 927) (by decide +kernel)), List.mem_append_right _ (List.mem_of_getElem? (i := 929) (by decide +kernel)), List.mem_append_left _ (List.mem_of_getElem? (i := 35) (by decide +kernel)), List.mem_append_right _ (List.mem_of_getElem? (i := 8) (by decide +kernel)), by decide⟩
theorem lk_7_226 : mLV 7 226 mX7_loads := ⟨List.mem_append_right _ (List.mem_of_getElem? (i := 1007) (by decide +kernel)), List.mem_append_right _ (List.mem_of_getElem? (i := 1009) (by decide +kernel)), List.mem_append_left _ (List.mem_of_getElem? (i := 53) (by decide +kernel)), List.mem_append_right _ (List.mem_of_getElem? (i := 8) (by decide +kernel)), by decide⟩
theorem lk_7_229 : mLV 7 229 mX7_hulls := ⟨List.mem_append_right _ (List.mem_of_getElem? (i := 931) (by decide +kernel)), List.mem_append_right _ (List.mem_of_getElem? (i := 933) (by decide +kernel)), List.mem_append_left _ (List.mem_of_getElem? (i := 36) (by decide +kernel)), List.mem_append_right _ (List.mem_of_getElem? (i := 8) (by decide +kernel)), by decide⟩
theorem lk_7_233 : mLV 7 233 mX7_edgeHere := ⟨List.mem_append_right _ (List.mem_of_getElem? (i := 1019) (by decide +kernel)), List.mem_append_right _ (List.mem_of_getElem? (i := 1021) (by decide +kernel)), List.mem_append_left _ (List.mem_of_getElem? (i := 55) (by decide +kernel)), List.mem_append_right _ (List.mem_of_getElem? (i := 8) (by decide +kernel)), by decide⟩
theorem lk_7_237 : mLV 7 237 mX7_keeps := ⟨List.mem_append_right _ (List.mem_of_getElem? (i := 999) (by decide +kernel)), List.mem_append_right _ (List.mem_of_getElem? (i := 1001) (by decide +kernel)), List.mem_append_left _ (List.mem_of_getElem? (i := 52) (by decide +kernel)), List.mem_append_right _ (List.mem_of_getElem? (i := 8) (by decide +kernel)), by decide⟩
theorem lk_7_240 : mLV 7 240 mX7_becomes := ⟨List.mem_append_right _ (List.mem_of_getElem? (i := 995) (by decide +kernel)), List.mem_append_right _ (List.mem_of_getElem? (i := 997) (by decide +kernel)), List.mem_append_left _ (List.mem_of_getElem? (i := 51) (by decide +kernel)), List.mem_append_right _ (List.mem_of_getElem? (i := 8) (by decide +kernel)), by decide⟩
theorem lk_7_244 : mLV 7 244 mX7_knows := ⟨List.mem_append_right _ (List.mem_of_getElem? (i := 1015) (by decide +kernel)), List.mem_append_right _ (List.mem_of_getElem? (i := 1017) (by decide +kernel)), List.mem_append_left _ (List.mem_of_getElem? (i := 54) (by decide +kernel)), List.mem_append_right _ (List.mem_of_getElem? (i := 8) (by decide +kernel)), by decide⟩
theorem lk_7_250 : mLV 7 250 mX7_area := ⟨List.mem_append_right _ (List.mem_of_getElem? (i := 1036) (by decide +kernel)), List.mem_append_right _ (List.mem_of_getElem? (i := 1038) (by decide +kernel)), List.mem_append_left _ (List.mem_of_getElem? (i := 56) (by decide +kernel)), List.mem_append_right _ (List.mem_of_getElem? (i := 8) (by decide +kernel)), by decide⟩
theorem lk_7_265 : mLV 7 265 mX7_onLine := ⟨List.mem_append_right _ (List.mem_of_getElem? (i := 1061) (by decide +kernel)), List.mem_append_right _ (List.mem_of_getElem? (i := 1063) (by decide +kernel)), List.mem_append_left _ (List.mem_of_getElem? (i := 60) (by decide +kernel)), List.mem_append_right _ (List.mem_of_getElem? (i := 8) (by decide +kernel)), by decide⟩
theorem lk_7_268 : mLV 7 268 mX7_overFace := ⟨List.mem_append_right _ (List.mem_of_getElem? (i := 1065) (by decide +kernel)), List.mem_append_right _ (List.mem_of_getElem? (i := 1067) (by decide +kernel)), List.mem_append_left _ (List.mem_of_getElem? (i := 61) (by decide +kernel)), List.mem_append_right _ (List.mem_of_getElem? (i := 8) (by decide +kernel)), by decide⟩
theorem lk_7_271 : mLV 7 271 mX7_isOver := ⟨List.mem_append_right _ (List.mem_of_getElem? (i := 1069) (by decide +kernel)), List.mem_append_right _ (List.mem_of_getElem? (i := 1071) (by decide +kernel)), List.mem_append_left _ (List.mem_of_getElem? (i := 62) (by decide +kernel)), List.mem_append_right _ (List.mem_of_getElem? (i := 8) (by decide +kernel)), by decide⟩
theorem lk_7_276 : mLS 7 276 mX7_isFar := ⟨List.mem_append_right _ (List.mem_of_getElem? (i := 1044) (by decide +kernel)), List.mem_append_right _ (List.mem_of_getElem? (i := 1045) (by decide +kernel)), List.mem_append_right _ (List.mem_of_getElem? (i := 8) (by decide +kernel))⟩
theorem lk_7_279 : mLV 7 279 mX7_owns := ⟨List.mem_append_right _ (List.mem_of_getElem? (i := 1049) (by decide +kernel)), List.mem_append_right _ (List.mem_of_getElem? (i := 1051) (by decide +kernel)), List.mem_append_left _ (List.mem_of_getElem? (i := 57) (by decide +kernel)), List.mem_append_right _ (List.mem_of_getElem? (i := 8) (by decide +kernel)), by decide⟩
theorem lk_7_281 : mLV 7 281 mX7_points := ⟨List.mem_append_right _ (List.mem_of_getElem? (i := 1053) (by decide +kernel)), List.mem_append_right _ (List.mem_of_getElem? (i := 1055) (by decide +kernel)), List.mem_append_left _ (List.mem_of_getElem? (i := 58) (by decide +kernel)), List.mem_append_right _ (List.mem_of_getElem? (i := 8) (by decide +kernel)), by decide⟩
theorem lk_7_285 : mLV 7 285 mX7_where := ⟨List.mem_append_right _ (List.mem_of_getElem? (i := 1057) (by decide +kernel)), List.mem_append_right _ (List.mem_of_getElem? (i := 1059) (by decide +kernel)), List.mem_append_left _ (List.mem_of_getElem? (i := 59) (by decide +kernel)), List.mem_append_right _ (List.mem_of_getElem? (i := 8) (by decide +kernel)), by decide⟩
theorem lk_7_289 : mLS 7 289 mX7_isSmall := ⟨List.mem_append_right _ (List.mem_of_getElem? (i := 1077) (by decide +kernel)), List.mem_append_right _ (List.mem_of_getElem? (i := 1078) (by decide +kernel)), List.mem_append_right _ (List.mem_of_getElem? (i := 8) (by decide +kernel))⟩
theorem lk_7_292 : mLV 7 292 mX7_corner := ⟨List.mem_append_right _ (List.mem_of_getElem? (i := 1080) (by decide +kernel)), List.mem_append_right _ (List.mem_of_getElem? (i := 1024) (by decide +kernel)), List.mem_append_right _ (List.mem_of_getElem? (i := 1025) (by decide +kernel)), List.mem_append_right _ (List.mem_of_getElem? (i := 8) (by decide +kernel)), by decide⟩
theorem lk_7_308 : mLV 7 308 mX7_adds := ⟨List.mem_append_right _ (List.mem_of_getElem? (i := 1085) (by decide +kernel)), List.mem_append_right _ (List.mem_of_getElem? (i := 1087) (by decide +kernel)), List.mem_append_left _ (List.mem_of_getElem? (i := 63) (by decide +kernel)), List.mem_append_right _ (List.mem_of_getElem? (i := 8) (by decide +kernel)), by decide⟩
theorem lk_7_323 : mLS 7 323 mX7_fractions := ⟨List.mem_append_right _ (List.mem_of_getElem? (i := 1110) (by decide +kernel)), List.mem_append_right _ (List.mem_of_getElem? (i := 1111) (by decide +kernel)), List.mem_append_right _ (List.mem_of_getElem? (i := 8) (by decide +kernel))⟩
theorem lk_7_327 : mLV 7 327 mX7_tries := ⟨List.mem_append_right _ (List.mem_of_getElem? (i := 1106) (by decide +kernel)), List.mem_append_right _ (List.mem_of_getElem? (i := 1108) (by decide +kernel)), List.mem_append_left _ (List.mem_of_getElem? (i := 65) (by decide +kernel)), List.mem_append_right _ (List.mem_of_getElem? (i := 8) (by decide +kernel)), by decide⟩
theorem lk_7_331 : mLV 7 331 mX7_thick := ⟨List.mem_append_right _ (List.mem_of_getElem? (i := 1102) (by decide +kernel)), List.mem_append_right _ (List.mem_of_getElem? (i := 1104) (by decide +kernel)), List.mem_append_left _ (List.mem_of_getElem? (i := 64) (by decide +kernel)), List.mem_append_right _ (List.mem_of_getElem? (i := 8) (by decide +kernel)), by decide⟩
theorem lk_7_334 : mLV 7 334 mX7_crosses := ⟨List.mem_append_right _ (List.mem_of_getElem? (i := 1113) (by decide +kernel)), List.mem_append_right _ (List.mem_of_getElem? (i := 1115) (by decide +kernel)), List.mem_append_left _ (List.mem_of_getElem? (i := 66) (by decide +kernel)), List.mem_append_right _ (List.mem_of_getElem? (i := 8) (by decide +kernel)), by decide⟩
theorem lk_7_338 : mLV 7 338 mX7_told := ⟨List.mem_append_right _ (List.mem_of_getElem? (i := 1117) (by decide +kernel)), List.mem_append_right _ (List.mem_of_getElem? (i := 1119) (by decide +kernel)), List.mem_append_left _ (List.mem_of_getElem? (i := 67) (by decide +kernel)), List.mem_append_right _ (List.mem_of_getElem? (i := 8) (by decide +kernel)), by decide⟩
theorem lk_7_341 : mLV 7 341 mX7_along := ⟨List.mem_append_right _ (List.mem_of_getElem? (i := 1137) (by decide +kernel)), List.mem_append_right _ (List.mem_of_getElem? (i := 1139) (by decide +kernel)), List.mem_append_left _ (List.mem_of_getElem? (i := 71) (by decide +kernel)), List.mem_append_right _ (List.mem_of_getElem? (i := 8) (by decide +kernel)), by decide⟩
theorem lk_7_347 : mLV 7 347 mX7_highest := ⟨List.mem_append_right _ (List.mem_of_getElem? (i := 1133) (by decide +kernel)), List.mem_append_right _ (List.mem_of_getElem? (i := 1135) (by decide +kernel)), List.mem_append_left _ (List.mem_of_getElem? (i := 70) (by decide +kernel)), List.mem_append_right _ (List.mem_of_getElem? (i := 8) (by decide +kernel)), by decide⟩
theorem lk_7_350 : mLV 7 350 mX7_finds := ⟨List.mem_append_right _ (List.mem_of_getElem? (i := 1141) (by decide +kernel)), List.mem_append_right _ (List.mem_of_getElem? (i := 1143) (by decide +kernel)), List.mem_append_left _ (List.mem_of_getElem? (i := 72) (by decide +kernel)), List.mem_append_right _ (List.mem_of_getElem? (i := 8) (by decide +kernel)), by decide⟩
theorem lk_7_356 : mLV 7 356 mX7_looks := ⟨List.mem_append_right _ (List.mem_of_getElem? (i := 1129) (by decide +kernel)), List.mem_append_right _ (List.mem_of_getElem? (i := 1131) (by decide +kernel)), List.mem_append_left _ (List.mem_of_getElem? (i := 69) (by decide +kernel)), List.mem_append_right _ (List.mem_of_getElem? (i := 8) (by decide +kernel)), by decide⟩
theorem lk_7_359 : mLV 7 359 mX7_looksBothWays := ⟨List.mem_append_right _ (List.mem_of_getElem? (i := 1145) (by decide +kernel)), List.mem_append_right _ (List.mem_of_getElem? (i := 1147) (by decide +kernel)), List.mem_append_left _ (List.mem_of_getElem? (i := 73) (by decide +kernel)), List.mem_append_right _ (List.mem_of_getElem? (i := 8) (by decide +kernel)), by decide⟩
theorem lk_7_362 : mLV 7 362 mX7_looksAll := ⟨List.mem_append_right _ (List.mem_of_getElem? (i := 1125) (by decide +kernel)), List.mem_append_right _ (List.mem_of_getElem? (i := 1127) (by decide +kernel)), List.mem_append_left _ (List.mem_of_getElem? (i := 68) (by decide +kernel)), List.mem_append_right _ (List.mem_of_getElem? (i := 8) (by decide +kernel)), by decide⟩
theorem lk_7_365 : mLV 7 365 mX7_cornerAt := ⟨List.mem_append_right _ (List.mem_of_getElem? (i := 1161) (by decide +kernel)), List.mem_append_right _ (List.mem_of_getElem? (i := 1163) (by decide +kernel)), List.mem_append_left _ (List.mem_of_getElem? (i := 76) (by decide +kernel)), List.mem_append_right _ (List.mem_of_getElem? (i := 8) (by decide +kernel)), by decide⟩
theorem lk_7_368 : mLV 7 368 mX7_toCorner := ⟨List.mem_append_right _ (List.mem_of_getElem? (i := 1165) (by decide +kernel)), List.mem_append_right _ (List.mem_of_getElem? (i := 1167) (by decide +kernel)), List.mem_append_left _ (List.mem_of_getElem? (i := 77) (by decide +kernel)), List.mem_append_right _ (List.mem_of_getElem? (i := 8) (by decide +kernel)), by decide⟩
theorem lk_7_371 : mLV 7 371 mX7_toEdge := ⟨List.mem_append_right _ (List.mem_of_getElem? (i := 1169) (by decide +kernel)), List.mem_append_right _ (List.mem_of_getElem? (i := 1171) (by decide +kernel)), List.mem_append_left _ (List.mem_of_getElem? (i := 78) (by decide +kernel)), List.mem_append_right _ (List.mem_of_getElem? (i := 8) (by decide +kernel)), by decide⟩
theorem lk_7_374 : mLV 7 374 mX7_toFace := ⟨List.mem_append_right _ (List.mem_of_getElem? (i := 1173) (by decide +kernel)), List.mem_append_right _ (List.mem_of_getElem? (i := 1175) (by decide +kernel)), List.mem_append_left _ (List.mem_of_getElem? (i := 79) (by decide +kernel)), List.mem_append_right _ (List.mem_of_getElem? (i := 8) (by decide +kernel)), by decide⟩
theorem lk_7_377 : mLV 7 377 mX7_through := ⟨List.mem_append_right _ (List.mem_of_getElem? (i := 1177) (by decide +kernel)), List.mem_append_right _ (List.mem_of_getElem? (i := 1179) (by decide +kernel)), List.mem_append_left _ (List.mem_of_getElem? (i := 80) (by decide +kernel)), List.mem_append_right _ (List.mem_of_getElem? (i := 8) (by decide +kernel)), by decide⟩
theorem lk_7_380 : mLV 7 380 mX7_toEdges := ⟨List.mem_append_right _ (List.mem_of_getElem? (i := 1181) (by decide +kernel)), List.mem_append_right _ (List.mem_of_getElem? (i := 1183) (by decide +kernel)), List.mem_append_left _ (List.mem_of_getElem? (i := 81) (by decide +kernel)), List.mem_append_right _ (List.mem_of_getElem? (i := 8) (by decide +kernel)), by decide⟩
theorem lk_7_383 : mLV 7 383 mX7_against := ⟨List.mem_append_right _ (List.mem_of_getElem? (i := 1157) (by decide +kernel)), List.mem_append_right _ (List.mem_of_getElem? (i := 1159) (by decide +kernel)), List.mem_append_left _ (List.mem_of_getElem? (i := 75) (by decide +kernel)), List.mem_append_right _ (List.mem_of_getElem? (i := 8) (by decide +kernel)), by decide⟩
theorem lk_7_386 : mLV 7 386 mX7_nears := ⟨List.mem_append_right _ (List.mem_of_getElem? (i := 1153) (by decide +kernel)), List.mem_append_right _ (List.mem_of_getElem? (i := 1155) (by decide +kernel)), List.mem_append_left _ (List.mem_of_getElem? (i := 74) (by decide +kernel)), List.mem_append_right _ (List.mem_of_getElem? (i := 8) (by decide +kernel)), by decide⟩
theorem lk_7_389 : mLV 7 389 mX7_orders := ⟨List.mem_append_right _ (List.mem_of_getElem? (i := 1201) (by decide +kernel)), List.mem_append_right _ (List.mem_of_getElem? (i := 1203) (by decide +kernel)), List.mem_append_left _ (List.mem_of_getElem? (i := 82) (by decide +kernel)), List.mem_append_right _ (List.mem_of_getElem? (i := 8) (by decide +kernel)), by decide⟩
theorem lk_12_9 : mLI 12 9 mX6_init := ⟨List.mem_append_right _ (List.mem_of_getElem? (i := 15) (by decide +kernel)), List.mem_append_right _ (List.mem_of_getElem? (i := 16) (by decide +kernel)), List.mem_append_right _ (List.mem_of_getElem? (i := 1) (by decide +kernel)), rfl, rfl⟩
theorem lk_12_12 : mLI 12 12 mX7_init := ⟨List.mem_append_right _ (List.mem_of_getElem? (i := 720) (by decide +kernel)), List.mem_append_right _ (List.mem_of_getElem? (i := 721) (by decide +kernel)), List.mem_append_right _ (List.mem_of_getElem? (i := 8) (by decide +kernel)), rfl, rfl⟩
theorem lk_12_13 : mLV 12 13 mX6_tray := ⟨List.mem_append_right _ (List.mem_of_getElem? (i := 277) (by decide +kernel)), List.mem_append_right _ (List.mem_of_getElem? (i := 278) (by decide +kernel)), List.mem_append_right _ (List.mem_of_getElem? (i := 279) (by decide +kernel)), List.mem_append_right _ (List.mem_of_getElem? (i := 1) (by decide +kernel)), by decide⟩
theorem lk_12_17 : mLV 12 17 mX7_tray := ⟨List.mem_append_right _ (List.mem_of_getElem? (i := 903) (by decide +kernel)), List.mem_append_right _ (List.mem_of_getElem? (i := 904) (by decide +kernel)), List.mem_append_right _ (List.mem_of_getElem? (i := 905) (by decide +kernel)), List.mem_append_right _ (List.mem_of_getElem? (i := 8) (by decide +kernel)), by decide⟩
theorem lk_12_18 : mLV 12 18 mX6_point := ⟨List.mem_append_right _ (List.mem_of_getElem? (i := 288) (by decide +kernel)), List.mem_append_right _ (List.mem_of_getElem? (i := 289) (by decide +kernel)), List.mem_append_right _ (List.mem_of_getElem? (i := 290) (by decide +kernel)), List.mem_append_right _ (List.mem_of_getElem? (i := 1) (by decide +kernel)), by decide⟩
theorem lk_12_22 : mLV 12 22 mX7_point := ⟨List.mem_append_right _ (List.mem_of_getElem? (i := 910) (by decide +kernel)), List.mem_append_right _ (List.mem_of_getElem? (i := 911) (by decide +kernel)), List.mem_append_right _ (List.mem_of_getElem? (i := 912) (by decide +kernel)), List.mem_append_right _ (List.mem_of_getElem? (i := 8) (by decide +kernel)), by decide⟩
theorem lk_12_23 : mLV 12 23 mX6_solid := ⟨List.mem_append_right _ (List.mem_of_getElem? (i := 302) (by decide +kernel)), List.mem_append_right _ (List.mem_of_getElem? (i := 303) (by decide +kernel)), List.mem_append_right _ (List.mem_of_getElem? (i := 304) (by decide +kernel)), List.mem_append_right _ (List.mem_of_getElem? (i := 1) (by decide +kernel)), by decide⟩
theorem lk_12_27 : mLV 12 27 mX7_solid := ⟨List.mem_append_right _ (List.mem_of_getElem? (i := 923) (by decide +kernel)), List.mem_append_right _ (List.mem_of_getElem? (i := 924) (by decide +kernel)), List.mem_append_right _ (List.mem_of_getElem? (i := 925) (by decide +kernel)), List.mem_append_right _ (List.mem_of_getElem? (i := 8) (by decide +kernel)), by decide⟩
theorem lk_12_28 : mLV 12 28 mX6_grow := ⟨List.mem_append_right _ (List.mem_of_getElem? (i := 490) (by decide +kernel)), List.mem_append_right _ (List.mem_of_getElem? (i := 491) (by decide +kernel)), List.mem_append_right _ (List.mem_of_getElem? (i := 492) (by decide +kernel)), List.mem_append_right _ (List.mem_of_getElem? (i := 1) (by decide +kernel)), by decide⟩
theorem lk_12_32 : mLV 12 32 mX7_grow := ⟨List.mem_append_right _ (List.mem_of_getElem? (i := 1003) (by decide +kernel)), List.mem_append_right _ (List.mem_of_getElem? (i := 1004) (by decide +kernel)), List.mem_append_right _ (List.mem_of_getElem? (i := 1005) (by decide +kernel)), List.mem_append_right _ (List.mem_of_getElem? (i := 8) (by decide +kernel)), by decide⟩
theorem lk_12_33 : mLV 12 33 mX6_count := ⟨List.mem_append_right _ (List.mem_of_getElem? (i := 500) (by decide +kernel)), List.mem_append_right _ (List.mem_of_getElem? (i := 501) (by decide +kernel)), List.mem_append_right _ (List.mem_of_getElem? (i := 502) (by decide +kernel)), List.mem_append_right _ (List.mem_of_getElem? (i := 1) (by decide +kernel)), by decide⟩
theorem lk_12_36 : mLV 12 36 mX7_count := ⟨List.mem_append_right _ (List.mem_of_getElem? (i := 1011) (by decide +kernel)), List.mem_append_right _ (List.mem_of_getElem? (i := 1012) (by decide +kernel)), List.mem_append_right _ (List.mem_of_getElem? (i := 1013) (by decide +kernel)), List.mem_append_right _ (List.mem_of_getElem? (i := 8) (by decide +kernel)), by decide⟩
theorem lk_12_37 : mLV 12 37 mX6_corner := ⟨List.mem_append_right _ (List.mem_of_getElem? (i := 504) (by decide +kernel)), List.mem_append_right _ (List.mem_of_getElem? (i := 505) (by decide +kernel)), List.mem_append_right _ (List.mem_of_getElem? (i := 506) (by decide +kernel)), List.mem_append_right _ (List.mem_of_getElem? (i := 1) (by decide +kernel)), by decide⟩
theorem lk_12_41 : mLV 12 41 mX7_corner := ⟨List.mem_append_right _ (List.mem_of_getElem? (i := 1023) (by decide +kernel)), List.mem_append_right _ (List.mem_of_getElem? (i := 1024) (by decide +kernel)), List.mem_append_right _ (List.mem_of_getElem? (i := 1025) (by decide +kernel)), List.mem_append_right _ (List.mem_of_getElem? (i := 8) (by decide +kernel)), by decide⟩
theorem lk_12_42 : mLV 12 42 mX6_edge := ⟨List.mem_append_right _ (List.mem_of_getElem? (i := 508) (by decide +kernel)), List.mem_append_right _ (List.mem_of_getElem? (i := 509) (by decide +kernel)), List.mem_append_right _ (List.mem_of_getElem? (i := 510) (by decide +kernel)), List.mem_append_right _ (List.mem_of_getElem? (i := 1) (by decide +kernel)), by decide⟩
theorem lk_12_45 : mLV 12 45 mX7_edge := ⟨List.mem_append_right _ (List.mem_of_getElem? (i := 1027) (by decide +kernel)), List.mem_append_right _ (List.mem_of_getElem? (i := 1028) (by decide +kernel)), List.mem_append_right _ (List.mem_of_getElem? (i := 1029) (by decide +kernel)), List.mem_append_right _ (List.mem_of_getElem? (i := 8) (by decide +kernel)), by decide⟩
theorem lk_12_46 : mLV 12 46 mX6_face := ⟨List.mem_append_right _ (List.mem_of_getElem? (i := 512) (by decide +kernel)), List.mem_append_right _ (List.mem_of_getElem? (i := 513) (by decide +kernel)), List.mem_append_right _ (List.mem_of_getElem? (i := 514) (by decide +kernel)), List.mem_append_right _ (List.mem_of_getElem? (i := 1) (by decide +kernel)), by decide⟩
theorem lk_12_50 : mLV 12 50 mX7_face := ⟨List.mem_append_right _ (List.mem_of_getElem? (i := 1031) (by decide +kernel)), List.mem_append_right _ (List.mem_of_getElem? (i := 1032) (by decide +kernel)), List.mem_append_right _ (List.mem_of_getElem? (i := 1033) (by decide +kernel)), List.mem_append_right _ (List.mem_of_getElem? (i := 8) (by decide +kernel)), by decide⟩
theorem lk_12_51 : mLV 12 51 mX6_in := ⟨List.mem_append_right _ (List.mem_of_getElem? (i := 524) (by decide +kernel)), List.mem_append_right _ (List.mem_of_getElem? (i := 525) (by decide +kernel)), List.mem_append_right _ (List.mem_of_getElem? (i := 526) (by decide +kernel)), List.mem_append_right _ (List.mem_of_getElem? (i := 1) (by decide +kernel)), by decide⟩
theorem lk_12_55 : mLV 12 55 mX7_in := ⟨List.mem_append_right _ (List.mem_of_getElem? (i := 1040) (by decide +kernel)), List.mem_append_right _ (List.mem_of_getElem? (i := 1041) (by decide +kernel)), List.mem_append_right _ (List.mem_of_getElem? (i := 1042) (by decide +kernel)), List.mem_append_right _ (List.mem_of_getElem? (i := 8) (by decide +kernel)), by decide⟩
theorem lk_12_56 : mLV 12 56 mX6_side := ⟨List.mem_append_right _ (List.mem_of_getElem? (i := 545) (by decide +kernel)), List.mem_append_right _ (List.mem_of_getElem? (i := 546) (by decide +kernel)), List.mem_append_right _ (List.mem_of_getElem? (i := 547) (by decide +kernel)), List.mem_append_right _ (List.mem_of_getElem? (i := 1) (by decide +kernel)), by decide⟩
theorem lk_12_59 : mLV 12 59 mX7_side := ⟨List.mem_append_right _ (List.mem_of_getElem? (i := 1073) (by decide +kernel)), List.mem_append_right _ (List.mem_of_getElem? (i := 1074) (by decide +kernel)), List.mem_append_right _ (List.mem_of_getElem? (i := 1075) (by decide +kernel)), List.mem_append_right _ (List.mem_of_getElem? (i := 8) (by decide +kernel)), by decide⟩
theorem lk_12_60 : mLV 12 60 mX6_volume := ⟨List.mem_append_right _ (List.mem_of_getElem? (i := 550) (by decide +kernel)), List.mem_append_right _ (List.mem_of_getElem? (i := 551) (by decide +kernel)), List.mem_append_right _ (List.mem_of_getElem? (i := 552) (by decide +kernel)), List.mem_append_right _ (List.mem_of_getElem? (i := 1) (by decide +kernel)), by decide⟩
theorem lk_12_64 : mLV 12 64 mX7_volume := ⟨List.mem_append_right _ (List.mem_of_getElem? (i := 1081) (by decide +kernel)), List.mem_append_right _ (List.mem_of_getElem? (i := 1082) (by decide +kernel)), List.mem_append_right _ (List.mem_of_getElem? (i := 1083) (by decide +kernel)), List.mem_append_right _ (List.mem_of_getElem? (i := 8) (by decide +kernel)), by decide⟩
theorem lk_12_65 : mLV 12 65 mX6_middle := ⟨List.mem_append_right _ (List.mem_of_getElem? (i := 564) (by decide +kernel)), List.mem_append_right _ (List.mem_of_getElem? (i := 565) (by decide +kernel)), List.mem_append_right _ (List.mem_of_getElem? (i := 566) (by decide +kernel)), List.mem_append_right _ (List.mem_of_getElem? (i := 1) (by decide +kernel)), by decide⟩
theorem lk_12_68 : mLV 12 68 mX7_middle := ⟨List.mem_append_right _ (List.mem_of_getElem? (i := 1089) (by decide +kernel)), List.mem_append_right _ (List.mem_of_getElem? (i := 1090) (by decide +kernel)), List.mem_append_right _ (List.mem_of_getElem? (i := 1091) (by decide +kernel)), List.mem_append_right _ (List.mem_of_getElem? (i := 8) (by decide +kernel)), by decide⟩
theorem lk_12_69 : mLV 12 69 mX6_far := ⟨List.mem_append_right _ (List.mem_of_getElem? (i := 588) (by decide +kernel)), List.mem_append_right _ (List.mem_of_getElem? (i := 589) (by decide +kernel)), List.mem_append_right _ (List.mem_of_getElem? (i := 590) (by decide +kernel)), List.mem_append_right _ (List.mem_of_getElem? (i := 1) (by decide +kernel)), by decide⟩
theorem lk_12_72 : mLV 12 72 mX7_far := ⟨List.mem_append_right _ (List.mem_of_getElem? (i := 1094) (by decide +kernel)), List.mem_append_right _ (List.mem_of_getElem? (i := 1095) (by decide +kernel)), List.mem_append_right _ (List.mem_of_getElem? (i := 1096) (by decide +kernel)), List.mem_append_right _ (List.mem_of_getElem? (i := 8) (by decide +kernel)), by decide⟩
theorem lk_12_73 : mLV 12 73 mX6_width := ⟨List.mem_append_right _ (List.mem_of_getElem? (i := 596) (by decide +kernel)), List.mem_append_right _ (List.mem_of_getElem? (i := 597) (by decide +kernel)), List.mem_append_right _ (List.mem_of_getElem? (i := 598) (by decide +kernel)), List.mem_append_right _ (List.mem_of_getElem? (i := 1) (by decide +kernel)), by decide⟩
theorem lk_12_77 : mLV 12 77 mX7_width := ⟨List.mem_append_right _ (List.mem_of_getElem? (i := 1098) (by decide +kernel)), List.mem_append_right _ (List.mem_of_getElem? (i := 1099) (by decide +kernel)), List.mem_append_right _ (List.mem_of_getElem? (i := 1100) (by decide +kernel)), List.mem_append_right _ (List.mem_of_getElem? (i := 8) (by decide +kernel)), by decide⟩
theorem lk_12_78 : mLV 12 78 mX6_sum := ⟨List.mem_append_right _ (List.mem_of_getElem? (i := 624) (by decide +kernel)), List.mem_append_right _ (List.mem_of_getElem? (i := 625) (by decide +kernel)), List.mem_append_right _ (List.mem_of_getElem? (i := 626) (by decide +kernel)), List.mem_append_right _ (List.mem_of_getElem? (i := 1) (by decide +kernel)), by decide⟩
theorem lk_12_81 : mLV 12 81 mX7_sum := ⟨List.mem_append_right _ (List.mem_of_getElem? (i := 1121) (by decide +kernel)), List.mem_append_right _ (List.mem_of_getElem? (i := 1122) (by decide +kernel)), List.mem_append_right _ (List.mem_of_getElem? (i := 1123) (by decide +kernel)), List.mem_append_right _ (List.mem_of_getElem? (i := 8) (by decide +kernel)), by decide⟩
theorem lk_12_82 : mLV 12 82 mX6_apart := ⟨List.mem_append_right _ (List.mem_of_getElem? (i := 628) (by decide +kernel)), List.mem_append_right _ (List.mem_of_getElem? (i := 629) (by decide +kernel)), List.mem_append_right _ (List.mem_of_getElem? (i := 630) (by decide +kernel)), List.mem_append_right _ (List.mem_of_getElem? (i := 1) (by decide +kernel)), by decide⟩
theorem lk_12_85 : mLV 12 85 mX7_apart := ⟨List.mem_append_right _ (List.mem_of_getElem? (i := 1149) (by decide +kernel)), List.mem_append_right _ (List.mem_of_getElem? (i := 1150) (by decide +kernel)), List.mem_append_right _ (List.mem_of_getElem? (i := 1151) (by decide +kernel)), List.mem_append_right _ (List.mem_of_getElem? (i := 8) (by decide +kernel)), by decide⟩
theorem lk_12_86 : mLV 12 86 mX6_near := ⟨List.mem_append_right _ (List.mem_of_getElem? (i := 686) (by decide +kernel)), List.mem_append_right _ (List.mem_of_getElem? (i := 687) (by decide +kernel)), List.mem_append_right _ (List.mem_of_getElem? (i := 688) (by decide +kernel)), List.mem_append_right _ (List.mem_of_getElem? (i := 1) (by decide +kernel)), by decide⟩
theorem lk_12_89 : mLV 12 89 mX7_near := ⟨List.mem_append_right _ (List.mem_of_getElem? (i := 1185) (by decide +kernel)), List.mem_append_right _ (List.mem_of_getElem? (i := 1186) (by decide +kernel)), List.mem_append_right _ (List.mem_of_getElem? (i := 1187) (by decide +kernel)), List.mem_append_right _ (List.mem_of_getElem? (i := 8) (by decide +kernel)), by decide⟩
theorem lk_12_90 : mLV 12 90 mX6_same := ⟨List.mem_append_right _ (List.mem_of_getElem? (i := 690) (by decide +kernel)), List.mem_append_right _ (List.mem_of_getElem? (i := 691) (by decide +kernel)), List.mem_append_right _ (List.mem_of_getElem? (i := 692) (by decide +kernel)), List.mem_append_right _ (List.mem_of_getElem? (i := 1) (by decide +kernel)), by decide⟩
theorem lk_12_93 : mLV 12 93 mX7_same := ⟨List.mem_append_right _ (List.mem_of_getElem? (i := 1189) (by decide +kernel)), List.mem_append_right _ (List.mem_of_getElem? (i := 1190) (by decide +kernel)), List.mem_append_right _ (List.mem_of_getElem? (i := 1191) (by decide +kernel)), List.mem_append_right _ (List.mem_of_getElem? (i := 8) (by decide +kernel)), by decide⟩
theorem lk_12_94 : mLV 12 94 mX6_move := ⟨List.mem_append_right _ (List.mem_of_getElem? (i := 698) (by decide +kernel)), List.mem_append_right _ (List.mem_of_getElem? (i := 699) (by decide +kernel)), List.mem_append_right _ (List.mem_of_getElem? (i := 700) (by decide +kernel)), List.mem_append_right _ (List.mem_of_getElem? (i := 1) (by decide +kernel)), by decide⟩
theorem lk_12_98 : mLV 12 98 mX7_move := ⟨List.mem_append_right _ (List.mem_of_getElem? (i := 1193) (by decide +kernel)), List.mem_append_right _ (List.mem_of_getElem? (i := 1194) (by decide +kernel)), List.mem_append_right _ (List.mem_of_getElem? (i := 1195) (by decide +kernel)), List.mem_append_right _ (List.mem_of_getElem? (i := 8) (by decide +kernel)), by decide⟩
theorem lk_12_99 : mLV 12 99 mX6_mirror := ⟨List.mem_append_right _ (List.mem_of_getElem? (i := 702) (by decide +kernel)), List.mem_append_right _ (List.mem_of_getElem? (i := 703) (by decide +kernel)), List.mem_append_right _ (List.mem_of_getElem? (i := 704) (by decide +kernel)), List.mem_append_right _ (List.mem_of_getElem? (i := 1) (by decide +kernel)), by decide⟩
theorem lk_12_102 : mLV 12 102 mX7_mirror := ⟨List.mem_append_right _ (List.mem_of_getElem? (i := 1197) (by decide +kernel)), List.mem_append_right _ (List.mem_of_getElem? (i := 1198) (by decide +kernel)), List.mem_append_right _ (List.mem_of_getElem? (i := 1199) (by decide +kernel)), List.mem_append_right _ (List.mem_of_getElem? (i := 8) (by decide +kernel)), by decide⟩
theorem lk_12_103 : mLV 12 103 mX6_turn := ⟨List.mem_append_right _ (List.mem_of_getElem? (i := 706) (by decide +kernel)), List.mem_append_right _ (List.mem_of_getElem? (i := 707) (by decide +kernel)), List.mem_append_right _ (List.mem_of_getElem? (i := 708) (by decide +kernel)), List.mem_append_right _ (List.mem_of_getElem? (i := 1) (by decide +kernel)), by decide⟩
theorem lk_12_106 : mLV 12 106 mX7_turn := ⟨List.mem_append_right _ (List.mem_of_getElem? (i := 1205) (by decide +kernel)), List.mem_append_right _ (List.mem_of_getElem? (i := 1206) (by decide +kernel)), List.mem_append_right _ (List.mem_of_getElem? (i := 1207) (by decide +kernel)), List.mem_append_right _ (List.mem_of_getElem? (i := 8) (by decide +kernel)), by decide⟩
theorem lk_12_107 : mLV 12 107 mX6_copy := ⟨List.mem_append_right _ (List.mem_of_getElem? (i := 710) (by decide +kernel)), List.mem_append_right _ (List.mem_of_getElem? (i := 711) (by decide +kernel)), List.mem_append_right _ (List.mem_of_getElem? (i := 712) (by decide +kernel)), List.mem_append_right _ (List.mem_of_getElem? (i := 1) (by decide +kernel)), by decide⟩
theorem lk_12_110 : mLV 12 110 mX7_copy := ⟨List.mem_append_right _ (List.mem_of_getElem? (i := 1209) (by decide +kernel)), List.mem_append_right _ (List.mem_of_getElem? (i := 1210) (by decide +kernel)), List.mem_append_right _ (List.mem_of_getElem? (i := 1211) (by decide +kernel)), List.mem_append_right _ (List.mem_of_getElem? (i := 8) (by decide +kernel)), by decide⟩
theorem lk_12_111 : mLV 12 111 mX6_undo := ⟨List.mem_append_right _ (List.mem_of_getElem? (i := 714) (by decide +kernel)), List.mem_append_right _ (List.mem_of_getElem? (i := 715) (by decide +kernel)), List.mem_append_right _ (List.mem_of_getElem? (i := 716) (by decide +kernel)), List.mem_append_right _ (List.mem_of_getElem? (i := 1) (by decide +kernel)), by decide⟩
theorem lk_12_115 : mLV 12 115 mX7_undo := ⟨List.mem_append_right _ (List.mem_of_getElem? (i := 919) (by decide +kernel)), List.mem_append_right _ (List.mem_of_getElem? (i := 920) (by decide +kernel)), List.mem_append_right _ (List.mem_of_getElem? (i := 921) (by decide +kernel)), List.mem_append_right _ (List.mem_of_getElem? (i := 8) (by decide +kernel)), by decide⟩
end
