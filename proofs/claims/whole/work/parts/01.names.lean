-- ===== PART A: goes FIRST, ahead of the names: the tables' words, and 'selects' of the private methods out of them =====
/-- a private method of a class that the tables say can be made, by its rows of tables_1 -/
def lw_okq (q : MethodName × Nat) : Prop := (q.1.cls ≠ "java/lang/invoke/MethodHandle" ∧ q.1.cls ≠ "java/lang/invoke/VarHandle") ∧ Cond.instantiable q.1.cls q.2 ∈ tables_1 ∧ Cond.privateMethod q.1 ∈ tables_1 ∧ Cond.instanceMethod q.1 ∈ tables_1
theorem lw_p0 : lw_okq (⟨"RootedTrees$Graph", "putInOrder", "(I)V"⟩, 8) := ⟨⟨by decide +kernel, by decide +kernel⟩, List.mem_of_getElem? (i := 24) (by decide +kernel), List.mem_of_getElem? (i := 273) (by decide +kernel), List.mem_of_getElem? (i := 274) (by decide +kernel)⟩
theorem lw_p1 : lw_okq (⟨"RootedTrees$Graph", "isAhead", "(II)Z"⟩, 8) := ⟨⟨by decide +kernel, by decide +kernel⟩, List.mem_of_getElem? (i := 24) (by decide +kernel), List.mem_of_getElem? (i := 277) (by decide +kernel), List.mem_of_getElem? (i := 278) (by decide +kernel)⟩
theorem lw_p2 : lw_okq (⟨"RootedTrees$Graph", "takeOutOfOrder", "(I)V"⟩, 8) := ⟨⟨by decide +kernel, by decide +kernel⟩, List.mem_of_getElem? (i := 24) (by decide +kernel), List.mem_of_getElem? (i := 296) (by decide +kernel), List.mem_of_getElem? (i := 297) (by decide +kernel)⟩
theorem lw_p3 : lw_okq (⟨"RootedTrees$Forests", "weightAt", "(I)I"⟩, 7) := ⟨⟨by decide +kernel, by decide +kernel⟩, List.mem_of_getElem? (i := 84) (by decide +kernel), List.mem_of_getElem? (i := 364) (by decide +kernel), List.mem_of_getElem? (i := 365) (by decide +kernel)⟩
theorem lw_p4 : lw_okq (⟨"RootedTrees$Forests", "choicesAmong", "(II)J"⟩, 7) := ⟨⟨by decide +kernel, by decide +kernel⟩, List.mem_of_getElem? (i := 84) (by decide +kernel), List.mem_of_getElem? (i := 368) (by decide +kernel), List.mem_of_getElem? (i := 369) (by decide +kernel)⟩
theorem lw_p5 : lw_okq (⟨"RootedTrees$TreeCount", "determinant", "(I)J"⟩, 4) := ⟨⟨by decide +kernel, by decide +kernel⟩, List.mem_of_getElem? (i := 109) (by decide +kernel), List.mem_of_getElem? (i := 390) (by decide +kernel), List.mem_of_getElem? (i := 391) (by decide +kernel)⟩
theorem lw_p6 : lw_okq (⟨"RootedTrees$Forests", "findHeaviest", "(J)V"⟩, 7) := ⟨⟨by decide +kernel, by decide +kernel⟩, List.mem_of_getElem? (i := 84) (by decide +kernel), List.mem_of_getElem? (i := 402) (by decide +kernel), List.mem_of_getElem? (i := 403) (by decide +kernel)⟩
theorem lw_p7 : lw_okq (⟨"RootedTrees$Forests", "hangBy", "(J)Z"⟩, 7) := ⟨⟨by decide +kernel, by decide +kernel⟩, List.mem_of_getElem? (i := 84) (by decide +kernel), List.mem_of_getElem? (i := 411) (by decide +kernel), List.mem_of_getElem? (i := 412) (by decide +kernel)⟩
theorem lw_p8 : lw_okq (⟨"RootedTrees$Forests", "offer", "(IJ)V"⟩, 7) := ⟨⟨by decide +kernel, by decide +kernel⟩, List.mem_of_getElem? (i := 84) (by decide +kernel), List.mem_of_getElem? (i := 415) (by decide +kernel), List.mem_of_getElem? (i := 416) (by decide +kernel)⟩
theorem lw_p9 : lw_okq (⟨"RootedTrees", "boundedCost", "(I)J"⟩, 5) := ⟨⟨by decide +kernel, by decide +kernel⟩, List.mem_of_getElem? (i := 16) (by decide +kernel), List.mem_of_getElem? (i := 449) (by decide +kernel), List.mem_of_getElem? (i := 450) (by decide +kernel)⟩
theorem lw_p10 : lw_okq (⟨"RootedTrees$BoundedTrees", "findBetween", "()V"⟩, 6) := ⟨⟨by decide +kernel, by decide +kernel⟩, List.mem_of_getElem? (i := 156) (by decide +kernel), List.mem_of_getElem? (i := 461) (by decide +kernel), List.mem_of_getElem? (i := 462) (by decide +kernel)⟩
theorem lw_p11 : lw_okq (⟨"RootedTrees$BoundedTrees", "startEmpty", "()V"⟩, 6) := ⟨⟨by decide +kernel, by decide +kernel⟩, List.mem_of_getElem? (i := 156) (by decide +kernel), List.mem_of_getElem? (i := 472) (by decide +kernel), List.mem_of_getElem? (i := 473) (by decide +kernel)⟩
theorem lw_p12 : lw_okq (⟨"RootedTrees$BoundedTrees", "findOneBranch", "(I)V"⟩, 6) := ⟨⟨by decide +kernel, by decide +kernel⟩, List.mem_of_getElem? (i := 156) (by decide +kernel), List.mem_of_getElem? (i := 479) (by decide +kernel), List.mem_of_getElem? (i := 480) (by decide +kernel)⟩
theorem lw_p13 : lw_okq (⟨"RootedTrees$BoundedTrees", "findBranches", "(I)V"⟩, 6) := ⟨⟨by decide +kernel, by decide +kernel⟩, List.mem_of_getElem? (i := 156) (by decide +kernel), List.mem_of_getElem? (i := 486) (by decide +kernel), List.mem_of_getElem? (i := 487) (by decide +kernel)⟩
theorem lw_p14 : lw_okq (⟨"RootedTrees$BoundedTrees", "splitOffOne", "(II)V"⟩, 6) := ⟨⟨by decide +kernel, by decide +kernel⟩, List.mem_of_getElem? (i := 156) (by decide +kernel), List.mem_of_getElem? (i := 490) (by decide +kernel), List.mem_of_getElem? (i := 491) (by decide +kernel)⟩
theorem lw_p15 : lw_okq (⟨"RootedTrees$TreesFromRoot", "takeArcs", "(I)V"⟩, 10) := ⟨⟨by decide +kernel, by decide +kernel⟩, List.mem_of_getElem? (i := 182) (by decide +kernel), List.mem_of_getElem? (i := 518) (by decide +kernel), List.mem_of_getElem? (i := 519) (by decide +kernel)⟩
def lw_privs_1 : List (MethodName × Nat) := [(⟨"RootedTrees$Graph", "putInOrder", "(I)V"⟩, 8), (⟨"RootedTrees$Graph", "isAhead", "(II)Z"⟩, 8), (⟨"RootedTrees$Graph", "takeOutOfOrder", "(I)V"⟩, 8), (⟨"RootedTrees$Forests", "weightAt", "(I)I"⟩, 7), (⟨"RootedTrees$Forests", "choicesAmong", "(II)J"⟩, 7), (⟨"RootedTrees$TreeCount", "determinant", "(I)J"⟩, 4), (⟨"RootedTrees$Forests", "findHeaviest", "(J)V"⟩, 7), (⟨"RootedTrees$Forests", "hangBy", "(J)Z"⟩, 7), (⟨"RootedTrees$Forests", "offer", "(IJ)V"⟩, 7), (⟨"RootedTrees", "boundedCost", "(I)J"⟩, 5), (⟨"RootedTrees$BoundedTrees", "findBetween", "()V"⟩, 6), (⟨"RootedTrees$BoundedTrees", "startEmpty", "()V"⟩, 6), (⟨"RootedTrees$BoundedTrees", "findOneBranch", "(I)V"⟩, 6), (⟨"RootedTrees$BoundedTrees", "findBranches", "(I)V"⟩, 6), (⟨"RootedTrees$BoundedTrees", "splitOffOne", "(II)V"⟩, 6), (⟨"RootedTrees$TreesFromRoot", "takeArcs", "(I)V"⟩, 10)]
theorem lw_r1 : ∀ q ∈ lw_privs_1, lw_okq q := List.forall_mem_cons.mpr ⟨lw_p0, List.forall_mem_cons.mpr ⟨lw_p1, List.forall_mem_cons.mpr ⟨lw_p2, List.forall_mem_cons.mpr ⟨lw_p3, List.forall_mem_cons.mpr ⟨lw_p4, List.forall_mem_cons.mpr ⟨lw_p5, List.forall_mem_cons.mpr ⟨lw_p6, List.forall_mem_cons.mpr ⟨lw_p7, List.forall_mem_cons.mpr ⟨lw_p8, List.forall_mem_cons.mpr ⟨lw_p9, List.forall_mem_cons.mpr ⟨lw_p10, List.forall_mem_cons.mpr ⟨lw_p11, List.forall_mem_cons.mpr ⟨lw_p12, List.forall_mem_cons.mpr ⟨lw_p13, List.forall_mem_cons.mpr ⟨lw_p14, List.forall_mem_cons.mpr ⟨lw_p15, fun _ h => absurd h List.not_mem_nil⟩⟩⟩⟩⟩⟩⟩⟩⟩⟩⟩⟩⟩⟩⟩⟩
theorem lw_p16 : lw_okq (⟨"RootedTrees$TreesFromRoot", "chooseArcs", "()Z"⟩, 10) := ⟨⟨by decide +kernel, by decide +kernel⟩, List.mem_of_getElem? (i := 182) (by decide +kernel), List.mem_of_getElem? (i := 525) (by decide +kernel), List.mem_of_getElem? (i := 526) (by decide +kernel)⟩
theorem lw_p17 : lw_okq (⟨"RootedTrees$TreesFromRoot", "findRings", "()I"⟩, 10) := ⟨⟨by decide +kernel, by decide +kernel⟩, List.mem_of_getElem? (i := 182) (by decide +kernel), List.mem_of_getElem? (i := 531) (by decide +kernel), List.mem_of_getElem? (i := 532) (by decide +kernel)⟩
theorem lw_p18 : lw_okq (⟨"RootedTrees$TreesFromRoot", "isLoose", "(I)Z"⟩, 10) := ⟨⟨by decide +kernel, by decide +kernel⟩, List.mem_of_getElem? (i := 182) (by decide +kernel), List.mem_of_getElem? (i := 536) (by decide +kernel), List.mem_of_getElem? (i := 537) (by decide +kernel)⟩
theorem lw_p19 : lw_okq (⟨"RootedTrees$TreesFromRoot", "markRing", "(II)V"⟩, 10) := ⟨⟨by decide +kernel, by decide +kernel⟩, List.mem_of_getElem? (i := 182) (by decide +kernel), List.mem_of_getElem? (i := 540) (by decide +kernel), List.mem_of_getElem? (i := 541) (by decide +kernel)⟩
theorem lw_p20 : lw_okq (⟨"RootedTrees$TreesFromRoot", "contract", "(I)V"⟩, 10) := ⟨⟨by decide +kernel, by decide +kernel⟩, List.mem_of_getElem? (i := 182) (by decide +kernel), List.mem_of_getElem? (i := 544) (by decide +kernel), List.mem_of_getElem? (i := 545) (by decide +kernel)⟩
theorem lw_p21 : lw_okq (⟨"RootedTrees", "joinedCost", "(I)J"⟩, 5) := ⟨⟨by decide +kernel, by decide +kernel⟩, List.mem_of_getElem? (i := 16) (by decide +kernel), List.mem_of_getElem? (i := 574) (by decide +kernel), List.mem_of_getElem? (i := 575) (by decide +kernel)⟩
theorem lw_p22 : lw_okq (⟨"RootedTrees$JoiningTrees", "treeCost", "(IJ)J"⟩, 2) := ⟨⟨by decide +kernel, by decide +kernel⟩, List.mem_of_getElem? (i := 219) (by decide +kernel), List.mem_of_getElem? (i := 585) (by decide +kernel), List.mem_of_getElem? (i := 586) (by decide +kernel)⟩
theorem lw_p23 : lw_okq (⟨"RootedTreesModel", "isNode", "(I)Z"⟩, 22) := ⟨⟨by decide +kernel, by decide +kernel⟩, List.mem_of_getElem? (i := 603) (by decide +kernel), List.mem_of_getElem? (i := 685) (by decide +kernel), List.mem_of_getElem? (i := 686) (by decide +kernel)⟩
theorem lw_p24 : lw_okq (⟨"RootedTreesModel", "isArc", "(I)Z"⟩, 22) := ⟨⟨by decide +kernel, by decide +kernel⟩, List.mem_of_getElem? (i := 603) (by decide +kernel), List.mem_of_getElem? (i := 693) (by decide +kernel), List.mem_of_getElem? (i := 694) (by decide +kernel)⟩
theorem lw_p25 : lw_okq (⟨"RootedTreesModel", "joinAll", "()V"⟩, 22) := ⟨⟨by decide +kernel, by decide +kernel⟩, List.mem_of_getElem? (i := 603) (by decide +kernel), List.mem_of_getElem? (i := 709) (by decide +kernel), List.mem_of_getElem? (i := 710) (by decide +kernel)⟩
theorem lw_p26 : lw_okq (⟨"RootedTreesModel", "alone", "()V"⟩, 22) := ⟨⟨by decide +kernel, by decide +kernel⟩, List.mem_of_getElem? (i := 603) (by decide +kernel), List.mem_of_getElem? (i := 713) (by decide +kernel), List.mem_of_getElem? (i := 714) (by decide +kernel)⟩
theorem lw_p27 : lw_okq (⟨"RootedTreesModel", "join", "(I)Z"⟩, 22) := ⟨⟨by decide +kernel, by decide +kernel⟩, List.mem_of_getElem? (i := 603) (by decide +kernel), List.mem_of_getElem? (i := 717) (by decide +kernel), List.mem_of_getElem? (i := 718) (by decide +kernel)⟩
theorem lw_p28 : lw_okq (⟨"RootedTreesModel", "partCount", "()I"⟩, 22) := ⟨⟨by decide +kernel, by decide +kernel⟩, List.mem_of_getElem? (i := 603) (by decide +kernel), List.mem_of_getElem? (i := 721) (by decide +kernel), List.mem_of_getElem? (i := 722) (by decide +kernel)⟩
theorem lw_p29 : lw_okq (⟨"RootedTreesModel", "leastOf", "()J"⟩, 22) := ⟨⟨by decide +kernel, by decide +kernel⟩, List.mem_of_getElem? (i := 603) (by decide +kernel), List.mem_of_getElem? (i := 729) (by decide +kernel), List.mem_of_getElem? (i := 730) (by decide +kernel)⟩
theorem lw_p30 : lw_okq (⟨"RootedTreesModel", "behind", "(I)I"⟩, 22) := ⟨⟨by decide +kernel, by decide +kernel⟩, List.mem_of_getElem? (i := 603) (by decide +kernel), List.mem_of_getElem? (i := 733) (by decide +kernel), List.mem_of_getElem? (i := 734) (by decide +kernel)⟩
theorem lw_p31 : lw_okq (⟨"RootedTreesModel", "weightOf", "(J)I"⟩, 22) := ⟨⟨by decide +kernel, by decide +kernel⟩, List.mem_of_getElem? (i := 603) (by decide +kernel), List.mem_of_getElem? (i := 737) (by decide +kernel), List.mem_of_getElem? (i := 738) (by decide +kernel)⟩
def lw_privs_2 : List (MethodName × Nat) := [(⟨"RootedTrees$TreesFromRoot", "chooseArcs", "()Z"⟩, 10), (⟨"RootedTrees$TreesFromRoot", "findRings", "()I"⟩, 10), (⟨"RootedTrees$TreesFromRoot", "isLoose", "(I)Z"⟩, 10), (⟨"RootedTrees$TreesFromRoot", "markRing", "(II)V"⟩, 10), (⟨"RootedTrees$TreesFromRoot", "contract", "(I)V"⟩, 10), (⟨"RootedTrees", "joinedCost", "(I)J"⟩, 5), (⟨"RootedTrees$JoiningTrees", "treeCost", "(IJ)J"⟩, 2), (⟨"RootedTreesModel", "isNode", "(I)Z"⟩, 22), (⟨"RootedTreesModel", "isArc", "(I)Z"⟩, 22), (⟨"RootedTreesModel", "joinAll", "()V"⟩, 22), (⟨"RootedTreesModel", "alone", "()V"⟩, 22), (⟨"RootedTreesModel", "join", "(I)Z"⟩, 22), (⟨"RootedTreesModel", "partCount", "()I"⟩, 22), (⟨"RootedTreesModel", "leastOf", "()J"⟩, 22), (⟨"RootedTreesModel", "behind", "(I)I"⟩, 22), (⟨"RootedTreesModel", "weightOf", "(J)I"⟩, 22)]
theorem lw_r2 : ∀ q ∈ lw_privs_2, lw_okq q := List.forall_mem_cons.mpr ⟨lw_p16, List.forall_mem_cons.mpr ⟨lw_p17, List.forall_mem_cons.mpr ⟨lw_p18, List.forall_mem_cons.mpr ⟨lw_p19, List.forall_mem_cons.mpr ⟨lw_p20, List.forall_mem_cons.mpr ⟨lw_p21, List.forall_mem_cons.mpr ⟨lw_p22, List.forall_mem_cons.mpr ⟨lw_p23, List.forall_mem_cons.mpr ⟨lw_p24, List.forall_mem_cons.mpr ⟨lw_p25, List.forall_mem_cons.mpr ⟨lw_p26, List.forall_mem_cons.mpr ⟨lw_p27, List.forall_mem_cons.mpr ⟨lw_p28, List.forall_mem_cons.mpr ⟨lw_p29, List.forall_mem_cons.mpr ⟨lw_p30, List.forall_mem_cons.mpr ⟨lw_p31, fun _ h => absurd h List.not_mem_nil⟩⟩⟩⟩⟩⟩⟩⟩⟩⟩⟩⟩⟩⟩⟩⟩
theorem lw_p32 : lw_okq (⟨"RootedTreesModel", "tiesOf", "(I)J"⟩, 22) := ⟨⟨by decide +kernel, by decide +kernel⟩, List.mem_of_getElem? (i := 603) (by decide +kernel), List.mem_of_getElem? (i := 749) (by decide +kernel), List.mem_of_getElem? (i := 750) (by decide +kernel)⟩
theorem lw_p33 : lw_okq (⟨"RootedTreesModel", "determinant", "(I)J"⟩, 22) := ⟨⟨by decide +kernel, by decide +kernel⟩, List.mem_of_getElem? (i := 603) (by decide +kernel), List.mem_of_getElem? (i := 753) (by decide +kernel), List.mem_of_getElem? (i := 754) (by decide +kernel)⟩
theorem lw_p34 : lw_okq (⟨"RootedTreesModel", "nextOf", "()I"⟩, 22) := ⟨⟨by decide +kernel, by decide +kernel⟩, List.mem_of_getElem? (i := 603) (by decide +kernel), List.mem_of_getElem? (i := 761) (by decide +kernel), List.mem_of_getElem? (i := 762) (by decide +kernel)⟩
theorem lw_p35 : lw_okq (⟨"RootedTreesModel", "hangs", "(JII)Z"⟩, 22) := ⟨⟨by decide +kernel, by decide +kernel⟩, List.mem_of_getElem? (i := 603) (by decide +kernel), List.mem_of_getElem? (i := 766) (by decide +kernel), List.mem_of_getElem? (i := 767) (by decide +kernel)⟩
theorem lw_p36 : lw_okq (⟨"RootedTreesModel", "findBounded", "(I)I"⟩, 22) := ⟨⟨by decide +kernel, by decide +kernel⟩, List.mem_of_getElem? (i := 603) (by decide +kernel), List.mem_of_getElem? (i := 786) (by decide +kernel), List.mem_of_getElem? (i := 787) (by decide +kernel)⟩
theorem lw_p37 : lw_okq (⟨"RootedTreesModel", "judged", "(II)I"⟩, 22) := ⟨⟨by decide +kernel, by decide +kernel⟩, List.mem_of_getElem? (i := 603) (by decide +kernel), List.mem_of_getElem? (i := 791) (by decide +kernel), List.mem_of_getElem? (i := 792) (by decide +kernel)⟩
theorem lw_p38 : lw_okq (⟨"RootedTreesModel", "findRooted", "(I)I"⟩, 22) := ⟨⟨by decide +kernel, by decide +kernel⟩, List.mem_of_getElem? (i := 603) (by decide +kernel), List.mem_of_getElem? (i := 803) (by decide +kernel), List.mem_of_getElem? (i := 804) (by decide +kernel)⟩
theorem lw_p39 : lw_okq (⟨"RootedTreesModel", "rootedCost", "(I)I"⟩, 22) := ⟨⟨by decide +kernel, by decide +kernel⟩, List.mem_of_getElem? (i := 603) (by decide +kernel), List.mem_of_getElem? (i := 807) (by decide +kernel), List.mem_of_getElem? (i := 808) (by decide +kernel)⟩
theorem lw_p40 : lw_okq (⟨"RootedTreesModel", "unreachedOf", "(I)I"⟩, 22) := ⟨⟨by decide +kernel, by decide +kernel⟩, List.mem_of_getElem? (i := 603) (by decide +kernel), List.mem_of_getElem? (i := 819) (by decide +kernel), List.mem_of_getElem? (i := 820) (by decide +kernel)⟩
theorem lw_p41 : lw_okq (⟨"RootedTreesModel", "findJoined", "(I)I"⟩, 22) := ⟨⟨by decide +kernel, by decide +kernel⟩, List.mem_of_getElem? (i := 603) (by decide +kernel), List.mem_of_getElem? (i := 827) (by decide +kernel), List.mem_of_getElem? (i := 828) (by decide +kernel)⟩
theorem lw_p42 : lw_okq (⟨"RootedTreesModel", "joinedCost", "(I)I"⟩, 22) := ⟨⟨by decide +kernel, by decide +kernel⟩, List.mem_of_getElem? (i := 603) (by decide +kernel), List.mem_of_getElem? (i := 831) (by decide +kernel), List.mem_of_getElem? (i := 832) (by decide +kernel)⟩
def lw_privs_3 : List (MethodName × Nat) := [(⟨"RootedTreesModel", "tiesOf", "(I)J"⟩, 22), (⟨"RootedTreesModel", "determinant", "(I)J"⟩, 22), (⟨"RootedTreesModel", "nextOf", "()I"⟩, 22), (⟨"RootedTreesModel", "hangs", "(JII)Z"⟩, 22), (⟨"RootedTreesModel", "findBounded", "(I)I"⟩, 22), (⟨"RootedTreesModel", "judged", "(II)I"⟩, 22), (⟨"RootedTreesModel", "findRooted", "(I)I"⟩, 22), (⟨"RootedTreesModel", "rootedCost", "(I)I"⟩, 22), (⟨"RootedTreesModel", "unreachedOf", "(I)I"⟩, 22), (⟨"RootedTreesModel", "findJoined", "(I)I"⟩, 22), (⟨"RootedTreesModel", "joinedCost", "(I)I"⟩, 22)]
theorem lw_r3 : ∀ q ∈ lw_privs_3, lw_okq q := List.forall_mem_cons.mpr ⟨lw_p32, List.forall_mem_cons.mpr ⟨lw_p33, List.forall_mem_cons.mpr ⟨lw_p34, List.forall_mem_cons.mpr ⟨lw_p35, List.forall_mem_cons.mpr ⟨lw_p36, List.forall_mem_cons.mpr ⟨lw_p37, List.forall_mem_cons.mpr ⟨lw_p38, List.forall_mem_cons.mpr ⟨lw_p39, List.forall_mem_cons.mpr ⟨lw_p40, List.forall_mem_cons.mpr ⟨lw_p41, List.forall_mem_cons.mpr ⟨lw_p42, fun _ h => absurd h List.not_mem_nil⟩⟩⟩⟩⟩⟩⟩⟩⟩⟩⟩
def lw_privs : List (MethodName × Nat) := lw_privs_1 ++ (lw_privs_2 ++ (lw_privs_3))
def lw_tbl : List Cond := k2_sels lw_privs ++ tables_1
theorem lw_privs_ok : ∀ q ∈ lw_privs, lw_okq q := by
  show ∀ q ∈ lw_privs_1 ++ (lw_privs_2 ++ (lw_privs_3)), lw_okq q
  exact List.forall_mem_append.mpr ⟨lw_r1, List.forall_mem_append.mpr ⟨lw_r2, lw_r3⟩⟩

def lw_g : List Cond := lw_tbl.filter goodWord
theorem lw_gg : GoodIn lw_g lw_g := fun w h => ⟨h, good_of_word (List.mem_filter.mp h).2⟩
theorem wi_of {w0 : Cond} (h : w0 ∈ lw_g) : ∀ w ∈ w0 :: lw_g, w ∈ lw_g := fun w hw => (List.mem_cons.mp hw).elim (fun e => e ▸ h) id
theorem gi_V {own C : String} {i : Nat} {y : MethodName} {ws : List Cond} (h1 : Cond.methodLink own i y ∈ lw_g) (h2 : Cond.instanceMethod y ∈ lw_g) (h3 : Cond.selects C y y ∈ lw_g) (h4 : Cond.initialized C ∈ lw_g) (h5 : ∀ w ∈ ws, w ∈ lw_g) : GoodIn lw_g (wsV own i C y ws) := fun w hw => lw_gg w (by
  rcases List.mem_append.mp hw with h | h
  · rcases List.mem_cons.mp h with rfl | h
    · exact h1
    rcases List.mem_cons.mp h with rfl | h
    · exact h2
    rcases List.mem_cons.mp h with rfl | h
    · exact h3
    rcases List.mem_cons.mp h with rfl | h
    · exact h4
    exact absurd h List.not_mem_nil
  · exact h5 w h)
theorem gi_S {own : String} {i : Nat} {y : MethodName} {ws : List Cond} (h1 : Cond.methodLink own i y ∈ lw_g) (h2 : Cond.static y ∈ lw_g) (h4 : Cond.initialized y.cls ∈ lw_g) (h5 : ∀ w ∈ ws, w ∈ lw_g) : GoodIn lw_g (va_wsS own i y ws) := fun w hw => lw_gg w (by
  rcases List.mem_append.mp hw with h | h
  · rcases List.mem_cons.mp h with rfl | h
    · exact h1
    rcases List.mem_cons.mp h with rfl | h
    · exact h2
    rcases List.mem_cons.mp h with rfl | h
    · exact h4
    exact absurd h List.not_mem_nil
  · exact h5 w h)
abbrev TYs (cI cJ cG cZ : ClassId) : List (ClassId × FieldType) := [(cI, .int), (cJ, .long), (cG, .array .long), (cZ, .boolean)]
abbrev R_RT : String := "RootedTrees"
abbrev R_Mo : String := "RootedTreesModel"
abbrev R_BoundedTrees : String := "RootedTrees$BoundedTrees"
abbrev R_Cost : String := "RootedTrees$Cost"
abbrev R_Forests : String := "RootedTrees$Forests"
abbrev R_Graph : String := "RootedTrees$Graph"
abbrev R_JoiningTrees : String := "RootedTrees$JoiningTrees"
abbrev R_Labels : String := "RootedTrees$Labels"
abbrev R_TreeCount : String := "RootedTrees$TreeCount"
abbrev R_TreesFromRoot : String := "RootedTrees$TreesFromRoot"
abbrev R_Law : String := "RootedTreesLaw"
abbrev R_Object : String := "java/lang/Object"
abbrev R_Int : String := "java/lang/Integer"
abbrev R_Math : String := "java/lang/Math"
abbrev R_Sys : String := "java/lang/System"
abbrev R_Arr : String := "java/util/Arrays"
def F_BoundedTrees : u_T := fun k => match k with
  | 0 => ("RootedTrees$BoundedTrees", "graph", "LRootedTrees$Graph;", true)
  | 1 => ("RootedTrees$BoundedTrees", "between", "[[J", true)
  | 2 => ("RootedTrees$BoundedTrees", "branch", "[[J", true)
  | 3 => ("RootedTrees$BoundedTrees", "branches", "[[J", true)
  | 4 => ("RootedTrees$BoundedTrees", "nodes", "I", false)
  | _ => ("RootedTrees$BoundedTrees", "bound", "I", false)
def t_BoundedTrees : Nat → FieldType := fun k => match k with
  | 0 => .object "RootedTrees$Graph"
  | 1 => .array (.array (.long))
  | 2 => .array (.array (.long))
  | 3 => .array (.array (.long))
  | 4 => .int
  | _ => .int
theorem n_BoundedTrees : ∀ a, a < 6 → ∀ b, b < 6 → a ≠ b → (F_BoundedTrees a).2.1 ≠ (F_BoundedTrees b).2.1 := by decide +kernel
theorem to_BoundedTrees : ∀ k, k < 6 → parseFieldDescriptor (F_BoundedTrees k).2.2.1 = some (t_BoundedTrees k) := by decide +kernel
def F_Forests : u_T := fun k => match k with
  | 0 => ("RootedTrees$Forests", "graph", "LRootedTrees$Graph;", true)
  | 1 => ("RootedTrees$Forests", "labels", "LRootedTrees$Labels;", true)
  | 2 => ("RootedTrees$Forests", "treeCount", "LRootedTrees$TreeCount;", true)
  | 3 => ("RootedTrees$Forests", "heaviest", "[I", true)
  | 4 => ("RootedTrees$Forests", "nextWeight", "I", false)
  | 5 => ("RootedTrees$Forests", "nextIn", "I", false)
  | _ => ("RootedTrees$Forests", "nextOut", "I", false)
def t_Forests : Nat → FieldType := fun k => match k with
  | 0 => .object "RootedTrees$Graph"
  | 1 => .object "RootedTrees$Labels"
  | 2 => .object "RootedTrees$TreeCount"
  | 3 => .array (.int)
  | 4 => .int
  | 5 => .int
  | _ => .int
theorem n_Forests : ∀ a, a < 7 → ∀ b, b < 7 → a ≠ b → (F_Forests a).2.1 ≠ (F_Forests b).2.1 := by decide +kernel
theorem to_Forests : ∀ k, k < 7 → parseFieldDescriptor (F_Forests k).2.2.1 = some (t_Forests k) := by decide +kernel
def F_Graph : u_T := fun k => match k with
  | 0 => ("RootedTrees$Graph", "from", "[I", true)
  | 1 => ("RootedTrees$Graph", "to", "[I", true)
  | 2 => ("RootedTrees$Graph", "weight", "[I", true)
  | 3 => ("RootedTrees$Graph", "order", "[I", true)
  | 4 => ("RootedTrees$Graph", "nodes", "I", false)
  | 5 => ("RootedTrees$Graph", "numbered", "I", false)
  | 6 => ("RootedTrees$Graph", "size", "I", false)
  | _ => ("RootedTrees$Graph", "present", "J", false)
def t_Graph : Nat → FieldType := fun k => match k with
  | 0 => .array (.int)
  | 1 => .array (.int)
  | 2 => .array (.int)
  | 3 => .array (.int)
  | 4 => .int
  | 5 => .int
  | 6 => .int
  | _ => .long
theorem n_Graph : ∀ a, a < 8 → ∀ b, b < 8 → a ≠ b → (F_Graph a).2.1 ≠ (F_Graph b).2.1 := by decide +kernel
theorem to_Graph : ∀ k, k < 8 → parseFieldDescriptor (F_Graph k).2.2.1 = some (t_Graph k) := by decide +kernel
def F_JoiningTrees : u_T := fun k => match k with
  | 0 => ("RootedTrees$JoiningTrees", "graph", "LRootedTrees$Graph;", true)
  | _ => ("RootedTrees$JoiningTrees", "labels", "LRootedTrees$Labels;", true)
def t_JoiningTrees : Nat → FieldType := fun k => match k with
  | 0 => .object "RootedTrees$Graph"
  | _ => .object "RootedTrees$Labels"
theorem n_JoiningTrees : ∀ a, a < 2 → ∀ b, b < 2 → a ≠ b → (F_JoiningTrees a).2.1 ≠ (F_JoiningTrees b).2.1 := by decide +kernel
theorem to_JoiningTrees : ∀ k, k < 2 → parseFieldDescriptor (F_JoiningTrees k).2.2.1 = some (t_JoiningTrees k) := by decide +kernel
def F_Labels : u_T := fun k => match k with
  | 0 => ("RootedTrees$Labels", "label", "[I", true)
  | 1 => ("RootedTrees$Labels", "nodes", "I", false)
  | _ => ("RootedTrees$Labels", "groups", "I", false)
def t_Labels : Nat → FieldType := fun k => match k with
  | 0 => .array (.int)
  | 1 => .int
  | _ => .int
theorem n_Labels : ∀ a, a < 3 → ∀ b, b < 3 → a ≠ b → (F_Labels a).2.1 ≠ (F_Labels b).2.1 := by decide +kernel
theorem to_Labels : ∀ k, k < 3 → parseFieldDescriptor (F_Labels k).2.2.1 = some (t_Labels k) := by decide +kernel
def F_TreeCount : u_T := fun k => match k with
  | 0 => ("RootedTrees$TreeCount", "groupOf", "[I", true)
  | 1 => ("RootedTrees$TreeCount", "links", "[[J", true)
  | 2 => ("RootedTrees$TreeCount", "rows", "[I", true)
  | _ => ("RootedTrees$TreeCount", "minor", "[[J", true)
def t_TreeCount : Nat → FieldType := fun k => match k with
  | 0 => .array (.int)
  | 1 => .array (.array (.long))
  | 2 => .array (.int)
  | _ => .array (.array (.long))
theorem n_TreeCount : ∀ a, a < 4 → ∀ b, b < 4 → a ≠ b → (F_TreeCount a).2.1 ≠ (F_TreeCount b).2.1 := by decide +kernel
theorem to_TreeCount : ∀ k, k < 4 → parseFieldDescriptor (F_TreeCount k).2.2.1 = some (t_TreeCount k) := by decide +kernel
def F_TreesFromRoot : u_T := fun k => match k with
  | 0 => ("RootedTrees$TreesFromRoot", "graph", "LRootedTrees$Graph;", true)
  | 1 => ("RootedTrees$TreesFromRoot", "tail", "[I", true)
  | 2 => ("RootedTrees$TreesFromRoot", "head", "[I", true)
  | 3 => ("RootedTrees$TreesFromRoot", "cost", "[J", true)
  | 4 => ("RootedTrees$TreesFromRoot", "leastInto", "[J", true)
  | 5 => ("RootedTrees$TreesFromRoot", "before", "[I", true)
  | 6 => ("RootedTrees$TreesFromRoot", "group", "[I", true)
  | 7 => ("RootedTrees$TreesFromRoot", "nodes", "I", false)
  | 8 => ("RootedTrees$TreesFromRoot", "arcs", "I", false)
  | _ => ("RootedTrees$TreesFromRoot", "root", "I", false)
def t_TreesFromRoot : Nat → FieldType := fun k => match k with
  | 0 => .object "RootedTrees$Graph"
  | 1 => .array (.int)
  | 2 => .array (.int)
  | 3 => .array (.long)
  | 4 => .array (.long)
  | 5 => .array (.int)
  | 6 => .array (.int)
  | 7 => .int
  | 8 => .int
  | _ => .int
theorem n_TreesFromRoot : ∀ a, a < 10 → ∀ b, b < 10 → a ≠ b → (F_TreesFromRoot a).2.1 ≠ (F_TreesFromRoot b).2.1 := by decide +kernel
theorem to_TreesFromRoot : ∀ k, k < 10 → parseFieldDescriptor (F_TreesFromRoot k).2.2.1 = some (t_TreesFromRoot k) := by decide +kernel
def F_RT : u_T := fun k => match k with
  | 0 => ("RootedTrees", "graph", "LRootedTrees$Graph;", true)
  | 1 => ("RootedTrees", "forests", "LRootedTrees$Forests;", true)
  | 2 => ("RootedTrees", "boundedTrees", "LRootedTrees$BoundedTrees;", true)
  | 3 => ("RootedTrees", "treesFromRoot", "LRootedTrees$TreesFromRoot;", true)
  | _ => ("RootedTrees", "joiningTrees", "LRootedTrees$JoiningTrees;", true)
def t_RT : Nat → FieldType := fun k => match k with
  | 0 => .object "RootedTrees$Graph"
  | 1 => .object "RootedTrees$Forests"
  | 2 => .object "RootedTrees$BoundedTrees"
  | 3 => .object "RootedTrees$TreesFromRoot"
  | _ => .object "RootedTrees$JoiningTrees"
theorem n_RT : ∀ a, a < 5 → ∀ b, b < 5 → a ≠ b → (F_RT a).2.1 ≠ (F_RT b).2.1 := by decide +kernel
theorem to_RT : ∀ k, k < 5 → parseFieldDescriptor (F_RT k).2.2.1 = some (t_RT k) := by decide +kernel
def F_Mo : u_T := fun k => match k with
  | 0 => ("RootedTreesModel", "nodes", "I", false)
  | 1 => ("RootedTreesModel", "arcs", "I", false)
  | 2 => ("RootedTreesModel", "left", "I", false)
  | 3 => ("RootedTreesModel", "froms", "[I", true)
  | 4 => ("RootedTreesModel", "tos", "[I", true)
  | 5 => ("RootedTreesModel", "weights", "[I", true)
  | 6 => ("RootedTreesModel", "there", "[Z", true)
  | 7 => ("RootedTreesModel", "part", "[I", true)
  | 8 => ("RootedTreesModel", "matrix", "[J", true)
  | 9 => ("RootedTreesModel", "row", "[I", true)
  | 10 => ("RootedTreesModel", "low", "[I", true)
  | 11 => ("RootedTreesModel", "swapIn", "I", false)
  | 12 => ("RootedTreesModel", "swapOut", "I", false)
  | 13 => ("RootedTreesModel", "own", "[I", true)
  | 14 => ("RootedTreesModel", "chosen", "[I", true)
  | 15 => ("RootedTreesModel", "degrees", "[I", true)
  | 16 => ("RootedTreesModel", "boundedSet", "J", false)
  | 17 => ("RootedTreesModel", "fixed", "[I", true)
  | 18 => ("RootedTreesModel", "grown", "[I", true)
  | 19 => ("RootedTreesModel", "costs", "[I", true)
  | 20 => ("RootedTreesModel", "order", "[I", true)
  | _ => ("RootedTreesModel", "joinedSet", "J", false)
def t_Mo : Nat → FieldType := fun k => match k with
  | 0 => .int
  | 1 => .int
  | 2 => .int
  | 3 => .array (.int)
  | 4 => .array (.int)
  | 5 => .array (.int)
  | 6 => .array (.boolean)
  | 7 => .array (.int)
  | 8 => .array (.long)
  | 9 => .array (.int)
  | 10 => .array (.int)
  | 11 => .int
  | 12 => .int
  | 13 => .array (.int)
  | 14 => .array (.int)
  | 15 => .array (.int)
  | 16 => .long
  | 17 => .array (.int)
  | 18 => .array (.int)
  | 19 => .array (.int)
  | 20 => .array (.int)
  | _ => .long
theorem n_Mo : ∀ a, a < 22 → ∀ b, b < 22 → a ≠ b → (F_Mo a).2.1 ≠ (F_Mo b).2.1 := by decide +kernel
theorem to_Mo : ∀ k, k < 22 → parseFieldDescriptor (F_Mo k).2.2.1 = some (t_Mo k) := by decide +kernel
abbrev CL : List vw_C := [(R_BoundedTrees, F_BoundedTrees, 6), (R_Forests, F_Forests, 7), (R_Graph, F_Graph, 8), (R_JoiningTrees, F_JoiningTrees, 2), (R_Labels, F_Labels, 3), (R_TreeCount, F_TreeCount, 4), (R_TreesFromRoot, F_TreesFromRoot, 10), (R_RT, F_RT, 5), (R_Mo, F_Mo, 22)]
theorem m_2_167 : (Cond.code ⟨"java/util/Arrays", "fill", "([II)V"⟩ prog_15_method_103_code 4 (Option.none : Option FieldType)) ∈ lw_g := List.mem_filter.mpr ⟨(List.mem_append_right _ (List.mem_append_right _ (List.mem_append_left _ (List.mem_of_getElem? (i := 167) rfl)))), rfl⟩
theorem m_2_140 : (Cond.code ⟨"java/util/Arrays", "fill", "([JJ)V"⟩ prog_15_method_101_code 5 (Option.none : Option FieldType)) ∈ lw_g := List.mem_filter.mpr ⟨(List.mem_append_right _ (List.mem_append_right _ (List.mem_append_left _ (List.mem_of_getElem? (i := 140) rfl)))), rfl⟩
theorem m_3_111 : (Cond.code ⟨"java/lang/Integer", "bitCount", "(I)I"⟩ prog_12_method_49_code 1 (Option.some .int)) ∈ lw_g := List.mem_filter.mpr ⟨(List.mem_append_right _ (List.mem_append_right _ (List.mem_append_right _ (List.mem_append_left _ (List.mem_of_getElem? (i := 111) rfl))))), rfl⟩
theorem m_3_112 : (Cond.constant "java/lang/Integer" 265 1431655765) ∈ lw_g := List.mem_filter.mpr ⟨(List.mem_append_right _ (List.mem_append_right _ (List.mem_append_right _ (List.mem_append_left _ (List.mem_of_getElem? (i := 112) rfl))))), rfl⟩
theorem m_3_113 : (Cond.constant "java/lang/Integer" 266 858993459) ∈ lw_g := List.mem_filter.mpr ⟨(List.mem_append_right _ (List.mem_append_right _ (List.mem_append_right _ (List.mem_append_left _ (List.mem_of_getElem? (i := 113) rfl))))), rfl⟩
theorem m_3_114 : (Cond.constant "java/lang/Integer" 267 252645135) ∈ lw_g := List.mem_filter.mpr ⟨(List.mem_append_right _ (List.mem_append_right _ (List.mem_append_right _ (List.mem_append_left _ (List.mem_of_getElem? (i := 114) rfl))))), rfl⟩
theorem m_2_91 : (Cond.code ⟨"RootedTrees$Labels", "separate", "(I)V"⟩ prog_7_method_2_code 3 (Option.none : Option FieldType)) ∈ lw_g := List.mem_filter.mpr ⟨(List.mem_append_right _ (List.mem_append_right _ (List.mem_append_left _ (List.mem_of_getElem? (i := 91) rfl)))), rfl⟩
theorem m_1_95 : (Cond.fieldLink "RootedTrees$Labels" 9 "RootedTrees$Labels" "label" "[I") ∈ lw_g := List.mem_filter.mpr ⟨(List.mem_append_right _ (List.mem_append_left _ (List.mem_of_getElem? (i := 95) rfl))), rfl⟩
theorem m_1_97 : (Cond.fieldLink "RootedTrees$Labels" 15 "RootedTrees$Labels" "nodes" "I") ∈ lw_g := List.mem_filter.mpr ⟨(List.mem_append_right _ (List.mem_append_left _ (List.mem_of_getElem? (i := 97) rfl))), rfl⟩
theorem m_1_99 : (Cond.fieldLink "RootedTrees$Labels" 19 "RootedTrees$Labels" "groups" "I") ∈ lw_g := List.mem_filter.mpr ⟨(List.mem_append_right _ (List.mem_append_left _ (List.mem_of_getElem? (i := 99) rfl))), rfl⟩
theorem m_2_181 : (Cond.code ⟨"RootedTrees$Labels", "areApart", "(II)Z"⟩ prog_7_method_3_code 3 (Option.some .boolean)) ∈ lw_g := List.mem_filter.mpr ⟨(List.mem_append_right _ (List.mem_append_right _ (List.mem_append_left _ (List.mem_of_getElem? (i := 181) rfl)))), rfl⟩
theorem m_2_95 : (Cond.code ⟨"RootedTrees$Labels", "unite", "(II)Z"⟩ prog_7_method_4_code 6 (Option.some .boolean)) ∈ lw_g := List.mem_filter.mpr ⟨(List.mem_append_right _ (List.mem_append_right _ (List.mem_append_left _ (List.mem_of_getElem? (i := 95) rfl)))), rfl⟩
theorem m_2_96 : (Cond.methodLink "RootedTrees$Labels" 22 ⟨"java/lang/Math", "min", "(II)I"⟩) ∈ lw_g := List.mem_filter.mpr ⟨(List.mem_append_right _ (List.mem_append_right _ (List.mem_append_left _ (List.mem_of_getElem? (i := 96) rfl)))), rfl⟩
theorem m_2_97 : (Cond.static ⟨"java/lang/Math", "min", "(II)I"⟩) ∈ lw_g := List.mem_filter.mpr ⟨(List.mem_append_right _ (List.mem_append_right _ (List.mem_append_left _ (List.mem_of_getElem? (i := 97) rfl)))), rfl⟩
theorem m_1_10 : (Cond.initialized "java/lang/Math") ∈ lw_g := List.mem_filter.mpr ⟨(List.mem_append_right _ (List.mem_append_left _ (List.mem_of_getElem? (i := 10) rfl))), rfl⟩
theorem m_2_98 : (Cond.code ⟨"java/lang/Math", "min", "(II)I"⟩ prog_13_method_69_code 2 (Option.some .int)) ∈ lw_g := List.mem_filter.mpr ⟨(List.mem_append_right _ (List.mem_append_right _ (List.mem_append_left _ (List.mem_of_getElem? (i := 98) rfl)))), rfl⟩
theorem m_2_99 : (Cond.methodLink "RootedTrees$Labels" 28 ⟨"java/lang/Math", "max", "(II)I"⟩) ∈ lw_g := List.mem_filter.mpr ⟨(List.mem_append_right _ (List.mem_append_right _ (List.mem_append_left _ (List.mem_of_getElem? (i := 99) rfl)))), rfl⟩
theorem m_2_100 : (Cond.static ⟨"java/lang/Math", "max", "(II)I"⟩) ∈ lw_g := List.mem_filter.mpr ⟨(List.mem_append_right _ (List.mem_append_right _ (List.mem_append_left _ (List.mem_of_getElem? (i := 100) rfl)))), rfl⟩
theorem m_2_101 : (Cond.code ⟨"java/lang/Math", "max", "(II)I"⟩ prog_13_method_65_code 2 (Option.some .int)) ∈ lw_g := List.mem_filter.mpr ⟨(List.mem_append_right _ (List.mem_append_right _ (List.mem_append_left _ (List.mem_of_getElem? (i := 101) rfl)))), rfl⟩
theorem m_2_16 : (Cond.code ⟨"RootedTrees$Graph", "addNode", "()I"⟩ prog_5_method_2_code 1 (Option.some .int)) ∈ lw_g := List.mem_filter.mpr ⟨(List.mem_append_right _ (List.mem_append_right _ (List.mem_append_left _ (List.mem_of_getElem? (i := 16) rfl)))), rfl⟩
theorem m_1_49 : (Cond.fieldLink "RootedTrees$Graph" 24 "RootedTrees$Graph" "nodes" "I") ∈ lw_g := List.mem_filter.mpr ⟨(List.mem_append_right _ (List.mem_append_left _ (List.mem_of_getElem? (i := 49) rfl))), rfl⟩
theorem m_2_39 : (Cond.code ⟨"RootedTrees$Graph", "isAhead", "(II)Z"⟩ prog_5_method_12_code 3 (Option.some .boolean)) ∈ lw_g := List.mem_filter.mpr ⟨(List.mem_append_right _ (List.mem_append_right _ (List.mem_append_left _ (List.mem_of_getElem? (i := 39) rfl)))), rfl⟩
theorem m_1_39 : (Cond.fieldLink "RootedTrees$Graph" 18 "RootedTrees$Graph" "weight" "[I") ∈ lw_g := List.mem_filter.mpr ⟨(List.mem_append_right _ (List.mem_append_left _ (List.mem_of_getElem? (i := 39) rfl))), rfl⟩
theorem m_2_35 : (Cond.code ⟨"RootedTrees$Graph", "putInOrder", "(I)V"⟩ prog_5_method_13_code 3 (Option.none : Option FieldType)) ∈ lw_g := List.mem_filter.mpr ⟨(List.mem_append_right _ (List.mem_append_right _ (List.mem_append_left _ (List.mem_of_getElem? (i := 35) rfl)))), rfl⟩
theorem m_1_44 : (Cond.fieldLink "RootedTrees$Graph" 21 "RootedTrees$Graph" "order" "[I") ∈ lw_g := List.mem_filter.mpr ⟨(List.mem_append_right _ (List.mem_append_left _ (List.mem_of_getElem? (i := 44) rfl))), rfl⟩
theorem m_1_60 : (Cond.fieldLink "RootedTrees$Graph" 44 "RootedTrees$Graph" "size" "I") ∈ lw_g := List.mem_filter.mpr ⟨(List.mem_append_right _ (List.mem_append_left _ (List.mem_of_getElem? (i := 60) rfl))), rfl⟩
theorem m_2_36 : (Cond.methodLink "RootedTrees$Graph" 51 ⟨"RootedTrees$Graph", "isAhead", "(II)Z"⟩) ∈ lw_g := List.mem_filter.mpr ⟨(List.mem_append_right _ (List.mem_append_right _ (List.mem_append_left _ (List.mem_of_getElem? (i := 36) rfl)))), rfl⟩
theorem m_2_38 : (Cond.instanceMethod ⟨"RootedTrees$Graph", "isAhead", "(II)Z"⟩) ∈ lw_g := List.mem_filter.mpr ⟨(List.mem_append_right _ (List.mem_append_right _ (List.mem_append_left _ (List.mem_of_getElem? (i := 38) rfl)))), rfl⟩
theorem m_0_1 : (Cond.selects "RootedTrees$Graph" ⟨"RootedTrees$Graph", "isAhead", "(II)Z"⟩ ⟨"RootedTrees$Graph", "isAhead", "(II)Z"⟩) ∈ lw_g := List.mem_filter.mpr ⟨(List.mem_append_left _ (List.mem_of_getElem? (i := 1) rfl)), rfl⟩
theorem m_1_2 : (Cond.initialized "RootedTrees$Graph") ∈ lw_g := List.mem_filter.mpr ⟨(List.mem_append_right _ (List.mem_append_left _ (List.mem_of_getElem? (i := 2) rfl))), rfl⟩
theorem m_2_31 : (Cond.code ⟨"RootedTrees$Graph", "addArc", "(III)I"⟩ prog_5_method_3_code 5 (Option.some .int)) ∈ lw_g := List.mem_filter.mpr ⟨(List.mem_append_right _ (List.mem_append_right _ (List.mem_append_left _ (List.mem_of_getElem? (i := 31) rfl)))), rfl⟩
theorem m_1_55 : (Cond.fieldLink "RootedTrees$Graph" 28 "RootedTrees$Graph" "numbered" "I") ∈ lw_g := List.mem_filter.mpr ⟨(List.mem_append_right _ (List.mem_append_left _ (List.mem_of_getElem? (i := 55) rfl))), rfl⟩
theorem m_1_29 : (Cond.fieldLink "RootedTrees$Graph" 9 "RootedTrees$Graph" "from" "[I") ∈ lw_g := List.mem_filter.mpr ⟨(List.mem_append_right _ (List.mem_append_left _ (List.mem_of_getElem? (i := 29) rfl))), rfl⟩
theorem m_1_34 : (Cond.fieldLink "RootedTrees$Graph" 15 "RootedTrees$Graph" "to" "[I") ∈ lw_g := List.mem_filter.mpr ⟨(List.mem_append_right _ (List.mem_append_left _ (List.mem_of_getElem? (i := 34) rfl))), rfl⟩
theorem m_1_63 : (Cond.fieldLink "RootedTrees$Graph" 31 "RootedTrees$Graph" "present" "J") ∈ lw_g := List.mem_filter.mpr ⟨(List.mem_append_right _ (List.mem_append_left _ (List.mem_of_getElem? (i := 63) rfl))), rfl⟩
theorem m_2_32 : (Cond.methodLink "RootedTrees$Graph" 35 ⟨"RootedTrees$Graph", "putInOrder", "(I)V"⟩) ∈ lw_g := List.mem_filter.mpr ⟨(List.mem_append_right _ (List.mem_append_right _ (List.mem_append_left _ (List.mem_of_getElem? (i := 32) rfl)))), rfl⟩
theorem m_2_34 : (Cond.instanceMethod ⟨"RootedTrees$Graph", "putInOrder", "(I)V"⟩) ∈ lw_g := List.mem_filter.mpr ⟨(List.mem_append_right _ (List.mem_append_right _ (List.mem_append_left _ (List.mem_of_getElem? (i := 34) rfl)))), rfl⟩
theorem m_0_0 : (Cond.selects "RootedTrees$Graph" ⟨"RootedTrees$Graph", "putInOrder", "(I)V"⟩ ⟨"RootedTrees$Graph", "putInOrder", "(I)V"⟩) ∈ lw_g := List.mem_filter.mpr ⟨(List.mem_append_left _ (List.mem_of_getElem? (i := 0) rfl)), rfl⟩
theorem m_2_58 : (Cond.code ⟨"RootedTrees$Graph", "takeOutOfOrder", "(I)V"⟩ prog_5_method_14_code 4 (Option.none : Option FieldType)) ∈ lw_g := List.mem_filter.mpr ⟨(List.mem_append_right _ (List.mem_append_right _ (List.mem_append_left _ (List.mem_of_getElem? (i := 58) rfl)))), rfl⟩
theorem m_2_54 : (Cond.code ⟨"RootedTrees$Graph", "reweigh", "(II)I"⟩ prog_5_method_4_code 4 (Option.some .int)) ∈ lw_g := List.mem_filter.mpr ⟨(List.mem_append_right _ (List.mem_append_right _ (List.mem_append_left _ (List.mem_of_getElem? (i := 54) rfl)))), rfl⟩
theorem m_2_55 : (Cond.methodLink "RootedTrees$Graph" 39 ⟨"RootedTrees$Graph", "takeOutOfOrder", "(I)V"⟩) ∈ lw_g := List.mem_filter.mpr ⟨(List.mem_append_right _ (List.mem_append_right _ (List.mem_append_left _ (List.mem_of_getElem? (i := 55) rfl)))), rfl⟩
theorem m_2_57 : (Cond.instanceMethod ⟨"RootedTrees$Graph", "takeOutOfOrder", "(I)V"⟩) ∈ lw_g := List.mem_filter.mpr ⟨(List.mem_append_right _ (List.mem_append_right _ (List.mem_append_left _ (List.mem_of_getElem? (i := 57) rfl)))), rfl⟩
theorem m_0_2 : (Cond.selects "RootedTrees$Graph" ⟨"RootedTrees$Graph", "takeOutOfOrder", "(I)V"⟩ ⟨"RootedTrees$Graph", "takeOutOfOrder", "(I)V"⟩) ∈ lw_g := List.mem_filter.mpr ⟨(List.mem_append_left _ (List.mem_of_getElem? (i := 2) rfl)), rfl⟩
theorem m_2_66 : (Cond.code ⟨"RootedTrees$Graph", "removeArc", "(I)I"⟩ prog_5_method_5_code 2 (Option.some .int)) ∈ lw_g := List.mem_filter.mpr ⟨(List.mem_append_right _ (List.mem_append_right _ (List.mem_append_left _ (List.mem_of_getElem? (i := 66) rfl)))), rfl⟩
theorem m_2_67 : (Cond.constantLong "RootedTrees$Graph" 42 (-1)) ∈ lw_g := List.mem_filter.mpr ⟨(List.mem_append_right _ (List.mem_append_right _ (List.mem_append_left _ (List.mem_of_getElem? (i := 67) rfl)))), rfl⟩
theorem m_2_75 : (Cond.code ⟨"RootedTrees$Graph", "empty", "()V"⟩ prog_5_method_6_code 1 (Option.none : Option FieldType)) ∈ lw_g := List.mem_filter.mpr ⟨(List.mem_append_right _ (List.mem_append_right _ (List.mem_append_left _ (List.mem_of_getElem? (i := 75) rfl)))), rfl⟩
theorem m_2_24 : (Cond.code ⟨"RootedTrees$Graph", "hasNode", "(I)Z"⟩ prog_5_method_7_code 2 (Option.some .boolean)) ∈ lw_g := List.mem_filter.mpr ⟨(List.mem_append_right _ (List.mem_append_right _ (List.mem_append_left _ (List.mem_of_getElem? (i := 24) rfl)))), rfl⟩
theorem m_2_50 : (Cond.code ⟨"RootedTrees$Graph", "isIn", "(JI)Z"⟩ prog_5_method_11_code 3 (Option.some .boolean)) ∈ lw_g := List.mem_filter.mpr ⟨(List.mem_append_right _ (List.mem_append_right _ (List.mem_append_left _ (List.mem_of_getElem? (i := 50) rfl)))), rfl⟩
theorem m_2_47 : (Cond.code ⟨"RootedTrees$Graph", "hasArc", "(I)Z"⟩ prog_5_method_8_code 2 (Option.some .boolean)) ∈ lw_g := List.mem_filter.mpr ⟨(List.mem_append_right _ (List.mem_append_right _ (List.mem_append_left _ (List.mem_of_getElem? (i := 47) rfl)))), rfl⟩
theorem m_2_48 : (Cond.methodLink "RootedTrees$Graph" 47 ⟨"RootedTrees$Graph", "isIn", "(JI)Z"⟩) ∈ lw_g := List.mem_filter.mpr ⟨(List.mem_append_right _ (List.mem_append_right _ (List.mem_append_left _ (List.mem_of_getElem? (i := 48) rfl)))), rfl⟩
theorem m_2_49 : (Cond.static ⟨"RootedTrees$Graph", "isIn", "(JI)Z"⟩) ∈ lw_g := List.mem_filter.mpr ⟨(List.mem_append_right _ (List.mem_append_right _ (List.mem_append_left _ (List.mem_of_getElem? (i := 49) rfl)))), rfl⟩
theorem m_3_88 : (Cond.code ⟨"RootedTrees$Graph", "allNodes", "()I"⟩ prog_5_method_9_code 1 (Option.some .int)) ∈ lw_g := List.mem_filter.mpr ⟨(List.mem_append_right _ (List.mem_append_right _ (List.mem_append_right _ (List.mem_append_left _ (List.mem_of_getElem? (i := 88) rfl))))), rfl⟩
theorem m_2_110 : (Cond.code ⟨"RootedTrees$Graph", "weightOf", "(J)I"⟩ prog_5_method_10_code 5 (Option.some .int)) ∈ lw_g := List.mem_filter.mpr ⟨(List.mem_append_right _ (List.mem_append_right _ (List.mem_append_left _ (List.mem_of_getElem? (i := 110) rfl)))), rfl⟩
theorem m_2_227 : (Cond.code ⟨"RootedTrees$Cost", "of", "(II)J"⟩ prog_3_method_2_code 4 (Option.some .long)) ∈ lw_g := List.mem_filter.mpr ⟨(List.mem_append_right _ (List.mem_append_right _ (List.mem_append_left _ (List.mem_of_getElem? (i := 227) rfl)))), rfl⟩
theorem m_3_20 : (Cond.code ⟨"RootedTrees$Cost", "mirrored", "(J)J"⟩ prog_3_method_5_code 2 (Option.some .long)) ∈ lw_g := List.mem_filter.mpr ⟨(List.mem_append_right _ (List.mem_append_right _ (List.mem_append_right _ (List.mem_append_left _ (List.mem_of_getElem? (i := 20) rfl))))), rfl⟩
theorem m_3_21 : (Cond.constantLong "RootedTrees$Cost" 15 1073741823) ∈ lw_g := List.mem_filter.mpr ⟨(List.mem_append_right _ (List.mem_append_right _ (List.mem_append_right _ (List.mem_append_left _ (List.mem_of_getElem? (i := 21) rfl))))), rfl⟩
theorem m_3_17 : (Cond.code ⟨"RootedTrees$Cost", "weightIn", "(J)I"⟩ prog_3_method_3_code 2 (Option.some .int)) ∈ lw_g := List.mem_filter.mpr ⟨(List.mem_append_right _ (List.mem_append_right _ (List.mem_append_right _ (List.mem_append_left _ (List.mem_of_getElem? (i := 17) rfl))))), rfl⟩
theorem m_3_18 : (Cond.methodLink "RootedTrees$Cost" 11 ⟨"RootedTrees$Cost", "mirrored", "(J)J"⟩) ∈ lw_g := List.mem_filter.mpr ⟨(List.mem_append_right _ (List.mem_append_right _ (List.mem_append_right _ (List.mem_append_left _ (List.mem_of_getElem? (i := 18) rfl))))), rfl⟩
theorem m_3_19 : (Cond.static ⟨"RootedTrees$Cost", "mirrored", "(J)J"⟩) ∈ lw_g := List.mem_filter.mpr ⟨(List.mem_append_right _ (List.mem_append_right _ (List.mem_append_right _ (List.mem_append_left _ (List.mem_of_getElem? (i := 19) rfl))))), rfl⟩
theorem m_1_13 : (Cond.initialized "RootedTrees$Cost") ∈ lw_g := List.mem_filter.mpr ⟨(List.mem_append_right _ (List.mem_append_left _ (List.mem_of_getElem? (i := 13) rfl))), rfl⟩
theorem m_3_28 : (Cond.code ⟨"RootedTrees$Cost", "setIn", "(J)J"⟩ prog_3_method_4_code 7 (Option.some .long)) ∈ lw_g := List.mem_filter.mpr ⟨(List.mem_append_right _ (List.mem_append_right _ (List.mem_append_right _ (List.mem_append_left _ (List.mem_of_getElem? (i := 28) rfl))))), rfl⟩
theorem m_2_134 : (Cond.code ⟨"RootedTrees$TreeCount", "begin", "(LRootedTrees$Labels;)V"⟩ prog_8_method_2_code 3 (Option.none : Option FieldType)) ∈ lw_g := List.mem_filter.mpr ⟨(List.mem_append_right _ (List.mem_append_right _ (List.mem_append_left _ (List.mem_of_getElem? (i := 134) rfl)))), rfl⟩
theorem m_1_117 : (Cond.fieldLink "RootedTrees$TreeCount" 17 "RootedTrees$TreeCount" "links" "[[J") ∈ lw_g := List.mem_filter.mpr ⟨(List.mem_append_right _ (List.mem_append_left _ (List.mem_of_getElem? (i := 117) rfl))), rfl⟩
theorem m_2_138 : (Cond.methodLink "RootedTrees$TreeCount" 37 ⟨"java/util/Arrays", "fill", "([JJ)V"⟩) ∈ lw_g := List.mem_filter.mpr ⟨(List.mem_append_right _ (List.mem_append_right _ (List.mem_append_left _ (List.mem_of_getElem? (i := 138) rfl)))), rfl⟩
theorem m_2_139 : (Cond.static ⟨"java/util/Arrays", "fill", "([JJ)V"⟩) ∈ lw_g := List.mem_filter.mpr ⟨(List.mem_append_right _ (List.mem_append_right _ (List.mem_append_left _ (List.mem_of_getElem? (i := 139) rfl)))), rfl⟩
theorem m_1_12 : (Cond.initialized "java/util/Arrays") ∈ lw_g := List.mem_filter.mpr ⟨(List.mem_append_right _ (List.mem_append_left _ (List.mem_of_getElem? (i := 12) rfl))), rfl⟩
theorem m_1_96 : (Cond.fieldLink "RootedTrees$TreeCount" 26 "RootedTrees$Labels" "label" "[I") ∈ lw_g := List.mem_filter.mpr ⟨(List.mem_append_right _ (List.mem_append_left _ (List.mem_of_getElem? (i := 96) rfl))), rfl⟩
theorem m_1_116 : (Cond.fieldLink "RootedTrees$TreeCount" 9 "RootedTrees$TreeCount" "groupOf" "[I") ∈ lw_g := List.mem_filter.mpr ⟨(List.mem_append_right _ (List.mem_append_left _ (List.mem_of_getElem? (i := 116) rfl))), rfl⟩
theorem m_2_135 : (Cond.methodLink "RootedTrees$TreeCount" 31 ⟨"java/lang/System", "arraycopy", "(Ljava/lang/Object;ILjava/lang/Object;II)V"⟩) ∈ lw_g := List.mem_filter.mpr ⟨(List.mem_append_right _ (List.mem_append_right _ (List.mem_append_left _ (List.mem_of_getElem? (i := 135) rfl)))), rfl⟩
theorem m_2_137 : (Cond.native ⟨"java/lang/System", "arraycopy", "(Ljava/lang/Object;ILjava/lang/Object;II)V"⟩) ∈ lw_g := List.mem_filter.mpr ⟨(List.mem_append_right _ (List.mem_append_right _ (List.mem_append_left _ (List.mem_of_getElem? (i := 137) rfl)))), rfl⟩
theorem m_2_136 : (Cond.static ⟨"java/lang/System", "arraycopy", "(Ljava/lang/Object;ILjava/lang/Object;II)V"⟩) ∈ lw_g := List.mem_filter.mpr ⟨(List.mem_append_right _ (List.mem_append_right _ (List.mem_append_left _ (List.mem_of_getElem? (i := 136) rfl)))), rfl⟩
theorem m_1_11 : (Cond.initialized "java/lang/System") ∈ lw_g := List.mem_filter.mpr ⟨(List.mem_append_right _ (List.mem_append_left _ (List.mem_of_getElem? (i := 11) rfl))), rfl⟩
theorem m_2_144 : (Cond.code ⟨"RootedTrees$TreeCount", "link", "(II)V"⟩ prog_8_method_3_code 5 (Option.none : Option FieldType)) ∈ lw_g := List.mem_filter.mpr ⟨(List.mem_append_right _ (List.mem_append_right _ (List.mem_append_left _ (List.mem_of_getElem? (i := 144) rfl)))), rfl⟩
theorem m_2_152 : (Cond.code ⟨"RootedTrees$TreeCount", "determinant", "(I)J"⟩ prog_8_method_5_code 9 (Option.some .long)) ∈ lw_g := List.mem_filter.mpr ⟨(List.mem_append_right _ (List.mem_append_right _ (List.mem_append_left _ (List.mem_of_getElem? (i := 152) rfl)))), rfl⟩
theorem m_1_119 : (Cond.fieldLink "RootedTrees$TreeCount" 23 "RootedTrees$TreeCount" "minor" "[[J") ∈ lw_g := List.mem_filter.mpr ⟨(List.mem_append_right _ (List.mem_append_left _ (List.mem_of_getElem? (i := 119) rfl))), rfl⟩
theorem m_2_148 : (Cond.code ⟨"RootedTrees$TreeCount", "finish", "(LRootedTrees$Labels;)J"⟩ prog_8_method_4_code 5 (Option.some .long)) ∈ lw_g := List.mem_filter.mpr ⟨(List.mem_append_right _ (List.mem_append_right _ (List.mem_append_left _ (List.mem_of_getElem? (i := 148) rfl)))), rfl⟩
theorem m_1_118 : (Cond.fieldLink "RootedTrees$TreeCount" 20 "RootedTrees$TreeCount" "rows" "[I") ∈ lw_g := List.mem_filter.mpr ⟨(List.mem_append_right _ (List.mem_append_left _ (List.mem_of_getElem? (i := 118) rfl))), rfl⟩
theorem m_2_149 : (Cond.methodLink "RootedTrees$TreeCount" 47 ⟨"RootedTrees$TreeCount", "determinant", "(I)J"⟩) ∈ lw_g := List.mem_filter.mpr ⟨(List.mem_append_right _ (List.mem_append_right _ (List.mem_append_left _ (List.mem_of_getElem? (i := 149) rfl)))), rfl⟩
theorem m_2_151 : (Cond.instanceMethod ⟨"RootedTrees$TreeCount", "determinant", "(I)J"⟩) ∈ lw_g := List.mem_filter.mpr ⟨(List.mem_append_right _ (List.mem_append_right _ (List.mem_append_left _ (List.mem_of_getElem? (i := 151) rfl)))), rfl⟩
theorem m_0_5 : (Cond.selects "RootedTrees$TreeCount" ⟨"RootedTrees$TreeCount", "determinant", "(I)J"⟩ ⟨"RootedTrees$TreeCount", "determinant", "(I)J"⟩) ∈ lw_g := List.mem_filter.mpr ⟨(List.mem_append_left _ (List.mem_of_getElem? (i := 5) rfl)), rfl⟩
theorem m_1_5 : (Cond.initialized "RootedTrees$TreeCount") ∈ lw_g := List.mem_filter.mpr ⟨(List.mem_append_right _ (List.mem_append_left _ (List.mem_of_getElem? (i := 5) rfl))), rfl⟩
theorem m_1_98 : (Cond.fieldLink "RootedTrees$TreeCount" 43 "RootedTrees$Labels" "nodes" "I") ∈ lw_g := List.mem_filter.mpr ⟨(List.mem_append_right _ (List.mem_append_left _ (List.mem_of_getElem? (i := 98) rfl))), rfl⟩
theorem m_2_87 : (Cond.code ⟨"RootedTrees$Forests", "findLeast", "()J"⟩ prog_4_method_3_code 5 (Option.some .long)) ∈ lw_g := List.mem_filter.mpr ⟨(List.mem_append_right _ (List.mem_append_right _ (List.mem_append_left _ (List.mem_of_getElem? (i := 87) rfl)))), rfl⟩
theorem m_1_130 : (Cond.fieldLink "RootedTrees$Forests" 9 "RootedTrees$Forests" "graph" "LRootedTrees$Graph;") ∈ lw_g := List.mem_filter.mpr ⟨(List.mem_append_right _ (List.mem_append_left _ (List.mem_of_getElem? (i := 130) rfl))), rfl⟩
theorem m_1_58 : (Cond.fieldLink "RootedTrees$Forests" 50 "RootedTrees$Graph" "size" "I") ∈ lw_g := List.mem_filter.mpr ⟨(List.mem_append_right _ (List.mem_append_left _ (List.mem_of_getElem? (i := 58) rfl))), rfl⟩
theorem m_1_45 : (Cond.fieldLink "RootedTrees$Forests" 53 "RootedTrees$Graph" "order" "[I") ∈ lw_g := List.mem_filter.mpr ⟨(List.mem_append_right _ (List.mem_append_left _ (List.mem_of_getElem? (i := 45) rfl))), rfl⟩
theorem m_1_131 : (Cond.fieldLink "RootedTrees$Forests" 18 "RootedTrees$Forests" "labels" "LRootedTrees$Labels;") ∈ lw_g := List.mem_filter.mpr ⟨(List.mem_append_right _ (List.mem_append_left _ (List.mem_of_getElem? (i := 131) rfl))), rfl⟩
theorem m_1_30 : (Cond.fieldLink "RootedTrees$Forests" 56 "RootedTrees$Graph" "from" "[I") ∈ lw_g := List.mem_filter.mpr ⟨(List.mem_append_right _ (List.mem_append_left _ (List.mem_of_getElem? (i := 30) rfl))), rfl⟩
theorem m_1_35 : (Cond.fieldLink "RootedTrees$Forests" 59 "RootedTrees$Graph" "to" "[I") ∈ lw_g := List.mem_filter.mpr ⟨(List.mem_append_right _ (List.mem_append_left _ (List.mem_of_getElem? (i := 35) rfl))), rfl⟩
theorem m_2_92 : (Cond.methodLink "RootedTrees$Forests" 62 ⟨"RootedTrees$Labels", "unite", "(II)Z"⟩) ∈ lw_g := List.mem_filter.mpr ⟨(List.mem_append_right _ (List.mem_append_right _ (List.mem_append_left _ (List.mem_of_getElem? (i := 92) rfl)))), rfl⟩
theorem m_2_93 : (Cond.instanceMethod ⟨"RootedTrees$Labels", "unite", "(II)Z"⟩) ∈ lw_g := List.mem_filter.mpr ⟨(List.mem_append_right _ (List.mem_append_right _ (List.mem_append_left _ (List.mem_of_getElem? (i := 93) rfl)))), rfl⟩
theorem m_2_94 : (Cond.selects "RootedTrees$Labels" ⟨"RootedTrees$Labels", "unite", "(II)Z"⟩ ⟨"RootedTrees$Labels", "unite", "(II)Z"⟩) ∈ lw_g := List.mem_filter.mpr ⟨(List.mem_append_right _ (List.mem_append_right _ (List.mem_append_left _ (List.mem_of_getElem? (i := 94) rfl)))), rfl⟩
theorem m_1_4 : (Cond.initialized "RootedTrees$Labels") ∈ lw_g := List.mem_filter.mpr ⟨(List.mem_append_right _ (List.mem_append_left _ (List.mem_of_getElem? (i := 4) rfl))), rfl⟩
theorem m_1_52 : (Cond.fieldLink "RootedTrees$Forests" 41 "RootedTrees$Graph" "nodes" "I") ∈ lw_g := List.mem_filter.mpr ⟨(List.mem_append_right _ (List.mem_append_left _ (List.mem_of_getElem? (i := 52) rfl))), rfl⟩
theorem m_2_88 : (Cond.methodLink "RootedTrees$Forests" 46 ⟨"RootedTrees$Labels", "separate", "(I)V"⟩) ∈ lw_g := List.mem_filter.mpr ⟨(List.mem_append_right _ (List.mem_append_right _ (List.mem_append_left _ (List.mem_of_getElem? (i := 88) rfl)))), rfl⟩
theorem m_2_89 : (Cond.instanceMethod ⟨"RootedTrees$Labels", "separate", "(I)V"⟩) ∈ lw_g := List.mem_filter.mpr ⟨(List.mem_append_right _ (List.mem_append_right _ (List.mem_append_left _ (List.mem_of_getElem? (i := 89) rfl)))), rfl⟩
theorem m_2_90 : (Cond.selects "RootedTrees$Labels" ⟨"RootedTrees$Labels", "separate", "(I)V"⟩ ⟨"RootedTrees$Labels", "separate", "(I)V"⟩) ∈ lw_g := List.mem_filter.mpr ⟨(List.mem_append_right _ (List.mem_append_right _ (List.mem_append_left _ (List.mem_of_getElem? (i := 90) rfl)))), rfl⟩
theorem m_2_83 : (Cond.code ⟨"RootedTrees$Forests", "countParts", "()I"⟩ prog_4_method_2_code 1 (Option.some .int)) ∈ lw_g := List.mem_filter.mpr ⟨(List.mem_append_right _ (List.mem_append_right _ (List.mem_append_left _ (List.mem_of_getElem? (i := 83) rfl)))), rfl⟩
theorem m_2_84 : (Cond.methodLink "RootedTrees$Forests" 33 ⟨"RootedTrees$Forests", "findLeast", "()J"⟩) ∈ lw_g := List.mem_filter.mpr ⟨(List.mem_append_right _ (List.mem_append_right _ (List.mem_append_left _ (List.mem_of_getElem? (i := 84) rfl)))), rfl⟩
theorem m_2_85 : (Cond.instanceMethod ⟨"RootedTrees$Forests", "findLeast", "()J"⟩) ∈ lw_g := List.mem_filter.mpr ⟨(List.mem_append_right _ (List.mem_append_right _ (List.mem_append_left _ (List.mem_of_getElem? (i := 85) rfl)))), rfl⟩
theorem m_2_86 : (Cond.selects "RootedTrees$Forests" ⟨"RootedTrees$Forests", "findLeast", "()J"⟩ ⟨"RootedTrees$Forests", "findLeast", "()J"⟩) ∈ lw_g := List.mem_filter.mpr ⟨(List.mem_append_right _ (List.mem_append_right _ (List.mem_append_left _ (List.mem_of_getElem? (i := 86) rfl)))), rfl⟩
theorem m_1_3 : (Cond.initialized "RootedTrees$Forests") ∈ lw_g := List.mem_filter.mpr ⟨(List.mem_append_right _ (List.mem_append_left _ (List.mem_of_getElem? (i := 3) rfl))), rfl⟩
theorem m_1_100 : (Cond.fieldLink "RootedTrees$Forests" 37 "RootedTrees$Labels" "groups" "I") ∈ lw_g := List.mem_filter.mpr ⟨(List.mem_append_right _ (List.mem_append_left _ (List.mem_of_getElem? (i := 100) rfl))), rfl⟩
theorem m_2_126 : (Cond.code ⟨"RootedTrees$Forests", "weightAt", "(I)I"⟩ prog_4_method_5_code 2 (Option.some .int)) ∈ lw_g := List.mem_filter.mpr ⟨(List.mem_append_right _ (List.mem_append_right _ (List.mem_append_left _ (List.mem_of_getElem? (i := 126) rfl)))), rfl⟩
theorem m_1_41 : (Cond.fieldLink "RootedTrees$Forests" 74 "RootedTrees$Graph" "weight" "[I") ∈ lw_g := List.mem_filter.mpr ⟨(List.mem_append_right _ (List.mem_append_left _ (List.mem_of_getElem? (i := 41) rfl))), rfl⟩
theorem m_2_130 : (Cond.code ⟨"RootedTrees$Forests", "choicesAmong", "(II)J"⟩ prog_4_method_6_code 5 (Option.some .long)) ∈ lw_g := List.mem_filter.mpr ⟨(List.mem_append_right _ (List.mem_append_right _ (List.mem_append_left _ (List.mem_of_getElem? (i := 130) rfl)))), rfl⟩
theorem m_1_132 : (Cond.fieldLink "RootedTrees$Forests" 25 "RootedTrees$Forests" "treeCount" "LRootedTrees$TreeCount;") ∈ lw_g := List.mem_filter.mpr ⟨(List.mem_append_right _ (List.mem_append_left _ (List.mem_of_getElem? (i := 132) rfl))), rfl⟩
theorem m_2_145 : (Cond.methodLink "RootedTrees$Forests" 85 ⟨"RootedTrees$TreeCount", "finish", "(LRootedTrees$Labels;)J"⟩) ∈ lw_g := List.mem_filter.mpr ⟨(List.mem_append_right _ (List.mem_append_right _ (List.mem_append_left _ (List.mem_of_getElem? (i := 145) rfl)))), rfl⟩
theorem m_2_146 : (Cond.instanceMethod ⟨"RootedTrees$TreeCount", "finish", "(LRootedTrees$Labels;)J"⟩) ∈ lw_g := List.mem_filter.mpr ⟨(List.mem_append_right _ (List.mem_append_right _ (List.mem_append_left _ (List.mem_of_getElem? (i := 146) rfl)))), rfl⟩
theorem m_2_147 : (Cond.selects "RootedTrees$TreeCount" ⟨"RootedTrees$TreeCount", "finish", "(LRootedTrees$Labels;)J"⟩ ⟨"RootedTrees$TreeCount", "finish", "(LRootedTrees$Labels;)J"⟩) ∈ lw_g := List.mem_filter.mpr ⟨(List.mem_append_right _ (List.mem_append_right _ (List.mem_append_left _ (List.mem_of_getElem? (i := 147) rfl)))), rfl⟩
theorem m_2_141 : (Cond.methodLink "RootedTrees$Forests" 81 ⟨"RootedTrees$TreeCount", "link", "(II)V"⟩) ∈ lw_g := List.mem_filter.mpr ⟨(List.mem_append_right _ (List.mem_append_right _ (List.mem_append_left _ (List.mem_of_getElem? (i := 141) rfl)))), rfl⟩
theorem m_2_142 : (Cond.instanceMethod ⟨"RootedTrees$TreeCount", "link", "(II)V"⟩) ∈ lw_g := List.mem_filter.mpr ⟨(List.mem_append_right _ (List.mem_append_right _ (List.mem_append_left _ (List.mem_of_getElem? (i := 142) rfl)))), rfl⟩
theorem m_2_143 : (Cond.selects "RootedTrees$TreeCount" ⟨"RootedTrees$TreeCount", "link", "(II)V"⟩ ⟨"RootedTrees$TreeCount", "link", "(II)V"⟩) ∈ lw_g := List.mem_filter.mpr ⟨(List.mem_append_right _ (List.mem_append_right _ (List.mem_append_left _ (List.mem_of_getElem? (i := 143) rfl)))), rfl⟩
theorem m_2_131 : (Cond.methodLink "RootedTrees$Forests" 77 ⟨"RootedTrees$TreeCount", "begin", "(LRootedTrees$Labels;)V"⟩) ∈ lw_g := List.mem_filter.mpr ⟨(List.mem_append_right _ (List.mem_append_right _ (List.mem_append_left _ (List.mem_of_getElem? (i := 131) rfl)))), rfl⟩
theorem m_2_132 : (Cond.instanceMethod ⟨"RootedTrees$TreeCount", "begin", "(LRootedTrees$Labels;)V"⟩) ∈ lw_g := List.mem_filter.mpr ⟨(List.mem_append_right _ (List.mem_append_right _ (List.mem_append_left _ (List.mem_of_getElem? (i := 132) rfl)))), rfl⟩
theorem m_2_133 : (Cond.selects "RootedTrees$TreeCount" ⟨"RootedTrees$TreeCount", "begin", "(LRootedTrees$Labels;)V"⟩ ⟨"RootedTrees$TreeCount", "begin", "(LRootedTrees$Labels;)V"⟩) ∈ lw_g := List.mem_filter.mpr ⟨(List.mem_append_right _ (List.mem_append_right _ (List.mem_append_left _ (List.mem_of_getElem? (i := 133) rfl)))), rfl⟩
theorem m_2_122 : (Cond.code ⟨"RootedTrees$Forests", "countLeast", "()J"⟩ prog_4_method_4_code 5 (Option.some .long)) ∈ lw_g := List.mem_filter.mpr ⟨(List.mem_append_right _ (List.mem_append_right _ (List.mem_append_left _ (List.mem_of_getElem? (i := 122) rfl)))), rfl⟩
theorem m_2_127 : (Cond.methodLink "RootedTrees$Forests" 70 ⟨"RootedTrees$Forests", "choicesAmong", "(II)J"⟩) ∈ lw_g := List.mem_filter.mpr ⟨(List.mem_append_right _ (List.mem_append_right _ (List.mem_append_left _ (List.mem_of_getElem? (i := 127) rfl)))), rfl⟩
theorem m_2_129 : (Cond.instanceMethod ⟨"RootedTrees$Forests", "choicesAmong", "(II)J"⟩) ∈ lw_g := List.mem_filter.mpr ⟨(List.mem_append_right _ (List.mem_append_right _ (List.mem_append_left _ (List.mem_of_getElem? (i := 129) rfl)))), rfl⟩
theorem m_0_4 : (Cond.selects "RootedTrees$Forests" ⟨"RootedTrees$Forests", "choicesAmong", "(II)J"⟩ ⟨"RootedTrees$Forests", "choicesAmong", "(II)J"⟩) ∈ lw_g := List.mem_filter.mpr ⟨(List.mem_append_left _ (List.mem_of_getElem? (i := 4) rfl)), rfl⟩
theorem m_2_123 : (Cond.methodLink "RootedTrees$Forests" 66 ⟨"RootedTrees$Forests", "weightAt", "(I)I"⟩) ∈ lw_g := List.mem_filter.mpr ⟨(List.mem_append_right _ (List.mem_append_right _ (List.mem_append_left _ (List.mem_of_getElem? (i := 123) rfl)))), rfl⟩
theorem m_2_125 : (Cond.instanceMethod ⟨"RootedTrees$Forests", "weightAt", "(I)I"⟩) ∈ lw_g := List.mem_filter.mpr ⟨(List.mem_append_right _ (List.mem_append_right _ (List.mem_append_left _ (List.mem_of_getElem? (i := 125) rfl)))), rfl⟩
theorem m_0_3 : (Cond.selects "RootedTrees$Forests" ⟨"RootedTrees$Forests", "weightAt", "(I)I"⟩ ⟨"RootedTrees$Forests", "weightAt", "(I)I"⟩) ∈ lw_g := List.mem_filter.mpr ⟨(List.mem_append_left _ (List.mem_of_getElem? (i := 3) rfl)), rfl⟩
theorem m_2_173 : (Cond.code ⟨"RootedTrees$Forests", "hangBy", "(J)Z"⟩ prog_4_method_10_code 5 (Option.some .boolean)) ∈ lw_g := List.mem_filter.mpr ⟨(List.mem_append_right _ (List.mem_append_right _ (List.mem_append_left _ (List.mem_of_getElem? (i := 173) rfl)))), rfl⟩
theorem m_1_57 : (Cond.fieldLink "RootedTrees$Forests" 97 "RootedTrees$Graph" "numbered" "I") ∈ lw_g := List.mem_filter.mpr ⟨(List.mem_append_right _ (List.mem_append_left _ (List.mem_of_getElem? (i := 57) rfl))), rfl⟩
theorem m_2_168 : (Cond.methodLink "RootedTrees$Forests" 126 ⟨"RootedTrees$Graph", "isIn", "(JI)Z"⟩) ∈ lw_g := List.mem_filter.mpr ⟨(List.mem_append_right _ (List.mem_append_right _ (List.mem_append_left _ (List.mem_of_getElem? (i := 168) rfl)))), rfl⟩
theorem m_2_177 : (Cond.code ⟨"RootedTrees$Forests", "offer", "(IJ)V"⟩ prog_4_method_12_code 6 (Option.none : Option FieldType)) ∈ lw_g := List.mem_filter.mpr ⟨(List.mem_append_right _ (List.mem_append_right _ (List.mem_append_left _ (List.mem_of_getElem? (i := 177) rfl)))), rfl⟩
theorem m_1_133 : (Cond.fieldLink "RootedTrees$Forests" 29 "RootedTrees$Forests" "heaviest" "[I") ∈ lw_g := List.mem_filter.mpr ⟨(List.mem_append_right _ (List.mem_append_left _ (List.mem_of_getElem? (i := 133) rfl))), rfl⟩
theorem m_2_178 : (Cond.methodLink "RootedTrees$Forests" 123 ⟨"RootedTrees$Labels", "areApart", "(II)Z"⟩) ∈ lw_g := List.mem_filter.mpr ⟨(List.mem_append_right _ (List.mem_append_right _ (List.mem_append_left _ (List.mem_of_getElem? (i := 178) rfl)))), rfl⟩
theorem m_2_179 : (Cond.instanceMethod ⟨"RootedTrees$Labels", "areApart", "(II)Z"⟩) ∈ lw_g := List.mem_filter.mpr ⟨(List.mem_append_right _ (List.mem_append_right _ (List.mem_append_left _ (List.mem_of_getElem? (i := 179) rfl)))), rfl⟩
theorem m_2_180 : (Cond.selects "RootedTrees$Labels" ⟨"RootedTrees$Labels", "areApart", "(II)Z"⟩ ⟨"RootedTrees$Labels", "areApart", "(II)Z"⟩) ∈ lw_g := List.mem_filter.mpr ⟨(List.mem_append_right _ (List.mem_append_right _ (List.mem_append_left _ (List.mem_of_getElem? (i := 180) rfl)))), rfl⟩
theorem m_2_164 : (Cond.code ⟨"RootedTrees$Forests", "findHeaviest", "(J)V"⟩ prog_4_method_11_code 4 (Option.none : Option FieldType)) ∈ lw_g := List.mem_filter.mpr ⟨(List.mem_append_right _ (List.mem_append_right _ (List.mem_append_left _ (List.mem_of_getElem? (i := 164) rfl)))), rfl⟩
theorem m_2_169 : (Cond.constantLong "RootedTrees$Forests" 113 (-1)) ∈ lw_g := List.mem_filter.mpr ⟨(List.mem_append_right _ (List.mem_append_right _ (List.mem_append_left _ (List.mem_of_getElem? (i := 169) rfl)))), rfl⟩
theorem m_2_170 : (Cond.methodLink "RootedTrees$Forests" 119 ⟨"RootedTrees$Forests", "hangBy", "(J)Z"⟩) ∈ lw_g := List.mem_filter.mpr ⟨(List.mem_append_right _ (List.mem_append_right _ (List.mem_append_left _ (List.mem_of_getElem? (i := 170) rfl)))), rfl⟩
theorem m_2_172 : (Cond.instanceMethod ⟨"RootedTrees$Forests", "hangBy", "(J)Z"⟩) ∈ lw_g := List.mem_filter.mpr ⟨(List.mem_append_right _ (List.mem_append_right _ (List.mem_append_left _ (List.mem_of_getElem? (i := 172) rfl)))), rfl⟩
theorem m_0_7 : (Cond.selects "RootedTrees$Forests" ⟨"RootedTrees$Forests", "hangBy", "(J)Z"⟩ ⟨"RootedTrees$Forests", "hangBy", "(J)Z"⟩) ∈ lw_g := List.mem_filter.mpr ⟨(List.mem_append_left _ (List.mem_of_getElem? (i := 7) rfl)), rfl⟩
theorem m_1_64 : (Cond.fieldLink "RootedTrees$Forests" 89 "RootedTrees$Graph" "present" "J") ∈ lw_g := List.mem_filter.mpr ⟨(List.mem_append_right _ (List.mem_append_left _ (List.mem_of_getElem? (i := 64) rfl))), rfl⟩
theorem m_2_174 : (Cond.methodLink "RootedTrees$Forests" 136 ⟨"RootedTrees$Forests", "offer", "(IJ)V"⟩) ∈ lw_g := List.mem_filter.mpr ⟨(List.mem_append_right _ (List.mem_append_right _ (List.mem_append_left _ (List.mem_of_getElem? (i := 174) rfl)))), rfl⟩
theorem m_2_176 : (Cond.instanceMethod ⟨"RootedTrees$Forests", "offer", "(IJ)V"⟩) ∈ lw_g := List.mem_filter.mpr ⟨(List.mem_append_right _ (List.mem_append_right _ (List.mem_append_left _ (List.mem_of_getElem? (i := 176) rfl)))), rfl⟩
theorem m_0_8 : (Cond.selects "RootedTrees$Forests" ⟨"RootedTrees$Forests", "offer", "(IJ)V"⟩ ⟨"RootedTrees$Forests", "offer", "(IJ)V"⟩) ∈ lw_g := List.mem_filter.mpr ⟨(List.mem_append_left _ (List.mem_of_getElem? (i := 8) rfl)), rfl⟩
theorem m_2_165 : (Cond.methodLink "RootedTrees$Forests" 130 ⟨"java/util/Arrays", "fill", "([II)V"⟩) ∈ lw_g := List.mem_filter.mpr ⟨(List.mem_append_right _ (List.mem_append_right _ (List.mem_append_left _ (List.mem_of_getElem? (i := 165) rfl)))), rfl⟩
theorem m_2_166 : (Cond.static ⟨"java/util/Arrays", "fill", "([II)V"⟩) ∈ lw_g := List.mem_filter.mpr ⟨(List.mem_append_right _ (List.mem_append_right _ (List.mem_append_left _ (List.mem_of_getElem? (i := 166) rfl)))), rfl⟩
theorem m_2_160 : (Cond.code ⟨"RootedTrees$Forests", "findNext", "()Z"⟩ prog_4_method_7_code 6 (Option.some .boolean)) ∈ lw_g := List.mem_filter.mpr ⟨(List.mem_append_right _ (List.mem_append_right _ (List.mem_append_left _ (List.mem_of_getElem? (i := 160) rfl)))), rfl⟩
theorem m_2_182 : (Cond.methodLink "RootedTrees$Forests" 106 ⟨"RootedTrees$Graph", "weightOf", "(J)I"⟩) ∈ lw_g := List.mem_filter.mpr ⟨(List.mem_append_right _ (List.mem_append_right _ (List.mem_append_left _ (List.mem_of_getElem? (i := 182) rfl)))), rfl⟩
theorem m_2_108 : (Cond.instanceMethod ⟨"RootedTrees$Graph", "weightOf", "(J)I"⟩) ∈ lw_g := List.mem_filter.mpr ⟨(List.mem_append_right _ (List.mem_append_right _ (List.mem_append_left _ (List.mem_of_getElem? (i := 108) rfl)))), rfl⟩
theorem m_2_109 : (Cond.selects "RootedTrees$Graph" ⟨"RootedTrees$Graph", "weightOf", "(J)I"⟩ ⟨"RootedTrees$Graph", "weightOf", "(J)I"⟩) ∈ lw_g := List.mem_filter.mpr ⟨(List.mem_append_right _ (List.mem_append_right _ (List.mem_append_left _ (List.mem_of_getElem? (i := 109) rfl)))), rfl⟩
theorem m_1_134 : (Cond.fieldLink "RootedTrees$Forests" 110 "RootedTrees$Forests" "nextWeight" "I") ∈ lw_g := List.mem_filter.mpr ⟨(List.mem_append_right _ (List.mem_append_left _ (List.mem_of_getElem? (i := 134) rfl))), rfl⟩
theorem m_1_136 : (Cond.fieldLink "RootedTrees$Forests" 100 "RootedTrees$Forests" "nextIn" "I") ∈ lw_g := List.mem_filter.mpr ⟨(List.mem_append_right _ (List.mem_append_left _ (List.mem_of_getElem? (i := 136) rfl))), rfl⟩
theorem m_1_138 : (Cond.fieldLink "RootedTrees$Forests" 103 "RootedTrees$Forests" "nextOut" "I") ∈ lw_g := List.mem_filter.mpr ⟨(List.mem_append_right _ (List.mem_append_left _ (List.mem_of_getElem? (i := 138) rfl))), rfl⟩
theorem m_2_161 : (Cond.methodLink "RootedTrees$Forests" 93 ⟨"RootedTrees$Forests", "findHeaviest", "(J)V"⟩) ∈ lw_g := List.mem_filter.mpr ⟨(List.mem_append_right _ (List.mem_append_right _ (List.mem_append_left _ (List.mem_of_getElem? (i := 161) rfl)))), rfl⟩
theorem m_2_163 : (Cond.instanceMethod ⟨"RootedTrees$Forests", "findHeaviest", "(J)V"⟩) ∈ lw_g := List.mem_filter.mpr ⟨(List.mem_append_right _ (List.mem_append_right _ (List.mem_append_left _ (List.mem_of_getElem? (i := 163) rfl)))), rfl⟩
theorem m_0_6 : (Cond.selects "RootedTrees$Forests" ⟨"RootedTrees$Forests", "findHeaviest", "(J)V"⟩ ⟨"RootedTrees$Forests", "findHeaviest", "(J)V"⟩) ∈ lw_g := List.mem_filter.mpr ⟨(List.mem_append_left _ (List.mem_of_getElem? (i := 6) rfl)), rfl⟩
theorem m_2_194 : (Cond.code ⟨"RootedTrees$Forests", "verdict", "(J)I"⟩ prog_4_method_8_code 6 (Option.some .int)) ∈ lw_g := List.mem_filter.mpr ⟨(List.mem_append_right _ (List.mem_append_right _ (List.mem_append_left _ (List.mem_of_getElem? (i := 194) rfl)))), rfl⟩
theorem m_2_195 : (Cond.methodLink "RootedTrees$Forests" 115 ⟨"RootedTrees$Forests", "countParts", "()I"⟩) ∈ lw_g := List.mem_filter.mpr ⟨(List.mem_append_right _ (List.mem_append_right _ (List.mem_append_left _ (List.mem_of_getElem? (i := 195) rfl)))), rfl⟩
theorem m_2_81 : (Cond.instanceMethod ⟨"RootedTrees$Forests", "countParts", "()I"⟩) ∈ lw_g := List.mem_filter.mpr ⟨(List.mem_append_right _ (List.mem_append_right _ (List.mem_append_left _ (List.mem_of_getElem? (i := 81) rfl)))), rfl⟩
theorem m_2_82 : (Cond.selects "RootedTrees$Forests" ⟨"RootedTrees$Forests", "countParts", "()I"⟩ ⟨"RootedTrees$Forests", "countParts", "()I"⟩) ∈ lw_g := List.mem_filter.mpr ⟨(List.mem_append_right _ (List.mem_append_right _ (List.mem_append_left _ (List.mem_of_getElem? (i := 82) rfl)))), rfl⟩
theorem m_2_203 : (Cond.code ⟨"RootedTrees$Forests", "leastHeight", "(II)I"⟩ prog_4_method_9_code 5 (Option.some .int)) ∈ lw_g := List.mem_filter.mpr ⟨(List.mem_append_right _ (List.mem_append_right _ (List.mem_append_left _ (List.mem_of_getElem? (i := 203) rfl)))), rfl⟩
theorem m_2_223 : (Cond.code ⟨"RootedTrees$BoundedTrees", "findBetween", "()V"⟩ prog_2_method_5_code 7 (Option.none : Option FieldType)) ∈ lw_g := List.mem_filter.mpr ⟨(List.mem_append_right _ (List.mem_append_right _ (List.mem_append_left _ (List.mem_of_getElem? (i := 223) rfl)))), rfl⟩
theorem m_1_162 : (Cond.fieldLink "RootedTrees$BoundedTrees" 9 "RootedTrees$BoundedTrees" "graph" "LRootedTrees$Graph;") ∈ lw_g := List.mem_filter.mpr ⟨(List.mem_append_right _ (List.mem_append_left _ (List.mem_of_getElem? (i := 162) rfl))), rfl⟩
theorem m_1_62 : (Cond.fieldLink "RootedTrees$BoundedTrees" 66 "RootedTrees$Graph" "size" "I") ∈ lw_g := List.mem_filter.mpr ⟨(List.mem_append_right _ (List.mem_append_left _ (List.mem_of_getElem? (i := 62) rfl))), rfl⟩
theorem m_1_48 : (Cond.fieldLink "RootedTrees$BoundedTrees" 69 "RootedTrees$Graph" "order" "[I") ∈ lw_g := List.mem_filter.mpr ⟨(List.mem_append_right _ (List.mem_append_left _ (List.mem_of_getElem? (i := 48) rfl))), rfl⟩
theorem m_1_33 : (Cond.fieldLink "RootedTrees$BoundedTrees" 73 "RootedTrees$Graph" "from" "[I") ∈ lw_g := List.mem_filter.mpr ⟨(List.mem_append_right _ (List.mem_append_left _ (List.mem_of_getElem? (i := 33) rfl))), rfl⟩
theorem m_1_37 : (Cond.fieldLink "RootedTrees$BoundedTrees" 76 "RootedTrees$Graph" "to" "[I") ∈ lw_g := List.mem_filter.mpr ⟨(List.mem_append_right _ (List.mem_append_left _ (List.mem_of_getElem? (i := 37) rfl))), rfl⟩
theorem m_1_163 : (Cond.fieldLink "RootedTrees$BoundedTrees" 17 "RootedTrees$BoundedTrees" "between" "[[J") ∈ lw_g := List.mem_filter.mpr ⟨(List.mem_append_right _ (List.mem_append_left _ (List.mem_of_getElem? (i := 163) rfl))), rfl⟩
theorem m_1_42 : (Cond.fieldLink "RootedTrees$BoundedTrees" 79 "RootedTrees$Graph" "weight" "[I") ∈ lw_g := List.mem_filter.mpr ⟨(List.mem_append_right _ (List.mem_append_left _ (List.mem_of_getElem? (i := 42) rfl))), rfl⟩
theorem m_2_225 : (Cond.methodLink "RootedTrees$BoundedTrees" 82 ⟨"RootedTrees$Cost", "of", "(II)J"⟩) ∈ lw_g := List.mem_filter.mpr ⟨(List.mem_append_right _ (List.mem_append_right _ (List.mem_append_left _ (List.mem_of_getElem? (i := 225) rfl)))), rfl⟩
theorem m_2_226 : (Cond.static ⟨"RootedTrees$Cost", "of", "(II)J"⟩) ∈ lw_g := List.mem_filter.mpr ⟨(List.mem_append_right _ (List.mem_append_right _ (List.mem_append_left _ (List.mem_of_getElem? (i := 226) rfl)))), rfl⟩
theorem m_2_228 : (Cond.methodLink "RootedTrees$BoundedTrees" 88 ⟨"java/lang/Math", "min", "(JJ)J"⟩) ∈ lw_g := List.mem_filter.mpr ⟨(List.mem_append_right _ (List.mem_append_right _ (List.mem_append_left _ (List.mem_of_getElem? (i := 228) rfl)))), rfl⟩
theorem m_2_229 : (Cond.static ⟨"java/lang/Math", "min", "(JJ)J"⟩) ∈ lw_g := List.mem_filter.mpr ⟨(List.mem_append_right _ (List.mem_append_right _ (List.mem_append_left _ (List.mem_of_getElem? (i := 229) rfl)))), rfl⟩
theorem m_2_230 : (Cond.code ⟨"java/lang/Math", "min", "(JJ)J"⟩ prog_13_method_70_code 4 (Option.some .long)) ∈ lw_g := List.mem_filter.mpr ⟨(List.mem_append_right _ (List.mem_append_right _ (List.mem_append_left _ (List.mem_of_getElem? (i := 230) rfl)))), rfl⟩
theorem m_1_166 : (Cond.fieldLink "RootedTrees$BoundedTrees" 38 "RootedTrees$BoundedTrees" "nodes" "I") ∈ lw_g := List.mem_filter.mpr ⟨(List.mem_append_right _ (List.mem_append_left _ (List.mem_of_getElem? (i := 166) rfl))), rfl⟩
theorem m_2_219 : (Cond.constantLong "RootedTrees$BoundedTrees" 39 1152921504606846976) ∈ lw_g := List.mem_filter.mpr ⟨(List.mem_append_right _ (List.mem_append_right _ (List.mem_append_left _ (List.mem_of_getElem? (i := 219) rfl)))), rfl⟩
theorem m_2_224 : (Cond.methodLink "RootedTrees$BoundedTrees" 60 ⟨"java/util/Arrays", "fill", "([JJ)V"⟩) ∈ lw_g := List.mem_filter.mpr ⟨(List.mem_append_right _ (List.mem_append_right _ (List.mem_append_left _ (List.mem_of_getElem? (i := 224) rfl)))), rfl⟩
theorem m_2_237 : (Cond.code ⟨"RootedTrees$BoundedTrees", "row", "(II)I"⟩ prog_2_method_3_code 2 (Option.some .int)) ∈ lw_g := List.mem_filter.mpr ⟨(List.mem_append_right _ (List.mem_append_right _ (List.mem_append_left _ (List.mem_of_getElem? (i := 237) rfl)))), rfl⟩
theorem m_2_234 : (Cond.code ⟨"RootedTrees$BoundedTrees", "startEmpty", "()V"⟩ prog_2_method_6_code 3 (Option.none : Option FieldType)) ∈ lw_g := List.mem_filter.mpr ⟨(List.mem_append_right _ (List.mem_append_right _ (List.mem_append_left _ (List.mem_of_getElem? (i := 234) rfl)))), rfl⟩
theorem m_1_167 : (Cond.fieldLink "RootedTrees$BoundedTrees" 41 "RootedTrees$BoundedTrees" "bound" "I") ∈ lw_g := List.mem_filter.mpr ⟨(List.mem_append_right _ (List.mem_append_left _ (List.mem_of_getElem? (i := 167) rfl))), rfl⟩
theorem m_1_165 : (Cond.fieldLink "RootedTrees$BoundedTrees" 23 "RootedTrees$BoundedTrees" "branches" "[[J") ∈ lw_g := List.mem_filter.mpr ⟨(List.mem_append_right _ (List.mem_append_left _ (List.mem_of_getElem? (i := 165) rfl))), rfl⟩
theorem m_2_235 : (Cond.methodLink "RootedTrees$BoundedTrees" 57 ⟨"RootedTrees$BoundedTrees", "row", "(II)I"⟩) ∈ lw_g := List.mem_filter.mpr ⟨(List.mem_append_right _ (List.mem_append_right _ (List.mem_append_left _ (List.mem_of_getElem? (i := 235) rfl)))), rfl⟩
theorem m_2_236 : (Cond.static ⟨"RootedTrees$BoundedTrees", "row", "(II)I"⟩) ∈ lw_g := List.mem_filter.mpr ⟨(List.mem_append_right _ (List.mem_append_right _ (List.mem_append_left _ (List.mem_of_getElem? (i := 236) rfl)))), rfl⟩
theorem m_1_6 : (Cond.initialized "RootedTrees$BoundedTrees") ∈ lw_g := List.mem_filter.mpr ⟨(List.mem_append_right _ (List.mem_append_left _ (List.mem_of_getElem? (i := 6) rfl))), rfl⟩
theorem m_3_4 : (Cond.code ⟨"RootedTrees$BoundedTrees", "isBelow", "(II)Z"⟩ prog_2_method_4_code 2 (Option.some .boolean)) ∈ lw_g := List.mem_filter.mpr ⟨(List.mem_append_right _ (List.mem_append_right _ (List.mem_append_right _ (List.mem_append_left _ (List.mem_of_getElem? (i := 4) rfl))))), rfl⟩
theorem m_3_1 : (Cond.code ⟨"RootedTrees$BoundedTrees", "findOneBranch", "(I)V"⟩ prog_2_method_7_code 7 (Option.none : Option FieldType)) ∈ lw_g := List.mem_filter.mpr ⟨(List.mem_append_right _ (List.mem_append_right _ (List.mem_append_right _ (List.mem_append_left _ (List.mem_of_getElem? (i := 1) rfl))))), rfl⟩
theorem m_1_164 : (Cond.fieldLink "RootedTrees$BoundedTrees" 20 "RootedTrees$BoundedTrees" "branch" "[[J") ∈ lw_g := List.mem_filter.mpr ⟨(List.mem_append_right _ (List.mem_append_left _ (List.mem_of_getElem? (i := 164) rfl))), rfl⟩
theorem m_3_2 : (Cond.methodLink "RootedTrees$BoundedTrees" 91 ⟨"RootedTrees$BoundedTrees", "isBelow", "(II)Z"⟩) ∈ lw_g := List.mem_filter.mpr ⟨(List.mem_append_right _ (List.mem_append_right _ (List.mem_append_right _ (List.mem_append_left _ (List.mem_of_getElem? (i := 2) rfl))))), rfl⟩
theorem m_3_3 : (Cond.static ⟨"RootedTrees$BoundedTrees", "isBelow", "(II)Z"⟩) ∈ lw_g := List.mem_filter.mpr ⟨(List.mem_append_right _ (List.mem_append_right _ (List.mem_append_right _ (List.mem_append_left _ (List.mem_of_getElem? (i := 3) rfl))))), rfl⟩
theorem m_3_12 : (Cond.code ⟨"RootedTrees$BoundedTrees", "splitOffOne", "(II)V"⟩ prog_2_method_9_code 10 (Option.none : Option FieldType)) ∈ lw_g := List.mem_filter.mpr ⟨(List.mem_append_right _ (List.mem_append_right _ (List.mem_append_right _ (List.mem_append_left _ (List.mem_of_getElem? (i := 12) rfl))))), rfl⟩
theorem m_3_8 : (Cond.code ⟨"RootedTrees$BoundedTrees", "findBranches", "(I)V"⟩ prog_2_method_8_code 3 (Option.none : Option FieldType)) ∈ lw_g := List.mem_filter.mpr ⟨(List.mem_append_right _ (List.mem_append_right _ (List.mem_append_right _ (List.mem_append_left _ (List.mem_of_getElem? (i := 8) rfl))))), rfl⟩
theorem m_3_9 : (Cond.methodLink "RootedTrees$BoundedTrees" 95 ⟨"RootedTrees$BoundedTrees", "splitOffOne", "(II)V"⟩) ∈ lw_g := List.mem_filter.mpr ⟨(List.mem_append_right _ (List.mem_append_right _ (List.mem_append_right _ (List.mem_append_left _ (List.mem_of_getElem? (i := 9) rfl))))), rfl⟩
theorem m_3_11 : (Cond.instanceMethod ⟨"RootedTrees$BoundedTrees", "splitOffOne", "(II)V"⟩) ∈ lw_g := List.mem_filter.mpr ⟨(List.mem_append_right _ (List.mem_append_right _ (List.mem_append_right _ (List.mem_append_left _ (List.mem_of_getElem? (i := 11) rfl))))), rfl⟩
theorem m_0_14 : (Cond.selects "RootedTrees$BoundedTrees" ⟨"RootedTrees$BoundedTrees", "splitOffOne", "(II)V"⟩ ⟨"RootedTrees$BoundedTrees", "splitOffOne", "(II)V"⟩) ∈ lw_g := List.mem_filter.mpr ⟨(List.mem_append_left _ (List.mem_of_getElem? (i := 14) rfl)), rfl⟩
theorem m_2_217 : (Cond.code ⟨"RootedTrees$BoundedTrees", "leastCost", "(I)J"⟩ prog_2_method_2_code 4 (Option.some .long)) ∈ lw_g := List.mem_filter.mpr ⟨(List.mem_append_right _ (List.mem_append_right _ (List.mem_append_left _ (List.mem_of_getElem? (i := 217) rfl)))), rfl⟩
theorem m_2_238 : (Cond.methodLink "RootedTrees$BoundedTrees" 50 ⟨"RootedTrees$BoundedTrees", "findOneBranch", "(I)V"⟩) ∈ lw_g := List.mem_filter.mpr ⟨(List.mem_append_right _ (List.mem_append_right _ (List.mem_append_left _ (List.mem_of_getElem? (i := 238) rfl)))), rfl⟩
theorem m_3_0 : (Cond.instanceMethod ⟨"RootedTrees$BoundedTrees", "findOneBranch", "(I)V"⟩) ∈ lw_g := List.mem_filter.mpr ⟨(List.mem_append_right _ (List.mem_append_right _ (List.mem_append_right _ (List.mem_append_left _ (List.mem_of_getElem? (i := 0) rfl))))), rfl⟩
theorem m_0_12 : (Cond.selects "RootedTrees$BoundedTrees" ⟨"RootedTrees$BoundedTrees", "findOneBranch", "(I)V"⟩ ⟨"RootedTrees$BoundedTrees", "findOneBranch", "(I)V"⟩) ∈ lw_g := List.mem_filter.mpr ⟨(List.mem_append_left _ (List.mem_of_getElem? (i := 12) rfl)), rfl⟩
theorem m_3_5 : (Cond.methodLink "RootedTrees$BoundedTrees" 54 ⟨"RootedTrees$BoundedTrees", "findBranches", "(I)V"⟩) ∈ lw_g := List.mem_filter.mpr ⟨(List.mem_append_right _ (List.mem_append_right _ (List.mem_append_right _ (List.mem_append_left _ (List.mem_of_getElem? (i := 5) rfl))))), rfl⟩
theorem m_3_7 : (Cond.instanceMethod ⟨"RootedTrees$BoundedTrees", "findBranches", "(I)V"⟩) ∈ lw_g := List.mem_filter.mpr ⟨(List.mem_append_right _ (List.mem_append_right _ (List.mem_append_right _ (List.mem_append_left _ (List.mem_of_getElem? (i := 7) rfl))))), rfl⟩
theorem m_0_13 : (Cond.selects "RootedTrees$BoundedTrees" ⟨"RootedTrees$BoundedTrees", "findBranches", "(I)V"⟩ ⟨"RootedTrees$BoundedTrees", "findBranches", "(I)V"⟩) ∈ lw_g := List.mem_filter.mpr ⟨(List.mem_append_left _ (List.mem_of_getElem? (i := 13) rfl)), rfl⟩
theorem m_1_51 : (Cond.fieldLink "RootedTrees$BoundedTrees" 26 "RootedTrees$Graph" "nodes" "I") ∈ lw_g := List.mem_filter.mpr ⟨(List.mem_append_right _ (List.mem_append_left _ (List.mem_of_getElem? (i := 51) rfl))), rfl⟩
theorem m_2_218 : (Cond.methodLink "RootedTrees$BoundedTrees" 32 ⟨"java/lang/Math", "min", "(II)I"⟩) ∈ lw_g := List.mem_filter.mpr ⟨(List.mem_append_right _ (List.mem_append_right _ (List.mem_append_left _ (List.mem_of_getElem? (i := 218) rfl)))), rfl⟩
theorem m_2_220 : (Cond.methodLink "RootedTrees$BoundedTrees" 44 ⟨"RootedTrees$BoundedTrees", "findBetween", "()V"⟩) ∈ lw_g := List.mem_filter.mpr ⟨(List.mem_append_right _ (List.mem_append_right _ (List.mem_append_left _ (List.mem_of_getElem? (i := 220) rfl)))), rfl⟩
theorem m_2_222 : (Cond.instanceMethod ⟨"RootedTrees$BoundedTrees", "findBetween", "()V"⟩) ∈ lw_g := List.mem_filter.mpr ⟨(List.mem_append_right _ (List.mem_append_right _ (List.mem_append_left _ (List.mem_of_getElem? (i := 222) rfl)))), rfl⟩
theorem m_0_10 : (Cond.selects "RootedTrees$BoundedTrees" ⟨"RootedTrees$BoundedTrees", "findBetween", "()V"⟩ ⟨"RootedTrees$BoundedTrees", "findBetween", "()V"⟩) ∈ lw_g := List.mem_filter.mpr ⟨(List.mem_append_left _ (List.mem_of_getElem? (i := 10) rfl)), rfl⟩
theorem m_2_231 : (Cond.methodLink "RootedTrees$BoundedTrees" 47 ⟨"RootedTrees$BoundedTrees", "startEmpty", "()V"⟩) ∈ lw_g := List.mem_filter.mpr ⟨(List.mem_append_right _ (List.mem_append_right _ (List.mem_append_left _ (List.mem_of_getElem? (i := 231) rfl)))), rfl⟩
theorem m_2_233 : (Cond.instanceMethod ⟨"RootedTrees$BoundedTrees", "startEmpty", "()V"⟩) ∈ lw_g := List.mem_filter.mpr ⟨(List.mem_append_right _ (List.mem_append_right _ (List.mem_append_left _ (List.mem_of_getElem? (i := 233) rfl)))), rfl⟩
theorem m_0_11 : (Cond.selects "RootedTrees$BoundedTrees" ⟨"RootedTrees$BoundedTrees", "startEmpty", "()V"⟩ ⟨"RootedTrees$BoundedTrees", "startEmpty", "()V"⟩) ∈ lw_g := List.mem_filter.mpr ⟨(List.mem_append_left _ (List.mem_of_getElem? (i := 11) rfl)), rfl⟩
theorem m_3_69 : (Cond.code ⟨"RootedTrees$TreesFromRoot", "weightIn", "(J)I"⟩ prog_9_method_2_code 2 (Option.some .int)) ∈ lw_g := List.mem_filter.mpr ⟨(List.mem_append_right _ (List.mem_append_right _ (List.mem_append_right _ (List.mem_append_left _ (List.mem_of_getElem? (i := 69) rfl))))), rfl⟩
theorem m_3_43 : (Cond.code ⟨"RootedTrees$TreesFromRoot", "fieldOf", "(II)I"⟩ prog_9_method_4_code 3 (Option.some .int)) ∈ lw_g := List.mem_filter.mpr ⟨(List.mem_append_right _ (List.mem_append_right _ (List.mem_append_right _ (List.mem_append_left _ (List.mem_of_getElem? (i := 43) rfl))))), rfl⟩
theorem m_3_76 : (Cond.code ⟨"RootedTrees$TreesFromRoot", "arcIn", "(JII)I"⟩ prog_9_method_3_code 4 (Option.some .int)) ∈ lw_g := List.mem_filter.mpr ⟨(List.mem_append_right _ (List.mem_append_right _ (List.mem_append_right _ (List.mem_append_left _ (List.mem_of_getElem? (i := 76) rfl))))), rfl⟩
theorem m_3_41 : (Cond.methodLink "RootedTrees$TreesFromRoot" 35 ⟨"RootedTrees$TreesFromRoot", "fieldOf", "(II)I"⟩) ∈ lw_g := List.mem_filter.mpr ⟨(List.mem_append_right _ (List.mem_append_right _ (List.mem_append_right _ (List.mem_append_left _ (List.mem_of_getElem? (i := 41) rfl))))), rfl⟩
theorem m_3_42 : (Cond.static ⟨"RootedTrees$TreesFromRoot", "fieldOf", "(II)I"⟩) ∈ lw_g := List.mem_filter.mpr ⟨(List.mem_append_right _ (List.mem_append_right _ (List.mem_append_right _ (List.mem_append_left _ (List.mem_of_getElem? (i := 42) rfl))))), rfl⟩
theorem m_1_7 : (Cond.initialized "RootedTrees$TreesFromRoot") ∈ lw_g := List.mem_filter.mpr ⟨(List.mem_append_right _ (List.mem_append_left _ (List.mem_of_getElem? (i := 7) rfl))), rfl⟩
theorem m_3_84 : (Cond.code ⟨"RootedTrees$TreesFromRoot", "outOfReach", "(I)I"⟩ prog_9_method_5_code 6 (Option.some .int)) ∈ lw_g := List.mem_filter.mpr ⟨(List.mem_append_right _ (List.mem_append_right _ (List.mem_append_right _ (List.mem_append_left _ (List.mem_of_getElem? (i := 84) rfl))))), rfl⟩
theorem m_1_187 : (Cond.fieldLink "RootedTrees$TreesFromRoot" 11 "RootedTrees$TreesFromRoot" "graph" "LRootedTrees$Graph;") ∈ lw_g := List.mem_filter.mpr ⟨(List.mem_append_right _ (List.mem_append_left _ (List.mem_of_getElem? (i := 187) rfl))), rfl⟩
theorem m_1_61 : (Cond.fieldLink "RootedTrees$TreesFromRoot" 45 "RootedTrees$Graph" "size" "I") ∈ lw_g := List.mem_filter.mpr ⟨(List.mem_append_right _ (List.mem_append_left _ (List.mem_of_getElem? (i := 61) rfl))), rfl⟩
theorem m_1_47 : (Cond.fieldLink "RootedTrees$TreesFromRoot" 48 "RootedTrees$Graph" "order" "[I") ∈ lw_g := List.mem_filter.mpr ⟨(List.mem_append_right _ (List.mem_append_left _ (List.mem_of_getElem? (i := 47) rfl))), rfl⟩
theorem m_1_32 : (Cond.fieldLink "RootedTrees$TreesFromRoot" 51 "RootedTrees$Graph" "from" "[I") ∈ lw_g := List.mem_filter.mpr ⟨(List.mem_append_right _ (List.mem_append_left _ (List.mem_of_getElem? (i := 32) rfl))), rfl⟩
theorem m_1_38 : (Cond.fieldLink "RootedTrees$TreesFromRoot" 54 "RootedTrees$Graph" "to" "[I") ∈ lw_g := List.mem_filter.mpr ⟨(List.mem_append_right _ (List.mem_append_left _ (List.mem_of_getElem? (i := 38) rfl))), rfl⟩
theorem m_1_54 : (Cond.fieldLink "RootedTrees$TreesFromRoot" 39 "RootedTrees$Graph" "nodes" "I") ∈ lw_g := List.mem_filter.mpr ⟨(List.mem_append_right _ (List.mem_append_left _ (List.mem_of_getElem? (i := 54) rfl))), rfl⟩
theorem m_3_85 : (Cond.methodLink "RootedTrees$TreesFromRoot" 57 ⟨"RootedTrees$Graph", "allNodes", "()I"⟩) ∈ lw_g := List.mem_filter.mpr ⟨(List.mem_append_right _ (List.mem_append_right _ (List.mem_append_right _ (List.mem_append_left _ (List.mem_of_getElem? (i := 85) rfl))))), rfl⟩
theorem m_3_86 : (Cond.instanceMethod ⟨"RootedTrees$Graph", "allNodes", "()I"⟩) ∈ lw_g := List.mem_filter.mpr ⟨(List.mem_append_right _ (List.mem_append_right _ (List.mem_append_right _ (List.mem_append_left _ (List.mem_of_getElem? (i := 86) rfl))))), rfl⟩
theorem m_3_87 : (Cond.selects "RootedTrees$Graph" ⟨"RootedTrees$Graph", "allNodes", "()I"⟩ ⟨"RootedTrees$Graph", "allNodes", "()I"⟩) ∈ lw_g := List.mem_filter.mpr ⟨(List.mem_append_right _ (List.mem_append_right _ (List.mem_append_right _ (List.mem_append_left _ (List.mem_of_getElem? (i := 87) rfl))))), rfl⟩
theorem m_3_40 : (Cond.code ⟨"RootedTrees$TreesFromRoot", "takeArcs", "(I)V"⟩ prog_9_method_7_code 6 (Option.none : Option FieldType)) ∈ lw_g := List.mem_filter.mpr ⟨(List.mem_append_right _ (List.mem_append_right _ (List.mem_append_right _ (List.mem_append_left _ (List.mem_of_getElem? (i := 40) rfl))))), rfl⟩
theorem m_1_43 : (Cond.fieldLink "RootedTrees$TreesFromRoot" 84 "RootedTrees$Graph" "weight" "[I") ∈ lw_g := List.mem_filter.mpr ⟨(List.mem_append_right _ (List.mem_append_left _ (List.mem_of_getElem? (i := 43) rfl))), rfl⟩
theorem m_1_188 : (Cond.fieldLink "RootedTrees$TreesFromRoot" 15 "RootedTrees$TreesFromRoot" "tail" "[I") ∈ lw_g := List.mem_filter.mpr ⟨(List.mem_append_right _ (List.mem_append_left _ (List.mem_of_getElem? (i := 188) rfl))), rfl⟩
theorem m_1_195 : (Cond.fieldLink "RootedTrees$TreesFromRoot" 81 "RootedTrees$TreesFromRoot" "arcs" "I") ∈ lw_g := List.mem_filter.mpr ⟨(List.mem_append_right _ (List.mem_append_left _ (List.mem_of_getElem? (i := 195) rfl))), rfl⟩
theorem m_1_189 : (Cond.fieldLink "RootedTrees$TreesFromRoot" 19 "RootedTrees$TreesFromRoot" "head" "[I") ∈ lw_g := List.mem_filter.mpr ⟨(List.mem_append_right _ (List.mem_append_left _ (List.mem_of_getElem? (i := 189) rfl))), rfl⟩
theorem m_1_190 : (Cond.fieldLink "RootedTrees$TreesFromRoot" 22 "RootedTrees$TreesFromRoot" "cost" "[J") ∈ lw_g := List.mem_filter.mpr ⟨(List.mem_append_right _ (List.mem_append_left _ (List.mem_of_getElem? (i := 190) rfl))), rfl⟩
theorem m_1_194 : (Cond.fieldLink "RootedTrees$TreesFromRoot" 71 "RootedTrees$TreesFromRoot" "nodes" "I") ∈ lw_g := List.mem_filter.mpr ⟨(List.mem_append_right _ (List.mem_append_left _ (List.mem_of_getElem? (i := 194) rfl))), rfl⟩
theorem m_1_196 : (Cond.fieldLink "RootedTrees$TreesFromRoot" 78 "RootedTrees$TreesFromRoot" "root" "I") ∈ lw_g := List.mem_filter.mpr ⟨(List.mem_append_right _ (List.mem_append_left _ (List.mem_of_getElem? (i := 196) rfl))), rfl⟩
theorem m_3_47 : (Cond.code ⟨"RootedTrees$TreesFromRoot", "chooseArcs", "()Z"⟩ prog_9_method_8_code 3 (Option.some .boolean)) ∈ lw_g := List.mem_filter.mpr ⟨(List.mem_append_right _ (List.mem_append_right _ (List.mem_append_right _ (List.mem_append_left _ (List.mem_of_getElem? (i := 47) rfl))))), rfl⟩
theorem m_1_191 : (Cond.fieldLink "RootedTrees$TreesFromRoot" 26 "RootedTrees$TreesFromRoot" "leastInto" "[J") ∈ lw_g := List.mem_filter.mpr ⟨(List.mem_append_right _ (List.mem_append_left _ (List.mem_of_getElem? (i := 191) rfl))), rfl⟩
theorem m_3_48 : (Cond.constantLong "RootedTrees$TreesFromRoot" 69 1152921504606846976) ∈ lw_g := List.mem_filter.mpr ⟨(List.mem_append_right _ (List.mem_append_right _ (List.mem_append_right _ (List.mem_append_left _ (List.mem_of_getElem? (i := 48) rfl))))), rfl⟩
theorem m_1_192 : (Cond.fieldLink "RootedTrees$TreesFromRoot" 29 "RootedTrees$TreesFromRoot" "before" "[I") ∈ lw_g := List.mem_filter.mpr ⟨(List.mem_append_right _ (List.mem_append_left _ (List.mem_of_getElem? (i := 192) rfl))), rfl⟩
theorem m_3_49 : (Cond.methodLink "RootedTrees$TreesFromRoot" 87 ⟨"java/util/Arrays", "fill", "([JJ)V"⟩) ∈ lw_g := List.mem_filter.mpr ⟨(List.mem_append_right _ (List.mem_append_right _ (List.mem_append_right _ (List.mem_append_left _ (List.mem_of_getElem? (i := 49) rfl))))), rfl⟩
theorem m_3_58 : (Cond.code ⟨"RootedTrees$TreesFromRoot", "isLoose", "(I)Z"⟩ prog_9_method_10_code 2 (Option.some .boolean)) ∈ lw_g := List.mem_filter.mpr ⟨(List.mem_append_right _ (List.mem_append_right _ (List.mem_append_right _ (List.mem_append_left _ (List.mem_of_getElem? (i := 58) rfl))))), rfl⟩
theorem m_1_193 : (Cond.fieldLink "RootedTrees$TreesFromRoot" 32 "RootedTrees$TreesFromRoot" "group" "[I") ∈ lw_g := List.mem_filter.mpr ⟨(List.mem_append_right _ (List.mem_append_left _ (List.mem_of_getElem? (i := 193) rfl))), rfl⟩
theorem m_3_62 : (Cond.code ⟨"RootedTrees$TreesFromRoot", "markRing", "(II)V"⟩ prog_9_method_11_code 5 (Option.none : Option FieldType)) ∈ lw_g := List.mem_filter.mpr ⟨(List.mem_append_right _ (List.mem_append_right _ (List.mem_append_right _ (List.mem_append_left _ (List.mem_of_getElem? (i := 62) rfl))))), rfl⟩
theorem m_3_55 : (Cond.methodLink "RootedTrees$TreesFromRoot" 96 ⟨"RootedTrees$TreesFromRoot", "isLoose", "(I)Z"⟩) ∈ lw_g := List.mem_filter.mpr ⟨(List.mem_append_right _ (List.mem_append_right _ (List.mem_append_right _ (List.mem_append_left _ (List.mem_of_getElem? (i := 55) rfl))))), rfl⟩
theorem m_3_57 : (Cond.instanceMethod ⟨"RootedTrees$TreesFromRoot", "isLoose", "(I)Z"⟩) ∈ lw_g := List.mem_filter.mpr ⟨(List.mem_append_right _ (List.mem_append_right _ (List.mem_append_right _ (List.mem_append_left _ (List.mem_of_getElem? (i := 57) rfl))))), rfl⟩
theorem m_0_18 : (Cond.selects "RootedTrees$TreesFromRoot" ⟨"RootedTrees$TreesFromRoot", "isLoose", "(I)Z"⟩ ⟨"RootedTrees$TreesFromRoot", "isLoose", "(I)Z"⟩) ∈ lw_g := List.mem_filter.mpr ⟨(List.mem_append_left _ (List.mem_of_getElem? (i := 18) rfl)), rfl⟩
theorem m_3_53 : (Cond.code ⟨"RootedTrees$TreesFromRoot", "findRings", "()I"⟩ prog_9_method_9_code 5 (Option.some .int)) ∈ lw_g := List.mem_filter.mpr ⟨(List.mem_append_right _ (List.mem_append_right _ (List.mem_append_right _ (List.mem_append_left _ (List.mem_of_getElem? (i := 53) rfl))))), rfl⟩
theorem m_3_59 : (Cond.methodLink "RootedTrees$TreesFromRoot" 100 ⟨"RootedTrees$TreesFromRoot", "markRing", "(II)V"⟩) ∈ lw_g := List.mem_filter.mpr ⟨(List.mem_append_right _ (List.mem_append_right _ (List.mem_append_right _ (List.mem_append_left _ (List.mem_of_getElem? (i := 59) rfl))))), rfl⟩
theorem m_3_61 : (Cond.instanceMethod ⟨"RootedTrees$TreesFromRoot", "markRing", "(II)V"⟩) ∈ lw_g := List.mem_filter.mpr ⟨(List.mem_append_right _ (List.mem_append_right _ (List.mem_append_right _ (List.mem_append_left _ (List.mem_of_getElem? (i := 61) rfl))))), rfl⟩
theorem m_0_19 : (Cond.selects "RootedTrees$TreesFromRoot" ⟨"RootedTrees$TreesFromRoot", "markRing", "(II)V"⟩ ⟨"RootedTrees$TreesFromRoot", "markRing", "(II)V"⟩) ∈ lw_g := List.mem_filter.mpr ⟨(List.mem_append_left _ (List.mem_of_getElem? (i := 19) rfl)), rfl⟩
theorem m_3_54 : (Cond.methodLink "RootedTrees$TreesFromRoot" 93 ⟨"java/util/Arrays", "fill", "([II)V"⟩) ∈ lw_g := List.mem_filter.mpr ⟨(List.mem_append_right _ (List.mem_append_right _ (List.mem_append_right _ (List.mem_append_left _ (List.mem_of_getElem? (i := 54) rfl))))), rfl⟩
theorem m_3_66 : (Cond.code ⟨"RootedTrees$TreesFromRoot", "contract", "(I)V"⟩ prog_9_method_12_code 7 (Option.none : Option FieldType)) ∈ lw_g := List.mem_filter.mpr ⟨(List.mem_append_right _ (List.mem_append_right _ (List.mem_append_right _ (List.mem_append_left _ (List.mem_of_getElem? (i := 66) rfl))))), rfl⟩
theorem m_3_36 : (Cond.code ⟨"RootedTrees$TreesFromRoot", "leastCost", "(I)J"⟩ prog_9_method_6_code 6 (Option.some .long)) ∈ lw_g := List.mem_filter.mpr ⟨(List.mem_append_right _ (List.mem_append_right _ (List.mem_append_right _ (List.mem_append_left _ (List.mem_of_getElem? (i := 36) rfl))))), rfl⟩
theorem m_3_50 : (Cond.methodLink "RootedTrees$TreesFromRoot" 72 ⟨"RootedTrees$TreesFromRoot", "findRings", "()I"⟩) ∈ lw_g := List.mem_filter.mpr ⟨(List.mem_append_right _ (List.mem_append_right _ (List.mem_append_right _ (List.mem_append_left _ (List.mem_of_getElem? (i := 50) rfl))))), rfl⟩
theorem m_3_52 : (Cond.instanceMethod ⟨"RootedTrees$TreesFromRoot", "findRings", "()I"⟩) ∈ lw_g := List.mem_filter.mpr ⟨(List.mem_append_right _ (List.mem_append_right _ (List.mem_append_right _ (List.mem_append_left _ (List.mem_of_getElem? (i := 52) rfl))))), rfl⟩
theorem m_0_17 : (Cond.selects "RootedTrees$TreesFromRoot" ⟨"RootedTrees$TreesFromRoot", "findRings", "()I"⟩ ⟨"RootedTrees$TreesFromRoot", "findRings", "()I"⟩) ∈ lw_g := List.mem_filter.mpr ⟨(List.mem_append_left _ (List.mem_of_getElem? (i := 17) rfl)), rfl⟩
theorem m_3_63 : (Cond.methodLink "RootedTrees$TreesFromRoot" 75 ⟨"RootedTrees$TreesFromRoot", "contract", "(I)V"⟩) ∈ lw_g := List.mem_filter.mpr ⟨(List.mem_append_right _ (List.mem_append_right _ (List.mem_append_right _ (List.mem_append_left _ (List.mem_of_getElem? (i := 63) rfl))))), rfl⟩
theorem m_3_65 : (Cond.instanceMethod ⟨"RootedTrees$TreesFromRoot", "contract", "(I)V"⟩) ∈ lw_g := List.mem_filter.mpr ⟨(List.mem_append_right _ (List.mem_append_right _ (List.mem_append_right _ (List.mem_append_left _ (List.mem_of_getElem? (i := 65) rfl))))), rfl⟩
theorem m_0_20 : (Cond.selects "RootedTrees$TreesFromRoot" ⟨"RootedTrees$TreesFromRoot", "contract", "(I)V"⟩ ⟨"RootedTrees$TreesFromRoot", "contract", "(I)V"⟩) ∈ lw_g := List.mem_filter.mpr ⟨(List.mem_append_left _ (List.mem_of_getElem? (i := 20) rfl)), rfl⟩
theorem m_3_44 : (Cond.methodLink "RootedTrees$TreesFromRoot" 65 ⟨"RootedTrees$TreesFromRoot", "chooseArcs", "()Z"⟩) ∈ lw_g := List.mem_filter.mpr ⟨(List.mem_append_right _ (List.mem_append_right _ (List.mem_append_right _ (List.mem_append_left _ (List.mem_of_getElem? (i := 44) rfl))))), rfl⟩
theorem m_3_46 : (Cond.instanceMethod ⟨"RootedTrees$TreesFromRoot", "chooseArcs", "()Z"⟩) ∈ lw_g := List.mem_filter.mpr ⟨(List.mem_append_right _ (List.mem_append_right _ (List.mem_append_right _ (List.mem_append_left _ (List.mem_of_getElem? (i := 46) rfl))))), rfl⟩
theorem m_0_16 : (Cond.selects "RootedTrees$TreesFromRoot" ⟨"RootedTrees$TreesFromRoot", "chooseArcs", "()Z"⟩ ⟨"RootedTrees$TreesFromRoot", "chooseArcs", "()Z"⟩) ∈ lw_g := List.mem_filter.mpr ⟨(List.mem_append_left _ (List.mem_of_getElem? (i := 16) rfl)), rfl⟩
theorem m_3_37 : (Cond.methodLink "RootedTrees$TreesFromRoot" 61 ⟨"RootedTrees$TreesFromRoot", "takeArcs", "(I)V"⟩) ∈ lw_g := List.mem_filter.mpr ⟨(List.mem_append_right _ (List.mem_append_right _ (List.mem_append_right _ (List.mem_append_left _ (List.mem_of_getElem? (i := 37) rfl))))), rfl⟩
theorem m_3_39 : (Cond.instanceMethod ⟨"RootedTrees$TreesFromRoot", "takeArcs", "(I)V"⟩) ∈ lw_g := List.mem_filter.mpr ⟨(List.mem_append_right _ (List.mem_append_right _ (List.mem_append_right _ (List.mem_append_left _ (List.mem_of_getElem? (i := 39) rfl))))), rfl⟩
theorem m_0_15 : (Cond.selects "RootedTrees$TreesFromRoot" ⟨"RootedTrees$TreesFromRoot", "takeArcs", "(I)V"⟩ ⟨"RootedTrees$TreesFromRoot", "takeArcs", "(I)V"⟩) ∈ lw_g := List.mem_filter.mpr ⟨(List.mem_append_left _ (List.mem_of_getElem? (i := 15) rfl)), rfl⟩
theorem m_3_107 : (Cond.code ⟨"RootedTrees$JoiningTrees", "treeCost", "(IJ)J"⟩ prog_6_method_3_code 11 (Option.some .long)) ∈ lw_g := List.mem_filter.mpr ⟨(List.mem_append_right _ (List.mem_append_right _ (List.mem_append_right _ (List.mem_append_left _ (List.mem_of_getElem? (i := 107) rfl))))), rfl⟩
theorem m_3_102 : (Cond.constantLong "RootedTrees$JoiningTrees" 22 1152921504606846976) ∈ lw_g := List.mem_filter.mpr ⟨(List.mem_append_right _ (List.mem_append_right _ (List.mem_append_right _ (List.mem_append_left _ (List.mem_of_getElem? (i := 102) rfl))))), rfl⟩
theorem m_1_226 : (Cond.fieldLink "RootedTrees$JoiningTrees" 9 "RootedTrees$JoiningTrees" "graph" "LRootedTrees$Graph;") ∈ lw_g := List.mem_filter.mpr ⟨(List.mem_append_right _ (List.mem_append_left _ (List.mem_of_getElem? (i := 226) rfl))), rfl⟩
theorem m_1_59 : (Cond.fieldLink "RootedTrees$JoiningTrees" 54 "RootedTrees$Graph" "size" "I") ∈ lw_g := List.mem_filter.mpr ⟨(List.mem_append_right _ (List.mem_append_left _ (List.mem_of_getElem? (i := 59) rfl))), rfl⟩
theorem m_1_46 : (Cond.fieldLink "RootedTrees$JoiningTrees" 57 "RootedTrees$Graph" "order" "[I") ∈ lw_g := List.mem_filter.mpr ⟨(List.mem_append_right _ (List.mem_append_left _ (List.mem_of_getElem? (i := 46) rfl))), rfl⟩
theorem m_1_31 : (Cond.fieldLink "RootedTrees$JoiningTrees" 61 "RootedTrees$Graph" "from" "[I") ∈ lw_g := List.mem_filter.mpr ⟨(List.mem_append_right _ (List.mem_append_left _ (List.mem_of_getElem? (i := 31) rfl))), rfl⟩
theorem m_1_36 : (Cond.fieldLink "RootedTrees$JoiningTrees" 64 "RootedTrees$Graph" "to" "[I") ∈ lw_g := List.mem_filter.mpr ⟨(List.mem_append_right _ (List.mem_append_left _ (List.mem_of_getElem? (i := 36) rfl))), rfl⟩
theorem m_1_227 : (Cond.fieldLink "RootedTrees$JoiningTrees" 18 "RootedTrees$JoiningTrees" "labels" "LRootedTrees$Labels;") ∈ lw_g := List.mem_filter.mpr ⟨(List.mem_append_right _ (List.mem_append_left _ (List.mem_of_getElem? (i := 227) rfl))), rfl⟩
theorem m_3_115 : (Cond.methodLink "RootedTrees$JoiningTrees" 67 ⟨"RootedTrees$Labels", "unite", "(II)Z"⟩) ∈ lw_g := List.mem_filter.mpr ⟨(List.mem_append_right _ (List.mem_append_right _ (List.mem_append_right _ (List.mem_append_left _ (List.mem_of_getElem? (i := 115) rfl))))), rfl⟩
theorem m_1_40 : (Cond.fieldLink "RootedTrees$JoiningTrees" 71 "RootedTrees$Graph" "weight" "[I") ∈ lw_g := List.mem_filter.mpr ⟨(List.mem_append_right _ (List.mem_append_left _ (List.mem_of_getElem? (i := 40) rfl))), rfl⟩
theorem m_3_116 : (Cond.methodLink "RootedTrees$JoiningTrees" 74 ⟨"RootedTrees$Cost", "of", "(II)J"⟩) ∈ lw_g := List.mem_filter.mpr ⟨(List.mem_append_right _ (List.mem_append_right _ (List.mem_append_right _ (List.mem_append_left _ (List.mem_of_getElem? (i := 116) rfl))))), rfl⟩
theorem m_1_53 : (Cond.fieldLink "RootedTrees$JoiningTrees" 40 "RootedTrees$Graph" "nodes" "I") ∈ lw_g := List.mem_filter.mpr ⟨(List.mem_append_right _ (List.mem_append_left _ (List.mem_of_getElem? (i := 53) rfl))), rfl⟩
theorem m_3_108 : (Cond.methodLink "RootedTrees$JoiningTrees" 44 ⟨"RootedTrees$Labels", "separate", "(I)V"⟩) ∈ lw_g := List.mem_filter.mpr ⟨(List.mem_append_right _ (List.mem_append_right _ (List.mem_append_right _ (List.mem_append_left _ (List.mem_of_getElem? (i := 108) rfl))))), rfl⟩
theorem m_3_109 : (Cond.methodLink "RootedTrees$JoiningTrees" 48 ⟨"java/lang/Integer", "bitCount", "(I)I"⟩) ∈ lw_g := List.mem_filter.mpr ⟨(List.mem_append_right _ (List.mem_append_right _ (List.mem_append_right _ (List.mem_append_left _ (List.mem_of_getElem? (i := 109) rfl))))), rfl⟩
theorem m_3_110 : (Cond.static ⟨"java/lang/Integer", "bitCount", "(I)I"⟩) ∈ lw_g := List.mem_filter.mpr ⟨(List.mem_append_right _ (List.mem_append_right _ (List.mem_append_right _ (List.mem_append_left _ (List.mem_of_getElem? (i := 110) rfl))))), rfl⟩
theorem m_1_14 : (Cond.initialized "java/lang/Integer") ∈ lw_g := List.mem_filter.mpr ⟨(List.mem_append_right _ (List.mem_append_left _ (List.mem_of_getElem? (i := 14) rfl))), rfl⟩
theorem m_3_101 : (Cond.code ⟨"RootedTrees$JoiningTrees", "leastCost", "(I)J"⟩ prog_6_method_2_code 6 (Option.some .long)) ∈ lw_g := List.mem_filter.mpr ⟨(List.mem_append_right _ (List.mem_append_right _ (List.mem_append_right _ (List.mem_append_left _ (List.mem_of_getElem? (i := 101) rfl))))), rfl⟩
theorem m_3_104 : (Cond.methodLink "RootedTrees$JoiningTrees" 30 ⟨"RootedTrees$JoiningTrees", "treeCost", "(IJ)J"⟩) ∈ lw_g := List.mem_filter.mpr ⟨(List.mem_append_right _ (List.mem_append_right _ (List.mem_append_right _ (List.mem_append_left _ (List.mem_of_getElem? (i := 104) rfl))))), rfl⟩
theorem m_3_106 : (Cond.instanceMethod ⟨"RootedTrees$JoiningTrees", "treeCost", "(IJ)J"⟩) ∈ lw_g := List.mem_filter.mpr ⟨(List.mem_append_right _ (List.mem_append_right _ (List.mem_append_right _ (List.mem_append_left _ (List.mem_of_getElem? (i := 106) rfl))))), rfl⟩
theorem m_0_22 : (Cond.selects "RootedTrees$JoiningTrees" ⟨"RootedTrees$JoiningTrees", "treeCost", "(IJ)J"⟩ ⟨"RootedTrees$JoiningTrees", "treeCost", "(IJ)J"⟩) ∈ lw_g := List.mem_filter.mpr ⟨(List.mem_append_left _ (List.mem_of_getElem? (i := 22) rfl)), rfl⟩
theorem m_1_8 : (Cond.initialized "RootedTrees$JoiningTrees") ∈ lw_g := List.mem_filter.mpr ⟨(List.mem_append_right _ (List.mem_append_left _ (List.mem_of_getElem? (i := 8) rfl))), rfl⟩
theorem m_3_117 : (Cond.methodLink "RootedTrees$JoiningTrees" 34 ⟨"java/lang/Math", "min", "(JJ)J"⟩) ∈ lw_g := List.mem_filter.mpr ⟨(List.mem_append_right _ (List.mem_append_right _ (List.mem_append_right _ (List.mem_append_left _ (List.mem_of_getElem? (i := 117) rfl))))), rfl⟩
theorem m_3_103 : (Cond.methodLink "RootedTrees$JoiningTrees" 24 ⟨"RootedTrees$Graph", "allNodes", "()I"⟩) ∈ lw_g := List.mem_filter.mpr ⟨(List.mem_append_right _ (List.mem_append_right _ (List.mem_append_right _ (List.mem_append_left _ (List.mem_of_getElem? (i := 103) rfl))))), rfl⟩
theorem m_2_12 : (Cond.code ⟨"RootedTrees", "node", "()I"⟩ prog_1_method_2_code 1 (Option.some .int)) ∈ lw_g := List.mem_filter.mpr ⟨(List.mem_append_right _ (List.mem_append_right _ (List.mem_append_left _ (List.mem_of_getElem? (i := 12) rfl)))), rfl⟩
theorem m_1_233 : (Cond.fieldLink "RootedTrees" 10 "RootedTrees" "graph" "LRootedTrees$Graph;") ∈ lw_g := List.mem_filter.mpr ⟨(List.mem_append_right _ (List.mem_append_left _ (List.mem_of_getElem? (i := 233) rfl))), rfl⟩
theorem m_1_50 : (Cond.fieldLink "RootedTrees" 46 "RootedTrees$Graph" "nodes" "I") ∈ lw_g := List.mem_filter.mpr ⟨(List.mem_append_right _ (List.mem_append_left _ (List.mem_of_getElem? (i := 50) rfl))), rfl⟩
theorem m_2_13 : (Cond.methodLink "RootedTrees" 50 ⟨"RootedTrees$Graph", "addNode", "()I"⟩) ∈ lw_g := List.mem_filter.mpr ⟨(List.mem_append_right _ (List.mem_append_right _ (List.mem_append_left _ (List.mem_of_getElem? (i := 13) rfl)))), rfl⟩
theorem m_2_14 : (Cond.instanceMethod ⟨"RootedTrees$Graph", "addNode", "()I"⟩) ∈ lw_g := List.mem_filter.mpr ⟨(List.mem_append_right _ (List.mem_append_right _ (List.mem_append_left _ (List.mem_of_getElem? (i := 14) rfl)))), rfl⟩
theorem m_2_15 : (Cond.selects "RootedTrees$Graph" ⟨"RootedTrees$Graph", "addNode", "()I"⟩ ⟨"RootedTrees$Graph", "addNode", "()I"⟩) ∈ lw_g := List.mem_filter.mpr ⟨(List.mem_append_right _ (List.mem_append_right _ (List.mem_append_left _ (List.mem_of_getElem? (i := 15) rfl)))), rfl⟩
theorem m_2_27 : (Cond.code ⟨"RootedTrees", "isWeight", "(I)Z"⟩ prog_1_method_22_code 1 (Option.some .boolean)) ∈ lw_g := List.mem_filter.mpr ⟨(List.mem_append_right _ (List.mem_append_right _ (List.mem_append_left _ (List.mem_of_getElem? (i := 27) rfl)))), rfl⟩
theorem m_2_20 : (Cond.code ⟨"RootedTrees", "arc", "(III)I"⟩ prog_1_method_3_code 4 (Option.some .int)) ∈ lw_g := List.mem_filter.mpr ⟨(List.mem_append_right _ (List.mem_append_right _ (List.mem_append_left _ (List.mem_of_getElem? (i := 20) rfl)))), rfl⟩
theorem m_2_21 : (Cond.methodLink "RootedTrees" 54 ⟨"RootedTrees$Graph", "hasNode", "(I)Z"⟩) ∈ lw_g := List.mem_filter.mpr ⟨(List.mem_append_right _ (List.mem_append_right _ (List.mem_append_left _ (List.mem_of_getElem? (i := 21) rfl)))), rfl⟩
theorem m_2_22 : (Cond.instanceMethod ⟨"RootedTrees$Graph", "hasNode", "(I)Z"⟩) ∈ lw_g := List.mem_filter.mpr ⟨(List.mem_append_right _ (List.mem_append_right _ (List.mem_append_left _ (List.mem_of_getElem? (i := 22) rfl)))), rfl⟩
theorem m_2_23 : (Cond.selects "RootedTrees$Graph" ⟨"RootedTrees$Graph", "hasNode", "(I)Z"⟩ ⟨"RootedTrees$Graph", "hasNode", "(I)Z"⟩) ∈ lw_g := List.mem_filter.mpr ⟨(List.mem_append_right _ (List.mem_append_right _ (List.mem_append_left _ (List.mem_of_getElem? (i := 23) rfl)))), rfl⟩
theorem m_2_25 : (Cond.methodLink "RootedTrees" 58 ⟨"RootedTrees", "isWeight", "(I)Z"⟩) ∈ lw_g := List.mem_filter.mpr ⟨(List.mem_append_right _ (List.mem_append_right _ (List.mem_append_left _ (List.mem_of_getElem? (i := 25) rfl)))), rfl⟩
theorem m_2_26 : (Cond.static ⟨"RootedTrees", "isWeight", "(I)Z"⟩) ∈ lw_g := List.mem_filter.mpr ⟨(List.mem_append_right _ (List.mem_append_right _ (List.mem_append_left _ (List.mem_of_getElem? (i := 26) rfl)))), rfl⟩
theorem m_1_1 : (Cond.initialized "RootedTrees") ∈ lw_g := List.mem_filter.mpr ⟨(List.mem_append_right _ (List.mem_append_left _ (List.mem_of_getElem? (i := 1) rfl))), rfl⟩
theorem m_1_56 : (Cond.fieldLink "RootedTrees" 61 "RootedTrees$Graph" "numbered" "I") ∈ lw_g := List.mem_filter.mpr ⟨(List.mem_append_right _ (List.mem_append_left _ (List.mem_of_getElem? (i := 56) rfl))), rfl⟩
theorem m_2_28 : (Cond.methodLink "RootedTrees" 64 ⟨"RootedTrees$Graph", "addArc", "(III)I"⟩) ∈ lw_g := List.mem_filter.mpr ⟨(List.mem_append_right _ (List.mem_append_right _ (List.mem_append_left _ (List.mem_of_getElem? (i := 28) rfl)))), rfl⟩
theorem m_2_29 : (Cond.instanceMethod ⟨"RootedTrees$Graph", "addArc", "(III)I"⟩) ∈ lw_g := List.mem_filter.mpr ⟨(List.mem_append_right _ (List.mem_append_right _ (List.mem_append_left _ (List.mem_of_getElem? (i := 29) rfl)))), rfl⟩
theorem m_2_30 : (Cond.selects "RootedTrees$Graph" ⟨"RootedTrees$Graph", "addArc", "(III)I"⟩ ⟨"RootedTrees$Graph", "addArc", "(III)I"⟩) ∈ lw_g := List.mem_filter.mpr ⟨(List.mem_append_right _ (List.mem_append_right _ (List.mem_append_left _ (List.mem_of_getElem? (i := 30) rfl)))), rfl⟩
theorem m_2_43 : (Cond.code ⟨"RootedTrees", "change", "(II)I"⟩ prog_1_method_4_code 3 (Option.some .int)) ∈ lw_g := List.mem_filter.mpr ⟨(List.mem_append_right _ (List.mem_append_right _ (List.mem_append_left _ (List.mem_of_getElem? (i := 43) rfl)))), rfl⟩
theorem m_2_44 : (Cond.methodLink "RootedTrees" 68 ⟨"RootedTrees$Graph", "hasArc", "(I)Z"⟩) ∈ lw_g := List.mem_filter.mpr ⟨(List.mem_append_right _ (List.mem_append_right _ (List.mem_append_left _ (List.mem_of_getElem? (i := 44) rfl)))), rfl⟩
theorem m_2_45 : (Cond.instanceMethod ⟨"RootedTrees$Graph", "hasArc", "(I)Z"⟩) ∈ lw_g := List.mem_filter.mpr ⟨(List.mem_append_right _ (List.mem_append_right _ (List.mem_append_left _ (List.mem_of_getElem? (i := 45) rfl)))), rfl⟩
theorem m_2_46 : (Cond.selects "RootedTrees$Graph" ⟨"RootedTrees$Graph", "hasArc", "(I)Z"⟩ ⟨"RootedTrees$Graph", "hasArc", "(I)Z"⟩) ∈ lw_g := List.mem_filter.mpr ⟨(List.mem_append_right _ (List.mem_append_right _ (List.mem_append_left _ (List.mem_of_getElem? (i := 46) rfl)))), rfl⟩
theorem m_2_51 : (Cond.methodLink "RootedTrees" 71 ⟨"RootedTrees$Graph", "reweigh", "(II)I"⟩) ∈ lw_g := List.mem_filter.mpr ⟨(List.mem_append_right _ (List.mem_append_right _ (List.mem_append_left _ (List.mem_of_getElem? (i := 51) rfl)))), rfl⟩
theorem m_2_52 : (Cond.instanceMethod ⟨"RootedTrees$Graph", "reweigh", "(II)I"⟩) ∈ lw_g := List.mem_filter.mpr ⟨(List.mem_append_right _ (List.mem_append_right _ (List.mem_append_left _ (List.mem_of_getElem? (i := 52) rfl)))), rfl⟩
theorem m_2_53 : (Cond.selects "RootedTrees$Graph" ⟨"RootedTrees$Graph", "reweigh", "(II)I"⟩ ⟨"RootedTrees$Graph", "reweigh", "(II)I"⟩) ∈ lw_g := List.mem_filter.mpr ⟨(List.mem_append_right _ (List.mem_append_right _ (List.mem_append_left _ (List.mem_of_getElem? (i := 53) rfl)))), rfl⟩
theorem m_2_62 : (Cond.code ⟨"RootedTrees", "drop", "(I)I"⟩ prog_1_method_5_code 2 (Option.some .int)) ∈ lw_g := List.mem_filter.mpr ⟨(List.mem_append_right _ (List.mem_append_right _ (List.mem_append_left _ (List.mem_of_getElem? (i := 62) rfl)))), rfl⟩
theorem m_2_63 : (Cond.methodLink "RootedTrees" 75 ⟨"RootedTrees$Graph", "removeArc", "(I)I"⟩) ∈ lw_g := List.mem_filter.mpr ⟨(List.mem_append_right _ (List.mem_append_right _ (List.mem_append_left _ (List.mem_of_getElem? (i := 63) rfl)))), rfl⟩
theorem m_2_64 : (Cond.instanceMethod ⟨"RootedTrees$Graph", "removeArc", "(I)I"⟩) ∈ lw_g := List.mem_filter.mpr ⟨(List.mem_append_right _ (List.mem_append_right _ (List.mem_append_left _ (List.mem_of_getElem? (i := 64) rfl)))), rfl⟩
theorem m_2_65 : (Cond.selects "RootedTrees$Graph" ⟨"RootedTrees$Graph", "removeArc", "(I)I"⟩ ⟨"RootedTrees$Graph", "removeArc", "(I)I"⟩) ∈ lw_g := List.mem_filter.mpr ⟨(List.mem_append_right _ (List.mem_append_right _ (List.mem_append_left _ (List.mem_of_getElem? (i := 65) rfl)))), rfl⟩
theorem m_2_71 : (Cond.code ⟨"RootedTrees", "clear", "()I"⟩ prog_1_method_6_code 2 (Option.some .int)) ∈ lw_g := List.mem_filter.mpr ⟨(List.mem_append_right _ (List.mem_append_right _ (List.mem_append_left _ (List.mem_of_getElem? (i := 71) rfl)))), rfl⟩
theorem m_2_72 : (Cond.methodLink "RootedTrees" 79 ⟨"RootedTrees$Graph", "empty", "()V"⟩) ∈ lw_g := List.mem_filter.mpr ⟨(List.mem_append_right _ (List.mem_append_right _ (List.mem_append_left _ (List.mem_of_getElem? (i := 72) rfl)))), rfl⟩
theorem m_2_73 : (Cond.instanceMethod ⟨"RootedTrees$Graph", "empty", "()V"⟩) ∈ lw_g := List.mem_filter.mpr ⟨(List.mem_append_right _ (List.mem_append_right _ (List.mem_append_left _ (List.mem_of_getElem? (i := 73) rfl)))), rfl⟩
theorem m_2_74 : (Cond.selects "RootedTrees$Graph" ⟨"RootedTrees$Graph", "empty", "()V"⟩ ⟨"RootedTrees$Graph", "empty", "()V"⟩) ∈ lw_g := List.mem_filter.mpr ⟨(List.mem_append_right _ (List.mem_append_right _ (List.mem_append_left _ (List.mem_of_getElem? (i := 74) rfl)))), rfl⟩
theorem m_2_79 : (Cond.code ⟨"RootedTrees", "parts", "()I"⟩ prog_1_method_7_code 1 (Option.some .int)) ∈ lw_g := List.mem_filter.mpr ⟨(List.mem_append_right _ (List.mem_append_right _ (List.mem_append_left _ (List.mem_of_getElem? (i := 79) rfl)))), rfl⟩
theorem m_1_234 : (Cond.fieldLink "RootedTrees" 21 "RootedTrees" "forests" "LRootedTrees$Forests;") ∈ lw_g := List.mem_filter.mpr ⟨(List.mem_append_right _ (List.mem_append_left _ (List.mem_of_getElem? (i := 234) rfl))), rfl⟩
theorem m_2_80 : (Cond.methodLink "RootedTrees" 82 ⟨"RootedTrees$Forests", "countParts", "()I"⟩) ∈ lw_g := List.mem_filter.mpr ⟨(List.mem_append_right _ (List.mem_append_right _ (List.mem_append_left _ (List.mem_of_getElem? (i := 80) rfl)))), rfl⟩
theorem m_2_105 : (Cond.code ⟨"RootedTrees", "least", "()I"⟩ prog_1_method_8_code 1 (Option.some .int)) ∈ lw_g := List.mem_filter.mpr ⟨(List.mem_append_right _ (List.mem_append_right _ (List.mem_append_left _ (List.mem_of_getElem? (i := 105) rfl)))), rfl⟩
theorem m_2_106 : (Cond.methodLink "RootedTrees" 85 ⟨"RootedTrees$Forests", "findLeast", "()J"⟩) ∈ lw_g := List.mem_filter.mpr ⟨(List.mem_append_right _ (List.mem_append_right _ (List.mem_append_left _ (List.mem_of_getElem? (i := 106) rfl)))), rfl⟩
theorem m_2_107 : (Cond.methodLink "RootedTrees" 89 ⟨"RootedTrees$Graph", "weightOf", "(J)I"⟩) ∈ lw_g := List.mem_filter.mpr ⟨(List.mem_append_right _ (List.mem_append_right _ (List.mem_append_left _ (List.mem_of_getElem? (i := 107) rfl)))), rfl⟩
theorem m_2_114 : (Cond.code ⟨"RootedTrees", "leastSet", "()J"⟩ prog_1_method_9_code 1 (Option.some .long)) ∈ lw_g := List.mem_filter.mpr ⟨(List.mem_append_right _ (List.mem_append_right _ (List.mem_append_left _ (List.mem_of_getElem? (i := 114) rfl)))), rfl⟩
theorem m_2_118 : (Cond.code ⟨"RootedTrees", "ties", "()J"⟩ prog_1_method_10_code 1 (Option.some .long)) ∈ lw_g := List.mem_filter.mpr ⟨(List.mem_append_right _ (List.mem_append_right _ (List.mem_append_left _ (List.mem_of_getElem? (i := 118) rfl)))), rfl⟩
theorem m_2_119 : (Cond.methodLink "RootedTrees" 93 ⟨"RootedTrees$Forests", "countLeast", "()J"⟩) ∈ lw_g := List.mem_filter.mpr ⟨(List.mem_append_right _ (List.mem_append_right _ (List.mem_append_left _ (List.mem_of_getElem? (i := 119) rfl)))), rfl⟩
theorem m_2_120 : (Cond.instanceMethod ⟨"RootedTrees$Forests", "countLeast", "()J"⟩) ∈ lw_g := List.mem_filter.mpr ⟨(List.mem_append_right _ (List.mem_append_right _ (List.mem_append_left _ (List.mem_of_getElem? (i := 120) rfl)))), rfl⟩
theorem m_2_121 : (Cond.selects "RootedTrees$Forests" ⟨"RootedTrees$Forests", "countLeast", "()J"⟩ ⟨"RootedTrees$Forests", "countLeast", "()J"⟩) ∈ lw_g := List.mem_filter.mpr ⟨(List.mem_append_right _ (List.mem_append_right _ (List.mem_append_left _ (List.mem_of_getElem? (i := 121) rfl)))), rfl⟩
theorem m_2_156 : (Cond.code ⟨"RootedTrees", "next", "()I"⟩ prog_1_method_11_code 1 (Option.some .int)) ∈ lw_g := List.mem_filter.mpr ⟨(List.mem_append_right _ (List.mem_append_right _ (List.mem_append_left _ (List.mem_of_getElem? (i := 156) rfl)))), rfl⟩
theorem m_2_157 : (Cond.methodLink "RootedTrees" 96 ⟨"RootedTrees$Forests", "findNext", "()Z"⟩) ∈ lw_g := List.mem_filter.mpr ⟨(List.mem_append_right _ (List.mem_append_right _ (List.mem_append_left _ (List.mem_of_getElem? (i := 157) rfl)))), rfl⟩
theorem m_2_158 : (Cond.instanceMethod ⟨"RootedTrees$Forests", "findNext", "()Z"⟩) ∈ lw_g := List.mem_filter.mpr ⟨(List.mem_append_right _ (List.mem_append_right _ (List.mem_append_left _ (List.mem_of_getElem? (i := 158) rfl)))), rfl⟩
theorem m_2_159 : (Cond.selects "RootedTrees$Forests" ⟨"RootedTrees$Forests", "findNext", "()Z"⟩ ⟨"RootedTrees$Forests", "findNext", "()Z"⟩) ∈ lw_g := List.mem_filter.mpr ⟨(List.mem_append_right _ (List.mem_append_right _ (List.mem_append_left _ (List.mem_of_getElem? (i := 159) rfl)))), rfl⟩
theorem m_1_135 : (Cond.fieldLink "RootedTrees" 100 "RootedTrees$Forests" "nextWeight" "I") ∈ lw_g := List.mem_filter.mpr ⟨(List.mem_append_right _ (List.mem_append_left _ (List.mem_of_getElem? (i := 135) rfl))), rfl⟩
theorem m_2_186 : (Cond.code ⟨"RootedTrees", "swap", "(I)I"⟩ prog_1_method_12_code 2 (Option.some .int)) ∈ lw_g := List.mem_filter.mpr ⟨(List.mem_append_right _ (List.mem_append_right _ (List.mem_append_left _ (List.mem_of_getElem? (i := 186) rfl)))), rfl⟩
theorem m_1_137 : (Cond.fieldLink "RootedTrees" 106 "RootedTrees$Forests" "nextIn" "I") ∈ lw_g := List.mem_filter.mpr ⟨(List.mem_append_right _ (List.mem_append_left _ (List.mem_of_getElem? (i := 137) rfl))), rfl⟩
theorem m_1_139 : (Cond.fieldLink "RootedTrees" 103 "RootedTrees$Forests" "nextOut" "I") ∈ lw_g := List.mem_filter.mpr ⟨(List.mem_append_right _ (List.mem_append_left _ (List.mem_of_getElem? (i := 139) rfl))), rfl⟩
theorem m_2_190 : (Cond.code ⟨"RootedTrees", "judge", "(J)I"⟩ prog_1_method_13_code 3 (Option.some .int)) ∈ lw_g := List.mem_filter.mpr ⟨(List.mem_append_right _ (List.mem_append_right _ (List.mem_append_left _ (List.mem_of_getElem? (i := 190) rfl)))), rfl⟩
theorem m_2_191 : (Cond.methodLink "RootedTrees" 109 ⟨"RootedTrees$Forests", "verdict", "(J)I"⟩) ∈ lw_g := List.mem_filter.mpr ⟨(List.mem_append_right _ (List.mem_append_right _ (List.mem_append_left _ (List.mem_of_getElem? (i := 191) rfl)))), rfl⟩
theorem m_2_192 : (Cond.instanceMethod ⟨"RootedTrees$Forests", "verdict", "(J)I"⟩) ∈ lw_g := List.mem_filter.mpr ⟨(List.mem_append_right _ (List.mem_append_right _ (List.mem_append_left _ (List.mem_of_getElem? (i := 192) rfl)))), rfl⟩
theorem m_2_193 : (Cond.selects "RootedTrees$Forests" ⟨"RootedTrees$Forests", "verdict", "(J)I"⟩ ⟨"RootedTrees$Forests", "verdict", "(J)I"⟩) ∈ lw_g := List.mem_filter.mpr ⟨(List.mem_append_right _ (List.mem_append_right _ (List.mem_append_left _ (List.mem_of_getElem? (i := 193) rfl)))), rfl⟩
theorem m_2_199 : (Cond.code ⟨"RootedTrees", "height", "(II)I"⟩ prog_1_method_14_code 3 (Option.some .int)) ∈ lw_g := List.mem_filter.mpr ⟨(List.mem_append_right _ (List.mem_append_right _ (List.mem_append_left _ (List.mem_of_getElem? (i := 199) rfl)))), rfl⟩
theorem m_2_200 : (Cond.methodLink "RootedTrees" 112 ⟨"RootedTrees$Forests", "leastHeight", "(II)I"⟩) ∈ lw_g := List.mem_filter.mpr ⟨(List.mem_append_right _ (List.mem_append_right _ (List.mem_append_left _ (List.mem_of_getElem? (i := 200) rfl)))), rfl⟩
theorem m_2_201 : (Cond.instanceMethod ⟨"RootedTrees$Forests", "leastHeight", "(II)I"⟩) ∈ lw_g := List.mem_filter.mpr ⟨(List.mem_append_right _ (List.mem_append_right _ (List.mem_append_left _ (List.mem_of_getElem? (i := 201) rfl)))), rfl⟩
theorem m_2_202 : (Cond.selects "RootedTrees$Forests" ⟨"RootedTrees$Forests", "leastHeight", "(II)I"⟩ ⟨"RootedTrees$Forests", "leastHeight", "(II)I"⟩) ∈ lw_g := List.mem_filter.mpr ⟨(List.mem_append_right _ (List.mem_append_right _ (List.mem_append_left _ (List.mem_of_getElem? (i := 202) rfl)))), rfl⟩
theorem m_2_211 : (Cond.code ⟨"RootedTrees", "boundedCost", "(I)J"⟩ prog_1_method_23_code 4 (Option.some .long)) ∈ lw_g := List.mem_filter.mpr ⟨(List.mem_append_right _ (List.mem_append_right _ (List.mem_append_left _ (List.mem_of_getElem? (i := 211) rfl)))), rfl⟩
theorem m_2_212 : (Cond.constantLong "RootedTrees" 144 (-2)) ∈ lw_g := List.mem_filter.mpr ⟨(List.mem_append_right _ (List.mem_append_right _ (List.mem_append_left _ (List.mem_of_getElem? (i := 212) rfl)))), rfl⟩
theorem m_1_235 : (Cond.fieldLink "RootedTrees" 28 "RootedTrees" "boundedTrees" "LRootedTrees$BoundedTrees;") ∈ lw_g := List.mem_filter.mpr ⟨(List.mem_append_right _ (List.mem_append_left _ (List.mem_of_getElem? (i := 235) rfl))), rfl⟩
theorem m_2_214 : (Cond.methodLink "RootedTrees" 148 ⟨"RootedTrees$BoundedTrees", "leastCost", "(I)J"⟩) ∈ lw_g := List.mem_filter.mpr ⟨(List.mem_append_right _ (List.mem_append_right _ (List.mem_append_left _ (List.mem_of_getElem? (i := 214) rfl)))), rfl⟩
theorem m_2_215 : (Cond.instanceMethod ⟨"RootedTrees$BoundedTrees", "leastCost", "(I)J"⟩) ∈ lw_g := List.mem_filter.mpr ⟨(List.mem_append_right _ (List.mem_append_right _ (List.mem_append_left _ (List.mem_of_getElem? (i := 215) rfl)))), rfl⟩
theorem m_2_216 : (Cond.selects "RootedTrees$BoundedTrees" ⟨"RootedTrees$BoundedTrees", "leastCost", "(I)J"⟩ ⟨"RootedTrees$BoundedTrees", "leastCost", "(I)J"⟩) ∈ lw_g := List.mem_filter.mpr ⟨(List.mem_append_right _ (List.mem_append_right _ (List.mem_append_left _ (List.mem_of_getElem? (i := 216) rfl)))), rfl⟩
theorem m_3_13 : (Cond.constantLong "RootedTrees" 131 1152921504606846976) ∈ lw_g := List.mem_filter.mpr ⟨(List.mem_append_right _ (List.mem_append_right _ (List.mem_append_right _ (List.mem_append_left _ (List.mem_of_getElem? (i := 13) rfl))))), rfl⟩
theorem m_3_14 : (Cond.constantLong "RootedTrees" 149 (-3)) ∈ lw_g := List.mem_filter.mpr ⟨(List.mem_append_right _ (List.mem_append_right _ (List.mem_append_right _ (List.mem_append_left _ (List.mem_of_getElem? (i := 14) rfl))))), rfl⟩
theorem m_2_213 : (Cond.constantLong "RootedTrees" 146 (-4)) ∈ lw_g := List.mem_filter.mpr ⟨(List.mem_append_right _ (List.mem_append_right _ (List.mem_append_left _ (List.mem_of_getElem? (i := 213) rfl)))), rfl⟩
theorem m_2_207 : (Cond.code ⟨"RootedTrees", "bounded", "(I)I"⟩ prog_1_method_15_code 4 (Option.some .int)) ∈ lw_g := List.mem_filter.mpr ⟨(List.mem_append_right _ (List.mem_append_right _ (List.mem_append_left _ (List.mem_of_getElem? (i := 207) rfl)))), rfl⟩
theorem m_2_208 : (Cond.methodLink "RootedTrees" 115 ⟨"RootedTrees", "boundedCost", "(I)J"⟩) ∈ lw_g := List.mem_filter.mpr ⟨(List.mem_append_right _ (List.mem_append_right _ (List.mem_append_left _ (List.mem_of_getElem? (i := 208) rfl)))), rfl⟩
theorem m_2_210 : (Cond.instanceMethod ⟨"RootedTrees", "boundedCost", "(I)J"⟩) ∈ lw_g := List.mem_filter.mpr ⟨(List.mem_append_right _ (List.mem_append_right _ (List.mem_append_left _ (List.mem_of_getElem? (i := 210) rfl)))), rfl⟩
theorem m_0_9 : (Cond.selects "RootedTrees" ⟨"RootedTrees", "boundedCost", "(I)J"⟩ ⟨"RootedTrees", "boundedCost", "(I)J"⟩) ∈ lw_g := List.mem_filter.mpr ⟨(List.mem_append_left _ (List.mem_of_getElem? (i := 9) rfl)), rfl⟩
theorem m_3_15 : (Cond.methodLink "RootedTrees" 119 ⟨"RootedTrees$Cost", "weightIn", "(J)I"⟩) ∈ lw_g := List.mem_filter.mpr ⟨(List.mem_append_right _ (List.mem_append_right _ (List.mem_append_right _ (List.mem_append_left _ (List.mem_of_getElem? (i := 15) rfl))))), rfl⟩
theorem m_3_16 : (Cond.static ⟨"RootedTrees$Cost", "weightIn", "(J)I"⟩) ∈ lw_g := List.mem_filter.mpr ⟨(List.mem_append_right _ (List.mem_append_right _ (List.mem_append_right _ (List.mem_append_left _ (List.mem_of_getElem? (i := 16) rfl))))), rfl⟩
theorem m_3_25 : (Cond.code ⟨"RootedTrees", "boundedSet", "(I)J"⟩ prog_1_method_16_code 4 (Option.some .long)) ∈ lw_g := List.mem_filter.mpr ⟨(List.mem_append_right _ (List.mem_append_right _ (List.mem_append_right _ (List.mem_append_left _ (List.mem_of_getElem? (i := 25) rfl))))), rfl⟩
theorem m_3_26 : (Cond.methodLink "RootedTrees" 124 ⟨"RootedTrees$Cost", "setIn", "(J)J"⟩) ∈ lw_g := List.mem_filter.mpr ⟨(List.mem_append_right _ (List.mem_append_right _ (List.mem_append_right _ (List.mem_append_left _ (List.mem_of_getElem? (i := 26) rfl))))), rfl⟩
theorem m_3_27 : (Cond.static ⟨"RootedTrees$Cost", "setIn", "(J)J"⟩) ∈ lw_g := List.mem_filter.mpr ⟨(List.mem_append_right _ (List.mem_append_right _ (List.mem_append_right _ (List.mem_append_left _ (List.mem_of_getElem? (i := 27) rfl))))), rfl⟩
theorem m_3_32 : (Cond.code ⟨"RootedTrees", "rooted", "(I)I"⟩ prog_1_method_17_code 4 (Option.some .int)) ∈ lw_g := List.mem_filter.mpr ⟨(List.mem_append_right _ (List.mem_append_right _ (List.mem_append_right _ (List.mem_append_left _ (List.mem_of_getElem? (i := 32) rfl))))), rfl⟩
theorem m_1_236 : (Cond.fieldLink "RootedTrees" 35 "RootedTrees" "treesFromRoot" "LRootedTrees$TreesFromRoot;") ∈ lw_g := List.mem_filter.mpr ⟨(List.mem_append_right _ (List.mem_append_left _ (List.mem_of_getElem? (i := 236) rfl))), rfl⟩
theorem m_3_33 : (Cond.methodLink "RootedTrees" 128 ⟨"RootedTrees$TreesFromRoot", "leastCost", "(I)J"⟩) ∈ lw_g := List.mem_filter.mpr ⟨(List.mem_append_right _ (List.mem_append_right _ (List.mem_append_right _ (List.mem_append_left _ (List.mem_of_getElem? (i := 33) rfl))))), rfl⟩
theorem m_3_34 : (Cond.instanceMethod ⟨"RootedTrees$TreesFromRoot", "leastCost", "(I)J"⟩) ∈ lw_g := List.mem_filter.mpr ⟨(List.mem_append_right _ (List.mem_append_right _ (List.mem_append_right _ (List.mem_append_left _ (List.mem_of_getElem? (i := 34) rfl))))), rfl⟩
theorem m_3_35 : (Cond.selects "RootedTrees$TreesFromRoot" ⟨"RootedTrees$TreesFromRoot", "leastCost", "(I)J"⟩ ⟨"RootedTrees$TreesFromRoot", "leastCost", "(I)J"⟩) ∈ lw_g := List.mem_filter.mpr ⟨(List.mem_append_right _ (List.mem_append_right _ (List.mem_append_right _ (List.mem_append_left _ (List.mem_of_getElem? (i := 35) rfl))))), rfl⟩
theorem m_3_67 : (Cond.methodLink "RootedTrees" 133 ⟨"RootedTrees$TreesFromRoot", "weightIn", "(J)I"⟩) ∈ lw_g := List.mem_filter.mpr ⟨(List.mem_append_right _ (List.mem_append_right _ (List.mem_append_right _ (List.mem_append_left _ (List.mem_of_getElem? (i := 67) rfl))))), rfl⟩
theorem m_3_68 : (Cond.static ⟨"RootedTrees$TreesFromRoot", "weightIn", "(J)I"⟩) ∈ lw_g := List.mem_filter.mpr ⟨(List.mem_append_right _ (List.mem_append_right _ (List.mem_append_right _ (List.mem_append_left _ (List.mem_of_getElem? (i := 68) rfl))))), rfl⟩
theorem m_3_73 : (Cond.code ⟨"RootedTrees", "rootedArc", "(II)I"⟩ prog_1_method_18_code 5 (Option.some .int)) ∈ lw_g := List.mem_filter.mpr ⟨(List.mem_append_right _ (List.mem_append_right _ (List.mem_append_right _ (List.mem_append_left _ (List.mem_of_getElem? (i := 73) rfl))))), rfl⟩
theorem m_3_74 : (Cond.methodLink "RootedTrees" 134 ⟨"RootedTrees$TreesFromRoot", "arcIn", "(JII)I"⟩) ∈ lw_g := List.mem_filter.mpr ⟨(List.mem_append_right _ (List.mem_append_right _ (List.mem_append_right _ (List.mem_append_left _ (List.mem_of_getElem? (i := 74) rfl))))), rfl⟩
theorem m_3_75 : (Cond.static ⟨"RootedTrees$TreesFromRoot", "arcIn", "(JII)I"⟩) ∈ lw_g := List.mem_filter.mpr ⟨(List.mem_append_right _ (List.mem_append_right _ (List.mem_append_right _ (List.mem_append_left _ (List.mem_of_getElem? (i := 75) rfl))))), rfl⟩
theorem m_3_80 : (Cond.code ⟨"RootedTrees", "unreached", "(I)I"⟩ prog_1_method_19_code 2 (Option.some .int)) ∈ lw_g := List.mem_filter.mpr ⟨(List.mem_append_right _ (List.mem_append_right _ (List.mem_append_right _ (List.mem_append_left _ (List.mem_of_getElem? (i := 80) rfl))))), rfl⟩
theorem m_3_81 : (Cond.methodLink "RootedTrees" 138 ⟨"RootedTrees$TreesFromRoot", "outOfReach", "(I)I"⟩) ∈ lw_g := List.mem_filter.mpr ⟨(List.mem_append_right _ (List.mem_append_right _ (List.mem_append_right _ (List.mem_append_left _ (List.mem_of_getElem? (i := 81) rfl))))), rfl⟩
theorem m_3_82 : (Cond.instanceMethod ⟨"RootedTrees$TreesFromRoot", "outOfReach", "(I)I"⟩) ∈ lw_g := List.mem_filter.mpr ⟨(List.mem_append_right _ (List.mem_append_right _ (List.mem_append_right _ (List.mem_append_left _ (List.mem_of_getElem? (i := 82) rfl))))), rfl⟩
theorem m_3_83 : (Cond.selects "RootedTrees$TreesFromRoot" ⟨"RootedTrees$TreesFromRoot", "outOfReach", "(I)I"⟩ ⟨"RootedTrees$TreesFromRoot", "outOfReach", "(I)I"⟩) ∈ lw_g := List.mem_filter.mpr ⟨(List.mem_append_right _ (List.mem_append_right _ (List.mem_append_right _ (List.mem_append_left _ (List.mem_of_getElem? (i := 83) rfl))))), rfl⟩
theorem m_3_96 : (Cond.code ⟨"RootedTrees", "joinedCost", "(I)J"⟩ prog_1_method_24_code 4 (Option.some .long)) ∈ lw_g := List.mem_filter.mpr ⟨(List.mem_append_right _ (List.mem_append_right _ (List.mem_append_right _ (List.mem_append_left _ (List.mem_of_getElem? (i := 96) rfl))))), rfl⟩
theorem m_3_97 : (Cond.methodLink "RootedTrees" 151 ⟨"RootedTrees$Graph", "allNodes", "()I"⟩) ∈ lw_g := List.mem_filter.mpr ⟨(List.mem_append_right _ (List.mem_append_right _ (List.mem_append_right _ (List.mem_append_left _ (List.mem_of_getElem? (i := 97) rfl))))), rfl⟩
theorem m_1_237 : (Cond.fieldLink "RootedTrees" 42 "RootedTrees" "joiningTrees" "LRootedTrees$JoiningTrees;") ∈ lw_g := List.mem_filter.mpr ⟨(List.mem_append_right _ (List.mem_append_left _ (List.mem_of_getElem? (i := 237) rfl))), rfl⟩
theorem m_3_98 : (Cond.methodLink "RootedTrees" 154 ⟨"RootedTrees$JoiningTrees", "leastCost", "(I)J"⟩) ∈ lw_g := List.mem_filter.mpr ⟨(List.mem_append_right _ (List.mem_append_right _ (List.mem_append_right _ (List.mem_append_left _ (List.mem_of_getElem? (i := 98) rfl))))), rfl⟩
theorem m_3_99 : (Cond.instanceMethod ⟨"RootedTrees$JoiningTrees", "leastCost", "(I)J"⟩) ∈ lw_g := List.mem_filter.mpr ⟨(List.mem_append_right _ (List.mem_append_right _ (List.mem_append_right _ (List.mem_append_left _ (List.mem_of_getElem? (i := 99) rfl))))), rfl⟩
theorem m_3_100 : (Cond.selects "RootedTrees$JoiningTrees" ⟨"RootedTrees$JoiningTrees", "leastCost", "(I)J"⟩ ⟨"RootedTrees$JoiningTrees", "leastCost", "(I)J"⟩) ∈ lw_g := List.mem_filter.mpr ⟨(List.mem_append_right _ (List.mem_append_right _ (List.mem_append_right _ (List.mem_append_left _ (List.mem_of_getElem? (i := 100) rfl))))), rfl⟩
theorem m_3_92 : (Cond.code ⟨"RootedTrees", "joined", "(I)I"⟩ prog_1_method_20_code 4 (Option.some .int)) ∈ lw_g := List.mem_filter.mpr ⟨(List.mem_append_right _ (List.mem_append_right _ (List.mem_append_right _ (List.mem_append_left _ (List.mem_of_getElem? (i := 92) rfl))))), rfl⟩
theorem m_3_93 : (Cond.methodLink "RootedTrees" 141 ⟨"RootedTrees", "joinedCost", "(I)J"⟩) ∈ lw_g := List.mem_filter.mpr ⟨(List.mem_append_right _ (List.mem_append_right _ (List.mem_append_right _ (List.mem_append_left _ (List.mem_of_getElem? (i := 93) rfl))))), rfl⟩
theorem m_3_95 : (Cond.instanceMethod ⟨"RootedTrees", "joinedCost", "(I)J"⟩) ∈ lw_g := List.mem_filter.mpr ⟨(List.mem_append_right _ (List.mem_append_right _ (List.mem_append_right _ (List.mem_append_left _ (List.mem_of_getElem? (i := 95) rfl))))), rfl⟩
theorem m_0_21 : (Cond.selects "RootedTrees" ⟨"RootedTrees", "joinedCost", "(I)J"⟩ ⟨"RootedTrees", "joinedCost", "(I)J"⟩) ∈ lw_g := List.mem_filter.mpr ⟨(List.mem_append_left _ (List.mem_of_getElem? (i := 21) rfl)), rfl⟩
theorem m_3_121 : (Cond.code ⟨"RootedTrees", "joinedSet", "(I)J"⟩ prog_1_method_21_code 4 (Option.some .long)) ∈ lw_g := List.mem_filter.mpr ⟨(List.mem_append_right _ (List.mem_append_right _ (List.mem_append_right _ (List.mem_append_left _ (List.mem_of_getElem? (i := 121) rfl))))), rfl⟩
theorem m_3_207 : (Cond.code ⟨"RootedTreesModel", "isNode", "(I)Z"⟩ prog_11_method_2_code 2 (Option.some .boolean)) ∈ lw_g := List.mem_filter.mpr ⟨(List.mem_append_right _ (List.mem_append_right _ (List.mem_append_right _ (List.mem_append_left _ (List.mem_of_getElem? (i := 207) rfl))))), rfl⟩
theorem m_3_128 : (Cond.fieldLink "RootedTreesModel" 57 "RootedTreesModel" "nodes" "I") ∈ lw_g := List.mem_filter.mpr ⟨(List.mem_append_right _ (List.mem_append_right _ (List.mem_append_right _ (List.mem_append_left _ (List.mem_of_getElem? (i := 128) rfl))))), rfl⟩
theorem m_3_215 : (Cond.code ⟨"RootedTreesModel", "isArc", "(I)Z"⟩ prog_11_method_3_code 2 (Option.some .boolean)) ∈ lw_g := List.mem_filter.mpr ⟨(List.mem_append_right _ (List.mem_append_right _ (List.mem_append_right _ (List.mem_append_left _ (List.mem_of_getElem? (i := 215) rfl))))), rfl⟩
theorem m_3_129 : (Cond.fieldLink "RootedTreesModel" 61 "RootedTreesModel" "arcs" "I") ∈ lw_g := List.mem_filter.mpr ⟨(List.mem_append_right _ (List.mem_append_right _ (List.mem_append_right _ (List.mem_append_left _ (List.mem_of_getElem? (i := 129) rfl))))), rfl⟩
theorem m_3_134 : (Cond.fieldLink "RootedTreesModel" 19 "RootedTreesModel" "there" "[Z") ∈ lw_g := List.mem_filter.mpr ⟨(List.mem_append_right _ (List.mem_append_right _ (List.mem_append_right _ (List.mem_append_left _ (List.mem_of_getElem? (i := 134) rfl))))), rfl⟩
theorem m_3_199 : (Cond.code ⟨"RootedTreesModel", "node", "()I"⟩ prog_11_method_4_code 1 (Option.some .int)) ∈ lw_g := List.mem_filter.mpr ⟨(List.mem_append_right _ (List.mem_append_right _ (List.mem_append_right _ (List.mem_append_left _ (List.mem_of_getElem? (i := 199) rfl))))), rfl⟩
theorem m_3_203 : (Cond.code ⟨"RootedTreesModel", "arc", "(III)I"⟩ prog_11_method_5_code 4 (Option.some .int)) ∈ lw_g := List.mem_filter.mpr ⟨(List.mem_append_right _ (List.mem_append_right _ (List.mem_append_right _ (List.mem_append_left _ (List.mem_of_getElem? (i := 203) rfl))))), rfl⟩
theorem m_3_204 : (Cond.methodLink "RootedTreesModel" 64 ⟨"RootedTreesModel", "isNode", "(I)Z"⟩) ∈ lw_g := List.mem_filter.mpr ⟨(List.mem_append_right _ (List.mem_append_right _ (List.mem_append_right _ (List.mem_append_left _ (List.mem_of_getElem? (i := 204) rfl))))), rfl⟩
theorem m_3_206 : (Cond.instanceMethod ⟨"RootedTreesModel", "isNode", "(I)Z"⟩) ∈ lw_g := List.mem_filter.mpr ⟨(List.mem_append_right _ (List.mem_append_right _ (List.mem_append_right _ (List.mem_append_left _ (List.mem_of_getElem? (i := 206) rfl))))), rfl⟩
theorem m_0_23 : (Cond.selects "RootedTreesModel" ⟨"RootedTreesModel", "isNode", "(I)Z"⟩ ⟨"RootedTreesModel", "isNode", "(I)Z"⟩) ∈ lw_g := List.mem_filter.mpr ⟨(List.mem_append_left _ (List.mem_of_getElem? (i := 23) rfl)), rfl⟩
theorem m_1_9 : (Cond.initialized "RootedTreesModel") ∈ lw_g := List.mem_filter.mpr ⟨(List.mem_append_right _ (List.mem_append_left _ (List.mem_of_getElem? (i := 9) rfl))), rfl⟩
theorem m_3_131 : (Cond.fieldLink "RootedTreesModel" 7 "RootedTreesModel" "froms" "[I") ∈ lw_g := List.mem_filter.mpr ⟨(List.mem_append_right _ (List.mem_append_right _ (List.mem_append_right _ (List.mem_append_left _ (List.mem_of_getElem? (i := 131) rfl))))), rfl⟩
theorem m_3_132 : (Cond.fieldLink "RootedTreesModel" 13 "RootedTreesModel" "tos" "[I") ∈ lw_g := List.mem_filter.mpr ⟨(List.mem_append_right _ (List.mem_append_right _ (List.mem_append_right _ (List.mem_append_left _ (List.mem_of_getElem? (i := 132) rfl))))), rfl⟩
theorem m_3_133 : (Cond.fieldLink "RootedTreesModel" 16 "RootedTreesModel" "weights" "[I") ∈ lw_g := List.mem_filter.mpr ⟨(List.mem_append_right _ (List.mem_append_right _ (List.mem_append_right _ (List.mem_append_left _ (List.mem_of_getElem? (i := 133) rfl))))), rfl⟩
theorem m_3_130 : (Cond.fieldLink "RootedTreesModel" 68 "RootedTreesModel" "left" "I") ∈ lw_g := List.mem_filter.mpr ⟨(List.mem_append_right _ (List.mem_append_right _ (List.mem_append_right _ (List.mem_append_left _ (List.mem_of_getElem? (i := 130) rfl))))), rfl⟩
theorem m_3_211 : (Cond.code ⟨"RootedTreesModel", "change", "(II)I"⟩ prog_11_method_6_code 4 (Option.some .int)) ∈ lw_g := List.mem_filter.mpr ⟨(List.mem_append_right _ (List.mem_append_right _ (List.mem_append_right _ (List.mem_append_left _ (List.mem_of_getElem? (i := 211) rfl))))), rfl⟩
theorem m_3_212 : (Cond.methodLink "RootedTreesModel" 71 ⟨"RootedTreesModel", "isArc", "(I)Z"⟩) ∈ lw_g := List.mem_filter.mpr ⟨(List.mem_append_right _ (List.mem_append_right _ (List.mem_append_right _ (List.mem_append_left _ (List.mem_of_getElem? (i := 212) rfl))))), rfl⟩
theorem m_3_214 : (Cond.instanceMethod ⟨"RootedTreesModel", "isArc", "(I)Z"⟩) ∈ lw_g := List.mem_filter.mpr ⟨(List.mem_append_right _ (List.mem_append_right _ (List.mem_append_right _ (List.mem_append_left _ (List.mem_of_getElem? (i := 214) rfl))))), rfl⟩
theorem m_0_24 : (Cond.selects "RootedTreesModel" ⟨"RootedTreesModel", "isArc", "(I)Z"⟩ ⟨"RootedTreesModel", "isArc", "(I)Z"⟩) ∈ lw_g := List.mem_filter.mpr ⟨(List.mem_append_left _ (List.mem_of_getElem? (i := 24) rfl)), rfl⟩
theorem m_3_219 : (Cond.code ⟨"RootedTreesModel", "drop", "(I)I"⟩ prog_11_method_7_code 2 (Option.some .int)) ∈ lw_g := List.mem_filter.mpr ⟨(List.mem_append_right _ (List.mem_append_right _ (List.mem_append_right _ (List.mem_append_left _ (List.mem_of_getElem? (i := 219) rfl))))), rfl⟩
theorem m_3_223 : (Cond.code ⟨"RootedTreesModel", "clear", "()I"⟩ prog_11_method_8_code 2 (Option.some .int)) ∈ lw_g := List.mem_filter.mpr ⟨(List.mem_append_right _ (List.mem_append_right _ (List.mem_append_right _ (List.mem_append_left _ (List.mem_of_getElem? (i := 223) rfl))))), rfl⟩
theorem m_3_235 : (Cond.code ⟨"RootedTreesModel", "alone", "()V"⟩ prog_11_method_9_code 2 (Option.none : Option FieldType)) ∈ lw_g := List.mem_filter.mpr ⟨(List.mem_append_right _ (List.mem_append_right _ (List.mem_append_right _ (List.mem_append_left _ (List.mem_of_getElem? (i := 235) rfl))))), rfl⟩
theorem m_3_135 : (Cond.fieldLink "RootedTreesModel" 23 "RootedTreesModel" "part" "[I") ∈ lw_g := List.mem_filter.mpr ⟨(List.mem_append_right _ (List.mem_append_right _ (List.mem_append_right _ (List.mem_append_left _ (List.mem_of_getElem? (i := 135) rfl))))), rfl⟩
theorem m_3_239 : (Cond.code ⟨"RootedTreesModel", "join", "(I)Z"⟩ prog_11_method_10_code 7 (Option.some .boolean)) ∈ lw_g := List.mem_filter.mpr ⟨(List.mem_append_right _ (List.mem_append_right _ (List.mem_append_right _ (List.mem_append_left _ (List.mem_of_getElem? (i := 239) rfl))))), rfl⟩
theorem m_4_3 : (Cond.code ⟨"RootedTreesModel", "partCount", "()I"⟩ prog_11_method_11_code 3 (Option.some .int)) ∈ lw_g := List.mem_filter.mpr ⟨(List.mem_append_right _ (List.mem_append_right _ (List.mem_append_right _ (List.mem_append_right _ (List.mem_of_getElem? (i := 3) rfl))))), rfl⟩
theorem m_3_231 : (Cond.code ⟨"RootedTreesModel", "joinAll", "()V"⟩ prog_11_method_12_code 3 (Option.none : Option FieldType)) ∈ lw_g := List.mem_filter.mpr ⟨(List.mem_append_right _ (List.mem_append_right _ (List.mem_append_right _ (List.mem_append_left _ (List.mem_of_getElem? (i := 231) rfl))))), rfl⟩
theorem m_3_236 : (Cond.methodLink "RootedTreesModel" 77 ⟨"RootedTreesModel", "join", "(I)Z"⟩) ∈ lw_g := List.mem_filter.mpr ⟨(List.mem_append_right _ (List.mem_append_right _ (List.mem_append_right _ (List.mem_append_left _ (List.mem_of_getElem? (i := 236) rfl))))), rfl⟩
theorem m_3_238 : (Cond.instanceMethod ⟨"RootedTreesModel", "join", "(I)Z"⟩) ∈ lw_g := List.mem_filter.mpr ⟨(List.mem_append_right _ (List.mem_append_right _ (List.mem_append_right _ (List.mem_append_left _ (List.mem_of_getElem? (i := 238) rfl))))), rfl⟩
theorem m_0_27 : (Cond.selects "RootedTreesModel" ⟨"RootedTreesModel", "join", "(I)Z"⟩ ⟨"RootedTreesModel", "join", "(I)Z"⟩) ∈ lw_g := List.mem_filter.mpr ⟨(List.mem_append_left _ (List.mem_of_getElem? (i := 27) rfl)), rfl⟩
theorem m_3_232 : (Cond.methodLink "RootedTreesModel" 74 ⟨"RootedTreesModel", "alone", "()V"⟩) ∈ lw_g := List.mem_filter.mpr ⟨(List.mem_append_right _ (List.mem_append_right _ (List.mem_append_right _ (List.mem_append_left _ (List.mem_of_getElem? (i := 232) rfl))))), rfl⟩
theorem m_3_234 : (Cond.instanceMethod ⟨"RootedTreesModel", "alone", "()V"⟩) ∈ lw_g := List.mem_filter.mpr ⟨(List.mem_append_right _ (List.mem_append_right _ (List.mem_append_right _ (List.mem_append_left _ (List.mem_of_getElem? (i := 234) rfl))))), rfl⟩
theorem m_0_26 : (Cond.selects "RootedTreesModel" ⟨"RootedTreesModel", "alone", "()V"⟩ ⟨"RootedTreesModel", "alone", "()V"⟩) ∈ lw_g := List.mem_filter.mpr ⟨(List.mem_append_left _ (List.mem_of_getElem? (i := 26) rfl)), rfl⟩
theorem m_3_227 : (Cond.code ⟨"RootedTreesModel", "parts", "()I"⟩ prog_11_method_13_code 1 (Option.some .int)) ∈ lw_g := List.mem_filter.mpr ⟨(List.mem_append_right _ (List.mem_append_right _ (List.mem_append_right _ (List.mem_append_left _ (List.mem_of_getElem? (i := 227) rfl))))), rfl⟩
theorem m_3_228 : (Cond.methodLink "RootedTreesModel" 80 ⟨"RootedTreesModel", "joinAll", "()V"⟩) ∈ lw_g := List.mem_filter.mpr ⟨(List.mem_append_right _ (List.mem_append_right _ (List.mem_append_right _ (List.mem_append_left _ (List.mem_of_getElem? (i := 228) rfl))))), rfl⟩
theorem m_3_230 : (Cond.instanceMethod ⟨"RootedTreesModel", "joinAll", "()V"⟩) ∈ lw_g := List.mem_filter.mpr ⟨(List.mem_append_right _ (List.mem_append_right _ (List.mem_append_right _ (List.mem_append_left _ (List.mem_of_getElem? (i := 230) rfl))))), rfl⟩
theorem m_0_25 : (Cond.selects "RootedTreesModel" ⟨"RootedTreesModel", "joinAll", "()V"⟩ ⟨"RootedTreesModel", "joinAll", "()V"⟩) ∈ lw_g := List.mem_filter.mpr ⟨(List.mem_append_left _ (List.mem_of_getElem? (i := 25) rfl)), rfl⟩
theorem m_4_0 : (Cond.methodLink "RootedTreesModel" 83 ⟨"RootedTreesModel", "partCount", "()I"⟩) ∈ lw_g := List.mem_filter.mpr ⟨(List.mem_append_right _ (List.mem_append_right _ (List.mem_append_right _ (List.mem_append_right _ (List.mem_of_getElem? (i := 0) rfl))))), rfl⟩
theorem m_4_2 : (Cond.instanceMethod ⟨"RootedTreesModel", "partCount", "()I"⟩) ∈ lw_g := List.mem_filter.mpr ⟨(List.mem_append_right _ (List.mem_append_right _ (List.mem_append_right _ (List.mem_append_right _ (List.mem_of_getElem? (i := 2) rfl))))), rfl⟩
theorem m_0_28 : (Cond.selects "RootedTreesModel" ⟨"RootedTreesModel", "partCount", "()I"⟩ ⟨"RootedTreesModel", "partCount", "()I"⟩) ∈ lw_g := List.mem_filter.mpr ⟨(List.mem_append_left _ (List.mem_of_getElem? (i := 28) rfl)), rfl⟩
theorem m_4_15 : (Cond.code ⟨"RootedTreesModel", "behind", "(I)I"⟩ prog_11_method_14_code 5 (Option.some .int)) ∈ lw_g := List.mem_filter.mpr ⟨(List.mem_append_right _ (List.mem_append_right _ (List.mem_append_right _ (List.mem_append_right _ (List.mem_of_getElem? (i := 15) rfl))))), rfl⟩
theorem m_4_11 : (Cond.code ⟨"RootedTreesModel", "leastOf", "()J"⟩ prog_11_method_15_code 4 (Option.some .long)) ∈ lw_g := List.mem_filter.mpr ⟨(List.mem_append_right _ (List.mem_append_right _ (List.mem_append_right _ (List.mem_append_right _ (List.mem_of_getElem? (i := 11) rfl))))), rfl⟩
theorem m_4_12 : (Cond.methodLink "RootedTreesModel" 87 ⟨"RootedTreesModel", "behind", "(I)I"⟩) ∈ lw_g := List.mem_filter.mpr ⟨(List.mem_append_right _ (List.mem_append_right _ (List.mem_append_right _ (List.mem_append_right _ (List.mem_of_getElem? (i := 12) rfl))))), rfl⟩
theorem m_4_14 : (Cond.instanceMethod ⟨"RootedTreesModel", "behind", "(I)I"⟩) ∈ lw_g := List.mem_filter.mpr ⟨(List.mem_append_right _ (List.mem_append_right _ (List.mem_append_right _ (List.mem_append_right _ (List.mem_of_getElem? (i := 14) rfl))))), rfl⟩
theorem m_0_30 : (Cond.selects "RootedTreesModel" ⟨"RootedTreesModel", "behind", "(I)I"⟩ ⟨"RootedTreesModel", "behind", "(I)I"⟩) ∈ lw_g := List.mem_filter.mpr ⟨(List.mem_append_left _ (List.mem_of_getElem? (i := 30) rfl)), rfl⟩
theorem m_4_19 : (Cond.code ⟨"RootedTreesModel", "weightOf", "(J)I"⟩ prog_11_method_16_code 5 (Option.some .int)) ∈ lw_g := List.mem_filter.mpr ⟨(List.mem_append_right _ (List.mem_append_right _ (List.mem_append_right _ (List.mem_append_right _ (List.mem_of_getElem? (i := 19) rfl))))), rfl⟩
theorem m_4_7 : (Cond.code ⟨"RootedTreesModel", "least", "()I"⟩ prog_11_method_17_code 1 (Option.some .int)) ∈ lw_g := List.mem_filter.mpr ⟨(List.mem_append_right _ (List.mem_append_right _ (List.mem_append_right _ (List.mem_append_right _ (List.mem_of_getElem? (i := 7) rfl))))), rfl⟩
theorem m_4_8 : (Cond.methodLink "RootedTreesModel" 91 ⟨"RootedTreesModel", "leastOf", "()J"⟩) ∈ lw_g := List.mem_filter.mpr ⟨(List.mem_append_right _ (List.mem_append_right _ (List.mem_append_right _ (List.mem_append_right _ (List.mem_of_getElem? (i := 8) rfl))))), rfl⟩
theorem m_4_10 : (Cond.instanceMethod ⟨"RootedTreesModel", "leastOf", "()J"⟩) ∈ lw_g := List.mem_filter.mpr ⟨(List.mem_append_right _ (List.mem_append_right _ (List.mem_append_right _ (List.mem_append_right _ (List.mem_of_getElem? (i := 10) rfl))))), rfl⟩
theorem m_0_29 : (Cond.selects "RootedTreesModel" ⟨"RootedTreesModel", "leastOf", "()J"⟩ ⟨"RootedTreesModel", "leastOf", "()J"⟩) ∈ lw_g := List.mem_filter.mpr ⟨(List.mem_append_left _ (List.mem_of_getElem? (i := 29) rfl)), rfl⟩
theorem m_4_16 : (Cond.methodLink "RootedTreesModel" 95 ⟨"RootedTreesModel", "weightOf", "(J)I"⟩) ∈ lw_g := List.mem_filter.mpr ⟨(List.mem_append_right _ (List.mem_append_right _ (List.mem_append_right _ (List.mem_append_right _ (List.mem_of_getElem? (i := 16) rfl))))), rfl⟩
theorem m_4_18 : (Cond.instanceMethod ⟨"RootedTreesModel", "weightOf", "(J)I"⟩) ∈ lw_g := List.mem_filter.mpr ⟨(List.mem_append_right _ (List.mem_append_right _ (List.mem_append_right _ (List.mem_append_right _ (List.mem_of_getElem? (i := 18) rfl))))), rfl⟩
theorem m_0_31 : (Cond.selects "RootedTreesModel" ⟨"RootedTreesModel", "weightOf", "(J)I"⟩ ⟨"RootedTreesModel", "weightOf", "(J)I"⟩) ∈ lw_g := List.mem_filter.mpr ⟨(List.mem_append_left _ (List.mem_of_getElem? (i := 31) rfl)), rfl⟩
theorem m_4_23 : (Cond.code ⟨"RootedTreesModel", "leastSet", "()J"⟩ prog_11_method_18_code 1 (Option.some .long)) ∈ lw_g := List.mem_filter.mpr ⟨(List.mem_append_right _ (List.mem_append_right _ (List.mem_append_right _ (List.mem_append_right _ (List.mem_of_getElem? (i := 23) rfl))))), rfl⟩
theorem m_4_35 : (Cond.code ⟨"RootedTreesModel", "determinant", "(I)J"⟩ prog_11_method_21_code 11 (Option.some .long)) ∈ lw_g := List.mem_filter.mpr ⟨(List.mem_append_right _ (List.mem_append_right _ (List.mem_append_right _ (List.mem_append_right _ (List.mem_of_getElem? (i := 35) rfl))))), rfl⟩
theorem m_3_136 : (Cond.fieldLink "RootedTreesModel" 26 "RootedTreesModel" "matrix" "[J") ∈ lw_g := List.mem_filter.mpr ⟨(List.mem_append_right _ (List.mem_append_right _ (List.mem_append_right _ (List.mem_append_left _ (List.mem_of_getElem? (i := 136) rfl))))), rfl⟩
theorem m_4_31 : (Cond.code ⟨"RootedTreesModel", "tiesOf", "(I)J"⟩ prog_11_method_20_code 6 (Option.some .long)) ∈ lw_g := List.mem_filter.mpr ⟨(List.mem_append_right _ (List.mem_append_right _ (List.mem_append_right _ (List.mem_append_right _ (List.mem_of_getElem? (i := 31) rfl))))), rfl⟩
theorem m_4_32 : (Cond.methodLink "RootedTreesModel" 103 ⟨"RootedTreesModel", "determinant", "(I)J"⟩) ∈ lw_g := List.mem_filter.mpr ⟨(List.mem_append_right _ (List.mem_append_right _ (List.mem_append_right _ (List.mem_append_right _ (List.mem_of_getElem? (i := 32) rfl))))), rfl⟩
theorem m_4_34 : (Cond.instanceMethod ⟨"RootedTreesModel", "determinant", "(I)J"⟩) ∈ lw_g := List.mem_filter.mpr ⟨(List.mem_append_right _ (List.mem_append_right _ (List.mem_append_right _ (List.mem_append_right _ (List.mem_of_getElem? (i := 34) rfl))))), rfl⟩
theorem m_0_33 : (Cond.selects "RootedTreesModel" ⟨"RootedTreesModel", "determinant", "(I)J"⟩ ⟨"RootedTreesModel", "determinant", "(I)J"⟩) ∈ lw_g := List.mem_filter.mpr ⟨(List.mem_append_left _ (List.mem_of_getElem? (i := 33) rfl)), rfl⟩
theorem m_3_138 : (Cond.fieldLink "RootedTreesModel" 33 "RootedTreesModel" "low" "[I") ∈ lw_g := List.mem_filter.mpr ⟨(List.mem_append_right _ (List.mem_append_right _ (List.mem_append_right _ (List.mem_append_left _ (List.mem_of_getElem? (i := 138) rfl))))), rfl⟩
theorem m_3_137 : (Cond.fieldLink "RootedTreesModel" 30 "RootedTreesModel" "row" "[I") ∈ lw_g := List.mem_filter.mpr ⟨(List.mem_append_right _ (List.mem_append_right _ (List.mem_append_right _ (List.mem_append_left _ (List.mem_of_getElem? (i := 137) rfl))))), rfl⟩
theorem m_4_27 : (Cond.code ⟨"RootedTreesModel", "ties", "()J"⟩ prog_11_method_19_code 7 (Option.some .long)) ∈ lw_g := List.mem_filter.mpr ⟨(List.mem_append_right _ (List.mem_append_right _ (List.mem_append_right _ (List.mem_append_right _ (List.mem_of_getElem? (i := 27) rfl))))), rfl⟩
theorem m_4_28 : (Cond.methodLink "RootedTreesModel" 99 ⟨"RootedTreesModel", "tiesOf", "(I)J"⟩) ∈ lw_g := List.mem_filter.mpr ⟨(List.mem_append_right _ (List.mem_append_right _ (List.mem_append_right _ (List.mem_append_right _ (List.mem_of_getElem? (i := 28) rfl))))), rfl⟩
theorem m_4_30 : (Cond.instanceMethod ⟨"RootedTreesModel", "tiesOf", "(I)J"⟩) ∈ lw_g := List.mem_filter.mpr ⟨(List.mem_append_right _ (List.mem_append_right _ (List.mem_append_right _ (List.mem_append_right _ (List.mem_of_getElem? (i := 30) rfl))))), rfl⟩
theorem m_0_32 : (Cond.selects "RootedTreesModel" ⟨"RootedTreesModel", "tiesOf", "(I)J"⟩ ⟨"RootedTreesModel", "tiesOf", "(I)J"⟩) ∈ lw_g := List.mem_filter.mpr ⟨(List.mem_append_left _ (List.mem_of_getElem? (i := 32) rfl)), rfl⟩
theorem m_4_48 : (Cond.code ⟨"RootedTreesModel", "hangs", "(JII)Z"⟩ prog_11_method_22_code 7 (Option.some .boolean)) ∈ lw_g := List.mem_filter.mpr ⟨(List.mem_append_right _ (List.mem_append_right _ (List.mem_append_right _ (List.mem_append_right _ (List.mem_of_getElem? (i := 48) rfl))))), rfl⟩
theorem m_4_43 : (Cond.code ⟨"RootedTreesModel", "nextOf", "()I"⟩ prog_11_method_23_code 8 (Option.some .int)) ∈ lw_g := List.mem_filter.mpr ⟨(List.mem_append_right _ (List.mem_append_right _ (List.mem_append_right _ (List.mem_append_right _ (List.mem_of_getElem? (i := 43) rfl))))), rfl⟩
theorem m_3_139 : (Cond.fieldLink "RootedTreesModel" 112 "RootedTreesModel" "swapIn" "I") ∈ lw_g := List.mem_filter.mpr ⟨(List.mem_append_right _ (List.mem_append_right _ (List.mem_append_right _ (List.mem_append_left _ (List.mem_of_getElem? (i := 139) rfl))))), rfl⟩
theorem m_3_140 : (Cond.fieldLink "RootedTreesModel" 115 "RootedTreesModel" "swapOut" "I") ∈ lw_g := List.mem_filter.mpr ⟨(List.mem_append_right _ (List.mem_append_right _ (List.mem_append_right _ (List.mem_append_left _ (List.mem_of_getElem? (i := 140) rfl))))), rfl⟩
theorem m_4_44 : (Cond.constantLong "RootedTreesModel" 106 (-1)) ∈ lw_g := List.mem_filter.mpr ⟨(List.mem_append_right _ (List.mem_append_right _ (List.mem_append_right _ (List.mem_append_right _ (List.mem_of_getElem? (i := 44) rfl))))), rfl⟩
theorem m_4_45 : (Cond.methodLink "RootedTreesModel" 108 ⟨"RootedTreesModel", "hangs", "(JII)Z"⟩) ∈ lw_g := List.mem_filter.mpr ⟨(List.mem_append_right _ (List.mem_append_right _ (List.mem_append_right _ (List.mem_append_right _ (List.mem_of_getElem? (i := 45) rfl))))), rfl⟩
theorem m_4_47 : (Cond.instanceMethod ⟨"RootedTreesModel", "hangs", "(JII)Z"⟩) ∈ lw_g := List.mem_filter.mpr ⟨(List.mem_append_right _ (List.mem_append_right _ (List.mem_append_right _ (List.mem_append_right _ (List.mem_of_getElem? (i := 47) rfl))))), rfl⟩
theorem m_0_35 : (Cond.selects "RootedTreesModel" ⟨"RootedTreesModel", "hangs", "(JII)Z"⟩ ⟨"RootedTreesModel", "hangs", "(JII)Z"⟩) ∈ lw_g := List.mem_filter.mpr ⟨(List.mem_append_left _ (List.mem_of_getElem? (i := 35) rfl)), rfl⟩
theorem m_4_39 : (Cond.code ⟨"RootedTreesModel", "next", "()I"⟩ prog_11_method_24_code 1 (Option.some .int)) ∈ lw_g := List.mem_filter.mpr ⟨(List.mem_append_right _ (List.mem_append_right _ (List.mem_append_right _ (List.mem_append_right _ (List.mem_of_getElem? (i := 39) rfl))))), rfl⟩
theorem m_4_40 : (Cond.methodLink "RootedTreesModel" 118 ⟨"RootedTreesModel", "nextOf", "()I"⟩) ∈ lw_g := List.mem_filter.mpr ⟨(List.mem_append_right _ (List.mem_append_right _ (List.mem_append_right _ (List.mem_append_right _ (List.mem_of_getElem? (i := 40) rfl))))), rfl⟩
theorem m_4_42 : (Cond.instanceMethod ⟨"RootedTreesModel", "nextOf", "()I"⟩) ∈ lw_g := List.mem_filter.mpr ⟨(List.mem_append_right _ (List.mem_append_right _ (List.mem_append_right _ (List.mem_append_right _ (List.mem_of_getElem? (i := 42) rfl))))), rfl⟩
theorem m_0_34 : (Cond.selects "RootedTreesModel" ⟨"RootedTreesModel", "nextOf", "()I"⟩ ⟨"RootedTreesModel", "nextOf", "()I"⟩) ∈ lw_g := List.mem_filter.mpr ⟨(List.mem_append_left _ (List.mem_of_getElem? (i := 34) rfl)), rfl⟩
theorem m_4_52 : (Cond.code ⟨"RootedTreesModel", "swap", "(I)I"⟩ prog_11_method_25_code 2 (Option.some .int)) ∈ lw_g := List.mem_filter.mpr ⟨(List.mem_append_right _ (List.mem_append_right _ (List.mem_append_right _ (List.mem_append_right _ (List.mem_of_getElem? (i := 52) rfl))))), rfl⟩
theorem m_4_56 : (Cond.code ⟨"RootedTreesModel", "judge", "(J)I"⟩ prog_11_method_26_code 5 (Option.some .int)) ∈ lw_g := List.mem_filter.mpr ⟨(List.mem_append_right _ (List.mem_append_right _ (List.mem_append_right _ (List.mem_append_right _ (List.mem_of_getElem? (i := 56) rfl))))), rfl⟩
theorem m_4_60 : (Cond.code ⟨"RootedTreesModel", "height", "(II)I"⟩ prog_11_method_27_code 5 (Option.some .int)) ∈ lw_g := List.mem_filter.mpr ⟨(List.mem_append_right _ (List.mem_append_right _ (List.mem_append_right _ (List.mem_append_right _ (List.mem_of_getElem? (i := 60) rfl))))), rfl⟩
theorem m_4_73 : (Cond.code ⟨"RootedTreesModel", "judged", "(II)I"⟩ prog_11_method_29_code 6 (Option.some .int)) ∈ lw_g := List.mem_filter.mpr ⟨(List.mem_append_right _ (List.mem_append_right _ (List.mem_append_right _ (List.mem_append_right _ (List.mem_of_getElem? (i := 73) rfl))))), rfl⟩
theorem m_3_141 : (Cond.fieldLink "RootedTreesModel" 36 "RootedTreesModel" "own" "[I") ∈ lw_g := List.mem_filter.mpr ⟨(List.mem_append_right _ (List.mem_append_right _ (List.mem_append_right _ (List.mem_append_left _ (List.mem_of_getElem? (i := 141) rfl))))), rfl⟩
theorem m_3_142 : (Cond.fieldLink "RootedTreesModel" 39 "RootedTreesModel" "chosen" "[I") ∈ lw_g := List.mem_filter.mpr ⟨(List.mem_append_right _ (List.mem_append_right _ (List.mem_append_right _ (List.mem_append_left _ (List.mem_of_getElem? (i := 142) rfl))))), rfl⟩
theorem m_3_143 : (Cond.fieldLink "RootedTreesModel" 42 "RootedTreesModel" "degrees" "[I") ∈ lw_g := List.mem_filter.mpr ⟨(List.mem_append_right _ (List.mem_append_right _ (List.mem_append_right _ (List.mem_append_left _ (List.mem_of_getElem? (i := 143) rfl))))), rfl⟩
theorem m_4_68 : (Cond.code ⟨"RootedTreesModel", "findBounded", "(I)I"⟩ prog_11_method_28_code 9 (Option.some .int)) ∈ lw_g := List.mem_filter.mpr ⟨(List.mem_append_right _ (List.mem_append_right _ (List.mem_append_right _ (List.mem_append_right _ (List.mem_of_getElem? (i := 68) rfl))))), rfl⟩
theorem m_3_144 : (Cond.fieldLink "RootedTreesModel" 124 "RootedTreesModel" "boundedSet" "J") ∈ lw_g := List.mem_filter.mpr ⟨(List.mem_append_right _ (List.mem_append_right _ (List.mem_append_right _ (List.mem_append_left _ (List.mem_of_getElem? (i := 144) rfl))))), rfl⟩
theorem m_4_70 : (Cond.methodLink "RootedTreesModel" 128 ⟨"RootedTreesModel", "judged", "(II)I"⟩) ∈ lw_g := List.mem_filter.mpr ⟨(List.mem_append_right _ (List.mem_append_right _ (List.mem_append_right _ (List.mem_append_right _ (List.mem_of_getElem? (i := 70) rfl))))), rfl⟩
theorem m_4_72 : (Cond.instanceMethod ⟨"RootedTreesModel", "judged", "(II)I"⟩) ∈ lw_g := List.mem_filter.mpr ⟨(List.mem_append_right _ (List.mem_append_right _ (List.mem_append_right _ (List.mem_append_right _ (List.mem_of_getElem? (i := 72) rfl))))), rfl⟩
theorem m_0_37 : (Cond.selects "RootedTreesModel" ⟨"RootedTreesModel", "judged", "(II)I"⟩ ⟨"RootedTreesModel", "judged", "(II)I"⟩) ∈ lw_g := List.mem_filter.mpr ⟨(List.mem_append_left _ (List.mem_of_getElem? (i := 37) rfl)), rfl⟩
theorem m_4_69 : (Cond.methodLink "RootedTreesModel" 121 ⟨"RootedTreesModel", "parts", "()I"⟩) ∈ lw_g := List.mem_filter.mpr ⟨(List.mem_append_right _ (List.mem_append_right _ (List.mem_append_right _ (List.mem_append_right _ (List.mem_of_getElem? (i := 69) rfl))))), rfl⟩
theorem m_3_225 : (Cond.instanceMethod ⟨"RootedTreesModel", "parts", "()I"⟩) ∈ lw_g := List.mem_filter.mpr ⟨(List.mem_append_right _ (List.mem_append_right _ (List.mem_append_right _ (List.mem_append_left _ (List.mem_of_getElem? (i := 225) rfl))))), rfl⟩
theorem m_3_226 : (Cond.selects "RootedTreesModel" ⟨"RootedTreesModel", "parts", "()I"⟩ ⟨"RootedTreesModel", "parts", "()I"⟩) ∈ lw_g := List.mem_filter.mpr ⟨(List.mem_append_right _ (List.mem_append_right _ (List.mem_append_right _ (List.mem_append_left _ (List.mem_of_getElem? (i := 226) rfl))))), rfl⟩
theorem m_4_64 : (Cond.code ⟨"RootedTreesModel", "bounded", "(I)I"⟩ prog_11_method_30_code 2 (Option.some .int)) ∈ lw_g := List.mem_filter.mpr ⟨(List.mem_append_right _ (List.mem_append_right _ (List.mem_append_right _ (List.mem_append_right _ (List.mem_of_getElem? (i := 64) rfl))))), rfl⟩
theorem m_4_65 : (Cond.methodLink "RootedTreesModel" 132 ⟨"RootedTreesModel", "findBounded", "(I)I"⟩) ∈ lw_g := List.mem_filter.mpr ⟨(List.mem_append_right _ (List.mem_append_right _ (List.mem_append_right _ (List.mem_append_right _ (List.mem_of_getElem? (i := 65) rfl))))), rfl⟩
theorem m_4_67 : (Cond.instanceMethod ⟨"RootedTreesModel", "findBounded", "(I)I"⟩) ∈ lw_g := List.mem_filter.mpr ⟨(List.mem_append_right _ (List.mem_append_right _ (List.mem_append_right _ (List.mem_append_right _ (List.mem_of_getElem? (i := 67) rfl))))), rfl⟩
theorem m_0_36 : (Cond.selects "RootedTreesModel" ⟨"RootedTreesModel", "findBounded", "(I)I"⟩ ⟨"RootedTreesModel", "findBounded", "(I)I"⟩) ∈ lw_g := List.mem_filter.mpr ⟨(List.mem_append_left _ (List.mem_of_getElem? (i := 36) rfl)), rfl⟩
theorem m_4_77 : (Cond.code ⟨"RootedTreesModel", "boundedSet", "(I)J"⟩ prog_11_method_31_code 3 (Option.some .long)) ∈ lw_g := List.mem_filter.mpr ⟨(List.mem_append_right _ (List.mem_append_right _ (List.mem_append_right _ (List.mem_append_right _ (List.mem_of_getElem? (i := 77) rfl))))), rfl⟩
theorem m_4_89 : (Cond.code ⟨"RootedTreesModel", "rootedCost", "(I)I"⟩ prog_11_method_32_code 8 (Option.some .int)) ∈ lw_g := List.mem_filter.mpr ⟨(List.mem_append_right _ (List.mem_append_right _ (List.mem_append_right _ (List.mem_append_right _ (List.mem_of_getElem? (i := 89) rfl))))), rfl⟩
theorem m_3_146 : (Cond.fieldLink "RootedTreesModel" 48 "RootedTreesModel" "grown" "[I") ∈ lw_g := List.mem_filter.mpr ⟨(List.mem_append_right _ (List.mem_append_right _ (List.mem_append_right _ (List.mem_append_left _ (List.mem_of_getElem? (i := 146) rfl))))), rfl⟩
theorem m_3_145 : (Cond.fieldLink "RootedTreesModel" 45 "RootedTreesModel" "fixed" "[I") ∈ lw_g := List.mem_filter.mpr ⟨(List.mem_append_right _ (List.mem_append_right _ (List.mem_append_right _ (List.mem_append_left _ (List.mem_of_getElem? (i := 145) rfl))))), rfl⟩
theorem m_4_101 : (Cond.code ⟨"RootedTreesModel", "unreachedOf", "(I)I"⟩ prog_11_method_33_code 5 (Option.some .int)) ∈ lw_g := List.mem_filter.mpr ⟨(List.mem_append_right _ (List.mem_append_right _ (List.mem_append_right _ (List.mem_append_right _ (List.mem_of_getElem? (i := 101) rfl))))), rfl⟩
theorem m_4_85 : (Cond.code ⟨"RootedTreesModel", "findRooted", "(I)I"⟩ prog_11_method_34_code 5 (Option.some .int)) ∈ lw_g := List.mem_filter.mpr ⟨(List.mem_append_right _ (List.mem_append_right _ (List.mem_append_right _ (List.mem_append_right _ (List.mem_of_getElem? (i := 85) rfl))))), rfl⟩
theorem m_4_86 : (Cond.methodLink "RootedTreesModel" 135 ⟨"RootedTreesModel", "rootedCost", "(I)I"⟩) ∈ lw_g := List.mem_filter.mpr ⟨(List.mem_append_right _ (List.mem_append_right _ (List.mem_append_right _ (List.mem_append_right _ (List.mem_of_getElem? (i := 86) rfl))))), rfl⟩
theorem m_4_88 : (Cond.instanceMethod ⟨"RootedTreesModel", "rootedCost", "(I)I"⟩) ∈ lw_g := List.mem_filter.mpr ⟨(List.mem_append_right _ (List.mem_append_right _ (List.mem_append_right _ (List.mem_append_right _ (List.mem_of_getElem? (i := 88) rfl))))), rfl⟩
theorem m_0_39 : (Cond.selects "RootedTreesModel" ⟨"RootedTreesModel", "rootedCost", "(I)I"⟩ ⟨"RootedTreesModel", "rootedCost", "(I)I"⟩) ∈ lw_g := List.mem_filter.mpr ⟨(List.mem_append_left _ (List.mem_of_getElem? (i := 39) rfl)), rfl⟩
theorem m_4_81 : (Cond.code ⟨"RootedTreesModel", "rooted", "(I)I"⟩ prog_11_method_35_code 3 (Option.some .int)) ∈ lw_g := List.mem_filter.mpr ⟨(List.mem_append_right _ (List.mem_append_right _ (List.mem_append_right _ (List.mem_append_right _ (List.mem_of_getElem? (i := 81) rfl))))), rfl⟩
theorem m_4_82 : (Cond.methodLink "RootedTreesModel" 138 ⟨"RootedTreesModel", "findRooted", "(I)I"⟩) ∈ lw_g := List.mem_filter.mpr ⟨(List.mem_append_right _ (List.mem_append_right _ (List.mem_append_right _ (List.mem_append_right _ (List.mem_of_getElem? (i := 82) rfl))))), rfl⟩
theorem m_4_84 : (Cond.instanceMethod ⟨"RootedTreesModel", "findRooted", "(I)I"⟩) ∈ lw_g := List.mem_filter.mpr ⟨(List.mem_append_right _ (List.mem_append_right _ (List.mem_append_right _ (List.mem_append_right _ (List.mem_of_getElem? (i := 84) rfl))))), rfl⟩
theorem m_0_38 : (Cond.selects "RootedTreesModel" ⟨"RootedTreesModel", "findRooted", "(I)I"⟩ ⟨"RootedTreesModel", "findRooted", "(I)I"⟩) ∈ lw_g := List.mem_filter.mpr ⟨(List.mem_append_left _ (List.mem_of_getElem? (i := 38) rfl)), rfl⟩
theorem m_4_93 : (Cond.code ⟨"RootedTreesModel", "rootedArc", "(II)I"⟩ prog_11_method_36_code 3 (Option.some .int)) ∈ lw_g := List.mem_filter.mpr ⟨(List.mem_append_right _ (List.mem_append_right _ (List.mem_append_right _ (List.mem_append_right _ (List.mem_of_getElem? (i := 93) rfl))))), rfl⟩
theorem m_4_97 : (Cond.code ⟨"RootedTreesModel", "unreached", "(I)I"⟩ prog_11_method_37_code 2 (Option.some .int)) ∈ lw_g := List.mem_filter.mpr ⟨(List.mem_append_right _ (List.mem_append_right _ (List.mem_append_right _ (List.mem_append_right _ (List.mem_of_getElem? (i := 97) rfl))))), rfl⟩
theorem m_4_98 : (Cond.methodLink "RootedTreesModel" 141 ⟨"RootedTreesModel", "unreachedOf", "(I)I"⟩) ∈ lw_g := List.mem_filter.mpr ⟨(List.mem_append_right _ (List.mem_append_right _ (List.mem_append_right _ (List.mem_append_right _ (List.mem_of_getElem? (i := 98) rfl))))), rfl⟩
theorem m_4_100 : (Cond.instanceMethod ⟨"RootedTreesModel", "unreachedOf", "(I)I"⟩) ∈ lw_g := List.mem_filter.mpr ⟨(List.mem_append_right _ (List.mem_append_right _ (List.mem_append_right _ (List.mem_append_right _ (List.mem_of_getElem? (i := 100) rfl))))), rfl⟩
theorem m_0_40 : (Cond.selects "RootedTreesModel" ⟨"RootedTreesModel", "unreachedOf", "(I)I"⟩ ⟨"RootedTreesModel", "unreachedOf", "(I)I"⟩) ∈ lw_g := List.mem_filter.mpr ⟨(List.mem_append_left _ (List.mem_of_getElem? (i := 40) rfl)), rfl⟩
theorem m_4_113 : (Cond.code ⟨"RootedTreesModel", "joinedCost", "(I)I"⟩ prog_11_method_38_code 9 (Option.some .int)) ∈ lw_g := List.mem_filter.mpr ⟨(List.mem_append_right _ (List.mem_append_right _ (List.mem_append_right _ (List.mem_append_right _ (List.mem_of_getElem? (i := 113) rfl))))), rfl⟩
theorem m_3_148 : (Cond.fieldLink "RootedTreesModel" 54 "RootedTreesModel" "order" "[I") ∈ lw_g := List.mem_filter.mpr ⟨(List.mem_append_right _ (List.mem_append_right _ (List.mem_append_right _ (List.mem_append_left _ (List.mem_of_getElem? (i := 148) rfl))))), rfl⟩
theorem m_3_147 : (Cond.fieldLink "RootedTreesModel" 51 "RootedTreesModel" "costs" "[I") ∈ lw_g := List.mem_filter.mpr ⟨(List.mem_append_right _ (List.mem_append_right _ (List.mem_append_right _ (List.mem_append_left _ (List.mem_of_getElem? (i := 147) rfl))))), rfl⟩
theorem m_4_109 : (Cond.code ⟨"RootedTreesModel", "findJoined", "(I)I"⟩ prog_11_method_39_code 8 (Option.some .int)) ∈ lw_g := List.mem_filter.mpr ⟨(List.mem_append_right _ (List.mem_append_right _ (List.mem_append_right _ (List.mem_append_right _ (List.mem_of_getElem? (i := 109) rfl))))), rfl⟩
theorem m_4_110 : (Cond.methodLink "RootedTreesModel" 144 ⟨"RootedTreesModel", "joinedCost", "(I)I"⟩) ∈ lw_g := List.mem_filter.mpr ⟨(List.mem_append_right _ (List.mem_append_right _ (List.mem_append_right _ (List.mem_append_right _ (List.mem_of_getElem? (i := 110) rfl))))), rfl⟩
theorem m_4_112 : (Cond.instanceMethod ⟨"RootedTreesModel", "joinedCost", "(I)I"⟩) ∈ lw_g := List.mem_filter.mpr ⟨(List.mem_append_right _ (List.mem_append_right _ (List.mem_append_right _ (List.mem_append_right _ (List.mem_of_getElem? (i := 112) rfl))))), rfl⟩
theorem m_0_42 : (Cond.selects "RootedTreesModel" ⟨"RootedTreesModel", "joinedCost", "(I)I"⟩ ⟨"RootedTreesModel", "joinedCost", "(I)I"⟩) ∈ lw_g := List.mem_filter.mpr ⟨(List.mem_append_left _ (List.mem_of_getElem? (i := 42) rfl)), rfl⟩
theorem m_3_149 : (Cond.fieldLink "RootedTreesModel" 147 "RootedTreesModel" "joinedSet" "J") ∈ lw_g := List.mem_filter.mpr ⟨(List.mem_append_right _ (List.mem_append_right _ (List.mem_append_right _ (List.mem_append_left _ (List.mem_of_getElem? (i := 149) rfl))))), rfl⟩
theorem m_4_105 : (Cond.code ⟨"RootedTreesModel", "joined", "(I)I"⟩ prog_11_method_40_code 2 (Option.some .int)) ∈ lw_g := List.mem_filter.mpr ⟨(List.mem_append_right _ (List.mem_append_right _ (List.mem_append_right _ (List.mem_append_right _ (List.mem_of_getElem? (i := 105) rfl))))), rfl⟩
theorem m_4_106 : (Cond.methodLink "RootedTreesModel" 150 ⟨"RootedTreesModel", "findJoined", "(I)I"⟩) ∈ lw_g := List.mem_filter.mpr ⟨(List.mem_append_right _ (List.mem_append_right _ (List.mem_append_right _ (List.mem_append_right _ (List.mem_of_getElem? (i := 106) rfl))))), rfl⟩
theorem m_4_108 : (Cond.instanceMethod ⟨"RootedTreesModel", "findJoined", "(I)I"⟩) ∈ lw_g := List.mem_filter.mpr ⟨(List.mem_append_right _ (List.mem_append_right _ (List.mem_append_right _ (List.mem_append_right _ (List.mem_of_getElem? (i := 108) rfl))))), rfl⟩
theorem m_0_41 : (Cond.selects "RootedTreesModel" ⟨"RootedTreesModel", "findJoined", "(I)I"⟩ ⟨"RootedTreesModel", "findJoined", "(I)I"⟩) ∈ lw_g := List.mem_filter.mpr ⟨(List.mem_append_left _ (List.mem_of_getElem? (i := 41) rfl)), rfl⟩
theorem m_4_117 : (Cond.code ⟨"RootedTreesModel", "joinedSet", "(I)J"⟩ prog_11_method_41_code 3 (Option.some .long)) ∈ lw_g := List.mem_filter.mpr ⟨(List.mem_append_right _ (List.mem_append_right _ (List.mem_append_right _ (List.mem_append_right _ (List.mem_of_getElem? (i := 117) rfl))))), rfl⟩
theorem m_1_168 : (Cond.laysFinal "RootedTrees$BoundedTrees" "RootedTrees$BoundedTrees" "graph" "LRootedTrees$Graph;") ∈ lw_g := List.mem_filter.mpr ⟨(List.mem_append_right _ (List.mem_append_left _ (List.mem_of_getElem? (i := 168) rfl))), rfl⟩
theorem m_1_170 : (Cond.laysFinal "RootedTrees$BoundedTrees" "RootedTrees$BoundedTrees" "between" "[[J") ∈ lw_g := List.mem_filter.mpr ⟨(List.mem_append_right _ (List.mem_append_left _ (List.mem_of_getElem? (i := 170) rfl))), rfl⟩
theorem m_1_172 : (Cond.laysFinal "RootedTrees$BoundedTrees" "RootedTrees$BoundedTrees" "branch" "[[J") ∈ lw_g := List.mem_filter.mpr ⟨(List.mem_append_right _ (List.mem_append_left _ (List.mem_of_getElem? (i := 172) rfl))), rfl⟩
theorem m_1_174 : (Cond.laysFinal "RootedTrees$BoundedTrees" "RootedTrees$BoundedTrees" "branches" "[[J") ∈ lw_g := List.mem_filter.mpr ⟨(List.mem_append_right _ (List.mem_append_left _ (List.mem_of_getElem? (i := 174) rfl))), rfl⟩
theorem m_1_176 : (Cond.lays "RootedTrees$BoundedTrees" "RootedTrees$BoundedTrees" "nodes" "I") ∈ lw_g := List.mem_filter.mpr ⟨(List.mem_append_right _ (List.mem_append_left _ (List.mem_of_getElem? (i := 176) rfl))), rfl⟩
theorem m_1_178 : (Cond.lays "RootedTrees$BoundedTrees" "RootedTrees$BoundedTrees" "bound" "I") ∈ lw_g := List.mem_filter.mpr ⟨(List.mem_append_right _ (List.mem_append_left _ (List.mem_of_getElem? (i := 178) rfl))), rfl⟩
theorem m_1_140 : (Cond.laysFinal "RootedTrees$Forests" "RootedTrees$Forests" "graph" "LRootedTrees$Graph;") ∈ lw_g := List.mem_filter.mpr ⟨(List.mem_append_right _ (List.mem_append_left _ (List.mem_of_getElem? (i := 140) rfl))), rfl⟩
theorem m_1_142 : (Cond.laysFinal "RootedTrees$Forests" "RootedTrees$Forests" "labels" "LRootedTrees$Labels;") ∈ lw_g := List.mem_filter.mpr ⟨(List.mem_append_right _ (List.mem_append_left _ (List.mem_of_getElem? (i := 142) rfl))), rfl⟩
theorem m_1_144 : (Cond.laysFinal "RootedTrees$Forests" "RootedTrees$Forests" "treeCount" "LRootedTrees$TreeCount;") ∈ lw_g := List.mem_filter.mpr ⟨(List.mem_append_right _ (List.mem_append_left _ (List.mem_of_getElem? (i := 144) rfl))), rfl⟩
theorem m_1_146 : (Cond.laysFinal "RootedTrees$Forests" "RootedTrees$Forests" "heaviest" "[I") ∈ lw_g := List.mem_filter.mpr ⟨(List.mem_append_right _ (List.mem_append_left _ (List.mem_of_getElem? (i := 146) rfl))), rfl⟩
theorem m_1_148 : (Cond.lays "RootedTrees$Forests" "RootedTrees$Forests" "nextWeight" "I") ∈ lw_g := List.mem_filter.mpr ⟨(List.mem_append_right _ (List.mem_append_left _ (List.mem_of_getElem? (i := 148) rfl))), rfl⟩
theorem m_1_150 : (Cond.lays "RootedTrees$Forests" "RootedTrees$Forests" "nextIn" "I") ∈ lw_g := List.mem_filter.mpr ⟨(List.mem_append_right _ (List.mem_append_left _ (List.mem_of_getElem? (i := 150) rfl))), rfl⟩
theorem m_1_152 : (Cond.lays "RootedTrees$Forests" "RootedTrees$Forests" "nextOut" "I") ∈ lw_g := List.mem_filter.mpr ⟨(List.mem_append_right _ (List.mem_append_left _ (List.mem_of_getElem? (i := 152) rfl))), rfl⟩
theorem m_1_65 : (Cond.laysFinal "RootedTrees$Graph" "RootedTrees$Graph" "from" "[I") ∈ lw_g := List.mem_filter.mpr ⟨(List.mem_append_right _ (List.mem_append_left _ (List.mem_of_getElem? (i := 65) rfl))), rfl⟩
theorem m_1_67 : (Cond.laysFinal "RootedTrees$Graph" "RootedTrees$Graph" "to" "[I") ∈ lw_g := List.mem_filter.mpr ⟨(List.mem_append_right _ (List.mem_append_left _ (List.mem_of_getElem? (i := 67) rfl))), rfl⟩
theorem m_1_69 : (Cond.laysFinal "RootedTrees$Graph" "RootedTrees$Graph" "weight" "[I") ∈ lw_g := List.mem_filter.mpr ⟨(List.mem_append_right _ (List.mem_append_left _ (List.mem_of_getElem? (i := 69) rfl))), rfl⟩
theorem m_1_71 : (Cond.laysFinal "RootedTrees$Graph" "RootedTrees$Graph" "order" "[I") ∈ lw_g := List.mem_filter.mpr ⟨(List.mem_append_right _ (List.mem_append_left _ (List.mem_of_getElem? (i := 71) rfl))), rfl⟩
theorem m_1_73 : (Cond.lays "RootedTrees$Graph" "RootedTrees$Graph" "nodes" "I") ∈ lw_g := List.mem_filter.mpr ⟨(List.mem_append_right _ (List.mem_append_left _ (List.mem_of_getElem? (i := 73) rfl))), rfl⟩
theorem m_1_75 : (Cond.lays "RootedTrees$Graph" "RootedTrees$Graph" "numbered" "I") ∈ lw_g := List.mem_filter.mpr ⟨(List.mem_append_right _ (List.mem_append_left _ (List.mem_of_getElem? (i := 75) rfl))), rfl⟩
theorem m_1_77 : (Cond.lays "RootedTrees$Graph" "RootedTrees$Graph" "size" "I") ∈ lw_g := List.mem_filter.mpr ⟨(List.mem_append_right _ (List.mem_append_left _ (List.mem_of_getElem? (i := 77) rfl))), rfl⟩
theorem m_1_79 : (Cond.lays "RootedTrees$Graph" "RootedTrees$Graph" "present" "J") ∈ lw_g := List.mem_filter.mpr ⟨(List.mem_append_right _ (List.mem_append_left _ (List.mem_of_getElem? (i := 79) rfl))), rfl⟩
theorem m_1_228 : (Cond.laysFinal "RootedTrees$JoiningTrees" "RootedTrees$JoiningTrees" "graph" "LRootedTrees$Graph;") ∈ lw_g := List.mem_filter.mpr ⟨(List.mem_append_right _ (List.mem_append_left _ (List.mem_of_getElem? (i := 228) rfl))), rfl⟩
theorem m_1_230 : (Cond.laysFinal "RootedTrees$JoiningTrees" "RootedTrees$JoiningTrees" "labels" "LRootedTrees$Labels;") ∈ lw_g := List.mem_filter.mpr ⟨(List.mem_append_right _ (List.mem_append_left _ (List.mem_of_getElem? (i := 230) rfl))), rfl⟩
theorem m_1_101 : (Cond.laysFinal "RootedTrees$Labels" "RootedTrees$Labels" "label" "[I") ∈ lw_g := List.mem_filter.mpr ⟨(List.mem_append_right _ (List.mem_append_left _ (List.mem_of_getElem? (i := 101) rfl))), rfl⟩
theorem m_1_103 : (Cond.lays "RootedTrees$Labels" "RootedTrees$Labels" "nodes" "I") ∈ lw_g := List.mem_filter.mpr ⟨(List.mem_append_right _ (List.mem_append_left _ (List.mem_of_getElem? (i := 103) rfl))), rfl⟩
theorem m_1_105 : (Cond.lays "RootedTrees$Labels" "RootedTrees$Labels" "groups" "I") ∈ lw_g := List.mem_filter.mpr ⟨(List.mem_append_right _ (List.mem_append_left _ (List.mem_of_getElem? (i := 105) rfl))), rfl⟩
theorem m_1_120 : (Cond.laysFinal "RootedTrees$TreeCount" "RootedTrees$TreeCount" "groupOf" "[I") ∈ lw_g := List.mem_filter.mpr ⟨(List.mem_append_right _ (List.mem_append_left _ (List.mem_of_getElem? (i := 120) rfl))), rfl⟩
theorem m_1_122 : (Cond.laysFinal "RootedTrees$TreeCount" "RootedTrees$TreeCount" "links" "[[J") ∈ lw_g := List.mem_filter.mpr ⟨(List.mem_append_right _ (List.mem_append_left _ (List.mem_of_getElem? (i := 122) rfl))), rfl⟩
theorem m_1_124 : (Cond.laysFinal "RootedTrees$TreeCount" "RootedTrees$TreeCount" "rows" "[I") ∈ lw_g := List.mem_filter.mpr ⟨(List.mem_append_right _ (List.mem_append_left _ (List.mem_of_getElem? (i := 124) rfl))), rfl⟩
theorem m_1_126 : (Cond.laysFinal "RootedTrees$TreeCount" "RootedTrees$TreeCount" "minor" "[[J") ∈ lw_g := List.mem_filter.mpr ⟨(List.mem_append_right _ (List.mem_append_left _ (List.mem_of_getElem? (i := 126) rfl))), rfl⟩
theorem m_1_197 : (Cond.laysFinal "RootedTrees$TreesFromRoot" "RootedTrees$TreesFromRoot" "graph" "LRootedTrees$Graph;") ∈ lw_g := List.mem_filter.mpr ⟨(List.mem_append_right _ (List.mem_append_left _ (List.mem_of_getElem? (i := 197) rfl))), rfl⟩
theorem m_1_199 : (Cond.laysFinal "RootedTrees$TreesFromRoot" "RootedTrees$TreesFromRoot" "tail" "[I") ∈ lw_g := List.mem_filter.mpr ⟨(List.mem_append_right _ (List.mem_append_left _ (List.mem_of_getElem? (i := 199) rfl))), rfl⟩
theorem m_1_201 : (Cond.laysFinal "RootedTrees$TreesFromRoot" "RootedTrees$TreesFromRoot" "head" "[I") ∈ lw_g := List.mem_filter.mpr ⟨(List.mem_append_right _ (List.mem_append_left _ (List.mem_of_getElem? (i := 201) rfl))), rfl⟩
theorem m_1_203 : (Cond.laysFinal "RootedTrees$TreesFromRoot" "RootedTrees$TreesFromRoot" "cost" "[J") ∈ lw_g := List.mem_filter.mpr ⟨(List.mem_append_right _ (List.mem_append_left _ (List.mem_of_getElem? (i := 203) rfl))), rfl⟩
theorem m_1_205 : (Cond.laysFinal "RootedTrees$TreesFromRoot" "RootedTrees$TreesFromRoot" "leastInto" "[J") ∈ lw_g := List.mem_filter.mpr ⟨(List.mem_append_right _ (List.mem_append_left _ (List.mem_of_getElem? (i := 205) rfl))), rfl⟩
theorem m_1_207 : (Cond.laysFinal "RootedTrees$TreesFromRoot" "RootedTrees$TreesFromRoot" "before" "[I") ∈ lw_g := List.mem_filter.mpr ⟨(List.mem_append_right _ (List.mem_append_left _ (List.mem_of_getElem? (i := 207) rfl))), rfl⟩
theorem m_1_209 : (Cond.laysFinal "RootedTrees$TreesFromRoot" "RootedTrees$TreesFromRoot" "group" "[I") ∈ lw_g := List.mem_filter.mpr ⟨(List.mem_append_right _ (List.mem_append_left _ (List.mem_of_getElem? (i := 209) rfl))), rfl⟩
theorem m_1_211 : (Cond.lays "RootedTrees$TreesFromRoot" "RootedTrees$TreesFromRoot" "nodes" "I") ∈ lw_g := List.mem_filter.mpr ⟨(List.mem_append_right _ (List.mem_append_left _ (List.mem_of_getElem? (i := 211) rfl))), rfl⟩
theorem m_1_213 : (Cond.lays "RootedTrees$TreesFromRoot" "RootedTrees$TreesFromRoot" "arcs" "I") ∈ lw_g := List.mem_filter.mpr ⟨(List.mem_append_right _ (List.mem_append_left _ (List.mem_of_getElem? (i := 213) rfl))), rfl⟩
theorem m_1_215 : (Cond.lays "RootedTrees$TreesFromRoot" "RootedTrees$TreesFromRoot" "root" "I") ∈ lw_g := List.mem_filter.mpr ⟨(List.mem_append_right _ (List.mem_append_left _ (List.mem_of_getElem? (i := 215) rfl))), rfl⟩
theorem m_1_238 : (Cond.laysFinal "RootedTrees" "RootedTrees" "graph" "LRootedTrees$Graph;") ∈ lw_g := List.mem_filter.mpr ⟨(List.mem_append_right _ (List.mem_append_left _ (List.mem_of_getElem? (i := 238) rfl))), rfl⟩
theorem m_2_0 : (Cond.laysFinal "RootedTrees" "RootedTrees" "forests" "LRootedTrees$Forests;") ∈ lw_g := List.mem_filter.mpr ⟨(List.mem_append_right _ (List.mem_append_right _ (List.mem_append_left _ (List.mem_of_getElem? (i := 0) rfl)))), rfl⟩
theorem m_2_2 : (Cond.laysFinal "RootedTrees" "RootedTrees" "boundedTrees" "LRootedTrees$BoundedTrees;") ∈ lw_g := List.mem_filter.mpr ⟨(List.mem_append_right _ (List.mem_append_right _ (List.mem_append_left _ (List.mem_of_getElem? (i := 2) rfl)))), rfl⟩
theorem m_2_4 : (Cond.laysFinal "RootedTrees" "RootedTrees" "treesFromRoot" "LRootedTrees$TreesFromRoot;") ∈ lw_g := List.mem_filter.mpr ⟨(List.mem_append_right _ (List.mem_append_right _ (List.mem_append_left _ (List.mem_of_getElem? (i := 4) rfl)))), rfl⟩
theorem m_2_6 : (Cond.laysFinal "RootedTrees" "RootedTrees" "joiningTrees" "LRootedTrees$JoiningTrees;") ∈ lw_g := List.mem_filter.mpr ⟨(List.mem_append_right _ (List.mem_append_right _ (List.mem_append_left _ (List.mem_of_getElem? (i := 6) rfl)))), rfl⟩
theorem m_3_150 : (Cond.lays "RootedTreesModel" "RootedTreesModel" "nodes" "I") ∈ lw_g := List.mem_filter.mpr ⟨(List.mem_append_right _ (List.mem_append_right _ (List.mem_append_right _ (List.mem_append_left _ (List.mem_of_getElem? (i := 150) rfl))))), rfl⟩
theorem m_3_152 : (Cond.lays "RootedTreesModel" "RootedTreesModel" "arcs" "I") ∈ lw_g := List.mem_filter.mpr ⟨(List.mem_append_right _ (List.mem_append_right _ (List.mem_append_right _ (List.mem_append_left _ (List.mem_of_getElem? (i := 152) rfl))))), rfl⟩
theorem m_3_154 : (Cond.lays "RootedTreesModel" "RootedTreesModel" "left" "I") ∈ lw_g := List.mem_filter.mpr ⟨(List.mem_append_right _ (List.mem_append_right _ (List.mem_append_right _ (List.mem_append_left _ (List.mem_of_getElem? (i := 154) rfl))))), rfl⟩
theorem m_3_156 : (Cond.laysFinal "RootedTreesModel" "RootedTreesModel" "froms" "[I") ∈ lw_g := List.mem_filter.mpr ⟨(List.mem_append_right _ (List.mem_append_right _ (List.mem_append_right _ (List.mem_append_left _ (List.mem_of_getElem? (i := 156) rfl))))), rfl⟩
theorem m_3_158 : (Cond.laysFinal "RootedTreesModel" "RootedTreesModel" "tos" "[I") ∈ lw_g := List.mem_filter.mpr ⟨(List.mem_append_right _ (List.mem_append_right _ (List.mem_append_right _ (List.mem_append_left _ (List.mem_of_getElem? (i := 158) rfl))))), rfl⟩
theorem m_3_160 : (Cond.laysFinal "RootedTreesModel" "RootedTreesModel" "weights" "[I") ∈ lw_g := List.mem_filter.mpr ⟨(List.mem_append_right _ (List.mem_append_right _ (List.mem_append_right _ (List.mem_append_left _ (List.mem_of_getElem? (i := 160) rfl))))), rfl⟩
theorem m_3_162 : (Cond.laysFinal "RootedTreesModel" "RootedTreesModel" "there" "[Z") ∈ lw_g := List.mem_filter.mpr ⟨(List.mem_append_right _ (List.mem_append_right _ (List.mem_append_right _ (List.mem_append_left _ (List.mem_of_getElem? (i := 162) rfl))))), rfl⟩
theorem m_3_164 : (Cond.laysFinal "RootedTreesModel" "RootedTreesModel" "part" "[I") ∈ lw_g := List.mem_filter.mpr ⟨(List.mem_append_right _ (List.mem_append_right _ (List.mem_append_right _ (List.mem_append_left _ (List.mem_of_getElem? (i := 164) rfl))))), rfl⟩
theorem m_3_166 : (Cond.laysFinal "RootedTreesModel" "RootedTreesModel" "matrix" "[J") ∈ lw_g := List.mem_filter.mpr ⟨(List.mem_append_right _ (List.mem_append_right _ (List.mem_append_right _ (List.mem_append_left _ (List.mem_of_getElem? (i := 166) rfl))))), rfl⟩
theorem m_3_168 : (Cond.laysFinal "RootedTreesModel" "RootedTreesModel" "row" "[I") ∈ lw_g := List.mem_filter.mpr ⟨(List.mem_append_right _ (List.mem_append_right _ (List.mem_append_right _ (List.mem_append_left _ (List.mem_of_getElem? (i := 168) rfl))))), rfl⟩
theorem m_3_170 : (Cond.laysFinal "RootedTreesModel" "RootedTreesModel" "low" "[I") ∈ lw_g := List.mem_filter.mpr ⟨(List.mem_append_right _ (List.mem_append_right _ (List.mem_append_right _ (List.mem_append_left _ (List.mem_of_getElem? (i := 170) rfl))))), rfl⟩
theorem m_3_172 : (Cond.lays "RootedTreesModel" "RootedTreesModel" "swapIn" "I") ∈ lw_g := List.mem_filter.mpr ⟨(List.mem_append_right _ (List.mem_append_right _ (List.mem_append_right _ (List.mem_append_left _ (List.mem_of_getElem? (i := 172) rfl))))), rfl⟩
theorem m_3_174 : (Cond.lays "RootedTreesModel" "RootedTreesModel" "swapOut" "I") ∈ lw_g := List.mem_filter.mpr ⟨(List.mem_append_right _ (List.mem_append_right _ (List.mem_append_right _ (List.mem_append_left _ (List.mem_of_getElem? (i := 174) rfl))))), rfl⟩
theorem m_3_176 : (Cond.laysFinal "RootedTreesModel" "RootedTreesModel" "own" "[I") ∈ lw_g := List.mem_filter.mpr ⟨(List.mem_append_right _ (List.mem_append_right _ (List.mem_append_right _ (List.mem_append_left _ (List.mem_of_getElem? (i := 176) rfl))))), rfl⟩
theorem m_3_178 : (Cond.laysFinal "RootedTreesModel" "RootedTreesModel" "chosen" "[I") ∈ lw_g := List.mem_filter.mpr ⟨(List.mem_append_right _ (List.mem_append_right _ (List.mem_append_right _ (List.mem_append_left _ (List.mem_of_getElem? (i := 178) rfl))))), rfl⟩
theorem m_3_180 : (Cond.laysFinal "RootedTreesModel" "RootedTreesModel" "degrees" "[I") ∈ lw_g := List.mem_filter.mpr ⟨(List.mem_append_right _ (List.mem_append_right _ (List.mem_append_right _ (List.mem_append_left _ (List.mem_of_getElem? (i := 180) rfl))))), rfl⟩
theorem m_3_182 : (Cond.lays "RootedTreesModel" "RootedTreesModel" "boundedSet" "J") ∈ lw_g := List.mem_filter.mpr ⟨(List.mem_append_right _ (List.mem_append_right _ (List.mem_append_right _ (List.mem_append_left _ (List.mem_of_getElem? (i := 182) rfl))))), rfl⟩
theorem m_3_184 : (Cond.laysFinal "RootedTreesModel" "RootedTreesModel" "fixed" "[I") ∈ lw_g := List.mem_filter.mpr ⟨(List.mem_append_right _ (List.mem_append_right _ (List.mem_append_right _ (List.mem_append_left _ (List.mem_of_getElem? (i := 184) rfl))))), rfl⟩
theorem m_3_186 : (Cond.laysFinal "RootedTreesModel" "RootedTreesModel" "grown" "[I") ∈ lw_g := List.mem_filter.mpr ⟨(List.mem_append_right _ (List.mem_append_right _ (List.mem_append_right _ (List.mem_append_left _ (List.mem_of_getElem? (i := 186) rfl))))), rfl⟩
theorem m_3_188 : (Cond.laysFinal "RootedTreesModel" "RootedTreesModel" "costs" "[I") ∈ lw_g := List.mem_filter.mpr ⟨(List.mem_append_right _ (List.mem_append_right _ (List.mem_append_right _ (List.mem_append_left _ (List.mem_of_getElem? (i := 188) rfl))))), rfl⟩
theorem m_3_190 : (Cond.laysFinal "RootedTreesModel" "RootedTreesModel" "order" "[I") ∈ lw_g := List.mem_filter.mpr ⟨(List.mem_append_right _ (List.mem_append_right _ (List.mem_append_right _ (List.mem_append_left _ (List.mem_of_getElem? (i := 190) rfl))))), rfl⟩
theorem m_3_192 : (Cond.lays "RootedTreesModel" "RootedTreesModel" "joinedSet" "J") ∈ lw_g := List.mem_filter.mpr ⟨(List.mem_append_right _ (List.mem_append_right _ (List.mem_append_right _ (List.mem_append_left _ (List.mem_of_getElem? (i := 192) rfl))))), rfl⟩
theorem i_BoundedTrees : ∀ w ∈ u_ws R_BoundedTrees F_BoundedTrees 6, w ∈ lw_g := by
  intro w hw
  have h9 : w ∈ [u_lay R_BoundedTrees F_BoundedTrees 0, u_lay R_BoundedTrees F_BoundedTrees 1, u_lay R_BoundedTrees F_BoundedTrees 2, u_lay R_BoundedTrees F_BoundedTrees 3, u_lay R_BoundedTrees F_BoundedTrees 4, u_lay R_BoundedTrees F_BoundedTrees 5] := hw
  simp only [List.mem_cons, List.not_mem_nil, or_false] at h9
  rcases h9 with rfl | rfl | rfl | rfl | rfl | rfl
  · exact m_1_168
  · exact m_1_170
  · exact m_1_172
  · exact m_1_174
  · exact m_1_176
  · exact m_1_178
theorem i_Forests : ∀ w ∈ u_ws R_Forests F_Forests 7, w ∈ lw_g := by
  intro w hw
  have h9 : w ∈ [u_lay R_Forests F_Forests 0, u_lay R_Forests F_Forests 1, u_lay R_Forests F_Forests 2, u_lay R_Forests F_Forests 3, u_lay R_Forests F_Forests 4, u_lay R_Forests F_Forests 5, u_lay R_Forests F_Forests 6] := hw
  simp only [List.mem_cons, List.not_mem_nil, or_false] at h9
  rcases h9 with rfl | rfl | rfl | rfl | rfl | rfl | rfl
  · exact m_1_140
  · exact m_1_142
  · exact m_1_144
  · exact m_1_146
  · exact m_1_148
  · exact m_1_150
  · exact m_1_152
theorem i_Graph : ∀ w ∈ u_ws R_Graph F_Graph 8, w ∈ lw_g := by
  intro w hw
  have h9 : w ∈ [u_lay R_Graph F_Graph 0, u_lay R_Graph F_Graph 1, u_lay R_Graph F_Graph 2, u_lay R_Graph F_Graph 3, u_lay R_Graph F_Graph 4, u_lay R_Graph F_Graph 5, u_lay R_Graph F_Graph 6, u_lay R_Graph F_Graph 7] := hw
  simp only [List.mem_cons, List.not_mem_nil, or_false] at h9
  rcases h9 with rfl | rfl | rfl | rfl | rfl | rfl | rfl | rfl
  · exact m_1_65
  · exact m_1_67
  · exact m_1_69
  · exact m_1_71
  · exact m_1_73
  · exact m_1_75
  · exact m_1_77
  · exact m_1_79
theorem i_JoiningTrees : ∀ w ∈ u_ws R_JoiningTrees F_JoiningTrees 2, w ∈ lw_g := by
  intro w hw
  have h9 : w ∈ [u_lay R_JoiningTrees F_JoiningTrees 0, u_lay R_JoiningTrees F_JoiningTrees 1] := hw
  simp only [List.mem_cons, List.not_mem_nil, or_false] at h9
  rcases h9 with rfl | rfl
  · exact m_1_228
  · exact m_1_230
theorem i_Labels : ∀ w ∈ u_ws R_Labels F_Labels 3, w ∈ lw_g := by
  intro w hw
  have h9 : w ∈ [u_lay R_Labels F_Labels 0, u_lay R_Labels F_Labels 1, u_lay R_Labels F_Labels 2] := hw
  simp only [List.mem_cons, List.not_mem_nil, or_false] at h9
  rcases h9 with rfl | rfl | rfl
  · exact m_1_101
  · exact m_1_103
  · exact m_1_105
theorem i_TreeCount : ∀ w ∈ u_ws R_TreeCount F_TreeCount 4, w ∈ lw_g := by
  intro w hw
  have h9 : w ∈ [u_lay R_TreeCount F_TreeCount 0, u_lay R_TreeCount F_TreeCount 1, u_lay R_TreeCount F_TreeCount 2, u_lay R_TreeCount F_TreeCount 3] := hw
  simp only [List.mem_cons, List.not_mem_nil, or_false] at h9
  rcases h9 with rfl | rfl | rfl | rfl
  · exact m_1_120
  · exact m_1_122
  · exact m_1_124
  · exact m_1_126
theorem i_TreesFromRoot : ∀ w ∈ u_ws R_TreesFromRoot F_TreesFromRoot 10, w ∈ lw_g := by
  intro w hw
  have h9 : w ∈ [u_lay R_TreesFromRoot F_TreesFromRoot 0, u_lay R_TreesFromRoot F_TreesFromRoot 1, u_lay R_TreesFromRoot F_TreesFromRoot 2, u_lay R_TreesFromRoot F_TreesFromRoot 3, u_lay R_TreesFromRoot F_TreesFromRoot 4, u_lay R_TreesFromRoot F_TreesFromRoot 5, u_lay R_TreesFromRoot F_TreesFromRoot 6, u_lay R_TreesFromRoot F_TreesFromRoot 7, u_lay R_TreesFromRoot F_TreesFromRoot 8, u_lay R_TreesFromRoot F_TreesFromRoot 9] := hw
  simp only [List.mem_cons, List.not_mem_nil, or_false] at h9
  rcases h9 with rfl | rfl | rfl | rfl | rfl | rfl | rfl | rfl | rfl | rfl
  · exact m_1_197
  · exact m_1_199
  · exact m_1_201
  · exact m_1_203
  · exact m_1_205
  · exact m_1_207
  · exact m_1_209
  · exact m_1_211
  · exact m_1_213
  · exact m_1_215
theorem i_RT : ∀ w ∈ u_ws R_RT F_RT 5, w ∈ lw_g := by
  intro w hw
  have h9 : w ∈ [u_lay R_RT F_RT 0, u_lay R_RT F_RT 1, u_lay R_RT F_RT 2, u_lay R_RT F_RT 3, u_lay R_RT F_RT 4] := hw
  simp only [List.mem_cons, List.not_mem_nil, or_false] at h9
  rcases h9 with rfl | rfl | rfl | rfl | rfl
  · exact m_1_238
  · exact m_2_0
  · exact m_2_2
  · exact m_2_4
  · exact m_2_6
theorem i_Mo : ∀ w ∈ u_ws R_Mo F_Mo 22, w ∈ lw_g := by
  intro w hw
  have h9 : w ∈ [u_lay R_Mo F_Mo 0, u_lay R_Mo F_Mo 1, u_lay R_Mo F_Mo 2, u_lay R_Mo F_Mo 3, u_lay R_Mo F_Mo 4, u_lay R_Mo F_Mo 5, u_lay R_Mo F_Mo 6, u_lay R_Mo F_Mo 7, u_lay R_Mo F_Mo 8, u_lay R_Mo F_Mo 9, u_lay R_Mo F_Mo 10, u_lay R_Mo F_Mo 11, u_lay R_Mo F_Mo 12, u_lay R_Mo F_Mo 13, u_lay R_Mo F_Mo 14, u_lay R_Mo F_Mo 15, u_lay R_Mo F_Mo 16, u_lay R_Mo F_Mo 17, u_lay R_Mo F_Mo 18, u_lay R_Mo F_Mo 19, u_lay R_Mo F_Mo 20, u_lay R_Mo F_Mo 21] := hw
  simp only [List.mem_cons, List.not_mem_nil, or_false] at h9
  rcases h9 with rfl | rfl | rfl | rfl | rfl | rfl | rfl | rfl | rfl | rfl | rfl | rfl | rfl | rfl | rfl | rfl | rfl | rfl | rfl | rfl | rfl | rfl
  · exact m_3_150
  · exact m_3_152
  · exact m_3_154
  · exact m_3_156
  · exact m_3_158
  · exact m_3_160
  · exact m_3_162
  · exact m_3_164
  · exact m_3_166
  · exact m_3_168
  · exact m_3_170
  · exact m_3_172
  · exact m_3_174
  · exact m_3_176
  · exact m_3_178
  · exact m_3_180
  · exact m_3_182
  · exact m_3_184
  · exact m_3_186
  · exact m_3_188
  · exact m_3_190
  · exact m_3_192
