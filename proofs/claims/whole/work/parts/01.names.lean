-- ===== PART A: goes FIRST, ahead of the names: the tables' words, and 'selects' of the private methods out of them =====
/-- a private method of a class that the tables say can be made, by its rows of tables_1 -/
def lw_okq (q : MethodName × Nat) : Prop := (q.1.cls ≠ "java/lang/invoke/MethodHandle" ∧ q.1.cls ≠ "java/lang/invoke/VarHandle") ∧ Cond.instantiable q.1.cls q.2 ∈ tables_1 ∧ Cond.privateMethod q.1 ∈ tables_1 ∧ Cond.instanceMethod q.1 ∈ tables_1
theorem lw_p0 : lw_okq (⟨"HeapTower$Products", "lineByLast", "(I)I"⟩, 6) := ⟨⟨by decide +kernel, by decide +kernel⟩, List.mem_of_getElem? (i := 21) (by decide +kernel), List.mem_of_getElem? (i := 34) (by decide +kernel), List.mem_of_getElem? (i := 35) (by decide +kernel)⟩
theorem lw_p1 : lw_okq (⟨"HeapTower$Products", "lineByFirst", "(I)I"⟩, 6) := ⟨⟨by decide +kernel, by decide +kernel⟩, List.mem_of_getElem? (i := 21) (by decide +kernel), List.mem_of_getElem? (i := 40) (by decide +kernel), List.mem_of_getElem? (i := 41) (by decide +kernel)⟩
theorem lw_p2 : lw_okq (⟨"HeapTower", "clearClaims", "()V"⟩, 12) := ⟨⟨by decide +kernel, by decide +kernel⟩, List.mem_of_getElem? (i := 13) (by decide +kernel), List.mem_of_getElem? (i := 267) (by decide +kernel), List.mem_of_getElem? (i := 268) (by decide +kernel)⟩
theorem lw_p3 : lw_okq (⟨"HeapTower", "forgetAllBases", "()V"⟩, 12) := ⟨⟨by decide +kernel, by decide +kernel⟩, List.mem_of_getElem? (i := 13) (by decide +kernel), List.mem_of_getElem? (i := 278) (by decide +kernel), List.mem_of_getElem? (i := 279) (by decide +kernel)⟩
theorem lw_p4 : lw_okq (⟨"HeapTower", "isProduct", "(III)Z"⟩, 12) := ⟨⟨by decide +kernel, by decide +kernel⟩, List.mem_of_getElem? (i := 13) (by decide +kernel), List.mem_of_getElem? (i := 296) (by decide +kernel), List.mem_of_getElem? (i := 297) (by decide +kernel)⟩
theorem lw_p5 : lw_okq (⟨"HeapTower", "draftChanged", "()V"⟩, 12) := ⟨⟨by decide +kernel, by decide +kernel⟩, List.mem_of_getElem? (i := 13) (by decide +kernel), List.mem_of_getElem? (i := 317) (by decide +kernel), List.mem_of_getElem? (i := 318) (by decide +kernel)⟩
theorem lw_p6 : lw_okq (⟨"HeapTower$Polynomial", "sizeOf", "(I)I"⟩, 2) := ⟨⟨by decide +kernel, by decide +kernel⟩, List.mem_of_getElem? (i := 118) (by decide +kernel), List.mem_of_getElem? (i := 341) (by decide +kernel), List.mem_of_getElem? (i := 342) (by decide +kernel)⟩
theorem lw_p7 : lw_okq (⟨"HeapTower", "headOfDraft", "()I"⟩, 12) := ⟨⟨by decide +kernel, by decide +kernel⟩, List.mem_of_getElem? (i := 13) (by decide +kernel), List.mem_of_getElem? (i := 351) (by decide +kernel), List.mem_of_getElem? (i := 352) (by decide +kernel)⟩
theorem lw_p8 : lw_okq (⟨"HeapTower$Polynomial", "movePartUp", "(III)V"⟩, 2) := ⟨⟨by decide +kernel, by decide +kernel⟩, List.mem_of_getElem? (i := 118) (by decide +kernel), List.mem_of_getElem? (i := 386) (by decide +kernel), List.mem_of_getElem? (i := 387) (by decide +kernel)⟩
theorem lw_p9 : lw_okq (⟨"HeapTower", "heapChanged", "(I)V"⟩, 12) := ⟨⟨by decide +kernel, by decide +kernel⟩, List.mem_of_getElem? (i := 13) (by decide +kernel), List.mem_of_getElem? (i := 418) (by decide +kernel), List.mem_of_getElem? (i := 419) (by decide +kernel)⟩
theorem lw_p10 : lw_okq (⟨"HeapTower$Base", "makeRoom", "()V"⟩, 13) := ⟨⟨by decide +kernel, by decide +kernel⟩, List.mem_of_getElem? (i := 132) (by decide +kernel), List.mem_of_getElem? (i := 467) (by decide +kernel), List.mem_of_getElem? (i := 468) (by decide +kernel)⟩
theorem lw_p11 : lw_okq (⟨"HeapTower$Base", "inherit", "(I)V"⟩, 13) := ⟨⟨by decide +kernel, by decide +kernel⟩, List.mem_of_getElem? (i := 132) (by decide +kernel), List.mem_of_getElem? (i := 482) (by decide +kernel), List.mem_of_getElem? (i := 483) (by decide +kernel)⟩
theorem lw_p12 : lw_okq (⟨"HeapTower$Base", "leaderBelow", "(III)I"⟩, 13) := ⟨⟨by decide +kernel, by decide +kernel⟩, List.mem_of_getElem? (i := 132) (by decide +kernel), List.mem_of_getElem? (i := 488) (by decide +kernel), List.mem_of_getElem? (i := 489) (by decide +kernel)⟩
theorem lw_p13 : lw_okq (⟨"HeapTower$Base", "offerDifferences", "(I)V"⟩, 13) := ⟨⟨by decide +kernel, by decide +kernel⟩, List.mem_of_getElem? (i := 132) (by decide +kernel), List.mem_of_getElem? (i := 498) (by decide +kernel), List.mem_of_getElem? (i := 499) (by decide +kernel)⟩
theorem lw_p14 : lw_okq (⟨"HeapTower$Base", "isNews", "(IIII)Z"⟩, 13) := ⟨⟨by decide +kernel, by decide +kernel⟩, List.mem_of_getElem? (i := 132) (by decide +kernel), List.mem_of_getElem? (i := 502) (by decide +kernel), List.mem_of_getElem? (i := 503) (by decide +kernel)⟩
theorem lw_p15 : lw_okq (⟨"HeapTower$Base", "offerMoved", "(III)V"⟩, 13) := ⟨⟨by decide +kernel, by decide +kernel⟩, List.mem_of_getElem? (i := 132) (by decide +kernel), List.mem_of_getElem? (i := 509) (by decide +kernel), List.mem_of_getElem? (i := 510) (by decide +kernel)⟩
def lw_privs_1 : List (MethodName × Nat) := [(⟨"HeapTower$Products", "lineByLast", "(I)I"⟩, 6), (⟨"HeapTower$Products", "lineByFirst", "(I)I"⟩, 6), (⟨"HeapTower", "clearClaims", "()V"⟩, 12), (⟨"HeapTower", "forgetAllBases", "()V"⟩, 12), (⟨"HeapTower", "isProduct", "(III)Z"⟩, 12), (⟨"HeapTower", "draftChanged", "()V"⟩, 12), (⟨"HeapTower$Polynomial", "sizeOf", "(I)I"⟩, 2), (⟨"HeapTower", "headOfDraft", "()I"⟩, 12), (⟨"HeapTower$Polynomial", "movePartUp", "(III)V"⟩, 2), (⟨"HeapTower", "heapChanged", "(I)V"⟩, 12), (⟨"HeapTower$Base", "makeRoom", "()V"⟩, 13), (⟨"HeapTower$Base", "inherit", "(I)V"⟩, 13), (⟨"HeapTower$Base", "leaderBelow", "(III)I"⟩, 13), (⟨"HeapTower$Base", "offerDifferences", "(I)V"⟩, 13), (⟨"HeapTower$Base", "isNews", "(IIII)Z"⟩, 13), (⟨"HeapTower$Base", "offerMoved", "(III)V"⟩, 13)]
theorem lw_r1 : ∀ q ∈ lw_privs_1, lw_okq q := List.forall_mem_cons.mpr ⟨lw_p0, List.forall_mem_cons.mpr ⟨lw_p1, List.forall_mem_cons.mpr ⟨lw_p2, List.forall_mem_cons.mpr ⟨lw_p3, List.forall_mem_cons.mpr ⟨lw_p4, List.forall_mem_cons.mpr ⟨lw_p5, List.forall_mem_cons.mpr ⟨lw_p6, List.forall_mem_cons.mpr ⟨lw_p7, List.forall_mem_cons.mpr ⟨lw_p8, List.forall_mem_cons.mpr ⟨lw_p9, List.forall_mem_cons.mpr ⟨lw_p10, List.forall_mem_cons.mpr ⟨lw_p11, List.forall_mem_cons.mpr ⟨lw_p12, List.forall_mem_cons.mpr ⟨lw_p13, List.forall_mem_cons.mpr ⟨lw_p14, List.forall_mem_cons.mpr ⟨lw_p15, fun _ h => absurd h List.not_mem_nil⟩⟩⟩⟩⟩⟩⟩⟩⟩⟩⟩⟩⟩⟩⟩⟩
theorem lw_p16 : lw_okq (⟨"HeapTower$Base", "addMoved", "([IIII)V"⟩, 13) := ⟨⟨by decide +kernel, by decide +kernel⟩, List.mem_of_getElem? (i := 132) (by decide +kernel), List.mem_of_getElem? (i := 514) (by decide +kernel), List.mem_of_getElem? (i := 515) (by decide +kernel)⟩
theorem lw_p17 : lw_okq (⟨"HeapTower$Rows", "subtract", "([II[I)V"⟩, 8) := ⟨⟨by decide +kernel, by decide +kernel⟩, List.mem_of_getElem? (i := 84) (by decide +kernel), List.mem_of_getElem? (i := 527) (by decide +kernel), List.mem_of_getElem? (i := 528) (by decide +kernel)⟩
theorem lw_p18 : lw_okq (⟨"HeapTower$Base", "append", "(II)V"⟩, 13) := ⟨⟨by decide +kernel, by decide +kernel⟩, List.mem_of_getElem? (i := 132) (by decide +kernel), List.mem_of_getElem? (i := 552) (by decide +kernel), List.mem_of_getElem? (i := 553) (by decide +kernel)⟩
theorem lw_p19 : lw_okq (⟨"HeapTower", "loadRestOfDraft", "(LHeapTower$Base;I)Z"⟩, 12) := ⟨⟨by decide +kernel, by decide +kernel⟩, List.mem_of_getElem? (i := 13) (by decide +kernel), List.mem_of_getElem? (i := 564) (by decide +kernel), List.mem_of_getElem? (i := 565) (by decide +kernel)⟩
theorem lw_p20 : lw_okq (⟨"HeapTower", "freeAtGround", "(I)I"⟩, 12) := ⟨⟨by decide +kernel, by decide +kernel⟩, List.mem_of_getElem? (i := 13) (by decide +kernel), List.mem_of_getElem? (i := 611) (by decide +kernel), List.mem_of_getElem? (i := 612) (by decide +kernel)⟩
theorem lw_p21 : lw_okq (⟨"HeapTower", "freeAtSecond", "(LHeapTower$Base;I)I"⟩, 12) := ⟨⟨by decide +kernel, by decide +kernel⟩, List.mem_of_getElem? (i := 13) (by decide +kernel), List.mem_of_getElem? (i := 619) (by decide +kernel), List.mem_of_getElem? (i := 620) (by decide +kernel)⟩
theorem lw_p22 : lw_okq (⟨"HeapTower", "freeAtThird", "(LHeapTower$Base;I)I"⟩, 12) := ⟨⟨by decide +kernel, by decide +kernel⟩, List.mem_of_getElem? (i := 13) (by decide +kernel), List.mem_of_getElem? (i := 623) (by decide +kernel), List.mem_of_getElem? (i := 624) (by decide +kernel)⟩
theorem lw_p23 : lw_okq (⟨"HeapTower", "loadImages", "(LHeapTower$Base;II)V"⟩, 12) := ⟨⟨by decide +kernel, by decide +kernel⟩, List.mem_of_getElem? (i := 13) (by decide +kernel), List.mem_of_getElem? (i := 632) (by decide +kernel), List.mem_of_getElem? (i := 633) (by decide +kernel)⟩
theorem lw_p24 : lw_okq (⟨"HeapTower", "signedChains", "(LHeapTower$Base;II)I"⟩, 12) := ⟨⟨by decide +kernel, by decide +kernel⟩, List.mem_of_getElem? (i := 13) (by decide +kernel), List.mem_of_getElem? (i := 645) (by decide +kernel), List.mem_of_getElem? (i := 646) (by decide +kernel)⟩
theorem lw_p25 : lw_okq (⟨"HeapTower", "quotientBaseUpTo", "(II)LHeapTower$Base;"⟩, 12) := ⟨⟨by decide +kernel, by decide +kernel⟩, List.mem_of_getElem? (i := 13) (by decide +kernel), List.mem_of_getElem? (i := 653) (by decide +kernel), List.mem_of_getElem? (i := 654) (by decide +kernel)⟩
theorem lw_p26 : lw_okq (⟨"HeapTower", "sumBaseUpTo", "(I)LHeapTower$Base;"⟩, 12) := ⟨⟨by decide +kernel, by decide +kernel⟩, List.mem_of_getElem? (i := 13) (by decide +kernel), List.mem_of_getElem? (i := 686) (by decide +kernel), List.mem_of_getElem? (i := 687) (by decide +kernel)⟩
theorem lw_p27 : lw_okq (⟨"HeapTower", "productBaseUpTo", "(I)LHeapTower$Base;"⟩, 12) := ⟨⟨by decide +kernel, by decide +kernel⟩, List.mem_of_getElem? (i := 13) (by decide +kernel), List.mem_of_getElem? (i := 690) (by decide +kernel), List.mem_of_getElem? (i := 691) (by decide +kernel)⟩
theorem lw_p28 : lw_okq (⟨"HeapTower", "offerRowProducts", "(I)V"⟩, 12) := ⟨⟨by decide +kernel, by decide +kernel⟩, List.mem_of_getElem? (i := 13) (by decide +kernel), List.mem_of_getElem? (i := 694) (by decide +kernel), List.mem_of_getElem? (i := 695) (by decide +kernel)⟩
theorem lw_p29 : lw_okq (⟨"HeapTower", "loadRowProduct", "(II)V"⟩, 12) := ⟨⟨by decide +kernel, by decide +kernel⟩, List.mem_of_getElem? (i := 13) (by decide +kernel), List.mem_of_getElem? (i := 698) (by decide +kernel), List.mem_of_getElem? (i := 699) (by decide +kernel)⟩
theorem lw_p30 : lw_okq (⟨"HeapTower", "leastOutside", "(LHeapTower$Heap;LHeapTower$Base;)I"⟩, 12) := ⟨⟨by decide +kernel, by decide +kernel⟩, List.mem_of_getElem? (i := 13) (by decide +kernel), List.mem_of_getElem? (i := 712) (by decide +kernel), List.mem_of_getElem? (i := 713) (by decide +kernel)⟩
theorem lw_p31 : lw_okq (⟨"HeapTower", "addClaimTimesRow", "(I)V"⟩, 12) := ⟨⟨by decide +kernel, by decide +kernel⟩, List.mem_of_getElem? (i := 13) (by decide +kernel), List.mem_of_getElem? (i := 729) (by decide +kernel), List.mem_of_getElem? (i := 730) (by decide +kernel)⟩
def lw_privs_2 : List (MethodName × Nat) := [(⟨"HeapTower$Base", "addMoved", "([IIII)V"⟩, 13), (⟨"HeapTower$Rows", "subtract", "([II[I)V"⟩, 8), (⟨"HeapTower$Base", "append", "(II)V"⟩, 13), (⟨"HeapTower", "loadRestOfDraft", "(LHeapTower$Base;I)Z"⟩, 12), (⟨"HeapTower", "freeAtGround", "(I)I"⟩, 12), (⟨"HeapTower", "freeAtSecond", "(LHeapTower$Base;I)I"⟩, 12), (⟨"HeapTower", "freeAtThird", "(LHeapTower$Base;I)I"⟩, 12), (⟨"HeapTower", "loadImages", "(LHeapTower$Base;II)V"⟩, 12), (⟨"HeapTower", "signedChains", "(LHeapTower$Base;II)I"⟩, 12), (⟨"HeapTower", "quotientBaseUpTo", "(II)LHeapTower$Base;"⟩, 12), (⟨"HeapTower", "sumBaseUpTo", "(I)LHeapTower$Base;"⟩, 12), (⟨"HeapTower", "productBaseUpTo", "(I)LHeapTower$Base;"⟩, 12), (⟨"HeapTower", "offerRowProducts", "(I)V"⟩, 12), (⟨"HeapTower", "loadRowProduct", "(II)V"⟩, 12), (⟨"HeapTower", "leastOutside", "(LHeapTower$Heap;LHeapTower$Base;)I"⟩, 12), (⟨"HeapTower", "addClaimTimesRow", "(I)V"⟩, 12)]
theorem lw_r2 : ∀ q ∈ lw_privs_2, lw_okq q := List.forall_mem_cons.mpr ⟨lw_p16, List.forall_mem_cons.mpr ⟨lw_p17, List.forall_mem_cons.mpr ⟨lw_p18, List.forall_mem_cons.mpr ⟨lw_p19, List.forall_mem_cons.mpr ⟨lw_p20, List.forall_mem_cons.mpr ⟨lw_p21, List.forall_mem_cons.mpr ⟨lw_p22, List.forall_mem_cons.mpr ⟨lw_p23, List.forall_mem_cons.mpr ⟨lw_p24, List.forall_mem_cons.mpr ⟨lw_p25, List.forall_mem_cons.mpr ⟨lw_p26, List.forall_mem_cons.mpr ⟨lw_p27, List.forall_mem_cons.mpr ⟨lw_p28, List.forall_mem_cons.mpr ⟨lw_p29, List.forall_mem_cons.mpr ⟨lw_p30, List.forall_mem_cons.mpr ⟨lw_p31, fun _ h => absurd h List.not_mem_nil⟩⟩⟩⟩⟩⟩⟩⟩⟩⟩⟩⟩⟩⟩⟩⟩
theorem lw_p32 : lw_okq (⟨"HeapTower", "addWorkToDraft", "(IIII)V"⟩, 12) := ⟨⟨by decide +kernel, by decide +kernel⟩, List.mem_of_getElem? (i := 13) (by decide +kernel), List.mem_of_getElem? (i := 733) (by decide +kernel), List.mem_of_getElem? (i := 734) (by decide +kernel)⟩
theorem lw_p33 : lw_okq (⟨"HeapTowerModel", "clear", "(I)V"⟩, 18) := ⟨⟨by decide +kernel, by decide +kernel⟩, List.mem_of_getElem? (i := 741) (by decide +kernel), List.mem_of_getElem? (i := 814) (by decide +kernel), List.mem_of_getElem? (i := 815) (by decide +kernel)⟩
theorem lw_p34 : lw_okq (⟨"HeapTowerModel", "put", "(III)V"⟩, 18) := ⟨⟨by decide +kernel, by decide +kernel⟩, List.mem_of_getElem? (i := 741) (by decide +kernel), List.mem_of_getElem? (i := 818) (by decide +kernel), List.mem_of_getElem? (i := 819) (by decide +kernel)⟩
theorem lw_p35 : lw_okq (⟨"HeapTowerModel", "isProduct", "(III)Z"⟩, 18) := ⟨⟨by decide +kernel, by decide +kernel⟩, List.mem_of_getElem? (i := 741) (by decide +kernel), List.mem_of_getElem? (i := 830) (by decide +kernel), List.mem_of_getElem? (i := 831) (by decide +kernel)⟩
theorem lw_p36 : lw_okq (⟨"HeapTowerModel", "get", "(II)I"⟩, 18) := ⟨⟨by decide +kernel, by decide +kernel⟩, List.mem_of_getElem? (i := 741) (by decide +kernel), List.mem_of_getElem? (i := 838) (by decide +kernel), List.mem_of_getElem? (i := 839) (by decide +kernel)⟩
theorem lw_p37 : lw_okq (⟨"HeapTowerModel", "mod", "(J)I"⟩, 18) := ⟨⟨by decide +kernel, by decide +kernel⟩, List.mem_of_getElem? (i := 741) (by decide +kernel), List.mem_of_getElem? (i := 842) (by decide +kernel), List.mem_of_getElem? (i := 843) (by decide +kernel)⟩
theorem lw_p38 : lw_okq (⟨"HeapTowerModel", "products", "(I)I"⟩, 18) := ⟨⟨by decide +kernel, by decide +kernel⟩, List.mem_of_getElem? (i := 741) (by decide +kernel), List.mem_of_getElem? (i := 854) (by decide +kernel), List.mem_of_getElem? (i := 855) (by decide +kernel)⟩
theorem lw_p39 : lw_okq (⟨"HeapTowerModel", "degree", "(I)I"⟩, 18) := ⟨⟨by decide +kernel, by decide +kernel⟩, List.mem_of_getElem? (i := 741) (by decide +kernel), List.mem_of_getElem? (i := 862) (by decide +kernel), List.mem_of_getElem? (i := 863) (by decide +kernel)⟩
theorem lw_p40 : lw_okq (⟨"HeapTowerModel", "isEven", "(I)Z"⟩, 18) := ⟨⟨by decide +kernel, by decide +kernel⟩, List.mem_of_getElem? (i := 741) (by decide +kernel), List.mem_of_getElem? (i := 869) (by decide +kernel), List.mem_of_getElem? (i := 870) (by decide +kernel)⟩
theorem lw_p41 : lw_okq (⟨"HeapTowerModel", "isGreater", "(II)Z"⟩, 18) := ⟨⟨by decide +kernel, by decide +kernel⟩, List.mem_of_getElem? (i := 741) (by decide +kernel), List.mem_of_getElem? (i := 873) (by decide +kernel), List.mem_of_getElem? (i := 874) (by decide +kernel)⟩
theorem lw_p42 : lw_okq (⟨"HeapTowerModel", "power", "(II)I"⟩, 18) := ⟨⟨by decide +kernel, by decide +kernel⟩, List.mem_of_getElem? (i := 741) (by decide +kernel), List.mem_of_getElem? (i := 877) (by decide +kernel), List.mem_of_getElem? (i := 878) (by decide +kernel)⟩
theorem lw_p43 : lw_okq (⟨"HeapTowerModel", "move", "(II)V"⟩, 18) := ⟨⟨by decide +kernel, by decide +kernel⟩, List.mem_of_getElem? (i := 741) (by decide +kernel), List.mem_of_getElem? (i := 885) (by decide +kernel), List.mem_of_getElem? (i := 886) (by decide +kernel)⟩
theorem lw_p44 : lw_okq (⟨"HeapTowerModel", "heap", "(I)V"⟩, 18) := ⟨⟨by decide +kernel, by decide +kernel⟩, List.mem_of_getElem? (i := 741) (by decide +kernel), List.mem_of_getElem? (i := 905) (by decide +kernel), List.mem_of_getElem? (i := 906) (by decide +kernel)⟩
theorem lw_p45 : lw_okq (⟨"HeapTowerModel", "begin", "(I)V"⟩, 18) := ⟨⟨by decide +kernel, by decide +kernel⟩, List.mem_of_getElem? (i := 741) (by decide +kernel), List.mem_of_getElem? (i := 909) (by decide +kernel), List.mem_of_getElem? (i := 910) (by decide +kernel)⟩
theorem lw_p46 : lw_okq (⟨"HeapTowerModel", "take", "(I)V"⟩, 18) := ⟨⟨by decide +kernel, by decide +kernel⟩, List.mem_of_getElem? (i := 741) (by decide +kernel), List.mem_of_getElem? (i := 913) (by decide +kernel), List.mem_of_getElem? (i := 914) (by decide +kernel)⟩
theorem lw_p47 : lw_okq (⟨"HeapTowerModel", "spread", "(II)V"⟩, 18) := ⟨⟨by decide +kernel, by decide +kernel⟩, List.mem_of_getElem? (i := 741) (by decide +kernel), List.mem_of_getElem? (i := 917) (by decide +kernel), List.mem_of_getElem? (i := 918) (by decide +kernel)⟩
def lw_privs_3 : List (MethodName × Nat) := [(⟨"HeapTower", "addWorkToDraft", "(IIII)V"⟩, 12), (⟨"HeapTowerModel", "clear", "(I)V"⟩, 18), (⟨"HeapTowerModel", "put", "(III)V"⟩, 18), (⟨"HeapTowerModel", "isProduct", "(III)Z"⟩, 18), (⟨"HeapTowerModel", "get", "(II)I"⟩, 18), (⟨"HeapTowerModel", "mod", "(J)I"⟩, 18), (⟨"HeapTowerModel", "products", "(I)I"⟩, 18), (⟨"HeapTowerModel", "degree", "(I)I"⟩, 18), (⟨"HeapTowerModel", "isEven", "(I)Z"⟩, 18), (⟨"HeapTowerModel", "isGreater", "(II)Z"⟩, 18), (⟨"HeapTowerModel", "power", "(II)I"⟩, 18), (⟨"HeapTowerModel", "move", "(II)V"⟩, 18), (⟨"HeapTowerModel", "heap", "(I)V"⟩, 18), (⟨"HeapTowerModel", "begin", "(I)V"⟩, 18), (⟨"HeapTowerModel", "take", "(I)V"⟩, 18), (⟨"HeapTowerModel", "spread", "(II)V"⟩, 18)]
theorem lw_r3 : ∀ q ∈ lw_privs_3, lw_okq q := List.forall_mem_cons.mpr ⟨lw_p32, List.forall_mem_cons.mpr ⟨lw_p33, List.forall_mem_cons.mpr ⟨lw_p34, List.forall_mem_cons.mpr ⟨lw_p35, List.forall_mem_cons.mpr ⟨lw_p36, List.forall_mem_cons.mpr ⟨lw_p37, List.forall_mem_cons.mpr ⟨lw_p38, List.forall_mem_cons.mpr ⟨lw_p39, List.forall_mem_cons.mpr ⟨lw_p40, List.forall_mem_cons.mpr ⟨lw_p41, List.forall_mem_cons.mpr ⟨lw_p42, List.forall_mem_cons.mpr ⟨lw_p43, List.forall_mem_cons.mpr ⟨lw_p44, List.forall_mem_cons.mpr ⟨lw_p45, List.forall_mem_cons.mpr ⟨lw_p46, List.forall_mem_cons.mpr ⟨lw_p47, fun _ h => absurd h List.not_mem_nil⟩⟩⟩⟩⟩⟩⟩⟩⟩⟩⟩⟩⟩⟩⟩⟩
theorem lw_p48 : lw_okq (⟨"HeapTowerModel", "enter", "()V"⟩, 18) := ⟨⟨by decide +kernel, by decide +kernel⟩, List.mem_of_getElem? (i := 741) (by decide +kernel), List.mem_of_getElem? (i := 921) (by decide +kernel), List.mem_of_getElem? (i := 922) (by decide +kernel)⟩
theorem lw_p49 : lw_okq (⟨"HeapTowerModel", "less", "(II)V"⟩, 18) := ⟨⟨by decide +kernel, by decide +kernel⟩, List.mem_of_getElem? (i := 741) (by decide +kernel), List.mem_of_getElem? (i := 925) (by decide +kernel), List.mem_of_getElem? (i := 926) (by decide +kernel)⟩
theorem lw_p50 : lw_okq (⟨"HeapTowerModel", "inverse", "(I)I"⟩, 18) := ⟨⟨by decide +kernel, by decide +kernel⟩, List.mem_of_getElem? (i := 741) (by decide +kernel), List.mem_of_getElem? (i := 929) (by decide +kernel), List.mem_of_getElem? (i := 930) (by decide +kernel)⟩
theorem lw_p51 : lw_okq (⟨"HeapTowerModel", "bases", "(II)I"⟩, 18) := ⟨⟨by decide +kernel, by decide +kernel⟩, List.mem_of_getElem? (i := 741) (by decide +kernel), List.mem_of_getElem? (i := 941) (by decide +kernel), List.mem_of_getElem? (i := 942) (by decide +kernel)⟩
theorem lw_p52 : lw_okq (⟨"HeapTowerModel", "divides", "(II)Z"⟩, 18) := ⟨⟨by decide +kernel, by decide +kernel⟩, List.mem_of_getElem? (i := 741) (by decide +kernel), List.mem_of_getElem? (i := 945) (by decide +kernel), List.mem_of_getElem? (i := 946) (by decide +kernel)⟩
theorem lw_p53 : lw_okq (⟨"HeapTowerModel", "chains", "(II)I"⟩, 18) := ⟨⟨by decide +kernel, by decide +kernel⟩, List.mem_of_getElem? (i := 741) (by decide +kernel), List.mem_of_getElem? (i := 961) (by decide +kernel), List.mem_of_getElem? (i := 962) (by decide +kernel)⟩
theorem lw_p54 : lw_okq (⟨"HeapTowerModel", "setsOf", "(I)I"⟩, 18) := ⟨⟨by decide +kernel, by decide +kernel⟩, List.mem_of_getElem? (i := 741) (by decide +kernel), List.mem_of_getElem? (i := 965) (by decide +kernel), List.mem_of_getElem? (i := 966) (by decide +kernel)⟩
theorem lw_p55 : lw_okq (⟨"HeapTowerModel", "steps", "(II)I"⟩, 18) := ⟨⟨by decide +kernel, by decide +kernel⟩, List.mem_of_getElem? (i := 741) (by decide +kernel), List.mem_of_getElem? (i := 972) (by decide +kernel), List.mem_of_getElem? (i := 973) (by decide +kernel)⟩
theorem lw_p56 : lw_okq (⟨"HeapTowerModel", "takeStandard", "(I)V"⟩, 18) := ⟨⟨by decide +kernel, by decide +kernel⟩, List.mem_of_getElem? (i := 741) (by decide +kernel), List.mem_of_getElem? (i := 976) (by decide +kernel), List.mem_of_getElem? (i := 977) (by decide +kernel)⟩
theorem lw_p57 : lw_okq (⟨"HeapTowerModel", "place", "(I)I"⟩, 18) := ⟨⟨by decide +kernel, by decide +kernel⟩, List.mem_of_getElem? (i := 741) (by decide +kernel), List.mem_of_getElem? (i := 980) (by decide +kernel), List.mem_of_getElem? (i := 981) (by decide +kernel)⟩
theorem lw_p58 : lw_okq (⟨"HeapTowerModel", "product", "(IIZ)V"⟩, 18) := ⟨⟨by decide +kernel, by decide +kernel⟩, List.mem_of_getElem? (i := 741) (by decide +kernel), List.mem_of_getElem? (i := 984) (by decide +kernel), List.mem_of_getElem? (i := 985) (by decide +kernel)⟩
theorem lw_p59 : lw_okq (⟨"HeapTowerModel", "rankOf", "(II)I"⟩, 18) := ⟨⟨by decide +kernel, by decide +kernel⟩, List.mem_of_getElem? (i := 741) (by decide +kernel), List.mem_of_getElem? (i := 988) (by decide +kernel), List.mem_of_getElem? (i := 989) (by decide +kernel)⟩
theorem lw_p60 : lw_okq (⟨"HeapTowerModel", "mayAsk", "()Z"⟩, 18) := ⟨⟨by decide +kernel, by decide +kernel⟩, List.mem_of_getElem? (i := 741) (by decide +kernel), List.mem_of_getElem? (i := 996) (by decide +kernel), List.mem_of_getElem? (i := 997) (by decide +kernel)⟩
theorem lw_p61 : lw_okq (⟨"HeapTowerModel", "quotientOf", "(I)I"⟩, 18) := ⟨⟨by decide +kernel, by decide +kernel⟩, List.mem_of_getElem? (i := 741) (by decide +kernel), List.mem_of_getElem? (i := 1000) (by decide +kernel), List.mem_of_getElem? (i := 1001) (by decide +kernel)⟩
theorem lw_p62 : lw_okq (⟨"HeapTowerModel", "dimensionOf", "(II)I"⟩, 18) := ⟨⟨by decide +kernel, by decide +kernel⟩, List.mem_of_getElem? (i := 741) (by decide +kernel), List.mem_of_getElem? (i := 1020) (by decide +kernel), List.mem_of_getElem? (i := 1021) (by decide +kernel)⟩
theorem lw_p63 : lw_okq (⟨"HeapTowerModel", "addOther", "(I)V"⟩, 18) := ⟨⟨by decide +kernel, by decide +kernel⟩, List.mem_of_getElem? (i := 741) (by decide +kernel), List.mem_of_getElem? (i := 1024) (by decide +kernel), List.mem_of_getElem? (i := 1025) (by decide +kernel)⟩
def lw_privs_4 : List (MethodName × Nat) := [(⟨"HeapTowerModel", "enter", "()V"⟩, 18), (⟨"HeapTowerModel", "less", "(II)V"⟩, 18), (⟨"HeapTowerModel", "inverse", "(I)I"⟩, 18), (⟨"HeapTowerModel", "bases", "(II)I"⟩, 18), (⟨"HeapTowerModel", "divides", "(II)Z"⟩, 18), (⟨"HeapTowerModel", "chains", "(II)I"⟩, 18), (⟨"HeapTowerModel", "setsOf", "(I)I"⟩, 18), (⟨"HeapTowerModel", "steps", "(II)I"⟩, 18), (⟨"HeapTowerModel", "takeStandard", "(I)V"⟩, 18), (⟨"HeapTowerModel", "place", "(I)I"⟩, 18), (⟨"HeapTowerModel", "product", "(IIZ)V"⟩, 18), (⟨"HeapTowerModel", "rankOf", "(II)I"⟩, 18), (⟨"HeapTowerModel", "mayAsk", "()Z"⟩, 18), (⟨"HeapTowerModel", "quotientOf", "(I)I"⟩, 18), (⟨"HeapTowerModel", "dimensionOf", "(II)I"⟩, 18), (⟨"HeapTowerModel", "addOther", "(I)V"⟩, 18)]
theorem lw_r4 : ∀ q ∈ lw_privs_4, lw_okq q := List.forall_mem_cons.mpr ⟨lw_p48, List.forall_mem_cons.mpr ⟨lw_p49, List.forall_mem_cons.mpr ⟨lw_p50, List.forall_mem_cons.mpr ⟨lw_p51, List.forall_mem_cons.mpr ⟨lw_p52, List.forall_mem_cons.mpr ⟨lw_p53, List.forall_mem_cons.mpr ⟨lw_p54, List.forall_mem_cons.mpr ⟨lw_p55, List.forall_mem_cons.mpr ⟨lw_p56, List.forall_mem_cons.mpr ⟨lw_p57, List.forall_mem_cons.mpr ⟨lw_p58, List.forall_mem_cons.mpr ⟨lw_p59, List.forall_mem_cons.mpr ⟨lw_p60, List.forall_mem_cons.mpr ⟨lw_p61, List.forall_mem_cons.mpr ⟨lw_p62, List.forall_mem_cons.mpr ⟨lw_p63, fun _ h => absurd h List.not_mem_nil⟩⟩⟩⟩⟩⟩⟩⟩⟩⟩⟩⟩⟩⟩⟩⟩
theorem lw_p64 : lw_okq (⟨"HeapTowerModel", "dimensionOf3", "(I)I"⟩, 18) := ⟨⟨by decide +kernel, by decide +kernel⟩, List.mem_of_getElem? (i := 741) (by decide +kernel), List.mem_of_getElem? (i := 1028) (by decide +kernel), List.mem_of_getElem? (i := 1029) (by decide +kernel)⟩
theorem lw_p65 : lw_okq (⟨"HeapTowerModel", "multiply", "(III)V"⟩, 18) := ⟨⟨by decide +kernel, by decide +kernel⟩, List.mem_of_getElem? (i := 741) (by decide +kernel), List.mem_of_getElem? (i := 1032) (by decide +kernel), List.mem_of_getElem? (i := 1033) (by decide +kernel)⟩
def lw_privs_5 : List (MethodName × Nat) := [(⟨"HeapTowerModel", "dimensionOf3", "(I)I"⟩, 18), (⟨"HeapTowerModel", "multiply", "(III)V"⟩, 18)]
theorem lw_r5 : ∀ q ∈ lw_privs_5, lw_okq q := List.forall_mem_cons.mpr ⟨lw_p64, List.forall_mem_cons.mpr ⟨lw_p65, fun _ h => absurd h List.not_mem_nil⟩⟩
def lw_privs : List (MethodName × Nat) := lw_privs_1 ++ (lw_privs_2 ++ (lw_privs_3 ++ (lw_privs_4 ++ (lw_privs_5))))
def lw_tbl : List Cond := k2_sels lw_privs ++ tables_1
theorem lw_privs_ok : ∀ q ∈ lw_privs, lw_okq q := by
  show ∀ q ∈ lw_privs_1 ++ (lw_privs_2 ++ (lw_privs_3 ++ (lw_privs_4 ++ (lw_privs_5)))), lw_okq q
  exact List.forall_mem_append.mpr ⟨lw_r1, List.forall_mem_append.mpr ⟨lw_r2, List.forall_mem_append.mpr ⟨lw_r3, List.forall_mem_append.mpr ⟨lw_r4, lw_r5⟩⟩⟩⟩
-- classes and their fields
def R_Ba : String := "HeapTower$Base"
def F_Ba : u_T := fun k => match k with
  | 0 => ("HeapTower$Base", "products", "LHeapTower$Products;", true)
  | 1 => ("HeapTower$Base", "numbers", "LHeapTower$Numbers;", true)
  | 2 => ("HeapTower$Base", "fresh", "LHeapTower$Rows;", true)
  | 3 => ("HeapTower$Base", "work", "[I", true)
  | 4 => ("HeapTower$Base", "starts", "[I", true)
  | 5 => ("HeapTower$Base", "degrees", "[I", true)
  | 6 => ("HeapTower$Base", "sizes", "[I", true)
  | 7 => ("HeapTower$Base", "standard", "[I", true)
  | 8 => ("HeapTower$Base", "needed", "[I", true)
  | 9 => ("HeapTower$Base", "terms", "[I", false)
  | 10 => ("HeapTower$Base", "leaders", "[I", false)
  | 11 => ("HeapTower$Base", "reached", "I", false)
  | _ => ("HeapTower$Base", "size", "I", false)
def t_Ba : Nat → FieldType := fun k => match k with
  | 0 => (.object "HeapTower$Products")
  | 1 => (.object "HeapTower$Numbers")
  | 2 => (.object "HeapTower$Rows")
  | 3 => (.array .int)
  | 4 => (.array .int)
  | 5 => (.array .int)
  | 6 => (.array .int)
  | 7 => (.array .int)
  | 8 => (.array .int)
  | 9 => (.array .int)
  | 10 => (.array .int)
  | 11 => .int
  | _ => .int
theorem n_Ba : ∀ a, a < 13 → ∀ b, b < 13 → a ≠ b → (F_Ba a).2.1 ≠ (F_Ba b).2.1 := by decide +kernel
theorem t_Ba_ok : ∀ k, k < 13 → parseFieldDescriptor (F_Ba k).2.2.1 = some (t_Ba k) := by decide +kernel
theorem i_Ba : ∀ w ∈ u_ws R_Ba F_Ba 13, w ∈ lw_tbl := by decide +kernel
def R_He : String := "HeapTower$Heap"
def F_He : u_T := fun k => match k with
  | 0 => ("HeapTower$Heap", "base", "LHeapTower$Base;", true)
  | 1 => ("HeapTower$Heap", "work", "[I", true)
  | 2 => ("HeapTower$Heap", "degrees", "[I", true)
  | 3 => ("HeapTower$Heap", "rows", "[[I", true)
  | _ => ("HeapTower$Heap", "size", "I", false)
def t_He : Nat → FieldType := fun k => match k with
  | 0 => (.object "HeapTower$Base")
  | 1 => (.array .int)
  | 2 => (.array .int)
  | 3 => (.array (.array .int))
  | _ => .int
theorem n_He : ∀ a, a < 5 → ∀ b, b < 5 → a ≠ b → (F_He a).2.1 ≠ (F_He b).2.1 := by decide +kernel
theorem t_He_ok : ∀ k, k < 5 → parseFieldDescriptor (F_He k).2.2.1 = some (t_He k) := by decide +kernel
theorem i_He : ∀ w ∈ u_ws R_He F_He 5, w ∈ lw_tbl := by decide +kernel
def R_Nu : String := "HeapTower$Numbers"
def F_Nu : u_T := fun k => match k with
  | 0 => ("HeapTower$Numbers", "inverses", "[I", true)
  | _ => ("HeapTower$Numbers", "prime", "I", false)
def t_Nu : Nat → FieldType := fun k => match k with
  | 0 => (.array .int)
  | _ => .int
theorem n_Nu : ∀ a, a < 2 → ∀ b, b < 2 → a ≠ b → (F_Nu a).2.1 ≠ (F_Nu b).2.1 := by decide +kernel
theorem t_Nu_ok : ∀ k, k < 2 → parseFieldDescriptor (F_Nu k).2.2.1 = some (t_Nu k) := by decide +kernel
theorem i_Nu : ∀ w ∈ u_ws R_Nu F_Nu 2, w ∈ lw_tbl := by decide +kernel
def R_Po : String := "HeapTower$Polynomial"
def F_Po : u_T := fun k => match k with
  | 0 => ("HeapTower$Polynomial", "products", "LHeapTower$Products;", true)
  | _ => ("HeapTower$Polynomial", "held", "[I", true)
def t_Po : Nat → FieldType := fun k => match k with
  | 0 => (.object "HeapTower$Products")
  | _ => (.array .int)
theorem n_Po : ∀ a, a < 2 → ∀ b, b < 2 → a ≠ b → (F_Po a).2.1 ≠ (F_Po b).2.1 := by decide +kernel
theorem t_Po_ok : ∀ k, k < 2 → parseFieldDescriptor (F_Po k).2.2.1 = some (t_Po k) := by decide +kernel
theorem i_Po : ∀ w ∈ u_ws R_Po F_Po 2, w ∈ lw_tbl := by decide +kernel
def R_Pr : String := "HeapTower$Products"
def F_Pr : u_T := fun k => match k with
  | 0 => ("HeapTower$Products", "second", "[I", true)
  | 1 => ("HeapTower$Products", "third", "[I", true)
  | 2 => ("HeapTower$Products", "line", "[I", true)
  | 3 => ("HeapTower$Products", "amounts", "[I", true)
  | 4 => ("HeapTower$Products", "letterCount", "I", false)
  | _ => ("HeapTower$Products", "orderNow", "I", false)
def t_Pr : Nat → FieldType := fun k => match k with
  | 0 => (.array .int)
  | 1 => (.array .int)
  | 2 => (.array .int)
  | 3 => (.array .int)
  | 4 => .int
  | _ => .int
theorem n_Pr : ∀ a, a < 6 → ∀ b, b < 6 → a ≠ b → (F_Pr a).2.1 ≠ (F_Pr b).2.1 := by decide +kernel
theorem t_Pr_ok : ∀ k, k < 6 → parseFieldDescriptor (F_Pr k).2.2.1 = some (t_Pr k) := by decide +kernel
theorem i_Pr : ∀ w ∈ u_ws R_Pr F_Pr 6, w ∈ lw_tbl := by decide +kernel
def R_Ro : String := "HeapTower$Rows"
def F_Ro : u_T := fun k => match k with
  | 0 => ("HeapTower$Rows", "products", "LHeapTower$Products;", true)
  | 1 => ("HeapTower$Rows", "numbers", "LHeapTower$Numbers;", true)
  | 2 => ("HeapTower$Rows", "rows", "[[I", true)
  | 3 => ("HeapTower$Rows", "rowOfHead", "[I", true)
  | 4 => ("HeapTower$Rows", "line", "[I", true)
  | 5 => ("HeapTower$Rows", "amount", "I", false)
  | 6 => ("HeapTower$Rows", "prime", "I", false)
  | _ => ("HeapTower$Rows", "size", "I", false)
def t_Ro : Nat → FieldType := fun k => match k with
  | 0 => (.object "HeapTower$Products")
  | 1 => (.object "HeapTower$Numbers")
  | 2 => (.array (.array .int))
  | 3 => (.array .int)
  | 4 => (.array .int)
  | 5 => .int
  | 6 => .int
  | _ => .int
theorem n_Ro : ∀ a, a < 8 → ∀ b, b < 8 → a ≠ b → (F_Ro a).2.1 ≠ (F_Ro b).2.1 := by decide +kernel
theorem t_Ro_ok : ∀ k, k < 8 → parseFieldDescriptor (F_Ro k).2.2.1 = some (t_Ro k) := by decide +kernel
theorem i_Ro : ∀ w ∈ u_ws R_Ro F_Ro 8, w ∈ lw_tbl := by decide +kernel
def R_HT : String := "HeapTower"
def F_HT : u_T := fun k => match k with
  | 0 => ("HeapTower", "products", "LHeapTower$Products;", true)
  | 1 => ("HeapTower", "numbers", "LHeapTower$Numbers;", true)
  | 2 => ("HeapTower", "scratchRows", "LHeapTower$Rows;", true)
  | 3 => ("HeapTower", "work", "[I", true)
  | 4 => ("HeapTower", "socleImages", "[[I", true)
  | 5 => ("HeapTower", "theDraft", "LHeapTower$Polynomial;", true)
  | 6 => ("HeapTower", "claims", "[LHeapTower$Polynomial;", true)
  | 7 => ("HeapTower", "sumBase", "LHeapTower$Base;", true)
  | 8 => ("HeapTower", "productBase", "LHeapTower$Base;", true)
  | 9 => ("HeapTower", "quotientBase", "LHeapTower$Base;", true)
  | 10 => ("HeapTower", "theHeap", "LHeapTower$Heap;", false)
  | _ => ("HeapTower", "theOther", "LHeapTower$Heap;", false)
def t_HT : Nat → FieldType := fun k => match k with
  | 0 => (.object "HeapTower$Products")
  | 1 => (.object "HeapTower$Numbers")
  | 2 => (.object "HeapTower$Rows")
  | 3 => (.array .int)
  | 4 => (.array (.array .int))
  | 5 => (.object "HeapTower$Polynomial")
  | 6 => (.array (.object "HeapTower$Polynomial"))
  | 7 => (.object "HeapTower$Base")
  | 8 => (.object "HeapTower$Base")
  | 9 => (.object "HeapTower$Base")
  | 10 => (.object "HeapTower$Heap")
  | _ => (.object "HeapTower$Heap")
theorem n_HT : ∀ a, a < 12 → ∀ b, b < 12 → a ≠ b → (F_HT a).2.1 ≠ (F_HT b).2.1 := by decide +kernel
theorem t_HT_ok : ∀ k, k < 12 → parseFieldDescriptor (F_HT k).2.2.1 = some (t_HT k) := by decide +kernel
theorem i_HT : ∀ w ∈ u_ws R_HT F_HT 12, w ∈ lw_tbl := by decide +kernel
def R_Mo : String := "HeapTowerModel"
def F_Mo : u_T := fun k => match k with
  | 0 => ("HeapTowerModel", "polys", "[I", true)
  | 1 => ("HeapTowerModel", "letters", "I", false)
  | 2 => ("HeapTowerModel", "prime", "I", false)
  | 3 => ("HeapTowerModel", "order", "I", false)
  | 4 => ("HeapTowerModel", "rows", "I", false)
  | 5 => ("HeapTowerModel", "others", "I", false)
  | 6 => ("HeapTowerModel", "list", "[I", true)
  | 7 => ("HeapTowerModel", "places", "[I", true)
  | 8 => ("HeapTowerModel", "many", "I", false)
  | 9 => ("HeapTowerModel", "cleared", "[I", true)
  | 10 => ("HeapTowerModel", "vector", "[I", true)
  | 11 => ("HeapTowerModel", "isPivot", "[Z", true)
  | 12 => ("HeapTowerModel", "rank", "I", false)
  | 13 => ("HeapTowerModel", "leads", "[Z", true)
  | 14 => ("HeapTowerModel", "matrix", "[I", true)
  | 15 => ("HeapTowerModel", "standard", "[I", true)
  | 16 => ("HeapTowerModel", "standards", "I", false)
  | _ => ("HeapTowerModel", "column", "[I", true)
def t_Mo : Nat → FieldType := fun k => match k with
  | 0 => (.array .int)
  | 1 => .int
  | 2 => .int
  | 3 => .int
  | 4 => .int
  | 5 => .int
  | 6 => (.array .int)
  | 7 => (.array .int)
  | 8 => .int
  | 9 => (.array .int)
  | 10 => (.array .int)
  | 11 => (.array .boolean)
  | 12 => .int
  | 13 => (.array .boolean)
  | 14 => (.array .int)
  | 15 => (.array .int)
  | 16 => .int
  | _ => (.array .int)
theorem n_Mo : ∀ a, a < 18 → ∀ b, b < 18 → a ≠ b → (F_Mo a).2.1 ≠ (F_Mo b).2.1 := by decide +kernel
theorem t_Mo_ok : ∀ k, k < 18 → parseFieldDescriptor (F_Mo k).2.2.1 = some (t_Mo k) := by decide +kernel
theorem i_Mo : ∀ w ∈ u_ws R_Mo F_Mo 18, w ∈ lw_tbl := by decide +kernel
abbrev hT_cl : List vw_C := [(R_Ba, F_Ba, 13), (R_He, F_He, 5), (R_Nu, F_Nu, 2), (R_Po, F_Po, 2), (R_Pr, F_Pr, 6), (R_Ro, F_Ro, 8), (R_HT, F_HT, 12), (R_Mo, F_Mo, 18)]
/-- which fields of a class are numbers -/
def fB : Nat → List Bool := fun k => match k with
  | 0 => [false, false, false, false, false, false, false, false, false, false, false, true, true]
  | 1 => [false, false, false, false, true]
  | 2 => [false, true]
  | 3 => [false, false]
  | 4 => [false, false, false, false, true, true]
  | 5 => [false, false, false, false, false, true, true, true]
  | 6 => [false, false, false, false, false, false, false, false, false, false, false, false]
  | _ => [false, true, true, true, true, true, false, false, true, false, false, false, true, false, false, false, true, false]
def gw : List Cond := lw_tbl.filter goodWord
-- methods
def y_HT_new : MethodName := ⟨"HeapTower", "<init>", "()V"⟩
abbrev b_HT_new : ByteArray := prog_1_method_1_code
def w_HT_new : List Cond := .code y_HT_new b_HT_new 2 none :: gw
def y_Ob_new : MethodName := ⟨"java/lang/Object", "<init>", "()V"⟩
abbrev b_Ob_new : ByteArray := object_method_1_code
def w_Ob_new : List Cond := .code y_Ob_new b_Ob_new 1 none :: gw
def y_Pr_new : MethodName := ⟨"HeapTower$Products", "<init>", "()V"⟩
abbrev b_Pr_new : ByteArray := prog_6_method_1_code
def w_Pr_new : List Cond := .code y_Pr_new b_Pr_new 3 none :: gw
def y_Pr_place : MethodName := ⟨"HeapTower$Products", "place", "(II)I"⟩
abbrev b_Pr_place : ByteArray := prog_6_method_2_code
def w_Pr_place : List Cond := .code y_Pr_place b_Pr_place 2 (some .int) :: gw
def y_Pr_arrange : MethodName := ⟨"HeapTower$Products", "arrange", "(II)V"⟩
abbrev b_Pr_arrange : ByteArray := prog_6_method_3_code
def w_Pr_arrange : List Cond := .code y_Pr_arrange b_Pr_arrange 4 none :: gw
def y_Pr_lineByLast : MethodName := ⟨"HeapTower$Products", "lineByLast", "(I)I"⟩
abbrev b_Pr_lineByLast : ByteArray := prog_6_method_4_code
def w_Pr_lineByLast : List Cond := .code y_Pr_lineByLast b_Pr_lineByLast 5 (some .int) :: gw
def y_Pr_lineByFirst : MethodName := ⟨"HeapTower$Products", "lineByFirst", "(I)I"⟩
abbrev b_Pr_lineByFirst : ByteArray := prog_6_method_5_code
def w_Pr_lineByFirst : List Cond := .code y_Pr_lineByFirst b_Pr_lineByFirst 5 (some .int) :: gw
def y_Nu_new : MethodName := ⟨"HeapTower$Numbers", "<init>", "()V"⟩
abbrev b_Nu_new : ByteArray := prog_4_method_1_code
def w_Nu_new : List Cond := .code y_Nu_new b_Nu_new 1 none :: gw
def y_Nu_setPrime : MethodName := ⟨"HeapTower$Numbers", "setPrime", "(I)V"⟩
abbrev b_Nu_setPrime : ByteArray := prog_4_method_3_code
def w_Nu_setPrime : List Cond := .code y_Nu_setPrime b_Nu_setPrime 3 none :: gw
def y_Ro_new : MethodName := ⟨"HeapTower$Rows", "<init>", "(LHeapTower$Products;LHeapTower$Numbers;)V"⟩
abbrev b_Ro_new : ByteArray := prog_7_method_1_code
def w_Ro_new : List Cond := .code y_Ro_new b_Ro_new 3 none :: gw
def y_Po_new : MethodName := ⟨"HeapTower$Polynomial", "<init>", "(LHeapTower$Products;)V"⟩
abbrev b_Po_new : ByteArray := prog_5_method_1_code
def w_Po_new : List Cond := .code y_Po_new b_Po_new 2 none :: gw
def y_Ba_new : MethodName := ⟨"HeapTower$Base", "<init>", "(LHeapTower$Products;LHeapTower$Numbers;LHeapTower$Rows;[I)V"⟩
abbrev b_Ba_new : ByteArray := prog_2_method_1_code
def w_Ba_new : List Cond := .code y_Ba_new b_Ba_new 5 none :: gw
def y_He_new : MethodName := ⟨"HeapTower$Heap", "<init>", "(LHeapTower$Base;[I)V"⟩
abbrev b_He_new : ByteArray := prog_3_method_1_code
def w_He_new : List Cond := .code y_He_new b_He_new 3 none :: gw
def y_HT_letters : MethodName := ⟨"HeapTower", "letters", "(II)I"⟩
abbrev b_HT_letters : ByteArray := prog_1_method_2_code
def w_HT_letters : List Cond := .code y_HT_letters b_HT_letters 3 (some .int) :: gw
def y_Nu_isPrime : MethodName := ⟨"HeapTower$Numbers", "isPrime", "(I)Z"⟩
abbrev b_Nu_isPrime : ByteArray := prog_4_method_2_code
def w_Nu_isPrime : List Cond := .code y_Nu_isPrime b_Nu_isPrime 2 (some .boolean) :: gw
def y_Pr_orderNow : MethodName := ⟨"HeapTower$Products", "orderNow", "()I"⟩
abbrev b_Pr_orderNow : ByteArray := prog_6_method_7_code
def w_Pr_orderNow : List Cond := .code y_Pr_orderNow b_Pr_orderNow 1 (some .int) :: gw
def y_He_empty : MethodName := ⟨"HeapTower$Heap", "empty", "()V"⟩
abbrev b_He_empty : ByteArray := prog_3_method_7_code
def w_He_empty : List Cond := .code y_He_empty b_He_empty 1 none :: gw
def y_He_forgetBase : MethodName := ⟨"HeapTower$Heap", "forgetBase", "()V"⟩
abbrev b_He_forgetBase : ByteArray := prog_3_method_8_code
def w_He_forgetBase : List Cond := .code y_He_forgetBase b_He_forgetBase 1 none :: gw
def y_Ba_forget : MethodName := ⟨"HeapTower$Base", "forget", "(I)V"⟩
abbrev b_Ba_forget : ByteArray := prog_2_method_3_code
def w_Ba_forget : List Cond := .code y_Ba_forget b_Ba_forget 2 none :: gw
def y_Ma_max : MethodName := ⟨"java/lang/Math", "max", "(II)I"⟩
abbrev b_Ma_max : ByteArray := prog_10_method_65_code
def w_Ma_max : List Cond := .code y_Ma_max b_Ma_max 2 (some .int) :: gw
def y_HT_clearClaims : MethodName := ⟨"HeapTower", "clearClaims", "()V"⟩
abbrev b_HT_clearClaims : ByteArray := prog_1_method_30_code
def w_HT_clearClaims : List Cond := .code y_HT_clearClaims b_HT_clearClaims 2 none :: gw
def y_Po_clear : MethodName := ⟨"HeapTower$Polynomial", "clear", "()V"⟩
abbrev b_Po_clear : ByteArray := prog_5_method_2_code
def w_Po_clear : List Cond := .code y_Po_clear b_Po_clear 1 none :: gw
def y_Ar_fill2 : MethodName := ⟨"java/util/Arrays", "fill", "([II)V"⟩
abbrev b_Ar_fill2 : ByteArray := prog_12_method_103_code
def w_Ar_fill2 : List Cond := .code y_Ar_fill2 b_Ar_fill2 4 none :: gw
def y_HT_forgetAllBases : MethodName := ⟨"HeapTower", "forgetAllBases", "()V"⟩
abbrev b_HT_forgetAllBases : ByteArray := prog_1_method_29_code
def w_HT_forgetAllBases : List Cond := .code y_HT_forgetAllBases b_HT_forgetAllBases 1 none :: gw
def y_HT_order : MethodName := ⟨"HeapTower", "order", "(I)I"⟩
abbrev b_HT_order : ByteArray := prog_1_method_3_code
def w_HT_order : List Cond := .code y_HT_order b_HT_order 3 (some .int) :: gw
def y_Pr_letterCount : MethodName := ⟨"HeapTower$Products", "letterCount", "()I"⟩
abbrev b_Pr_letterCount : ByteArray := prog_6_method_6_code
def w_Pr_letterCount : List Cond := .code y_Pr_letterCount b_Pr_letterCount 1 (some .int) :: gw
def y_HT_term : MethodName := ⟨"HeapTower", "term", "(IIII)I"⟩
abbrev b_HT_term : ByteArray := prog_1_method_4_code
def w_HT_term : List Cond := .code y_HT_term b_HT_term 8 (some .int) :: gw
def y_HT_isProduct : MethodName := ⟨"HeapTower", "isProduct", "(III)Z"⟩
abbrev b_HT_isProduct : ByteArray := prog_1_method_31_code
def w_HT_isProduct : List Cond := .code y_HT_isProduct b_HT_isProduct 5 (some .boolean) :: gw
def y_Po_numberAt : MethodName := ⟨"HeapTower$Polynomial", "numberAt", "(II)I"⟩
abbrev b_Po_numberAt : ByteArray := prog_5_method_4_code
def w_Po_numberAt : List Cond := .code y_Po_numberAt b_Po_numberAt 3 (some .int) :: gw
def y_Nu_modulo : MethodName := ⟨"HeapTower$Numbers", "modulo", "(I)I"⟩
abbrev b_Nu_modulo : ByteArray := prog_4_method_5_code
def w_Nu_modulo : List Cond := .code y_Nu_modulo b_Nu_modulo 2 (some .int) :: gw
def y_Ma_floorMod : MethodName := ⟨"java/lang/Math", "floorMod", "(II)I"⟩
abbrev b_Ma_floorMod : ByteArray := prog_10_method_50_code
def w_Ma_floorMod : List Cond := .code y_Ma_floorMod b_Ma_floorMod 3 (some .int) :: gw
def y_Po_setNumber : MethodName := ⟨"HeapTower$Polynomial", "setNumber", "(III)V"⟩
abbrev b_Po_setNumber : ByteArray := prog_5_method_5_code
def w_Po_setNumber : List Cond := .code y_Po_setNumber b_Po_setNumber 4 none :: gw
def y_HT_draftChanged : MethodName := ⟨"HeapTower", "draftChanged", "()V"⟩
abbrev b_HT_draftChanged : ByteArray := prog_1_method_27_code
def w_HT_draftChanged : List Cond := .code y_HT_draftChanged b_HT_draftChanged 1 none :: gw
def y_HT_number : MethodName := ⟨"HeapTower", "number", "(III)I"⟩
abbrev b_HT_number : ByteArray := prog_1_method_5_code
def w_HT_number : List Cond := .code y_HT_number b_HT_number 4 (some .int) :: gw
def y_HT_wipe : MethodName := ⟨"HeapTower", "wipe", "()I"⟩
abbrev b_HT_wipe : ByteArray := prog_1_method_6_code
def w_HT_wipe : List Cond := .code y_HT_wipe b_HT_wipe 2 (some .int) :: gw
def y_Po_size : MethodName := ⟨"HeapTower$Polynomial", "size", "()I"⟩
abbrev b_Po_size : ByteArray := prog_5_method_6_code
def w_Po_size : List Cond := .code y_Po_size b_Po_size 3 (some .int) :: gw
def y_HT_draft : MethodName := ⟨"HeapTower", "draft", "(I)I"⟩
abbrev b_HT_draft : ByteArray := prog_1_method_7_code
def w_HT_draft : List Cond := .code y_HT_draft b_HT_draft 2 (some .int) :: gw
def y_Po_degree : MethodName := ⟨"HeapTower$Polynomial", "degree", "()I"⟩
abbrev b_Po_degree : ByteArray := prog_5_method_7_code
def w_Po_degree : List Cond := .code y_Po_degree b_Po_degree 2 (some .int) :: gw
def y_Po_sizeOf : MethodName := ⟨"HeapTower$Polynomial", "sizeOf", "(I)I"⟩
abbrev b_Po_sizeOf : ByteArray := prog_5_method_9_code
def w_Po_sizeOf : List Cond := .code y_Po_sizeOf b_Po_sizeOf 4 (some .int) :: gw
def y_Po_isEven : MethodName := ⟨"HeapTower$Polynomial", "isEven", "()Z"⟩
abbrev b_Po_isEven : ByteArray := prog_5_method_8_code
def w_Po_isEven : List Cond := .code y_Po_isEven b_Po_isEven 2 (some .boolean) :: gw
def y_HT_headOfDraft : MethodName := ⟨"HeapTower", "headOfDraft", "()I"⟩
abbrev b_HT_headOfDraft : ByteArray := prog_1_method_32_code
def w_HT_headOfDraft : List Cond := .code y_HT_headOfDraft b_HT_headOfDraft 3 (some .int) :: gw
def y_Po_headPlace : MethodName := ⟨"HeapTower$Polynomial", "headPlace", "()I"⟩
abbrev b_Po_headPlace : ByteArray := prog_5_method_10_code
def w_Po_headPlace : List Cond := .code y_Po_headPlace b_Po_headPlace 3 (some .int) :: gw
def y_Pr_amount : MethodName := ⟨"HeapTower$Products", "amount", "(I)I"⟩
abbrev b_Pr_amount : ByteArray := prog_6_method_8_code
def w_Pr_amount : List Cond := .code y_Pr_amount b_Pr_amount 2 (some .int) :: gw
def y_Pr_at : MethodName := ⟨"HeapTower$Products", "at", "(II)I"⟩
abbrev b_Pr_at : ByteArray := prog_6_method_9_code
def w_Pr_at : List Cond := .code y_Pr_at b_Pr_at 3 (some .int) :: gw
def y_Pr_power : MethodName := ⟨"HeapTower$Products", "power", "(III)I"⟩
abbrev b_Pr_power : ByteArray := prog_6_method_10_code
def w_Pr_power : List Cond := .code y_Pr_power b_Pr_power 4 (some .int) :: gw
def y_HT_times : MethodName := ⟨"HeapTower", "times", "(III)I"⟩
abbrev b_HT_times : ByteArray := prog_1_method_8_code
def w_HT_times : List Cond := .code y_HT_times b_HT_times 4 (some .int) :: gw
def y_Po_moveUp : MethodName := ⟨"HeapTower$Polynomial", "moveUp", "(II)V"⟩
abbrev b_Po_moveUp : ByteArray := prog_5_method_13_code
def w_Po_moveUp : List Cond := .code y_Po_moveUp b_Po_moveUp 4 none :: gw
def y_Ar_fill4 : MethodName := ⟨"java/util/Arrays", "fill", "([IIII)V"⟩
abbrev b_Ar_fill4 : ByteArray := prog_12_method_104_code
def w_Ar_fill4 : List Cond := .code y_Ar_fill4 b_Ar_fill4 5 none :: gw
def y_Ar_rangeCheck : MethodName := ⟨"java/util/Arrays", "rangeCheck", "(III)V"⟩
abbrev b_Ar_rangeCheck : ByteArray := prog_12_method_30_code
def w_Ar_rangeCheck : List Cond := .code y_Ar_rangeCheck b_Ar_rangeCheck 3 none :: gw
def y_Po_movePartUp : MethodName := ⟨"HeapTower$Polynomial", "movePartUp", "(III)V"⟩
abbrev b_Po_movePartUp : ByteArray := prog_5_method_14_code
def w_Po_movePartUp : List Cond := .code y_Po_movePartUp b_Po_movePartUp 6 none :: gw
def y_Pr_together : MethodName := ⟨"HeapTower$Products", "together", "(II)I"⟩
abbrev b_Pr_together : ByteArray := prog_6_method_11_code
def w_Pr_together : List Cond := .code y_Pr_together b_Pr_together 3 (some .int) :: gw
def y_HT_row : MethodName := ⟨"HeapTower", "row", "()I"⟩
abbrev b_HT_row : ByteArray := prog_1_method_9_code
def w_HT_row : List Cond := .code y_HT_row b_HT_row 3 (some .int) :: gw
def y_He_isFull : MethodName := ⟨"HeapTower$Heap", "isFull", "()Z"⟩
abbrev b_He_isFull : ByteArray := prog_3_method_3_code
def w_He_isFull : List Cond := .code y_He_isFull b_He_isFull 1 (some .boolean) :: gw
def y_He_size : MethodName := ⟨"HeapTower$Heap", "size", "()I"⟩
abbrev b_He_size : ByteArray := prog_3_method_2_code
def w_He_size : List Cond := .code y_He_size b_He_size 1 (some .int) :: gw
def y_He_append : MethodName := ⟨"HeapTower$Heap", "append", "(LHeapTower$Polynomial;I)V"⟩
abbrev b_He_append : ByteArray := prog_3_method_9_code
def w_He_append : List Cond := .code y_He_append b_He_append 3 none :: gw
def y_Po_loadPart : MethodName := ⟨"HeapTower$Polynomial", "loadPart", "(I[I)V"⟩
abbrev b_Po_loadPart : ByteArray := prog_5_method_11_code
def w_Po_loadPart : List Cond := .code y_Po_loadPart b_Po_loadPart 4 none :: gw
def y_HT_heapChanged : MethodName := ⟨"HeapTower", "heapChanged", "(I)V"⟩
abbrev b_HT_heapChanged : ByteArray := prog_1_method_28_code
def w_HT_heapChanged : List Cond := .code y_HT_heapChanged b_HT_heapChanged 2 none :: gw
def y_HT_drop : MethodName := ⟨"HeapTower", "drop", "()I"⟩
abbrev b_HT_drop : ByteArray := prog_1_method_10_code
def w_HT_drop : List Cond := .code y_HT_drop b_HT_drop 3 (some .int) :: gw
def y_He_degreeOf : MethodName := ⟨"HeapTower$Heap", "degreeOf", "(I)I"⟩
abbrev b_He_degreeOf : ByteArray := prog_3_method_5_code
def w_He_degreeOf : List Cond := .code y_He_degreeOf b_He_degreeOf 2 (some .int) :: gw
def y_He_removeLatest : MethodName := ⟨"HeapTower$Heap", "removeLatest", "()V"⟩
abbrev b_He_removeLatest : ByteArray := prog_3_method_10_code
def w_He_removeLatest : List Cond := .code y_He_removeLatest b_He_removeLatest 1 none :: gw
def y_HT_copy : MethodName := ⟨"HeapTower", "copy", "(I)I"⟩
abbrev b_HT_copy : ByteArray := prog_1_method_11_code
def w_HT_copy : List Cond := .code y_HT_copy b_HT_copy 2 (some .int) :: gw
def y_He_has : MethodName := ⟨"HeapTower$Heap", "has", "(I)Z"⟩
abbrev b_He_has : ByteArray := prog_3_method_4_code
def w_He_has : List Cond := .code y_He_has b_He_has 2 (some .boolean) :: gw
def y_He_load : MethodName := ⟨"HeapTower$Heap", "load", "(I[I)V"⟩
abbrev b_He_load : ByteArray := prog_3_method_12_code
def w_He_load : List Cond := .code y_He_load b_He_load 3 none :: gw
def y_Po_setPart : MethodName := ⟨"HeapTower$Polynomial", "setPart", "(I[I)V"⟩
abbrev b_Po_setPart : ByteArray := prog_5_method_12_code
def w_Po_setPart : List Cond := .code y_Po_setPart b_Po_setPart 4 none :: gw
def y_HT_rest : MethodName := ⟨"HeapTower", "rest", "()I"⟩
abbrev b_HT_rest : ByteArray := prog_1_method_12_code
def w_HT_rest : List Cond := .code y_HT_rest b_HT_rest 4 (some .int) :: gw
def y_He_baseUpTo : MethodName := ⟨"HeapTower$Heap", "baseUpTo", "(I)LHeapTower$Base;"⟩
abbrev b_He_baseUpTo : ByteArray := prog_3_method_14_code
def w_He_baseUpTo : List Cond := .code y_He_baseUpTo b_He_baseUpTo 3 (some (.object "HeapTower$Base")) :: gw
def y_Ba_reached : MethodName := ⟨"HeapTower$Base", "reached", "()I"⟩
abbrev b_Ba_reached : ByteArray := prog_2_method_2_code
def w_Ba_reached : List Cond := .code y_Ba_reached b_Ba_reached 1 (some .int) :: gw
def y_Ba_open : MethodName := ⟨"HeapTower$Base", "open", "(I)V"⟩
abbrev b_Ba_open : ByteArray := prog_2_method_11_code
def w_Ba_open : List Cond := .code y_Ba_open b_Ba_open 2 none :: gw
def y_Ba_makeRoom : MethodName := ⟨"HeapTower$Base", "makeRoom", "()V"⟩
abbrev b_Ba_makeRoom : ByteArray := prog_2_method_12_code
def w_Ba_makeRoom : List Cond := .code y_Ba_makeRoom b_Ba_makeRoom 1 none :: gw
def y_Ro_begin : MethodName := ⟨"HeapTower$Rows", "begin", "(I)V"⟩
abbrev b_Ro_begin : ByteArray := prog_7_method_2_code
def w_Ro_begin : List Cond := .code y_Ro_begin b_Ro_begin 3 none :: gw
def y_Nu_prime : MethodName := ⟨"HeapTower$Numbers", "prime", "()I"⟩
abbrev b_Nu_prime : ByteArray := prog_4_method_4_code
def w_Nu_prime : List Cond := .code y_Nu_prime b_Nu_prime 1 (some .int) :: gw
def y_Ba_inherit : MethodName := ⟨"HeapTower$Base", "inherit", "(I)V"⟩
abbrev b_Ba_inherit : ByteArray := prog_2_method_17_code
def w_Ba_inherit : List Cond := .code y_Ba_inherit b_Ba_inherit 6 none :: gw
def y_Ba_leaderBelow : MethodName := ⟨"HeapTower$Base", "leaderBelow", "(III)I"⟩
abbrev b_Ba_leaderBelow : ByteArray := prog_2_method_18_code
def w_Ba_leaderBelow : List Cond := .code y_Ba_leaderBelow b_Ba_leaderBelow 4 (some .int) :: gw
def y_Pr_lowered : MethodName := ⟨"HeapTower$Products", "lowered", "(II)I"⟩
abbrev b_Pr_lowered : ByteArray := prog_6_method_13_code
def w_Pr_lowered : List Cond := .code y_Pr_lowered b_Pr_lowered 3 (some .int) :: gw
def y_Ba_offerDifferences : MethodName := ⟨"HeapTower$Base", "offerDifferences", "(I)V"⟩
abbrev b_Ba_offerDifferences : ByteArray := prog_2_method_19_code
def w_Ba_offerDifferences : List Cond := .code y_Ba_offerDifferences b_Ba_offerDifferences 8 none :: gw
def y_Ba_isNews : MethodName := ⟨"HeapTower$Base", "isNews", "(IIII)Z"⟩
abbrev b_Ba_isNews : ByteArray := prog_2_method_20_code
def w_Ba_isNews : List Cond := .code y_Ba_isNews b_Ba_isNews 11 (some .boolean) :: gw
def y_Ma_min : MethodName := ⟨"java/lang/Math", "min", "(II)I"⟩
abbrev b_Ma_min : ByteArray := prog_10_method_69_code
def w_Ma_min : List Cond := .code y_Ma_min b_Ma_min 2 (some .int) :: gw
def y_Ba_offerMoved : MethodName := ⟨"HeapTower$Base", "offerMoved", "(III)V"⟩
abbrev b_Ba_offerMoved : ByteArray := prog_2_method_21_code
def w_Ba_offerMoved : List Cond := .code y_Ba_offerMoved b_Ba_offerMoved 4 none :: gw
def y_Ba_addMoved : MethodName := ⟨"HeapTower$Base", "addMoved", "([IIII)V"⟩
abbrev b_Ba_addMoved : ByteArray := prog_2_method_16_code
def w_Ba_addMoved : List Cond := .code y_Ba_addMoved b_Ba_addMoved 16 none :: gw
def y_Ba_reduce : MethodName := ⟨"HeapTower$Base", "reduce", "(I[I)V"⟩
abbrev b_Ba_reduce : ByteArray := prog_2_method_15_code
def w_Ba_reduce : List Cond := .code y_Ba_reduce b_Ba_reduce 6 none :: gw
def y_Ro_add : MethodName := ⟨"HeapTower$Rows", "add", "([I)Z"⟩
abbrev b_Ro_add : ByteArray := prog_7_method_6_code
def w_Ro_add : List Cond := .code y_Ro_add b_Ro_add 6 (some .boolean) :: gw
def y_Ro_subtract : MethodName := ⟨"HeapTower$Rows", "subtract", "([II[I)V"⟩
abbrev b_Ro_subtract : ByteArray := prog_7_method_7_code
def w_Ro_subtract : List Cond := .code y_Ro_subtract b_Ro_subtract 6 none :: gw
def y_Nu_inverse : MethodName := ⟨"HeapTower$Numbers", "inverse", "(I)I"⟩
abbrev b_Nu_inverse : ByteArray := prog_4_method_6_code
def w_Nu_inverse : List Cond := .code y_Nu_inverse b_Nu_inverse 2 (some .int) :: gw
def y_He_offerRows : MethodName := ⟨"HeapTower$Heap", "offerRows", "(LHeapTower$Base;I)V"⟩
abbrev b_He_offerRows : ByteArray := prog_3_method_13_code
def w_He_offerRows : List Cond := .code y_He_offerRows b_He_offerRows 4 none :: gw
def y_Ba_offer : MethodName := ⟨"HeapTower$Base", "offer", "(I[I)V"⟩
abbrev b_Ba_offer : ByteArray := prog_2_method_13_code
def w_Ba_offer : List Cond := .code y_Ba_offer b_Ba_offer 3 none :: gw
def y_Ba_close : MethodName := ⟨"HeapTower$Base", "close", "(I)V"⟩
abbrev b_Ba_close : ByteArray := prog_2_method_14_code
def w_Ba_close : List Cond := .code y_Ba_close b_Ba_close 4 none :: gw
def y_Ro_hasHead : MethodName := ⟨"HeapTower$Rows", "hasHead", "(I)Z"⟩
abbrev b_Ro_hasHead : ByteArray := prog_7_method_4_code
def w_Ro_hasHead : List Cond := .code y_Ro_hasHead b_Ro_hasHead 2 (some .boolean) :: gw
def y_Ba_append : MethodName := ⟨"HeapTower$Base", "append", "(II)V"⟩
abbrev b_Ba_append : ByteArray := prog_2_method_22_code
def w_Ba_append : List Cond := .code y_Ba_append b_Ba_append 8 none :: gw
def y_Ro_numberAt : MethodName := ⟨"HeapTower$Rows", "numberAt", "(II)I"⟩
abbrev b_Ro_numberAt : ByteArray := prog_7_method_5_code
def w_Ro_numberAt : List Cond := .code y_Ro_numberAt b_Ro_numberAt 3 (some .int) :: gw
def y_Ba_isStandard : MethodName := ⟨"HeapTower$Base", "isStandard", "(II)Z"⟩
abbrev b_Ba_isStandard : ByteArray := prog_2_method_7_code
def w_Ba_isStandard : List Cond := .code y_Ba_isStandard b_Ba_isStandard 3 (some .boolean) :: gw
def y_HT_loadRestOfDraft : MethodName := ⟨"HeapTower", "loadRestOfDraft", "(LHeapTower$Base;I)Z"⟩
abbrev b_HT_loadRestOfDraft : ByteArray := prog_1_method_33_code
def w_HT_loadRestOfDraft : List Cond := .code y_HT_loadRestOfDraft b_HT_loadRestOfDraft 3 (some .boolean) :: gw
def y_Pr_isZero : MethodName := ⟨"HeapTower$Products", "isZero", "(I[I)Z"⟩
abbrev b_Pr_isZero : ByteArray := prog_6_method_14_code
def w_Pr_isZero : List Cond := .code y_Pr_isZero b_Pr_isZero 4 (some .boolean) :: gw
def y_HT_in : MethodName := ⟨"HeapTower", "in", "()I"⟩
abbrev b_HT_in : ByteArray := prog_1_method_13_code
def w_HT_in : List Cond := .code y_HT_in b_HT_in 4 (some .int) :: gw
def y_HT_base : MethodName := ⟨"HeapTower", "base", "(I)I"⟩
abbrev b_HT_base : ByteArray := prog_1_method_14_code
def w_HT_base : List Cond := .code y_HT_base b_HT_base 2 (some .int) :: gw
def y_Ba_sizeUpTo : MethodName := ⟨"HeapTower$Base", "sizeUpTo", "(I)I"⟩
abbrev b_Ba_sizeUpTo : ByteArray := prog_2_method_4_code
def w_Ba_sizeUpTo : List Cond := .code y_Ba_sizeUpTo b_Ba_sizeUpTo 2 (some .int) :: gw
def y_HT_element : MethodName := ⟨"HeapTower", "element", "(I)I"⟩
abbrev b_HT_element : ByteArray := prog_1_method_15_code
def w_HT_element : List Cond := .code y_HT_element b_HT_element 3 (some .int) :: gw
def y_Ba_loadElement : MethodName := ⟨"HeapTower$Base", "loadElement", "(I[I)V"⟩
abbrev b_Ba_loadElement : ByteArray := prog_2_method_10_code
def w_Ba_loadElement : List Cond := .code y_Ba_loadElement b_Ba_loadElement 4 none :: gw
def y_Ba_degreeOf : MethodName := ⟨"HeapTower$Base", "degreeOf", "(I)I"⟩
abbrev b_Ba_degreeOf : ByteArray := prog_2_method_9_code
def w_Ba_degreeOf : List Cond := .code y_Ba_degreeOf b_Ba_degreeOf 2 (some .int) :: gw
def y_HT_count : MethodName := ⟨"HeapTower", "count", "(I)I"⟩
abbrev b_HT_count : ByteArray := prog_1_method_16_code
def w_HT_count : List Cond := .code y_HT_count b_HT_count 2 (some .int) :: gw
def y_Ba_standardCount : MethodName := ⟨"HeapTower$Base", "standardCount", "(I)I"⟩
abbrev b_Ba_standardCount : ByteArray := prog_2_method_5_code
def w_Ba_standardCount : List Cond := .code y_Ba_standardCount b_Ba_standardCount 2 (some .int) :: gw
def y_HT_free : MethodName := ⟨"HeapTower", "free", "(II)I"⟩
abbrev b_HT_free : ByteArray := prog_1_method_17_code
def w_HT_free : List Cond := .code y_HT_free b_HT_free 4 (some .int) :: gw
def y_HT_freeAtGround : MethodName := ⟨"HeapTower", "freeAtGround", "(I)I"⟩
abbrev b_HT_freeAtGround : ByteArray := prog_1_method_42_code
def w_HT_freeAtGround : List Cond := .code y_HT_freeAtGround b_HT_freeAtGround 2 (some .int) :: gw
def y_Ba_neededRows : MethodName := ⟨"HeapTower$Base", "neededRows", "(I)I"⟩
abbrev b_Ba_neededRows : ByteArray := prog_2_method_8_code
def w_Ba_neededRows : List Cond := .code y_Ba_neededRows b_Ba_neededRows 2 (some .int) :: gw
def y_HT_freeAtSecond : MethodName := ⟨"HeapTower", "freeAtSecond", "(LHeapTower$Base;I)I"⟩
abbrev b_HT_freeAtSecond : ByteArray := prog_1_method_43_code
def w_HT_freeAtSecond : List Cond := .code y_HT_freeAtSecond b_HT_freeAtSecond 5 (some .int) :: gw
def y_HT_freeAtThird : MethodName := ⟨"HeapTower", "freeAtThird", "(LHeapTower$Base;I)I"⟩
abbrev b_HT_freeAtThird : ByteArray := prog_1_method_45_code
def w_HT_freeAtThird : List Cond := .code y_HT_freeAtThird b_HT_freeAtThird 7 (some .int) :: gw
def y_Ro_size : MethodName := ⟨"HeapTower$Rows", "size", "()I"⟩
abbrev b_Ro_size : ByteArray := prog_7_method_3_code
def w_Ro_size : List Cond := .code y_Ro_size b_Ro_size 1 (some .int) :: gw
def y_HT_loadImages : MethodName := ⟨"HeapTower", "loadImages", "(LHeapTower$Base;II)V"⟩
abbrev b_HT_loadImages : ByteArray := prog_1_method_46_code
def w_HT_loadImages : List Cond := .code y_HT_loadImages b_HT_loadImages 8 none :: gw
def y_Pr_raised : MethodName := ⟨"HeapTower$Products", "raised", "(II)I"⟩
abbrev b_Pr_raised : ByteArray := prog_6_method_12_code
def w_Pr_raised : List Cond := .code y_Pr_raised b_Pr_raised 3 (some .int) :: gw
def y_HT_signedChains : MethodName := ⟨"HeapTower", "signedChains", "(LHeapTower$Base;II)I"⟩
abbrev b_HT_signedChains : ByteArray := prog_1_method_44_code
def w_HT_signedChains : List Cond := .code y_HT_signedChains b_HT_signedChains 7 (some .int) :: gw
def y_HT_quotient : MethodName := ⟨"HeapTower", "quotient", "(I)I"⟩
abbrev b_HT_quotient : ByteArray := prog_1_method_18_code
def w_HT_quotient : List Cond := .code y_HT_quotient b_HT_quotient 4 (some .int) :: gw
def y_HT_quotientBaseUpTo : MethodName := ⟨"HeapTower", "quotientBaseUpTo", "(II)LHeapTower$Base;"⟩
abbrev b_HT_quotientBaseUpTo : ByteArray := prog_1_method_40_code
def w_HT_quotientBaseUpTo : List Cond := .code y_HT_quotientBaseUpTo b_HT_quotientBaseUpTo 4 (some (.object "HeapTower$Base")) :: gw
def y_HT_regular : MethodName := ⟨"HeapTower", "regular", "()I"⟩
abbrev b_HT_regular : ByteArray := prog_1_method_19_code
def w_HT_regular : List Cond := .code y_HT_regular b_HT_regular 5 (some .int) :: gw
def y_HT_keep : MethodName := ⟨"HeapTower", "keep", "()I"⟩
abbrev b_HT_keep : ByteArray := prog_1_method_20_code
def w_HT_keep : List Cond := .code y_HT_keep b_HT_keep 2 (some .int) :: gw
def y_He_become : MethodName := ⟨"HeapTower$Heap", "become", "(LHeapTower$Heap;)V"⟩
abbrev b_He_become : ByteArray := prog_3_method_11_code
def w_He_become : List Cond := .code y_He_become b_He_become 3 none :: gw
def y_HT_swap : MethodName := ⟨"HeapTower", "swap", "()I"⟩
abbrev b_HT_swap : ByteArray := prog_1_method_21_code
def w_HT_swap : List Cond := .code y_HT_swap b_HT_swap 2 (some .int) :: gw
def y_HT_dimension : MethodName := ⟨"HeapTower", "dimension", "(II)I"⟩
abbrev b_HT_dimension : ByteArray := prog_1_method_22_code
def w_HT_dimension : List Cond := .code y_HT_dimension b_HT_dimension 3 (some .int) :: gw
def y_Ba_leadingCount : MethodName := ⟨"HeapTower$Base", "leadingCount", "(I)I"⟩
abbrev b_Ba_leadingCount : ByteArray := prog_2_method_6_code
def w_Ba_leadingCount : List Cond := .code y_Ba_leadingCount b_Ba_leadingCount 2 (some .int) :: gw
def y_HT_sumBaseUpTo : MethodName := ⟨"HeapTower", "sumBaseUpTo", "(I)LHeapTower$Base;"⟩
abbrev b_HT_sumBaseUpTo : ByteArray := prog_1_method_36_code
def w_HT_sumBaseUpTo : List Cond := .code y_HT_sumBaseUpTo b_HT_sumBaseUpTo 3 (some (.object "HeapTower$Base")) :: gw
def y_HT_productBaseUpTo : MethodName := ⟨"HeapTower", "productBaseUpTo", "(I)LHeapTower$Base;"⟩
abbrev b_HT_productBaseUpTo : ByteArray := prog_1_method_37_code
def w_HT_productBaseUpTo : List Cond := .code y_HT_productBaseUpTo b_HT_productBaseUpTo 3 (some (.object "HeapTower$Base")) :: gw
def y_HT_offerRowProducts : MethodName := ⟨"HeapTower", "offerRowProducts", "(I)V"⟩
abbrev b_HT_offerRowProducts : ByteArray := prog_1_method_38_code
def w_HT_offerRowProducts : List Cond := .code y_HT_offerRowProducts b_HT_offerRowProducts 4 none :: gw
def y_HT_loadRowProduct : MethodName := ⟨"HeapTower", "loadRowProduct", "(II)V"⟩
abbrev b_HT_loadRowProduct : ByteArray := prog_1_method_39_code
def w_HT_loadRowProduct : List Cond := .code y_HT_loadRowProduct b_HT_loadRowProduct 11 none :: gw
def y_He_numbersOf : MethodName := ⟨"HeapTower$Heap", "numbersOf", "(I)[I"⟩
abbrev b_He_numbersOf : ByteArray := prog_3_method_6_code
def w_He_numbersOf : List Cond := .code y_He_numbersOf b_He_numbersOf 2 (some (.array .int)) :: gw
def y_HT_parts : MethodName := ⟨"HeapTower", "parts", "()I"⟩
abbrev b_HT_parts : ByteArray := prog_1_method_23_code
def w_HT_parts : List Cond := .code y_HT_parts b_HT_parts 2 (some .int) :: gw
def y_HT_leastOutside : MethodName := ⟨"HeapTower", "leastOutside", "(LHeapTower$Heap;LHeapTower$Base;)I"⟩
abbrev b_HT_leastOutside : ByteArray := prog_1_method_41_code
def w_HT_leastOutside : List Cond := .code y_HT_leastOutside b_HT_leastOutside 6 (some .int) :: gw
def y_HT_claim : MethodName := ⟨"HeapTower", "claim", "(I)I"⟩
abbrev b_HT_claim : ByteArray := prog_1_method_24_code
def w_HT_claim : List Cond := .code y_HT_claim b_HT_claim 2 (some .int) :: gw
def y_Po_become : MethodName := ⟨"HeapTower$Polynomial", "become", "(LHeapTower$Polynomial;)V"⟩
abbrev b_Po_become : ByteArray := prog_5_method_3_code
def w_Po_become : List Cond := .code y_Po_become b_Po_become 2 none :: gw
def y_HT_sum : MethodName := ⟨"HeapTower", "sum", "()I"⟩
abbrev b_HT_sum : ByteArray := prog_1_method_25_code
def w_HT_sum : List Cond := .code y_HT_sum b_HT_sum 2 (some .int) :: gw
def y_HT_addClaimTimesRow : MethodName := ⟨"HeapTower", "addClaimTimesRow", "(I)V"⟩
abbrev b_HT_addClaimTimesRow : ByteArray := prog_1_method_34_code
def w_HT_addClaimTimesRow : List Cond := .code y_HT_addClaimTimesRow b_HT_addClaimTimesRow 7 none :: gw
def y_HT_addWorkToDraft : MethodName := ⟨"HeapTower", "addWorkToDraft", "(IIII)V"⟩
abbrev b_HT_addWorkToDraft : ByteArray := prog_1_method_35_code
def w_HT_addWorkToDraft : List Cond := .code y_HT_addWorkToDraft b_HT_addWorkToDraft 9 none :: gw
def y_HT_told : MethodName := ⟨"HeapTower", "told", "(I)I"⟩
abbrev b_HT_told : ByteArray := prog_1_method_26_code
def w_HT_told : List Cond := .code y_HT_told b_HT_told 2 (some .int) :: gw
def y_Mo_new : MethodName := ⟨"HeapTowerModel", "<init>", "()V"⟩
abbrev b_Mo_new : ByteArray := prog_9_method_1_code
def w_Mo_new : List Cond := .code y_Mo_new b_Mo_new 1 none :: gw
def y_Mo_letters : MethodName := ⟨"HeapTowerModel", "letters", "(II)I"⟩
abbrev b_Mo_letters : ByteArray := prog_9_method_19_code
def w_Mo_letters : List Cond := .code y_Mo_letters b_Mo_letters 4 (some .int) :: gw
def y_Mo_in3 : MethodName := ⟨"HeapTowerModel", "in", "(III)Z"⟩
abbrev b_Mo_in3 : ByteArray := prog_9_method_3_code
def w_Mo_in3 : List Cond := .code y_Mo_in3 b_Mo_in3 3 (some .boolean) :: gw
def y_Mo_isPrime : MethodName := ⟨"HeapTowerModel", "isPrime", "(I)Z"⟩
abbrev b_Mo_isPrime : ByteArray := prog_9_method_18_code
def w_Mo_isPrime : List Cond := .code y_Mo_isPrime b_Mo_isPrime 2 (some .boolean) :: gw
def y_Mo_clear : MethodName := ⟨"HeapTowerModel", "clear", "(I)V"⟩
abbrev b_Mo_clear : ByteArray := prog_9_method_13_code
def w_Mo_clear : List Cond := .code y_Mo_clear b_Mo_clear 3 none :: gw
def y_Mo_put : MethodName := ⟨"HeapTowerModel", "put", "(III)V"⟩
abbrev b_Mo_put : ByteArray := prog_9_method_12_code
def w_Mo_put : List Cond := .code y_Mo_put b_Mo_put 4 none :: gw
def y_Mo_order : MethodName := ⟨"HeapTowerModel", "order", "(I)I"⟩
abbrev b_Mo_order : ByteArray := prog_9_method_20_code
def w_Mo_order : List Cond := .code y_Mo_order b_Mo_order 3 (some .int) :: gw
def y_Mo_term : MethodName := ⟨"HeapTowerModel", "term", "(IIII)I"⟩
abbrev b_Mo_term : ByteArray := prog_9_method_21_code
def w_Mo_term : List Cond := .code y_Mo_term b_Mo_term 6 (some .int) :: gw
def y_Mo_isProduct : MethodName := ⟨"HeapTowerModel", "isProduct", "(III)Z"⟩
abbrev b_Mo_isProduct : ByteArray := prog_9_method_8_code
def w_Mo_isProduct : List Cond := .code y_Mo_isProduct b_Mo_isProduct 4 (some .boolean) :: gw
def y_Mo_powers : MethodName := ⟨"HeapTowerModel", "powers", "(III)I"⟩
abbrev b_Mo_powers : ByteArray := prog_9_method_6_code
def w_Mo_powers : List Cond := .code y_Mo_powers b_Mo_powers 3 (some .int) :: gw
def y_Mo_get : MethodName := ⟨"HeapTowerModel", "get", "(II)I"⟩
abbrev b_Mo_get : ByteArray := prog_9_method_11_code
def w_Mo_get : List Cond := .code y_Mo_get b_Mo_get 3 (some .int) :: gw
def y_Mo_mod : MethodName := ⟨"HeapTowerModel", "mod", "(J)I"⟩
abbrev b_Mo_mod : ByteArray := prog_9_method_4_code
def w_Mo_mod : List Cond := .code y_Mo_mod b_Mo_mod 5 (some .int) :: gw
def y_Mo_number : MethodName := ⟨"HeapTowerModel", "number", "(III)I"⟩
abbrev b_Mo_number : ByteArray := prog_9_method_22_code
def w_Mo_number : List Cond := .code y_Mo_number b_Mo_number 4 (some .int) :: gw
def y_Mo_wipe : MethodName := ⟨"HeapTowerModel", "wipe", "()I"⟩
abbrev b_Mo_wipe : ByteArray := prog_9_method_23_code
def w_Mo_wipe : List Cond := .code y_Mo_wipe b_Mo_wipe 2 (some .int) :: gw
def y_Mo_products : MethodName := ⟨"HeapTowerModel", "products", "(I)I"⟩
abbrev b_Mo_products : ByteArray := prog_9_method_14_code
def w_Mo_products : List Cond := .code y_Mo_products b_Mo_products 4 (some .int) :: gw
def y_Mo_draft : MethodName := ⟨"HeapTowerModel", "draft", "(I)I"⟩
abbrev b_Mo_draft : ByteArray := prog_9_method_24_code
def w_Mo_draft : List Cond := .code y_Mo_draft b_Mo_draft 4 (some .int) :: gw
def y_Mo_degree : MethodName := ⟨"HeapTowerModel", "degree", "(I)I"⟩
abbrev b_Mo_degree : ByteArray := prog_9_method_15_code
def w_Mo_degree : List Cond := .code y_Mo_degree b_Mo_degree 4 (some .int) :: gw
def y_Mo_degreeOf : MethodName := ⟨"HeapTowerModel", "degreeOf", "(I)I"⟩
abbrev b_Mo_degreeOf : ByteArray := prog_9_method_7_code
def w_Mo_degreeOf : List Cond := .code y_Mo_degreeOf b_Mo_degreeOf 1 (some .int) :: gw
def y_Mo_isEven : MethodName := ⟨"HeapTowerModel", "isEven", "(I)Z"⟩
abbrev b_Mo_isEven : ByteArray := prog_9_method_16_code
def w_Mo_isEven : List Cond := .code y_Mo_isEven b_Mo_isEven 4 (some .boolean) :: gw
def y_Mo_isGreater : MethodName := ⟨"HeapTowerModel", "isGreater", "(II)Z"⟩
abbrev b_Mo_isGreater : ByteArray := prog_9_method_10_code
def w_Mo_isGreater : List Cond := .code y_Mo_isGreater b_Mo_isGreater 4 (some .boolean) :: gw
def y_Mo_power : MethodName := ⟨"HeapTowerModel", "power", "(II)I"⟩
abbrev b_Mo_power : ByteArray := prog_9_method_9_code
def w_Mo_power : List Cond := .code y_Mo_power b_Mo_power 3 (some .int) :: gw
def y_Mo_times : MethodName := ⟨"HeapTowerModel", "times", "(III)I"⟩
abbrev b_Mo_times : ByteArray := prog_9_method_25_code
def w_Mo_times : List Cond := .code y_Mo_times b_Mo_times 5 (some .int) :: gw
def y_Mo_move : MethodName := ⟨"HeapTowerModel", "move", "(II)V"⟩
abbrev b_Mo_move : ByteArray := prog_9_method_17_code
def w_Mo_move : List Cond := .code y_Mo_move b_Mo_move 4 none :: gw
def y_Mo_row : MethodName := ⟨"HeapTowerModel", "row", "()I"⟩
abbrev b_Mo_row : ByteArray := prog_9_method_26_code
def w_Mo_row : List Cond := .code y_Mo_row b_Mo_row 2 (some .int) :: gw
def y_Mo_drop : MethodName := ⟨"HeapTowerModel", "drop", "()I"⟩
abbrev b_Mo_drop : ByteArray := prog_9_method_27_code
def w_Mo_drop : List Cond := .code y_Mo_drop b_Mo_drop 1 (some .int) :: gw
def y_Mo_copy : MethodName := ⟨"HeapTowerModel", "copy", "(I)I"⟩
abbrev b_Mo_copy : ByteArray := prog_9_method_28_code
def w_Mo_copy : List Cond := .code y_Mo_copy b_Mo_copy 2 (some .int) :: gw
def y_Mo_rest : MethodName := ⟨"HeapTowerModel", "rest", "()I"⟩
abbrev b_Mo_rest : ByteArray := prog_9_method_36_code
def w_Mo_rest : List Cond := .code y_Mo_rest b_Mo_rest 3 (some .int) :: gw
def y_Mo_heap : MethodName := ⟨"HeapTowerModel", "heap", "(I)V"⟩
abbrev b_Mo_heap : ByteArray := prog_9_method_34_code
def w_Mo_heap : List Cond := .code y_Mo_heap b_Mo_heap 3 none :: gw
def y_Mo_begin : MethodName := ⟨"HeapTowerModel", "begin", "(I)V"⟩
abbrev b_Mo_begin : ByteArray := prog_9_method_30_code
def w_Mo_begin : List Cond := .code y_Mo_begin b_Mo_begin 3 none :: gw
def y_Mo_take : MethodName := ⟨"HeapTowerModel", "take", "(I)V"⟩
abbrev b_Mo_take : ByteArray := prog_9_method_29_code
def w_Mo_take : List Cond := .code y_Mo_take b_Mo_take 7 none :: gw
def y_Mo_spread : MethodName := ⟨"HeapTowerModel", "spread", "(II)V"⟩
abbrev b_Mo_spread : ByteArray := prog_9_method_33_code
def w_Mo_spread : List Cond := .code y_Mo_spread b_Mo_spread 8 none :: gw
def y_Mo_enter : MethodName := ⟨"HeapTowerModel", "enter", "()V"⟩
abbrev b_Mo_enter : ByteArray := prog_9_method_31_code
def w_Mo_enter : List Cond := .code y_Mo_enter b_Mo_enter 6 none :: gw
def y_Mo_less : MethodName := ⟨"HeapTowerModel", "less", "(II)V"⟩
abbrev b_Mo_less : ByteArray := prog_9_method_32_code
def w_Mo_less : List Cond := .code y_Mo_less b_Mo_less 4 none :: gw
def y_Mo_inverse : MethodName := ⟨"HeapTowerModel", "inverse", "(I)I"⟩
abbrev b_Mo_inverse : ByteArray := prog_9_method_5_code
def w_Mo_inverse : List Cond := .code y_Mo_inverse b_Mo_inverse 3 (some .int) :: gw
def y_Mo_in0 : MethodName := ⟨"HeapTowerModel", "in", "()I"⟩
abbrev b_Mo_in0 : ByteArray := prog_9_method_37_code
def w_Mo_in0 : List Cond := .code y_Mo_in0 b_Mo_in0 3 (some .int) :: gw
def y_Mo_base : MethodName := ⟨"HeapTowerModel", "base", "(I)I"⟩
abbrev b_Mo_base : ByteArray := prog_9_method_40_code
def w_Mo_base : List Cond := .code y_Mo_base b_Mo_base 2 (some .int) :: gw
def y_Mo_bases : MethodName := ⟨"HeapTowerModel", "bases", "(II)I"⟩
abbrev b_Mo_bases : ByteArray := prog_9_method_39_code
def w_Mo_bases : List Cond := .code y_Mo_bases b_Mo_bases 8 (some .int) :: gw
def y_Mo_divides : MethodName := ⟨"HeapTowerModel", "divides", "(II)Z"⟩
abbrev b_Mo_divides : ByteArray := prog_9_method_38_code
def w_Mo_divides : List Cond := .code y_Mo_divides b_Mo_divides 3 (some .boolean) :: gw
def y_Mo_element : MethodName := ⟨"HeapTowerModel", "element", "(I)I"⟩
abbrev b_Mo_element : ByteArray := prog_9_method_41_code
def w_Mo_element : List Cond := .code y_Mo_element b_Mo_element 3 (some .int) :: gw
def y_Mo_count : MethodName := ⟨"HeapTowerModel", "count", "(I)I"⟩
abbrev b_Mo_count : ByteArray := prog_9_method_42_code
def w_Mo_count : List Cond := .code y_Mo_count b_Mo_count 2 (some .int) :: gw
def y_Mo_free : MethodName := ⟨"HeapTowerModel", "free", "(II)I"⟩
abbrev b_Mo_free : ByteArray := prog_9_method_51_code
def w_Mo_free : List Cond := .code y_Mo_free b_Mo_free 3 (some .int) :: gw
def y_Mo_chains : MethodName := ⟨"HeapTowerModel", "chains", "(II)I"⟩
abbrev b_Mo_chains : ByteArray := prog_9_method_48_code
def w_Mo_chains : List Cond := .code y_Mo_chains b_Mo_chains 3 (some .int) :: gw
def y_Mo_setsOf : MethodName := ⟨"HeapTowerModel", "setsOf", "(I)I"⟩
abbrev b_Mo_setsOf : ByteArray := prog_9_method_46_code
def w_Mo_setsOf : List Cond := .code y_Mo_setsOf b_Mo_setsOf 4 (some .int) :: gw
def y_Mo_ones : MethodName := ⟨"HeapTowerModel", "ones", "(I)I"⟩
abbrev b_Mo_ones : ByteArray := prog_9_method_45_code
def w_Mo_ones : List Cond := .code y_Mo_ones b_Mo_ones 1 (some .int) :: gw
def y_Mo_steps : MethodName := ⟨"HeapTowerModel", "steps", "(II)I"⟩
abbrev b_Mo_steps : ByteArray := prog_9_method_49_code
def w_Mo_steps : List Cond := .code y_Mo_steps b_Mo_steps 14 (some .int) :: gw
def y_Mo_takeStandard : MethodName := ⟨"HeapTowerModel", "takeStandard", "(I)V"⟩
abbrev b_Mo_takeStandard : ByteArray := prog_9_method_44_code
def w_Mo_takeStandard : List Cond := .code y_Mo_takeStandard b_Mo_takeStandard 3 none :: gw
def y_Mo_place : MethodName := ⟨"HeapTowerModel", "place", "(I)I"⟩
abbrev b_Mo_place : ByteArray := prog_9_method_47_code
def w_Mo_place : List Cond := .code y_Mo_place b_Mo_place 4 (some .int) :: gw
def y_Mo_product : MethodName := ⟨"HeapTowerModel", "product", "(IIZ)V"⟩
abbrev b_Mo_product : ByteArray := prog_9_method_50_code
def w_Mo_product : List Cond := .code y_Mo_product b_Mo_product 7 none :: gw
def y_Mo_rankOf : MethodName := ⟨"HeapTowerModel", "rankOf", "(II)I"⟩
abbrev b_Mo_rankOf : ByteArray := prog_9_method_43_code
def w_Mo_rankOf : List Cond := .code y_Mo_rankOf b_Mo_rankOf 10 (some .int) :: gw
def y_Mo_quotient : MethodName := ⟨"HeapTowerModel", "quotient", "(I)I"⟩
abbrev b_Mo_quotient : ByteArray := prog_9_method_54_code
def w_Mo_quotient : List Cond := .code y_Mo_quotient b_Mo_quotient 2 (some .int) :: gw
def y_Mo_mayAsk : MethodName := ⟨"HeapTowerModel", "mayAsk", "()Z"⟩
abbrev b_Mo_mayAsk : ByteArray := prog_9_method_53_code
def w_Mo_mayAsk : List Cond := .code y_Mo_mayAsk b_Mo_mayAsk 1 (some .boolean) :: gw
def y_Mo_quotientOf : MethodName := ⟨"HeapTowerModel", "quotientOf", "(I)I"⟩
abbrev b_Mo_quotientOf : ByteArray := prog_9_method_52_code
def w_Mo_quotientOf : List Cond := .code y_Mo_quotientOf b_Mo_quotientOf 7 (some .int) :: gw
def y_Mo_regular : MethodName := ⟨"HeapTowerModel", "regular", "()I"⟩
abbrev b_Mo_regular : ByteArray := prog_9_method_55_code
def w_Mo_regular : List Cond := .code y_Mo_regular b_Mo_regular 3 (some .int) :: gw
def y_Mo_keep : MethodName := ⟨"HeapTowerModel", "keep", "()I"⟩
abbrev b_Mo_keep : ByteArray := prog_9_method_56_code
def w_Mo_keep : List Cond := .code y_Mo_keep b_Mo_keep 3 (some .int) :: gw
def y_Mo_swap : MethodName := ⟨"HeapTowerModel", "swap", "()I"⟩
abbrev b_Mo_swap : ByteArray := prog_9_method_57_code
def w_Mo_swap : List Cond := .code y_Mo_swap b_Mo_swap 2 (some .int) :: gw
def y_Mo_dimension : MethodName := ⟨"HeapTowerModel", "dimension", "(II)I"⟩
abbrev b_Mo_dimension : ByteArray := prog_9_method_61_code
def w_Mo_dimension : List Cond := .code y_Mo_dimension b_Mo_dimension 3 (some .int) :: gw
def y_Mo_dimensionOf : MethodName := ⟨"HeapTowerModel", "dimensionOf", "(II)I"⟩
abbrev b_Mo_dimensionOf : ByteArray := prog_9_method_58_code
def w_Mo_dimensionOf : List Cond := .code y_Mo_dimensionOf b_Mo_dimensionOf 5 (some .int) :: gw
def y_Mo_addOther : MethodName := ⟨"HeapTowerModel", "addOther", "(I)V"⟩
abbrev b_Mo_addOther : ByteArray := prog_9_method_35_code
def w_Mo_addOther : List Cond := .code y_Mo_addOther b_Mo_addOther 3 none :: gw
def y_Mo_dimensionOf3 : MethodName := ⟨"HeapTowerModel", "dimensionOf3", "(I)I"⟩
abbrev b_Mo_dimensionOf3 : ByteArray := prog_9_method_59_code
def w_Mo_dimensionOf3 : List Cond := .code y_Mo_dimensionOf3 b_Mo_dimensionOf3 4 (some .int) :: gw
def y_Mo_multiply : MethodName := ⟨"HeapTowerModel", "multiply", "(III)V"⟩
abbrev b_Mo_multiply : ByteArray := prog_9_method_60_code
def w_Mo_multiply : List Cond := .code y_Mo_multiply b_Mo_multiply 6 none :: gw
def y_Mo_parts : MethodName := ⟨"HeapTowerModel", "parts", "()I"⟩
abbrev b_Mo_parts : ByteArray := prog_9_method_62_code
def w_Mo_parts : List Cond := .code y_Mo_parts b_Mo_parts 3 (some .int) :: gw
def y_Mo_claim : MethodName := ⟨"HeapTowerModel", "claim", "(I)I"⟩
abbrev b_Mo_claim : ByteArray := prog_9_method_63_code
def w_Mo_claim : List Cond := .code y_Mo_claim b_Mo_claim 2 (some .int) :: gw
def y_Mo_sum : MethodName := ⟨"HeapTowerModel", "sum", "()I"⟩
abbrev b_Mo_sum : ByteArray := prog_9_method_64_code
def w_Mo_sum : List Cond := .code y_Mo_sum b_Mo_sum 3 (some .int) :: gw
def y_Mo_told : MethodName := ⟨"HeapTowerModel", "told", "(I)I"⟩
abbrev b_Mo_told : ByteArray := prog_9_method_65_code
def w_Mo_told : List Cond := .code y_Mo_told b_Mo_told 2 (some .int) :: gw
