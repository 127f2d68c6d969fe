section
-- ===== PART A: goes FIRST, ahead of the names: the tables' words, and 'selects' of the private methods out of them =====
/-- a private method of a class that the tables say can be made, by its rows of tables_1 -/
def lw_okq (q : MethodName × Nat) : Prop := (q.1.cls ≠ "java/lang/invoke/MethodHandle" ∧ q.1.cls ≠ "java/lang/invoke/VarHandle") ∧ Cond.instantiable q.1.cls q.2 ∈ tables_1 ∧ Cond.privateMethod q.1 ∈ tables_1 ∧ Cond.instanceMethod q.1 ∈ tables_1
theorem lw_p0 : lw_okq (⟨"HeapTower$Products", "lineByLast", "(I)I"⟩, 6) := ⟨⟨by decide +kernel, by decide +kernel⟩, List.mem_of_getElem? (i := 21) (by decide +kernel), List.mem_of_getElem? (i := 34) (by decide +kernel), List.mem_of_getElem? (i := 35) (by decide +kernel)⟩
theorem lw_p1 : lw_okq (⟨"HeapTower$Products", "lineByFirst", "(I)I"⟩, 6) := ⟨⟨by decide +kernel, by decide +kernel⟩, List.mem_of_getElem? (i := 21) (by decide +kernel), List.mem_of_getElem? (i := 40) (by decide +kernel), List.mem_of_getElem? (i := 41) (by decide +kernel)⟩
theorem lw_p2 : lw_okq (⟨"HeapTower", "clearClaims", "()V"⟩, 12) := ⟨⟨by decide +kernel, by decide +kernel⟩, List.mem_of_getElem? (i := 13) (by decide +kernel), List.mem_of_getElem? (i := 270) (by decide +kernel), List.mem_of_getElem? (i := 271) (by decide +kernel)⟩
theorem lw_p3 : lw_okq (⟨"HeapTower", "forgetAllBases", "()V"⟩, 12) := ⟨⟨by decide +kernel, by decide +kernel⟩, List.mem_of_getElem? (i := 13) (by decide +kernel), List.mem_of_getElem? (i := 281) (by decide +kernel), List.mem_of_getElem? (i := 282) (by decide +kernel)⟩
theorem lw_p4 : lw_okq (⟨"HeapTower", "isProduct", "(III)Z"⟩, 12) := ⟨⟨by decide +kernel, by decide +kernel⟩, List.mem_of_getElem? (i := 13) (by decide +kernel), List.mem_of_getElem? (i := 299) (by decide +kernel), List.mem_of_getElem? (i := 300) (by decide +kernel)⟩
theorem lw_p5 : lw_okq (⟨"HeapTower", "draftChanged", "()V"⟩, 12) := ⟨⟨by decide +kernel, by decide +kernel⟩, List.mem_of_getElem? (i := 13) (by decide +kernel), List.mem_of_getElem? (i := 320) (by decide +kernel), List.mem_of_getElem? (i := 321) (by decide +kernel)⟩
theorem lw_p6 : lw_okq (⟨"HeapTower$Polynomial", "sizeOf", "(I)I"⟩, 2) := ⟨⟨by decide +kernel, by decide +kernel⟩, List.mem_of_getElem? (i := 118) (by decide +kernel), List.mem_of_getElem? (i := 344) (by decide +kernel), List.mem_of_getElem? (i := 345) (by decide +kernel)⟩
theorem lw_p7 : lw_okq (⟨"HeapTower", "headOfDraft", "()I"⟩, 12) := ⟨⟨by decide +kernel, by decide +kernel⟩, List.mem_of_getElem? (i := 13) (by decide +kernel), List.mem_of_getElem? (i := 354) (by decide +kernel), List.mem_of_getElem? (i := 355) (by decide +kernel)⟩
theorem lw_p8 : lw_okq (⟨"HeapTower$Polynomial", "movePartUp", "(III)V"⟩, 2) := ⟨⟨by decide +kernel, by decide +kernel⟩, List.mem_of_getElem? (i := 118) (by decide +kernel), List.mem_of_getElem? (i := 389) (by decide +kernel), List.mem_of_getElem? (i := 390) (by decide +kernel)⟩
theorem lw_p9 : lw_okq (⟨"HeapTower", "heapChanged", "(I)V"⟩, 12) := ⟨⟨by decide +kernel, by decide +kernel⟩, List.mem_of_getElem? (i := 13) (by decide +kernel), List.mem_of_getElem? (i := 421) (by decide +kernel), List.mem_of_getElem? (i := 422) (by decide +kernel)⟩
theorem lw_p10 : lw_okq (⟨"HeapTower$Base", "inherit", "(I)V"⟩, 14) := ⟨⟨by decide +kernel, by decide +kernel⟩, List.mem_of_getElem? (i := 132) (by decide +kernel), List.mem_of_getElem? (i := 481) (by decide +kernel), List.mem_of_getElem? (i := 482) (by decide +kernel)⟩
theorem lw_p11 : lw_okq (⟨"HeapTower$Base", "leaderBelow", "(III)I"⟩, 14) := ⟨⟨by decide +kernel, by decide +kernel⟩, List.mem_of_getElem? (i := 132) (by decide +kernel), List.mem_of_getElem? (i := 487) (by decide +kernel), List.mem_of_getElem? (i := 488) (by decide +kernel)⟩
theorem lw_p12 : lw_okq (⟨"HeapTower$Base", "offerDifferences", "(I)V"⟩, 14) := ⟨⟨by decide +kernel, by decide +kernel⟩, List.mem_of_getElem? (i := 132) (by decide +kernel), List.mem_of_getElem? (i := 497) (by decide +kernel), List.mem_of_getElem? (i := 498) (by decide +kernel)⟩
theorem lw_p13 : lw_okq (⟨"HeapTower$Base", "isNews", "(IIII)Z"⟩, 14) := ⟨⟨by decide +kernel, by decide +kernel⟩, List.mem_of_getElem? (i := 132) (by decide +kernel), List.mem_of_getElem? (i := 501) (by decide +kernel), List.mem_of_getElem? (i := 502) (by decide +kernel)⟩
theorem lw_p14 : lw_okq (⟨"HeapTower$Base", "offerMoved", "(III)V"⟩, 14) := ⟨⟨by decide +kernel, by decide +kernel⟩, List.mem_of_getElem? (i := 132) (by decide +kernel), List.mem_of_getElem? (i := 508) (by decide +kernel), List.mem_of_getElem? (i := 509) (by decide +kernel)⟩
theorem lw_p15 : lw_okq (⟨"HeapTower$Base", "addMoved", "([IIII)V"⟩, 14) := ⟨⟨by decide +kernel, by decide +kernel⟩, List.mem_of_getElem? (i := 132) (by decide +kernel), List.mem_of_getElem? (i := 513) (by decide +kernel), List.mem_of_getElem? (i := 514) (by decide +kernel)⟩
def lw_privs_1 : List (MethodName × Nat) := [(⟨"HeapTower$Products", "lineByLast", "(I)I"⟩, 6), (⟨"HeapTower$Products", "lineByFirst", "(I)I"⟩, 6), (⟨"HeapTower", "clearClaims", "()V"⟩, 12), (⟨"HeapTower", "forgetAllBases", "()V"⟩, 12), (⟨"HeapTower", "isProduct", "(III)Z"⟩, 12), (⟨"HeapTower", "draftChanged", "()V"⟩, 12), (⟨"HeapTower$Polynomial", "sizeOf", "(I)I"⟩, 2), (⟨"HeapTower", "headOfDraft", "()I"⟩, 12), (⟨"HeapTower$Polynomial", "movePartUp", "(III)V"⟩, 2), (⟨"HeapTower", "heapChanged", "(I)V"⟩, 12), (⟨"HeapTower$Base", "inherit", "(I)V"⟩, 14), (⟨"HeapTower$Base", "leaderBelow", "(III)I"⟩, 14), (⟨"HeapTower$Base", "offerDifferences", "(I)V"⟩, 14), (⟨"HeapTower$Base", "isNews", "(IIII)Z"⟩, 14), (⟨"HeapTower$Base", "offerMoved", "(III)V"⟩, 14), (⟨"HeapTower$Base", "addMoved", "([IIII)V"⟩, 14)]
theorem lw_r1 : ∀ q ∈ lw_privs_1, lw_okq q := List.forall_mem_cons.mpr ⟨lw_p0, List.forall_mem_cons.mpr ⟨lw_p1, List.forall_mem_cons.mpr ⟨lw_p2, List.forall_mem_cons.mpr ⟨lw_p3, List.forall_mem_cons.mpr ⟨lw_p4, List.forall_mem_cons.mpr ⟨lw_p5, List.forall_mem_cons.mpr ⟨lw_p6, List.forall_mem_cons.mpr ⟨lw_p7, List.forall_mem_cons.mpr ⟨lw_p8, List.forall_mem_cons.mpr ⟨lw_p9, List.forall_mem_cons.mpr ⟨lw_p10, List.forall_mem_cons.mpr ⟨lw_p11, List.forall_mem_cons.mpr ⟨lw_p12, List.forall_mem_cons.mpr ⟨lw_p13, List.forall_mem_cons.mpr ⟨lw_p14, List.forall_mem_cons.mpr ⟨lw_p15, fun _ h => absurd h List.not_mem_nil⟩⟩⟩⟩⟩⟩⟩⟩⟩⟩⟩⟩⟩⟩⟩⟩
theorem lw_p16 : lw_okq (⟨"HeapTower$Rows", "subtract", "([II[I)V"⟩, 8) := ⟨⟨by decide +kernel, by decide +kernel⟩, List.mem_of_getElem? (i := 84) (by decide +kernel), List.mem_of_getElem? (i := 526) (by decide +kernel), List.mem_of_getElem? (i := 527) (by decide +kernel)⟩
theorem lw_p17 : lw_okq (⟨"HeapTower$Base", "append", "(II)V"⟩, 14) := ⟨⟨by decide +kernel, by decide +kernel⟩, List.mem_of_getElem? (i := 132) (by decide +kernel), List.mem_of_getElem? (i := 551) (by decide +kernel), List.mem_of_getElem? (i := 552) (by decide +kernel)⟩
theorem lw_p18 : lw_okq (⟨"HeapTower", "loadRestOfDraft", "(LHeapTower$Base;I)Z"⟩, 12) := ⟨⟨by decide +kernel, by decide +kernel⟩, List.mem_of_getElem? (i := 13) (by decide +kernel), List.mem_of_getElem? (i := 563) (by decide +kernel), List.mem_of_getElem? (i := 564) (by decide +kernel)⟩
theorem lw_p19 : lw_okq (⟨"HeapTower", "freeAtGround", "(I)I"⟩, 12) := ⟨⟨by decide +kernel, by decide +kernel⟩, List.mem_of_getElem? (i := 13) (by decide +kernel), List.mem_of_getElem? (i := 610) (by decide +kernel), List.mem_of_getElem? (i := 611) (by decide +kernel)⟩
theorem lw_p20 : lw_okq (⟨"HeapTower", "freeAtSecond", "(LHeapTower$Base;I)I"⟩, 12) := ⟨⟨by decide +kernel, by decide +kernel⟩, List.mem_of_getElem? (i := 13) (by decide +kernel), List.mem_of_getElem? (i := 618) (by decide +kernel), List.mem_of_getElem? (i := 619) (by decide +kernel)⟩
theorem lw_p21 : lw_okq (⟨"HeapTower", "freeAtThird", "(LHeapTower$Base;I)I"⟩, 12) := ⟨⟨by decide +kernel, by decide +kernel⟩, List.mem_of_getElem? (i := 13) (by decide +kernel), List.mem_of_getElem? (i := 622) (by decide +kernel), List.mem_of_getElem? (i := 623) (by decide +kernel)⟩
theorem lw_p22 : lw_okq (⟨"HeapTower", "loadImages", "(LHeapTower$Base;II)V"⟩, 12) := ⟨⟨by decide +kernel, by decide +kernel⟩, List.mem_of_getElem? (i := 13) (by decide +kernel), List.mem_of_getElem? (i := 631) (by decide +kernel), List.mem_of_getElem? (i := 632) (by decide +kernel)⟩
theorem lw_p23 : lw_okq (⟨"HeapTower", "signedChains", "(LHeapTower$Base;II)I"⟩, 12) := ⟨⟨by decide +kernel, by decide +kernel⟩, List.mem_of_getElem? (i := 13) (by decide +kernel), List.mem_of_getElem? (i := 644) (by decide +kernel), List.mem_of_getElem? (i := 645) (by decide +kernel)⟩
theorem lw_p24 : lw_okq (⟨"HeapTower", "quotientBaseUpTo", "(II)LHeapTower$Base;"⟩, 12) := ⟨⟨by decide +kernel, by decide +kernel⟩, List.mem_of_getElem? (i := 13) (by decide +kernel), List.mem_of_getElem? (i := 652) (by decide +kernel), List.mem_of_getElem? (i := 653) (by decide +kernel)⟩
theorem lw_p25 : lw_okq (⟨"HeapTower", "sumBaseUpTo", "(I)LHeapTower$Base;"⟩, 12) := ⟨⟨by decide +kernel, by decide +kernel⟩, List.mem_of_getElem? (i := 13) (by decide +kernel), List.mem_of_getElem? (i := 685) (by decide +kernel), List.mem_of_getElem? (i := 686) (by decide +kernel)⟩
theorem lw_p26 : lw_okq (⟨"HeapTower", "productBaseUpTo", "(I)LHeapTower$Base;"⟩, 12) := ⟨⟨by decide +kernel, by decide +kernel⟩, List.mem_of_getElem? (i := 13) (by decide +kernel), List.mem_of_getElem? (i := 689) (by decide +kernel), List.mem_of_getElem? (i := 690) (by decide +kernel)⟩
theorem lw_p27 : lw_okq (⟨"HeapTower", "offerRowProducts", "(I)V"⟩, 12) := ⟨⟨by decide +kernel, by decide +kernel⟩, List.mem_of_getElem? (i := 13) (by decide +kernel), List.mem_of_getElem? (i := 693) (by decide +kernel), List.mem_of_getElem? (i := 694) (by decide +kernel)⟩
theorem lw_p28 : lw_okq (⟨"HeapTower", "loadRowProduct", "(II)V"⟩, 12) := ⟨⟨by decide +kernel, by decide +kernel⟩, List.mem_of_getElem? (i := 13) (by decide +kernel), List.mem_of_getElem? (i := 697) (by decide +kernel), List.mem_of_getElem? (i := 698) (by decide +kernel)⟩
theorem lw_p29 : lw_okq (⟨"HeapTower", "leastOutside", "(LHeapTower$Heap;LHeapTower$Base;)I"⟩, 12) := ⟨⟨by decide +kernel, by decide +kernel⟩, List.mem_of_getElem? (i := 13) (by decide +kernel), List.mem_of_getElem? (i := 711) (by decide +kernel), List.mem_of_getElem? (i := 712) (by decide +kernel)⟩
theorem lw_p30 : lw_okq (⟨"HeapTower", "addClaimTimesRow", "(I)V"⟩, 12) := ⟨⟨by decide +kernel, by decide +kernel⟩, List.mem_of_getElem? (i := 13) (by decide +kernel), List.mem_of_getElem? (i := 728) (by decide +kernel), List.mem_of_getElem? (i := 729) (by decide +kernel)⟩
theorem lw_p31 : lw_okq (⟨"HeapTower", "addWorkToDraft", "(IIII)V"⟩, 12) := ⟨⟨by decide +kernel, by decide +kernel⟩, List.mem_of_getElem? (i := 13) (by decide +kernel), List.mem_of_getElem? (i := 732) (by decide +kernel), List.mem_of_getElem? (i := 733) (by decide +kernel)⟩
def lw_privs_2 : List (MethodName × Nat) := [(⟨"HeapTower$Rows", "subtract", "([II[I)V"⟩, 8), (⟨"HeapTower$Base", "append", "(II)V"⟩, 14), (⟨"HeapTower", "loadRestOfDraft", "(LHeapTower$Base;I)Z"⟩, 12), (⟨"HeapTower", "freeAtGround", "(I)I"⟩, 12), (⟨"HeapTower", "freeAtSecond", "(LHeapTower$Base;I)I"⟩, 12), (⟨"HeapTower", "freeAtThird", "(LHeapTower$Base;I)I"⟩, 12), (⟨"HeapTower", "loadImages", "(LHeapTower$Base;II)V"⟩, 12), (⟨"HeapTower", "signedChains", "(LHeapTower$Base;II)I"⟩, 12), (⟨"HeapTower", "quotientBaseUpTo", "(II)LHeapTower$Base;"⟩, 12), (⟨"HeapTower", "sumBaseUpTo", "(I)LHeapTower$Base;"⟩, 12), (⟨"HeapTower", "productBaseUpTo", "(I)LHeapTower$Base;"⟩, 12), (⟨"HeapTower", "offerRowProducts", "(I)V"⟩, 12), (⟨"HeapTower", "loadRowProduct", "(II)V"⟩, 12), (⟨"HeapTower", "leastOutside", "(LHeapTower$Heap;LHeapTower$Base;)I"⟩, 12), (⟨"HeapTower", "addClaimTimesRow", "(I)V"⟩, 12), (⟨"HeapTower", "addWorkToDraft", "(IIII)V"⟩, 12)]
theorem lw_r2 : ∀ q ∈ lw_privs_2, lw_okq q := List.forall_mem_cons.mpr ⟨lw_p16, List.forall_mem_cons.mpr ⟨lw_p17, List.forall_mem_cons.mpr ⟨lw_p18, List.forall_mem_cons.mpr ⟨lw_p19, List.forall_mem_cons.mpr ⟨lw_p20, List.forall_mem_cons.mpr ⟨lw_p21, List.forall_mem_cons.mpr ⟨lw_p22, List.forall_mem_cons.mpr ⟨lw_p23, List.forall_mem_cons.mpr ⟨lw_p24, List.forall_mem_cons.mpr ⟨lw_p25, List.forall_mem_cons.mpr ⟨lw_p26, List.forall_mem_cons.mpr ⟨lw_p27, List.forall_mem_cons.mpr ⟨lw_p28, List.forall_mem_cons.mpr ⟨lw_p29, List.forall_mem_cons.mpr ⟨lw_p30, List.forall_mem_cons.mpr ⟨lw_p31, fun _ h => absurd h List.not_mem_nil⟩⟩⟩⟩⟩⟩⟩⟩⟩⟩⟩⟩⟩⟩⟩⟩
theorem lw_p32 : lw_okq (⟨"HeapTowerModel", "clear", "(I)V"⟩, 18) := ⟨⟨by decide +kernel, by decide +kernel⟩, List.mem_of_getElem? (i := 740) (by decide +kernel), List.mem_of_getElem? (i := 813) (by decide +kernel), List.mem_of_getElem? (i := 814) (by decide +kernel)⟩
theorem lw_p33 : lw_okq (⟨"HeapTowerModel", "put", "(III)V"⟩, 18) := ⟨⟨by decide +kernel, by decide +kernel⟩, List.mem_of_getElem? (i := 740) (by decide +kernel), List.mem_of_getElem? (i := 817) (by decide +kernel), List.mem_of_getElem? (i := 818) (by decide +kernel)⟩
theorem lw_p34 : lw_okq (⟨"HeapTowerModel", "isProduct", "(III)Z"⟩, 18) := ⟨⟨by decide +kernel, by decide +kernel⟩, List.mem_of_getElem? (i := 740) (by decide +kernel), List.mem_of_getElem? (i := 829) (by decide +kernel), List.mem_of_getElem? (i := 830) (by decide +kernel)⟩
theorem lw_p35 : lw_okq (⟨"HeapTowerModel", "get", "(II)I"⟩, 18) := ⟨⟨by decide +kernel, by decide +kernel⟩, List.mem_of_getElem? (i := 740) (by decide +kernel), List.mem_of_getElem? (i := 837) (by decide +kernel), List.mem_of_getElem? (i := 838) (by decide +kernel)⟩
theorem lw_p36 : lw_okq (⟨"HeapTowerModel", "mod", "(J)I"⟩, 18) := ⟨⟨by decide +kernel, by decide +kernel⟩, List.mem_of_getElem? (i := 740) (by decide +kernel), List.mem_of_getElem? (i := 841) (by decide +kernel), List.mem_of_getElem? (i := 842) (by decide +kernel)⟩
theorem lw_p37 : lw_okq (⟨"HeapTowerModel", "products", "(I)I"⟩, 18) := ⟨⟨by decide +kernel, by decide +kernel⟩, List.mem_of_getElem? (i := 740) (by decide +kernel), List.mem_of_getElem? (i := 853) (by decide +kernel), List.mem_of_getElem? (i := 854) (by decide +kernel)⟩
theorem lw_p38 : lw_okq (⟨"HeapTowerModel", "degree", "(I)I"⟩, 18) := ⟨⟨by decide +kernel, by decide +kernel⟩, List.mem_of_getElem? (i := 740) (by decide +kernel), List.mem_of_getElem? (i := 861) (by decide +kernel), List.mem_of_getElem? (i := 862) (by decide +kernel)⟩
theorem lw_p39 : lw_okq (⟨"HeapTowerModel", "isEven", "(I)Z"⟩, 18) := ⟨⟨by decide +kernel, by decide +kernel⟩, List.mem_of_getElem? (i := 740) (by decide +kernel), List.mem_of_getElem? (i := 868) (by decide +kernel), List.mem_of_getElem? (i := 869) (by decide +kernel)⟩
theorem lw_p40 : lw_okq (⟨"HeapTowerModel", "isGreater", "(II)Z"⟩, 18) := ⟨⟨by decide +kernel, by decide +kernel⟩, List.mem_of_getElem? (i := 740) (by decide +kernel), List.mem_of_getElem? (i := 872) (by decide +kernel), List.mem_of_getElem? (i := 873) (by decide +kernel)⟩
theorem lw_p41 : lw_okq (⟨"HeapTowerModel", "power", "(II)I"⟩, 18) := ⟨⟨by decide +kernel, by decide +kernel⟩, List.mem_of_getElem? (i := 740) (by decide +kernel), List.mem_of_getElem? (i := 876) (by decide +kernel), List.mem_of_getElem? (i := 877) (by decide +kernel)⟩
theorem lw_p42 : lw_okq (⟨"HeapTowerModel", "move", "(II)V"⟩, 18) := ⟨⟨by decide +kernel, by decide +kernel⟩, List.mem_of_getElem? (i := 740) (by decide +kernel), List.mem_of_getElem? (i := 884) (by decide +kernel), List.mem_of_getElem? (i := 885) (by decide +kernel)⟩
theorem lw_p43 : lw_okq (⟨"HeapTowerModel", "heap", "(I)V"⟩, 18) := ⟨⟨by decide +kernel, by decide +kernel⟩, List.mem_of_getElem? (i := 740) (by decide +kernel), List.mem_of_getElem? (i := 904) (by decide +kernel), List.mem_of_getElem? (i := 905) (by decide +kernel)⟩
theorem lw_p44 : lw_okq (⟨"HeapTowerModel", "begin", "(I)V"⟩, 18) := ⟨⟨by decide +kernel, by decide +kernel⟩, List.mem_of_getElem? (i := 740) (by decide +kernel), List.mem_of_getElem? (i := 908) (by decide +kernel), List.mem_of_getElem? (i := 909) (by decide +kernel)⟩
theorem lw_p45 : lw_okq (⟨"HeapTowerModel", "take", "(I)V"⟩, 18) := ⟨⟨by decide +kernel, by decide +kernel⟩, List.mem_of_getElem? (i := 740) (by decide +kernel), List.mem_of_getElem? (i := 912) (by decide +kernel), List.mem_of_getElem? (i := 913) (by decide +kernel)⟩
theorem lw_p46 : lw_okq (⟨"HeapTowerModel", "spread", "(II)V"⟩, 18) := ⟨⟨by decide +kernel, by decide +kernel⟩, List.mem_of_getElem? (i := 740) (by decide +kernel), List.mem_of_getElem? (i := 916) (by decide +kernel), List.mem_of_getElem? (i := 917) (by decide +kernel)⟩
theorem lw_p47 : lw_okq (⟨"HeapTowerModel", "enter", "()V"⟩, 18) := ⟨⟨by decide +kernel, by decide +kernel⟩, List.mem_of_getElem? (i := 740) (by decide +kernel), List.mem_of_getElem? (i := 920) (by decide +kernel), List.mem_of_getElem? (i := 921) (by decide +kernel)⟩
def lw_privs_3 : List (MethodName × Nat) := [(⟨"HeapTowerModel", "clear", "(I)V"⟩, 18), (⟨"HeapTowerModel", "put", "(III)V"⟩, 18), (⟨"HeapTowerModel", "isProduct", "(III)Z"⟩, 18), (⟨"HeapTowerModel", "get", "(II)I"⟩, 18), (⟨"HeapTowerModel", "mod", "(J)I"⟩, 18), (⟨"HeapTowerModel", "products", "(I)I"⟩, 18), (⟨"HeapTowerModel", "degree", "(I)I"⟩, 18), (⟨"HeapTowerModel", "isEven", "(I)Z"⟩, 18), (⟨"HeapTowerModel", "isGreater", "(II)Z"⟩, 18), (⟨"HeapTowerModel", "power", "(II)I"⟩, 18), (⟨"HeapTowerModel", "move", "(II)V"⟩, 18), (⟨"HeapTowerModel", "heap", "(I)V"⟩, 18), (⟨"HeapTowerModel", "begin", "(I)V"⟩, 18), (⟨"HeapTowerModel", "take", "(I)V"⟩, 18), (⟨"HeapTowerModel", "spread", "(II)V"⟩, 18), (⟨"HeapTowerModel", "enter", "()V"⟩, 18)]
theorem lw_r3 : ∀ q ∈ lw_privs_3, lw_okq q := List.forall_mem_cons.mpr ⟨lw_p32, List.forall_mem_cons.mpr ⟨lw_p33, List.forall_mem_cons.mpr ⟨lw_p34, List.forall_mem_cons.mpr ⟨lw_p35, List.forall_mem_cons.mpr ⟨lw_p36, List.forall_mem_cons.mpr ⟨lw_p37, List.forall_mem_cons.mpr ⟨lw_p38, List.forall_mem_cons.mpr ⟨lw_p39, List.forall_mem_cons.mpr ⟨lw_p40, List.forall_mem_cons.mpr ⟨lw_p41, List.forall_mem_cons.mpr ⟨lw_p42, List.forall_mem_cons.mpr ⟨lw_p43, List.forall_mem_cons.mpr ⟨lw_p44, List.forall_mem_cons.mpr ⟨lw_p45, List.forall_mem_cons.mpr ⟨lw_p46, List.forall_mem_cons.mpr ⟨lw_p47, fun _ h => absurd h List.not_mem_nil⟩⟩⟩⟩⟩⟩⟩⟩⟩⟩⟩⟩⟩⟩⟩⟩
theorem lw_p48 : lw_okq (⟨"HeapTowerModel", "less", "(II)V"⟩, 18) := ⟨⟨by decide +kernel, by decide +kernel⟩, List.mem_of_getElem? (i := 740) (by decide +kernel), List.mem_of_getElem? (i := 924) (by decide +kernel), List.mem_of_getElem? (i := 925) (by decide +kernel)⟩
theorem lw_p49 : lw_okq (⟨"HeapTowerModel", "inverse", "(I)I"⟩, 18) := ⟨⟨by decide +kernel, by decide +kernel⟩, List.mem_of_getElem? (i := 740) (by decide +kernel), List.mem_of_getElem? (i := 928) (by decide +kernel), List.mem_of_getElem? (i := 929) (by decide +kernel)⟩
theorem lw_p50 : lw_okq (⟨"HeapTowerModel", "bases", "(II)I"⟩, 18) := ⟨⟨by decide +kernel, by decide +kernel⟩, List.mem_of_getElem? (i := 740) (by decide +kernel), List.mem_of_getElem? (i := 940) (by decide +kernel), List.mem_of_getElem? (i := 941) (by decide +kernel)⟩
theorem lw_p51 : lw_okq (⟨"HeapTowerModel", "divides", "(II)Z"⟩, 18) := ⟨⟨by decide +kernel, by decide +kernel⟩, List.mem_of_getElem? (i := 740) (by decide +kernel), List.mem_of_getElem? (i := 944) (by decide +kernel), List.mem_of_getElem? (i := 945) (by decide +kernel)⟩
theorem lw_p52 : lw_okq (⟨"HeapTowerModel", "chains", "(II)I"⟩, 18) := ⟨⟨by decide +kernel, by decide +kernel⟩, List.mem_of_getElem? (i := 740) (by decide +kernel), List.mem_of_getElem? (i := 960) (by decide +kernel), List.mem_of_getElem? (i := 961) (by decide +kernel)⟩
theorem lw_p53 : lw_okq (⟨"HeapTowerModel", "setsOf", "(I)I"⟩, 18) := ⟨⟨by decide +kernel, by decide +kernel⟩, List.mem_of_getElem? (i := 740) (by decide +kernel), List.mem_of_getElem? (i := 964) (by decide +kernel), List.mem_of_getElem? (i := 965) (by decide +kernel)⟩
theorem lw_p54 : lw_okq (⟨"HeapTowerModel", "steps", "(II)I"⟩, 18) := ⟨⟨by decide +kernel, by decide +kernel⟩, List.mem_of_getElem? (i := 740) (by decide +kernel), List.mem_of_getElem? (i := 971) (by decide +kernel), List.mem_of_getElem? (i := 972) (by decide +kernel)⟩
theorem lw_p55 : lw_okq (⟨"HeapTowerModel", "takeStandard", "(I)V"⟩, 18) := ⟨⟨by decide +kernel, by decide +kernel⟩, List.mem_of_getElem? (i := 740) (by decide +kernel), List.mem_of_getElem? (i := 975) (by decide +kernel), List.mem_of_getElem? (i := 976) (by decide +kernel)⟩
theorem lw_p56 : lw_okq (⟨"HeapTowerModel", "place", "(I)I"⟩, 18) := ⟨⟨by decide +kernel, by decide +kernel⟩, List.mem_of_getElem? (i := 740) (by decide +kernel), List.mem_of_getElem? (i := 979) (by decide +kernel), List.mem_of_getElem? (i := 980) (by decide +kernel)⟩
theorem lw_p57 : lw_okq (⟨"HeapTowerModel", "product", "(IIZ)V"⟩, 18) := ⟨⟨by decide +kernel, by decide +kernel⟩, List.mem_of_getElem? (i := 740) (by decide +kernel), List.mem_of_getElem? (i := 983) (by decide +kernel), List.mem_of_getElem? (i := 984) (by decide +kernel)⟩
theorem lw_p58 : lw_okq (⟨"HeapTowerModel", "rankOf", "(II)I"⟩, 18) := ⟨⟨by decide +kernel, by decide +kernel⟩, List.mem_of_getElem? (i := 740) (by decide +kernel), List.mem_of_getElem? (i := 987) (by decide +kernel), List.mem_of_getElem? (i := 988) (by decide +kernel)⟩
theorem lw_p59 : lw_okq (⟨"HeapTowerModel", "mayAsk", "()Z"⟩, 18) := ⟨⟨by decide +kernel, by decide +kernel⟩, List.mem_of_getElem? (i := 740) (by decide +kernel), List.mem_of_getElem? (i := 995) (by decide +kernel), List.mem_of_getElem? (i := 996) (by decide +kernel)⟩
theorem lw_p60 : lw_okq (⟨"HeapTowerModel", "quotientOf", "(I)I"⟩, 18) := ⟨⟨by decide +kernel, by decide +kernel⟩, List.mem_of_getElem? (i := 740) (by decide +kernel), List.mem_of_getElem? (i := 999) (by decide +kernel), List.mem_of_getElem? (i := 1000) (by decide +kernel)⟩
theorem lw_p61 : lw_okq (⟨"HeapTowerModel", "dimensionOf", "(II)I"⟩, 18) := ⟨⟨by decide +kernel, by decide +kernel⟩, List.mem_of_getElem? (i := 740) (by decide +kernel), List.mem_of_getElem? (i := 1019) (by decide +kernel), List.mem_of_getElem? (i := 1020) (by decide +kernel)⟩
theorem lw_p62 : lw_okq (⟨"HeapTowerModel", "addOther", "(I)V"⟩, 18) := ⟨⟨by decide +kernel, by decide +kernel⟩, List.mem_of_getElem? (i := 740) (by decide +kernel), List.mem_of_getElem? (i := 1023) (by decide +kernel), List.mem_of_getElem? (i := 1024) (by decide +kernel)⟩
theorem lw_p63 : lw_okq (⟨"HeapTowerModel", "dimensionOf3", "(I)I"⟩, 18) := ⟨⟨by decide +kernel, by decide +kernel⟩, List.mem_of_getElem? (i := 740) (by decide +kernel), List.mem_of_getElem? (i := 1027) (by decide +kernel), List.mem_of_getElem? (i := 1028) (by decide +kernel)⟩
def lw_privs_4 : List (MethodName × Nat) := [(⟨"HeapTowerModel", "less", "(II)V"⟩, 18), (⟨"HeapTowerModel", "inverse", "(I)I"⟩, 18), (⟨"HeapTowerModel", "bases", "(II)I"⟩, 18), (⟨"HeapTowerModel", "divides", "(II)Z"⟩, 18), (⟨"HeapTowerModel", "chains", "(II)I"⟩, 18), (⟨"HeapTowerModel", "setsOf", "(I)I"⟩, 18), (⟨"HeapTowerModel", "steps", "(II)I"⟩, 18), (⟨"HeapTowerModel", "takeStandard", "(I)V"⟩, 18), (⟨"HeapTowerModel", "place", "(I)I"⟩, 18), (⟨"HeapTowerModel", "product", "(IIZ)V"⟩, 18), (⟨"HeapTowerModel", "rankOf", "(II)I"⟩, 18), (⟨"HeapTowerModel", "mayAsk", "()Z"⟩, 18), (⟨"HeapTowerModel", "quotientOf", "(I)I"⟩, 18), (⟨"HeapTowerModel", "dimensionOf", "(II)I"⟩, 18), (⟨"HeapTowerModel", "addOther", "(I)V"⟩, 18), (⟨"HeapTowerModel", "dimensionOf3", "(I)I"⟩, 18)]
theorem lw_r4 : ∀ q ∈ lw_privs_4, lw_okq q := List.forall_mem_cons.mpr ⟨lw_p48, List.forall_mem_cons.mpr ⟨lw_p49, List.forall_mem_cons.mpr ⟨lw_p50, List.forall_mem_cons.mpr ⟨lw_p51, List.forall_mem_cons.mpr ⟨lw_p52, List.forall_mem_cons.mpr ⟨lw_p53, List.forall_mem_cons.mpr ⟨lw_p54, List.forall_mem_cons.mpr ⟨lw_p55, List.forall_mem_cons.mpr ⟨lw_p56, List.forall_mem_cons.mpr ⟨lw_p57, List.forall_mem_cons.mpr ⟨lw_p58, List.forall_mem_cons.mpr ⟨lw_p59, List.forall_mem_cons.mpr ⟨lw_p60, List.forall_mem_cons.mpr ⟨lw_p61, List.forall_mem_cons.mpr ⟨lw_p62, List.forall_mem_cons.mpr ⟨lw_p63, fun _ h => absurd h List.not_mem_nil⟩⟩⟩⟩⟩⟩⟩⟩⟩⟩⟩⟩⟩⟩⟩⟩
theorem lw_p64 : lw_okq (⟨"HeapTowerModel", "multiply", "(III)V"⟩, 18) := ⟨⟨by decide +kernel, by decide +kernel⟩, List.mem_of_getElem? (i := 740) (by decide +kernel), List.mem_of_getElem? (i := 1031) (by decide +kernel), List.mem_of_getElem? (i := 1032) (by decide +kernel)⟩
def lw_privs_5 : List (MethodName × Nat) := [(⟨"HeapTowerModel", "multiply", "(III)V"⟩, 18)]
theorem lw_r5 : ∀ q ∈ lw_privs_5, lw_okq q := List.forall_mem_cons.mpr ⟨lw_p64, fun _ h => absurd h List.not_mem_nil⟩
def lw_privs : List (MethodName × Nat) := lw_privs_1 ++ (lw_privs_2 ++ (lw_privs_3 ++ (lw_privs_4 ++ (lw_privs_5))))
def lw_tbl : List Cond := k2_sels lw_privs ++ tables_1
theorem lw_privs_ok : ∀ q ∈ lw_privs, lw_okq q := by
  show ∀ q ∈ lw_privs_1 ++ (lw_privs_2 ++ (lw_privs_3 ++ (lw_privs_4 ++ (lw_privs_5)))), lw_okq q
  exact List.forall_mem_append.mpr ⟨lw_r1, List.forall_mem_append.mpr ⟨lw_r2, List.forall_mem_append.mpr ⟨lw_r3, List.forall_mem_append.mpr ⟨lw_r4, lw_r5⟩⟩⟩⟩
-- classes and their fields
def R_Ba : String := "HeapTower$Base"
def F_Ba : u_T := fun k => match k with
  | 0 => ("HeapTower$Base", "products", "LHeapTower$Products;", true)
  | 1 => ("HeapTower$Base", "numbers", "LHeapTower$Numbers;", true)
  | 2 => ("HeapTower$Base", "fresh", "LHeapTower$Rows;", true)
  | 3 => ("HeapTower$Base", "work", "[I", true)
  | 4 => ("HeapTower$Base", "places", "[I", true)
  | 5 => ("HeapTower$Base", "values", "[I", true)
  | 6 => ("HeapTower$Base", "starts", "[I", true)
  | 7 => ("HeapTower$Base", "degrees", "[I", true)
  | 8 => ("HeapTower$Base", "leaders", "[I", true)
  | 9 => ("HeapTower$Base", "sizes", "[I", true)
  | 10 => ("HeapTower$Base", "standard", "[I", true)
  | 11 => ("HeapTower$Base", "needed", "[I", true)
  | 12 => ("HeapTower$Base", "reached", "I", false)
  | _ => ("HeapTower$Base", "size", "I", false)
def t_Ba : Nat → FieldType := fun k => match k with
  | 0 => (.object "HeapTower$Products")
  | 1 => (.object "HeapTower$Numbers")
  | 2 => (.object "HeapTower$Rows")
  | 3 => (.array .int)
  | 4 => (.array .int)
  | 5 => (.array .int)
  | 6 => (.array .int)
  | 7 => (.array .int)
  | 8 => (.array .int)
  | 9 => (.array .int)
  | 10 => (.array .int)
  | 11 => (.array .int)
  | 12 => .int
  | _ => .int
theorem n_Ba : ∀ a, a < 14 → ∀ b, b < 14 → a ≠ b → (F_Ba a).2.1 ≠ (F_Ba b).2.1 := by decide +kernel
theorem t_Ba_ok : ∀ k, k < 14 → parseFieldDescriptor (F_Ba k).2.2.1 = some (t_Ba k) := by decide +kernel
theorem i_Ba : ∀ w ∈ u_ws R_Ba F_Ba 14, w ∈ lw_tbl := by decide +kernel
def R_He : String := "HeapTower$Heap"
def F_He : u_T := fun k => match k with
  | 0 => ("HeapTower$Heap", "base", "LHeapTower$Base;", true)
  | 1 => ("HeapTower$Heap", "work", "[I", true)
  | 2 => ("HeapTower$Heap", "degrees", "[I", true)
  | 3 => ("HeapTower$Heap", "rows", "[[I", true)
  | _ => ("HeapTower$Heap", "size", "I", false)
def t_He : Nat → FieldType := fun k => match k with
  | 0 => (.object "HeapTower$Base")
  | 1 => (.array .int)
  | 2 => (.array .int)
  | 3 => (.array (.array .int))
  | _ => .int
theorem n_He : ∀ a, a < 5 → ∀ b, b < 5 → a ≠ b → (F_He a).2.1 ≠ (F_He b).2.1 := by decide +kernel
theorem t_He_ok : ∀ k, k < 5 → parseFieldDescriptor (F_He k).2.2.1 = some (t_He k) := by decide +kernel
theorem i_He : ∀ w ∈ u_ws R_He F_He 5, w ∈ lw_tbl := by decide +kernel
def R_Nu : String := "HeapTower$Numbers"
def F_Nu : u_T := fun k => match k with
  | 0 => ("HeapTower$Numbers", "inverses", "[I", true)
  | _ => ("HeapTower$Numbers", "prime", "I", false)
def t_Nu : Nat → FieldType := fun k => match k with
  | 0 => (.array .int)
  | _ => .int
theorem n_Nu : ∀ a, a < 2 → ∀ b, b < 2 → a ≠ b → (F_Nu a).2.1 ≠ (F_Nu b).2.1 := by decide +kernel
theorem t_Nu_ok : ∀ k, k < 2 → parseFieldDescriptor (F_Nu k).2.2.1 = some (t_Nu k) := by decide +kernel
theorem i_Nu : ∀ w ∈ u_ws R_Nu F_Nu 2, w ∈ lw_tbl := by decide +kernel
def R_Po : String := "HeapTower$Polynomial"
def F_Po : u_T := fun k => match k with
  | 0 => ("HeapTower$Polynomial", "products", "LHeapTower$Products;", true)
  | _ => ("HeapTower$Polynomial", "held", "[I", true)
def t_Po : Nat → FieldType := fun k => match k with
  | 0 => (.object "HeapTower$Products")
  | _ => (.array .int)
theorem n_Po : ∀ a, a < 2 → ∀ b, b < 2 → a ≠ b → (F_Po a).2.1 ≠ (F_Po b).2.1 := by decide +kernel
theorem t_Po_ok : ∀ k, k < 2 → parseFieldDescriptor (F_Po k).2.2.1 = some (t_Po k) := by decide +kernel
theorem i_Po : ∀ w ∈ u_ws R_Po F_Po 2, w ∈ lw_tbl := by decide +kernel
def R_Pr : String := "HeapTower$Products"
def F_Pr : u_T := fun k => match k with
  | 0 => ("HeapTower$Products", "second", "[I", true)
  | 1 => ("HeapTower$Products", "third", "[I", true)
  | 2 => ("HeapTower$Products", "line", "[I", true)
  | 3 => ("HeapTower$Products", "amounts", "[I", true)
  | 4 => ("HeapTower$Products", "letterCount", "I", false)
  | _ => ("HeapTower$Products", "orderNow", "I", false)
def t_Pr : Nat → FieldType := fun k => match k with
  | 0 => (.array .int)
  | 1 => (.array .int)
  | 2 => (.array .int)
  | 3 => (.array .int)
  | 4 => .int
  | _ => .int
theorem n_Pr : ∀ a, a < 6 → ∀ b, b < 6 → a ≠ b → (F_Pr a).2.1 ≠ (F_Pr b).2.1 := by decide +kernel
theorem t_Pr_ok : ∀ k, k < 6 → parseFieldDescriptor (F_Pr k).2.2.1 = some (t_Pr k) := by decide +kernel
theorem i_Pr : ∀ w ∈ u_ws R_Pr F_Pr 6, w ∈ lw_tbl := by decide +kernel
def R_Ro : String := "HeapTower$Rows"
def F_Ro : u_T := fun k => match k with
  | 0 => ("HeapTower$Rows", "products", "LHeapTower$Products;", true)
  | 1 => ("HeapTower$Rows", "numbers", "LHeapTower$Numbers;", true)
  | 2 => ("HeapTower$Rows", "rows", "[[I", true)
  | 3 => ("HeapTower$Rows", "rowOfHead", "[I", true)
  | 4 => ("HeapTower$Rows", "line", "[I", true)
  | 5 => ("HeapTower$Rows", "amount", "I", false)
  | 6 => ("HeapTower$Rows", "prime", "I", false)
  | _ => ("HeapTower$Rows", "size", "I", false)
def t_Ro : Nat → FieldType := fun k => match k with
  | 0 => (.object "HeapTower$Products")
  | 1 => (.object "HeapTower$Numbers")
  | 2 => (.array (.array .int))
  | 3 => (.array .int)
  | 4 => (.array .int)
  | 5 => .int
  | 6 => .int
  | _ => .int
theorem n_Ro : ∀ a, a < 8 → ∀ b, b < 8 → a ≠ b → (F_Ro a).2.1 ≠ (F_Ro b).2.1 := by decide +kernel
theorem t_Ro_ok : ∀ k, k < 8 → parseFieldDescriptor (F_Ro k).2.2.1 = some (t_Ro k) := by decide +kernel
theorem i_Ro : ∀ w ∈ u_ws R_Ro F_Ro 8, w ∈ lw_tbl := by decide +kernel
def R_HT : String := "HeapTower"
def F_HT : u_T := fun k => match k with
  | 0 => ("HeapTower", "products", "LHeapTower$Products;", true)
  | 1 => ("HeapTower", "numbers", "LHeapTower$Numbers;", true)
  | 2 => ("HeapTower", "scratchRows", "LHeapTower$Rows;", true)
  | 3 => ("HeapTower", "work", "[I", true)
  | 4 => ("HeapTower", "socleImages", "[[I", true)
  | 5 => ("HeapTower", "theDraft", "LHeapTower$Polynomial;", true)
  | 6 => ("HeapTower", "claims", "[LHeapTower$Polynomial;", true)
  | 7 => ("HeapTower", "sumBase", "LHeapTower$Base;", true)
  | 8 => ("HeapTower", "productBase", "LHeapTower$Base;", true)
  | 9 => ("HeapTower", "quotientBase", "LHeapTower$Base;", true)
  | 10 => ("HeapTower", "theHeap", "LHeapTower$Heap;", false)
  | _ => ("HeapTower", "theOther", "LHeapTower$Heap;", false)
def t_HT : Nat → FieldType := fun k => match k with
  | 0 => (.object "HeapTower$Products")
  | 1 => (.object "HeapTower$Numbers")
  | 2 => (.object "HeapTower$Rows")
  | 3 => (.array .int)
  | 4 => (.array (.array .int))
  | 5 => (.object "HeapTower$Polynomial")
  | 6 => (.array (.object "HeapTower$Polynomial"))
  | 7 => (.object "HeapTower$Base")
  | 8 => (.object "HeapTower$Base")
  | 9 => (.object "HeapTower$Base")
  | 10 => (.object "HeapTower$Heap")
  | _ => (.object "HeapTower$Heap")
theorem n_HT : ∀ a, a < 12 → ∀ b, b < 12 → a ≠ b → (F_HT a).2.1 ≠ (F_HT b).2.1 := by decide +kernel
theorem t_HT_ok : ∀ k, k < 12 → parseFieldDescriptor (F_HT k).2.2.1 = some (t_HT k) := by decide +kernel
theorem i_HT : ∀ w ∈ u_ws R_HT F_HT 12, w ∈ lw_tbl := by decide +kernel
def R_Mo : String := "HeapTowerModel"
def F_Mo : u_T := fun k => match k with
  | 0 => ("HeapTowerModel", "polys", "[I", true)
  | 1 => ("HeapTowerModel", "letters", "I", false)
  | 2 => ("HeapTowerModel", "prime", "I", false)
  | 3 => ("HeapTowerModel", "order", "I", false)
  | 4 => ("HeapTowerModel", "rows", "I", false)
  | 5 => ("HeapTowerModel", "others", "I", false)
  | 6 => ("HeapTowerModel", "list", "[I", true)
  | 7 => ("HeapTowerModel", "places", "[I", true)
  | 8 => ("HeapTowerModel", "many", "I", false)
  | 9 => ("HeapTowerModel", "cleared", "[I", true)
  | 10 => ("HeapTowerModel", "vector", "[I", true)
  | 11 => ("HeapTowerModel", "isPivot", "[Z", true)
  | 12 => ("HeapTowerModel", "rank", "I", false)
  | 13 => ("HeapTowerModel", "leads", "[Z", true)
  | 14 => ("HeapTowerModel", "matrix", "[I", true)
  | 15 => ("HeapTowerModel", "standard", "[I", true)
  | 16 => ("HeapTowerModel", "standards", "I", false)
  | _ => ("HeapTowerModel", "column", "[I", true)
def t_Mo : Nat → FieldType := fun k => match k with
  | 0 => (.array .int)
  | 1 => .int
  | 2 => .int
  | 3 => .int
  | 4 => .int
  | 5 => .int
  | 6 => (.array .int)
  | 7 => (.array .int)
  | 8 => .int
  | 9 => (.array .int)
  | 10 => (.array .int)
  | 11 => (.array .boolean)
  | 12 => .int
  | 13 => (.array .boolean)
  | 14 => (.array .int)
  | 15 => (.array .int)
  | 16 => .int
  | _ => (.array .int)
theorem n_Mo : ∀ a, a < 18 → ∀ b, b < 18 → a ≠ b → (F_Mo a).2.1 ≠ (F_Mo b).2.1 := by decide +kernel
theorem t_Mo_ok : ∀ k, k < 18 → parseFieldDescriptor (F_Mo k).2.2.1 = some (t_Mo k) := by decide +kernel
theorem i_Mo : ∀ w ∈ u_ws R_Mo F_Mo 18, w ∈ lw_tbl := by decide +kernel
abbrev hT_cl : List vw_C := [(R_Ba, F_Ba, 14), (R_He, F_He, 5), (R_Nu, F_Nu, 2), (R_Po, F_Po, 2), (R_Pr, F_Pr, 6), (R_Ro, F_Ro, 8), (R_HT, F_HT, 12), (R_Mo, F_Mo, 18)]
/-- which fields of a class are numbers -/
def fB : Nat → List Bool := fun k => match k with
  | 0 => [false, false, false, false, false, false, false, false, false, false, false, false, true, true]
  | 1 => [false, false, false, false, true]
  | 2 => [false, true]
  | 3 => [false, false]
  | 4 => [false, false, false, false, true, true]
  | 5 => [false, false, false, false, false, true, true, true]
  | 6 => [false, false, false, false, false, false, false, false, false, false, false, false]
  | _ => [false, true, true, true, true, true, false, false, true, false, false, false, true, false, false, false, true, false]
def gw : List Cond := lw_tbl.filter goodWord
-- methods
def y_HT_new : MethodName := ⟨"HeapTower", "<init>", "()V"⟩
abbrev b_HT_new : ByteArray := prog_1_method_1_code
def w_HT_new : List Cond := .code y_HT_new b_HT_new 2 none :: gw
def y_Ob_new : MethodName := ⟨"java/lang/Object", "<init>", "()V"⟩
abbrev b_Ob_new : ByteArray := object_method_1_code
def w_Ob_new : List Cond := .code y_Ob_new b_Ob_new 1 none :: gw
def y_Pr_new : MethodName := ⟨"HeapTower$Products", "<init>", "()V"⟩
abbrev b_Pr_new : ByteArray := prog_6_method_1_code
def w_Pr_new : List Cond := .code y_Pr_new b_Pr_new 3 none :: gw
def y_Pr_place : MethodName := ⟨"HeapTower$Products", "place", "(II)I"⟩
abbrev b_Pr_place : ByteArray := prog_6_method_2_code
def w_Pr_place : List Cond := .code y_Pr_place b_Pr_place 2 (some .int) :: gw
def y_Pr_arrange : MethodName := ⟨"HeapTower$Products", "arrange", "(II)V"⟩
abbrev b_Pr_arrange : ByteArray := prog_6_method_3_code
def w_Pr_arrange : List Cond := .code y_Pr_arrange b_Pr_arrange 4 none :: gw
def y_Pr_lineByLast : MethodName := ⟨"HeapTower$Products", "lineByLast", "(I)I"⟩
abbrev b_Pr_lineByLast : ByteArray := prog_6_method_4_code
def w_Pr_lineByLast : List Cond := .code y_Pr_lineByLast b_Pr_lineByLast 5 (some .int) :: gw
def y_Pr_lineByFirst : MethodName := ⟨"HeapTower$Products", "lineByFirst", "(I)I"⟩
abbrev b_Pr_lineByFirst : ByteArray := prog_6_method_5_code
def w_Pr_lineByFirst : List Cond := .code y_Pr_lineByFirst b_Pr_lineByFirst 5 (some .int) :: gw
def y_Nu_new : MethodName := ⟨"HeapTower$Numbers", "<init>", "()V"⟩
abbrev b_Nu_new : ByteArray := prog_4_method_1_code
def w_Nu_new : List Cond := .code y_Nu_new b_Nu_new 1 none :: gw
def y_Nu_setPrime : MethodName := ⟨"HeapTower$Numbers", "setPrime", "(I)V"⟩
abbrev b_Nu_setPrime : ByteArray := prog_4_method_3_code
def w_Nu_setPrime : List Cond := .code y_Nu_setPrime b_Nu_setPrime 3 none :: gw
def y_Ro_new : MethodName := ⟨"HeapTower$Rows", "<init>", "(LHeapTower$Products;LHeapTower$Numbers;)V"⟩
abbrev b_Ro_new : ByteArray := prog_7_method_1_code
def w_Ro_new : List Cond := .code y_Ro_new b_Ro_new 3 none :: gw
def y_Po_new : MethodName := ⟨"HeapTower$Polynomial", "<init>", "(LHeapTower$Products;)V"⟩
abbrev b_Po_new : ByteArray := prog_5_method_1_code
def w_Po_new : List Cond := .code y_Po_new b_Po_new 2 none :: gw
def y_Ba_new : MethodName := ⟨"HeapTower$Base", "<init>", "(LHeapTower$Products;LHeapTower$Numbers;LHeapTower$Rows;[I)V"⟩
abbrev b_Ba_new : ByteArray := prog_2_method_1_code
def w_Ba_new : List Cond := .code y_Ba_new b_Ba_new 5 none :: gw
def y_He_new : MethodName := ⟨"HeapTower$Heap", "<init>", "(LHeapTower$Base;[I)V"⟩
abbrev b_He_new : ByteArray := prog_3_method_1_code
def w_He_new : List Cond := .code y_He_new b_He_new 3 none :: gw
def y_HT_letters : MethodName := ⟨"HeapTower", "letters", "(II)I"⟩
abbrev b_HT_letters : ByteArray := prog_1_method_2_code
def w_HT_letters : List Cond := .code y_HT_letters b_HT_letters 3 (some .int) :: gw
def y_Nu_isPrime : MethodName := ⟨"HeapTower$Numbers", "isPrime", "(I)Z"⟩
abbrev b_Nu_isPrime : ByteArray := prog_4_method_2_code
def w_Nu_isPrime : List Cond := .code y_Nu_isPrime b_Nu_isPrime 2 (some .boolean) :: gw
def y_Pr_orderNow : MethodName := ⟨"HeapTower$Products", "orderNow", "()I"⟩
abbrev b_Pr_orderNow : ByteArray := prog_6_method_7_code
def w_Pr_orderNow : List Cond := .code y_Pr_orderNow b_Pr_orderNow 1 (some .int) :: gw
def y_He_empty : MethodName := ⟨"HeapTower$Heap", "empty", "()V"⟩
abbrev b_He_empty : ByteArray := prog_3_method_7_code
def w_He_empty : List Cond := .code y_He_empty b_He_empty 1 none :: gw
def y_He_forgetBase : MethodName := ⟨"HeapTower$Heap", "forgetBase", "()V"⟩
abbrev b_He_forgetBase : ByteArray := prog_3_method_8_code
def w_He_forgetBase : List Cond := .code y_He_forgetBase b_He_forgetBase 1 none :: gw
def y_Ba_forget : MethodName := ⟨"HeapTower$Base", "forget", "(I)V"⟩
abbrev b_Ba_forget : ByteArray := prog_2_method_3_code
def w_Ba_forget : List Cond := .code y_Ba_forget b_Ba_forget 2 none :: gw
def y_Ma_max : MethodName := ⟨"java/lang/Math", "max", "(II)I"⟩
abbrev b_Ma_max : ByteArray := prog_10_method_65_code
def w_Ma_max : List Cond := .code y_Ma_max b_Ma_max 2 (some .int) :: gw
def y_HT_clearClaims : MethodName := ⟨"HeapTower", "clearClaims", "()V"⟩
abbrev b_HT_clearClaims : ByteArray := prog_1_method_30_code
def w_HT_clearClaims : List Cond := .code y_HT_clearClaims b_HT_clearClaims 2 none :: gw
def y_Po_clear : MethodName := ⟨"HeapTower$Polynomial", "clear", "()V"⟩
abbrev b_Po_clear : ByteArray := prog_5_method_2_code
def w_Po_clear : List Cond := .code y_Po_clear b_Po_clear 1 none :: gw
def y_Ar_fill2 : MethodName := ⟨"java/util/Arrays", "fill", "([II)V"⟩
abbrev b_Ar_fill2 : ByteArray := prog_12_method_103_code
def w_Ar_fill2 : List Cond := .code y_Ar_fill2 b_Ar_fill2 4 none :: gw
def y_HT_forgetAllBases : MethodName := ⟨"HeapTower", "forgetAllBases", "()V"⟩
abbrev b_HT_forgetAllBases : ByteArray := prog_1_method_29_code
def w_HT_forgetAllBases : List Cond := .code y_HT_forgetAllBases b_HT_forgetAllBases 1 none :: gw
def y_HT_order : MethodName := ⟨"HeapTower", "order", "(I)I"⟩
abbrev b_HT_order : ByteArray := prog_1_method_3_code
def w_HT_order : List Cond := .code y_HT_order b_HT_order 3 (some .int) :: gw
def y_Pr_letterCount : MethodName := ⟨"HeapTower$Products", "letterCount", "()I"⟩
abbrev b_Pr_letterCount : ByteArray := prog_6_method_6_code
def w_Pr_letterCount : List Cond := .code y_Pr_letterCount b_Pr_letterCount 1 (some .int) :: gw
def y_HT_term : MethodName := ⟨"HeapTower", "term", "(IIII)I"⟩
abbrev b_HT_term : ByteArray := prog_1_method_4_code
def w_HT_term : List Cond := .code y_HT_term b_HT_term 8 (some .int) :: gw
def y_HT_isProduct : MethodName := ⟨"HeapTower", "isProduct", "(III)Z"⟩
abbrev b_HT_isProduct : ByteArray := prog_1_method_31_code
def w_HT_isProduct : List Cond := .code y_HT_isProduct b_HT_isProduct 5 (some .boolean) :: gw
def y_Po_numberAt : MethodName := ⟨"HeapTower$Polynomial", "numberAt", "(II)I"⟩
abbrev b_Po_numberAt : ByteArray := prog_5_method_4_code
def w_Po_numberAt : List Cond := .code y_Po_numberAt b_Po_numberAt 3 (some .int) :: gw
def y_Nu_modulo : MethodName := ⟨"HeapTower$Numbers", "modulo", "(I)I"⟩
abbrev b_Nu_modulo : ByteArray := prog_4_method_5_code
def w_Nu_modulo : List Cond := .code y_Nu_modulo b_Nu_modulo 2 (some .int) :: gw
def y_Ma_floorMod : MethodName := ⟨"java/lang/Math", "floorMod", "(II)I"⟩
abbrev b_Ma_floorMod : ByteArray := prog_10_method_50_code
def w_Ma_floorMod : List Cond := .code y_Ma_floorMod b_Ma_floorMod 3 (some .int) :: gw
def y_Po_setNumber : MethodName := ⟨"HeapTower$Polynomial", "setNumber", "(III)V"⟩
abbrev b_Po_setNumber : ByteArray := prog_5_method_5_code
def w_Po_setNumber : List Cond := .code y_Po_setNumber b_Po_setNumber 4 none :: gw
def y_HT_draftChanged : MethodName := ⟨"HeapTower", "draftChanged", "()V"⟩
abbrev b_HT_draftChanged : ByteArray := prog_1_method_27_code
def w_HT_draftChanged : List Cond := .code y_HT_draftChanged b_HT_draftChanged 1 none :: gw
def y_HT_number : MethodName := ⟨"HeapTower", "number", "(III)I"⟩
abbrev b_HT_number : ByteArray := prog_1_method_5_code
def w_HT_number : List Cond := .code y_HT_number b_HT_number 4 (some .int) :: gw
def y_HT_wipe : MethodName := ⟨"HeapTower", "wipe", "()I"⟩
abbrev b_HT_wipe : ByteArray := prog_1_method_6_code
def w_HT_wipe : List Cond := .code y_HT_wipe b_HT_wipe 2 (some .int) :: gw
def y_Po_size : MethodName := ⟨"HeapTower$Polynomial", "size", "()I"⟩
abbrev b_Po_size : ByteArray := prog_5_method_6_code
def w_Po_size : List Cond := .code y_Po_size b_Po_size 3 (some .int) :: gw
def y_HT_draft : MethodName := ⟨"HeapTower", "draft", "(I)I"⟩
abbrev b_HT_draft : ByteArray := prog_1_method_7_code
def w_HT_draft : List Cond := .code y_HT_draft b_HT_draft 2 (some .int) :: gw
def y_Po_degree : MethodName := ⟨"HeapTower$Polynomial", "degree", "()I"⟩
abbrev b_Po_degree : ByteArray := prog_5_method_7_code
def w_Po_degree : List Cond := .code y_Po_degree b_Po_degree 2 (some .int) :: gw
def y_Po_sizeOf : MethodName := ⟨"HeapTower$Polynomial", "sizeOf", "(I)I"⟩
abbrev b_Po_sizeOf : ByteArray := prog_5_method_9_code
def w_Po_sizeOf : List Cond := .code y_Po_sizeOf b_Po_sizeOf 4 (some .int) :: gw
def y_Po_isEven : MethodName := ⟨"HeapTower$Polynomial", "isEven", "()Z"⟩
abbrev b_Po_isEven : ByteArray := prog_5_method_8_code
def w_Po_isEven : List Cond := .code y_Po_isEven b_Po_isEven 2 (some .boolean) :: gw
def y_HT_headOfDraft : MethodName := ⟨"HeapTower", "headOfDraft", "()I"⟩
abbrev b_HT_headOfDraft : ByteArray := prog_1_method_32_code
def w_HT_headOfDraft : List Cond := .code y_HT_headOfDraft b_HT_headOfDraft 3 (some .int) :: gw
def y_Po_headPlace : MethodName := ⟨"HeapTower$Polynomial", "headPlace", "()I"⟩
abbrev b_Po_headPlace : ByteArray := prog_5_method_10_code
def w_Po_headPlace : List Cond := .code y_Po_headPlace b_Po_headPlace 3 (some .int) :: gw
def y_Pr_amount : MethodName := ⟨"HeapTower$Products", "amount", "(I)I"⟩
abbrev b_Pr_amount : ByteArray := prog_6_method_8_code
def w_Pr_amount : List Cond := .code y_Pr_amount b_Pr_amount 2 (some .int) :: gw
def y_Pr_at : MethodName := ⟨"HeapTower$Products", "at", "(II)I"⟩
abbrev b_Pr_at : ByteArray := prog_6_method_9_code
def w_Pr_at : List Cond := .code y_Pr_at b_Pr_at 3 (some .int) :: gw
def y_Pr_power : MethodName := ⟨"HeapTower$Products", "power", "(III)I"⟩
abbrev b_Pr_power : ByteArray := prog_6_method_10_code
def w_Pr_power : List Cond := .code y_Pr_power b_Pr_power 4 (some .int) :: gw
def y_HT_times : MethodName := ⟨"HeapTower", "times", "(III)I"⟩
abbrev b_HT_times : ByteArray := prog_1_method_8_code
def w_HT_times : List Cond := .code y_HT_times b_HT_times 4 (some .int) :: gw
def y_Po_moveUp : MethodName := ⟨"HeapTower$Polynomial", "moveUp", "(II)V"⟩
abbrev b_Po_moveUp : ByteArray := prog_5_method_13_code
def w_Po_moveUp : List Cond := .code y_Po_moveUp b_Po_moveUp 4 none :: gw
def y_Ar_fill4 : MethodName := ⟨"java/util/Arrays", "fill", "([IIII)V"⟩
abbrev b_Ar_fill4 : ByteArray := prog_12_method_104_code
def w_Ar_fill4 : List Cond := .code y_Ar_fill4 b_Ar_fill4 5 none :: gw
def y_Ar_rangeCheck : MethodName := ⟨"java/util/Arrays", "rangeCheck", "(III)V"⟩
abbrev b_Ar_rangeCheck : ByteArray := prog_12_method_30_code
def w_Ar_rangeCheck : List Cond := .code y_Ar_rangeCheck b_Ar_rangeCheck 3 none :: gw
def y_Po_movePartUp : MethodName := ⟨"HeapTower$Polynomial", "movePartUp", "(III)V"⟩
abbrev b_Po_movePartUp : ByteArray := prog_5_method_14_code
def w_Po_movePartUp : List Cond := .code y_Po_movePartUp b_Po_movePartUp 6 none :: gw
def y_Pr_together : MethodName := ⟨"HeapTower$Products", "together", "(II)I"⟩
abbrev b_Pr_together : ByteArray := prog_6_method_11_code
def w_Pr_together : List Cond := .code y_Pr_together b_Pr_together 3 (some .int) :: gw
def y_HT_row : MethodName := ⟨"HeapTower", "row", "()I"⟩
abbrev b_HT_row : ByteArray := prog_1_method_9_code
def w_HT_row : List Cond := .code y_HT_row b_HT_row 3 (some .int) :: gw
def y_He_isFull : MethodName := ⟨"HeapTower$Heap", "isFull", "()Z"⟩
abbrev b_He_isFull : ByteArray := prog_3_method_3_code
def w_He_isFull : List Cond := .code y_He_isFull b_He_isFull 1 (some .boolean) :: gw
def y_He_size : MethodName := ⟨"HeapTower$Heap", "size", "()I"⟩
abbrev b_He_size : ByteArray := prog_3_method_2_code
def w_He_size : List Cond := .code y_He_size b_He_size 1 (some .int) :: gw
def y_He_append : MethodName := ⟨"HeapTower$Heap", "append", "(LHeapTower$Polynomial;I)V"⟩
abbrev b_He_append : ByteArray := prog_3_method_9_code
def w_He_append : List Cond := .code y_He_append b_He_append 3 none :: gw
def y_Po_loadPart : MethodName := ⟨"HeapTower$Polynomial", "loadPart", "(I[I)V"⟩
abbrev b_Po_loadPart : ByteArray := prog_5_method_11_code
def w_Po_loadPart : List Cond := .code y_Po_loadPart b_Po_loadPart 4 none :: gw
def y_HT_heapChanged : MethodName := ⟨"HeapTower", "heapChanged", "(I)V"⟩
abbrev b_HT_heapChanged : ByteArray := prog_1_method_28_code
def w_HT_heapChanged : List Cond := .code y_HT_heapChanged b_HT_heapChanged 2 none :: gw
def y_HT_drop : MethodName := ⟨"HeapTower", "drop", "()I"⟩
abbrev b_HT_drop : ByteArray := prog_1_method_10_code
def w_HT_drop : List Cond := .code y_HT_drop b_HT_drop 3 (some .int) :: gw
def y_He_degreeOf : MethodName := ⟨"HeapTower$Heap", "degreeOf", "(I)I"⟩
abbrev b_He_degreeOf : ByteArray := prog_3_method_5_code
def w_He_degreeOf : List Cond := .code y_He_degreeOf b_He_degreeOf 2 (some .int) :: gw
def y_He_removeLatest : MethodName := ⟨"HeapTower$Heap", "removeLatest", "()V"⟩
abbrev b_He_removeLatest : ByteArray := prog_3_method_10_code
def w_He_removeLatest : List Cond := .code y_He_removeLatest b_He_removeLatest 1 none :: gw
def y_HT_copy : MethodName := ⟨"HeapTower", "copy", "(I)I"⟩
abbrev b_HT_copy : ByteArray := prog_1_method_11_code
def w_HT_copy : List Cond := .code y_HT_copy b_HT_copy 2 (some .int) :: gw
def y_He_has : MethodName := ⟨"HeapTower$Heap", "has", "(I)Z"⟩
abbrev b_He_has : ByteArray := prog_3_method_4_code
def w_He_has : List Cond := .code y_He_has b_He_has 2 (some .boolean) :: gw
def y_He_load : MethodName := ⟨"HeapTower$Heap", "load", "(I[I)V"⟩
abbrev b_He_load : ByteArray := prog_3_method_12_code
def w_He_load : List Cond := .code y_He_load b_He_load 3 none :: gw
def y_Po_setPart : MethodName := ⟨"HeapTower$Polynomial", "setPart", "(I[I)V"⟩
abbrev b_Po_setPart : ByteArray := prog_5_method_12_code
def w_Po_setPart : List Cond := .code y_Po_setPart b_Po_setPart 4 none :: gw
def y_HT_rest : MethodName := ⟨"HeapTower", "rest", "()I"⟩
abbrev b_HT_rest : ByteArray := prog_1_method_12_code
def w_HT_rest : List Cond := .code y_HT_rest b_HT_rest 4 (some .int) :: gw
def y_He_baseUpTo : MethodName := ⟨"HeapTower$Heap", "baseUpTo", "(I)LHeapTower$Base;"⟩
abbrev b_He_baseUpTo : ByteArray := prog_3_method_14_code
def w_He_baseUpTo : List Cond := .code y_He_baseUpTo b_He_baseUpTo 3 (some (.object "HeapTower$Base")) :: gw
def y_Ba_reached : MethodName := ⟨"HeapTower$Base", "reached", "()I"⟩
abbrev b_Ba_reached : ByteArray := prog_2_method_2_code
def w_Ba_reached : List Cond := .code y_Ba_reached b_Ba_reached 1 (some .int) :: gw
def y_Ba_open : MethodName := ⟨"HeapTower$Base", "open", "(I)V"⟩
abbrev b_Ba_open : ByteArray := prog_2_method_11_code
def w_Ba_open : List Cond := .code y_Ba_open b_Ba_open 2 none :: gw
def y_Ro_begin : MethodName := ⟨"HeapTower$Rows", "begin", "(I)V"⟩
abbrev b_Ro_begin : ByteArray := prog_7_method_2_code
def w_Ro_begin : List Cond := .code y_Ro_begin b_Ro_begin 3 none :: gw
def y_Nu_prime : MethodName := ⟨"HeapTower$Numbers", "prime", "()I"⟩
abbrev b_Nu_prime : ByteArray := prog_4_method_4_code
def w_Nu_prime : List Cond := .code y_Nu_prime b_Nu_prime 1 (some .int) :: gw
def y_Ba_inherit : MethodName := ⟨"HeapTower$Base", "inherit", "(I)V"⟩
abbrev b_Ba_inherit : ByteArray := prog_2_method_16_code
def w_Ba_inherit : List Cond := .code y_Ba_inherit b_Ba_inherit 6 none :: gw
def y_Ba_leaderBelow : MethodName := ⟨"HeapTower$Base", "leaderBelow", "(III)I"⟩
abbrev b_Ba_leaderBelow : ByteArray := prog_2_method_17_code
def w_Ba_leaderBelow : List Cond := .code y_Ba_leaderBelow b_Ba_leaderBelow 4 (some .int) :: gw
def y_Pr_lowered : MethodName := ⟨"HeapTower$Products", "lowered", "(II)I"⟩
abbrev b_Pr_lowered : ByteArray := prog_6_method_13_code
def w_Pr_lowered : List Cond := .code y_Pr_lowered b_Pr_lowered 3 (some .int) :: gw
def y_Ba_offerDifferences : MethodName := ⟨"HeapTower$Base", "offerDifferences", "(I)V"⟩
abbrev b_Ba_offerDifferences : ByteArray := prog_2_method_18_code
def w_Ba_offerDifferences : List Cond := .code y_Ba_offerDifferences b_Ba_offerDifferences 8 none :: gw
def y_Ba_isNews : MethodName := ⟨"HeapTower$Base", "isNews", "(IIII)Z"⟩
abbrev b_Ba_isNews : ByteArray := prog_2_method_19_code
def w_Ba_isNews : List Cond := .code y_Ba_isNews b_Ba_isNews 9 (some .boolean) :: gw
def y_Ma_min : MethodName := ⟨"java/lang/Math", "min", "(II)I"⟩
abbrev b_Ma_min : ByteArray := prog_10_method_69_code
def w_Ma_min : List Cond := .code y_Ma_min b_Ma_min 2 (some .int) :: gw
def y_Ba_offerMoved : MethodName := ⟨"HeapTower$Base", "offerMoved", "(III)V"⟩
abbrev b_Ba_offerMoved : ByteArray := prog_2_method_20_code
def w_Ba_offerMoved : List Cond := .code y_Ba_offerMoved b_Ba_offerMoved 4 none :: gw
def y_Ba_addMoved : MethodName := ⟨"HeapTower$Base", "addMoved", "([IIII)V"⟩
abbrev b_Ba_addMoved : ByteArray := prog_2_method_15_code
def w_Ba_addMoved : List Cond := .code y_Ba_addMoved b_Ba_addMoved 15 none :: gw
def y_Ba_reduce : MethodName := ⟨"HeapTower$Base", "reduce", "(I[I)V"⟩
abbrev b_Ba_reduce : ByteArray := prog_2_method_14_code
def w_Ba_reduce : List Cond := .code y_Ba_reduce b_Ba_reduce 6 none :: gw
def y_Ro_add : MethodName := ⟨"HeapTower$Rows", "add", "([I)Z"⟩
abbrev b_Ro_add : ByteArray := prog_7_method_6_code
def w_Ro_add : List Cond := .code y_Ro_add b_Ro_add 6 (some .boolean) :: gw
def y_Ro_subtract : MethodName := ⟨"HeapTower$Rows", "subtract", "([II[I)V"⟩
abbrev b_Ro_subtract : ByteArray := prog_7_method_7_code
def w_Ro_subtract : List Cond := .code y_Ro_subtract b_Ro_subtract 6 none :: gw
def y_Nu_inverse : MethodName := ⟨"HeapTower$Numbers", "inverse", "(I)I"⟩
abbrev b_Nu_inverse : ByteArray := prog_4_method_6_code
def w_Nu_inverse : List Cond := .code y_Nu_inverse b_Nu_inverse 2 (some .int) :: gw
def y_He_offerRows : MethodName := ⟨"HeapTower$Heap", "offerRows", "(LHeapTower$Base;I)V"⟩
abbrev b_He_offerRows : ByteArray := prog_3_method_13_code
def w_He_offerRows : List Cond := .code y_He_offerRows b_He_offerRows 4 none :: gw
def y_Ba_offer : MethodName := ⟨"HeapTower$Base", "offer", "(I[I)V"⟩
abbrev b_Ba_offer : ByteArray := prog_2_method_12_code
def w_Ba_offer : List Cond := .code y_Ba_offer b_Ba_offer 3 none :: gw
def y_Ba_close : MethodName := ⟨"HeapTower$Base", "close", "(I)V"⟩
abbrev b_Ba_close : ByteArray := prog_2_method_13_code
def w_Ba_close : List Cond := .code y_Ba_close b_Ba_close 4 none :: gw
def y_Ro_hasHead : MethodName := ⟨"HeapTower$Rows", "hasHead", "(I)Z"⟩
abbrev b_Ro_hasHead : ByteArray := prog_7_method_4_code
def w_Ro_hasHead : List Cond := .code y_Ro_hasHead b_Ro_hasHead 2 (some .boolean) :: gw
def y_Ba_append : MethodName := ⟨"HeapTower$Base", "append", "(II)V"⟩
abbrev b_Ba_append : ByteArray := prog_2_method_21_code
def w_Ba_append : List Cond := .code y_Ba_append b_Ba_append 7 none :: gw
def y_Ro_numberAt : MethodName := ⟨"HeapTower$Rows", "numberAt", "(II)I"⟩
abbrev b_Ro_numberAt : ByteArray := prog_7_method_5_code
def w_Ro_numberAt : List Cond := .code y_Ro_numberAt b_Ro_numberAt 3 (some .int) :: gw
def y_Ba_isStandard : MethodName := ⟨"HeapTower$Base", "isStandard", "(II)Z"⟩
abbrev b_Ba_isStandard : ByteArray := prog_2_method_7_code
def w_Ba_isStandard : List Cond := .code y_Ba_isStandard b_Ba_isStandard 3 (some .boolean) :: gw
def y_HT_loadRestOfDraft : MethodName := ⟨"HeapTower", "loadRestOfDraft", "(LHeapTower$Base;I)Z"⟩
abbrev b_HT_loadRestOfDraft : ByteArray := prog_1_method_33_code
def w_HT_loadRestOfDraft : List Cond := .code y_HT_loadRestOfDraft b_HT_loadRestOfDraft 3 (some .boolean) :: gw
def y_Pr_isZero : MethodName := ⟨"HeapTower$Products", "isZero", "(I[I)Z"⟩
abbrev b_Pr_isZero : ByteArray := prog_6_method_14_code
def w_Pr_isZero : List Cond := .code y_Pr_isZero b_Pr_isZero 4 (some .boolean) :: gw
def y_HT_in : MethodName := ⟨"HeapTower", "in", "()I"⟩
abbrev b_HT_in : ByteArray := prog_1_method_13_code
def w_HT_in : List Cond := .code y_HT_in b_HT_in 4 (some .int) :: gw
def y_HT_base : MethodName := ⟨"HeapTower", "base", "(I)I"⟩
abbrev b_HT_base : ByteArray := prog_1_method_14_code
def w_HT_base : List Cond := .code y_HT_base b_HT_base 2 (some .int) :: gw
def y_Ba_sizeUpTo : MethodName := ⟨"HeapTower$Base", "sizeUpTo", "(I)I"⟩
abbrev b_Ba_sizeUpTo : ByteArray := prog_2_method_4_code
def w_Ba_sizeUpTo : List Cond := .code y_Ba_sizeUpTo b_Ba_sizeUpTo 2 (some .int) :: gw
def y_HT_element : MethodName := ⟨"HeapTower", "element", "(I)I"⟩
abbrev b_HT_element : ByteArray := prog_1_method_15_code
def w_HT_element : List Cond := .code y_HT_element b_HT_element 3 (some .int) :: gw
def y_Ba_loadElement : MethodName := ⟨"HeapTower$Base", "loadElement", "(I[I)V"⟩
abbrev b_Ba_loadElement : ByteArray := prog_2_method_10_code
def w_Ba_loadElement : List Cond := .code y_Ba_loadElement b_Ba_loadElement 4 none :: gw
def y_Ba_degreeOf : MethodName := ⟨"HeapTower$Base", "degreeOf", "(I)I"⟩
abbrev b_Ba_degreeOf : ByteArray := prog_2_method_9_code
def w_Ba_degreeOf : List Cond := .code y_Ba_degreeOf b_Ba_degreeOf 2 (some .int) :: gw
def y_HT_count : MethodName := ⟨"HeapTower", "count", "(I)I"⟩
abbrev b_HT_count : ByteArray := prog_1_method_16_code
def w_HT_count : List Cond := .code y_HT_count b_HT_count 2 (some .int) :: gw
def y_Ba_standardCount : MethodName := ⟨"HeapTower$Base", "standardCount", "(I)I"⟩
abbrev b_Ba_standardCount : ByteArray := prog_2_method_5_code
def w_Ba_standardCount : List Cond := .code y_Ba_standardCount b_Ba_standardCount 2 (some .int) :: gw
def y_HT_free : MethodName := ⟨"HeapTower", "free", "(II)I"⟩
abbrev b_HT_free : ByteArray := prog_1_method_17_code
def w_HT_free : List Cond := .code y_HT_free b_HT_free 4 (some .int) :: gw
def y_HT_freeAtGround : MethodName := ⟨"HeapTower", "freeAtGround", "(I)I"⟩
abbrev b_HT_freeAtGround : ByteArray := prog_1_method_42_code
def w_HT_freeAtGround : List Cond := .code y_HT_freeAtGround b_HT_freeAtGround 2 (some .int) :: gw
def y_Ba_neededRows : MethodName := ⟨"HeapTower$Base", "neededRows", "(I)I"⟩
abbrev b_Ba_neededRows : ByteArray := prog_2_method_8_code
def w_Ba_neededRows : List Cond := .code y_Ba_neededRows b_Ba_neededRows 2 (some .int) :: gw
def y_HT_freeAtSecond : MethodName := ⟨"HeapTower", "freeAtSecond", "(LHeapTower$Base;I)I"⟩
abbrev b_HT_freeAtSecond : ByteArray := prog_1_method_43_code
def w_HT_freeAtSecond : List Cond := .code y_HT_freeAtSecond b_HT_freeAtSecond 5 (some .int) :: gw
def y_HT_freeAtThird : MethodName := ⟨"HeapTower", "freeAtThird", "(LHeapTower$Base;I)I"⟩
abbrev b_HT_freeAtThird : ByteArray := prog_1_method_45_code
def w_HT_freeAtThird : List Cond := .code y_HT_freeAtThird b_HT_freeAtThird 7 (some .int) :: gw
def y_Ro_size : MethodName := ⟨"HeapTower$Rows", "size", "()I"⟩
abbrev b_Ro_size : ByteArray := prog_7_method_3_code
def w_Ro_size : List Cond := .code y_Ro_size b_Ro_size 1 (some .int) :: gw
def y_HT_loadImages : MethodName := ⟨"HeapTower", "loadImages", "(LHeapTower$Base;II)V"⟩
abbrev b_HT_loadImages : ByteArray := prog_1_method_46_code
def w_HT_loadImages : List Cond := .code y_HT_loadImages b_HT_loadImages 8 none :: gw
def y_Pr_raised : MethodName := ⟨"HeapTower$Products", "raised", "(II)I"⟩
abbrev b_Pr_raised : ByteArray := prog_6_method_12_code
def w_Pr_raised : List Cond := .code y_Pr_raised b_Pr_raised 3 (some .int) :: gw
def y_HT_signedChains : MethodName := ⟨"HeapTower", "signedChains", "(LHeapTower$Base;II)I"⟩
abbrev b_HT_signedChains : ByteArray := prog_1_method_44_code
def w_HT_signedChains : List Cond := .code y_HT_signedChains b_HT_signedChains 7 (some .int) :: gw
def y_HT_quotient : MethodName := ⟨"HeapTower", "quotient", "(I)I"⟩
abbrev b_HT_quotient : ByteArray := prog_1_method_18_code
def w_HT_quotient : List Cond := .code y_HT_quotient b_HT_quotient 4 (some .int) :: gw
def y_HT_quotientBaseUpTo : MethodName := ⟨"HeapTower", "quotientBaseUpTo", "(II)LHeapTower$Base;"⟩
abbrev b_HT_quotientBaseUpTo : ByteArray := prog_1_method_40_code
def w_HT_quotientBaseUpTo : List Cond := .code y_HT_quotientBaseUpTo b_HT_quotientBaseUpTo 4 (some (.object "HeapTower$Base")) :: gw
def y_HT_regular : MethodName := ⟨"HeapTower", "regular", "()I"⟩
abbrev b_HT_regular : ByteArray := prog_1_method_19_code
def w_HT_regular : List Cond := .code y_HT_regular b_HT_regular 5 (some .int) :: gw
def y_HT_keep : MethodName := ⟨"HeapTower", "keep", "()I"⟩
abbrev b_HT_keep : ByteArray := prog_1_method_20_code
def w_HT_keep : List Cond := .code y_HT_keep b_HT_keep 2 (some .int) :: gw
def y_He_become : MethodName := ⟨"HeapTower$Heap", "become", "(LHeapTower$Heap;)V"⟩
abbrev b_He_become : ByteArray := prog_3_method_11_code
def w_He_become : List Cond := .code y_He_become b_He_become 3 none :: gw
def y_HT_swap : MethodName := ⟨"HeapTower", "swap", "()I"⟩
abbrev b_HT_swap : ByteArray := prog_1_method_21_code
def w_HT_swap : List Cond := .code y_HT_swap b_HT_swap 2 (some .int) :: gw
def y_HT_dimension : MethodName := ⟨"HeapTower", "dimension", "(II)I"⟩
abbrev b_HT_dimension : ByteArray := prog_1_method_22_code
def w_HT_dimension : List Cond := .code y_HT_dimension b_HT_dimension 3 (some .int) :: gw
def y_Ba_leadingCount : MethodName := ⟨"HeapTower$Base", "leadingCount", "(I)I"⟩
abbrev b_Ba_leadingCount : ByteArray := prog_2_method_6_code
def w_Ba_leadingCount : List Cond := .code y_Ba_leadingCount b_Ba_leadingCount 2 (some .int) :: gw
def y_HT_sumBaseUpTo : MethodName := ⟨"HeapTower", "sumBaseUpTo", "(I)LHeapTower$Base;"⟩
abbrev b_HT_sumBaseUpTo : ByteArray := prog_1_method_36_code
def w_HT_sumBaseUpTo : List Cond := .code y_HT_sumBaseUpTo b_HT_sumBaseUpTo 3 (some (.object "HeapTower$Base")) :: gw
def y_HT_productBaseUpTo : MethodName := ⟨"HeapTower", "productBaseUpTo", "(I)LHeapTower$Base;"⟩
abbrev b_HT_productBaseUpTo : ByteArray := prog_1_method_37_code
def w_HT_productBaseUpTo : List Cond := .code y_HT_productBaseUpTo b_HT_productBaseUpTo 3 (some (.object "HeapTower$Base")) :: gw
def y_HT_offerRowProducts : MethodName := ⟨"HeapTower", "offerRowProducts", "(I)V"⟩
abbrev b_HT_offerRowProducts : ByteArray := prog_1_method_38_code
def w_HT_offerRowProducts : List Cond := .code y_HT_offerRowProducts b_HT_offerRowProducts 4 none :: gw
def y_HT_loadRowProduct : MethodName := ⟨"HeapTower", "loadRowProduct", "(II)V"⟩
abbrev b_HT_loadRowProduct : ByteArray := prog_1_method_39_code
def w_HT_loadRowProduct : List Cond := .code y_HT_loadRowProduct b_HT_loadRowProduct 11 none :: gw
def y_He_numbersOf : MethodName := ⟨"HeapTower$Heap", "numbersOf", "(I)[I"⟩
abbrev b_He_numbersOf : ByteArray := prog_3_method_6_code
def w_He_numbersOf : List Cond := .code y_He_numbersOf b_He_numbersOf 2 (some (.array .int)) :: gw
def y_HT_parts : MethodName := ⟨"HeapTower", "parts", "()I"⟩
abbrev b_HT_parts : ByteArray := prog_1_method_23_code
def w_HT_parts : List Cond := .code y_HT_parts b_HT_parts 2 (some .int) :: gw
def y_HT_leastOutside : MethodName := ⟨"HeapTower", "leastOutside", "(LHeapTower$Heap;LHeapTower$Base;)I"⟩
abbrev b_HT_leastOutside : ByteArray := prog_1_method_41_code
def w_HT_leastOutside : List Cond := .code y_HT_leastOutside b_HT_leastOutside 6 (some .int) :: gw
def y_HT_claim : MethodName := ⟨"HeapTower", "claim", "(I)I"⟩
abbrev b_HT_claim : ByteArray := prog_1_method_24_code
def w_HT_claim : List Cond := .code y_HT_claim b_HT_claim 2 (some .int) :: gw
def y_Po_become : MethodName := ⟨"HeapTower$Polynomial", "become", "(LHeapTower$Polynomial;)V"⟩
abbrev b_Po_become : ByteArray := prog_5_method_3_code
def w_Po_become : List Cond := .code y_Po_become b_Po_become 2 none :: gw
def y_HT_sum : MethodName := ⟨"HeapTower", "sum", "()I"⟩
abbrev b_HT_sum : ByteArray := prog_1_method_25_code
def w_HT_sum : List Cond := .code y_HT_sum b_HT_sum 2 (some .int) :: gw
def y_HT_addClaimTimesRow : MethodName := ⟨"HeapTower", "addClaimTimesRow", "(I)V"⟩
abbrev b_HT_addClaimTimesRow : ByteArray := prog_1_method_34_code
def w_HT_addClaimTimesRow : List Cond := .code y_HT_addClaimTimesRow b_HT_addClaimTimesRow 7 none :: gw
def y_HT_addWorkToDraft : MethodName := ⟨"HeapTower", "addWorkToDraft", "(IIII)V"⟩
abbrev b_HT_addWorkToDraft : ByteArray := prog_1_method_35_code
def w_HT_addWorkToDraft : List Cond := .code y_HT_addWorkToDraft b_HT_addWorkToDraft 9 none :: gw
def y_HT_told : MethodName := ⟨"HeapTower", "told", "(I)I"⟩
abbrev b_HT_told : ByteArray := prog_1_method_26_code
def w_HT_told : List Cond := .code y_HT_told b_HT_told 2 (some .int) :: gw
def y_Mo_new : MethodName := ⟨"HeapTowerModel", "<init>", "()V"⟩
abbrev b_Mo_new : ByteArray := prog_9_method_1_code
def w_Mo_new : List Cond := .code y_Mo_new b_Mo_new 1 none :: gw
def y_Mo_letters : MethodName := ⟨"HeapTowerModel", "letters", "(II)I"⟩
abbrev b_Mo_letters : ByteArray := prog_9_method_19_code
def w_Mo_letters : List Cond := .code y_Mo_letters b_Mo_letters 4 (some .int) :: gw
def y_Mo_in3 : MethodName := ⟨"HeapTowerModel", "in", "(III)Z"⟩
abbrev b_Mo_in3 : ByteArray := prog_9_method_3_code
def w_Mo_in3 : List Cond := .code y_Mo_in3 b_Mo_in3 3 (some .boolean) :: gw
def y_Mo_isPrime : MethodName := ⟨"HeapTowerModel", "isPrime", "(I)Z"⟩
abbrev b_Mo_isPrime : ByteArray := prog_9_method_18_code
def w_Mo_isPrime : List Cond := .code y_Mo_isPrime b_Mo_isPrime 2 (some .boolean) :: gw
def y_Mo_clear : MethodName := ⟨"HeapTowerModel", "clear", "(I)V"⟩
abbrev b_Mo_clear : ByteArray := prog_9_method_13_code
def w_Mo_clear : List Cond := .code y_Mo_clear b_Mo_clear 3 none :: gw
def y_Mo_put : MethodName := ⟨"HeapTowerModel", "put", "(III)V"⟩
abbrev b_Mo_put : ByteArray := prog_9_method_12_code
def w_Mo_put : List Cond := .code y_Mo_put b_Mo_put 4 none :: gw
def y_Mo_order : MethodName := ⟨"HeapTowerModel", "order", "(I)I"⟩
abbrev b_Mo_order : ByteArray := prog_9_method_20_code
def w_Mo_order : List Cond := .code y_Mo_order b_Mo_order 3 (some .int) :: gw
def y_Mo_term : MethodName := ⟨"HeapTowerModel", "term", "(IIII)I"⟩
abbrev b_Mo_term : ByteArray := prog_9_method_21_code
def w_Mo_term : List Cond := .code y_Mo_term b_Mo_term 6 (some .int) :: gw
def y_Mo_isProduct : MethodName := ⟨"HeapTowerModel", "isProduct", "(III)Z"⟩
abbrev b_Mo_isProduct : ByteArray := prog_9_method_8_code
def w_Mo_isProduct : List Cond := .code y_Mo_isProduct b_Mo_isProduct 4 (some .boolean) :: gw
def y_Mo_powers : MethodName := ⟨"HeapTowerModel", "powers", "(III)I"⟩
abbrev b_Mo_powers : ByteArray := prog_9_method_6_code
def w_Mo_powers : List Cond := .code y_Mo_powers b_Mo_powers 3 (some .int) :: gw
def y_Mo_get : MethodName := ⟨"HeapTowerModel", "get", "(II)I"⟩
abbrev b_Mo_get : ByteArray := prog_9_method_11_code
def w_Mo_get : List Cond := .code y_Mo_get b_Mo_get 3 (some .int) :: gw
def y_Mo_mod : MethodName := ⟨"HeapTowerModel", "mod", "(J)I"⟩
abbrev b_Mo_mod : ByteArray := prog_9_method_4_code
def w_Mo_mod : List Cond := .code y_Mo_mod b_Mo_mod 5 (some .int) :: gw
def y_Mo_number : MethodName := ⟨"HeapTowerModel", "number", "(III)I"⟩
abbrev b_Mo_number : ByteArray := prog_9_method_22_code
def w_Mo_number : List Cond := .code y_Mo_number b_Mo_number 4 (some .int) :: gw
def y_Mo_wipe : MethodName := ⟨"HeapTowerModel", "wipe", "()I"⟩
abbrev b_Mo_wipe : ByteArray := prog_9_method_23_code
def w_Mo_wipe : List Cond := .code y_Mo_wipe b_Mo_wipe 2 (some .int) :: gw
def y_Mo_products : MethodName := ⟨"HeapTowerModel", "products", "(I)I"⟩
abbrev b_Mo_products : ByteArray := prog_9_method_14_code
def w_Mo_products : List Cond := .code y_Mo_products b_Mo_products 4 (some .int) :: gw
def y_Mo_draft : MethodName := ⟨"HeapTowerModel", "draft", "(I)I"⟩
abbrev b_Mo_draft : ByteArray := prog_9_method_24_code
def w_Mo_draft : List Cond := .code y_Mo_draft b_Mo_draft 4 (some .int) :: gw
def y_Mo_degree : MethodName := ⟨"HeapTowerModel", "degree", "(I)I"⟩
abbrev b_Mo_degree : ByteArray := prog_9_method_15_code
def w_Mo_degree : List Cond := .code y_Mo_degree b_Mo_degree 4 (some .int) :: gw
def y_Mo_degreeOf : MethodName := ⟨"HeapTowerModel", "degreeOf", "(I)I"⟩
abbrev b_Mo_degreeOf : ByteArray := prog_9_method_7_code
def w_Mo_degreeOf : List Cond := .code y_Mo_degreeOf b_Mo_degreeOf 1 (some .int) :: gw
def y_Mo_isEven : MethodName := ⟨"HeapTowerModel", "isEven", "(I)Z"⟩
abbrev b_Mo_isEven : ByteArray := prog_9_method_16_code
def w_Mo_isEven : List Cond := .code y_Mo_isEven b_Mo_isEven 4 (some .boolean) :: gw
def y_Mo_isGreater : MethodName := ⟨"HeapTowerModel", "isGreater", "(II)Z"⟩
abbrev b_Mo_isGreater : ByteArray := prog_9_method_10_code
def w_Mo_isGreater : List Cond := .code y_Mo_isGreater b_Mo_isGreater 4 (some .boolean) :: gw
def y_Mo_power : MethodName := ⟨"HeapTowerModel", "power", "(II)I"⟩
abbrev b_Mo_power : ByteArray := prog_9_method_9_code
def w_Mo_power : List Cond := .code y_Mo_power b_Mo_power 3 (some .int) :: gw
def y_Mo_times : MethodName := ⟨"HeapTowerModel", "times", "(III)I"⟩
abbrev b_Mo_times : ByteArray := prog_9_method_25_code
def w_Mo_times : List Cond := .code y_Mo_times b_Mo_times 5 (some .int) :: gw
def y_Mo_move : MethodName := ⟨"HeapTowerModel", "move", "(II)V"⟩
abbrev b_Mo_move : ByteArray := prog_9_method_17_code
def w_Mo_move : List Cond := .code y_Mo_move b_Mo_move 4 none :: gw
def y_Mo_row : MethodName := ⟨"HeapTowerModel", "row", "()I"⟩
abbrev b_Mo_row : ByteArray := prog_9_method_26_code
def w_Mo_row : List Cond := .code y_Mo_row b_Mo_row 2 (some .int) :: gw
def y_Mo_drop : MethodName := ⟨"HeapTowerModel", "drop", "()I"⟩
abbrev b_Mo_drop : ByteArray := prog_9_method_27_code
def w_Mo_drop : List Cond := .code y_Mo_drop b_Mo_drop 1 (some .int) :: gw
def y_Mo_copy : MethodName := ⟨"HeapTowerModel", "copy", "(I)I"⟩
abbrev b_Mo_copy : ByteArray := prog_9_method_28_code
def w_Mo_copy : List Cond := .code y_Mo_copy b_Mo_copy 2 (some .int) :: gw
def y_Mo_rest : MethodName := ⟨"HeapTowerModel", "rest", "()I"⟩
abbrev b_Mo_rest : ByteArray := prog_9_method_36_code
def w_Mo_rest : List Cond := .code y_Mo_rest b_Mo_rest 3 (some .int) :: gw
def y_Mo_heap : MethodName := ⟨"HeapTowerModel", "heap", "(I)V"⟩
abbrev b_Mo_heap : ByteArray := prog_9_method_34_code
def w_Mo_heap : List Cond := .code y_Mo_heap b_Mo_heap 3 none :: gw
def y_Mo_begin : MethodName := ⟨"HeapTowerModel", "begin", "(I)V"⟩
abbrev b_Mo_begin : ByteArray := prog_9_method_30_code
def w_Mo_begin : List Cond := .code y_Mo_begin b_Mo_begin 3 none :: gw
def y_Mo_take : MethodName := ⟨"HeapTowerModel", "take", "(I)V"⟩
abbrev b_Mo_take : ByteArray := prog_9_method_29_code
def w_Mo_take : List Cond := .code y_Mo_take b_Mo_take 7 none :: gw
def y_Mo_spread : MethodName := ⟨"HeapTowerModel", "spread", "(II)V"⟩
abbrev b_Mo_spread : ByteArray := prog_9_method_33_code
def w_Mo_spread : List Cond := .code y_Mo_spread b_Mo_spread 8 none :: gw
def y_Mo_enter : MethodName := ⟨"HeapTowerModel", "enter", "()V"⟩
abbrev b_Mo_enter : ByteArray := prog_9_method_31_code
def w_Mo_enter : List Cond := .code y_Mo_enter b_Mo_enter 6 none :: gw
def y_Mo_less : MethodName := ⟨"HeapTowerModel", "less", "(II)V"⟩
abbrev b_Mo_less : ByteArray := prog_9_method_32_code
def w_Mo_less : List Cond := .code y_Mo_less b_Mo_less 4 none :: gw
def y_Mo_inverse : MethodName := ⟨"HeapTowerModel", "inverse", "(I)I"⟩
abbrev b_Mo_inverse : ByteArray := prog_9_method_5_code
def w_Mo_inverse : List Cond := .code y_Mo_inverse b_Mo_inverse 3 (some .int) :: gw
def y_Mo_in0 : MethodName := ⟨"HeapTowerModel", "in", "()I"⟩
abbrev b_Mo_in0 : ByteArray := prog_9_method_37_code
def w_Mo_in0 : List Cond := .code y_Mo_in0 b_Mo_in0 3 (some .int) :: gw
def y_Mo_base : MethodName := ⟨"HeapTowerModel", "base", "(I)I"⟩
abbrev b_Mo_base : ByteArray := prog_9_method_40_code
def w_Mo_base : List Cond := .code y_Mo_base b_Mo_base 2 (some .int) :: gw
def y_Mo_bases : MethodName := ⟨"HeapTowerModel", "bases", "(II)I"⟩
abbrev b_Mo_bases : ByteArray := prog_9_method_39_code
def w_Mo_bases : List Cond := .code y_Mo_bases b_Mo_bases 8 (some .int) :: gw
def y_Mo_divides : MethodName := ⟨"HeapTowerModel", "divides", "(II)Z"⟩
abbrev b_Mo_divides : ByteArray := prog_9_method_38_code
def w_Mo_divides : List Cond := .code y_Mo_divides b_Mo_divides 3 (some .boolean) :: gw
def y_Mo_element : MethodName := ⟨"HeapTowerModel", "element", "(I)I"⟩
abbrev b_Mo_element : ByteArray := prog_9_method_41_code
def w_Mo_element : List Cond := .code y_Mo_element b_Mo_element 3 (some .int) :: gw
def y_Mo_count : MethodName := ⟨"HeapTowerModel", "count", "(I)I"⟩
abbrev b_Mo_count : ByteArray := prog_9_method_42_code
def w_Mo_count : List Cond := .code y_Mo_count b_Mo_count 2 (some .int) :: gw
def y_Mo_free : MethodName := ⟨"HeapTowerModel", "free", "(II)I"⟩
abbrev b_Mo_free : ByteArray := prog_9_method_51_code
def w_Mo_free : List Cond := .code y_Mo_free b_Mo_free 3 (some .int) :: gw
def y_Mo_chains : MethodName := ⟨"HeapTowerModel", "chains", "(II)I"⟩
abbrev b_Mo_chains : ByteArray := prog_9_method_48_code
def w_Mo_chains : List Cond := .code y_Mo_chains b_Mo_chains 3 (some .int) :: gw
def y_Mo_setsOf : MethodName := ⟨"HeapTowerModel", "setsOf", "(I)I"⟩
abbrev b_Mo_setsOf : ByteArray := prog_9_method_46_code
def w_Mo_setsOf : List Cond := .code y_Mo_setsOf b_Mo_setsOf 4 (some .int) :: gw
def y_Mo_ones : MethodName := ⟨"HeapTowerModel", "ones", "(I)I"⟩
abbrev b_Mo_ones : ByteArray := prog_9_method_45_code
def w_Mo_ones : List Cond := .code y_Mo_ones b_Mo_ones 1 (some .int) :: gw
def y_Mo_steps : MethodName := ⟨"HeapTowerModel", "steps", "(II)I"⟩
abbrev b_Mo_steps : ByteArray := prog_9_method_49_code
def w_Mo_steps : List Cond := .code y_Mo_steps b_Mo_steps 14 (some .int) :: gw
def y_Mo_takeStandard : MethodName := ⟨"HeapTowerModel", "takeStandard", "(I)V"⟩
abbrev b_Mo_takeStandard : ByteArray := prog_9_method_44_code
def w_Mo_takeStandard : List Cond := .code y_Mo_takeStandard b_Mo_takeStandard 3 none :: gw
def y_Mo_place : MethodName := ⟨"HeapTowerModel", "place", "(I)I"⟩
abbrev b_Mo_place : ByteArray := prog_9_method_47_code
def w_Mo_place : List Cond := .code y_Mo_place b_Mo_place 4 (some .int) :: gw
def y_Mo_product : MethodName := ⟨"HeapTowerModel", "product", "(IIZ)V"⟩
abbrev b_Mo_product : ByteArray := prog_9_method_50_code
def w_Mo_product : List Cond := .code y_Mo_product b_Mo_product 7 none :: gw
def y_Mo_rankOf : MethodName := ⟨"HeapTowerModel", "rankOf", "(II)I"⟩
abbrev b_Mo_rankOf : ByteArray := prog_9_method_43_code
def w_Mo_rankOf : List Cond := .code y_Mo_rankOf b_Mo_rankOf 10 (some .int) :: gw
def y_Mo_quotient : MethodName := ⟨"HeapTowerModel", "quotient", "(I)I"⟩
abbrev b_Mo_quotient : ByteArray := prog_9_method_54_code
def w_Mo_quotient : List Cond := .code y_Mo_quotient b_Mo_quotient 2 (some .int) :: gw
def y_Mo_mayAsk : MethodName := ⟨"HeapTowerModel", "mayAsk", "()Z"⟩
abbrev b_Mo_mayAsk : ByteArray := prog_9_method_53_code
def w_Mo_mayAsk : List Cond := .code y_Mo_mayAsk b_Mo_mayAsk 1 (some .boolean) :: gw
def y_Mo_quotientOf : MethodName := ⟨"HeapTowerModel", "quotientOf", "(I)I"⟩
abbrev b_Mo_quotientOf : ByteArray := prog_9_method_52_code
def w_Mo_quotientOf : List Cond := .code y_Mo_quotientOf b_Mo_quotientOf 7 (some .int) :: gw
def y_Mo_regular : MethodName := ⟨"HeapTowerModel", "regular", "()I"⟩
abbrev b_Mo_regular : ByteArray := prog_9_method_55_code
def w_Mo_regular : List Cond := .code y_Mo_regular b_Mo_regular 3 (some .int) :: gw
def y_Mo_keep : MethodName := ⟨"HeapTowerModel", "keep", "()I"⟩
abbrev b_Mo_keep : ByteArray := prog_9_method_56_code
def w_Mo_keep : List Cond := .code y_Mo_keep b_Mo_keep 3 (some .int) :: gw
def y_Mo_swap : MethodName := ⟨"HeapTowerModel", "swap", "()I"⟩
abbrev b_Mo_swap : ByteArray := prog_9_method_57_code
def w_Mo_swap : List Cond := .code y_Mo_swap b_Mo_swap 2 (some .int) :: gw
def y_Mo_dimension : MethodName := ⟨"HeapTowerModel", "dimension", "(II)I"⟩
abbrev b_Mo_dimension : ByteArray := prog_9_method_61_code
def w_Mo_dimension : List Cond := .code y_Mo_dimension b_Mo_dimension 3 (some .int) :: gw
def y_Mo_dimensionOf : MethodName := ⟨"HeapTowerModel", "dimensionOf", "(II)I"⟩
abbrev b_Mo_dimensionOf : ByteArray := prog_9_method_58_code
def w_Mo_dimensionOf : List Cond := .code y_Mo_dimensionOf b_Mo_dimensionOf 5 (some .int) :: gw
def y_Mo_addOther : MethodName := ⟨"HeapTowerModel", "addOther", "(I)V"⟩
abbrev b_Mo_addOther : ByteArray := prog_9_method_35_code
def w_Mo_addOther : List Cond := .code y_Mo_addOther b_Mo_addOther 3 none :: gw
def y_Mo_dimensionOf3 : MethodName := ⟨"HeapTowerModel", "dimensionOf3", "(I)I"⟩
abbrev b_Mo_dimensionOf3 : ByteArray := prog_9_method_59_code
def w_Mo_dimensionOf3 : List Cond := .code y_Mo_dimensionOf3 b_Mo_dimensionOf3 4 (some .int) :: gw
def y_Mo_multiply : MethodName := ⟨"HeapTowerModel", "multiply", "(III)V"⟩
abbrev b_Mo_multiply : ByteArray := prog_9_method_60_code
def w_Mo_multiply : List Cond := .code y_Mo_multiply b_Mo_multiply 6 none :: gw
def y_Mo_parts : MethodName := ⟨"HeapTowerModel", "parts", "()I"⟩
abbrev b_Mo_parts : ByteArray := prog_9_method_62_code
def w_Mo_parts : List Cond := .code y_Mo_parts b_Mo_parts 3 (some .int) :: gw
def y_Mo_claim : MethodName := ⟨"HeapTowerModel", "claim", "(I)I"⟩
abbrev b_Mo_claim : ByteArray := prog_9_method_63_code
def w_Mo_claim : List Cond := .code y_Mo_claim b_Mo_claim 2 (some .int) :: gw
def y_Mo_sum : MethodName := ⟨"HeapTowerModel", "sum", "()I"⟩
abbrev b_Mo_sum : ByteArray := prog_9_method_64_code
def w_Mo_sum : List Cond := .code y_Mo_sum b_Mo_sum 3 (some .int) :: gw
def y_Mo_told : MethodName := ⟨"HeapTowerModel", "told", "(I)I"⟩
abbrev b_Mo_told : ByteArray := prog_9_method_65_code
def w_Mo_told : List Cond := .code y_Mo_told b_Mo_told 2 (some .int) :: gw
end
section
/-! THE MACHINE OVER A MEMORY OF NUMBERED CELLS: kinds and lengths, numbers, references, how many cells -/
theorem gw_in {w : Cond} (h : w ∈ lw_tbl) (g : goodWord w = true) : w ∈ gw := List.mem_filter.mpr ⟨h, g⟩
theorem gw_good : ∀ w ∈ gw, goodWord w = true := fun _ h => (List.mem_filter.mp h).2
theorem gw_tbl : ∀ w ∈ gw, w ∈ lw_tbl := fun _ h => (List.mem_filter.mp h).1
abbrev Mem : Type := (Nat → Nat × Nat) × (Nat → Nat → Int32) × (Nat → Nat → Option Nat) × Nat
def kd (M : Mem) (c : Nat) : Nat := (M.1 c).1
def ln (M : Mem) (c : Nat) : Nat := (M.1 c).2
def gI (M : Mem) (c k : Nat) : Int32 := M.2.1 c k
def gR (M : Mem) (c k : Nat) : Option Nat := M.2.2.1 c k
def nC (M : Mem) : Nat := M.2.2.2
def sI (M : Mem) (c k : Nat) (v : Int32) : Mem := (M.1, fun a => if a = c then upd (M.2.1 c) k v else M.2.1 a, M.2.2)
def sA (M : Mem) (c : Nat) (f : Nat → Int32) : Mem := (M.1, fun a => if a = c then f else M.2.1 a, M.2.2)
def sR (M : Mem) (c k : Nat) (v : Option Nat) : Mem := (M.1, M.2.1, fun a => if a = c then va_up (M.2.2.1 c) k v else M.2.2.1 a, M.2.2.2)
/-- cell c is there, of kind k -/
def isK (M : Mem) (c k : Nat) : Prop := c < nC M ∧ kd M c = k
/-- cell c is an array of kind k, i lies within -/
def isA (M : Mem) (c k : Nat) (i : Int32) : Prop := (c < nC M ∧ kd M c = k) ∧ vp_in i (ln M c)
/-- the fields of an object: numbers and references by their table -/
def fls (b : List Bool) (B : Nat) (f : Nat → Int32) (g : Nat → Option Nat) : List Value := (List.range b.length).map (fun k => if b.getD k false = true then .int (f k) else va_rf ((g k).map (B + ·)))
def cellE (B : Nat) (ac : Nat → ClassId) (M : Mem) (c : Nat) : va_E :=
  if kd M c < 8 then .inr (kd M c, fls (fB (kd M c)) B (gI M c) (gR M c))
  else if kd M c < 10 then .inl (ac (kd M c), (ln M c, .inl (gI M c)))
  else .inl (ac (kd M c), (ln M c, .inr (.inr (.inr (.inr (fun j => (gR M c j).map (B + ·)))))))
def wsM (B : Nat) (ac : Nat → ClassId) (M : Mem) : va_W := (List.range (nC M)).map (fun c => (B + c, cellE B ac M c))
def AB (B : Nat) : Nat → Prop := fun q => B ≤ q
def tysA (ac : Nat → ClassId) : List (ClassId × FieldType) := [(ac 8, .int), (ac 9, .boolean), (ac 10, .object "HeapTower$Polynomial"), (ac 11, .array .int)]
theorem ws_get {B : Nat} {ac : Nat → ClassId} {M : Mem} {c : Nat} (h : c < nC M) : (wsM B ac M)[c]? = some (B + c, cellE B ac M c) := by
  simp [wsM, h]
theorem ws_set {B : Nat} {ac : Nat → ClassId} {M M' : Mem} {c : Nat} {e : va_E} (h : c < nC M) (hn : nC M' = nC M) (he : cellE B ac M' c = e) (ho : ∀ d, d ≠ c → cellE B ac M' d = cellE B ac M d) : (wsM B ac M).set c (B + c, e) = wsM B ac M' := by
  apply List.ext_getElem?
  intro i
  by_cases hi : i = c
  · subst hi
    rw [List.getElem?_set_self (by simp [wsM, h]), ws_get (by rw [hn]; exact h), he]
  · rw [List.getElem?_set_ne (Ne.symm hi)]
    by_cases hl : i < nC M
    · rw [ws_get hl, ws_get (by rw [hn]; exact hl), ho i hi]
    · simp [wsM, hn, hl]
theorem ws_D (B : Nat) (ac : Nat → ClassId) (M : Mem) : va_D (AB B) (wsM B ac M) := by
  have key : ∀ (i : Nat) (p : Nat × va_E), (wsM B ac M)[i]? = some p → p.1 = B + i := by
    intro i p h
    by_cases hl : i < nC M
    · rw [ws_get hl] at h; cases h; rfl
    · simp [wsM, hl] at h
  refine ⟨fun i j p q hi hj e => ?_, fun k q hk => ?_⟩
  · have h1 := key i p hi
    have h2 := key j q hj
    omega
  · show B ≤ q.1
    rw [key k q hk]; omega
theorem fls_len (b : List Bool) (B : Nat) (f : Nat → Int32) (g : Nat → Option Nat) : (fls b B f g).length = b.length := by simp [fls]
theorem fls_I {b : List Bool} {B k : Nat} {f : Nat → Int32} {g : Nat → Option Nat} (h : b[k]? = some true) : (fls b B f g)[k]? = some (.int (f k)) := by
  obtain ⟨hk, he⟩ := List.getElem?_eq_some_iff.mp h
  simp [fls, hk, he]
theorem fls_R {b : List Bool} {B k : Nat} {f : Nat → Int32} {g : Nat → Option Nat} (h : b[k]? = some false) : (fls b B f g)[k]? = some (va_rf ((g k).map (B + ·))) := by
  obtain ⟨hk, he⟩ := List.getElem?_eq_some_iff.mp h
  simp [fls, hk, he]
theorem fls_sI {b : List Bool} {B k : Nat} {f : Nat → Int32} {g : Nat → Option Nat} {v : Int32} (h : b[k]? = some true) : (fls b B f g).set k (.int v) = fls b B (upd f k v) g := by
  obtain ⟨hk, he⟩ := List.getElem?_eq_some_iff.mp h
  apply List.ext_getElem?
  intro i
  by_cases hi : i = k
  · subst hi
    rw [List.getElem?_set_self (by rw [fls_len]; exact hk), fls_I h]
    simp [upd]
  · rw [List.getElem?_set_ne (Ne.symm hi)]
    by_cases hl : i < b.length
    · simp [fls, hl, upd, hi]
    · simp [fls, hl]
theorem fls_sR {b : List Bool} {B k : Nat} {f : Nat → Int32} {g : Nat → Option Nat} {v : Option Nat} (h : b[k]? = some false) : (fls b B f g).set k (va_rf (v.map (B + ·))) = fls b B f (va_up g k v) := by
  obtain ⟨hk, he⟩ := List.getElem?_eq_some_iff.mp h
  apply List.ext_getElem?
  intro i
  by_cases hi : i = k
  · subst hi
    rw [List.getElem?_set_self (by rw [fls_len]; exact hk), fls_R h]
    simp [va_up]
  · rw [List.getElem?_set_ne (Ne.symm hi)]
    by_cases hl : i < b.length
    · simp [fls, hl, va_up, hi]
    · simp [fls, hl]
theorem cE_o {B : Nat} {ac : Nat → ClassId} {M : Mem} {c k : Nat} (h : kd M c = k) (hk : k < 8) : cellE B ac M c = .inr (k, fls (fB k) B (gI M c) (gR M c)) := by
  subst h; simp [cellE, hk]
theorem cE_i {B : Nat} {ac : Nat → ClassId} {M : Mem} {c k : Nat} (h : kd M c = k) (h1 : 8 ≤ k) (h2 : k < 10) : cellE B ac M c = .inl (ac k, (ln M c, .inl (gI M c))) := by
  subst h; simp [cellE, Nat.not_lt.mpr h1, h2]
theorem cE_r {B : Nat} {ac : Nat → ClassId} {M : Mem} {c k : Nat} (h : kd M c = k) (h1 : 10 ≤ k) : cellE B ac M c = .inl (ac k, (ln M c, .inr (.inr (.inr (.inr (fun j => (gR M c j).map (B + ·))))))) := by
  subst h; simp [cellE, Nat.not_lt.mpr h1, Nat.not_lt.mpr (Nat.le_trans (by decide : 8 ≤ 10) h1)]
theorem kd_sI (M : Mem) (c k : Nat) (v : Int32) (d : Nat) : kd (sI M c k v) d = kd M d := rfl
theorem nC_sI (M : Mem) (c k : Nat) (v : Int32) : nC (sI M c k v) = nC M := rfl
theorem sI_ws {B : Nat} {ac : Nat → ClassId} {M : Mem} {c k : Nat} {v : Int32} {d : Nat} (h : d ≠ c) : cellE B ac (sI M c k v) d = cellE B ac M d := by
  have e : gI (sI M c k v) d = gI M d := by funext j; simp [gI, sI, h]
  simp only [cellE, kd_sI, e]; rfl
theorem sR_ws {B : Nat} {ac : Nat → ClassId} {M : Mem} {c k : Nat} {v : Option Nat} {d : Nat} (h : d ≠ c) : cellE B ac (sR M c k v) d = cellE B ac M d := by
  have e : gR (sR M c k v) d = gR M d := by funext j; simp [gR, sR, h]
  have e2 : kd (sR M c k v) d = kd M d := rfl
  simp only [cellE, e2, e]; rfl
theorem sA_ws {B : Nat} {ac : Nat → ClassId} {M : Mem} {c : Nat} {f : Nat → Int32} {d : Nat} (h : d ≠ c) : cellE B ac (sA M c f) d = cellE B ac M d := by
  have e : gI (sA M c f) d = gI M d := by funext j; simp [gI, sA, h]
  have e2 : kd (sA M c f) d = kd M d := rfl
  simp only [cellE, e2, e]; rfl
/-! what a method's start gives beside the memory -/
def nestW : List (String × Nat × String × String × String × String) := [("HeapTower$Products", 46, "HeapTower", "FIRST", "[I", "HeapTower"), ("HeapTower$Base", 126, "HeapTower$Products", "second", "[I", "HeapTower"), ("HeapTower$Base", 129, "HeapTower$Products", "third", "[I", "HeapTower"), ("HeapTower$Base", 124, "HeapTower$Numbers", "prime", "I", "HeapTower"), ("HeapTower$Polynomial", 31, "HeapTower", "FIRST", "[I", "HeapTower"), ("HeapTower$Base", 70, "HeapTower", "FIRST", "[I", "HeapTower")]
def fst : Nat → Int32 := fun k => match k with
  | 0 => 0
  | 1 => 1
  | 2 => 4
  | 3 => 10
  | 4 => 20
  | 5 => 35
  | 6 => 56
  | 7 => 84
  | 8 => 120
  | 9 => 165
  | 10 => 220
  | _ => 286
def fstV : Nat → Value := fun k => .int (fst k)
def vAOA (U : State) : Prop := (Cond.arrayOver (.array .int)).before #[] U = true
def EnvF (D : va_G) (B t : Nat) (ac : Nat → ClassId) (U : State) : Prop := va_K D hT_cl (tysA ac) U ∧ va_Z "HeapTower" "FIRST" "[I" (.ref t) (AB B) U U.heap ∧ va_T .int t 12 fstV (AB B) U U.heap ∧ B ≤ U.heap.size ∧ (∀ q ∈ nestW, va_Nw (.fieldLinkNest q.1 q.2.1 q.2.2.1 q.2.2.2.1 q.2.2.2.2.1 q.2.2.2.2.2) U) ∧ va_AO "HeapTower$Polynomial" U ∧ vAOA U
def PRE (D : va_G) (B t : Nat) (ac : Nat → ClassId) (M : Mem) (U : State) : Prop := U.heap.size = B + nC M ∧ va_P D hT_cl (wsM B ac M) U.heap ∧ EnvF D B t ac U
def PST (D : va_G) (B : Nat) (ac : Nat → ClassId) (M : Mem) (t : State) : Prop := t.heap.size = B + nC M ∧ va_P D hT_cl (wsM B ac M) t.heap
abbrev Ctx : Type := Program × Launch × Env × Room × State × MethodId × Array Value × List Frame × Method × Code × (State → Prop) × va_G × Nat × Nat × (Nat → ClassId)
abbrev xp (x : Ctx) : Program := x.1
abbrev xl (x : Ctx) : Launch := x.2.1
abbrev xe (x : Ctx) : Env := x.2.2.1
abbrev xR (x : Ctx) : Room := x.2.2.2.1
abbrev xs (x : Ctx) : State := x.2.2.2.2.1
abbrev xm (x : Ctx) : MethodId := x.2.2.2.2.2.1
abbrev xa (x : Ctx) : Array Value := x.2.2.2.2.2.2.1
abbrev xb (x : Ctx) : List Frame := x.2.2.2.2.2.2.2.1
abbrev xh (x : Ctx) : Method := x.2.2.2.2.2.2.2.2.1
abbrev xc (x : Ctx) : Code := x.2.2.2.2.2.2.2.2.2.1
abbrev xQ (x : Ctx) : State → Prop := x.2.2.2.2.2.2.2.2.2.2.1
abbrev xD (x : Ctx) : va_G := x.2.2.2.2.2.2.2.2.2.2.2.1
abbrev xB (x : Ctx) : Nat := x.2.2.2.2.2.2.2.2.2.2.2.2.1
abbrev xt (x : Ctx) : Nat := x.2.2.2.2.2.2.2.2.2.2.2.2.2.1
abbrev xA (x : Ctx) : Nat → ClassId := x.2.2.2.2.2.2.2.2.2.2.2.2.2.2
abbrev Wx (x : Ctx) (H : Heap) (locs : List Loc) (ce sl : Nat) (g : JFrame) : Prop := W (xp x) (xl x) (xe x) (xR x) (xs x) (xm x) (xa x) (xb x) (xh x) (xc x) H locs ce sl (xQ x) g
def J (x : Ctx) (nL pc : Nat) (lv : List (Nat × Value)) (st : List Value) (ce sl : Nat) (M : Mem) : Prop :=
  ∀ (H : Heap) (locs : List Loc) (ls : Array Slot), va_P (xD x) hT_cl (wsM (xB x) (xA x) M) H → H.size = xB x + nC M → va_S (AB (xB x)) (xs x).heap H locs → lv_has ls nL lv → Wx x H locs ce sl (F0 (xm x) pc ls st)
def Ok (x : Ctx) (cc : ByteArray) (nL : Nat) (own : String) : Prop := (xp x).tables.exec = Jvm.exec ∧ (xc x).code = cc ∧ (xc x).maxLocals = nL ∧ (xs x).vm.findClass own = some (xm x).cls ∧ (∀ w ∈ gw, w.before (xa x) (xs x) = true) ∧ EnvF (xD x) (xB x) (xt x) (xA x) (xs x) ∧ (xh x).locks = false
end
section
theorem vAOA_moved {u U : State} (hvm : u.vm.Alike U.vm) (h : vAOA u) : vAOA U := by
  unfold vAOA Cond.before Cond.holds at h ⊢
  simp only [Cond.value, beq_iff_eq] at h ⊢
  rw [hvm.findClass]
  cases hc : u.vm.findClass (FieldType.array FieldType.int).toString with
  | none => simp [hc] at h
  | some comp =>
    simp only [hc, Option.bind_some, Option.bind_eq_some_iff, Option.map_eq_some_iff] at h ⊢
    obtain ⟨c, hi, k, hk, hb⟩ := h
    obtain ⟨k', hk', he⟩ := hvm.2.2 _ _ hk
    have hi2 : (U.vm.classes.findIdx? fun (x : Class) => match x.kind with | .array component _ => component == comp | _ => false) = some c := by
      have h1 := va_idx_bare U.vm comp
      have h2 := va_idx_bare u.vm comp
      first | exact h1.symm.trans ((congrArg (fun v : Vm => v.classes.findIdx? (fun (x : Class) => match x.kind with | .array component _ => component == comp | _ => false)) hvm.bare_eq).trans (h2.trans hi)) | exact h1.symm.trans ((congrArg (fun v : Vm => v.classes.findIdx? (fun (x : Class) => match x.kind with | .array component _ => component == comp | _ => false)) hvm.bare_eq.symm).trans (h2.trans hi))
    refine ⟨c, hi2, k', hk', ?_⟩
    rw [he, hvm.findClass]; exact hb
theorem vZ_seen {D : va_G} {B t : Nat} {ac : Nat → ClassId} {u U : State} (hW : u.WarmedH U.vm) (hvm : u.vm.Alike U.vm) (hz : u.heap.size ≤ U.heap.size) (hq : ∀ q : Nat, q < u.heap.size → ¬ AB B q → U.heap[q]? = u.heap[q]?) (h : EnvF D B t ac u) : EnvF D B t ac U := by
  obtain ⟨h1, h2, h3, h4, h5, h6, h7⟩ := h
  exact ⟨h1.moved hvm, (h2.moved hvm).kept hq, (h3.moved hvm).kept hq, Nat.le_trans h4 hz, fun q hq => va_Nw.warmF hW (h5 q hq), h6.moved hvm, vAOA_moved hvm h7⟩
theorem lk_mem {lv : List (Nat × Value)} {i : Nat} {v : Value} : lv.lookup i = some v → (i, v) ∈ lv := by
  induction lv with
  | nil => intro h; simp at h
  | cons q r ih =>
    obtain ⟨k, w⟩ := q
    intro h
    rw [List.lookup_cons] at h
    by_cases e : i = k
    · subst e
      simp at h
      subst h
      exact List.mem_cons_self
    · have e2 : (i == k) = false := by simp [e]
      rw [e2] at h
      exact List.mem_cons_of_mem _ (ih h)
theorem lk_at {ls : Array Slot} {nL i : Nat} {lv : List (Nat × Value)} {v : Value} (h : lv_has ls nL lv) (hl : lv.lookup i = some v) : ls[i]? = some (.val v) := h.2.2 _ (lk_mem hl)
section RULES
variable {x : Ctx} {cc : ByteArray} {nL pc ce sl : Nat} {own : String} {lv lv' : List (Nat × Value)} {st : List Value} {M : Mem}
theorem J_sub (ks : List Nat) (hl : lv_pick lv ks = lv') (k : J x nL pc lv' st ce sl M) : J x nL pc lv st ce sl M := fun H locs ls h1 h2 h3 h4 => k H locs ls h1 h2 h3 (lv_sub h4 ks hl)
theorem J_iconst (C : Ok x cc nL own) {n : Int} {v : Int32} (d : decode cc pc = .ok (.iconst n, 1)) (hv : Int32.ofInt n = v) (k : J x nL (pc + 1) lv (.int v :: st) ce sl M) : J x nL pc lv st ce sl M := fun H locs ls h1 h2 h3 h4 => lv_iconst C.1 C.2.1 d hv (k H locs ls h1 h2 h3 h4)
theorem J_bipush (C : Ok x cc nL own) {n : Int} {v : Int32} (d : decode cc pc = .ok (.bipush n, 2)) (hv : (Int8.ofInt n).toInt32 = v) (k : J x nL (pc + 2) lv (.int v :: st) ce sl M) : J x nL pc lv st ce sl M := fun H locs ls h1 h2 h3 h4 => lv_bipush C.1 C.2.1 d hv (k H locs ls h1 h2 h3 h4)
theorem J_sipush (C : Ok x cc nL own) {n : Int} {v : Int32} (d : decode cc pc = .ok (.sipush n, 3)) (hv : (Int16.ofInt n).toInt32 = v) (k : J x nL (pc + 3) lv (.int v :: st) ce sl M) : J x nL pc lv st ce sl M := fun H locs ls h1 h2 h3 h4 => lv_sipush C.1 C.2.1 d hv (k H locs ls h1 h2 h3 h4)
theorem J_ldc (C : Ok x cc nL own) {idx : Nat} {v : Int32} (d : decode cc pc = .ok (.ldc idx, 2)) (hw : Cond.constant own idx v ∈ gw) (k : J x nL (pc + 2) lv (.int v :: st) ce sl M) : J x nL pc lv st ce sl M := fun H locs ls h1 h2 h3 h4 => lv_ldc C.1 C.2.1 C.2.2.2.1 (C.2.2.2.2.1 _ hw) d (k H locs ls h1 h2 h3 h4)
theorem J_ldc2 (C : Ok x cc nL own) {idx : Nat} {v : Int64} (d : decode cc pc = .ok (.ldc2_w idx, 3)) (hw : Cond.constantLong own idx v ∈ gw) (k : J x nL (pc + 3) lv (.long v :: st) ce sl M) : J x nL pc lv st ce sl M := fun H locs ls h1 h2 h3 h4 => lv_ldc2 C.1 C.2.1 C.2.2.2.1 (C.2.2.2.2.1 _ hw) d (k H locs ls h1 h2 h3 h4)
theorem J_lconst (C : Ok x cc nL own) {n : Fin 2} {v : Int64} (d : decode cc pc = .ok (.lconst n, 1)) (hv : Int64.ofNat (n : Nat) = v) (k : J x nL (pc + 1) lv (.long v :: st) ce sl M) : J x nL pc lv st ce sl M := fun H locs ls h1 h2 h3 h4 => lv_lconst C.1 C.2.1 d hv (k H locs ls h1 h2 h3 h4)
theorem J_iload_n (C : Ok x cc nL own) {q : Fin 4} {v : Int32} (i : Nat) (d : decode cc pc = .ok (.iload_n q, 1)) (hi : (q : Nat) = i) (hl : lv.lookup i = some (.int v)) (k : J x nL (pc + 1) lv (.int v :: st) ce sl M) : J x nL pc lv st ce sl M := fun H locs ls h1 h2 h3 h4 => lv_iload_n C.1 C.2.1 d hi (lk_at h4 hl) (k H locs ls h1 h2 h3 h4)
theorem J_iload (C : Ok x cc nL own) {v : Int32} (i : Nat) (d : decode cc pc = .ok (.iload i, 2)) (hl : lv.lookup i = some (.int v)) (k : J x nL (pc + 2) lv (.int v :: st) ce sl M) : J x nL pc lv st ce sl M := fun H locs ls h1 h2 h3 h4 => lv_iload C.1 C.2.1 d (lk_at h4 hl) (k H locs ls h1 h2 h3 h4)
theorem J_aload_n (C : Ok x cc nL own) {q : Fin 4} {v : Nat} (i : Nat) (d : decode cc pc = .ok (.aload_n q, 1)) (hi : (q : Nat) = i) (hl : lv.lookup i = some (.ref v)) (k : J x nL (pc + 1) lv (.ref v :: st) ce sl M) : J x nL pc lv st ce sl M := fun H locs ls h1 h2 h3 h4 => lv_aload_n C.1 C.2.1 d hi (lk_at h4 hl) (k H locs ls h1 h2 h3 h4)
theorem J_aload (C : Ok x cc nL own) {v : Nat} (i : Nat) (d : decode cc pc = .ok (.aload i, 2)) (hl : lv.lookup i = some (.ref v)) (k : J x nL (pc + 2) lv (.ref v :: st) ce sl M) : J x nL pc lv st ce sl M := fun H locs ls h1 h2 h3 h4 => lv_aload C.1 C.2.1 d (lk_at h4 hl) (k H locs ls h1 h2 h3 h4)
theorem J_lload_n (C : Ok x cc nL own) {q : Fin 4} {v : Int64} (i : Nat) (d : decode cc pc = .ok (.lload_n q, 1)) (hi : (q : Nat) = i) (hl : lv.lookup i = some (.long v)) (k : J x nL (pc + 1) lv (.long v :: st) ce sl M) : J x nL pc lv st ce sl M := fun H locs ls h1 h2 h3 h4 => lv_lload_n C.1 C.2.1 d hi (lk_at h4 hl) (k H locs ls h1 h2 h3 h4)
theorem J_istore_n (C : Ok x cc nL own) {q : Fin 4} {v : Int32} (i : Nat) (d : decode cc pc = .ok (.istore_n q, 1)) (hi : (q : Nat) = i) (hn : i < nL) (hl : (i, Value.int v) :: lv.filter (fun q => !(q.1 == i) && !(q.1 + 1 == i && q.2.category == 2)) = lv') (k : J x nL (pc + 1) lv' st ce sl M) : J x nL pc lv (.int v :: st) ce sl M := fun H locs ls h1 h2 h3 h4 => lv_istore_n C.1 C.2.1 d hi h4 hn hl (fun ls' h5 => k H locs ls' h1 h2 h3 h5)
theorem J_istore (C : Ok x cc nL own) {v : Int32} (i : Nat) (d : decode cc pc = .ok (.istore i, 2)) (hn : i < nL) (hl : (i, Value.int v) :: lv.filter (fun q => !(q.1 == i) && !(q.1 + 1 == i && q.2.category == 2)) = lv') (k : J x nL (pc + 2) lv' st ce sl M) : J x nL pc lv (.int v :: st) ce sl M := fun H locs ls h1 h2 h3 h4 => lv_istore C.1 C.2.1 d h4 hn hl (fun ls' h5 => k H locs ls' h1 h2 h3 h5)
theorem J_astore_n (C : Ok x cc nL own) {q : Fin 4} {v : Nat} (i : Nat) (d : decode cc pc = .ok (.astore_n q, 1)) (hi : (q : Nat) = i) (hn : i < nL) (hl : (i, Value.ref v) :: lv.filter (fun q => !(q.1 == i) && !(q.1 + 1 == i && q.2.category == 2)) = lv') (k : J x nL (pc + 1) lv' st ce sl M) : J x nL pc lv (.ref v :: st) ce sl M := fun H locs ls h1 h2 h3 h4 => lv_astore_n C.1 C.2.1 d hi h4 hn hl (fun ls' h5 => k H locs ls' h1 h2 h3 h5)
theorem J_astore (C : Ok x cc nL own) {v : Nat} (i : Nat) (d : decode cc pc = .ok (.astore i, 2)) (hn : i < nL) (hl : (i, Value.ref v) :: lv.filter (fun q => !(q.1 == i) && !(q.1 + 1 == i && q.2.category == 2)) = lv') (k : J x nL (pc + 2) lv' st ce sl M) : J x nL pc lv (.ref v :: st) ce sl M := fun H locs ls h1 h2 h3 h4 => lv_astore C.1 C.2.1 d h4 hn hl (fun ls' h5 => k H locs ls' h1 h2 h3 h5)
theorem J_lstore_n (C : Ok x cc nL own) {q : Fin 4} {v : Int64} (i : Nat) (d : decode cc pc = .ok (.lstore_n q, 1)) (hi : (q : Nat) = i) (hn : i + 1 < nL) (hl : (i, Value.long v) :: lv.filter (fun q => !(q.1 == i) && (!(q.1 == i + 1) && !(q.1 + 1 == i && q.2.category == 2))) = lv') (k : J x nL (pc + 1) lv' st ce sl M) : J x nL pc lv (.long v :: st) ce sl M := fun H locs ls h1 h2 h3 h4 => lv_lstore_n C.1 C.2.1 d hi h4 hn hl (fun ls' h5 => k H locs ls' h1 h2 h3 h5)
theorem J_iinc (C : Ok x cc nL own) {n : Int} {a v : Int32} (i p : Nat) (d : decode cc pc = .ok (.iinc i n, 3)) (hp : lv[p]? = some (i, .int a)) (hv : a + Int32.ofInt n = v) (hn : i < nL) (hl : (i, Value.int v) :: lv.filter (fun q => !(q.1 == i) && !(q.1 + 1 == i && q.2.category == 2)) = lv') (k : J x nL (pc + 3) lv' st ce sl M) : J x nL pc lv st ce sl M := fun H locs ls h1 h2 h3 h4 => lv_iinc C.1 C.2.1 d h4 hp hv hn hl (fun ls' h5 => k H locs ls' h1 h2 h3 h5)
theorem J_iadd (C : Ok x cc nL own) {a b : Int32} (d : decode cc pc = .ok (.iadd, 1)) (k : J x nL (pc + 1) lv (.int (a + b) :: st) ce sl M) : J x nL pc lv (.int b :: .int a :: st) ce sl M := fun H locs ls h1 h2 h3 h4 => lv_iadd C.1 C.2.1 d (k H locs ls h1 h2 h3 h4)
theorem J_isub (C : Ok x cc nL own) {a b : Int32} (d : decode cc pc = .ok (.isub, 1)) (k : J x nL (pc + 1) lv (.int (a - b) :: st) ce sl M) : J x nL pc lv (.int b :: .int a :: st) ce sl M := fun H locs ls h1 h2 h3 h4 => lv_isub C.1 C.2.1 d (k H locs ls h1 h2 h3 h4)
theorem J_imul (C : Ok x cc nL own) {a b : Int32} (d : decode cc pc = .ok (.imul, 1)) (k : J x nL (pc + 1) lv (.int (a * b) :: st) ce sl M) : J x nL pc lv (.int b :: .int a :: st) ce sl M := fun H locs ls h1 h2 h3 h4 => lv_imul C.1 C.2.1 d (k H locs ls h1 h2 h3 h4)
theorem J_idiv (C : Ok x cc nL own) {a b : Int32} (d : decode cc pc = .ok (.idiv, 1)) (hne : ¬ b = 0) (k : J x nL (pc + 1) lv (.int (a / b) :: st) ce sl M) : J x nL pc lv (.int b :: .int a :: st) ce sl M := fun H locs ls h1 h2 h3 h4 => lv_idiv C.1 C.2.1 d hne (k H locs ls h1 h2 h3 h4)
theorem J_irem (C : Ok x cc nL own) {a b : Int32} (d : decode cc pc = .ok (.irem, 1)) (hne : ¬ b = 0) (k : J x nL (pc + 1) lv (.int (a - a / b * b) :: st) ce sl M) : J x nL pc lv (.int b :: .int a :: st) ce sl M := fun H locs ls h1 h2 h3 h4 => lv_irem C.1 C.2.1 d hne (k H locs ls h1 h2 h3 h4)
theorem J_iand (C : Ok x cc nL own) {a b : Int32} (d : decode cc pc = .ok (.iand, 1)) (k : J x nL (pc + 1) lv (.int (a &&& b) :: st) ce sl M) : J x nL pc lv (.int b :: .int a :: st) ce sl M := fun H locs ls h1 h2 h3 h4 => lv_iand C.1 C.2.1 d (k H locs ls h1 h2 h3 h4)
theorem J_ixor (C : Ok x cc nL own) {a b : Int32} (d : decode cc pc = .ok (.ixor, 1)) (k : J x nL (pc + 1) lv (.int (a ^^^ b) :: st) ce sl M) : J x nL pc lv (.int b :: .int a :: st) ce sl M := fun H locs ls h1 h2 h3 h4 => lv_ixor C.1 C.2.1 d (k H locs ls h1 h2 h3 h4)
theorem J_ishl (C : Ok x cc nL own) {a b : Int32} (d : decode cc pc = .ok (.ishl, 1)) (k : J x nL (pc + 1) lv (.int (a <<< (b &&& 31)) :: st) ce sl M) : J x nL pc lv (.int b :: .int a :: st) ce sl M := fun H locs ls h1 h2 h3 h4 => lv_ishl C.1 C.2.1 d (k H locs ls h1 h2 h3 h4)
theorem J_ishr (C : Ok x cc nL own) {a b : Int32} (d : decode cc pc = .ok (.ishr, 1)) (k : J x nL (pc + 1) lv (.int (a >>> (b &&& 31)) :: st) ce sl M) : J x nL pc lv (.int b :: .int a :: st) ce sl M := fun H locs ls h1 h2 h3 h4 => lv_ishr C.1 C.2.1 d (k H locs ls h1 h2 h3 h4)
theorem J_ladd (C : Ok x cc nL own) {a b : Int64} (d : decode cc pc = .ok (.ladd, 1)) (k : J x nL (pc + 1) lv (.long (a + b) :: st) ce sl M) : J x nL pc lv (.long b :: .long a :: st) ce sl M := fun H locs ls h1 h2 h3 h4 => lv_ladd C.1 C.2.1 d (k H locs ls h1 h2 h3 h4)
theorem J_lsub (C : Ok x cc nL own) {a b : Int64} (d : decode cc pc = .ok (.lsub, 1)) (k : J x nL (pc + 1) lv (.long (a - b) :: st) ce sl M) : J x nL pc lv (.long b :: .long a :: st) ce sl M := fun H locs ls h1 h2 h3 h4 => lv_lsub C.1 C.2.1 d (k H locs ls h1 h2 h3 h4)
theorem J_lmul (C : Ok x cc nL own) {a b : Int64} (d : decode cc pc = .ok (.lmul, 1)) (k : J x nL (pc + 1) lv (.long (a * b) :: st) ce sl M) : J x nL pc lv (.long b :: .long a :: st) ce sl M := fun H locs ls h1 h2 h3 h4 => lv_lmul C.1 C.2.1 d (k H locs ls h1 h2 h3 h4)
theorem J_lrem (C : Ok x cc nL own) {a b : Int64} (d : decode cc pc = .ok (.lrem, 1)) (hne : ¬ b = 0) (k : J x nL (pc + 1) lv (.long (a - a / b * b) :: st) ce sl M) : J x nL pc lv (.long b :: .long a :: st) ce sl M := fun H locs ls h1 h2 h3 h4 => lv_lrem C.1 C.2.1 d hne (k H locs ls h1 h2 h3 h4)
theorem J_ineg (C : Ok x cc nL own) {a : Int32} (d : decode cc pc = .ok (.ineg, 1)) (k : J x nL (pc + 1) lv (.int (-a) :: st) ce sl M) : J x nL pc lv (.int a :: st) ce sl M := fun H locs ls h1 h2 h3 h4 => lv_ineg C.1 C.2.1 d (k H locs ls h1 h2 h3 h4)
theorem J_i2l (C : Ok x cc nL own) {a : Int32} (d : decode cc pc = .ok (.i2l, 1)) (k : J x nL (pc + 1) lv (.long a.toInt64 :: st) ce sl M) : J x nL pc lv (.int a :: st) ce sl M := fun H locs ls h1 h2 h3 h4 => lv_i2l C.1 C.2.1 d rfl (k H locs ls h1 h2 h3 h4)
theorem J_l2i (C : Ok x cc nL own) {a : Int64} (d : decode cc pc = .ok (.l2i, 1)) (k : J x nL (pc + 1) lv (.int a.toInt32 :: st) ce sl M) : J x nL pc lv (.long a :: st) ce sl M := fun H locs ls h1 h2 h3 h4 => lv_l2i C.1 C.2.1 d rfl (k H locs ls h1 h2 h3 h4)
theorem J_icmp_eq (C : Ok x cc nL own) {a b : Int32} {off : Int} {tgt : Nat} (d : decode cc pc = .ok (.if_icmp .eq off, 3)) (ht : (pc : Int) + off = (tgt : Int)) (k1 : a = b → J x nL tgt lv st ce sl M) (k2 : ¬ (a = b) → J x nL (pc + 3) lv st ce sl M) : J x nL pc lv (.int b :: .int a :: st) ce sl M := fun H locs ls h1 h2 h3 h4 => lv_icmp_eq C.1 C.2.1 d ht (fun q => k1 q H locs ls h1 h2 h3 h4) (fun q => k2 q H locs ls h1 h2 h3 h4)
theorem J_if_eq (C : Ok x cc nL own) {a : Int32} {off : Int} {tgt : Nat} (d : decode cc pc = .ok (.ifCond .eq off, 3)) (ht : (pc : Int) + off = (tgt : Int)) (k1 : a = 0 → J x nL tgt lv st ce sl M) (k2 : ¬ (a = 0) → J x nL (pc + 3) lv st ce sl M) : J x nL pc lv (.int a :: st) ce sl M := fun H locs ls h1 h2 h3 h4 => lv_if_eq C.1 C.2.1 d ht (fun q => k1 q H locs ls h1 h2 h3 h4) (fun q => k2 q H locs ls h1 h2 h3 h4)
theorem J_icmp_ne (C : Ok x cc nL own) {a b : Int32} {off : Int} {tgt : Nat} (d : decode cc pc = .ok (.if_icmp .ne off, 3)) (ht : (pc : Int) + off = (tgt : Int)) (k1 : ¬ a = b → J x nL tgt lv st ce sl M) (k2 : a = b → J x nL (pc + 3) lv st ce sl M) : J x nL pc lv (.int b :: .int a :: st) ce sl M := fun H locs ls h1 h2 h3 h4 => lv_icmp_ne C.1 C.2.1 d ht (fun q => k1 q H locs ls h1 h2 h3 h4) (fun q => k2 q H locs ls h1 h2 h3 h4)
theorem J_if_ne (C : Ok x cc nL own) {a : Int32} {off : Int} {tgt : Nat} (d : decode cc pc = .ok (.ifCond .ne off, 3)) (ht : (pc : Int) + off = (tgt : Int)) (k1 : ¬ a = 0 → J x nL tgt lv st ce sl M) (k2 : a = 0 → J x nL (pc + 3) lv st ce sl M) : J x nL pc lv (.int a :: st) ce sl M := fun H locs ls h1 h2 h3 h4 => lv_if_ne C.1 C.2.1 d ht (fun q => k1 q H locs ls h1 h2 h3 h4) (fun q => k2 q H locs ls h1 h2 h3 h4)
theorem J_icmp_lt (C : Ok x cc nL own) {a b : Int32} {off : Int} {tgt : Nat} (d : decode cc pc = .ok (.if_icmp .lt off, 3)) (ht : (pc : Int) + off = (tgt : Int)) (k1 : a < b → J x nL tgt lv st ce sl M) (k2 : ¬ (a < b) → J x nL (pc + 3) lv st ce sl M) : J x nL pc lv (.int b :: .int a :: st) ce sl M := fun H locs ls h1 h2 h3 h4 => lv_icmp_lt C.1 C.2.1 d ht (fun q => k1 q H locs ls h1 h2 h3 h4) (fun q => k2 q H locs ls h1 h2 h3 h4)
theorem J_if_lt (C : Ok x cc nL own) {a : Int32} {off : Int} {tgt : Nat} (d : decode cc pc = .ok (.ifCond .lt off, 3)) (ht : (pc : Int) + off = (tgt : Int)) (k1 : a < 0 → J x nL tgt lv st ce sl M) (k2 : ¬ (a < 0) → J x nL (pc + 3) lv st ce sl M) : J x nL pc lv (.int a :: st) ce sl M := fun H locs ls h1 h2 h3 h4 => lv_if_lt C.1 C.2.1 d ht (fun q => k1 q H locs ls h1 h2 h3 h4) (fun q => k2 q H locs ls h1 h2 h3 h4)
theorem J_icmp_ge (C : Ok x cc nL own) {a b : Int32} {off : Int} {tgt : Nat} (d : decode cc pc = .ok (.if_icmp .ge off, 3)) (ht : (pc : Int) + off = (tgt : Int)) (k1 : b ≤ a → J x nL tgt lv st ce sl M) (k2 : ¬ (b ≤ a) → J x nL (pc + 3) lv st ce sl M) : J x nL pc lv (.int b :: .int a :: st) ce sl M := fun H locs ls h1 h2 h3 h4 => lv_icmp_ge C.1 C.2.1 d ht (fun q => k1 q H locs ls h1 h2 h3 h4) (fun q => k2 q H locs ls h1 h2 h3 h4)
theorem J_if_ge (C : Ok x cc nL own) {a : Int32} {off : Int} {tgt : Nat} (d : decode cc pc = .ok (.ifCond .ge off, 3)) (ht : (pc : Int) + off = (tgt : Int)) (k1 : 0 ≤ a → J x nL tgt lv st ce sl M) (k2 : ¬ (0 ≤ a) → J x nL (pc + 3) lv st ce sl M) : J x nL pc lv (.int a :: st) ce sl M := fun H locs ls h1 h2 h3 h4 => lv_if_ge C.1 C.2.1 d ht (fun q => k1 q H locs ls h1 h2 h3 h4) (fun q => k2 q H locs ls h1 h2 h3 h4)
theorem J_icmp_gt (C : Ok x cc nL own) {a b : Int32} {off : Int} {tgt : Nat} (d : decode cc pc = .ok (.if_icmp .gt off, 3)) (ht : (pc : Int) + off = (tgt : Int)) (k1 : b < a → J x nL tgt lv st ce sl M) (k2 : ¬ (b < a) → J x nL (pc + 3) lv st ce sl M) : J x nL pc lv (.int b :: .int a :: st) ce sl M := fun H locs ls h1 h2 h3 h4 => lv_icmp_gt C.1 C.2.1 d ht (fun q => k1 q H locs ls h1 h2 h3 h4) (fun q => k2 q H locs ls h1 h2 h3 h4)
theorem J_if_gt (C : Ok x cc nL own) {a : Int32} {off : Int} {tgt : Nat} (d : decode cc pc = .ok (.ifCond .gt off, 3)) (ht : (pc : Int) + off = (tgt : Int)) (k1 : 0 < a → J x nL tgt lv st ce sl M) (k2 : ¬ (0 < a) → J x nL (pc + 3) lv st ce sl M) : J x nL pc lv (.int a :: st) ce sl M := fun H locs ls h1 h2 h3 h4 => lv_if_gt C.1 C.2.1 d ht (fun q => k1 q H locs ls h1 h2 h3 h4) (fun q => k2 q H locs ls h1 h2 h3 h4)
theorem J_icmp_le (C : Ok x cc nL own) {a b : Int32} {off : Int} {tgt : Nat} (d : decode cc pc = .ok (.if_icmp .le off, 3)) (ht : (pc : Int) + off = (tgt : Int)) (k1 : a ≤ b → J x nL tgt lv st ce sl M) (k2 : ¬ (a ≤ b) → J x nL (pc + 3) lv st ce sl M) : J x nL pc lv (.int b :: .int a :: st) ce sl M := fun H locs ls h1 h2 h3 h4 => lv_icmp_le C.1 C.2.1 d ht (fun q => k1 q H locs ls h1 h2 h3 h4) (fun q => k2 q H locs ls h1 h2 h3 h4)
theorem J_if_le (C : Ok x cc nL own) {a : Int32} {off : Int} {tgt : Nat} (d : decode cc pc = .ok (.ifCond .le off, 3)) (ht : (pc : Int) + off = (tgt : Int)) (k1 : a ≤ 0 → J x nL tgt lv st ce sl M) (k2 : ¬ (a ≤ 0) → J x nL (pc + 3) lv st ce sl M) : J x nL pc lv (.int a :: st) ce sl M := fun H locs ls h1 h2 h3 h4 => lv_if_le C.1 C.2.1 d ht (fun q => k1 q H locs ls h1 h2 h3 h4) (fun q => k2 q H locs ls h1 h2 h3 h4)
theorem J_goto (C : Ok x cc nL own) {off : Int} {tgt : Nat} (d : decode cc pc = .ok (.goto off, 3)) (ht : (pc : Int) + off = (tgt : Int)) (k : J x nL tgt lv st ce sl M) : J x nL pc lv st ce sl M := fun H locs ls h1 h2 h3 h4 => lv_goto C.1 C.2.1 d ht (k H locs ls h1 h2 h3 h4)
theorem J_dup (C : Ok x cc nL own) {v : Value} (d : decode cc pc = .ok (.dup, 1)) (hv : v.category = 1) (k : J x nL (pc + 1) lv (v :: v :: st) ce sl M) : J x nL pc lv (v :: st) ce sl M := fun H locs ls h1 h2 h3 h4 => lv_dup C.1 C.2.1 d hv (k H locs ls h1 h2 h3 h4)
theorem J_dup2 (C : Ok x cc nL own) {v w : Value} (d : decode cc pc = .ok (.dup2, 1)) (hv : v.category = 1) (hw : w.category = 1) (k : J x nL (pc + 1) lv (v :: w :: v :: w :: st) ce sl M) : J x nL pc lv (v :: w :: st) ce sl M := fun H locs ls h1 h2 h3 h4 => lv_dup2_11 C.1 C.2.1 d hv hw (k H locs ls h1 h2 h3 h4)
theorem J_pop (C : Ok x cc nL own) {v : Value} (d : decode cc pc = .ok (.pop, 1)) (hv : v.category = 1) (k : J x nL (pc + 1) lv st ce sl M) : J x nL pc lv (v :: st) ce sl M := fun H locs ls h1 h2 h3 h4 => lv_pop C.1 C.2.1 d hv (k H locs ls h1 h2 h3 h4)
theorem J_tableIn (C : Ok x cc nL own) {dflt lo hi : Int} {offs : Array Int} {len : Nat} {a : Int32} {off : Int} {tgt : Nat} (d : decode cc pc = .ok (.tableswitch dflt lo hi offs, len)) (h1 : ¬ a.toInt < lo) (h2 : ¬ hi < a.toInt) (ho : offs[(a.toInt - lo).toNat]? = some off) (ht : (pc : Int) + off = (tgt : Int)) (k : J x nL tgt lv st ce sl M) : J x nL pc lv (.int a :: st) ce sl M := fun H locs ls q1 q2 q3 q4 => lv_tableIn C.1 C.2.1 d h1 h2 ho ht (k H locs ls q1 q2 q3 q4)
theorem J_tableOut (C : Ok x cc nL own) {dflt lo hi : Int} {offs : Array Int} {len : Nat} {a : Int32} {tgt : Nat} (d : decode cc pc = .ok (.tableswitch dflt lo hi offs, len)) (h : a.toInt < lo ∨ hi < a.toInt) (ht : (pc : Int) + dflt = (tgt : Int)) (k : J x nL tgt lv st ce sl M) : J x nL pc lv (.int a :: st) ce sl M := fun H locs ls q1 q2 q3 q4 => lv_tableOut C.1 C.2.1 d h ht (k H locs ls q1 q2 q3 q4)
end RULES
end
