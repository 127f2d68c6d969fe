section
-- ===== PART A: goes FIRST, ahead of the names: the tables' words, and 'selects' of the private methods out of them =====
/-- a private method of a class that the tables say can be made, by its rows of tables_1 -/
def lw_okq (q : MethodName × Nat) : Prop := (q.1.cls ≠ "java/lang/invoke/MethodHandle" ∧ q.1.cls ≠ "java/lang/invoke/VarHandle") ∧ Cond.instantiable q.1.cls q.2 ∈ tables_1 ∧ Cond.privateMethod q.1 ∈ tables_1 ∧ Cond.instanceMethod q.1 ∈ tables_1
theorem lw_p0 : lw_okq (⟨"HeapTower$Products", "lineByLast", "(I)I"⟩, 6) := ⟨⟨by decide +kernel, by decide +kernel⟩, List.mem_of_getElem? (i := 21) (by decide +kernel), List.mem_of_getElem? (i := 34) (by decide +kernel), List.mem_of_getElem? (i := 35) (by decide +kernel)⟩
theorem lw_p1 : lw_okq (⟨"HeapTower$Products", "lineByFirst", "(I)I"⟩, 6) := ⟨⟨by decide +kernel, by decide +kernel⟩, List.mem_of_getElem? (i := 21) (by decide +kernel), List.mem_of_getElem? (i := 40) (by decide +kernel), List.mem_of_getElem? (i := 41) (by decide +kernel)⟩
theorem lw_p2 : lw_okq (⟨"HeapTower", "clearClaims", "()V"⟩, 12) := ⟨⟨by decide +kernel, by decide +kernel⟩, List.mem_of_getElem? (i := 13) (by decide +kernel), List.mem_of_getElem? (i := 270) (by decide +kernel), List.mem_of_getElem? (i := 271) (by decide +kernel)⟩
theorem lw_p3 : lw_okq (⟨"HeapTower", "forgetAllBases", "()V"⟩, 12) := ⟨⟨by decide +kernel, by decide +kernel⟩, List.mem_of_getElem? (i := 13) (by decide +kernel), List.mem_of_getElem? (i := 281) (by decide +kernel), List.mem_of_getElem? (i := 282) (by decide +kernel)⟩
theorem lw_p4 : lw_okq (⟨"HeapTower", "isProduct", "(III)Z"⟩, 12) := ⟨⟨by decide +kernel, by decide +kernel⟩, List.mem_of_getElem? (i := 13) (by decide +kernel), List.mem_of_getElem? (i := 299) (by decide +kernel), List.mem_of_getElem? (i := 300) (by decide +kernel)⟩
theorem lw_p5 : lw_okq (⟨"HeapTower", "draftChanged", "()V"⟩, 12) := ⟨⟨by decide +kernel, by decide +kernel⟩, List.mem_of_getElem? (i := 13) (by decide +kernel), List.mem_of_getElem? (i := 320) (by decide +kernel), List.mem_of_getElem? (i := 321) (by decide +kernel)⟩
theorem lw_p6 : lw_okq (⟨"HeapTower$Polynomial", "sizeOf", "(I)I"⟩, 2) := ⟨⟨by decide +kernel, by decide +kernel⟩, List.mem_of_getElem? (i := 118) (by decide +kernel), List.mem_of_getElem? (i := 344) (by decide +kernel), List.mem_of_getElem? (i := 345) (by decide +kernel)⟩
theorem lw_p7 : lw_okq (⟨"HeapTower", "headOfDraft", "()I"⟩, 12) := ⟨⟨by decide +kernel, by decide +kernel⟩, List.mem_of_getElem? (i := 13) (by decide +kernel), List.mem_of_getElem? (i := 354) (by decide +kernel), List.mem_of_getElem? (i := 355) (by decide +kernel)⟩
theorem lw_p8 : lw_okq (⟨"HeapTower$Polynomial", "movePartUp", "(III)V"⟩, 2) := ⟨⟨by decide +kernel, by decide +kernel⟩, List.mem_of_getElem? (i := 118) (by decide +kernel), List.mem_of_getElem? (i := 389) (by decide +kernel), List.mem_of_getElem? (i := 390) (by decide +kernel)⟩
theorem lw_p9 : lw_okq (⟨"HeapTower", "heapChanged", "(I)V"⟩, 12) := ⟨⟨by decide +kernel, by decide +kernel⟩, List.mem_of_getElem? (i := 13) (by decide +kernel), List.mem_of_getElem? (i := 421) (by decide +kernel), List.mem_of_getElem? (i := 422) (by decide +kernel)⟩
theorem lw_p10 : lw_okq (⟨"HeapTower$Base", "inherit", "(I)V"⟩, 14) := ⟨⟨by decide +kernel, by decide +kernel⟩, List.mem_of_getElem? (i := 132) (by decide +kernel), List.mem_of_getElem? (i := 481) (by decide +kernel), List.mem_of_getElem? (i := 482) (by decide +kernel)⟩
theorem lw_p11 : lw_okq (⟨"HeapTower$Base", "leaderBelow", "(III)I"⟩, 14) := ⟨⟨by decide +kernel, by decide +kernel⟩, List.mem_of_getElem? (i := 132) (by decide +kernel), List.mem_of_getElem? (i := 487) (by decide +kernel), List.mem_of_getElem? (i := 488) (by decide +kernel)⟩
theorem lw_p12 : lw_okq (⟨"HeapTower$Base", "offerDifferences", "(I)V"⟩, 14) := ⟨⟨by decide +kernel, by decide +kernel⟩, List.mem_of_getElem? (i := 132) (by decide +kernel), List.mem_of_getElem? (i := 497) (by decide +kernel), List.mem_of_getElem? (i := 498) (by decide +kernel)⟩
theorem lw_p13 : lw_okq (⟨"HeapTower$Base", "isNews", "(IIII)Z"⟩, 14) := ⟨⟨by decide +kernel, by decide +kernel⟩, List.mem_of_getElem? (i := 132) (by decide +kernel), List.mem_of_getElem? (i := 501) (by decide +kernel), List.mem_of_getElem? (i := 502) (by decide +kernel)⟩
theorem lw_p14 : lw_okq (⟨"HeapTower$Base", "offerMoved", "(III)V"⟩, 14) := ⟨⟨by decide +kernel, by decide +kernel⟩, List.mem_of_getElem? (i := 132) (by decide +kernel), List.mem_of_getElem? (i := 508) (by decide +kernel), List.mem_of_getElem? (i := 509) (by decide +kernel)⟩
theorem lw_p15 : lw_okq (⟨"HeapTower$Base", "addMoved", "([IIII)V"⟩, 14) := ⟨⟨by decide +kernel, by decide +kernel⟩, List.mem_of_getElem? (i := 132) (by decide +kernel), List.mem_of_getElem? (i := 513) (by decide +kernel), List.mem_of_getElem? (i := 514) (by decide +kernel)⟩
def lw_privs_1 : List (MethodName × Nat) := [(⟨"HeapTower$Products", "lineByLast", "(I)I"⟩, 6), (⟨"HeapTower$Products", "lineByFirst", "(I)I"⟩, 6), (⟨"HeapTower", "clearClaims", "()V"⟩, 12), (⟨"HeapTower", "forgetAllBases", "()V"⟩, 12), (⟨"HeapTower", "isProduct", "(III)Z"⟩, 12), (⟨"HeapTower", "draftChanged", "()V"⟩, 12), (⟨"HeapTower$Polynomial", "sizeOf", "(I)I"⟩, 2), (⟨"HeapTower", "headOfDraft", "()I"⟩, 12), (⟨"HeapTower$Polynomial", "movePartUp", "(III)V"⟩, 2), (⟨"HeapTower", "heapChanged", "(I)V"⟩, 12), (⟨"HeapTower$Base", "inherit", "(I)V"⟩, 14), (⟨"HeapTower$Base", "leaderBelow", "(III)I"⟩, 14), (⟨"HeapTower$Base", "offerDifferences", "(I)V"⟩, 14), (⟨"HeapTower$Base", "isNews", "(IIII)Z"⟩, 14), (⟨"HeapTower$Base", "offerMoved", "(III)V"⟩, 14), (⟨"HeapTower$Base", "addMoved", "([IIII)V"⟩, 14)]
theorem lw_r1 : ∀ q ∈ lw_privs_1, lw_okq q := List.forall_mem_cons.mpr ⟨lw_p0, List.forall_mem_cons.mpr ⟨lw_p1, List.forall_mem_cons.mpr ⟨lw_p2, List.forall_mem_cons.mpr ⟨lw_p3, List.forall_mem_cons.mpr ⟨lw_p4, List.forall_mem_cons.mpr ⟨lw_p5, List.forall_mem_cons.mpr ⟨lw_p6, List.forall_mem_cons.mpr ⟨lw_p7, List.forall_mem_cons.mpr ⟨lw_p8, List.forall_mem_cons.mpr ⟨lw_p9, List.forall_mem_cons.mpr ⟨lw_p10, List.forall_mem_cons.mpr ⟨lw_p11, List.forall_mem_cons.mpr ⟨lw_p12, List.forall_mem_cons.mpr ⟨lw_p13, List.forall_mem_cons.mpr ⟨lw_p14, List.forall_mem_cons.mpr ⟨lw_p15, fun _ h => absurd h List.not_mem_nil⟩⟩⟩⟩⟩⟩⟩⟩⟩⟩⟩⟩⟩⟩⟩⟩
theorem lw_p16 : lw_okq (⟨"HeapTower$Rows", "subtract", "([II[I)V"⟩, 8) := ⟨⟨by decide +kernel, by decide +kernel⟩, List.mem_of_getElem? (i := 84) (by decide +kernel), List.mem_of_getElem? (i := 526) (by decide +kernel), List.mem_of_getElem? (i := 527) (by decide +kernel)⟩
theorem lw_p17 : lw_okq (⟨"HeapTower$Base", "append", "(II)V"⟩, 14) := ⟨⟨by decide +kernel, by decide +kernel⟩, List.mem_of_getElem? (i := 132) (by decide +kernel), List.mem_of_getElem? (i := 551) (by decide +kernel), List.mem_of_getElem? (i := 552) (by decide +kernel)⟩
theorem lw_p18 : lw_okq (⟨"HeapTower", "loadRestOfDraft", "(LHeapTower$Base;I)Z"⟩, 12) := ⟨⟨by decide +kernel, by decide +kernel⟩, List.mem_of_getElem? (i := 13) (by decide +kernel), List.mem_of_getElem? (i := 563) (by decide +kernel), List.mem_of_getElem? (i := 564) (by decide +kernel)⟩
theorem lw_p19 : lw_okq (⟨"HeapTower", "freeAtGround", "(I)I"⟩, 12) := ⟨⟨by decide +kernel, by decide +kernel⟩, List.mem_of_getElem? (i := 13) (by decide +kernel), List.mem_of_getElem? (i := 610) (by decide +kernel), List.mem_of_getElem? (i := 611) (by decide +kernel)⟩
theorem lw_p20 : lw_okq (⟨"HeapTower", "freeAtSecond", "(LHeapTower$Base;I)I"⟩, 12) := ⟨⟨by decide +kernel, by decide +kernel⟩, List.mem_of_getElem? (i := 13) (by decide +kernel), List.mem_of_getElem? (i := 618) (by decide +kernel), List.mem_of_getElem? (i := 619) (by decide +kernel)⟩
theorem lw_p21 : lw_okq (⟨"HeapTower", "freeAtThird", "(LHeapTower$Base;I)I"⟩, 12) := ⟨⟨by decide +kernel, by decide +kernel⟩, List.mem_of_getElem? (i := 13) (by decide +kernel), List.mem_of_getElem? (i := 622) (by decide +kernel), List.mem_of_getElem? (i := 623) (by decide +kernel)⟩
theorem lw_p22 : lw_okq (⟨"HeapTower", "loadImages", "(LHeapTower$Base;II)V"⟩, 12) := ⟨⟨by decide +kernel, by decide +kernel⟩, List.mem_of_getElem? (i := 13) (by decide +kernel), List.mem_of_getElem? (i := 631) (by decide +kernel), List.mem_of_getElem? (i := 632) (by decide +kernel)⟩
theorem lw_p23 : lw_okq (⟨"HeapTower", "signedChains", "(LHeapTower$Base;II)I"⟩, 12) := ⟨⟨by decide +kernel, by decide +kernel⟩, List.mem_of_getElem? (i := 13) (by decide +kernel), List.mem_of_getElem? (i := 644) (by decide +kernel), List.mem_of_getElem? (i := 645) (by decide +kernel)⟩
theorem lw_p24 : lw_okq (⟨"HeapTower", "quotientBaseUpTo", "(II)LHeapTower$Base;"⟩, 12) := ⟨⟨by decide +kernel, by decide +kernel⟩, List.mem_of_getElem? (i := 13) (by decide +kernel), List.mem_of_getElem? (i := 652) (by decide +kernel), List.mem_of_getElem? (i := 653) (by decide +kernel)⟩
theorem lw_p25 : lw_okq (⟨"HeapTower", "sumBaseUpTo", "(I)LHeapTower$Base;"⟩, 12) := ⟨⟨by decide +kernel, by decide +kernel⟩, List.mem_of_getElem? (i := 13) (by decide +kernel), List.mem_of_getElem? (i := 685) (by decide +kernel), List.mem_of_getElem? (i := 686) (by decide +kernel)⟩
theorem lw_p26 : lw_okq (⟨"HeapTower", "productBaseUpTo", "(I)LHeapTower$Base;"⟩, 12) := ⟨⟨by decide +kernel, by decide +kernel⟩, List.mem_of_getElem? (i := 13) (by decide +kernel), List.mem_of_getElem? (i := 689) (by decide +kernel), List.mem_of_getElem? (i := 690) (by decide +kernel)⟩
theorem lw_p27 : lw_okq (⟨"HeapTower", "offerRowProducts", "(I)V"⟩, 12) := ⟨⟨by decide +kernel, by decide +kernel⟩, List.mem_of_getElem? (i := 13) (by decide +kernel), List.mem_of_getElem? (i := 693) (by decide +kernel), List.mem_of_getElem? (i := 694) (by decide +kernel)⟩
theorem lw_p28 : lw_okq (⟨"HeapTower", "loadRowProduct", "(II)V"⟩, 12) := ⟨⟨by decide +kernel, by decide +kernel⟩, List.mem_of_getElem? (i := 13) (by decide +kernel), List.mem_of_getElem? (i := 697) (by decide +kernel), List.mem_of_getElem? (i := 698) (by decide +kernel)⟩
theorem lw_p29 : lw_okq (⟨"HeapTower", "leastOutside", "(LHeapTower$Heap;LHeapTower$Base;)I"⟩, 12) := ⟨⟨by decide +kernel, by decide +kernel⟩, List.mem_of_getElem? (i := 13) (by decide +kernel), List.mem_of_getElem? (i := 711) (by decide +kernel), List.mem_of_getElem? (i := 712) (by decide +kernel)⟩
theorem lw_p30 : lw_okq (⟨"HeapTower", "addClaimTimesRow", "(I)V"⟩, 12) := ⟨⟨by decide +kernel, by decide +kernel⟩, List.mem_of_getElem? (i := 13) (by decide +kernel), List.mem_of_getElem? (i := 728) (by decide +kernel), List.mem_of_getElem? (i := 729) (by decide +kernel)⟩
theorem lw_p31 : lw_okq (⟨"HeapTower", "addWorkToDraft", "(IIII)V"⟩, 12) := ⟨⟨by decide +kernel, by decide +kernel⟩, List.mem_of_getElem? (i := 13) (by decide +kernel), List.mem_of_getElem? (i := 732) (by decide +kernel), List.mem_of_getElem? (i := 733) (by decide +kernel)⟩
def lw_privs_2 : List (MethodName × Nat) := [(⟨"HeapTower$Rows", "subtract", "([II[I)V"⟩, 8), (⟨"HeapTower$Base", "append", "(II)V"⟩, 14), (⟨"HeapTower", "loadRestOfDraft", "(LHeapTower$Base;I)Z"⟩, 12), (⟨"HeapTower", "freeAtGround", "(I)I"⟩, 12), (⟨"HeapTower", "freeAtSecond", "(LHeapTower$Base;I)I"⟩, 12), (⟨"HeapTower", "freeAtThird", "(LHeapTower$Base;I)I"⟩, 12), (⟨"HeapTower", "loadImages", "(LHeapTower$Base;II)V"⟩, 12), (⟨"HeapTower", "signedChains", "(LHeapTower$Base;II)I"⟩, 12), (⟨"HeapTower", "quotientBaseUpTo", "(II)LHeapTower$Base;"⟩, 12), (⟨"HeapTower", "sumBaseUpTo", "(I)LHeapTower$Base;"⟩, 12), (⟨"HeapTower", "productBaseUpTo", "(I)LHeapTower$Base;"⟩, 12), (⟨"HeapTower", "offerRowProducts", "(I)V"⟩, 12), (⟨"HeapTower", "loadRowProduct", "(II)V"⟩, 12), (⟨"HeapTower", "leastOutside", "(LHeapTower$Heap;LHeapTower$Base;)I"⟩, 12), (⟨"HeapTower", "addClaimTimesRow", "(I)V"⟩, 12), (⟨"HeapTower", "addWorkToDraft", "(IIII)V"⟩, 12)]
theorem lw_r2 : ∀ q ∈ lw_privs_2, lw_okq q := List.forall_mem_cons.mpr ⟨lw_p16, List.forall_mem_cons.mpr ⟨lw_p17, List.forall_mem_cons.mpr ⟨lw_p18, List.forall_mem_cons.mpr ⟨lw_p19, List.forall_mem_cons.mpr ⟨lw_p20, List.forall_mem_cons.mpr ⟨lw_p21, List.forall_mem_cons.mpr ⟨lw_p22, List.forall_mem_cons.mpr ⟨lw_p23, List.forall_mem_cons.mpr ⟨lw_p24, List.forall_mem_cons.mpr ⟨lw_p25, List.forall_mem_cons.mpr ⟨lw_p26, List.forall_mem_cons.mpr ⟨lw_p27, List.forall_mem_cons.mpr ⟨lw_p28, List.forall_mem_cons.mpr ⟨lw_p29, List.forall_mem_cons.mpr ⟨lw_p30, List.forall_mem_cons.mpr ⟨lw_p31, fun _ h => absurd h List.not_mem_nil⟩⟩⟩⟩⟩⟩⟩⟩⟩⟩⟩⟩⟩⟩⟩⟩
theorem lw_p32 : lw_okq (⟨"HeapTowerModel", "clear", "(I)V"⟩, 18) := ⟨⟨by decide +kernel, by decide +kernel⟩, List.mem_of_getElem? (i := 740) (by decide +kernel), List.mem_of_getElem? (i := 813) (by decide +kernel), List.mem_of_getElem? (i := 814) (by decide +kernel)⟩
theorem lw_p33 : lw_okq (⟨"HeapTowerModel", "put", "(III)V"⟩, 18) := ⟨⟨by decide +kernel, by decide +kernel⟩, List.mem_of_getElem? (i := 740) (by decide +kernel), List.mem_of_getElem? (i := 817) (by decide +kernel), List.mem_of_getElem? (i := 818) (by decide +kernel)⟩
theorem lw_p34 : lw_okq (⟨"HeapTowerModel", "isProduct", "(III)Z"⟩, 18) := ⟨⟨by decide +kernel, by decide +kernel⟩, List.mem_of_getElem? (i := 740) (by decide +kernel), List.mem_of_getElem? (i := 829) (by decide +kernel), List.mem_of_getElem? (i := 830) (by decide +kernel)⟩
theorem lw_p35 : lw_okq (⟨"HeapTowerModel", "get", "(II)I"⟩, 18) := ⟨⟨by decide +kernel, by decide +kernel⟩, List.mem_of_getElem? (i := 740) (by decide +kernel), List.mem_of_getElem? (i := 837) (by decide +kernel), List.mem_of_getElem? (i := 838) (by decide +kernel)⟩
theorem lw_p36 : lw_okq (⟨"HeapTowerModel", "mod", "(J)I"⟩, 18) := ⟨⟨by decide +kernel, by decide +kernel⟩, List.mem_of_getElem? (i := 740) (by decide +kernel), List.mem_of_getElem? (i := 841) (by decide +kernel), List.mem_of_getElem? (i := 842) (by decide +kernel)⟩
theorem lw_p37 : lw_okq (⟨"HeapTowerModel", "products", "(I)I"⟩, 18) := ⟨⟨by decide +kernel, by decide +kernel⟩, List.mem_of_getElem? (i := 740) (by decide +kernel), List.mem_of_getElem? (i := 853) (by decide +kernel), List.mem_of_getElem? (i := 854) (by decide +kernel)⟩
theorem lw_p38 : lw_okq (⟨"HeapTowerModel", "degree", "(I)I"⟩, 18) := ⟨⟨by decide +kernel, by decide +kernel⟩, List.mem_of_getElem? (i := 740) (by decide +kernel), List.mem_of_getElem? (i := 861) (by decide +kernel), List.mem_of_getElem? (i := 862) (by decide +kernel)⟩
theorem lw_p39 : lw_okq (⟨"HeapTowerModel", "isEven", "(I)Z"⟩, 18) := ⟨⟨by decide +kernel, by decide +kernel⟩, List.mem_of_getElem? (i := 740) (by decide +kernel), List.mem_of_getElem? (i := 868) (by decide +kernel), List.mem_of_getElem? (i := 869) (by decide +kernel)⟩
theorem lw_p40 : lw_okq (⟨"HeapTowerModel", "isGreater", "(II)Z"⟩, 18) := ⟨⟨by decide +kernel, by decide +kernel⟩, List.mem_of_getElem? (i := 740) (by decide +kernel), List.mem_of_getElem? (i := 872) (by decide +kernel), List.mem_of_getElem? (i := 873) (by decide +kernel)⟩
theorem lw_p41 : lw_okq (⟨"HeapTowerModel", "power", "(II)I"⟩, 18) := ⟨⟨by decide +kernel, by decide +kernel⟩, List.mem_of_getElem? (i := 740) (by decide +kernel), List.mem_of_getElem? (i := 876) (by decide +kernel), List.mem_of_getElem? (i := 877) (by decide +kernel)⟩
theorem lw_p42 : lw_okq (⟨"HeapTowerModel", "move", "(II)V"⟩, 18) := ⟨⟨by decide +kernel, by decide +kernel⟩, List.mem_of_getElem? (i := 740) (by decide +kernel), List.mem_of_getElem? (i := 884) (by decide +kernel), List.mem_of_getElem? (i := 885) (by decide +kernel)⟩
theorem lw_p43 : lw_okq (⟨"HeapTowerModel", "heap", "(I)V"⟩, 18) := ⟨⟨by decide +kernel, by decide +kernel⟩, List.mem_of_getElem? (i := 740) (by decide +kernel), List.mem_of_getElem? (i := 904) (by decide +kernel), List.mem_of_getElem? (i := 905) (by decide +kernel)⟩
theorem lw_p44 : lw_okq (⟨"HeapTowerModel", "begin", "(I)V"⟩, 18) := ⟨⟨by decide +kernel, by decide +kernel⟩, List.mem_of_getElem? (i := 740) (by decide +kernel), List.mem_of_getElem? (i := 908) (by decide +kernel), List.mem_of_getElem? (i := 909) (by decide +kernel)⟩
theorem lw_p45 : lw_okq (⟨"HeapTowerModel", "take", "(I)V"⟩, 18) := ⟨⟨by decide +kernel, by decide +kernel⟩, List.mem_of_getElem? (i := 740) (by decide +kernel), List.mem_of_getElem? (i := 912) (by decide +kernel), List.mem_of_getElem? (i := 913) (by decide +kernel)⟩
theorem lw_p46 : lw_okq (⟨"HeapTowerModel", "spread", "(II)V"⟩, 18) := ⟨⟨by decide +kernel, by decide +kernel⟩, List.mem_of_getElem? (i := 740) (by decide +kernel), List.mem_of_getElem? (i := 916) (by decide +kernel), List.mem_of_getElem? (i := 917) (by decide +kernel)⟩
theorem lw_p47 : lw_okq (⟨"HeapTowerModel", "enter", "()V"⟩, 18) := ⟨⟨by decide +kernel, by decide +kernel⟩, List.mem_of_getElem? (i := 740) (by decide +kernel), List.mem_of_getElem? (i := 920) (by decide +kernel), List.mem_of_getElem? (i := 921) (by decide +kernel)⟩
def lw_privs_3 : List (MethodName × Nat) := [(⟨"HeapTowerModel", "clear", "(I)V"⟩, 18), (⟨"HeapTowerModel", "put", "(III)V"⟩, 18), (⟨"HeapTowerModel", "isProduct", "(III)Z"⟩, 18), (⟨"HeapTowerModel", "get", "(II)I"⟩, 18), (⟨"HeapTowerModel", "mod", "(J)I"⟩, 18), (⟨"HeapTowerModel", "products", "(I)I"⟩, 18), (⟨"HeapTowerModel", "degree", "(I)I"⟩, 18), (⟨"HeapTowerModel", "isEven", "(I)Z"⟩, 18), (⟨"HeapTowerModel", "isGreater", "(II)Z"⟩, 18), (⟨"HeapTowerModel", "power", "(II)I"⟩, 18), (⟨"HeapTowerModel", "move", "(II)V"⟩, 18), (⟨"HeapTowerModel", "heap", "(I)V"⟩, 18), (⟨"HeapTowerModel", "begin", "(I)V"⟩, 18), (⟨"HeapTowerModel", "take", "(I)V"⟩, 18), (⟨"HeapTowerModel", "spread", "(II)V"⟩, 18), (⟨"HeapTowerModel", "enter", "()V"⟩, 18)]
theorem lw_r3 : ∀ q ∈ lw_privs_3, lw_okq q := List.forall_mem_cons.mpr ⟨lw_p32, List.forall_mem_cons.mpr ⟨lw_p33, List.forall_mem_cons.mpr ⟨lw_p34, List.forall_mem_cons.mpr ⟨lw_p35, List.forall_mem_cons.mpr ⟨lw_p36, List.forall_mem_cons.mpr ⟨lw_p37, List.forall_mem_cons.mpr ⟨lw_p38, List.forall_mem_cons.mpr ⟨lw_p39, List.forall_mem_cons.mpr ⟨lw_p40, List.forall_mem_cons.mpr ⟨lw_p41, List.forall_mem_cons.mpr ⟨lw_p42, List.forall_mem_cons.mpr ⟨lw_p43, List.forall_mem_cons.mpr ⟨lw_p44, List.forall_mem_cons.mpr ⟨lw_p45, List.forall_mem_cons.mpr ⟨lw_p46, List.forall_mem_cons.mpr ⟨lw_p47, fun _ h => absurd h List.not_mem_nil⟩⟩⟩⟩⟩⟩⟩⟩⟩⟩⟩⟩⟩⟩⟩⟩
theorem lw_p48 : lw_okq (⟨"HeapTowerModel", "less", "(II)V"⟩, 18) := ⟨⟨by decide +kernel, by decide +kernel⟩, List.mem_of_getElem? (i := 740) (by decide +kernel), List.mem_of_getElem? (i := 924) (by decide +kernel), List.mem_of_getElem? (i := 925) (by decide +kernel)⟩
theorem lw_p49 : lw_okq (⟨"HeapTowerModel", "inverse", "(I)I"⟩, 18) := ⟨⟨by decide +kernel, by decide +kernel⟩, List.mem_of_getElem? (i := 740) (by decide +kernel), List.mem_of_getElem? (i := 928) (by decide +kernel), List.mem_of_getElem? (i := 929) (by decide +kernel)⟩
theorem lw_p50 : lw_okq (⟨"HeapTowerModel", "bases", "(II)I"⟩, 18) := ⟨⟨by decide +kernel, by decide +kernel⟩, List.mem_of_getElem? (i := 740) (by decide +kernel), List.mem_of_getElem? (i := 940) (by decide +kernel), List.mem_of_getElem? (i := 941) (by decide +kernel)⟩
theorem lw_p51 : lw_okq (⟨"HeapTowerModel", "divides", "(II)Z"⟩, 18) := ⟨⟨by decide +kernel, by decide +kernel⟩, List.mem_of_getElem? (i := 740) (by decide +kernel), List.mem_of_getElem? (i := 944) (by decide +kernel), List.mem_of_getElem? (i := 945) (by decide +kernel)⟩
theorem lw_p52 : lw_okq (⟨"HeapTowerModel", "chains", "(II)I"⟩, 18) := ⟨⟨by decide +kernel, by decide +kernel⟩, List.mem_of_getElem? (i := 740) (by decide +kernel), List.mem_of_getElem? (i := 960) (by decide +kernel), List.mem_of_getElem? (i := 961) (by decide +kernel)⟩
theorem lw_p53 : lw_okq (⟨"HeapTowerModel", "setsOf", "(I)I"⟩, 18) := ⟨⟨by decide +kernel, by decide +kernel⟩, List.mem_of_getElem? (i := 740) (by decide +kernel), List.mem_of_getElem? (i := 964) (by decide +kernel), List.mem_of_getElem? (i := 965) (by decide +kernel)⟩
theorem lw_p54 : lw_okq (⟨"HeapTowerModel", "steps", "(II)I"⟩, 18) := ⟨⟨by decide +kernel, by decide +kernel⟩, List.mem_of_getElem? (i := 740) (by decide +kernel), List.mem_of_getElem? (i := 971) (by decide +kernel), List.mem_of_getElem? (i := 972) (by decide +kernel)⟩
theorem lw_p55 : lw_okq (⟨"HeapTowerModel", "takeStandard", "(I)V"⟩, 18) := ⟨⟨by decide +kernel, by decide +kernel⟩, List.mem_of_getElem? (i := 740) (by decide +kernel), List.mem_of_getElem? (i := 975) (by decide +kernel), List.mem_of_getElem? (i := 976) (by decide +kernel)⟩
theorem lw_p56 : lw_okq (⟨"HeapTowerModel", "place", "(I)I"⟩, 18) := ⟨⟨by decide +kernel, by decide +kernel⟩, List.mem_of_getElem? (i := 740) (by decide +kernel), List.mem_of_getElem? (i := 979) (by decide +kernel), List.mem_of_getElem? (i := 980) (by decide +kernel)⟩
theorem lw_p57 : lw_okq (⟨"HeapTowerModel", "product", "(IIZ)V"⟩, 18) := ⟨⟨by decide +kernel, by decide +kernel⟩, List.mem_of_getElem? (i := 740) (by decide +kernel), List.mem_of_getElem? (i := 983) (by decide +kernel), List.mem_of_getElem? (i := 984) (by decide +kernel)⟩
theorem lw_p58 : lw_okq (⟨"HeapTowerModel", "rankOf", "(II)I"⟩, 18) := ⟨⟨by decide +kernel, by decide +kernel⟩, List.mem_of_getElem? (i := 740) (by decide +kernel), List.mem_of_getElem? (i := 987) (by decide +kernel), List.mem_of_getElem? (i := 988) (by decide +kernel)⟩
theorem lw_p59 : lw_okq (⟨"HeapTowerModel", "mayAsk", "()Z"⟩, 18) := ⟨⟨by decide +kernel, by decide +kernel⟩, List.mem_of_getElem? (i := 740) (by decide +kernel), List.mem_of_getElem? (i := 995) (by decide +kernel), List.mem_of_getElem? (i := 996) (by decide +kernel)⟩
theorem lw_p60 : lw_okq (⟨"HeapTowerModel", "quotientOf", "(I)I"⟩, 18) := ⟨⟨by decide +kernel, by decide +kernel⟩, List.mem_of_getElem? (i := 740) (by decide +kernel), List.mem_of_getElem? (i := 999) (by decide +kernel), List.mem_of_getElem? (i := 1000) (by decide +kernel)⟩
theorem lw_p61 : lw_okq (⟨"HeapTowerModel", "dimensionOf", "(II)I"⟩, 18) := ⟨⟨by decide +kernel, by decide +kernel⟩, List.mem_of_getElem? (i := 740) (by decide +kernel), List.mem_of_getElem? (i := 1019) (by decide +kernel), List.mem_of_getElem? (i := 1020) (by decide +kernel)⟩
theorem lw_p62 : lw_okq (⟨"HeapTowerModel", "addOther", "(I)V"⟩, 18) := ⟨⟨by decide +kernel, by decide +kernel⟩, List.mem_of_getElem? (i := 740) (by decide +kernel), List.mem_of_getElem? (i := 1023) (by decide +kernel), List.mem_of_getElem? (i := 1024) (by decide +kernel)⟩
theorem lw_p63 : lw_okq (⟨"HeapTowerModel", "dimensionOf3", "(I)I"⟩, 18) := ⟨⟨by decide +kernel, by decide +kernel⟩, List.mem_of_getElem? (i := 740) (by decide +kernel), List.mem_of_getElem? (i := 1027) (by decide +kernel), List.mem_of_getElem? (i := 1028) (by decide +kernel)⟩
def lw_privs_4 : List (MethodName × Nat) := [(⟨"HeapTowerModel", "less", "(II)V"⟩, 18), (⟨"HeapTowerModel", "inverse", "(I)I"⟩, 18), (⟨"HeapTowerModel", "bases", "(II)I"⟩, 18), (⟨"HeapTowerModel", "divides", "(II)Z"⟩, 18), (⟨"HeapTowerModel", "chains", "(II)I"⟩, 18), (⟨"HeapTowerModel", "setsOf", "(I)I"⟩, 18), (⟨"HeapTowerModel", "steps", "(II)I"⟩, 18), (⟨"HeapTowerModel", "takeStandard", "(I)V"⟩, 18), (⟨"HeapTowerModel", "place", "(I)I"⟩, 18), (⟨"HeapTowerModel", "product", "(IIZ)V"⟩, 18), (⟨"HeapTowerModel", "rankOf", "(II)I"⟩, 18), (⟨"HeapTowerModel", "mayAsk", "()Z"⟩, 18), (⟨"HeapTowerModel", "quotientOf", "(I)I"⟩, 18), (⟨"HeapTowerModel", "dimensionOf", "(II)I"⟩, 18), (⟨"HeapTowerModel", "addOther", "(I)V"⟩, 18), (⟨"HeapTowerModel", "dimensionOf3", "(I)I"⟩, 18)]
theorem lw_r4 : ∀ q ∈ lw_privs_4, lw_okq q := List.forall_mem_cons.mpr ⟨lw_p48, List.forall_mem_cons.mpr ⟨lw_p49, List.forall_mem_cons.mpr ⟨lw_p50, List.forall_mem_cons.mpr ⟨lw_p51, List.forall_mem_cons.mpr ⟨lw_p52, List.forall_mem_cons.mpr ⟨lw_p53, List.forall_mem_cons.mpr ⟨lw_p54, List.forall_mem_cons.mpr ⟨lw_p55, List.forall_mem_cons.mpr ⟨lw_p56, List.forall_mem_cons.mpr ⟨lw_p57, List.forall_mem_cons.mpr ⟨lw_p58, List.forall_mem_cons.mpr ⟨lw_p59, List.forall_mem_cons.mpr ⟨lw_p60, List.forall_mem_cons.mpr ⟨lw_p61, List.forall_mem_cons.mpr ⟨lw_p62, List.forall_mem_cons.mpr ⟨lw_p63, fun _ h => absurd h List.not_mem_nil⟩⟩⟩⟩⟩⟩⟩⟩⟩⟩⟩⟩⟩⟩⟩⟩
theorem lw_p64 : lw_okq (⟨"HeapTowerModel", "multiply", "(III)V"⟩, 18) := ⟨⟨by decide +kernel, by decide +kernel⟩, List.mem_of_getElem? (i := 740) (by decide +kernel), List.mem_of_getElem? (i := 1031) (by decide +kernel), List.mem_of_getElem? (i := 1032) (by decide +kernel)⟩
def lw_privs_5 : List (MethodName × Nat) := [(⟨"HeapTowerModel", "multiply", "(III)V"⟩, 18)]
theorem lw_r5 : ∀ q ∈ lw_privs_5, lw_okq q := List.forall_mem_cons.mpr ⟨lw_p64, fun _ h => absurd h List.not_mem_nil⟩
def lw_privs : List (MethodName × Nat) := lw_privs_1 ++ (lw_privs_2 ++ (lw_privs_3 ++ (lw_privs_4 ++ (lw_privs_5))))
def lw_tbl : List Cond := k2_sels lw_privs ++ tables_1
theorem lw_privs_ok : ∀ q ∈ lw_privs, lw_okq q := by
  show ∀ q ∈ lw_privs_1 ++ (lw_privs_2 ++ (lw_privs_3 ++ (lw_privs_4 ++ (lw_privs_5)))), lw_okq q
  exact List.forall_mem_append.mpr ⟨lw_r1, List.forall_mem_append.mpr ⟨lw_r2, List.forall_mem_append.mpr ⟨lw_r3, List.forall_mem_append.mpr ⟨lw_r4, lw_r5⟩⟩⟩⟩
-- classes and their fields
def R_Ba : String := "HeapTower$Base"
def F_Ba : u_T := fun k => match k with
  | 0 => ("HeapTower$Base", "products", "LHeapTower$Products;", true)
  | 1 => ("HeapTower$Base", "numbers", "LHeapTower$Numbers;", true)
  | 2 => ("HeapTower$Base", "fresh", "LHeapTower$Rows;", true)
  | 3 => ("HeapTower$Base", "work", "[I", true)
  | 4 => ("HeapTower$Base", "places", "[I", true)
  | 5 => ("HeapTower$Base", "values", "[I", true)
  | 6 => ("HeapTower$Base", "starts", "[I", true)
  | 7 => ("HeapTower$Base", "degrees", "[I", true)
  | 8 => ("HeapTower$Base", "leaders", "[I", true)
  | 9 => ("HeapTower$Base", "sizes", "[I", true)
  | 10 => ("HeapTower$Base", "standard", "[I", true)
  | 11 => ("HeapTower$Base", "needed", "[I", true)
  | 12 => ("HeapTower$Base", "reached", "I", false)
  | _ => ("HeapTower$Base", "size", "I", false)
def t_Ba : Nat → FieldType := fun k => match k with
  | 0 => (.object "HeapTower$Products")
  | 1 => (.object "HeapTower$Numbers")
  | 2 => (.object "HeapTower$Rows")
  | 3 => (.array .int)
  | 4 => (.array .int)
  | 5 => (.array .int)
  | 6 => (.array .int)
  | 7 => (.array .int)
  | 8 => (.array .int)
  | 9 => (.array .int)
  | 10 => (.array .int)
  | 11 => (.array .int)
  | 12 => .int
  | _ => .int
theorem n_Ba : ∀ a, a < 14 → ∀ b, b < 14 → a ≠ b → (F_Ba a).2.1 ≠ (F_Ba b).2.1 := by decide +kernel
theorem t_Ba_ok : ∀ k, k < 14 → parseFieldDescriptor (F_Ba k).2.2.1 = some (t_Ba k) := by decide +kernel
theorem i_Ba : ∀ w ∈ u_ws R_Ba F_Ba 14, w ∈ lw_tbl := by decide +kernel
def R_He : String := "HeapTower$Heap"
def F_He : u_T := fun k => match k with
  | 0 => ("HeapTower$Heap", "base", "LHeapTower$Base;", true)
  | 1 => ("HeapTower$Heap", "work", "[I", true)
  | 2 => ("HeapTower$Heap", "degrees", "[I", true)
  | 3 => ("HeapTower$Heap", "rows", "[[I", true)
  | _ => ("HeapTower$Heap", "size", "I", false)
def t_He : Nat → FieldType := fun k => match k with
  | 0 => (.object "HeapTower$Base")
  | 1 => (.array .int)
  | 2 => (.array .int)
  | 3 => (.array (.array .int))
  | _ => .int
theorem n_He : ∀ a, a < 5 → ∀ b, b < 5 → a ≠ b → (F_He a).2.1 ≠ (F_He b).2.1 := by decide +kernel
theorem t_He_ok : ∀ k, k < 5 → parseFieldDescriptor (F_He k).2.2.1 = some (t_He k) := by decide +kernel
theorem i_He : ∀ w ∈ u_ws R_He F_He 5, w ∈ lw_tbl := by decide +kernel
def R_Nu : String := "HeapTower$Numbers"
def F_Nu : u_T := fun k => match k with
  | 0 => ("HeapTower$Numbers", "inverses", "[I", true)
  | _ => ("HeapTower$Numbers", "prime", "I", false)
def t_Nu : Nat → FieldType := fun k => match k with
  | 0 => (.array .int)
  | _ => .int
theorem n_Nu : ∀ a, a < 2 → ∀ b, b < 2 → a ≠ b → (F_Nu a).2.1 ≠ (F_Nu b).2.1 := by decide +kernel
theorem t_Nu_ok : ∀ k, k < 2 → parseFieldDescriptor (F_Nu k).2.2.1 = some (t_Nu k) := by decide +kernel
theorem i_Nu : ∀ w ∈ u_ws R_Nu F_Nu 2, w ∈ lw_tbl := by decide +kernel
def R_Po : String := "HeapTower$Polynomial"
def F_Po : u_T := fun k => match k with
  | 0 => ("HeapTower$Polynomial", "products", "LHeapTower$Products;", true)
  | _ => ("HeapTower$Polynomial", "held", "[I", true)
def t_Po : Nat → FieldType := fun k => match k with
  | 0 => (.object "HeapTower$Products")
  | _ => (.array .int)
theorem n_Po : ∀ a, a < 2 → ∀ b, b < 2 → a ≠ b → (F_Po a).2.1 ≠ (F_Po b).2.1 := by decide +kernel
theorem t_Po_ok : ∀ k, k < 2 → parseFieldDescriptor (F_Po k).2.2.1 = some (t_Po k) := by decide +kernel
theorem i_Po : ∀ w ∈ u_ws R_Po F_Po 2, w ∈ lw_tbl := by decide +kernel
def R_Pr : String := "HeapTower$Products"
def F_Pr : u_T := fun k => match k with
  | 0 => ("HeapTower$Products", "second", "[I", true)
  | 1 => ("HeapTower$Products", "third", "[I", true)
  | 2 => ("HeapTower$Products", "line", "[I", true)
  | 3 => ("HeapTower$Products", "amounts", "[I", true)
  | 4 => ("HeapTower$Products", "letterCount", "I", false)
  | _ => ("HeapTower$Products", "orderNow", "I", false)
def t_Pr : Nat → FieldType := fun k => match k with
  | 0 => (.array .int)
  | 1 => (.array .int)
  | 2 => (.array .int)
  | 3 => (.array .int)
  | 4 => .int
  | _ => .int
theorem n_Pr : ∀ a, a < 6 → ∀ b, b < 6 → a ≠ b → (F_Pr a).2.1 ≠ (F_Pr b).2.1 := by decide +kernel
theorem t_Pr_ok : ∀ k, k < 6 → parseFieldDescriptor (F_Pr k).2.2.1 = some (t_Pr k) := by decide +kernel
theorem i_Pr : ∀ w ∈ u_ws R_Pr F_Pr 6, w ∈ lw_tbl := by decide +kernel
def R_Ro : String := "HeapTower$Rows"
def F_Ro : u_T := fun k => match k with
  | 0 => ("HeapTower$Rows", "products", "LHeapTower$Products;", true)
  | 1 => ("HeapTower$Rows", "numbers", "LHeapTower$Numbers;", true)
  | 2 => ("HeapTower$Rows", "rows", "[[I", true)
  | 3 => ("HeapTower$Rows", "rowOfHead", "[I", true)
  | 4 => ("HeapTower$Rows", "line", "[I", true)
  | 5 => ("HeapTower$Rows", "amount", "I", false)
  | 6 => ("HeapTower$Rows", "prime", "I", false)
  | _ => ("HeapTower$Rows", "size", "I", false)
def t_Ro : Nat → FieldType := fun k => match k with
  | 0 => (.object "HeapTower$Products")
  | 1 => (.object "HeapTower$Numbers")
  | 2 => (.array (.array .int))
  | 3 => (.array .int)
  | 4 => (.array .int)
  | 5 => .int
  | 6 => .int
  | _ => .int
theorem n_Ro : ∀ a, a < 8 → ∀ b, b < 8 → a ≠ b → (F_Ro a).2.1 ≠ (F_Ro b).2.1 := by decide +kernel
theorem t_Ro_ok : ∀ k, k < 8 → parseFieldDescriptor (F_Ro k).2.2.1 = some (t_Ro k) := by decide +kernel
theorem i_Ro : ∀ w ∈ u_ws R_Ro F_Ro 8, w ∈ lw_tbl := by decide +kernel
def R_HT : String := "HeapTower"
def F_HT : u_T := fun k => match k with
  | 0 => ("HeapTower", "products", "LHeapTower$Products;", true)
  | 1 => ("HeapTower", "numbers", "LHeapTower$Numbers;", true)
  | 2 => ("HeapTower", "scratchRows", "LHeapTower$Rows;", true)
  | 3 => ("HeapTower", "work", "[I", true)
  | 4 => ("HeapTower", "socleImages", "[[I", true)
  | 5 => ("HeapTower", "theDraft", "LHeapTower$Polynomial;", true)
  | 6 => ("HeapTower", "claims", "[LHeapTower$Polynomial;", true)
  | 7 => ("HeapTower", "sumBase", "LHeapTower$Base;", true)
  | 8 => ("HeapTower", "productBase", "LHeapTower$Base;", true)
  | 9 => ("HeapTower", "quotientBase", "LHeapTower$Base;", true)
  | 10 => ("HeapTower", "theHeap", "LHeapTower$Heap;", false)
  | _ => ("HeapTower", "theOther", "LHeapTower$Heap;", false)
def t_HT : Nat → FieldType := fun k => match k with
  | 0 => (.object "HeapTower$Products")
  | 1 => (.object "HeapTower$Numbers")
  | 2 => (.object "HeapTower$Rows")
  | 3 => (.array .int)
  | 4 => (.array (.array .int))
  | 5 => (.object "HeapTower$Polynomial")
  | 6 => (.array (.object "HeapTower$Polynomial"))
  | 7 => (.object "HeapTower$Base")
  | 8 => (.object "HeapTower$Base")
  | 9 => (.object "HeapTower$Base")
  | 10 => (.object "HeapTower$Heap")
  | _ => (.object "HeapTower$Heap")
theorem n_HT : ∀ a, a < 12 → ∀ b, b < 12 → a ≠ b → (F_HT a).2.1 ≠ (F_HT b).2.1 := by decide +kernel
theorem t_HT_ok : ∀ k, k < 12 → parseFieldDescriptor (F_HT k).2.2.1 = some (t_HT k) := by decide +kernel
theorem i_HT : ∀ w ∈ u_ws R_HT F_HT 12, w ∈ lw_tbl := by decide +kernel
def R_Mo : String := "HeapTowerModel"
def F_Mo : u_T := fun k => match k with
  | 0 => ("HeapTowerModel", "polys", "[I", true)
  | 1 => ("HeapTowerModel", "letters", "I", false)
  | 2 => ("HeapTowerModel", "prime", "I", false)
  | 3 => ("HeapTowerModel", "order", "I", false)
  | 4 => ("HeapTowerModel", "rows", "I", false)
  | 5 => ("HeapTowerModel", "others", "I", false)
  | 6 => ("HeapTowerModel", "list", "[I", true)
  | 7 => ("HeapTowerModel", "places", "[I", true)
  | 8 => ("HeapTowerModel", "many", "I", false)
  | 9 => ("HeapTowerModel", "cleared", "[I", true)
  | 10 => ("HeapTowerModel", "vector", "[I", true)
  | 11 => ("HeapTowerModel", "isPivot", "[Z", true)
  | 12 => ("HeapTowerModel", "rank", "I", false)
  | 13 => ("HeapTowerModel", "leads", "[Z", true)
  | 14 => ("HeapTowerModel", "matrix", "[I", true)
  | 15 => ("HeapTowerModel", "standard", "[I", true)
  | 16 => ("HeapTowerModel", "standards", "I", false)
  | _ => ("HeapTowerModel", "column", "[I", true)
def t_Mo : Nat → FieldType := fun k => match k with
  | 0 => (.array .int)
  | 1 => .int
  | 2 => .int
  | 3 => .int
  | 4 => .int
  | 5 => .int
  | 6 => (.array .int)
  | 7 => (.array .int)
  | 8 => .int
  | 9 => (.array .int)
  | 10 => (.array .int)
  | 11 => (.array .boolean)
  | 12 => .int
  | 13 => (.array .boolean)
  | 14 => (.array .int)
  | 15 => (.array .int)
  | 16 => .int
  | _ => (.array .int)
theorem n_Mo : ∀ a, a < 18 → ∀ b, b < 18 → a ≠ b → (F_Mo a).2.1 ≠ (F_Mo b).2.1 := by decide +kernel
theorem t_Mo_ok : ∀ k, k < 18 → parseFieldDescriptor (F_Mo k).2.2.1 = some (t_Mo k) := by decide +kernel
theorem i_Mo : ∀ w ∈ u_ws R_Mo F_Mo 18, w ∈ lw_tbl := by decide +kernel
abbrev hT_cl : List vw_C := [(R_Ba, F_Ba, 14), (R_He, F_He, 5), (R_Nu, F_Nu, 2), (R_Po, F_Po, 2), (R_Pr, F_Pr, 6), (R_Ro, F_Ro, 8), (R_HT, F_HT, 12), (R_Mo, F_Mo, 18)]
/-- which fields of a class are numbers -/
def fB : Nat → List Bool := fun k => match k with
  | 0 => [false, false, false, false, false, false, false, false, false, false, false, false, true, true]
  | 1 => [false, false, false, false, true]
  | 2 => [false, true]
  | 3 => [false, false]
  | 4 => [false, false, false, false, true, true]
  | 5 => [false, false, false, false, false, true, true, true]
  | 6 => [false, false, false, false, false, false, false, false, false, false, false, false]
  | _ => [false, true, true, true, true, true, false, false, true, false, false, false, true, false, false, false, true, false]
def gw : List Cond := lw_tbl.filter goodWord
-- methods
def y_HT_new : MethodName := ⟨"HeapTower", "<init>", "()V"⟩
abbrev b_HT_new : ByteArray := prog_1_method_1_code
def w_HT_new : List Cond := .code y_HT_new b_HT_new 2 none :: gw
def y_Ob_new : MethodName := ⟨"java/lang/Object", "<init>", "()V"⟩
abbrev b_Ob_new : ByteArray := object_method_1_code
def w_Ob_new : List Cond := .code y_Ob_new b_Ob_new 1 none :: gw
def y_Pr_new : MethodName := ⟨"HeapTower$Products", "<init>", "()V"⟩
abbrev b_Pr_new : ByteArray := prog_6_method_1_code
def w_Pr_new : List Cond := .code y_Pr_new b_Pr_new 3 none :: gw
def y_Pr_place : MethodName := ⟨"HeapTower$Products", "place", "(II)I"⟩
abbrev b_Pr_place : ByteArray := prog_6_method_2_code
def w_Pr_place : List Cond := .code y_Pr_place b_Pr_place 2 (some .int) :: gw
def y_Pr_arrange : MethodName := ⟨"HeapTower$Products", "arrange", "(II)V"⟩
abbrev b_Pr_arrange : ByteArray := prog_6_method_3_code
def w_Pr_arrange : List Cond := .code y_Pr_arrange b_Pr_arrange 4 none :: gw
def y_Pr_lineByLast : MethodName := ⟨"HeapTower$Products", "lineByLast", "(I)I"⟩
abbrev b_Pr_lineByLast : ByteArray := prog_6_method_4_code
def w_Pr_lineByLast : List Cond := .code y_Pr_lineByLast b_Pr_lineByLast 5 (some .int) :: gw
def y_Pr_lineByFirst : MethodName := ⟨"HeapTower$Products", "lineByFirst", "(I)I"⟩
abbrev b_Pr_lineByFirst : ByteArray := prog_6_method_5_code
def w_Pr_lineByFirst : List Cond := .code y_Pr_lineByFirst b_Pr_lineByFirst 5 (some .int) :: gw
def y_Nu_new : MethodName := ⟨"HeapTower$Numbers", "<init>", "()V"⟩
abbrev b_Nu_new : ByteArray := prog_4_method_1_code
def w_Nu_new : List Cond := .code y_Nu_new b_Nu_new 1 none :: gw
def y_Nu_setPrime : MethodName := ⟨"HeapTower$Numbers", "setPrime", "(I)V"⟩
abbrev b_Nu_setPrime : ByteArray := prog_4_method_3_code
def w_Nu_setPrime : List Cond := .code y_Nu_setPrime b_Nu_setPrime 3 none :: gw
def y_Ro_new : MethodName := ⟨"HeapTower$Rows", "<init>", "(LHeapTower$Products;LHeapTower$Numbers;)V"⟩
abbrev b_Ro_new : ByteArray := prog_7_method_1_code
def w_Ro_new : List Cond := .code y_Ro_new b_Ro_new 3 none :: gw
def y_Po_new : MethodName := ⟨"HeapTower$Polynomial", "<init>", "(LHeapTower$Products;)V"⟩
abbrev b_Po_new : ByteArray := prog_5_method_1_code
def w_Po_new : List Cond := .code y_Po_new b_Po_new 2 none :: gw
def y_Ba_new : MethodName := ⟨"HeapTower$Base", "<init>", "(LHeapTower$Products;LHeapTower$Numbers;LHeapTower$Rows;[I)V"⟩
abbrev b_Ba_new : ByteArray := prog_2_method_1_code
def w_Ba_new : List Cond := .code y_Ba_new b_Ba_new 5 none :: gw
def y_He_new : MethodName := ⟨"HeapTower$Heap", "<init>", "(LHeapTower$Base;[I)V"⟩
abbrev b_He_new : ByteArray := prog_3_method_1_code
def w_He_new : List Cond := .code y_He_new b_He_new 3 none :: gw
def y_HT_letters : MethodName := ⟨"HeapTower", "letters", "(II)I"⟩
abbrev b_HT_letters : ByteArray := prog_1_method_2_code
def w_HT_letters : List Cond := .code y_HT_letters b_HT_letters 3 (some .int) :: gw
def y_Nu_isPrime : MethodName := ⟨"HeapTower$Numbers", "isPrime", "(I)Z"⟩
abbrev b_Nu_isPrime : ByteArray := prog_4_method_2_code
def w_Nu_isPrime : List Cond := .code y_Nu_isPrime b_Nu_isPrime 2 (some .boolean) :: gw
def y_Pr_orderNow : MethodName := ⟨"HeapTower$Products", "orderNow", "()I"⟩
abbrev b_Pr_orderNow : ByteArray := prog_6_method_7_code
def w_Pr_orderNow : List Cond := .code y_Pr_orderNow b_Pr_orderNow 1 (some .int) :: gw
def y_He_empty : MethodName := ⟨"HeapTower$Heap", "empty", "()V"⟩
abbrev b_He_empty : ByteArray := prog_3_method_7_code
def w_He_empty : List Cond := .code y_He_empty b_He_empty 1 none :: gw
def y_He_forgetBase : MethodName := ⟨"HeapTower$Heap", "forgetBase", "()V"⟩
abbrev b_He_forgetBase : ByteArray := prog_3_method_8_code
def w_He_forgetBase : List Cond := .code y_He_forgetBase b_He_forgetBase 1 none :: gw
def y_Ba_forget : MethodName := ⟨"HeapTower$Base", "forget", "(I)V"⟩
abbrev b_Ba_forget : ByteArray := prog_2_method_3_code
def w_Ba_forget : List Cond := .code y_Ba_forget b_Ba_forget 2 none :: gw
def y_Ma_max : MethodName := ⟨"java/lang/Math", "max", "(II)I"⟩
abbrev b_Ma_max : ByteArray := prog_10_method_65_code
def w_Ma_max : List Cond := .code y_Ma_max b_Ma_max 2 (some .int) :: gw
def y_HT_clearClaims : MethodName := ⟨"HeapTower", "clearClaims", "()V"⟩
abbrev b_HT_clearClaims : ByteArray := prog_1_method_30_code
def w_HT_clearClaims : List Cond := .code y_HT_clearClaims b_HT_clearClaims 2 none :: gw
def y_Po_clear : MethodName := ⟨"HeapTower$Polynomial", "clear", "()V"⟩
abbrev b_Po_clear : ByteArray := prog_5_method_2_code
def w_Po_clear : List Cond := .code y_Po_clear b_Po_clear 1 none :: gw
def y_Ar_fill2 : MethodName := ⟨"java/util/Arrays", "fill", "([II)V"⟩
abbrev b_Ar_fill2 : ByteArray := prog_12_method_103_code
def w_Ar_fill2 : List Cond := .code y_Ar_fill2 b_Ar_fill2 4 none :: gw
def y_HT_forgetAllBases : MethodName := ⟨"HeapTower", "forgetAllBases", "()V"⟩
abbrev b_HT_forgetAllBases : ByteArray := prog_1_method_29_code
def w_HT_forgetAllBases : List Cond := .code y_HT_forgetAllBases b_HT_forgetAllBases 1 none :: gw
def y_HT_order : MethodName := ⟨"HeapTower", "order", "(I)I"⟩
abbrev b_HT_order : ByteArray := prog_1_method_3_code
def w_HT_order : List Cond := .code y_HT_order b_HT_order 3 (some .int) :: gw
def y_Pr_letterCount : MethodName := ⟨"HeapTower$Products", "letterCount", "()I"⟩
abbrev b_Pr_letterCount : ByteArray := prog_6_method_6_code
def w_Pr_letterCount : List Cond := .code y_Pr_letterCount b_Pr_letterCount 1 (some .int) :: gw
def y_HT_term : MethodName := ⟨"HeapTower", "term", "(IIII)I"⟩
abbrev b_HT_term : ByteArray := prog_1_method_4_code
def w_HT_term : List Cond := .code y_HT_term b_HT_term 8 (some .int) :: gw
def y_HT_isProduct : MethodName := ⟨"HeapTower", "isProduct", "(III)Z"⟩
abbrev b_HT_isProduct : ByteArray := prog_1_method_31_code
def w_HT_isProduct : List Cond := .code y_HT_isProduct b_HT_isProduct 5 (some .boolean) :: gw
def y_Po_numberAt : MethodName := ⟨"HeapTower$Polynomial", "numberAt", "(II)I"⟩
abbrev b_Po_numberAt : ByteArray := prog_5_method_4_code
def w_Po_numberAt : List Cond := .code y_Po_numberAt b_Po_numberAt 3 (some .int) :: gw
def y_Nu_modulo : MethodName := ⟨"HeapTower$Numbers", "modulo", "(I)I"⟩
abbrev b_Nu_modulo : ByteArray := prog_4_method_5_code
def w_Nu_modulo : List Cond := .code y_Nu_modulo b_Nu_modulo 2 (some .int) :: gw
def y_Ma_floorMod : MethodName := ⟨"java/lang/Math", "floorMod", "(II)I"⟩
abbrev b_Ma_floorMod : ByteArray := prog_10_method_50_code
def w_Ma_floorMod : List Cond := .code y_Ma_floorMod b_Ma_floorMod 3 (some .int) :: gw
def y_Po_setNumber : MethodName := ⟨"HeapTower$Polynomial", "setNumber", "(III)V"⟩
abbrev b_Po_setNumber : ByteArray := prog_5_method_5_code
def w_Po_setNumber : List Cond := .code y_Po_setNumber b_Po_setNumber 4 none :: gw
def y_HT_draftChanged : MethodName := ⟨"HeapTower", "draftChanged", "()V"⟩
abbrev b_HT_draftChanged : ByteArray := prog_1_method_27_code
def w_HT_draftChanged : List Cond := .code y_HT_draftChanged b_HT_draftChanged 1 none :: gw
def y_HT_number : MethodName := ⟨"HeapTower", "number", "(III)I"⟩
abbrev b_HT_number : ByteArray := prog_1_method_5_code
def w_HT_number : List Cond := .code y_HT_number b_HT_number 4 (some .int) :: gw
def y_HT_wipe : MethodName := ⟨"HeapTower", "wipe", "()I"⟩
abbrev b_HT_wipe : ByteArray := prog_1_method_6_code
def w_HT_wipe : List Cond := .code y_HT_wipe b_HT_wipe 2 (some .int) :: gw
def y_Po_size : MethodName := ⟨"HeapTower$Polynomial", "size", "()I"⟩
abbrev b_Po_size : ByteArray := prog_5_method_6_code
def w_Po_size : List Cond := .code y_Po_size b_Po_size 3 (some .int) :: gw
def y_HT_draft : MethodName := ⟨"HeapTower", "draft", "(I)I"⟩
abbrev b_HT_draft : ByteArray := prog_1_method_7_code
def w_HT_draft : List Cond := .code y_HT_draft b_HT_draft 2 (some .int) :: gw
def y_Po_degree : MethodName := ⟨"HeapTower$Polynomial", "degree", "()I"⟩
abbrev b_Po_degree : ByteArray := prog_5_method_7_code
def w_Po_degree : List Cond := .code y_Po_degree b_Po_degree 2 (some .int) :: gw
def y_Po_sizeOf : MethodName := ⟨"HeapTower$Polynomial", "sizeOf", "(I)I"⟩
abbrev b_Po_sizeOf : ByteArray := prog_5_method_9_code
def w_Po_sizeOf : List Cond := .code y_Po_sizeOf b_Po_sizeOf 4 (some .int) :: gw
def y_Po_isEven : MethodName := ⟨"HeapTower$Polynomial", "isEven", "()Z"⟩
abbrev b_Po_isEven : ByteArray := prog_5_method_8_code
def w_Po_isEven : List Cond := .code y_Po_isEven b_Po_isEven 2 (some .boolean) :: gw
def y_HT_headOfDraft : MethodName := ⟨"HeapTower", "headOfDraft", "()I"⟩
abbrev b_HT_headOfDraft : ByteArray := prog_1_method_32_code
def w_HT_headOfDraft : List Cond := .code y_HT_headOfDraft b_HT_headOfDraft 3 (some .int) :: gw
def y_Po_headPlace : MethodName := ⟨"HeapTower$Polynomial", "headPlace", "()I"⟩
abbrev b_Po_headPlace : ByteArray := prog_5_method_10_code
def w_Po_headPlace : List Cond := .code y_Po_headPlace b_Po_headPlace 3 (some .int) :: gw
def y_Pr_amount : MethodName := ⟨"HeapTower$Products", "amount", "(I)I"⟩
abbrev b_Pr_amount : ByteArray := prog_6_method_8_code
def w_Pr_amount : List Cond := .code y_Pr_amount b_Pr_amount 2 (some .int) :: gw
def y_Pr_at : MethodName := ⟨"HeapTower$Products", "at", "(II)I"⟩
abbrev b_Pr_at : ByteArray := prog_6_method_9_code
def w_Pr_at : List Cond := .code y_Pr_at b_Pr_at 3 (some .int) :: gw
def y_Pr_power : MethodName := ⟨"HeapTower$Products", "power", "(III)I"⟩
abbrev b_Pr_power : ByteArray := prog_6_method_10_code
def w_Pr_power : List Cond := .code y_Pr_power b_Pr_power 4 (some .int) :: gw
def y_HT_times : MethodName := ⟨"HeapTower", "times", "(III)I"⟩
abbrev b_HT_times : ByteArray := prog_1_method_8_code
def w_HT_times : List Cond := .code y_HT_times b_HT_times 4 (some .int) :: gw
def y_Po_moveUp : MethodName := ⟨"HeapTower$Polynomial", "moveUp", "(II)V"⟩
abbrev b_Po_moveUp : ByteArray := prog_5_method_13_code
def w_Po_moveUp : List Cond := .code y_Po_moveUp b_Po_moveUp 4 none :: gw
def y_Ar_fill4 : MethodName := ⟨"java/util/Arrays", "fill", "([IIII)V"⟩
abbrev b_Ar_fill4 : ByteArray := prog_12_method_104_code
def w_Ar_fill4 : List Cond := .code y_Ar_fill4 b_Ar_fill4 5 none :: gw
def y_Ar_rangeCheck : MethodName := ⟨"java/util/Arrays", "rangeCheck", "(III)V"⟩
abbrev b_Ar_rangeCheck : ByteArray := prog_12_method_30_code
def w_Ar_rangeCheck : List Cond := .code y_Ar_rangeCheck b_Ar_rangeCheck 3 none :: gw
def y_Po_movePartUp : MethodName := ⟨"HeapTower$Polynomial", "movePartUp", "(III)V"⟩
abbrev b_Po_movePartUp : ByteArray := prog_5_method_14_code
def w_Po_movePartUp : List Cond := .code y_Po_movePartUp b_Po_movePartUp 6 none :: gw
def y_Pr_together : MethodName := ⟨"HeapTower$Products", "together", "(II)I"⟩
abbrev b_Pr_together : ByteArray := prog_6_method_11_code
def w_Pr_together : List Cond := .code y_Pr_together b_Pr_together 3 (some .int) :: gw
def y_HT_row : MethodName := ⟨"HeapTower", "row", "()I"⟩
abbrev b_HT_row : ByteArray := prog_1_method_9_code
def w_HT_row : List Cond := .code y_HT_row b_HT_row 3 (some .int) :: gw
def y_He_isFull : MethodName := ⟨"HeapTower$Heap", "isFull", "()Z"⟩
abbrev b_He_isFull : ByteArray := prog_3_method_3_code
def w_He_isFull : List Cond := .code y_He_isFull b_He_isFull 1 (some .boolean) :: gw
def y_He_size : MethodName := ⟨"HeapTower$Heap", "size", "()I"⟩
abbrev b_He_size : ByteArray := prog_3_method_2_code
def w_He_size : List Cond := .code y_He_size b_He_size 1 (some .int) :: gw
def y_He_append : MethodName := ⟨"HeapTower$Heap", "append", "(LHeapTower$Polynomial;I)V"⟩
abbrev b_He_append : ByteArray := prog_3_method_9_code
def w_He_append : List Cond := .code y_He_append b_He_append 3 none :: gw
def y_Po_loadPart : MethodName := ⟨"HeapTower$Polynomial", "loadPart", "(I[I)V"⟩
abbrev b_Po_loadPart : ByteArray := prog_5_method_11_code
def w_Po_loadPart : List Cond := .code y_Po_loadPart b_Po_loadPart 4 none :: gw
def y_HT_heapChanged : MethodName := ⟨"HeapTower", "heapChanged", "(I)V"⟩
abbrev b_HT_heapChanged : ByteArray := prog_1_method_28_code
def w_HT_heapChanged : List Cond := .code y_HT_heapChanged b_HT_heapChanged 2 none :: gw
def y_HT_drop : MethodName := ⟨"HeapTower", "drop", "()I"⟩
abbrev b_HT_drop : ByteArray := prog_1_method_10_code
def w_HT_drop : List Cond := .code y_HT_drop b_HT_drop 3 (some .int) :: gw
def y_He_degreeOf : MethodName := ⟨"HeapTower$Heap", "degreeOf", "(I)I"⟩
abbrev b_He_degreeOf : ByteArray := prog_3_method_5_code
def w_He_degreeOf : List Cond := .code y_He_degreeOf b_He_degreeOf 2 (some .int) :: gw
def y_He_removeLatest : MethodName := ⟨"HeapTower$Heap", "removeLatest", "()V"⟩
abbrev b_He_removeLatest : ByteArray := prog_3_method_10_code
def w_He_removeLatest : List Cond := .code y_He_removeLatest b_He_removeLatest 1 none :: gw
def y_HT_copy : MethodName := ⟨"HeapTower", "copy", "(I)I"⟩
abbrev b_HT_copy : ByteArray := prog_1_method_11_code
def w_HT_copy : List Cond := .code y_HT_copy b_HT_copy 2 (some .int) :: gw
def y_He_has : MethodName := ⟨"HeapTower$Heap", "has", "(I)Z"⟩
abbrev b_He_has : ByteArray := prog_3_method_4_code
def w_He_has : List Cond := .code y_He_has b_He_has 2 (some .boolean) :: gw
def y_He_load : MethodName := ⟨"HeapTower$Heap", "load", "(I[I)V"⟩
abbrev b_He_load : ByteArray := prog_3_method_12_code
def w_He_load : List Cond := .code y_He_load b_He_load 3 none :: gw
def y_Po_setPart : MethodName := ⟨"HeapTower$Polynomial", "setPart", "(I[I)V"⟩
abbrev b_Po_setPart : ByteArray := prog_5_method_12_code
def w_Po_setPart : List Cond := .code y_Po_setPart b_Po_setPart 4 none :: gw
def y_HT_rest : MethodName := ⟨"HeapTower", "rest", "()I"⟩
abbrev b_HT_rest : ByteArray := prog_1_method_12_code
def w_HT_rest : List Cond := .code y_HT_rest b_HT_rest 4 (some .int) :: gw
def y_He_baseUpTo : MethodName := ⟨"HeapTower$Heap", "baseUpTo", "(I)LHeapTower$Base;"⟩
abbrev b_He_baseUpTo : ByteArray := prog_3_method_14_code
def w_He_baseUpTo : List Cond := .code y_He_baseUpTo b_He_baseUpTo 3 (some (.object "HeapTower$Base")) :: gw
def y_Ba_reached : MethodName := ⟨"HeapTower$Base", "reached", "()I"⟩
abbrev b_Ba_reached : ByteArray := prog_2_method_2_code
def w_Ba_reached : List Cond := .code y_Ba_reached b_Ba_reached 1 (some .int) :: gw
def y_Ba_open : MethodName := ⟨"HeapTower$Base", "open", "(I)V"⟩
abbrev b_Ba_open : ByteArray := prog_2_method_11_code
def w_Ba_open : List Cond := .code y_Ba_open b_Ba_open 2 none :: gw
def y_Ro_begin : MethodName := ⟨"HeapTower$Rows", "begin", "(I)V"⟩
abbrev b_Ro_begin : ByteArray := prog_7_method_2_code
def w_Ro_begin : List Cond := .code y_Ro_begin b_Ro_begin 3 none :: gw
def y_Nu_prime : MethodName := ⟨"HeapTower$Numbers", "prime", "()I"⟩
abbrev b_Nu_prime : ByteArray := prog_4_method_4_code
def w_Nu_prime : List Cond := .code y_Nu_prime b_Nu_prime 1 (some .int) :: gw
def y_Ba_inherit : MethodName := ⟨"HeapTower$Base", "inherit", "(I)V"⟩
abbrev b_Ba_inherit : ByteArray := prog_2_method_16_code
def w_Ba_inherit : List Cond := .code y_Ba_inherit b_Ba_inherit 6 none :: gw
def y_Ba_leaderBelow : MethodName := ⟨"HeapTower$Base", "leaderBelow", "(III)I"⟩
abbrev b_Ba_leaderBelow : ByteArray := prog_2_method_17_code
def w_Ba_leaderBelow : List Cond := .code y_Ba_leaderBelow b_Ba_leaderBelow 4 (some .int) :: gw
def y_Pr_lowered : MethodName := ⟨"HeapTower$Products", "lowered", "(II)I"⟩
abbrev b_Pr_lowered : ByteArray := prog_6_method_13_code
def w_Pr_lowered : List Cond := .code y_Pr_lowered b_Pr_lowered 3 (some .int) :: gw
def y_Ba_offerDifferences : MethodName := ⟨"HeapTower$Base", "offerDifferences", "(I)V"⟩
abbrev b_Ba_offerDifferences : ByteArray := prog_2_method_18_code
def w_Ba_offerDifferences : List Cond := .code y_Ba_offerDifferences b_Ba_offerDifferences 8 none :: gw
def y_Ba_isNews : MethodName := ⟨"HeapTower$Base", "isNews", "(IIII)Z"⟩
abbrev b_Ba_isNews : ByteArray := prog_2_method_19_code
def w_Ba_isNews : List Cond := .code y_Ba_isNews b_Ba_isNews 9 (some .boolean) :: gw
def y_Ma_min : MethodName := ⟨"java/lang/Math", "min", "(II)I"⟩
abbrev b_Ma_min : ByteArray := prog_10_method_69_code
def w_Ma_min : List Cond := .code y_Ma_min b_Ma_min 2 (some .int) :: gw
def y_Ba_offerMoved : MethodName := ⟨"HeapTower$Base", "offerMoved", "(III)V"⟩
abbrev b_Ba_offerMoved : ByteArray := prog_2_method_20_code
def w_Ba_offerMoved : List Cond := .code y_Ba_offerMoved b_Ba_offerMoved 4 none :: gw
def y_Ba_addMoved : MethodName := ⟨"HeapTower$Base", "addMoved", "([IIII)V"⟩
abbrev b_Ba_addMoved : ByteArray := prog_2_method_15_code
def w_Ba_addMoved : List Cond := .code y_Ba_addMoved b_Ba_addMoved 15 none :: gw
def y_Ba_reduce : MethodName := ⟨"HeapTower$Base", "reduce", "(I[I)V"⟩
abbrev b_Ba_reduce : ByteArray := prog_2_method_14_code
def w_Ba_reduce : List Cond := .code y_Ba_reduce b_Ba_reduce 6 none :: gw
def y_Ro_add : MethodName := ⟨"HeapTower$Rows", "add", "([I)Z"⟩
abbrev b_Ro_add : ByteArray := prog_7_method_6_code
def w_Ro_add : List Cond := .code y_Ro_add b_Ro_add 6 (some .boolean) :: gw
def y_Ro_subtract : MethodName := ⟨"HeapTower$Rows", "subtract", "([II[I)V"⟩
abbrev b_Ro_subtract : ByteArray := prog_7_method_7_code
def w_Ro_subtract : List Cond := .code y_Ro_subtract b_Ro_subtract 6 none :: gw
def y_Nu_inverse : MethodName := ⟨"HeapTower$Numbers", "inverse", "(I)I"⟩
abbrev b_Nu_inverse : ByteArray := prog_4_method_6_code
def w_Nu_inverse : List Cond := .code y_Nu_inverse b_Nu_inverse 2 (some .int) :: gw
def y_He_offerRows : MethodName := ⟨"HeapTower$Heap", "offerRows", "(LHeapTower$Base;I)V"⟩
abbrev b_He_offerRows : ByteArray := prog_3_method_13_code
def w_He_offerRows : List Cond := .code y_He_offerRows b_He_offerRows 4 none :: gw
def y_Ba_offer : MethodName := ⟨"HeapTower$Base", "offer", "(I[I)V"⟩
abbrev b_Ba_offer : ByteArray := prog_2_method_12_code
def w_Ba_offer : List Cond := .code y_Ba_offer b_Ba_offer 3 none :: gw
def y_Ba_close : MethodName := ⟨"HeapTower$Base", "close", "(I)V"⟩
abbrev b_Ba_close : ByteArray := prog_2_method_13_code
def w_Ba_close : List Cond := .code y_Ba_close b_Ba_close 4 none :: gw
def y_Ro_hasHead : MethodName := ⟨"HeapTower$Rows", "hasHead", "(I)Z"⟩
abbrev b_Ro_hasHead : ByteArray := prog_7_method_4_code
def w_Ro_hasHead : List Cond := .code y_Ro_hasHead b_Ro_hasHead 2 (some .boolean) :: gw
def y_Ba_append : MethodName := ⟨"HeapTower$Base", "append", "(II)V"⟩
abbrev b_Ba_append : ByteArray := prog_2_method_21_code
def w_Ba_append : List Cond := .code y_Ba_append b_Ba_append 7 none :: gw
def y_Ro_numberAt : MethodName := ⟨"HeapTower$Rows", "numberAt", "(II)I"⟩
abbrev b_Ro_numberAt : ByteArray := prog_7_method_5_code
def w_Ro_numberAt : List Cond := .code y_Ro_numberAt b_Ro_numberAt 3 (some .int) :: gw
def y_Ba_isStandard : MethodName := ⟨"HeapTower$Base", "isStandard", "(II)Z"⟩
abbrev b_Ba_isStandard : ByteArray := prog_2_method_7_code
def w_Ba_isStandard : List Cond := .code y_Ba_isStandard b_Ba_isStandard 3 (some .boolean) :: gw
def y_HT_loadRestOfDraft : MethodName := ⟨"HeapTower", "loadRestOfDraft", "(LHeapTower$Base;I)Z"⟩
abbrev b_HT_loadRestOfDraft : ByteArray := prog_1_method_33_code
def w_HT_loadRestOfDraft : List Cond := .code y_HT_loadRestOfDraft b_HT_loadRestOfDraft 3 (some .boolean) :: gw
def y_Pr_isZero : MethodName := ⟨"HeapTower$Products", "isZero", "(I[I)Z"⟩
abbrev b_Pr_isZero : ByteArray := prog_6_method_14_code
def w_Pr_isZero : List Cond := .code y_Pr_isZero b_Pr_isZero 4 (some .boolean) :: gw
def y_HT_in : MethodName := ⟨"HeapTower", "in", "()I"⟩
abbrev b_HT_in : ByteArray := prog_1_method_13_code
def w_HT_in : List Cond := .code y_HT_in b_HT_in 4 (some .int) :: gw
def y_HT_base : MethodName := ⟨"HeapTower", "base", "(I)I"⟩
abbrev b_HT_base : ByteArray := prog_1_method_14_code
def w_HT_base : List Cond := .code y_HT_base b_HT_base 2 (some .int) :: gw
def y_Ba_sizeUpTo : MethodName := ⟨"HeapTower$Base", "sizeUpTo", "(I)I"⟩
abbrev b_Ba_sizeUpTo : ByteArray := prog_2_method_4_code
def w_Ba_sizeUpTo : List Cond := .code y_Ba_sizeUpTo b_Ba_sizeUpTo 2 (some .int) :: gw
def y_HT_element : MethodName := ⟨"HeapTower", "element", "(I)I"⟩
abbrev b_HT_element : ByteArray := prog_1_method_15_code
def w_HT_element : List Cond := .code y_HT_element b_HT_element 3 (some .int) :: gw
def y_Ba_loadElement : MethodName := ⟨"HeapTower$Base", "loadElement", "(I[I)V"⟩
abbrev b_Ba_loadElement : ByteArray := prog_2_method_10_code
def w_Ba_loadElement : List Cond := .code y_Ba_loadElement b_Ba_loadElement 4 none :: gw
def y_Ba_degreeOf : MethodName := ⟨"HeapTower$Base", "degreeOf", "(I)I"⟩
abbrev b_Ba_degreeOf : ByteArray := prog_2_method_9_code
def w_Ba_degreeOf : List Cond := .code y_Ba_degreeOf b_Ba_degreeOf 2 (some .int) :: gw
def y_HT_count : MethodName := ⟨"HeapTower", "count", "(I)I"⟩
abbrev b_HT_count : ByteArray := prog_1_method_16_code
def w_HT_count : List Cond := .code y_HT_count b_HT_count 2 (some .int) :: gw
def y_Ba_standardCount : MethodName := ⟨"HeapTower$Base", "standardCount", "(I)I"⟩
abbrev b_Ba_standardCount : ByteArray := prog_2_method_5_code
def w_Ba_standardCount : List Cond := .code y_Ba_standardCount b_Ba_standardCount 2 (some .int) :: gw
def y_HT_free : MethodName := ⟨"HeapTower", "free", "(II)I"⟩
abbrev b_HT_free : ByteArray := prog_1_method_17_code
def w_HT_free : List Cond := .code y_HT_free b_HT_free 4 (some .int) :: gw
def y_HT_freeAtGround : MethodName := ⟨"HeapTower", "freeAtGround", "(I)I"⟩
abbrev b_HT_freeAtGround : ByteArray := prog_1_method_42_code
def w_HT_freeAtGround : List Cond := .code y_HT_freeAtGround b_HT_freeAtGround 2 (some .int) :: gw
def y_Ba_neededRows : MethodName := ⟨"HeapTower$Base", "neededRows", "(I)I"⟩
abbrev b_Ba_neededRows : ByteArray := prog_2_method_8_code
def w_Ba_neededRows : List Cond := .code y_Ba_neededRows b_Ba_neededRows 2 (some .int) :: gw
def y_HT_freeAtSecond : MethodName := ⟨"HeapTower", "freeAtSecond", "(LHeapTower$Base;I)I"⟩
abbrev b_HT_freeAtSecond : ByteArray := prog_1_method_43_code
def w_HT_freeAtSecond : List Cond := .code y_HT_freeAtSecond b_HT_freeAtSecond 5 (some .int) :: gw
def y_HT_freeAtThird : MethodName := ⟨"HeapTower", "freeAtThird", "(LHeapTower$Base;I)I"⟩
abbrev b_HT_freeAtThird : ByteArray := prog_1_method_45_code
def w_HT_freeAtThird : List Cond := .code y_HT_freeAtThird b_HT_freeAtThird 7 (some .int) :: gw
def y_Ro_size : MethodName := ⟨"HeapTower$Rows", "size", "()I"⟩
abbrev b_Ro_size : ByteArray := prog_7_method_3_code
def w_Ro_size : List Cond := .code y_Ro_size b_Ro_size 1 (some .int) :: gw
def y_HT_loadImages : MethodName := ⟨"HeapTower", "loadImages", "(LHeapTower$Base;II)V"⟩
abbrev b_HT_loadImages : ByteArray := prog_1_method_46_code
def w_HT_loadImages : List Cond := .code y_HT_loadImages b_HT_loadImages 8 none :: gw
def y_Pr_raised : MethodName := ⟨"HeapTower$Products", "raised", "(II)I"⟩
abbrev b_Pr_raised : ByteArray := prog_6_method_12_code
def w_Pr_raised : List Cond := .code y_Pr_raised b_Pr_raised 3 (some .int) :: gw
def y_HT_signedChains : MethodName := ⟨"HeapTower", "signedChains", "(LHeapTower$Base;II)I"⟩
abbrev b_HT_signedChains : ByteArray := prog_1_method_44_code
def w_HT_signedChains : List Cond := .code y_HT_signedChains b_HT_signedChains 7 (some .int) :: gw
def y_HT_quotient : MethodName := ⟨"HeapTower", "quotient", "(I)I"⟩
abbrev b_HT_quotient : ByteArray := prog_1_method_18_code
def w_HT_quotient : List Cond := .code y_HT_quotient b_HT_quotient 4 (some .int) :: gw
def y_HT_quotientBaseUpTo : MethodName := ⟨"HeapTower", "quotientBaseUpTo", "(II)LHeapTower$Base;"⟩
abbrev b_HT_quotientBaseUpTo : ByteArray := prog_1_method_40_code
def w_HT_quotientBaseUpTo : List Cond := .code y_HT_quotientBaseUpTo b_HT_quotientBaseUpTo 4 (some (.object "HeapTower$Base")) :: gw
def y_HT_regular : MethodName := ⟨"HeapTower", "regular", "()I"⟩
abbrev b_HT_regular : ByteArray := prog_1_method_19_code
def w_HT_regular : List Cond := .code y_HT_regular b_HT_regular 5 (some .int) :: gw
def y_HT_keep : MethodName := ⟨"HeapTower", "keep", "()I"⟩
abbrev b_HT_keep : ByteArray := prog_1_method_20_code
def w_HT_keep : List Cond := .code y_HT_keep b_HT_keep 2 (some .int) :: gw
def y_He_become : MethodName := ⟨"HeapTower$Heap", "become", "(LHeapTower$Heap;)V"⟩
abbrev b_He_become : ByteArray := prog_3_method_11_code
def w_He_become : List Cond := .code y_He_become b_He_become 3 none :: gw
def y_HT_swap : MethodName := ⟨"HeapTower", "swap", "()I"⟩
abbrev b_HT_swap : ByteArray := prog_1_method_21_code
def w_HT_swap : List Cond := .code y_HT_swap b_HT_swap 2 (some .int) :: gw
def y_HT_dimension : MethodName := ⟨"HeapTower", "dimension", "(II)I"⟩
abbrev b_HT_dimension : ByteArray := prog_1_method_22_code
def w_HT_dimension : List Cond := .code y_HT_dimension b_HT_dimension 3 (some .int) :: gw
def y_Ba_leadingCount : MethodName := ⟨"HeapTower$Base", "leadingCount", "(I)I"⟩
abbrev b_Ba_leadingCount : ByteArray := prog_2_method_6_code
def w_Ba_leadingCount : List Cond := .code y_Ba_leadingCount b_Ba_leadingCount 2 (some .int) :: gw
def y_HT_sumBaseUpTo : MethodName := ⟨"HeapTower", "sumBaseUpTo", "(I)LHeapTower$Base;"⟩
abbrev b_HT_sumBaseUpTo : ByteArray := prog_1_method_36_code
def w_HT_sumBaseUpTo : List Cond := .code y_HT_sumBaseUpTo b_HT_sumBaseUpTo 3 (some (.object "HeapTower$Base")) :: gw
def y_HT_productBaseUpTo : MethodName := ⟨"HeapTower", "productBaseUpTo", "(I)LHeapTower$Base;"⟩
abbrev b_HT_productBaseUpTo : ByteArray := prog_1_method_37_code
def w_HT_productBaseUpTo : List Cond := .code y_HT_productBaseUpTo b_HT_productBaseUpTo 3 (some (.object "HeapTower$Base")) :: gw
def y_HT_offerRowProducts : MethodName := ⟨"HeapTower", "offerRowProducts", "(I)V"⟩
abbrev b_HT_offerRowProducts : ByteArray := prog_1_method_38_code
def w_HT_offerRowProducts : List Cond := .code y_HT_offerRowProducts b_HT_offerRowProducts 4 none :: gw
def y_HT_loadRowProduct : MethodName := ⟨"HeapTower", "loadRowProduct", "(II)V"⟩
abbrev b_HT_loadRowProduct : ByteArray := prog_1_method_39_code
def w_HT_loadRowProduct : List Cond := .code y_HT_loadRowProduct b_HT_loadRowProduct 11 none :: gw
def y_He_numbersOf : MethodName := ⟨"HeapTower$Heap", "numbersOf", "(I)[I"⟩
abbrev b_He_numbersOf : ByteArray := prog_3_method_6_code
def w_He_numbersOf : List Cond := .code y_He_numbersOf b_He_numbersOf 2 (some (.array .int)) :: gw
def y_HT_parts : MethodName := ⟨"HeapTower", "parts", "()I"⟩
abbrev b_HT_parts : ByteArray := prog_1_method_23_code
def w_HT_parts : List Cond := .code y_HT_parts b_HT_parts 2 (some .int) :: gw
def y_HT_leastOutside : MethodName := ⟨"HeapTower", "leastOutside", "(LHeapTower$Heap;LHeapTower$Base;)I"⟩
abbrev b_HT_leastOutside : ByteArray := prog_1_method_41_code
def w_HT_leastOutside : List Cond := .code y_HT_leastOutside b_HT_leastOutside 6 (some .int) :: gw
def y_HT_claim : MethodName := ⟨"HeapTower", "claim", "(I)I"⟩
abbrev b_HT_claim : ByteArray := prog_1_method_24_code
def w_HT_claim : List Cond := .code y_HT_claim b_HT_claim 2 (some .int) :: gw
def y_Po_become : MethodName := ⟨"HeapTower$Polynomial", "become", "(LHeapTower$Polynomial;)V"⟩
abbrev b_Po_become : ByteArray := prog_5_method_3_code
def w_Po_become : List Cond := .code y_Po_become b_Po_become 2 none :: gw
def y_HT_sum : MethodName := ⟨"HeapTower", "sum", "()I"⟩
abbrev b_HT_sum : ByteArray := prog_1_method_25_code
def w_HT_sum : List Cond := .code y_HT_sum b_HT_sum 2 (some .int) :: gw
def y_HT_addClaimTimesRow : MethodName := ⟨"HeapTower", "addClaimTimesRow", "(I)V"⟩
abbrev b_HT_addClaimTimesRow : ByteArray := prog_1_method_34_code
def w_HT_addClaimTimesRow : List Cond := .code y_HT_addClaimTimesRow b_HT_addClaimTimesRow 7 none :: gw
def y_HT_addWorkToDraft : MethodName := ⟨"HeapTower", "addWorkToDraft", "(IIII)V"⟩
abbrev b_HT_addWorkToDraft : ByteArray := prog_1_method_35_code
def w_HT_addWorkToDraft : List Cond := .code y_HT_addWorkToDraft b_HT_addWorkToDraft 9 none :: gw
def y_HT_told : MethodName := ⟨"HeapTower", "told", "(I)I"⟩
abbrev b_HT_told : ByteArray := prog_1_method_26_code
def w_HT_told : List Cond := .code y_HT_told b_HT_told 2 (some .int) :: gw
def y_Mo_new : MethodName := ⟨"HeapTowerModel", "<init>", "()V"⟩
abbrev b_Mo_new : ByteArray := prog_9_method_1_code
def w_Mo_new : List Cond := .code y_Mo_new b_Mo_new 1 none :: gw
def y_Mo_letters : MethodName := ⟨"HeapTowerModel", "letters", "(II)I"⟩
abbrev b_Mo_letters : ByteArray := prog_9_method_19_code
def w_Mo_letters : List Cond := .code y_Mo_letters b_Mo_letters 4 (some .int) :: gw
def y_Mo_in3 : MethodName := ⟨"HeapTowerModel", "in", "(III)Z"⟩
abbrev b_Mo_in3 : ByteArray := prog_9_method_3_code
def w_Mo_in3 : List Cond := .code y_Mo_in3 b_Mo_in3 3 (some .boolean) :: gw
def y_Mo_isPrime : MethodName := ⟨"HeapTowerModel", "isPrime", "(I)Z"⟩
abbrev b_Mo_isPrime : ByteArray := prog_9_method_18_code
def w_Mo_isPrime : List Cond := .code y_Mo_isPrime b_Mo_isPrime 2 (some .boolean) :: gw
def y_Mo_clear : MethodName := ⟨"HeapTowerModel", "clear", "(I)V"⟩
abbrev b_Mo_clear : ByteArray := prog_9_method_13_code
def w_Mo_clear : List Cond := .code y_Mo_clear b_Mo_clear 3 none :: gw
def y_Mo_put : MethodName := ⟨"HeapTowerModel", "put", "(III)V"⟩
abbrev b_Mo_put : ByteArray := prog_9_method_12_code
def w_Mo_put : List Cond := .code y_Mo_put b_Mo_put 4 none :: gw
def y_Mo_order : MethodName := ⟨"HeapTowerModel", "order", "(I)I"⟩
abbrev b_Mo_order : ByteArray := prog_9_method_20_code
def w_Mo_order : List Cond := .code y_Mo_order b_Mo_order 3 (some .int) :: gw
def y_Mo_term : MethodName := ⟨"HeapTowerModel", "term", "(IIII)I"⟩
abbrev b_Mo_term : ByteArray := prog_9_method_21_code
def w_Mo_term : List Cond := .code y_Mo_term b_Mo_term 6 (some .int) :: gw
def y_Mo_isProduct : MethodName := ⟨"HeapTowerModel", "isProduct", "(III)Z"⟩
abbrev b_Mo_isProduct : ByteArray := prog_9_method_8_code
def w_Mo_isProduct : List Cond := .code y_Mo_isProduct b_Mo_isProduct 4 (some .boolean) :: gw
def y_Mo_powers : MethodName := ⟨"HeapTowerModel", "powers", "(III)I"⟩
abbrev b_Mo_powers : ByteArray := prog_9_method_6_code
def w_Mo_powers : List Cond := .code y_Mo_powers b_Mo_powers 3 (some .int) :: gw
def y_Mo_get : MethodName := ⟨"HeapTowerModel", "get", "(II)I"⟩
abbrev b_Mo_get : ByteArray := prog_9_method_11_code
def w_Mo_get : List Cond := .code y_Mo_get b_Mo_get 3 (some .int) :: gw
def y_Mo_mod : MethodName := ⟨"HeapTowerModel", "mod", "(J)I"⟩
abbrev b_Mo_mod : ByteArray := prog_9_method_4_code
def w_Mo_mod : List Cond := .code y_Mo_mod b_Mo_mod 5 (some .int) :: gw
def y_Mo_number : MethodName := ⟨"HeapTowerModel", "number", "(III)I"⟩
abbrev b_Mo_number : ByteArray := prog_9_method_22_code
def w_Mo_number : List Cond := .code y_Mo_number b_Mo_number 4 (some .int) :: gw
def y_Mo_wipe : MethodName := ⟨"HeapTowerModel", "wipe", "()I"⟩
abbrev b_Mo_wipe : ByteArray := prog_9_method_23_code
def w_Mo_wipe : List Cond := .code y_Mo_wipe b_Mo_wipe 2 (some .int) :: gw
def y_Mo_products : MethodName := ⟨"HeapTowerModel", "products", "(I)I"⟩
abbrev b_Mo_products : ByteArray := prog_9_method_14_code
def w_Mo_products : List Cond := .code y_Mo_products b_Mo_products 4 (some .int) :: gw
def y_Mo_draft : MethodName := ⟨"HeapTowerModel", "draft", "(I)I"⟩
abbrev b_Mo_draft : ByteArray := prog_9_method_24_code
def w_Mo_draft : List Cond := .code y_Mo_draft b_Mo_draft 4 (some .int) :: gw
def y_Mo_degree : MethodName := ⟨"HeapTowerModel", "degree", "(I)I"⟩
abbrev b_Mo_degree : ByteArray := prog_9_method_15_code
def w_Mo_degree : List Cond := .code y_Mo_degree b_Mo_degree 4 (some .int) :: gw
def y_Mo_degreeOf : MethodName := ⟨"HeapTowerModel", "degreeOf", "(I)I"⟩
abbrev b_Mo_degreeOf : ByteArray := prog_9_method_7_code
def w_Mo_degreeOf : List Cond := .code y_Mo_degreeOf b_Mo_degreeOf 1 (some .int) :: gw
def y_Mo_isEven : MethodName := ⟨"HeapTowerModel", "isEven", "(I)Z"⟩
abbrev b_Mo_isEven : ByteArray := prog_9_method_16_code
def w_Mo_isEven : List Cond := .code y_Mo_isEven b_Mo_isEven 4 (some .boolean) :: gw
def y_Mo_isGreater : MethodName := ⟨"HeapTowerModel", "isGreater", "(II)Z"⟩
abbrev b_Mo_isGreater : ByteArray := prog_9_method_10_code
def w_Mo_isGreater : List Cond := .code y_Mo_isGreater b_Mo_isGreater 4 (some .boolean) :: gw
def y_Mo_power : MethodName := ⟨"HeapTowerModel", "power", "(II)I"⟩
abbrev b_Mo_power : ByteArray := prog_9_method_9_code
def w_Mo_power : List Cond := .code y_Mo_power b_Mo_power 3 (some .int) :: gw
def y_Mo_times : MethodName := ⟨"HeapTowerModel", "times", "(III)I"⟩
abbrev b_Mo_times : ByteArray := prog_9_method_25_code
def w_Mo_times : List Cond := .code y_Mo_times b_Mo_times 5 (some .int) :: gw
def y_Mo_move : MethodName := ⟨"HeapTowerModel", "move", "(II)V"⟩
abbrev b_Mo_move : ByteArray := prog_9_method_17_code
def w_Mo_move : List Cond := .code y_Mo_move b_Mo_move 4 none :: gw
def y_Mo_row : MethodName := ⟨"HeapTowerModel", "row", "()I"⟩
abbrev b_Mo_row : ByteArray := prog_9_method_26_code
def w_Mo_row : List Cond := .code y_Mo_row b_Mo_row 2 (some .int) :: gw
def y_Mo_drop : MethodName := ⟨"HeapTowerModel", "drop", "()I"⟩
abbrev b_Mo_drop : ByteArray := prog_9_method_27_code
def w_Mo_drop : List Cond := .code y_Mo_drop b_Mo_drop 1 (some .int) :: gw
def y_Mo_copy : MethodName := ⟨"HeapTowerModel", "copy", "(I)I"⟩
abbrev b_Mo_copy : ByteArray := prog_9_method_28_code
def w_Mo_copy : List Cond := .code y_Mo_copy b_Mo_copy 2 (some .int) :: gw
def y_Mo_rest : MethodName := ⟨"HeapTowerModel", "rest", "()I"⟩
abbrev b_Mo_rest : ByteArray := prog_9_method_36_code
def w_Mo_rest : List Cond := .code y_Mo_rest b_Mo_rest 3 (some .int) :: gw
def y_Mo_heap : MethodName := ⟨"HeapTowerModel", "heap", "(I)V"⟩
abbrev b_Mo_heap : ByteArray := prog_9_method_34_code
def w_Mo_heap : List Cond := .code y_Mo_heap b_Mo_heap 3 none :: gw
def y_Mo_begin : MethodName := ⟨"HeapTowerModel", "begin", "(I)V"⟩
abbrev b_Mo_begin : ByteArray := prog_9_method_30_code
def w_Mo_begin : List Cond := .code y_Mo_begin b_Mo_begin 3 none :: gw
def y_Mo_take : MethodName := ⟨"HeapTowerModel", "take", "(I)V"⟩
abbrev b_Mo_take : ByteArray := prog_9_method_29_code
def w_Mo_take : List Cond := .code y_Mo_take b_Mo_take 7 none :: gw
def y_Mo_spread : MethodName := ⟨"HeapTowerModel", "spread", "(II)V"⟩
abbrev b_Mo_spread : ByteArray := prog_9_method_33_code
def w_Mo_spread : List Cond := .code y_Mo_spread b_Mo_spread 8 none :: gw
def y_Mo_enter : MethodName := ⟨"HeapTowerModel", "enter", "()V"⟩
abbrev b_Mo_enter : ByteArray := prog_9_method_31_code
def w_Mo_enter : List Cond := .code y_Mo_enter b_Mo_enter 6 none :: gw
def y_Mo_less : MethodName := ⟨"HeapTowerModel", "less", "(II)V"⟩
abbrev b_Mo_less : ByteArray := prog_9_method_32_code
def w_Mo_less : List Cond := .code y_Mo_less b_Mo_less 4 none :: gw
def y_Mo_inverse : MethodName := ⟨"HeapTowerModel", "inverse", "(I)I"⟩
abbrev b_Mo_inverse : ByteArray := prog_9_method_5_code
def w_Mo_inverse : List Cond := .code y_Mo_inverse b_Mo_inverse 3 (some .int) :: gw
def y_Mo_in0 : MethodName := ⟨"HeapTowerModel", "in", "()I"⟩
abbrev b_Mo_in0 : ByteArray := prog_9_method_37_code
def w_Mo_in0 : List Cond := .code y_Mo_in0 b_Mo_in0 3 (some .int) :: gw
def y_Mo_base : MethodName := ⟨"HeapTowerModel", "base", "(I)I"⟩
abbrev b_Mo_base : ByteArray := prog_9_method_40_code
def w_Mo_base : List Cond := .code y_Mo_base b_Mo_base 2 (some .int) :: gw
def y_Mo_bases : MethodName := ⟨"HeapTowerModel", "bases", "(II)I"⟩
abbrev b_Mo_bases : ByteArray := prog_9_method_39_code
def w_Mo_bases : List Cond := .code y_Mo_bases b_Mo_bases 8 (some .int) :: gw
def y_Mo_divides : MethodName := ⟨"HeapTowerModel", "divides", "(II)Z"⟩
abbrev b_Mo_divides : ByteArray := prog_9_method_38_code
def w_Mo_divides : List Cond := .code y_Mo_divides b_Mo_divides 3 (some .boolean) :: gw
def y_Mo_element : MethodName := ⟨"HeapTowerModel", "element", "(I)I"⟩
abbrev b_Mo_element : ByteArray := prog_9_method_41_code
def w_Mo_element : List Cond := .code y_Mo_element b_Mo_element 3 (some .int) :: gw
def y_Mo_count : MethodName := ⟨"HeapTowerModel", "count", "(I)I"⟩
abbrev b_Mo_count : ByteArray := prog_9_method_42_code
def w_Mo_count : List Cond := .code y_Mo_count b_Mo_count 2 (some .int) :: gw
def y_Mo_free : MethodName := ⟨"HeapTowerModel", "free", "(II)I"⟩
abbrev b_Mo_free : ByteArray := prog_9_method_51_code
def w_Mo_free : List Cond := .code y_Mo_free b_Mo_free 3 (some .int) :: gw
def y_Mo_chains : MethodName := ⟨"HeapTowerModel", "chains", "(II)I"⟩
abbrev b_Mo_chains : ByteArray := prog_9_method_48_code
def w_Mo_chains : List Cond := .code y_Mo_chains b_Mo_chains 3 (some .int) :: gw
def y_Mo_setsOf : MethodName := ⟨"HeapTowerModel", "setsOf", "(I)I"⟩
abbrev b_Mo_setsOf : ByteArray := prog_9_method_46_code
def w_Mo_setsOf : List Cond := .code y_Mo_setsOf b_Mo_setsOf 4 (some .int) :: gw
def y_Mo_ones : MethodName := ⟨"HeapTowerModel", "ones", "(I)I"⟩
abbrev b_Mo_ones : ByteArray := prog_9_method_45_code
def w_Mo_ones : List Cond := .code y_Mo_ones b_Mo_ones 1 (some .int) :: gw
def y_Mo_steps : MethodName := ⟨"HeapTowerModel", "steps", "(II)I"⟩
abbrev b_Mo_steps : ByteArray := prog_9_method_49_code
def w_Mo_steps : List Cond := .code y_Mo_steps b_Mo_steps 14 (some .int) :: gw
def y_Mo_takeStandard : MethodName := ⟨"HeapTowerModel", "takeStandard", "(I)V"⟩
abbrev b_Mo_takeStandard : ByteArray := prog_9_method_44_code
def w_Mo_takeStandard : List Cond := .code y_Mo_takeStandard b_Mo_takeStandard 3 none :: gw
def y_Mo_place : MethodName := ⟨"HeapTowerModel", "place", "(I)I"⟩
abbrev b_Mo_place : ByteArray := prog_9_method_47_code
def w_Mo_place : List Cond := .code y_Mo_place b_Mo_place 4 (some .int) :: gw
def y_Mo_product : MethodName := ⟨"HeapTowerModel", "product", "(IIZ)V"⟩
abbrev b_Mo_product : ByteArray := prog_9_method_50_code
def w_Mo_product : List Cond := .code y_Mo_product b_Mo_product 7 none :: gw
def y_Mo_rankOf : MethodName := ⟨"HeapTowerModel", "rankOf", "(II)I"⟩
abbrev b_Mo_rankOf : ByteArray := prog_9_method_43_code
def w_Mo_rankOf : List Cond := .code y_Mo_rankOf b_Mo_rankOf 10 (some .int) :: gw
def y_Mo_quotient : MethodName := ⟨"HeapTowerModel", "quotient", "(I)I"⟩
abbrev b_Mo_quotient : ByteArray := prog_9_method_54_code
def w_Mo_quotient : List Cond := .code y_Mo_quotient b_Mo_quotient 2 (some .int) :: gw
def y_Mo_mayAsk : MethodName := ⟨"HeapTowerModel", "mayAsk", "()Z"⟩
abbrev b_Mo_mayAsk : ByteArray := prog_9_method_53_code
def w_Mo_mayAsk : List Cond := .code y_Mo_mayAsk b_Mo_mayAsk 1 (some .boolean) :: gw
def y_Mo_quotientOf : MethodName := ⟨"HeapTowerModel", "quotientOf", "(I)I"⟩
abbrev b_Mo_quotientOf : ByteArray := prog_9_method_52_code
def w_Mo_quotientOf : List Cond := .code y_Mo_quotientOf b_Mo_quotientOf 7 (some .int) :: gw
def y_Mo_regular : MethodName := ⟨"HeapTowerModel", "regular", "()I"⟩
abbrev b_Mo_regular : ByteArray := prog_9_method_55_code
def w_Mo_regular : List Cond := .code y_Mo_regular b_Mo_regular 3 (some .int) :: gw
def y_Mo_keep : MethodName := ⟨"HeapTowerModel", "keep", "()I"⟩
abbrev b_Mo_keep : ByteArray := prog_9_method_56_code
def w_Mo_keep : List Cond := .code y_Mo_keep b_Mo_keep 3 (some .int) :: gw
def y_Mo_swap : MethodName := ⟨"HeapTowerModel", "swap", "()I"⟩
abbrev b_Mo_swap : ByteArray := prog_9_method_57_code
def w_Mo_swap : List Cond := .code y_Mo_swap b_Mo_swap 2 (some .int) :: gw
def y_Mo_dimension : MethodName := ⟨"HeapTowerModel", "dimension", "(II)I"⟩
abbrev b_Mo_dimension : ByteArray := prog_9_method_61_code
def w_Mo_dimension : List Cond := .code y_Mo_dimension b_Mo_dimension 3 (some .int) :: gw
def y_Mo_dimensionOf : MethodName := ⟨"HeapTowerModel", "dimensionOf", "(II)I"⟩
abbrev b_Mo_dimensionOf : ByteArray := prog_9_method_58_code
def w_Mo_dimensionOf : List Cond := .code y_Mo_dimensionOf b_Mo_dimensionOf 5 (some .int) :: gw
def y_Mo_addOther : MethodName := ⟨"HeapTowerModel", "addOther", "(I)V"⟩
abbrev b_Mo_addOther : ByteArray := prog_9_method_35_code
def w_Mo_addOther : List Cond := .code y_Mo_addOther b_Mo_addOther 3 none :: gw
def y_Mo_dimensionOf3 : MethodName := ⟨"HeapTowerModel", "dimensionOf3", "(I)I"⟩
abbrev b_Mo_dimensionOf3 : ByteArray := prog_9_method_59_code
def w_Mo_dimensionOf3 : List Cond := .code y_Mo_dimensionOf3 b_Mo_dimensionOf3 4 (some .int) :: gw
def y_Mo_multiply : MethodName := ⟨"HeapTowerModel", "multiply", "(III)V"⟩
abbrev b_Mo_multiply : ByteArray := prog_9_method_60_code
def w_Mo_multiply : List Cond := .code y_Mo_multiply b_Mo_multiply 6 none :: gw
def y_Mo_parts : MethodName := ⟨"HeapTowerModel", "parts", "()I"⟩
abbrev b_Mo_parts : ByteArray := prog_9_method_62_code
def w_Mo_parts : List Cond := .code y_Mo_parts b_Mo_parts 3 (some .int) :: gw
def y_Mo_claim : MethodName := ⟨"HeapTowerModel", "claim", "(I)I"⟩
abbrev b_Mo_claim : ByteArray := prog_9_method_63_code
def w_Mo_claim : List Cond := .code y_Mo_claim b_Mo_claim 2 (some .int) :: gw
def y_Mo_sum : MethodName := ⟨"HeapTowerModel", "sum", "()I"⟩
abbrev b_Mo_sum : ByteArray := prog_9_method_64_code
def w_Mo_sum : List Cond := .code y_Mo_sum b_Mo_sum 3 (some .int) :: gw
def y_Mo_told : MethodName := ⟨"HeapTowerModel", "told", "(I)I"⟩
abbrev b_Mo_told : ByteArray := prog_9_method_65_code
def w_Mo_told : List Cond := .code y_Mo_told b_Mo_told 2 (some .int) :: gw
end
section
/-! THE MACHINE OVER A MEMORY OF NUMBERED CELLS: kinds and lengths, numbers, references, how many cells -/
theorem gw_in {w : Cond} (h : w ∈ lw_tbl) (g : goodWord w = true) : w ∈ gw := List.mem_filter.mpr ⟨h, g⟩
theorem gw_good : ∀ w ∈ gw, goodWord w = true := fun _ h => (List.mem_filter.mp h).2
theorem gw_tbl : ∀ w ∈ gw, w ∈ lw_tbl := fun _ h => (List.mem_filter.mp h).1
abbrev Mem : Type := (Nat → Nat × Nat) × (Nat → Nat → Int32) × (Nat → Nat → Option Nat) × Nat
def kd (M : Mem) (c : Nat) : Nat := (M.1 c).1
def ln (M : Mem) (c : Nat) : Nat := (M.1 c).2
def gI (M : Mem) (c k : Nat) : Int32 := M.2.1 c k
def gR (M : Mem) (c k : Nat) : Option Nat := M.2.2.1 c k
def nC (M : Mem) : Nat := M.2.2.2
def sI (M : Mem) (c k : Nat) (v : Int32) : Mem := (M.1, fun a => if a = c then upd (M.2.1 c) k v else M.2.1 a, M.2.2)
def sA (M : Mem) (c : Nat) (f : Nat → Int32) : Mem := (M.1, fun a => if a = c then f else M.2.1 a, M.2.2)
def sR (M : Mem) (c k : Nat) (v : Option Nat) : Mem := (M.1, M.2.1, fun a => if a = c then va_up (M.2.2.1 c) k v else M.2.2.1 a, M.2.2.2)
/-- cell c is there, of kind k -/
def isK (M : Mem) (c k : Nat) : Prop := c < nC M ∧ kd M c = k
/-- cell c is an array of kind k, i lies within -/
def isA (M : Mem) (c k : Nat) (i : Int32) : Prop := (c < nC M ∧ kd M c = k) ∧ vp_in i (ln M c)
/-- the fields of an object: numbers and references by their table -/
def fls (b : List Bool) (B : Nat) (f : Nat → Int32) (g : Nat → Option Nat) : List Value := (List.range b.length).map (fun k => if b.getD k false = true then .int (f k) else va_rf ((g k).map (B + ·)))
def cellE (B : Nat) (ac : Nat → ClassId) (M : Mem) (c : Nat) : va_E :=
  if kd M c < 8 then .inr (kd M c, fls (fB (kd M c)) B (gI M c) (gR M c))
  else if kd M c < 10 then .inl (ac (kd M c), (ln M c, .inl (gI M c)))
  else .inl (ac (kd M c), (ln M c, .inr (.inr (.inr (.inr (fun j => (gR M c j).map (B + ·)))))))
def wsM (B : Nat) (ac : Nat → ClassId) (M : Mem) : va_W := (List.range (nC M)).map (fun c => (B + c, cellE B ac M c))
def AB (B : Nat) : Nat → Prop := fun q => B ≤ q
def tysA (ac : Nat → ClassId) : List (ClassId × FieldType) := [(ac 8, .int), (ac 9, .boolean), (ac 10, .object "HeapTower$Polynomial"), (ac 11, .array .int)]
theorem ws_get {B : Nat} {ac : Nat → ClassId} {M : Mem} {c : Nat} (h : c < nC M) : (wsM B ac M)[c]? = some (B + c, cellE B ac M c) := by
  simp [wsM, h]
theorem ws_set {B : Nat} {ac : Nat → ClassId} {M M' : Mem} {c : Nat} {e : va_E} (h : c < nC M) (hn : nC M' = nC M) (he : cellE B ac M' c = e) (ho : ∀ d, d ≠ c → cellE B ac M' d = cellE B ac M d) : (wsM B ac M).set c (B + c, e) = wsM B ac M' := by
  apply List.ext_getElem?
  intro i
  by_cases hi : i = c
  · subst hi
    rw [List.getElem?_set_self (by simp [wsM, h]), ws_get (by rw [hn]; exact h), he]
  · rw [List.getElem?_set_ne (Ne.symm hi)]
    by_cases hl : i < nC M
    · rw [ws_get hl, ws_get (by rw [hn]; exact hl), ho i hi]
    · simp [wsM, hn, hl]
theorem ws_D (B : Nat) (ac : Nat → ClassId) (M : Mem) : va_D (AB B) (wsM B ac M) := by
  have key : ∀ (i : Nat) (p : Nat × va_E), (wsM B ac M)[i]? = some p → p.1 = B + i := by
    intro i p h
    by_cases hl : i < nC M
    · rw [ws_get hl] at h; cases h; rfl
    · simp [wsM, hl] at h
  refine ⟨fun i j p q hi hj e => ?_, fun k q hk => ?_⟩
  · have h1 := key i p hi
    have h2 := key j q hj
    omega
  · show B ≤ q.1
    rw [key k q hk]; omega
theorem fls_len (b : List Bool) (B : Nat) (f : Nat → Int32) (g : Nat → Option Nat) : (fls b B f g).length = b.length := by simp [fls]
theorem fls_I {b : List Bool} {B k : Nat} {f : Nat → Int32} {g : Nat → Option Nat} (h : b[k]? = some true) : (fls b B f g)[k]? = some (.int (f k)) := by
  obtain ⟨hk, he⟩ := List.getElem?_eq_some_iff.mp h
  simp [fls, hk, he]
theorem fls_R {b : List Bool} {B k : Nat} {f : Nat → Int32} {g : Nat → Option Nat} (h : b[k]? = some false) : (fls b B f g)[k]? = some (va_rf ((g k).map (B + ·))) := by
  obtain ⟨hk, he⟩ := List.getElem?_eq_some_iff.mp h
  simp [fls, hk, he]
theorem fls_sI {b : List Bool} {B k : Nat} {f : Nat → Int32} {g : Nat → Option Nat} {v : Int32} (h : b[k]? = some true) : (fls b B f g).set k (.int v) = fls b B (upd f k v) g := by
  obtain ⟨hk, he⟩ := List.getElem?_eq_some_iff.mp h
  apply List.ext_getElem?
  intro i
  by_cases hi : i = k
  · subst hi
    rw [List.getElem?_set_self (by rw [fls_len]; exact hk), fls_I h]
    simp [upd]
  · rw [List.getElem?_set_ne (Ne.symm hi)]
    by_cases hl : i < b.length
    · simp [fls, hl, upd, hi]
    · simp [fls, hl]
theorem fls_sR {b : List Bool} {B k : Nat} {f : Nat → Int32} {g : Nat → Option Nat} {v : Option Nat} (h : b[k]? = some false) : (fls b B f g).set k (va_rf (v.map (B + ·))) = fls b B f (va_up g k v) := by
  obtain ⟨hk, he⟩ := List.getElem?_eq_some_iff.mp h
  apply List.ext_getElem?
  intro i
  by_cases hi : i = k
  · subst hi
    rw [List.getElem?_set_self (by rw [fls_len]; exact hk), fls_R h]
    simp [va_up]
  · rw [List.getElem?_set_ne (Ne.symm hi)]
    by_cases hl : i < b.length
    · simp [fls, hl, va_up, hi]
    · simp [fls, hl]
theorem cE_o {B : Nat} {ac : Nat → ClassId} {M : Mem} {c k : Nat} (h : kd M c = k) (hk : k < 8) : cellE B ac M c = .inr (k, fls (fB k) B (gI M c) (gR M c)) := by
  subst h; simp [cellE, hk]
theorem cE_i {B : Nat} {ac : Nat → ClassId} {M : Mem} {c k : Nat} (h : kd M c = k) (h1 : 8 ≤ k) (h2 : k < 10) : cellE B ac M c = .inl (ac k, (ln M c, .inl (gI M c))) := by
  subst h; simp [cellE, Nat.not_lt.mpr h1, h2]
theorem cE_r {B : Nat} {ac : Nat → ClassId} {M : Mem} {c k : Nat} (h : kd M c = k) (h1 : 10 ≤ k) : cellE B ac M c = .inl (ac k, (ln M c, .inr (.inr (.inr (.inr (fun j => (gR M c j).map (B + ·))))))) := by
  subst h; simp [cellE, Nat.not_lt.mpr h1, Nat.not_lt.mpr (Nat.le_trans (by decide : 8 ≤ 10) h1)]
theorem kd_sI (M : Mem) (c k : Nat) (v : Int32) (d : Nat) : kd (sI M c k v) d = kd M d := rfl
theorem nC_sI (M : Mem) (c k : Nat) (v : Int32) : nC (sI M c k v) = nC M := rfl
theorem sI_ws {B : Nat} {ac : Nat → ClassId} {M : Mem} {c k : Nat} {v : Int32} {d : Nat} (h : d ≠ c) : cellE B ac (sI M c k v) d = cellE B ac M d := by
  have e : gI (sI M c k v) d = gI M d := by funext j; simp [gI, sI, h]
  simp only [cellE, kd_sI, e]; rfl
theorem sR_ws {B : Nat} {ac : Nat → ClassId} {M : Mem} {c k : Nat} {v : Option Nat} {d : Nat} (h : d ≠ c) : cellE B ac (sR M c k v) d = cellE B ac M d := by
  have e : gR (sR M c k v) d = gR M d := by funext j; simp [gR, sR, h]
  have e2 : kd (sR M c k v) d = kd M d := rfl
  simp only [cellE, e2, e]; rfl
theorem sA_ws {B : Nat} {ac : Nat → ClassId} {M : Mem} {c : Nat} {f : Nat → Int32} {d : Nat} (h : d ≠ c) : cellE B ac (sA M c f) d = cellE B ac M d := by
  have e : gI (sA M c f) d = gI M d := by funext j; simp [gI, sA, h]
  have e2 : kd (sA M c f) d = kd M d := rfl
  simp only [cellE, e2, e]; rfl
/-! what a method's start gives beside the memory -/
def nestW : List (String × Nat × String × String × String × String) := [("HeapTower$Products", 46, "HeapTower", "FIRST", "[I", "HeapTower"), ("HeapTower$Base", 126, "HeapTower$Products", "second", "[I", "HeapTower"), ("HeapTower$Base", 129, "HeapTower$Products", "third", "[I", "HeapTower"), ("HeapTower$Base", 124, "HeapTower$Numbers", "prime", "I", "HeapTower"), ("HeapTower$Polynomial", 31, "HeapTower", "FIRST", "[I", "HeapTower"), ("HeapTower$Base", 70, "HeapTower", "FIRST", "[I", "HeapTower")]
def fst : Nat → Int32 := fun k => match k with
  | 0 => 0
  | 1 => 1
  | 2 => 4
  | 3 => 10
  | 4 => 20
  | 5 => 35
  | 6 => 56
  | 7 => 84
  | 8 => 120
  | 9 => 165
  | 10 => 220
  | _ => 286
def fstV : Nat → Value := fun k => .int (fst k)
def vAOA (U : State) : Prop := (Cond.arrayOver (.array .int)).before #[] U = true
def EnvF (D : va_G) (B t : Nat) (ac : Nat → ClassId) (U : State) : Prop := va_K D hT_cl (tysA ac) U ∧ va_Z "HeapTower" "FIRST" "[I" (.ref t) (AB B) U U.heap ∧ va_T .int t 12 fstV (AB B) U U.heap ∧ B ≤ U.heap.size ∧ (∀ q ∈ nestW, va_Nw (.fieldLinkNest q.1 q.2.1 q.2.2.1 q.2.2.2.1 q.2.2.2.2.1 q.2.2.2.2.2) U) ∧ va_AO "HeapTower$Polynomial" U ∧ vAOA U
def PRE (D : va_G) (B t : Nat) (ac : Nat → ClassId) (M : Mem) (U : State) : Prop := U.heap.size = B + nC M ∧ va_P D hT_cl (wsM B ac M) U.heap ∧ EnvF D B t ac U
def PST (D : va_G) (B : Nat) (ac : Nat → ClassId) (M : Mem) (t : State) : Prop := t.heap.size = B + nC M ∧ va_P D hT_cl (wsM B ac M) t.heap
abbrev Ctx : Type := Program × Launch × Env × Room × State × MethodId × Array Value × List Frame × Method × Code × (State → Prop) × va_G × Nat × Nat × (Nat → ClassId)
abbrev xp (x : Ctx) : Program := x.1
abbrev xl (x : Ctx) : Launch := x.2.1
abbrev xe (x : Ctx) : Env := x.2.2.1
abbrev xR (x : Ctx) : Room := x.2.2.2.1
abbrev xs (x : Ctx) : State := x.2.2.2.2.1
abbrev xm (x : Ctx) : MethodId := x.2.2.2.2.2.1
abbrev xa (x : Ctx) : Array Value := x.2.2.2.2.2.2.1
abbrev xb (x : Ctx) : List Frame := x.2.2.2.2.2.2.2.1
abbrev xh (x : Ctx) : Method := x.2.2.2.2.2.2.2.2.1
abbrev xc (x : Ctx) : Code := x.2.2.2.2.2.2.2.2.2.1
abbrev xQ (x : Ctx) : State → Prop := x.2.2.2.2.2.2.2.2.2.2.1
abbrev xD (x : Ctx) : va_G := x.2.2.2.2.2.2.2.2.2.2.2.1
abbrev xB (x : Ctx) : Nat := x.2.2.2.2.2.2.2.2.2.2.2.2.1
abbrev xt (x : Ctx) : Nat := x.2.2.2.2.2.2.2.2.2.2.2.2.2.1
abbrev xA (x : Ctx) : Nat → ClassId := x.2.2.2.2.2.2.2.2.2.2.2.2.2.2
abbrev Wx (x : Ctx) (H : Heap) (locs : List Loc) (ce sl : Nat) (g : JFrame) : Prop := W (xp x) (xl x) (xe x) (xR x) (xs x) (xm x) (xa x) (xb x) (xh x) (xc x) H locs ce sl (xQ x) g
def J (x : Ctx) (nL pc : Nat) (lv : List (Nat × Value)) (st : List Value) (ce sl : Nat) (M : Mem) : Prop :=
  ∀ (H : Heap) (locs : List Loc) (ls : Array Slot), va_P (xD x) hT_cl (wsM (xB x) (xA x) M) H → H.size = xB x + nC M → va_S (AB (xB x)) (xs x).heap H locs → lv_has ls nL lv → Wx x H locs ce sl (F0 (xm x) pc ls st)
def Ok (x : Ctx) (cc : ByteArray) (nL : Nat) (own : String) : Prop := (xp x).tables.exec = Jvm.exec ∧ (xc x).code = cc ∧ (xc x).maxLocals = nL ∧ (xs x).vm.findClass own = some (xm x).cls ∧ (∀ w ∈ gw, w.before (xa x) (xs x) = true) ∧ EnvF (xD x) (xB x) (xt x) (xA x) (xs x) ∧ (xh x).locks = false
end
section
theorem vAOA_moved {u U : State} (hvm : u.vm.Alike U.vm) (h : vAOA u) : vAOA U := by
  unfold vAOA Cond.before Cond.holds at h ⊢
  simp only [Cond.value, beq_iff_eq] at h ⊢
  rw [hvm.findClass]
  cases hc : u.vm.findClass (FieldType.array FieldType.int).toString with
  | none => simp [hc] at h
  | some comp =>
    simp only [hc, Option.bind_some, Option.bind_eq_some_iff, Option.map_eq_some_iff] at h ⊢
    obtain ⟨c, hi, k, hk, hb⟩ := h
    obtain ⟨k', hk', he⟩ := hvm.2.2 _ _ hk
    have hi2 : (U.vm.classes.findIdx? fun (x : Class) => match x.kind with | .array component _ => component == comp | _ => false) = some c := by
      have h1 := va_idx_bare U.vm comp
      have h2 := va_idx_bare u.vm comp
      first | exact h1.symm.trans ((congrArg (fun v : Vm => v.classes.findIdx? (fun (x : Class) => match x.kind with | .array component _ => component == comp | _ => false)) hvm.bare_eq).trans (h2.trans hi)) | exact h1.symm.trans ((congrArg (fun v : Vm => v.classes.findIdx? (fun (x : Class) => match x.kind with | .array component _ => component == comp | _ => false)) hvm.bare_eq.symm).trans (h2.trans hi))
    refine ⟨c, hi2, k', hk', ?_⟩
    rw [he, hvm.findClass]; exact hb
theorem vZ_seen {D : va_G} {B t : Nat} {ac : Nat → ClassId} {u U : State} (hW : u.WarmedH U.vm) (hvm : u.vm.Alike U.vm) (hz : u.heap.size ≤ U.heap.size) (hq : ∀ q : Nat, q < u.heap.size → ¬ AB B q → U.heap[q]? = u.heap[q]?) (h : EnvF D B t ac u) : EnvF D B t ac U := by
  obtain ⟨h1, h2, h3, h4, h5, h6, h7⟩ := h
  exact ⟨h1.moved hvm, (h2.moved hvm).kept hq, (h3.moved hvm).kept hq, Nat.le_trans h4 hz, fun q hq => va_Nw.warmF hW (h5 q hq), h6.moved hvm, vAOA_moved hvm h7⟩
theorem lk_mem {lv : List (Nat × Value)} {i : Nat} {v : Value} : lv.lookup i = some v → (i, v) ∈ lv := by
  induction lv with
  | nil => intro h; simp at h
  | cons q r ih =>
    obtain ⟨k, w⟩ := q
    intro h
    rw [List.lookup_cons] at h
    by_cases e : i = k
    · subst e
      simp at h
      subst h
      exact List.mem_cons_self
    · have e2 : (i == k) = false := by simp [e]
      rw [e2] at h
      exact List.mem_cons_of_mem _ (ih h)
theorem lk_at {ls : Array Slot} {nL i : Nat} {lv : List (Nat × Value)} {v : Value} (h : lv_has ls nL lv) (hl : lv.lookup i = some v) : ls[i]? = some (.val v) := h.2.2 _ (lk_mem hl)
section RULES
variable {x : Ctx} {cc : ByteArray} {nL pc ce sl : Nat} {own : String} {lv lv' : List (Nat × Value)} {st : List Value} {M : Mem}
theorem J_sub (ks : List Nat) (hl : lv_pick lv ks = lv') (k : J x nL pc lv' st ce sl M) : J x nL pc lv st ce sl M := fun H locs ls h1 h2 h3 h4 => k H locs ls h1 h2 h3 (lv_sub h4 ks hl)
theorem J_iconst (C : Ok x cc nL own) {n : Int} {v : Int32} (d : decode cc pc = .ok (.iconst n, 1)) (hv : Int32.ofInt n = v) (k : J x nL (pc + 1) lv (.int v :: st) ce sl M) : J x nL pc lv st ce sl M := fun H locs ls h1 h2 h3 h4 => lv_iconst C.1 C.2.1 d hv (k H locs ls h1 h2 h3 h4)
theorem J_bipush (C : Ok x cc nL own) {n : Int} {v : Int32} (d : decode cc pc = .ok (.bipush n, 2)) (hv : (Int8.ofInt n).toInt32 = v) (k : J x nL (pc + 2) lv (.int v :: st) ce sl M) : J x nL pc lv st ce sl M := fun H locs ls h1 h2 h3 h4 => lv_bipush C.1 C.2.1 d hv (k H locs ls h1 h2 h3 h4)
theorem J_sipush (C : Ok x cc nL own) {n : Int} {v : Int32} (d : decode cc pc = .ok (.sipush n, 3)) (hv : (Int16.ofInt n).toInt32 = v) (k : J x nL (pc + 3) lv (.int v :: st) ce sl M) : J x nL pc lv st ce sl M := fun H locs ls h1 h2 h3 h4 => lv_sipush C.1 C.2.1 d hv (k H locs ls h1 h2 h3 h4)
theorem J_ldc (C : Ok x cc nL own) {idx : Nat} {v : Int32} (d : decode cc pc = .ok (.ldc idx, 2)) (hw : Cond.constant own idx v ∈ gw) (k : J x nL (pc + 2) lv (.int v :: st) ce sl M) : J x nL pc lv st ce sl M := fun H locs ls h1 h2 h3 h4 => lv_ldc C.1 C.2.1 C.2.2.2.1 (C.2.2.2.2.1 _ hw) d (k H locs ls h1 h2 h3 h4)
theorem J_ldc2 (C : Ok x cc nL own) {idx : Nat} {v : Int64} (d : decode cc pc = .ok (.ldc2_w idx, 3)) (hw : Cond.constantLong own idx v ∈ gw) (k : J x nL (pc + 3) lv (.long v :: st) ce sl M) : J x nL pc lv st ce sl M := fun H locs ls h1 h2 h3 h4 => lv_ldc2 C.1 C.2.1 C.2.2.2.1 (C.2.2.2.2.1 _ hw) d (k H locs ls h1 h2 h3 h4)
theorem J_lconst (C : Ok x cc nL own) {n : Fin 2} {v : Int64} (d : decode cc pc = .ok (.lconst n, 1)) (hv : Int64.ofNat (n : Nat) = v) (k : J x nL (pc + 1) lv (.long v :: st) ce sl M) : J x nL pc lv st ce sl M := fun H locs ls h1 h2 h3 h4 => lv_lconst C.1 C.2.1 d hv (k H locs ls h1 h2 h3 h4)
theorem J_iload_n (C : Ok x cc nL own) {q : Fin 4} {v : Int32} (i : Nat) (d : decode cc pc = .ok (.iload_n q, 1)) (hi : (q : Nat) = i) (hl : lv.lookup i = some (.int v)) (k : J x nL (pc + 1) lv (.int v :: st) ce sl M) : J x nL pc lv st ce sl M := fun H locs ls h1 h2 h3 h4 => lv_iload_n C.1 C.2.1 d hi (lk_at h4 hl) (k H locs ls h1 h2 h3 h4)
theorem J_iload (C : Ok x cc nL own) {v : Int32} (i : Nat) (d : decode cc pc = .ok (.iload i, 2)) (hl : lv.lookup i = some (.int v)) (k : J x nL (pc + 2) lv (.int v :: st) ce sl M) : J x nL pc lv st ce sl M := fun H locs ls h1 h2 h3 h4 => lv_iload C.1 C.2.1 d (lk_at h4 hl) (k H locs ls h1 h2 h3 h4)
theorem J_aload_n (C : Ok x cc nL own) {q : Fin 4} {v : Nat} (i : Nat) (d : decode cc pc = .ok (.aload_n q, 1)) (hi : (q : Nat) = i) (hl : lv.lookup i = some (.ref v)) (k : J x nL (pc + 1) lv (.ref v :: st) ce sl M) : J x nL pc lv st ce sl M := fun H locs ls h1 h2 h3 h4 => lv_aload_n C.1 C.2.1 d hi (lk_at h4 hl) (k H locs ls h1 h2 h3 h4)
theorem J_aload (C : Ok x cc nL own) {v : Nat} (i : Nat) (d : decode cc pc = .ok (.aload i, 2)) (hl : lv.lookup i = some (.ref v)) (k : J x nL (pc + 2) lv (.ref v :: st) ce sl M) : J x nL pc lv st ce sl M := fun H locs ls h1 h2 h3 h4 => lv_aload C.1 C.2.1 d (lk_at h4 hl) (k H locs ls h1 h2 h3 h4)
theorem J_lload_n (C : Ok x cc nL own) {q : Fin 4} {v : Int64} (i : Nat) (d : decode cc pc = .ok (.lload_n q, 1)) (hi : (q : Nat) = i) (hl : lv.lookup i = some (.long v)) (k : J x nL (pc + 1) lv (.long v :: st) ce sl M) : J x nL pc lv st ce sl M := fun H locs ls h1 h2 h3 h4 => lv_lload_n C.1 C.2.1 d hi (lk_at h4 hl) (k H locs ls h1 h2 h3 h4)
theorem J_istore_n (C : Ok x cc nL own) {q : Fin 4} {v : Int32} (i : Nat) (d : decode cc pc = .ok (.istore_n q, 1)) (hi : (q : Nat) = i) (hn : i < nL) (hl : (i, Value.int v) :: lv.filter (fun q => !(q.1 == i) && !(q.1 + 1 == i && q.2.category == 2)) = lv') (k : J x nL (pc + 1) lv' st ce sl M) : J x nL pc lv (.int v :: st) ce sl M := fun H locs ls h1 h2 h3 h4 => lv_istore_n C.1 C.2.1 d hi h4 hn hl (fun ls' h5 => k H locs ls' h1 h2 h3 h5)
theorem J_istore (C : Ok x cc nL own) {v : Int32} (i : Nat) (d : decode cc pc = .ok (.istore i, 2)) (hn : i < nL) (hl : (i, Value.int v) :: lv.filter (fun q => !(q.1 == i) && !(q.1 + 1 == i && q.2.category == 2)) = lv') (k : J x nL (pc + 2) lv' st ce sl M) : J x nL pc lv (.int v :: st) ce sl M := fun H locs ls h1 h2 h3 h4 => lv_istore C.1 C.2.1 d h4 hn hl (fun ls' h5 => k H locs ls' h1 h2 h3 h5)
theorem J_astore_n (C : Ok x cc nL own) {q : Fin 4} {v : Nat} (i : Nat) (d : decode cc pc = .ok (.astore_n q, 1)) (hi : (q : Nat) = i) (hn : i < nL) (hl : (i, Value.ref v) :: lv.filter (fun q => !(q.1 == i) && !(q.1 + 1 == i && q.2.category == 2)) = lv') (k : J x nL (pc + 1) lv' st ce sl M) : J x nL pc lv (.ref v :: st) ce sl M := fun H locs ls h1 h2 h3 h4 => lv_astore_n C.1 C.2.1 d hi h4 hn hl (fun ls' h5 => k H locs ls' h1 h2 h3 h5)
theorem J_astore (C : Ok x cc nL own) {v : Nat} (i : Nat) (d : decode cc pc = .ok (.astore i, 2)) (hn : i < nL) (hl : (i, Value.ref v) :: lv.filter (fun q => !(q.1 == i) && !(q.1 + 1 == i && q.2.category == 2)) = lv') (k : J x nL (pc + 2) lv' st ce sl M) : J x nL pc lv (.ref v :: st) ce sl M := fun H locs ls h1 h2 h3 h4 => lv_astore C.1 C.2.1 d h4 hn hl (fun ls' h5 => k H locs ls' h1 h2 h3 h5)
theorem J_lstore_n (C : Ok x cc nL own) {q : Fin 4} {v : Int64} (i : Nat) (d : decode cc pc = .ok (.lstore_n q, 1)) (hi : (q : Nat) = i) (hn : i + 1 < nL) (hl : (i, Value.long v) :: lv.filter (fun q => !(q.1 == i) && (!(q.1 == i + 1) && !(q.1 + 1 == i && q.2.category == 2))) = lv') (k : J x nL (pc + 1) lv' st ce sl M) : J x nL pc lv (.long v :: st) ce sl M := fun H locs ls h1 h2 h3 h4 => lv_lstore_n C.1 C.2.1 d hi h4 hn hl (fun ls' h5 => k H locs ls' h1 h2 h3 h5)
theorem J_iinc (C : Ok x cc nL own) {n : Int} {a v : Int32} (i p : Nat) (d : decode cc pc = .ok (.iinc i n, 3)) (hp : lv[p]? = some (i, .int a)) (hv : a + Int32.ofInt n = v) (hn : i < nL) (hl : (i, Value.int v) :: lv.filter (fun q => !(q.1 == i) && !(q.1 + 1 == i && q.2.category == 2)) = lv') (k : J x nL (pc + 3) lv' st ce sl M) : J x nL pc lv st ce sl M := fun H locs ls h1 h2 h3 h4 => lv_iinc C.1 C.2.1 d h4 hp hv hn hl (fun ls' h5 => k H locs ls' h1 h2 h3 h5)
theorem J_iadd (C : Ok x cc nL own) {a b : Int32} (d : decode cc pc = .ok (.iadd, 1)) (k : J x nL (pc + 1) lv (.int (a + b) :: st) ce sl M) : J x nL pc lv (.int b :: .int a :: st) ce sl M := fun H locs ls h1 h2 h3 h4 => lv_iadd C.1 C.2.1 d (k H locs ls h1 h2 h3 h4)
theorem J_isub (C : Ok x cc nL own) {a b : Int32} (d : decode cc pc = .ok (.isub, 1)) (k : J x nL (pc + 1) lv (.int (a - b) :: st) ce sl M) : J x nL pc lv (.int b :: .int a :: st) ce sl M := fun H locs ls h1 h2 h3 h4 => lv_isub C.1 C.2.1 d (k H locs ls h1 h2 h3 h4)
theorem J_imul (C : Ok x cc nL own) {a b : Int32} (d : decode cc pc = .ok (.imul, 1)) (k : J x nL (pc + 1) lv (.int (a * b) :: st) ce sl M) : J x nL pc lv (.int b :: .int a :: st) ce sl M := fun H locs ls h1 h2 h3 h4 => lv_imul C.1 C.2.1 d (k H locs ls h1 h2 h3 h4)
theorem J_idiv (C : Ok x cc nL own) {a b : Int32} (d : decode cc pc = .ok (.idiv, 1)) (hne : ¬ b = 0) (k : J x nL (pc + 1) lv (.int (a / b) :: st) ce sl M) : J x nL pc lv (.int b :: .int a :: st) ce sl M := fun H locs ls h1 h2 h3 h4 => lv_idiv C.1 C.2.1 d hne (k H locs ls h1 h2 h3 h4)
theorem J_irem (C : Ok x cc nL own) {a b : Int32} (d : decode cc pc = .ok (.irem, 1)) (hne : ¬ b = 0) (k : J x nL (pc + 1) lv (.int (a - a / b * b) :: st) ce sl M) : J x nL pc lv (.int b :: .int a :: st) ce sl M := fun H locs ls h1 h2 h3 h4 => lv_irem C.1 C.2.1 d hne (k H locs ls h1 h2 h3 h4)
theorem J_iand (C : Ok x cc nL own) {a b : Int32} (d : decode cc pc = .ok (.iand, 1)) (k : J x nL (pc + 1) lv (.int (a &&& b) :: st) ce sl M) : J x nL pc lv (.int b :: .int a :: st) ce sl M := fun H locs ls h1 h2 h3 h4 => lv_iand C.1 C.2.1 d (k H locs ls h1 h2 h3 h4)
theorem J_ixor (C : Ok x cc nL own) {a b : Int32} (d : decode cc pc = .ok (.ixor, 1)) (k : J x nL (pc + 1) lv (.int (a ^^^ b) :: st) ce sl M) : J x nL pc lv (.int b :: .int a :: st) ce sl M := fun H locs ls h1 h2 h3 h4 => lv_ixor C.1 C.2.1 d (k H locs ls h1 h2 h3 h4)
theorem J_ishl (C : Ok x cc nL own) {a b : Int32} (d : decode cc pc = .ok (.ishl, 1)) (k : J x nL (pc + 1) lv (.int (a <<< (b &&& 31)) :: st) ce sl M) : J x nL pc lv (.int b :: .int a :: st) ce sl M := fun H locs ls h1 h2 h3 h4 => lv_ishl C.1 C.2.1 d (k H locs ls h1 h2 h3 h4)
theorem J_ishr (C : Ok x cc nL own) {a b : Int32} (d : decode cc pc = .ok (.ishr, 1)) (k : J x nL (pc + 1) lv (.int (a >>> (b &&& 31)) :: st) ce sl M) : J x nL pc lv (.int b :: .int a :: st) ce sl M := fun H locs ls h1 h2 h3 h4 => lv_ishr C.1 C.2.1 d (k H locs ls h1 h2 h3 h4)
theorem J_ladd (C : Ok x cc nL own) {a b : Int64} (d : decode cc pc = .ok (.ladd, 1)) (k : J x nL (pc + 1) lv (.long (a + b) :: st) ce sl M) : J x nL pc lv (.long b :: .long a :: st) ce sl M := fun H locs ls h1 h2 h3 h4 => lv_ladd C.1 C.2.1 d (k H locs ls h1 h2 h3 h4)
theorem J_lsub (C : Ok x cc nL own) {a b : Int64} (d : decode cc pc = .ok (.lsub, 1)) (k : J x nL (pc + 1) lv (.long (a - b) :: st) ce sl M) : J x nL pc lv (.long b :: .long a :: st) ce sl M := fun H locs ls h1 h2 h3 h4 => lv_lsub C.1 C.2.1 d (k H locs ls h1 h2 h3 h4)
theorem J_lmul (C : Ok x cc nL own) {a b : Int64} (d : decode cc pc = .ok (.lmul, 1)) (k : J x nL (pc + 1) lv (.long (a * b) :: st) ce sl M) : J x nL pc lv (.long b :: .long a :: st) ce sl M := fun H locs ls h1 h2 h3 h4 => lv_lmul C.1 C.2.1 d (k H locs ls h1 h2 h3 h4)
theorem J_lrem (C : Ok x cc nL own) {a b : Int64} (d : decode cc pc = .ok (.lrem, 1)) (hne : ¬ b = 0) (k : J x nL (pc + 1) lv (.long (a - a / b * b) :: st) ce sl M) : J x nL pc lv (.long b :: .long a :: st) ce sl M := fun H locs ls h1 h2 h3 h4 => lv_lrem C.1 C.2.1 d hne (k H locs ls h1 h2 h3 h4)
theorem J_ineg (C : Ok x cc nL own) {a : Int32} (d : decode cc pc = .ok (.ineg, 1)) (k : J x nL (pc + 1) lv (.int (-a) :: st) ce sl M) : J x nL pc lv (.int a :: st) ce sl M := fun H locs ls h1 h2 h3 h4 => lv_ineg C.1 C.2.1 d (k H locs ls h1 h2 h3 h4)
theorem J_i2l (C : Ok x cc nL own) {a : Int32} (d : decode cc pc = .ok (.i2l, 1)) (k : J x nL (pc + 1) lv (.long a.toInt64 :: st) ce sl M) : J x nL pc lv (.int a :: st) ce sl M := fun H locs ls h1 h2 h3 h4 => lv_i2l C.1 C.2.1 d rfl (k H locs ls h1 h2 h3 h4)
theorem J_l2i (C : Ok x cc nL own) {a : Int64} (d : decode cc pc = .ok (.l2i, 1)) (k : J x nL (pc + 1) lv (.int a.toInt32 :: st) ce sl M) : J x nL pc lv (.long a :: st) ce sl M := fun H locs ls h1 h2 h3 h4 => lv_l2i C.1 C.2.1 d rfl (k H locs ls h1 h2 h3 h4)
theorem J_icmp_eq (C : Ok x cc nL own) {a b : Int32} {off : Int} {tgt : Nat} (d : decode cc pc = .ok (.if_icmp .eq off, 3)) (ht : (pc : Int) + off = (tgt : Int)) (k1 : a = b → J x nL tgt lv st ce sl M) (k2 : ¬ (a = b) → J x nL (pc + 3) lv st ce sl M) : J x nL pc lv (.int b :: .int a :: st) ce sl M := fun H locs ls h1 h2 h3 h4 => lv_icmp_eq C.1 C.2.1 d ht (fun q => k1 q H locs ls h1 h2 h3 h4) (fun q => k2 q H locs ls h1 h2 h3 h4)
theorem J_if_eq (C : Ok x cc nL own) {a : Int32} {off : Int} {tgt : Nat} (d : decode cc pc = .ok (.ifCond .eq off, 3)) (ht : (pc : Int) + off = (tgt : Int)) (k1 : a = 0 → J x nL tgt lv st ce sl M) (k2 : ¬ (a = 0) → J x nL (pc + 3) lv st ce sl M) : J x nL pc lv (.int a :: st) ce sl M := fun H locs ls h1 h2 h3 h4 => lv_if_eq C.1 C.2.1 d ht (fun q => k1 q H locs ls h1 h2 h3 h4) (fun q => k2 q H locs ls h1 h2 h3 h4)
theorem J_icmp_ne (C : Ok x cc nL own) {a b : Int32} {off : Int} {tgt : Nat} (d : decode cc pc = .ok (.if_icmp .ne off, 3)) (ht : (pc : Int) + off = (tgt : Int)) (k1 : ¬ a = b → J x nL tgt lv st ce sl M) (k2 : a = b → J x nL (pc + 3) lv st ce sl M) : J x nL pc lv (.int b :: .int a :: st) ce sl M := fun H locs ls h1 h2 h3 h4 => lv_icmp_ne C.1 C.2.1 d ht (fun q => k1 q H locs ls h1 h2 h3 h4) (fun q => k2 q H locs ls h1 h2 h3 h4)
theorem J_if_ne (C : Ok x cc nL own) {a : Int32} {off : Int} {tgt : Nat} (d : decode cc pc = .ok (.ifCond .ne off, 3)) (ht : (pc : Int) + off = (tgt : Int)) (k1 : ¬ a = 0 → J x nL tgt lv st ce sl M) (k2 : a = 0 → J x nL (pc + 3) lv st ce sl M) : J x nL pc lv (.int a :: st) ce sl M := fun H locs ls h1 h2 h3 h4 => lv_if_ne C.1 C.2.1 d ht (fun q => k1 q H locs ls h1 h2 h3 h4) (fun q => k2 q H locs ls h1 h2 h3 h4)
theorem J_icmp_lt (C : Ok x cc nL own) {a b : Int32} {off : Int} {tgt : Nat} (d : decode cc pc = .ok (.if_icmp .lt off, 3)) (ht : (pc : Int) + off = (tgt : Int)) (k1 : a < b → J x nL tgt lv st ce sl M) (k2 : ¬ (a < b) → J x nL (pc + 3) lv st ce sl M) : J x nL pc lv (.int b :: .int a :: st) ce sl M := fun H locs ls h1 h2 h3 h4 => lv_icmp_lt C.1 C.2.1 d ht (fun q => k1 q H locs ls h1 h2 h3 h4) (fun q => k2 q H locs ls h1 h2 h3 h4)
theorem J_if_lt (C : Ok x cc nL own) {a : Int32} {off : Int} {tgt : Nat} (d : decode cc pc = .ok (.ifCond .lt off, 3)) (ht : (pc : Int) + off = (tgt : Int)) (k1 : a < 0 → J x nL tgt lv st ce sl M) (k2 : ¬ (a < 0) → J x nL (pc + 3) lv st ce sl M) : J x nL pc lv (.int a :: st) ce sl M := fun H locs ls h1 h2 h3 h4 => lv_if_lt C.1 C.2.1 d ht (fun q => k1 q H locs ls h1 h2 h3 h4) (fun q => k2 q H locs ls h1 h2 h3 h4)
theorem J_icmp_ge (C : Ok x cc nL own) {a b : Int32} {off : Int} {tgt : Nat} (d : decode cc pc = .ok (.if_icmp .ge off, 3)) (ht : (pc : Int) + off = (tgt : Int)) (k1 : b ≤ a → J x nL tgt lv st ce sl M) (k2 : ¬ (b ≤ a) → J x nL (pc + 3) lv st ce sl M) : J x nL pc lv (.int b :: .int a :: st) ce sl M := fun H locs ls h1 h2 h3 h4 => lv_icmp_ge C.1 C.2.1 d ht (fun q => k1 q H locs ls h1 h2 h3 h4) (fun q => k2 q H locs ls h1 h2 h3 h4)
theorem J_if_ge (C : Ok x cc nL own) {a : Int32} {off : Int} {tgt : Nat} (d : decode cc pc = .ok (.ifCond .ge off, 3)) (ht : (pc : Int) + off = (tgt : Int)) (k1 : 0 ≤ a → J x nL tgt lv st ce sl M) (k2 : ¬ (0 ≤ a) → J x nL (pc + 3) lv st ce sl M) : J x nL pc lv (.int a :: st) ce sl M := fun H locs ls h1 h2 h3 h4 => lv_if_ge C.1 C.2.1 d ht (fun q => k1 q H locs ls h1 h2 h3 h4) (fun q => k2 q H locs ls h1 h2 h3 h4)
theorem J_icmp_gt (C : Ok x cc nL own) {a b : Int32} {off : Int} {tgt : Nat} (d : decode cc pc = .ok (.if_icmp .gt off, 3)) (ht : (pc : Int) + off = (tgt : Int)) (k1 : b < a → J x nL tgt lv st ce sl M) (k2 : ¬ (b < a) → J x nL (pc + 3) lv st ce sl M) : J x nL pc lv (.int b :: .int a :: st) ce sl M := fun H locs ls h1 h2 h3 h4 => lv_icmp_gt C.1 C.2.1 d ht (fun q => k1 q H locs ls h1 h2 h3 h4) (fun q => k2 q H locs ls h1 h2 h3 h4)
theorem J_if_gt (C : Ok x cc nL own) {a : Int32} {off : Int} {tgt : Nat} (d : decode cc pc = .ok (.ifCond .gt off, 3)) (ht : (pc : Int) + off = (tgt : Int)) (k1 : 0 < a → J x nL tgt lv st ce sl M) (k2 : ¬ (0 < a) → J x nL (pc + 3) lv st ce sl M) : J x nL pc lv (.int a :: st) ce sl M := fun H locs ls h1 h2 h3 h4 => lv_if_gt C.1 C.2.1 d ht (fun q => k1 q H locs ls h1 h2 h3 h4) (fun q => k2 q H locs ls h1 h2 h3 h4)
theorem J_icmp_le (C : Ok x cc nL own) {a b : Int32} {off : Int} {tgt : Nat} (d : decode cc pc = .ok (.if_icmp .le off, 3)) (ht : (pc : Int) + off = (tgt : Int)) (k1 : a ≤ b → J x nL tgt lv st ce sl M) (k2 : ¬ (a ≤ b) → J x nL (pc + 3) lv st ce sl M) : J x nL pc lv (.int b :: .int a :: st) ce sl M := fun H locs ls h1 h2 h3 h4 => lv_icmp_le C.1 C.2.1 d ht (fun q => k1 q H locs ls h1 h2 h3 h4) (fun q => k2 q H locs ls h1 h2 h3 h4)
theorem J_if_le (C : Ok x cc nL own) {a : Int32} {off : Int} {tgt : Nat} (d : decode cc pc = .ok (.ifCond .le off, 3)) (ht : (pc : Int) + off = (tgt : Int)) (k1 : a ≤ 0 → J x nL tgt lv st ce sl M) (k2 : ¬ (a ≤ 0) → J x nL (pc + 3) lv st ce sl M) : J x nL pc lv (.int a :: st) ce sl M := fun H locs ls h1 h2 h3 h4 => lv_if_le C.1 C.2.1 d ht (fun q => k1 q H locs ls h1 h2 h3 h4) (fun q => k2 q H locs ls h1 h2 h3 h4)
theorem J_goto (C : Ok x cc nL own) {off : Int} {tgt : Nat} (d : decode cc pc = .ok (.goto off, 3)) (ht : (pc : Int) + off = (tgt : Int)) (k : J x nL tgt lv st ce sl M) : J x nL pc lv st ce sl M := fun H locs ls h1 h2 h3 h4 => lv_goto C.1 C.2.1 d ht (k H locs ls h1 h2 h3 h4)
theorem J_dup (C : Ok x cc nL own) {v : Value} (d : decode cc pc = .ok (.dup, 1)) (hv : v.category = 1) (k : J x nL (pc + 1) lv (v :: v :: st) ce sl M) : J x nL pc lv (v :: st) ce sl M := fun H locs ls h1 h2 h3 h4 => lv_dup C.1 C.2.1 d hv (k H locs ls h1 h2 h3 h4)
theorem J_dup2 (C : Ok x cc nL own) {v w : Value} (d : decode cc pc = .ok (.dup2, 1)) (hv : v.category = 1) (hw : w.category = 1) (k : J x nL (pc + 1) lv (v :: w :: v :: w :: st) ce sl M) : J x nL pc lv (v :: w :: st) ce sl M := fun H locs ls h1 h2 h3 h4 => lv_dup2_11 C.1 C.2.1 d hv hw (k H locs ls h1 h2 h3 h4)
theorem J_pop (C : Ok x cc nL own) {v : Value} (d : decode cc pc = .ok (.pop, 1)) (hv : v.category = 1) (k : J x nL (pc + 1) lv st ce sl M) : J x nL pc lv (v :: st) ce sl M := fun H locs ls h1 h2 h3 h4 => lv_pop C.1 C.2.1 d hv (k H locs ls h1 h2 h3 h4)
theorem J_tableIn (C : Ok x cc nL own) {dflt lo hi : Int} {offs : Array Int} {len : Nat} {a : Int32} {off : Int} {tgt : Nat} (d : decode cc pc = .ok (.tableswitch dflt lo hi offs, len)) (h1 : ¬ a.toInt < lo) (h2 : ¬ hi < a.toInt) (ho : offs[(a.toInt - lo).toNat]? = some off) (ht : (pc : Int) + off = (tgt : Int)) (k : J x nL tgt lv st ce sl M) : J x nL pc lv (.int a :: st) ce sl M := fun H locs ls q1 q2 q3 q4 => lv_tableIn C.1 C.2.1 d h1 h2 ho ht (k H locs ls q1 q2 q3 q4)
theorem J_tableOut (C : Ok x cc nL own) {dflt lo hi : Int} {offs : Array Int} {len : Nat} {a : Int32} {tgt : Nat} (d : decode cc pc = .ok (.tableswitch dflt lo hi offs, len)) (h : a.toInt < lo ∨ hi < a.toInt) (ht : (pc : Int) + dflt = (tgt : Int)) (k : J x nL tgt lv st ce sl M) : J x nL pc lv (.int a :: st) ce sl M := fun H locs ls q1 q2 q3 q4 => lv_tableOut C.1 C.2.1 d h ht (k H locs ls q1 q2 q3 q4)
end RULES
end
section
/-- a field of class ci, its number k, as the class own names it at idx: b: an int, fin: final -/
def Fld (own : String) (idx ci k : Nat) (b fin : Bool) : Prop := ∃ (Cn : String) (T : u_T) (N : Nat) (ty0 : Nat → FieldType), (∀ w ∈ u_ws Cn T N, w ∈ gw) ∧ hT_cl[ci]? = some (Cn, T, N) ∧ k < N ∧ (fB ci)[k]? = some b ∧ (fB ci).length = N ∧ ci < 8 ∧ (T k).1 = Cn ∧ Cond.fieldLink own idx Cn (T k).2.1 (T k).2.2.1 ∈ gw ∧ (∀ k, k < N → parseFieldDescriptor (T k).2.2.1 = some (ty0 k)) ∧ (∀ a, a < N → ∀ b, b < N → a ≠ b → (T a).2.1 ≠ (T b).2.1) ∧ (T k).2.2.2 = fin ∧ (b = true → ty0 k = .int) ∧ (b = false → (∃ n, ty0 k = .object n) ∨ ∃ e, ty0 k = .array e)
/-- the same, of a nest mate -/
def FldN (own : String) (idx ci k : Nat) (b : Bool) : Prop := ∃ (Cn : String) (T : u_T) (N : Nat), (∀ w ∈ u_ws Cn T N, w ∈ gw) ∧ hT_cl[ci]? = some (Cn, T, N) ∧ k < N ∧ (fB ci)[k]? = some b ∧ ci < 8 ∧ (T k).1 = Cn ∧ (own, idx, Cn, (T k).2.1, (T k).2.2.1, "HeapTower") ∈ nestW
section HEAPR
variable {x : Ctx} {cc : ByteArray} {nL pc ce sl : Nat} {own : String} {lv lv' : List (Nat × Value)} {st : List Value} {M : Mem}
theorem J_getI (C : Ok x cc nL own) {idx ci k c : Nat} {fin : Bool} (F : Fld own idx ci k true fin) (d : decode cc pc = .ok (.getfield idx, 3)) (hM : isK M c ci) (kk : J x nL (pc + 3) lv (.int (gI M c k) :: st) ce sl M) : J x nL pc lv (.ref (xB x + c) :: st) ce sl M := by
  intro H locs ls h1 h2 h3 h4
  obtain ⟨Cn, T, N, ty0, f1, f2, f3, f4, f5, f6, f7, f8, -⟩ := F
  have he := ws_get (B := xB x) (ac := xA x) hM.1
  rw [cE_o hM.2 f6] at he
  exact va_get C.1 C.2.1 C.2.2.2.2.1 f1 C.2.2.2.1 C.2.2.2.2.2.1.1 h1 c he f2 k f3 (C.2.2.2.2.1 _ f8) (fun _ h9 => by rw [f7] at h9; exact h9) (fls_I f4) d (kk H locs ls h1 h2 h3 h4)
theorem J_getR (C : Ok x cc nL own) {idx ci k c q : Nat} {fin : Bool} (F : Fld own idx ci k false fin) (d : decode cc pc = .ok (.getfield idx, 3)) (hM : isK M c ci) (hq : gR M c k = some q) (kk : J x nL (pc + 3) lv (.ref (xB x + q) :: st) ce sl M) : J x nL pc lv (.ref (xB x + c) :: st) ce sl M := by
  intro H locs ls h1 h2 h3 h4
  obtain ⟨Cn, T, N, ty0, f1, f2, f3, f4, f5, f6, f7, f8, -⟩ := F
  have he := ws_get (B := xB x) (ac := xA x) hM.1
  rw [cE_o hM.2 f6] at he
  exact va_get C.1 C.2.1 C.2.2.2.2.1 f1 C.2.2.2.1 C.2.2.2.2.2.1.1 h1 c he f2 k f3 (C.2.2.2.2.1 _ f8) (fun _ h9 => by rw [f7] at h9; exact h9) (v := .ref (xB x + q)) (by rw [fls_R f4, hq]; rfl) d (kk H locs ls h1 h2 h3 h4)
theorem J_getIN (C : Ok x cc nL own) {idx ci k c : Nat} (F : FldN own idx ci k true) (d : decode cc pc = .ok (.getfield idx, 3)) (hM : isK M c ci) (kk : J x nL (pc + 3) lv (.int (gI M c k) :: st) ce sl M) : J x nL pc lv (.ref (xB x + c) :: st) ce sl M := by
  intro H locs ls h1 h2 h3 h4
  obtain ⟨Cn, T, N, f1, f2, f3, f4, f6, f7, f8⟩ := F
  have he := ws_get (B := xB x) (ac := xA x) hM.1
  rw [cE_o hM.2 f6] at he
  have hn := C.2.2.2.2.2.1.2.2.2.2.1 _ f8
  exact va_getN C.1 C.2.1 C.2.2.2.2.1 f1 C.2.2.2.1 C.2.2.2.2.2.1.1 h1 c he f2 k f3 (va_Nw.use rfl hn) (fun _ h9 => by rw [f7] at h9; exact h9) (fls_I f4) d (kk H locs ls h1 h2 h3 h4)
theorem J_getRN (C : Ok x cc nL own) {idx ci k c q : Nat} (F : FldN own idx ci k false) (d : decode cc pc = .ok (.getfield idx, 3)) (hM : isK M c ci) (hq : gR M c k = some q) (kk : J x nL (pc + 3) lv (.ref (xB x + q) :: st) ce sl M) : J x nL pc lv (.ref (xB x + c) :: st) ce sl M := by
  intro H locs ls h1 h2 h3 h4
  obtain ⟨Cn, T, N, f1, f2, f3, f4, f6, f7, f8⟩ := F
  have he := ws_get (B := xB x) (ac := xA x) hM.1
  rw [cE_o hM.2 f6] at he
  have hn := C.2.2.2.2.2.1.2.2.2.2.1 _ f8
  exact va_getN C.1 C.2.1 C.2.2.2.2.1 f1 C.2.2.2.1 C.2.2.2.2.2.1.1 h1 c he f2 k f3 (va_Nw.use rfl hn) (fun _ h9 => by rw [f7] at h9; exact h9) (v := .ref (xB x + q)) (by rw [fls_R f4, hq]; rfl) d (kk H locs ls h1 h2 h3 h4)
theorem gI_sI (M : Mem) (c k : Nat) (v : Int32) : gI (sI M c k v) c = upd (gI M c) k v := by
  funext j
  show (if c = c then upd (M.2.1 c) k v else M.2.1 c) j = upd (M.2.1 c) k v j
  rw [if_pos rfl]
theorem gR_sR (M : Mem) (c k : Nat) (v : Option Nat) : gR (sR M c k v) c = va_up (gR M c) k v := by
  funext j
  show (if c = c then va_up (M.2.2.1 c) k v else M.2.2.1 c) j = va_up (M.2.2.1 c) k v j
  rw [if_pos rfl]
theorem gI_sA (M : Mem) (c : Nat) (f : Nat → Int32) : gI (sA M c f) c = f := by
  funext j
  show (if c = c then f else M.2.1 c) j = f j
  rw [if_pos rfl]
/-- a store into a field, the world behind it -/
theorem put_any (C : Ok x cc nL own) {idx ci k c : Nat} {b fin : Bool} {v : Value} {M' : Mem} (F : Fld own idx ci k b fin) (d : decode cc pc = .ok (.putfield idx, 3)) (hM : isK M c ci) (hfin : fin = false ∨ ((xh x).name = "<init>" ∧ ∃ Cn T N, hT_cl[ci]? = some (Cn, T, N) ∧ Cn = own)) (hv : ∀ ty : FieldType, (b = true → ty = .int) → (b = false → (∃ n, ty = .object n) ∨ ∃ e, ty = .array e) → narrow ty v = v ∧ fits ty v = true) (hn : nC M' = nC M) (hself : cellE (xB x) (xA x) M' c = .inr (ci, (fls (fB ci) (xB x) (gI M c) (gR M c)).set k v)) (ho : ∀ d, d ≠ c → cellE (xB x) (xA x) M' d = cellE (xB x) (xA x) M d) (kk : J x nL (pc + 3) lv st ce sl M') : J x nL pc lv (v :: .ref (xB x + c) :: st) ce sl M := by
  intro H locs ls h1 h2 h3 h4
  obtain ⟨Cn, T, N, ty0, f1, f2, f3, f4, f5, f6, f7, f8, f9, f10, f11, f12, f13⟩ := F
  have he := ws_get (B := xB x) (ac := xA x) hM.1
  rw [cE_o hM.2 f6] at he
  have hts := C.2.2.2.2.1
  have hK := C.2.2.2.2.2.1.1
  obtain ⟨hnar, hfit⟩ := hv (ty0 k) f12 f13
  have hap := va_apart (own := own) hts f1 ty0 f9 f10 hK f2
  obtain ⟨r, q0, cell, q1, q2, q3, q4⟩ := h1 c _ he
  have hr : r = (Cn, T, N) := Option.some.inj (q0.symm.trans f2)
  subst hr
  obtain ⟨hS, hfc, kC, hkC, hkind⟩ := hK.1 ci _ f2
  obtain ⟨cf, kf, fi, f, hi, hsl⟩ := hS k f3
  have hlay := hts _ (f1 _ (u_in_lay f3))
  have hst := (u_facts hfc hkC (u_lays hts f1 f3) hi).1
  have hl : k < (fls (fB ci) (xB x) (gI M c) (gR M c)).length := by rw [fls_len, f5]; exact f3
  have fin_ : ∀ H' : Heap, H'[xB x + c]? = some (cell.setSlot f.slot v) → H'.size = H.size → (∀ q, q ≠ xB x + c → H'[q]? = H[q]?) → Wx x H' (locs ++ [⟨xB x + c, f.slot⟩]) ce sl (F0 (xm x) (pc + 3) ls st) := by
    intro H' e1 e2 e3
    rw [hsl] at e1 ⊢
    refine kk H' _ ls ?_ (by rw [e2, h2, hn]) (h3.put e2 e3 (show xB x ≤ xB x + c by omega)) h4
    have hP := h1.set (ws_D (xB x) (xA x) M) he (e := .inr (ci, (fls (fB ci) (xB x) (gI M c) (gR M c)).set k v)) ⟨_, f2, t_OB.to (V := updV (vp_V _) k v) ⟨_, e1, q2, q3, t_set q4 hap f3 v⟩ (fun j _ => vp_updV_set hl v j)⟩ e3
    rw [ws_set hM.1 hn hself ho] at hP
    exact hP
  unfold u_lay at hlay
  by_cases hf : (T k).2.2.2 = true
  · rw [if_pos hf] at hlay
    rcases hfin with hfin | ⟨hnm, Cn2, T2, N2, g1, g2⟩
    · rw [← f11, hf] at hfin; cases hfin
    · rw [f2] at g1
      cases g1
      have hcf : (xm x).cls = cf := by
        obtain ⟨_, _, c', _, _, _, -, -, hf', -, -, -, hown2, -⟩ := Cond.laysFinal_spec hlay
        have e1 : c' = cf := by have := hi.symm.trans hf'; simp at this; exact this.1.symm
        have hown2 : (xs x).vm.findClass (T k).1 = some c' := hown2
        rw [f7, g2] at hown2
        rw [← e1]; exact Option.some.inj (C.2.2.2.1.symm.trans hown2)
      have h6 := u_fits hfc hkC hkind (Or.inr hlay) hi (f9 k f3) hnar hfit
      exact W.putFinK C.1 C.2.1 C.2.2.2.1 (hts _ f8) (show (xs x).fieldFound? Cn (T k).2.1 (T k).2.2.1 = _ by rw [← f7]; exact hi) hst hcf hnm (by rw [q2]; exact h6) q1 q3 (by rw [hsl]; exact k2_hasslot (q4 k f3)) rfl rfl d fin_
  · rw [if_neg hf] at hlay
    have h6 := u_store hfc hkC hkind hlay hi (f9 k f3) hnar hfit
    exact W.putK C.1 C.2.1 (f := f) ⟨C.2.2.2.1, hts _ f8, ⟨_, _, _, (show (xs x).fieldFound? Cn (T k).2.1 (T k).2.2.1 = _ by rw [← f7]; exact hi)⟩, hst⟩ (by rw [q2]; exact h6) q1 q3 (by rw [hsl]; exact k2_hasslot (q4 k f3)) rfl rfl d fin_
theorem J_putI (C : Ok x cc nL own) {idx ci k c : Nat} {v : Int32} (F : Fld own idx ci k true false) (d : decode cc pc = .ok (.putfield idx, 3)) (hM : isK M c ci) (kk : J x nL (pc + 3) lv st ce sl (sI M c k v)) : J x nL pc lv (.int v :: .ref (xB x + c) :: st) ce sl M := by
  refine put_any (M' := sI M c k v) C F d hM (Or.inl rfl) (fun ty h _ => by rw [h rfl]; exact ⟨rfl, rfl⟩) rfl ?_ (fun d hd => sI_ws hd) kk
  obtain ⟨Cn, T, N, ty0, f1, f2, f3, f4, f5, f6, -⟩ := F
  rw [cE_o (show kd (sI M c k v) c = ci from hM.2) f6, fls_sI f4, gI_sI]; rfl
theorem put_fit {q : Nat} (ty : FieldType) (h : (∃ n, ty = .object n) ∨ ∃ e, ty = .array e) : narrow ty (.ref q) = .ref q ∧ fits ty (.ref q) = true := by
  rcases h with ⟨n, rfl⟩ | ⟨e, rfl⟩ <;> exact ⟨rfl, rfl⟩
theorem J_putR (C : Ok x cc nL own) {idx ci k c q : Nat} (F : Fld own idx ci k false false) (d : decode cc pc = .ok (.putfield idx, 3)) (hM : isK M c ci) (kk : J x nL (pc + 3) lv st ce sl (sR M c k (some q))) : J x nL pc lv (.ref (xB x + q) :: .ref (xB x + c) :: st) ce sl M := by
  refine put_any (M' := sR M c k (some q)) C F d hM (Or.inl rfl) (fun ty _ h => put_fit ty (h rfl)) rfl ?_ (fun d hd => sR_ws hd) kk
  obtain ⟨Cn, T, N, ty0, f1, f2, f3, f4, f5, f6, -⟩ := F
  have e : (fls (fB ci) (xB x) (gI M c) (gR M c)).set k (.ref (xB x + q)) = fls (fB ci) (xB x) (gI M c) (va_up (gR M c) k (some q)) := fls_sR (v := some q) f4
  rw [cE_o (show kd (sR M c k (some q)) c = ci from hM.2) f6, e, gR_sR]; rfl
theorem J_putRF (C : Ok x cc nL own) {idx ci k c q : Nat} (F : Fld own idx ci k false true) (hnm : (xh x).name = "<init>") (hcl : ∃ Cn T N, hT_cl[ci]? = some (Cn, T, N) ∧ Cn = own) (d : decode cc pc = .ok (.putfield idx, 3)) (hM : isK M c ci) (kk : J x nL (pc + 3) lv st ce sl (sR M c k (some q))) : J x nL pc lv (.ref (xB x + q) :: .ref (xB x + c) :: st) ce sl M := by
  refine put_any (M' := sR M c k (some q)) C F d hM (Or.inr ⟨hnm, hcl⟩) (fun ty _ h => put_fit ty (h rfl)) rfl ?_ (fun d hd => sR_ws hd) kk
  obtain ⟨Cn, T, N, ty0, f1, f2, f3, f4, f5, f6, -⟩ := F
  have e : (fls (fB ci) (xB x) (gI M c) (gR M c)).set k (.ref (xB x + q)) = fls (fB ci) (xB x) (gI M c) (va_up (gR M c) k (some q)) := fls_sR (v := some q) f4
  rw [cE_o (show kd (sR M c k (some q)) c = ci from hM.2) f6, e, gR_sR]; rfl
theorem J_iald (C : Ok x cc nL own) {c : Nat} {i : Int32} (d : decode cc pc = .ok (.iaload, 1)) (hM : isA M c 8 i) (kk : J x nL (pc + 1) lv (.int (gI M c i.toNatClampNeg) :: st) ce sl M) : J x nL pc lv (.int i :: .ref (xB x + c) :: st) ce sl M := by
  intro H locs ls h1 h2 h3 h4
  have he := ws_get (B := xB x) (ac := xA x) hM.1.1
  rw [cE_i hM.1.2 (by decide) (by decide)] at he
  exact va_iald C.1 C.2.1 C.2.2.2.2.2.1.1 h1 c 0 he rfl hM.2 d (kk H locs ls h1 h2 h3 h4)
theorem J_zald (C : Ok x cc nL own) {c : Nat} {i : Int32} (d : decode cc pc = .ok (.baload, 1)) (hM : isA M c 9 i) (kk : J x nL (pc + 1) lv (.int (gI M c i.toNatClampNeg) :: st) ce sl M) : J x nL pc lv (.int i :: .ref (xB x + c) :: st) ce sl M := by
  intro H locs ls h1 h2 h3 h4
  have he := ws_get (B := xB x) (ac := xA x) hM.1.1
  rw [cE_i hM.1.2 (by decide) (by decide)] at he
  exact va_zald C.1 C.2.1 C.2.2.2.2.2.1.1 h1 c 1 he rfl hM.2 d (kk H locs ls h1 h2 h3 h4)
theorem J_aaldP (C : Ok x cc nL own) {c q : Nat} {i : Int32} (d : decode cc pc = .ok (.aaload, 1)) (hM : isA M c 10 i) (hq : gR M c i.toNatClampNeg = some q) (kk : J x nL (pc + 1) lv (.ref (xB x + q) :: st) ce sl M) : J x nL pc lv (.int i :: .ref (xB x + c) :: st) ce sl M := by
  intro H locs ls h1 h2 h3 h4
  have he := ws_get (B := xB x) (ac := xA x) hM.1.1
  rw [cE_r hM.1.2 (by decide)] at he
  refine va_aldq C.1 C.2.1 C.2.2.2.2.2.1.1 h1 c 2 he rfl hM.2 d ?_
  rw [hq]
  exact kk H locs ls h1 h2 h3 h4
theorem J_aaldI (C : Ok x cc nL own) {c q : Nat} {i : Int32} (d : decode cc pc = .ok (.aaload, 1)) (hM : isA M c 11 i) (hq : gR M c i.toNatClampNeg = some q) (kk : J x nL (pc + 1) lv (.ref (xB x + q) :: st) ce sl M) : J x nL pc lv (.int i :: .ref (xB x + c) :: st) ce sl M := by
  intro H locs ls h1 h2 h3 h4
  have he := ws_get (B := xB x) (ac := xA x) hM.1.1
  rw [cE_r hM.1.2 (by decide)] at he
  have hlt : i.toNatClampNeg < ln M c := Nat.not_le.mp fun q => hM.2 (Or.inr q)
  refine W.aald (v := .ref (xB x + q)) (ty := .array .int) C.1 C.2.1 (h1 c _ he) ((C.2.2.2.2.2.1.1.2 3 _ rfl).1 (ln M c) (fun j => va_rf ((gR M c j).map (xB x + ·)))) rfl (fun q => by cases q) (by show ¬ (i < 0 ∨ (arrV _ _ _).slots.size ≤ _); rw [arrV_size]; exact hM.2) (by show (arrV _ _ _).slots[_]? = _; rw [arrV_read _ _ hlt]; show some (va_rf ((gR M c i.toNatClampNeg).map _)) = _; rw [hq]; rfl) rfl rfl d (kk H locs ls h1 h2 h3 h4)
theorem J_alen (C : Ok x cc nL own) {c : Nat} (d : decode cc pc = .ok (.arraylength, 1)) (hM : isK M c 8) (kk : J x nL (pc + 1) lv (.int (nI (ln M c)) :: st) ce sl M) : J x nL pc lv (.ref (xB x + c) :: st) ce sl M := by
  intro H locs ls h1 h2 h3 h4
  have he := ws_get (B := xB x) (ac := xA x) hM.1
  rw [cE_i hM.2 (by decide) (by decide)] at he
  exact va_alen C.1 C.2.1 C.2.2.2.2.2.1.1 h1 c 0 he rfl (v := nI (ln M c)) rfl d (kk H locs ls h1 h2 h3 h4)
theorem ast_any {c : Nat} {i y : Int32} {K : Nat} (h8 : 8 ≤ K) (h10 : K < 10) (hM : isA M c K i) {H H1 : Heap} {locs : List Loc} {ls : Array Slot} {j : Nat} (h1 : va_P (xD x) hT_cl (wsM (xB x) (xA x) M) H) (h2 : H.size = xB x + nC M) (h3 : va_S (AB (xB x)) (xs x).heap H locs) (h4 : lv_has ls nL lv)
    (e : H1[xB x + c]? = some ((arrV (xA x K) (ln M c) (fun j => .int (gI M c j))).setSlot i.toNatClampNeg (.int y))) (z : H1.size = H.size) (oq : ∀ q : Nat, q ≠ xB x + c → H1[q]? = H[q]?) (kk : J x nL pc lv st ce sl (sI M c i.toNatClampNeg y)) : Wx x H1 (locs ++ [⟨xB x + c, j⟩]) ce sl (F0 (xm x) pc ls st) := by
  have he := ws_get (B := xB x) (ac := xA x) hM.1.1
  rw [cE_i hM.1.2 h8 h10] at he
  refine kk H1 _ ls ?_ (by rw [z, h2]; rfl) (h3.put z oq (show xB x ≤ xB x + c by omega)) h4
  have hP := h1.set (ws_D (xB x) (xA x) M) he (e := .inl (xA x K, (ln M c, .inl (upd (gI M c) i.toNatClampNeg y)))) ?_ oq
  · rw [ws_set hM.1.1 (M' := sI M c i.toNatClampNeg y) rfl ?_ (fun d hd => sI_ws hd)] at hP
    · exact hP
    · rw [cE_i (show kd (sI M c i.toNatClampNeg y) c = K from hM.1.2) h8 h10, gI_sI]; rfl
  · show H1[xB x + c]? = some (vp_cell _ _)
    rw [e, vp_cell_i, arrV_store]
    congr 2
    funext q
    by_cases hq : q = i.toNatClampNeg
    · subst hq
      simp [updV, upd]
    · simp [updV, upd, hq]
theorem J_iast (C : Ok x cc nL own) {c : Nat} {i y : Int32} (d : decode cc pc = .ok (.iastore, 1)) (hM : isA M c 8 i) (kk : J x nL (pc + 1) lv st ce sl (sI M c i.toNatClampNeg y)) : J x nL pc lv (.int y :: .int i :: .ref (xB x + c) :: st) ce sl M := by
  intro H locs ls h1 h2 h3 h4
  have he := ws_get (B := xB x) (ac := xA x) hM.1.1
  rw [cE_i hM.1.2 (by decide) (by decide)] at he
  exact W.iast C.1 C.2.1 (h1 c _ he) ((C.2.2.2.2.2.1.1.2 0 _ rfl).1 (ln M c) (fun j => .int (gI M c j))) (fun q => by cases q) (by show ¬ (i < 0 ∨ (arrV _ _ _).slots.size ≤ _); rw [arrV_size]; exact hM.2) rfl rfl d fun H1 e z oq => ast_any (by decide) (by decide) hM h1 h2 h3 h4 e z oq kk
end HEAPR
end
section
def MLV (own : String) (idx : Nat) (y : MethodName) (bts : ByteArray) (maxL : Nat) (ret : Option FieldType) (n ci : Nat) : Prop := (∀ w ∈ ([.methodLink own idx y, .instanceMethod y, .selects y.cls y y, .initialized y.cls, .code y bts maxL ret] : List Cond), w ∈ gw) ∧ (y.cls ≠ "java/lang/invoke/MethodHandle" ∧ y.cls ≠ "java/lang/invoke/VarHandle" ∧ (parseMethodDescriptor y.desc).map (fun d => d.parameters.length) = some n) ∧ ∃ T N, hT_cl[ci]? = some (y.cls, T, N) ∧ ci < 8
def MLS (own : String) (idx : Nat) (y : MethodName) (bts : ByteArray) (maxL : Nat) (ret : Option FieldType) (n : Nat) : Prop := (∀ w ∈ ([.methodLink own idx y, .static y, .initialized y.cls, .code y bts maxL ret] : List Cond), w ∈ gw) ∧ (y.cls ≠ "java/lang/invoke/MethodHandle" ∧ y.cls ≠ "java/lang/invoke/VarHandle" ∧ (parseMethodDescriptor y.desc).map (fun d => d.parameters.length) = some n)
def MLI (own : String) (idx : Nat) (y : MethodName) (bts : ByteArray) (maxL : Nat) (n : Nat) : Prop := (∀ w ∈ ([.methodLink own idx y, .instanceMethod y, .initialized y.cls, .code y bts maxL none] : List Cond), w ∈ gw) ∧ (y.cls ≠ "java/lang/invoke/MethodHandle" ∧ y.cls ≠ "java/lang/invoke/VarHandle" ∧ (parseMethodDescriptor y.desc).map (fun d => d.parameters.length) = some n) ∧ y.name = "<init>"
theorem gw_GoodIn {c : Cond} (h : c ∈ gw) : GoodIn gw (c :: gw) := by
  intro w hw
  have hm : w ∈ gw := by
    rcases List.mem_cons.mp hw with e | e
    · rw [e]; exact h
    · exact e
  exact ⟨hm, good_of_word (gw_good w hm)⟩
theorem EnvF_calling {D : va_G} {B t : Nat} {ac : Nat → ClassId} {U : State} (g : JFrame) (mk : MethodId) (a : Array Value) (h : EnvF D B t ac U) : EnvF D B t ac (U.calling g mk a) := by
  obtain ⟨h1, h2, h3, h4, h5, h6, h7⟩ := h
  exact ⟨h1.moved (Vm.Alike.refl U.vm), h2.moved (Vm.Alike.refl U.vm), h3.moved (Vm.Alike.refl U.vm), h4, fun q hq => va_Nw.same rfl rfl (h5 q hq), h6.moved (Vm.Alike.refl U.vm), vAOA_moved (Vm.Alike.refl U.vm) h7⟩
theorem PRE_blind {D : va_G} {B t : Nat} {ac : Nat → ClassId} {M : Mem} (av : List Value) : FrameBlind (va_Pc av (PRE D B t ac M)) := fun a U g mk q => ⟨q.1, q.2.1, q.2.2.1, EnvF_calling g mk a q.2.2.2⟩
/-- how much room a call asks -/
abbrev Rm (rm R : Room) (maxL mc ms ce sl : Nat) : Prop := rm.cells = mc ∧ rm.slots = ms ∧ (rm.frames + 1 ≤ R.frames ∧ 8 + (maxL + 11) + rm.locals ≤ R.locals) ∧ (ce + mc ≤ R.cells ∧ sl + ms ≤ R.slots)
section CALLR
variable {x : Ctx} {cc : ByteArray} {nL pc ce sl : Nat} {own : String} {lv lv' : List (Nat × Value)} {st rest As : List Value} {M : Mem} {idx maxL n ci mc ms c : Nat} {y : MethodName} {bts : ByteArray} {ret : Option FieldType} {rm : Room}
theorem PRE_at (C : Ok x cc nL own) {H : Heap} {locs : List Loc} (h1 : va_P (xD x) hT_cl (wsM (xB x) (xA x) M) H) (h2 : H.size = xB x + nC M) (h3 : va_S (AB (xB x)) (xs x).heap H locs) : ∀ U : State, U.heap = H → (xs x).WarmedH U.vm → PRE (xD x) (xB x) (xt x) (xA x) M U := by
  intro U hU hW
  exact ⟨by rw [hU]; exact h2, by rw [hU]; exact h1, vZ_seen hW hW.alike (by rw [hU]; exact h3.1) (fun q hq hA => by rw [hU]; exact h3.2.1 q hq hA) C.2.2.2.2.2.1⟩
theorem run_V (C : Ok x cc nL own) {Qc : Array Value → State → Outcome → State → Prop} (ml : MLV own idx y bts maxL ret n ci) (hM : Met (xl x) y (.code y bts maxL ret :: gw) rm (va_Pc (.ref (xB x + c) :: As) (PRE (xD x) (xB x) (xt x) (xA x) M)) Qc mc ms (AB (xB x))) (hr : Rm rm (xR x) maxL mc ms ce sl) (hn : As.length = n) (hK : isK M c ci) (hst : st = As.reverse ++ .ref (xB x + c) :: rest) (hcat : (rest.map fun v => v.category).sum ≤ 8) (d : decode cc pc = .ok (.invokevirtual idx, 3))
    {H : Heap} {locs : List Loc} {ls : Array Slot} (h1 : va_P (xD x) hT_cl (wsM (xB x) (xA x) M) H) (h2 : H.size = xB x + nC M) (h3 : va_S (AB (xB x)) (xs x).heap H locs) (h4 : lv_has ls nL lv) :
    va_Run (xp x) (xl x) (xe x) (xR x) (xs x) (xm x) (xa x) (xb x) (xh x) (xc x) H locs ce sl mc ms (F0 (xm x) pc ls st) rest (Qc (Value.ref (xB x + c) :: As).toArray) (AB (xB x)) := by
  obtain ⟨g1, g2, T, N, g3, g4⟩ := ml
  have hts := C.2.2.2.2.1
  have he := ws_get (B := xB x) (ac := xA x) hK.1
  rw [cE_o hK.2 g4] at he
  have hcw : Cond.code y bts maxL ret ∈ gw := g1 _ (by simp)
  have hrec : ∃ cellB : Cell, H[xB x + c]? = some cellB ∧ cellB.vm.isStatics = false ∧ (xs x).vm.findClass y.cls = some cellB.cls := va_recv (q := (y.cls, T, N)) C.2.2.2.2.2.1.1 h1 g3 he
  exact va_runV (Ts := gw) (own := own) (C := y.cls) (As := As) (rest := rest) ⟨C.1, C.2.1, C.2.2.1, C.2.2.2.1, hts⟩ hM ⟨callB_of n hts (gw_GoodIn hcw) rfl hr.1 hr.2.1 (hts _ (g1 _ (by simp))) (hts _ (g1 _ (by simp))) g2 hr.2.2.1, hts _ (g1 _ (by simp)), hts _ (g1 _ (by simp))⟩ ⟨PRE_blind _, hrec, fun U hU hW => ⟨rfl, PRE_at C h1 h2 h3 U hU hW⟩⟩ rfl hn h4.1 hst (lv_room hcat) d hr.2.2.2
theorem run_S (C : Ok x cc nL own) {Qc : Array Value → State → Outcome → State → Prop} (ml : MLS own idx y bts maxL ret n) (hM : Met (xl x) y (.code y bts maxL ret :: gw) rm (va_Pc As (PRE (xD x) (xB x) (xt x) (xA x) M)) Qc mc ms (AB (xB x))) (hr : Rm rm (xR x) maxL mc ms ce sl) (hn : As.length = n) (hst : st = As.reverse ++ rest) (hcat : (rest.map fun v => v.category).sum ≤ 8) (d : decode cc pc = .ok (.invokestatic idx, 3))
    {H : Heap} {locs : List Loc} {ls : Array Slot} (h1 : va_P (xD x) hT_cl (wsM (xB x) (xA x) M) H) (h2 : H.size = xB x + nC M) (h3 : va_S (AB (xB x)) (xs x).heap H locs) (h4 : lv_has ls nL lv) :
    va_Run (xp x) (xl x) (xe x) (xR x) (xs x) (xm x) (xa x) (xb x) (xh x) (xc x) H locs ce sl mc ms (F0 (xm x) pc ls st) rest (Qc As.toArray) (AB (xB x)) := by
  obtain ⟨g1, g2⟩ := ml
  have hts := C.2.2.2.2.1
  have hcw : Cond.code y bts maxL ret ∈ gw := g1 _ (by simp)
  exact va_runS (Ts := gw) (own := own) (As := As) (rest := rest) ⟨C.1, C.2.1, C.2.2.1, C.2.2.2.1, hts⟩ hM ⟨callB_of n hts (gw_GoodIn hcw) rfl hr.1 hr.2.1 (hts _ (g1 _ (by simp))) (hts _ (g1 _ (by simp))) g2 hr.2.2.1, hts _ (g1 _ (by simp))⟩ ⟨PRE_blind _, fun U hU hW => ⟨rfl, PRE_at C h1 h2 h3 U hU hW⟩⟩ rfl hn h4.1 hst (lv_room hcat) d hr.2.2.2
theorem run_I (C : Ok x cc nL own) {Qc : Array Value → State → Outcome → State → Prop} (ml : MLI own idx y bts maxL n) (hM : Met (xl x) y (.code y bts maxL none :: gw) rm (va_Pc (.ref (xB x + c) :: As) (PRE (xD x) (xB x) (xt x) (xA x) M)) Qc mc ms (AB (xB x))) (hr : Rm rm (xR x) maxL mc ms ce sl) (hn : As.length = n) (hst : st = As.reverse ++ .ref (xB x + c) :: rest) (hcat : (rest.map fun v => v.category).sum ≤ 8) (d : decode cc pc = .ok (.invokespecial idx, 3))
    {H : Heap} {locs : List Loc} {ls : Array Slot} (h1 : va_P (xD x) hT_cl (wsM (xB x) (xA x) M) H) (h2 : H.size = xB x + nC M) (h3 : va_S (AB (xB x)) (xs x).heap H locs) (h4 : lv_has ls nL lv) :
    va_Run (xp x) (xl x) (xe x) (xR x) (xs x) (xm x) (xa x) (xb x) (xh x) (xc x) H locs ce sl mc ms (F0 (xm x) pc ls st) rest (Qc (Value.ref (xB x + c) :: As).toArray) (AB (xB x)) := by
  obtain ⟨g1, g2, g3⟩ := ml
  have hts := C.2.2.2.2.1
  have hcw : Cond.code y bts maxL none ∈ gw := g1 _ (by simp)
  exact va_runI (Ts := gw) (own := own) (As := As) (rest := rest) ⟨C.1, C.2.1, C.2.2.1, C.2.2.2.1, hts⟩ hM ⟨callB_of n hts (gw_GoodIn hcw) rfl hr.1 hr.2.1 (hts _ (g1 _ (by simp))) (hts _ (g1 _ (by simp))) g2 hr.2.2.1, g3, hts _ (g1 _ (by simp))⟩ ⟨PRE_blind _, fun U hU hW => ⟨rfl, PRE_at C h1 h2 h3 U hU hW⟩⟩ rfl hn h4.1 hst (lv_room hcat) d hr.2.2.2
abbrev QI (D : va_G) (B : Nat) (ac : Nat → ClassId) (post : Int32 → Mem → Prop) : Array Value → State → Outcome → State → Prop := va_Qi post (PST D B ac) (AB B)
abbrev QV (D : va_G) (B : Nat) (ac : Nat → ClassId) (post : Mem → Prop) : Array Value → State → Outcome → State → Prop := va_Qv post (PST D B ac) (AB B)
abbrev QR (D : va_G) (B : Nat) (ac : Nat → ClassId) (post : Nat → Mem → Prop) : Array Value → State → Outcome → State → Prop := va_Qr (fun u : Nat × Mem => post u.1 u.2) (fun (u : Nat × Mem) a t => a = B + u.1 ∧ PST D B ac u.2 t) (AB B)
theorem on_i {post : Int32 → Mem → Prop} {a : Array Value} {H : Heap} {locs : List Loc} {ls : Array Slot} (h3 : va_S (AB (xB x)) (xs x).heap H locs) (h4 : lv_has ls nL lv) (hr : va_Run (xp x) (xl x) (xe x) (xR x) (xs x) (xm x) (xa x) (xb x) (xh x) (xc x) H locs ce sl mc ms (F0 (xm x) pc ls st) rest (QI (xD x) (xB x) (xA x) post a) (AB (xB x))) (kk : ∀ r M', post r M' → J x nL (pc + 3) lv (.int r :: rest) (ce + mc) (sl + ms) M') : Wx x H locs ce sl (F0 (xm x) pc ls st) :=
  va_calli hr h3 (fun q _ h => h) (fun q h => h) (fun r M' t H1 l1 ht hvm hp hB hz hk hS => kk r M' hp H1 l1 ls (by rw [← ht]; exact hB.2) (by rw [← ht]; exact hB.1) hS h4)
theorem on_v {post : Mem → Prop} {a : Array Value} {H : Heap} {locs : List Loc} {ls : Array Slot} (h3 : va_S (AB (xB x)) (xs x).heap H locs) (h4 : lv_has ls nL lv) (hr : va_Run (xp x) (xl x) (xe x) (xR x) (xs x) (xm x) (xa x) (xb x) (xh x) (xc x) H locs ce sl mc ms (F0 (xm x) pc ls st) rest (QV (xD x) (xB x) (xA x) post a) (AB (xB x))) (kk : ∀ M', post M' → J x nL (pc + 3) lv rest (ce + mc) (sl + ms) M') : Wx x H locs ce sl (F0 (xm x) pc ls st) :=
  va_callv hr h3 (fun q _ h => h) (fun q h => h) (fun M' t H1 l1 ht hvm hp hB hz hk hS => kk M' hp H1 l1 ls (by rw [← ht]; exact hB.2) (by rw [← ht]; exact hB.1) hS h4)
theorem on_r {post : Nat → Mem → Prop} {a : Array Value} {H : Heap} {locs : List Loc} {ls : Array Slot} (h3 : va_S (AB (xB x)) (xs x).heap H locs) (h4 : lv_has ls nL lv) (hr : va_Run (xp x) (xl x) (xe x) (xR x) (xs x) (xm x) (xa x) (xb x) (xh x) (xc x) H locs ce sl mc ms (F0 (xm x) pc ls st) rest (QR (xD x) (xB x) (xA x) post a) (AB (xB x))) (kk : ∀ r M', post r M' → J x nL (pc + 3) lv (.ref (xB x + r) :: rest) (ce + mc) (sl + ms) M') : Wx x H locs ce sl (F0 (xm x) pc ls st) :=
  va_callr hr h3 (fun q _ h => h) (fun q h => h) (fun u ra t H1 l1 ht hvm hp hB hz hk hS => by rw [hB.1]; exact kk u.1 u.2 hp H1 l1 ls (by rw [← ht]; exact hB.2.2) (by rw [← ht]; exact hB.2.1) hS h4)
theorem J_callVi (C : Ok x cc nL own) {post : Int32 → Mem → Prop} (ml : MLV own idx y bts maxL ret n ci) (hM : Met (xl x) y (.code y bts maxL ret :: gw) rm (va_Pc (.ref (xB x + c) :: As) (PRE (xD x) (xB x) (xt x) (xA x) M)) (QI (xD x) (xB x) (xA x) post) mc ms (AB (xB x))) (hr : Rm rm (xR x) maxL mc ms ce sl) (hn : As.length = n) (hK : isK M c ci) (hst : st = As.reverse ++ .ref (xB x + c) :: rest) (hcat : (rest.map fun v => v.category).sum ≤ 8) (d : decode cc pc = .ok (.invokevirtual idx, 3)) (kk : ∀ r M', post r M' → J x nL (pc + 3) lv (.int r :: rest) (ce + mc) (sl + ms) M') : J x nL pc lv st ce sl M :=
  fun H locs ls h1 h2 h3 h4 => on_i h3 h4 (run_V C ml hM hr hn hK hst hcat d h1 h2 h3 h4) kk
theorem J_callVv (C : Ok x cc nL own) {post : Mem → Prop} (ml : MLV own idx y bts maxL ret n ci) (hM : Met (xl x) y (.code y bts maxL ret :: gw) rm (va_Pc (.ref (xB x + c) :: As) (PRE (xD x) (xB x) (xt x) (xA x) M)) (QV (xD x) (xB x) (xA x) post) mc ms (AB (xB x))) (hr : Rm rm (xR x) maxL mc ms ce sl) (hn : As.length = n) (hK : isK M c ci) (hst : st = As.reverse ++ .ref (xB x + c) :: rest) (hcat : (rest.map fun v => v.category).sum ≤ 8) (d : decode cc pc = .ok (.invokevirtual idx, 3)) (kk : ∀ M', post M' → J x nL (pc + 3) lv rest (ce + mc) (sl + ms) M') : J x nL pc lv st ce sl M :=
  fun H locs ls h1 h2 h3 h4 => on_v h3 h4 (run_V C ml hM hr hn hK hst hcat d h1 h2 h3 h4) kk
theorem J_callVr (C : Ok x cc nL own) {post : Nat → Mem → Prop} (ml : MLV own idx y bts maxL ret n ci) (hM : Met (xl x) y (.code y bts maxL ret :: gw) rm (va_Pc (.ref (xB x + c) :: As) (PRE (xD x) (xB x) (xt x) (xA x) M)) (QR (xD x) (xB x) (xA x) post) mc ms (AB (xB x))) (hr : Rm rm (xR x) maxL mc ms ce sl) (hn : As.length = n) (hK : isK M c ci) (hst : st = As.reverse ++ .ref (xB x + c) :: rest) (hcat : (rest.map fun v => v.category).sum ≤ 8) (d : decode cc pc = .ok (.invokevirtual idx, 3)) (kk : ∀ r M', post r M' → J x nL (pc + 3) lv (.ref (xB x + r) :: rest) (ce + mc) (sl + ms) M') : J x nL pc lv st ce sl M :=
  fun H locs ls h1 h2 h3 h4 => on_r h3 h4 (run_V C ml hM hr hn hK hst hcat d h1 h2 h3 h4) kk
theorem J_callSi (C : Ok x cc nL own) {post : Int32 → Mem → Prop} (ml : MLS own idx y bts maxL ret n) (hM : Met (xl x) y (.code y bts maxL ret :: gw) rm (va_Pc As (PRE (xD x) (xB x) (xt x) (xA x) M)) (QI (xD x) (xB x) (xA x) post) mc ms (AB (xB x))) (hr : Rm rm (xR x) maxL mc ms ce sl) (hn : As.length = n) (hst : st = As.reverse ++ rest) (hcat : (rest.map fun v => v.category).sum ≤ 8) (d : decode cc pc = .ok (.invokestatic idx, 3)) (kk : ∀ r M', post r M' → J x nL (pc + 3) lv (.int r :: rest) (ce + mc) (sl + ms) M') : J x nL pc lv st ce sl M :=
  fun H locs ls h1 h2 h3 h4 => on_i h3 h4 (run_S C ml hM hr hn hst hcat d h1 h2 h3 h4) kk
theorem J_callSv (C : Ok x cc nL own) {post : Mem → Prop} (ml : MLS own idx y bts maxL ret n) (hM : Met (xl x) y (.code y bts maxL ret :: gw) rm (va_Pc As (PRE (xD x) (xB x) (xt x) (xA x) M)) (QV (xD x) (xB x) (xA x) post) mc ms (AB (xB x))) (hr : Rm rm (xR x) maxL mc ms ce sl) (hn : As.length = n) (hst : st = As.reverse ++ rest) (hcat : (rest.map fun v => v.category).sum ≤ 8) (d : decode cc pc = .ok (.invokestatic idx, 3)) (kk : ∀ M', post M' → J x nL (pc + 3) lv rest (ce + mc) (sl + ms) M') : J x nL pc lv st ce sl M :=
  fun H locs ls h1 h2 h3 h4 => on_v h3 h4 (run_S C ml hM hr hn hst hcat d h1 h2 h3 h4) kk
theorem J_callIv (C : Ok x cc nL own) {post : Mem → Prop} (ml : MLI own idx y bts maxL n) (hM : Met (xl x) y (.code y bts maxL none :: gw) rm (va_Pc (.ref (xB x + c) :: As) (PRE (xD x) (xB x) (xt x) (xA x) M)) (QV (xD x) (xB x) (xA x) post) mc ms (AB (xB x))) (hr : Rm rm (xR x) maxL mc ms ce sl) (hn : As.length = n) (hst : st = As.reverse ++ .ref (xB x + c) :: rest) (hcat : (rest.map fun v => v.category).sum ≤ 8) (d : decode cc pc = .ok (.invokespecial idx, 3)) (kk : ∀ M', post M' → J x nL (pc + 3) lv rest (ce + mc) (sl + ms) M') : J x nL pc lv st ce sl M :=
  fun H locs ls h1 h2 h3 h4 => on_v h3 h4 (run_I C ml hM hr hn hst hcat d h1 h2 h3 h4) kk
/-! returns -/
def RetI (x : Ctx) (ty : FieldType) (post : Int32 → Mem → Prop) (mc ms : Nat) : Prop := (xh x).sig.returnType = some ty ∧ xQ x = MQ (xb x) (QI (xD x) (xB x) (xA x) post) (xa x) (xs x) mc ms (AB (xB x))
def RetV (x : Ctx) (post : Mem → Prop) (mc ms : Nat) : Prop := (xh x).sig.returnType = none ∧ xQ x = MQ (xb x) (QV (xD x) (xB x) (xA x) post) (xa x) (xs x) mc ms (AB (xB x))
def RetR (x : Ctx) (ty : FieldType) (post : Nat → Mem → Prop) (mc ms : Nat) : Prop := ((xh x).sig.returnType = some ty ∧ ((∃ n, ty = .object n) ∨ ∃ t, ty = .array t)) ∧ xQ x = MQ (xb x) (QR (xD x) (xB x) (xA x) post) (xa x) (xs x) mc ms (AB (xB x))
theorem J_iret (C : Ok x cc nL own) {ty : FieldType} {post : Int32 → Mem → Prop} {v : Int32} (hR : RetI x ty post ce sl) (d : decode cc pc = .ok (.ireturn, 1)) (hn : narrow ty (.int v) = .int v) (hp : post v M) : J x nL pc lv [.int v] ce sl M := by
  intro H locs ls h1 h2 h3 h4
  show W _ _ _ _ _ _ _ _ _ _ _ _ _ _ (xQ x) _
  rw [hR.2]
  exact W.zret C.1 C.2.1 hR.1 hn (fun t ht hW => ⟨⟨v, M, rfl, hp, by rw [ht]; exact h2, by rw [ht]; exact h1⟩, h3.F ht⟩) h3.2.2 d C.2.2.2.2.2.2
theorem J_vret (C : Ok x cc nL own) {post : Mem → Prop} (hR : RetV x post ce sl) (d : decode cc pc = .ok (.return_, 1)) (hp : post M) : J x nL pc lv [] ce sl M := by
  intro H locs ls h1 h2 h3 h4
  show W _ _ _ _ _ _ _ _ _ _ _ _ _ _ (xQ x) _
  rw [hR.2]
  exact W.vret C.1 C.2.1 hR.1 (fun t ht hW => ⟨⟨M, rfl, hp, by rw [ht]; exact h2, by rw [ht]; exact h1⟩, h3.F ht⟩) h3.2.2 d C.2.2.2.2.2.2
theorem J_aret (C : Ok x cc nL own) {ty : FieldType} {post : Nat → Mem → Prop} {v : Nat} (hR : RetR x ty post ce sl) (d : decode cc pc = .ok (.areturn, 1)) (hp : post v M) : J x nL pc lv [.ref (xB x + v)] ce sl M := by
  intro H locs ls h1 h2 h3 h4
  show W _ _ _ _ _ _ _ _ _ _ _ _ _ _ (xQ x) _
  rw [hR.2]
  exact W.aret C.1 C.2.1 hR.1.1 hR.1.2 (Or.inr ⟨_, rfl⟩) (fun t ht hW => ⟨⟨(v, M), xB x + v, rfl, hp, rfl, by rw [ht]; exact h2, by rw [ht]; exact h1⟩, h3.F ht⟩) h3.2.2 d C.2.2.2.2.2.2
/-! the static row of numbers -/
theorem J_first (C : Ok x cc nL own) (hn : (own, idx, "HeapTower", "FIRST", "[I", "HeapTower") ∈ nestW) (d : decode cc pc = .ok (.getstatic idx, 3)) (kk : J x nL (pc + 3) lv (.ref (xt x) :: st) ce sl M) : J x nL pc lv st ce sl M :=
  fun H locs ls h1 h2 h3 h4 => va_getsN C.1 C.2.1 C.2.2.2.2.2.1.2.1 h3 C.2.2.2.1 (va_Nw.use rfl (C.2.2.2.2.2.1.2.2.2.2.1 _ hn)) (fun _ h => h) d (kk H locs ls h1 h2 h3 h4)
theorem J_fald (C : Ok x cc nL own) {i : Int32} (d : decode cc pc = .ok (.iaload, 1)) (hi : vp_in i 12) (kk : J x nL (pc + 1) lv (.int (fst i.toNatClampNeg) :: st) ce sl M) : J x nL pc lv (.int i :: .ref (xt x) :: st) ce sl M :=
  fun H locs ls h1 h2 h3 h4 => va_ti C.1 C.2.1 C.2.2.2.2.2.1.2.2.1 h3 hi rfl d (kk H locs ls h1 h2 h3 h4)
end CALLR
/-! a method's contract out of its walk -/
theorem Met_ofWF {l : Launch} {y : MethodName} {ws ws' : List Cond} {rm : Room} {Pc : Array Value → State → Prop} {Qc : Array Value → State → Outcome → State → Prop} {mc ms : Nat} {free : Addr → Prop} {cc : ByteArray} {maxL : Nat} {ret : Option FieldType}
    (hy : plainFor y = true) (hw : ws = Cond.code y cc maxL ret :: ws')
    (body : ∀ p e s m args below meth c s₁, BodyLoose p l y (headSpec ws rm) cc maxL ret e s m args below meth c s₁ → c.maxLocals = maxL → Pc args s →
      W p l e (headSpec ws rm).room s m args below meth c s.heap [] 0 0 (MQ below Qc args s mc ms free) (entryFrame m args maxL)) : Met l y ws rm Pc Qc mc ms free := by
  refine MetFree.of_bodySF (code := cc) (maxLocals := maxL) (ret := ret) hy ?_ ?_
  · intro args s m h hn
    obtain ⟨meth, c, h1, h2, h3, h4, h5, h6, -, -⟩ := Cond.code_spec hn (atoms_spec (ws := ws) h _ (by rw [hw]; exact List.mem_cons_self))
    exact ⟨meth, c, h1, h2, h3, h4, h5, h6⟩
  · intro p e s m args below meth c s₁ B hml hP _
    have hh0 : s₁.heap = s.heap := by rw [B.state]; rfl
    obtain ⟨t, a1, o, b1, b2, b3⟩ := body p e s m args below meth c s₁ B hml hP s₁ hh0 (Stand.of_body B)
    exact ⟨t, o, a1, b1, b2, ⟨b3.1, b3.2⟩⟩
section METS
variable {l : Launch} {y : MethodName} {bts : ByteArray} {maxL mc ms B t : Nat} {rm : Room} {av : List Value} {M : Mem} {D : va_G} {ac : Nat → ClassId}
theorem entry_J {x : Ctx} (k : J x maxL 0 (lv_args 0 av) [] 0 0 M) (hlen : (lg_sl av).length ≤ maxL) (h1 : va_P (xD x) hT_cl (wsM (xB x) (xA x) M) (xs x).heap) (h2 : (xs x).heap.size = xB x + nC M) : Wx x (xs x).heap [] 0 0 (entryFrame (xm x) av.toArray maxL) := by
  have hl := lv_entry av (n := maxL) hlen
  rw [lg_entry_eq]
  exact k _ _ _ h1 h2 va_S.rf hl
theorem met_i {ty : FieldType} {post : Int32 → Mem → Prop} (hy : plainFor y = true) (hlen : (lg_sl av).length ≤ maxL) (body : ∀ x : Ctx, xl x = l → xR x = rm → xD x = D → xB x = B → xt x = t → xA x = ac → Ok x bts maxL y.cls → RetI x ty post mc ms → J x maxL 0 (lv_args 0 av) [] 0 0 M) : Met l y (.code y bts maxL (some ty) :: gw) rm (va_Pc av (PRE D B t ac M)) (QI D B ac post) mc ms (AB B) := by
  refine Met_ofWF (cc := bts) (maxL := maxL) (ret := some ty) hy rfl ?_
  intro p e s m args below meth c s₁ Bo hml hv
  obtain ⟨rfl, hsz, hP, hE⟩ := hv
  have hts := atoms_spec (ws := .code y bts maxL (some ty) :: gw) Bo.pre
  exact entry_J (x := (p, l, e, rm, s, m, _, below, meth, c, _, D, B, t, ac)) (body _ rfl rfl rfl rfl rfl rfl ⟨Bo.exec, Bo.bytes, hml, findClass_of_methodNamed Bo.named, fun w hw => hts w (List.mem_cons_of_mem _ hw), hE, Bo.notSynchronized⟩ ⟨Bo.returns, rfl⟩) hlen hP hsz
theorem met_v {post : Mem → Prop} (hy : plainFor y = true) (hlen : (lg_sl av).length ≤ maxL) (body : ∀ x : Ctx, xl x = l → xR x = rm → xD x = D → xB x = B → xt x = t → xA x = ac → Ok x bts maxL y.cls → RetV x post mc ms → (xh x).name = y.name → J x maxL 0 (lv_args 0 av) [] 0 0 M) : Met l y (.code y bts maxL none :: gw) rm (va_Pc av (PRE D B t ac M)) (QV D B ac post) mc ms (AB B) := by
  refine Met_ofWF (cc := bts) (maxL := maxL) (ret := none) hy rfl ?_
  intro p e s m args below meth c s₁ Bo hml hv
  obtain ⟨rfl, hsz, hP, hE⟩ := hv
  have hts := atoms_spec (ws := .code y bts maxL none :: gw) Bo.pre
  exact entry_J (x := (p, l, e, rm, s, m, _, below, meth, c, _, D, B, t, ac)) (body _ rfl rfl rfl rfl rfl rfl ⟨Bo.exec, Bo.bytes, hml, findClass_of_methodNamed Bo.named, fun w hw => hts w (List.mem_cons_of_mem _ hw), hE, Bo.notSynchronized⟩ ⟨Bo.returns, rfl⟩ (name_of_methodNamed Bo.named Bo.method).1) hlen hP hsz
theorem met_r {ty : FieldType} {post : Nat → Mem → Prop} (hy : plainFor y = true) (hty : (∃ n, ty = .object n) ∨ ∃ t, ty = .array t) (hlen : (lg_sl av).length ≤ maxL) (body : ∀ x : Ctx, xl x = l → xR x = rm → xD x = D → xB x = B → xt x = t → xA x = ac → Ok x bts maxL y.cls → RetR x ty post mc ms → J x maxL 0 (lv_args 0 av) [] 0 0 M) : Met l y (.code y bts maxL (some ty) :: gw) rm (va_Pc av (PRE D B t ac M)) (QR D B ac post) mc ms (AB B) := by
  refine Met_ofWF (cc := bts) (maxL := maxL) (ret := some ty) hy rfl ?_
  intro p e s m args below meth c s₁ Bo hml hv
  obtain ⟨rfl, hsz, hP, hE⟩ := hv
  have hts := atoms_spec (ws := .code y bts maxL (some ty) :: gw) Bo.pre
  exact entry_J (x := (p, l, e, rm, s, m, _, below, meth, c, _, D, B, t, ac)) (body _ rfl rfl rfl rfl rfl rfl ⟨Bo.exec, Bo.bytes, hml, findClass_of_methodNamed Bo.named, fun w hw => hts w (List.mem_cons_of_mem _ hw), hE, Bo.notSynchronized⟩ ⟨⟨Bo.returns, hty⟩, rfl⟩) hlen hP hsz
end METS
end
section
/-- a copy of a stretch of numbers is allowed -/
def cpOk (M : Mem) (a : Nat) (sp : Int32) (b : Nat) (dp n : Int32) : Prop := ((isK M a 8 ∧ isK M b 8) ∧ (¬ sp < 0 ∧ ¬ dp < 0 ∧ ¬ n < 0)) ∧ (sp.toNatClampNeg + n.toNatClampNeg ≤ ln M a ∧ dp.toNatClampNeg + n.toNatClampNeg ≤ ln M b)
def cpM (M : Mem) (a : Nat) (sp : Int32) (b : Nat) (dp n : Int32) : Mem := sA M b (va_cpy (gI M a) (gI M b) sp.toNatClampNeg dp.toNatClampNeg n.toNatClampNeg)
section MORER
variable {x : Ctx} {cc : ByteArray} {nL pc ce sl : Nat} {own : String} {lv lv' : List (Nat × Value)} {st rest : List Value} {M : Mem}
theorem J_lcmp (C : Ok x cc nL own) {a b : Int64} (d : decode cc pc = .ok (.lcmp, 1)) (k : J x nL (pc + 1) lv (.int (lg_cmp a b) :: st) ce sl M) : J x nL pc lv (.long b :: .long a :: st) ce sl M := fun H locs ls h1 h2 h3 h4 => W.lcmp C.1 C.2.1 d (k H locs ls h1 h2 h3 h4)
theorem lg_ge {a b : Int64} : (0 ≤ lg_cmp a b) ↔ b ≤ a := by
  unfold lg_cmp
  by_cases h1 : a > b
  · rw [if_pos h1]; exact ⟨fun _ => Int64.le_of_lt h1, fun _ => by decide⟩
  · rw [if_neg h1]
    by_cases h2 : a = b
    · rw [if_pos h2]; exact ⟨fun _ => by rw [h2]; exact Int64.le_refl b, fun _ => by decide⟩
    · rw [if_neg h2]
      refine ⟨fun h => absurd h (by decide), fun h => ?_⟩
      exact absurd (Int64.le_antisymm (Int64.not_lt.mp h1) h) h2
theorem lg_gt {a b : Int64} : (0 < lg_cmp a b) ↔ b < a := by
  unfold lg_cmp
  by_cases h1 : a > b
  · rw [if_pos h1]; exact ⟨fun _ => h1, fun _ => by decide⟩
  · rw [if_neg h1]
    refine ⟨fun h => ?_, fun h => absurd h h1⟩
    by_cases h2 : a = b
    · rw [if_pos h2] at h; exact absurd h (by decide)
    · rw [if_neg h2] at h; exact absurd h (by decide)
theorem J_lcmp_ge (C : Ok x cc nL own) {a b : Int64} {off : Int} {tgt : Nat} (d : decode cc pc = .ok (.lcmp, 1)) (d2 : decode cc (pc + 1) = .ok (.ifCond .ge off, 3)) (ht : ((pc + 1 : Nat) : Int) + off = (tgt : Int)) (k1 : b ≤ a → J x nL tgt lv st ce sl M) (k2 : ¬ b ≤ a → J x nL (pc + 1 + 3) lv st ce sl M) : J x nL pc lv (.long b :: .long a :: st) ce sl M :=
  J_lcmp C d (J_if_ge C d2 ht (fun q => k1 (lg_ge.mp q)) (fun q => k2 (fun z => q (lg_ge.mpr z))))
theorem J_lcmp_gt (C : Ok x cc nL own) {a b : Int64} {off : Int} {tgt : Nat} (d : decode cc pc = .ok (.lcmp, 1)) (d2 : decode cc (pc + 1) = .ok (.ifCond .gt off, 3)) (ht : ((pc + 1 : Nat) : Int) + off = (tgt : Int)) (k1 : b < a → J x nL tgt lv st ce sl M) (k2 : ¬ b < a → J x nL (pc + 1 + 3) lv st ce sl M) : J x nL pc lv (.long b :: .long a :: st) ce sl M :=
  J_lcmp C d (J_if_gt C d2 ht (fun q => k1 (lg_gt.mp q)) (fun q => k2 (fun z => q (lg_gt.mpr z))))
theorem nar_z (y : Int32) : narrow .boolean (.int y) = .int (vp_nar .boolean y) := rfl
theorem J_zast (C : Ok x cc nL own) {c : Nat} {i y : Int32} (d : decode cc pc = .ok (.bastore, 1)) (hM : isA M c 9 i) (kk : J x nL (pc + 1) lv st ce sl (sI M c i.toNatClampNeg (vp_nar .boolean y))) : J x nL pc lv (.int y :: .int i :: .ref (xB x + c) :: st) ce sl M := by
  intro H locs ls h1 h2 h3 h4
  have he := ws_get (B := xB x) (ac := xA x) hM.1.1
  rw [cE_i hM.1.2 (by decide) (by decide)] at he
  exact W.zast C.1 C.2.1 (h1 c _ he) ((C.2.2.2.2.2.1.1.2 1 _ rfl).1 (ln M c) (fun j => .int (gI M c j))) (fun q => by cases q) (by show ¬ (i < 0 ∨ (arrV _ _ _).slots.size ≤ _); rw [arrV_size]; exact hM.2) rfl rfl d fun H1 e z oq => ast_any (by decide) (by decide) hM h1 h2 h3 h4 (by rw [nar_z] at e; exact e) z oq kk
theorem J_obj (C : Ok x cc nL own) {idx a : Nat} (hw : (Cond.methodLink own idx Lib.objectInit ∈ gw ∧ Cond.instanceMethod Lib.objectInit ∈ gw) ∧ Cond.code Lib.objectInit ⟨#[0xb1]⟩ 1 none ∈ gw) (d : decode cc pc = .ok (.invokespecial idx, 3)) (hr : 1 ≤ (xR x).frames ∧ 20 ≤ (xR x).locals) (hcat : (st.map fun v => v.category).sum ≤ 8) (k : J x nL (pc + 3) lv st ce sl M) : J x nL pc lv (.ref a :: st) ce sl M := by
  intro H locs ls h1 h2 h3 h4
  have hts := C.2.2.2.2.1
  refine W.objInit C.1 C.2.1 C.2.2.2.1 (hts _ hw.1.1) (hts _ hw.1.2) (hts _ hw.2) rfl (by rw [C.2.2.1]; exact h4.1) rfl d hr.1 ?_ (k H locs ls h1 h2 h3 h4)
  have := lv_room (m := xm x) (pc := pc) (ls := ls) (rest := .ref a :: st) hcat
  omega
def KC (own : String) (idx : Nat) : Prop := (Cond.methodLink own idx arraycopyName ∈ gw ∧ Cond.native arraycopyName ∈ gw) ∧ (Cond.static arraycopyName ∈ gw ∧ Cond.initialized "java/lang/System" ∈ gw)
theorem J_copy (C : Ok x cc nL own) {idx a0 b0 : Nat} {sp dp n : Int32} (hw : KC own idx) (d : decode cc pc = .ok (.invokestatic idx, 3)) (hr : 1 ≤ (xR x).frames ∧ 26 ≤ (xR x).locals) (hcat : (st.map fun v => v.category).sum ≤ 8) (hM : cpOk M a0 sp b0 dp n) (kk : J x nL (pc + 3) lv st ce sl (cpM M a0 sp b0 dp n)) : J x nL pc lv (.int n :: .int dp :: .ref (xB x + b0) :: .int sp :: .ref (xB x + a0) :: st) ce sl M := by
  intro H locs ls hP hsz hS hlv
  obtain ⟨⟨⟨ka, kb⟩, h1, h2, h3⟩, h4, h5⟩ := hM
  have hts := C.2.2.2.2.1
  have ha0 := ws_get (B := xB x) (ac := xA x) ka.1
  rw [cE_i ka.2 (by decide) (by decide)] at ha0
  have ha1 := ws_get (B := xB x) (ac := xA x) kb.1
  rw [cE_i kb.2 (by decide) (by decide)] at ha1
  have nn : ∀ z : Int32, ¬ z < 0 → z.toInt = (z.toNatClampNeg : Int) := by
    intro z hz
    have hz0 : (0 : Int) ≤ z.toInt := by
      have := Int32.not_lt.mp hz
      simpa using Int32.le_iff_toInt_le.mp this
    show z.toInt = ((z.toInt.toNat : Nat) : Int)
    omega
  intro T hT X
  have hc0 : H[xB x + a0]? = some (vp_cell (xA x 8) (ln M a0, .inl (gI M a0))) := hP a0 _ ha0
  have hc1 : H[xB x + b0]? = some (vp_cell (xA x 8) (ln M b0, .inl (gI M b0))) := hP b0 _ ha1
  have hK := C.2.2.2.2.2.1.1
  obtain ⟨-, k0, hk0, cm0, hkk0⟩ := (hK.2 0 _ rfl).1 (ln M a0) (fun j => .int (gI M a0 j))
  obtain ⟨-, k1, hk1, cm1, hkk1⟩ := (hK.2 0 _ rfl).1 (ln M b0) (fun j => .int (gI M b0 j))
  have hnf : nativeFrameWords "java/lang/System" "arraycopy" 5 = 7 := by decide
  have hroom := lv_room (m := xm x) (pc := pc) (ls := ls) (rest := .int n :: .int dp :: .ref (xB x + b0) :: .int sp :: .ref (xB x + a0) :: st) hcat
  obtain ⟨vm', X', step⟩ := X.arraycopy C.1 C.2.2.2.1 (hts _ hw.1.1) (hts _ hw.1.2) (hts _ hw.2.1) (hts _ hw.2.2) (src := xB x + a0) (dst := xB x + b0) (cs := vp_cell (xA x 8) (ln M a0, .inl (gI M a0))) (cd := vp_cell (xA x 8) (ln M b0, .inl (gI M b0))) (srcPos := sp) (destPos := dp) (n := n) (by rw [hT]; exact hc0) (by rw [hT]; exact hc1)
    (fun _ h => by cases h) (fun _ h => by cases h) (fun h => by cases h) (fun h => by cases h) hk0 hk1 hkk0 hkk1 (by simp [refKind]) h1 h2 h3
    (by rw [nn sp h1, nn n h3]; show ¬ _ > ((arrV (xA x 8) (ln M a0) (fun j => .int (gI M a0 j))).slots.size : Int); rw [arrV_size]; omega)
    (by rw [nn dp h2, nn n h3]; show ¬ _ > ((arrV (xA x 8) (ln M b0) (fun j => .int (gI M b0 j))).slots.size : Int); rw [arrV_size]; omega)
    (fun vm₁ _ i hi => by
      have e : (vp_cell (xA x 8) (ln M a0, .inl (gI M a0))).slots.getD (sp.toNatClampNeg + i) .null = .int (gI M a0 (sp.toNatClampNeg + i)) := by
        show (arrV (xA x 8) (ln M a0) (fun j => .int (gI M a0 j))).slots.getD _ _ = _
        rw [Array.getD_eq_getD_getElem?, arrV_read _ _ (by omega)]
        rfl
      refine ⟨?_, ?_⟩
      · rw [e]
        rfl
      · rw [e]
        exact trivial)
    (g := F0 (xm x) pc ls (.int n :: .int dp :: .ref (xB x + b0) :: .int sp :: .ref (xB x + a0) :: st)) rfl (by rw [C.2.2.1]; exact hlv.1) (rest := st) rfl (by rw [C.2.1]; exact d) hr.1 (by omega)
  have e1 : copied (vp_cell (xA x 8) (ln M a0, .inl (gI M a0))) (vp_cell (xA x 8) (ln M b0, .inl (gI M b0))) sp dp n = vp_cell (xA x 8) (ln M b0, .inl (va_cpy (gI M a0) (gI M b0) sp.toNatClampNeg dp.toNatClampNeg n.toNatClampNeg)) := va_copied (fun z => .int z) (xA x 8) (xA x 8) (gI M a0) (gI M b0) h4
  rw [e1] at X' step
  have hl : xB x + b0 < H.size := (Array.getElem?_eq_some_iff.mp hc1).1
  have oq : ∀ q : Nat, q ≠ xB x + b0 → (H.setIfInBounds (xB x + b0) (vp_cell (xA x 8) (ln M b0, .inl (va_cpy (gI M a0) (gI M b0) sp.toNatClampNeg dp.toNatClampNeg n.toNatClampNeg))))[q]? = H[q]? := fun q hq => by simp [Array.getElem?_setIfInBounds, Ne.symm hq]
  have hheap : ((T.setVm vm').setCell (xB x + b0) (vp_cell (xA x 8) (ln M b0, .inl (va_cpy (gI M a0) (gI M b0) sp.toNatClampNeg dp.toNatClampNeg n.toNatClampNeg)))).heap = H.setIfInBounds (xB x + b0) (vp_cell (xA x 8) (ln M b0, .inl (va_cpy (gI M a0) (gI M b0) sp.toNatClampNeg dp.toNatClampNeg n.toNatClampNeg))) := by rw [← hT]; rfl
  have hPn := hP.set (ws_D (xB x) (xA x) M) ha1 (e := .inl (xA x 8, (ln M b0, .inl (va_cpy (gI M a0) (gI M b0) sp.toNatClampNeg dp.toNatClampNeg n.toNatClampNeg)))) (show (H.setIfInBounds (xB x + b0) _)[xB x + b0]? = some _ by simp [Array.getElem?_setIfInBounds, hl]) oq
  rw [ws_set kb.1 (M' := cpM M a0 sp b0 dp n) rfl (by rw [cE_i (show kd (cpM M a0 sp b0 dp n) b0 = 8 from kb.2) (by decide) (by decide)]; unfold cpM; rw [gI_sA]; rfl) (fun d hd => sA_ws hd)] at hPn
  obtain ⟨t, a1, b1⟩ := kk _ _ ls hPn (by simp; exact hsz) ⟨by simp; exact hS.1, fun q g1 g2 => by
      rw [oq q (fun e => g2 (by rw [e]; show xB x ≤ xB x + b0; omega))]
      exact hS.2.1 q g1 g2, fun q hq => by
      rcases List.mem_append.mp hq with h | h
      · exact hS.2.2 q h
      · obtain ⟨z, -, hz⟩ := List.mem_map.mp h
        rw [← hz]
        show xB x ≤ xB x + b0; omega⟩ hlv _ hheap X'
  exact ⟨t, step t a1, b1⟩
end MORER
end
section
theorem iw_Ba : ∀ w ∈ u_ws R_Ba F_Ba 14, w ∈ gw := fun w hw => gw_in (i_Ba w hw) (List.all_eq_true.mp (by decide +kernel : (u_ws R_Ba F_Ba 14).all goodWord = true) w hw)
theorem iw_He : ∀ w ∈ u_ws R_He F_He 5, w ∈ gw := fun w hw => gw_in (i_He w hw) (List.all_eq_true.mp (by decide +kernel : (u_ws R_He F_He 5).all goodWord = true) w hw)
theorem iw_Nu : ∀ w ∈ u_ws R_Nu F_Nu 2, w ∈ gw := fun w hw => gw_in (i_Nu w hw) (List.all_eq_true.mp (by decide +kernel : (u_ws R_Nu F_Nu 2).all goodWord = true) w hw)
theorem iw_Po : ∀ w ∈ u_ws R_Po F_Po 2, w ∈ gw := fun w hw => gw_in (i_Po w hw) (List.all_eq_true.mp (by decide +kernel : (u_ws R_Po F_Po 2).all goodWord = true) w hw)
theorem iw_Pr : ∀ w ∈ u_ws R_Pr F_Pr 6, w ∈ gw := fun w hw => gw_in (i_Pr w hw) (List.all_eq_true.mp (by decide +kernel : (u_ws R_Pr F_Pr 6).all goodWord = true) w hw)
theorem iw_Ro : ∀ w ∈ u_ws R_Ro F_Ro 8, w ∈ gw := fun w hw => gw_in (i_Ro w hw) (List.all_eq_true.mp (by decide +kernel : (u_ws R_Ro F_Ro 8).all goodWord = true) w hw)
theorem iw_HT : ∀ w ∈ u_ws R_HT F_HT 12, w ∈ gw := fun w hw => gw_in (i_HT w hw) (List.all_eq_true.mp (by decide +kernel : (u_ws R_HT F_HT 12).all goodWord = true) w hw)
theorem iw_Mo : ∀ w ∈ u_ws R_Mo F_Mo 18, w ∈ gw := fun w hw => gw_in (i_Mo w hw) (List.all_eq_true.mp (by decide +kernel : (u_ws R_Mo F_Mo 18).all goodWord = true) w hw)
theorem fl_Nu_9 : Fld "HeapTower$Numbers" 9 2 0 false true := ⟨R_Nu, F_Nu, 2, t_Nu, iw_Nu, rfl, by decide, rfl, rfl, by decide, rfl, (gw_in (List.mem_of_getElem? (i := 140) (by decide +kernel)) (by decide +kernel)), t_Nu_ok, n_Nu, rfl, (fun h => by cases h), fun _ => Or.inr ⟨_, rfl⟩⟩
theorem fl_Nu_19 : Fld "HeapTower$Numbers" 19 2 1 true false := ⟨R_Nu, F_Nu, 2, t_Nu, iw_Nu, rfl, by decide, rfl, rfl, by decide, rfl, (gw_in (List.mem_of_getElem? (i := 141) (by decide +kernel)) (by decide +kernel)), t_Nu_ok, n_Nu, rfl, fun _ => rfl, (fun h => by cases h)⟩
theorem ml_Nu_23 : MLS "HeapTower$Numbers" 23 y_Ma_floorMod b_Ma_floorMod 3 (some .int) 2 := ⟨List.forall_mem_cons.mpr ⟨(gw_in (List.mem_of_getElem? (i := 377) (by decide +kernel)) (by decide +kernel)), List.forall_mem_cons.mpr ⟨(gw_in (List.mem_of_getElem? (i := 378) (by decide +kernel)) (by decide +kernel)), List.forall_mem_cons.mpr ⟨(gw_in (List.mem_of_getElem? (i := 74) (by decide +kernel)) (by decide +kernel)), List.forall_mem_cons.mpr ⟨(gw_in (List.mem_of_getElem? (i := 379) (by decide +kernel)) (by decide +kernel)), fun _ h => absurd h List.not_mem_nil⟩⟩⟩⟩, by decide⟩
theorem ml_Ar_13 : MLS "java/util/Arrays" 13 y_Ar_rangeCheck b_Ar_rangeCheck 3 none 3 := ⟨List.forall_mem_cons.mpr ⟨(gw_in (List.mem_of_getElem? (i := 450) (by decide +kernel)) (by decide +kernel)), List.forall_mem_cons.mpr ⟨(gw_in (List.mem_of_getElem? (i := 451) (by decide +kernel)) (by decide +kernel)), List.forall_mem_cons.mpr ⟨(gw_in (List.mem_of_getElem? (i := 75) (by decide +kernel)) (by decide +kernel)), List.forall_mem_cons.mpr ⟨(gw_in (List.mem_of_getElem? (i := 452) (by decide +kernel)) (by decide +kernel)), fun _ h => absurd h List.not_mem_nil⟩⟩⟩⟩, by decide⟩
theorem D_Nu_setPrime_0 : decode b_Nu_setPrime 0 = .ok (.aload_n 0, 1) := by decide +kernel
theorem D_Nu_setPrime_1 : decode b_Nu_setPrime 1 = .ok (.iload_n 1, 1) := by decide +kernel
theorem D_Nu_setPrime_2 : decode b_Nu_setPrime 2 = .ok (.putfield 19, 3) := by decide +kernel
theorem D_Nu_setPrime_5 : decode b_Nu_setPrime 5 = .ok (.aload_n 0, 1) := by decide +kernel
theorem D_Nu_setPrime_6 : decode b_Nu_setPrime 6 = .ok (.getfield 9, 3) := by decide +kernel
theorem D_Nu_setPrime_9 : decode b_Nu_setPrime 9 = .ok (.iconst 1, 1) := by decide +kernel
theorem D_Nu_setPrime_10 : decode b_Nu_setPrime 10 = .ok (.iconst 1, 1) := by decide +kernel
theorem D_Nu_setPrime_11 : decode b_Nu_setPrime 11 = .ok (.iastore, 1) := by decide +kernel
theorem D_Nu_setPrime_12 : decode b_Nu_setPrime 12 = .ok (.iconst 2, 1) := by decide +kernel
theorem D_Nu_setPrime_13 : decode b_Nu_setPrime 13 = .ok (.istore_n 2, 1) := by decide +kernel
theorem D_Nu_setPrime_14 : decode b_Nu_setPrime 14 = .ok (.iload_n 2, 1) := by decide +kernel
theorem D_Nu_setPrime_15 : decode b_Nu_setPrime 15 = .ok (.iload_n 1, 1) := by decide +kernel
theorem D_Nu_setPrime_16 : decode b_Nu_setPrime 16 = .ok (.if_icmp .ge 31, 3) := by decide +kernel
theorem D_Nu_setPrime_19 : decode b_Nu_setPrime 19 = .ok (.aload_n 0, 1) := by decide +kernel
theorem D_Nu_setPrime_20 : decode b_Nu_setPrime 20 = .ok (.getfield 9, 3) := by decide +kernel
theorem D_Nu_setPrime_23 : decode b_Nu_setPrime 23 = .ok (.iload_n 2, 1) := by decide +kernel
theorem D_Nu_setPrime_24 : decode b_Nu_setPrime 24 = .ok (.iload_n 1, 1) := by decide +kernel
theorem D_Nu_setPrime_25 : decode b_Nu_setPrime 25 = .ok (.iload_n 1, 1) := by decide +kernel
theorem D_Nu_setPrime_26 : decode b_Nu_setPrime 26 = .ok (.iload_n 2, 1) := by decide +kernel
theorem D_Nu_setPrime_27 : decode b_Nu_setPrime 27 = .ok (.idiv, 1) := by decide +kernel
theorem D_Nu_setPrime_28 : decode b_Nu_setPrime 28 = .ok (.isub, 1) := by decide +kernel
theorem D_Nu_setPrime_29 : decode b_Nu_setPrime 29 = .ok (.aload_n 0, 1) := by decide +kernel
theorem D_Nu_setPrime_30 : decode b_Nu_setPrime 30 = .ok (.getfield 9, 3) := by decide +kernel
theorem D_Nu_setPrime_33 : decode b_Nu_setPrime 33 = .ok (.iload_n 1, 1) := by decide +kernel
theorem D_Nu_setPrime_34 : decode b_Nu_setPrime 34 = .ok (.iload_n 2, 1) := by decide +kernel
theorem D_Nu_setPrime_35 : decode b_Nu_setPrime 35 = .ok (.irem, 1) := by decide +kernel
theorem D_Nu_setPrime_36 : decode b_Nu_setPrime 36 = .ok (.iaload, 1) := by decide +kernel
theorem D_Nu_setPrime_37 : decode b_Nu_setPrime 37 = .ok (.imul, 1) := by decide +kernel
theorem D_Nu_setPrime_38 : decode b_Nu_setPrime 38 = .ok (.iload_n 1, 1) := by decide +kernel
theorem D_Nu_setPrime_39 : decode b_Nu_setPrime 39 = .ok (.irem, 1) := by decide +kernel
theorem D_Nu_setPrime_40 : decode b_Nu_setPrime 40 = .ok (.iastore, 1) := by decide +kernel
theorem D_Nu_setPrime_41 : decode b_Nu_setPrime 41 = .ok (.iinc 2 1, 3) := by decide +kernel
theorem D_Nu_setPrime_44 : decode b_Nu_setPrime 44 = .ok (.goto (-30), 3) := by decide +kernel
theorem D_Nu_setPrime_47 : decode b_Nu_setPrime 47 = .ok (.return_, 1) := by decide +kernel
abbrev rm_Nu_setPrime : Room := { frames := 0, cells := 0, slots := 0, locals := 0 }
def B_Nu_setPrime_14 (k14 : Nat → Int32 → Int32 → Mem → Prop) (post : Mem → Prop) (a0 : Nat) (x1 : Int32) (x2 : Int32) (M : Mem) : Prop := ((x1 ≤ x2 → (post M)) ∧ (¬ x1 ≤ x2 → (isK M a0 2 ∧ ∃ q20, gR M a0 0 = some q20 ∧ ¬ (x2 : Int32) = 0 ∧ isK M a0 2 ∧ ∃ q30, gR M a0 0 = some q30 ∧ ¬ (x2 : Int32) = 0 ∧ isA M q30 8 (x1 - x1 / x2 * x2) ∧ ¬ (x1 : Int32) = 0 ∧ isA M q20 8 x2 ∧ k14 a0 x1 (x2 + 1) (sI M q20 (Int32.toNatClampNeg x2) (((x1 - (x1 / x2)) * (gI M q30 (Int32.toNatClampNeg (x1 - x1 / x2 * x2)))) - ((x1 - (x1 / x2)) * (gI M q30 (Int32.toNatClampNeg (x1 - x1 / x2 * x2)))) / x1 * x1)))))
set_option maxRecDepth 20000 in
theorem Z_Nu_setPrime_14 {x : Ctx} {post : Mem → Prop} (C : Ok x b_Nu_setPrime 3 "HeapTower$Numbers") (hR : xR x = rm_Nu_setPrime) (Rt : RetV x post 0 0) {k14 : Nat → Int32 → Int32 → Mem → Prop} (K14 : ∀ (a0 : Nat) (x1 : Int32) (x2 : Int32) (M : Mem), k14 a0 x1 x2 M → J x 3 14 [(0, .ref (xB x + a0)), (1, .int x1), (2, .int x2)] [] 0 0 M) (a0 : Nat) (x1 : Int32) (x2 : Int32) (M : Mem) (h : B_Nu_setPrime_14 k14 post a0 x1 x2 M) : J x 3 14 [(0, .ref (xB x + a0)), (1, .int x1), (2, .int x2)] [] 0 0 M := by
  unfold B_Nu_setPrime_14 at h
  refine J_iload_n C 2 D_Nu_setPrime_14 rfl rfl ?_
  refine J_iload_n C 1 D_Nu_setPrime_15 rfl rfl ?_
  refine J_icmp_ge (tgt := 47) C D_Nu_setPrime_16 (by decide) (fun c_16 => ?_) (fun c_16 => ?_)
  · have h := h.1 c_16
    exact J_vret C Rt D_Nu_setPrime_47 h
  · have h := h.2 c_16
    refine J_aload_n C 0 D_Nu_setPrime_19 rfl rfl ?_
    obtain ⟨c_20, q20, e_20, h⟩ := h
    refine J_getR C fl_Nu_9 D_Nu_setPrime_20 c_20 e_20 ?_
    refine J_iload_n C 2 D_Nu_setPrime_23 rfl rfl ?_
    refine J_iload_n C 1 D_Nu_setPrime_24 rfl rfl ?_
    refine J_iload_n C 1 D_Nu_setPrime_25 rfl rfl ?_
    refine J_iload_n C 2 D_Nu_setPrime_26 rfl rfl ?_
    obtain ⟨c_27, h⟩ := h
    refine J_idiv C D_Nu_setPrime_27 c_27 ?_
    refine J_isub C D_Nu_setPrime_28 ?_
    refine J_aload_n C 0 D_Nu_setPrime_29 rfl rfl ?_
    obtain ⟨c_30, q30, e_30, h⟩ := h
    refine J_getR C fl_Nu_9 D_Nu_setPrime_30 c_30 e_30 ?_
    refine J_iload_n C 1 D_Nu_setPrime_33 rfl rfl ?_
    refine J_iload_n C 2 D_Nu_setPrime_34 rfl rfl ?_
    obtain ⟨c_35, h⟩ := h
    refine J_irem C D_Nu_setPrime_35 c_35 ?_
    obtain ⟨c_36, h⟩ := h
    refine J_iald C D_Nu_setPrime_36 c_36 ?_
    refine J_imul C D_Nu_setPrime_37 ?_
    refine J_iload_n C 1 D_Nu_setPrime_38 rfl rfl ?_
    obtain ⟨c_39, h⟩ := h
    refine J_irem C D_Nu_setPrime_39 c_39 ?_
    obtain ⟨c_40, h⟩ := h
    refine J_iast C D_Nu_setPrime_40 c_40 ?_
    refine J_iinc (v := x2 + 1) (lv' := [(2, .int (x2 + 1)), (0, .ref (xB x + a0)), (1, .int x1)]) C 2 2 D_Nu_setPrime_41 rfl rfl (by decide) rfl ?_
    refine J_goto (tgt := 14) C D_Nu_setPrime_44 (by decide) ?_
    exact J_sub [1, 2, 0] rfl (K14 _ _ _ _ h)
def L_Nu_setPrime_14 (post : Mem → Prop) : Nat → Nat → Int32 → Int32 → Mem → Prop
  | 0, _, _, _, _ => False
  | n + 1, a0, x1, x2, M => B_Nu_setPrime_14 (L_Nu_setPrime_14 post n) post a0 x1 x2 M
theorem Y_Nu_setPrime_14 {x : Ctx} {post : Mem → Prop} (C : Ok x b_Nu_setPrime 3 "HeapTower$Numbers") (hR : xR x = rm_Nu_setPrime) (Rt : RetV x post 0 0) : ∀ (n : Nat) (a0 : Nat) (x1 : Int32) (x2 : Int32) (M : Mem), L_Nu_setPrime_14 post n a0 x1 x2 M → J x 3 14 [(0, .ref (xB x + a0)), (1, .int x1), (2, .int x2)] [] 0 0 M := by
  intro n
  induction n with
  | zero => intro a0 x1 x2 M h; exact h.elim
  | succ n ih => intro a0 x1 x2 M h; exact Z_Nu_setPrime_14 C hR Rt ih _ _ _ _ h
def T_Nu_setPrime (a0 : Nat) (x1 : Int32) (M : Mem) (post : Mem → Prop) : Prop := (isK M a0 2 ∧ isK (sI M a0 1 x1) a0 2 ∧ ∃ q6, gR (sI M a0 1 x1) a0 0 = some q6 ∧ isA (sI M a0 1 x1) q6 8 1 ∧ ∃ n, L_Nu_setPrime_14 post n a0 x1 2 (sI (sI M a0 1 x1) q6 (Int32.toNatClampNeg 1) 1))
set_option maxRecDepth 20000 in
theorem S_Nu_setPrime {l : Launch} {D : va_G} {B t : Nat} {ac : Nat → ClassId} (a0 : Nat) (x1 : Int32) (M : Mem) (post : Mem → Prop) (h : T_Nu_setPrime a0 x1 M post) : Met l y_Nu_setPrime w_Nu_setPrime rm_Nu_setPrime (va_Pc [.ref (B + a0), .int x1] (PRE D B t ac M)) (QV D B ac post) 0 0 (AB B) := by
  refine met_v (by decide +kernel) (Nat.le_of_ble_eq_true rfl) (fun x h1 hR h3 h4 h5 h6 C Rt Nm => ?_)
  subst h3 h4 h5 h6
  unfold T_Nu_setPrime at h
  show J x 3 0 [(0, .ref (xB x + a0)), (1, .int x1)] [] 0 0 M
  refine J_aload_n C 0 D_Nu_setPrime_0 rfl rfl ?_
  refine J_iload_n C 1 D_Nu_setPrime_1 rfl rfl ?_
  obtain ⟨c_2, h⟩ := h
  refine J_putI C fl_Nu_19 D_Nu_setPrime_2 c_2 ?_
  refine J_aload_n C 0 D_Nu_setPrime_5 rfl rfl ?_
  obtain ⟨c_6, q6, e_6, h⟩ := h
  refine J_getR C fl_Nu_9 D_Nu_setPrime_6 c_6 e_6 ?_
  refine J_iconst (v := 1) C D_Nu_setPrime_9 rfl ?_
  refine J_iconst (v := 1) C D_Nu_setPrime_10 rfl ?_
  obtain ⟨c_11, h⟩ := h
  refine J_iast C D_Nu_setPrime_11 c_11 ?_
  refine J_iconst (v := 2) C D_Nu_setPrime_12 rfl ?_
  refine J_istore_n (lv' := [(2, .int 2), (0, .ref (xB x + a0)), (1, .int x1)]) C 2 D_Nu_setPrime_13 rfl (by decide) rfl ?_
  obtain ⟨n, h⟩ := h
  exact J_sub [1, 2, 0] rfl (Y_Nu_setPrime_14 C hR Rt  n _ _ _ _ h)
theorem D_Nu_isPrime_0 : decode b_Nu_isPrime 0 = .ok (.iload_n 0, 1) := by decide +kernel
theorem D_Nu_isPrime_1 : decode b_Nu_isPrime 1 = .ok (.iconst 2, 1) := by decide +kernel
theorem D_Nu_isPrime_2 : decode b_Nu_isPrime 2 = .ok (.if_icmp .lt 9, 3) := by decide +kernel
theorem D_Nu_isPrime_5 : decode b_Nu_isPrime 5 = .ok (.iload_n 0, 1) := by decide +kernel
theorem D_Nu_isPrime_6 : decode b_Nu_isPrime 6 = .ok (.bipush 97, 2) := by decide +kernel
theorem D_Nu_isPrime_8 : decode b_Nu_isPrime 8 = .ok (.if_icmp .le 5, 3) := by decide +kernel
theorem D_Nu_isPrime_11 : decode b_Nu_isPrime 11 = .ok (.iconst 0, 1) := by decide +kernel
theorem D_Nu_isPrime_12 : decode b_Nu_isPrime 12 = .ok (.ireturn, 1) := by decide +kernel
theorem D_Nu_isPrime_13 : decode b_Nu_isPrime 13 = .ok (.iconst 2, 1) := by decide +kernel
theorem D_Nu_isPrime_14 : decode b_Nu_isPrime 14 = .ok (.istore_n 1, 1) := by decide +kernel
theorem D_Nu_isPrime_15 : decode b_Nu_isPrime 15 = .ok (.iload_n 1, 1) := by decide +kernel
theorem D_Nu_isPrime_16 : decode b_Nu_isPrime 16 = .ok (.iload_n 1, 1) := by decide +kernel
theorem D_Nu_isPrime_17 : decode b_Nu_isPrime 17 = .ok (.imul, 1) := by decide +kernel
theorem D_Nu_isPrime_18 : decode b_Nu_isPrime 18 = .ok (.iload_n 0, 1) := by decide +kernel
theorem D_Nu_isPrime_19 : decode b_Nu_isPrime 19 = .ok (.if_icmp .gt 17, 3) := by decide +kernel
theorem D_Nu_isPrime_22 : decode b_Nu_isPrime 22 = .ok (.iload_n 0, 1) := by decide +kernel
theorem D_Nu_isPrime_23 : decode b_Nu_isPrime 23 = .ok (.iload_n 1, 1) := by decide +kernel
theorem D_Nu_isPrime_24 : decode b_Nu_isPrime 24 = .ok (.irem, 1) := by decide +kernel
theorem D_Nu_isPrime_25 : decode b_Nu_isPrime 25 = .ok (.ifCond .ne 5, 3) := by decide +kernel
theorem D_Nu_isPrime_28 : decode b_Nu_isPrime 28 = .ok (.iconst 0, 1) := by decide +kernel
theorem D_Nu_isPrime_29 : decode b_Nu_isPrime 29 = .ok (.ireturn, 1) := by decide +kernel
theorem D_Nu_isPrime_30 : decode b_Nu_isPrime 30 = .ok (.iinc 1 1, 3) := by decide +kernel
theorem D_Nu_isPrime_33 : decode b_Nu_isPrime 33 = .ok (.goto (-18), 3) := by decide +kernel
theorem D_Nu_isPrime_36 : decode b_Nu_isPrime 36 = .ok (.iconst 1, 1) := by decide +kernel
theorem D_Nu_isPrime_37 : decode b_Nu_isPrime 37 = .ok (.ireturn, 1) := by decide +kernel
abbrev rm_Nu_isPrime : Room := { frames := 0, cells := 0, slots := 0, locals := 0 }
def B_Nu_isPrime_15 (k15 : Int32 → Int32 → Mem → Prop) (post : Int32 → Mem → Prop) (x0 : Int32) (x1 : Int32) (M : Mem) : Prop := ((x0 < (x1 * x1) → (narrow .boolean (.int 1) = .int 1 ∧ post 1 M)) ∧ (¬ x0 < (x1 * x1) → (¬ (x1 : Int32) = 0 ∧ (¬ (x0 - x0 / x1 * x1) = 0 → (k15 x0 (x1 + 1) M)) ∧ ((x0 - x0 / x1 * x1) = 0 → (narrow .boolean (.int 0) = .int 0 ∧ post 0 M)))))
set_option maxRecDepth 20000 in
theorem Z_Nu_isPrime_15 {x : Ctx} {post : Int32 → Mem → Prop} (C : Ok x b_Nu_isPrime 2 "HeapTower$Numbers") (hR : xR x = rm_Nu_isPrime) (Rt : RetI x .boolean post 0 0) {k15 : Int32 → Int32 → Mem → Prop} (K15 : ∀ (x0 : Int32) (x1 : Int32) (M : Mem), k15 x0 x1 M → J x 2 15 [(0, .int x0), (1, .int x1)] [] 0 0 M) (x0 : Int32) (x1 : Int32) (M : Mem) (h : B_Nu_isPrime_15 k15 post x0 x1 M) : J x 2 15 [(0, .int x0), (1, .int x1)] [] 0 0 M := by
  unfold B_Nu_isPrime_15 at h
  refine J_iload_n C 1 D_Nu_isPrime_15 rfl rfl ?_
  refine J_iload_n C 1 D_Nu_isPrime_16 rfl rfl ?_
  refine J_imul C D_Nu_isPrime_17 ?_
  refine J_iload_n C 0 D_Nu_isPrime_18 rfl rfl ?_
  refine J_icmp_gt (tgt := 36) C D_Nu_isPrime_19 (by decide) (fun c_19 => ?_) (fun c_19 => ?_)
  · have h := h.1 c_19
    refine J_iconst (v := 1) C D_Nu_isPrime_36 rfl ?_
    obtain ⟨c_37, h⟩ := h
    exact J_iret C Rt D_Nu_isPrime_37 c_37 h
  · have h := h.2 c_19
    refine J_iload_n C 0 D_Nu_isPrime_22 rfl rfl ?_
    refine J_iload_n C 1 D_Nu_isPrime_23 rfl rfl ?_
    obtain ⟨c_24, h⟩ := h
    refine J_irem C D_Nu_isPrime_24 c_24 ?_
    refine J_if_ne (tgt := 30) C D_Nu_isPrime_25 (by decide) (fun c_25 => ?_) (fun c_25 => ?_)
    · have h := h.1 c_25
      refine J_iinc (v := x1 + 1) (lv' := [(1, .int (x1 + 1)), (0, .int x0)]) C 1 1 D_Nu_isPrime_30 rfl rfl (by decide) rfl ?_
      refine J_goto (tgt := 15) C D_Nu_isPrime_33 (by decide) ?_
      exact J_sub [1, 0] rfl (K15 _ _ _ h)
    · have h := h.2 c_25
      refine J_iconst (v := 0) C D_Nu_isPrime_28 rfl ?_
      obtain ⟨c_29, h⟩ := h
      exact J_iret C Rt D_Nu_isPrime_29 c_29 h
def L_Nu_isPrime_15 (post : Int32 → Mem → Prop) : Nat → Int32 → Int32 → Mem → Prop
  | 0, _, _, _ => False
  | n + 1, x0, x1, M => B_Nu_isPrime_15 (L_Nu_isPrime_15 post n) post x0 x1 M
theorem Y_Nu_isPrime_15 {x : Ctx} {post : Int32 → Mem → Prop} (C : Ok x b_Nu_isPrime 2 "HeapTower$Numbers") (hR : xR x = rm_Nu_isPrime) (Rt : RetI x .boolean post 0 0) : ∀ (n : Nat) (x0 : Int32) (x1 : Int32) (M : Mem), L_Nu_isPrime_15 post n x0 x1 M → J x 2 15 [(0, .int x0), (1, .int x1)] [] 0 0 M := by
  intro n
  induction n with
  | zero => intro x0 x1 M h; exact h.elim
  | succ n ih => intro x0 x1 M h; exact Z_Nu_isPrime_15 C hR Rt ih _ _ _ h
def B_Nu_isPrime_11 (post : Int32 → Mem → Prop) (M : Mem) : Prop := (narrow .boolean (.int 0) = .int 0 ∧ post 0 M)
set_option maxRecDepth 20000 in
theorem Z_Nu_isPrime_11 {x : Ctx} {post : Int32 → Mem → Prop} (C : Ok x b_Nu_isPrime 2 "HeapTower$Numbers") (hR : xR x = rm_Nu_isPrime) (Rt : RetI x .boolean post 0 0) (M : Mem) (h : B_Nu_isPrime_11 post M) : J x 2 11 [] [] 0 0 M := by
  unfold B_Nu_isPrime_11 at h
  refine J_iconst (v := 0) C D_Nu_isPrime_11 rfl ?_
  obtain ⟨c_12, h⟩ := h
  exact J_iret C Rt D_Nu_isPrime_12 c_12 h
def T_Nu_isPrime (x0 : Int32) (M : Mem) (post : Int32 → Mem → Prop) : Prop := ((x0 < 2 → (B_Nu_isPrime_11 post M)) ∧ (¬ x0 < 2 → ((x0 ≤ 97 → (∃ n, L_Nu_isPrime_15 post n x0 2 M)) ∧ (¬ x0 ≤ 97 → (B_Nu_isPrime_11 post M)))))
set_option maxRecDepth 20000 in
theorem S_Nu_isPrime {l : Launch} {D : va_G} {B t : Nat} {ac : Nat → ClassId} (x0 : Int32) (M : Mem) (post : Int32 → Mem → Prop) (h : T_Nu_isPrime x0 M post) : Met l y_Nu_isPrime w_Nu_isPrime rm_Nu_isPrime (va_Pc [.int x0] (PRE D B t ac M)) (QI D B ac post) 0 0 (AB B) := by
  refine met_i (by decide +kernel) (Nat.le_of_ble_eq_true rfl) (fun x h1 hR h3 h4 h5 h6 C Rt => ?_)
  subst h3 h4 h5 h6
  unfold T_Nu_isPrime at h
  show J x 2 0 [(0, .int x0)] [] 0 0 M
  refine J_iload_n C 0 D_Nu_isPrime_0 rfl rfl ?_
  refine J_iconst (v := 2) C D_Nu_isPrime_1 rfl ?_
  refine J_icmp_lt (tgt := 11) C D_Nu_isPrime_2 (by decide) (fun c_2 => ?_) (fun c_2 => ?_)
  · have h := h.1 c_2
    exact J_sub [] rfl (Z_Nu_isPrime_11 C hR Rt  _ h)
  · have h := h.2 c_2
    refine J_iload_n C 0 D_Nu_isPrime_5 rfl rfl ?_
    refine J_bipush (v := 97) C D_Nu_isPrime_6 rfl ?_
    refine J_icmp_le (tgt := 13) C D_Nu_isPrime_8 (by decide) (fun c_8 => ?_) (fun c_8 => ?_)
    · have h := h.1 c_8
      refine J_iconst (v := 2) C D_Nu_isPrime_13 rfl ?_
      refine J_istore_n (lv' := [(1, .int 2), (0, .int x0)]) C 1 D_Nu_isPrime_14 rfl (by decide) rfl ?_
      obtain ⟨n, h⟩ := h
      exact J_sub [1, 0] rfl (Y_Nu_isPrime_15 C hR Rt  n _ _ _ h)
    · have h := h.2 c_8
      exact J_sub [] rfl (Z_Nu_isPrime_11 C hR Rt  _ h)
theorem D_Ma_max_0 : decode b_Ma_max 0 = .ok (.iload_n 0, 1) := by decide +kernel
theorem D_Ma_max_1 : decode b_Ma_max 1 = .ok (.iload_n 1, 1) := by decide +kernel
theorem D_Ma_max_2 : decode b_Ma_max 2 = .ok (.if_icmp .lt 7, 3) := by decide +kernel
theorem D_Ma_max_5 : decode b_Ma_max 5 = .ok (.iload_n 0, 1) := by decide +kernel
theorem D_Ma_max_6 : decode b_Ma_max 6 = .ok (.goto 4, 3) := by decide +kernel
theorem D_Ma_max_9 : decode b_Ma_max 9 = .ok (.iload_n 1, 1) := by decide +kernel
theorem D_Ma_max_10 : decode b_Ma_max 10 = .ok (.ireturn, 1) := by decide +kernel
abbrev rm_Ma_max : Room := { frames := 0, cells := 0, slots := 0, locals := 0 }
def B_Ma_max_10 (post : Int32 → Mem → Prop) (s0 : Int32) (M : Mem) : Prop := (post s0 M)
set_option maxRecDepth 20000 in
theorem Z_Ma_max_10 {x : Ctx} {post : Int32 → Mem → Prop} (C : Ok x b_Ma_max 2 "java/lang/Math") (hR : xR x = rm_Ma_max) (Rt : RetI x .int post 0 0) (s0 : Int32) (M : Mem) (h : B_Ma_max_10 post s0 M) : J x 2 10 [] [.int s0] 0 0 M := by
  unfold B_Ma_max_10 at h
  exact J_iret C Rt D_Ma_max_10 rfl h
def T_Ma_max (x0 : Int32) (x1 : Int32) (M : Mem) (post : Int32 → Mem → Prop) : Prop := ((x0 < x1 → (B_Ma_max_10 post x1 M)) ∧ (¬ x0 < x1 → (B_Ma_max_10 post x0 M)))
set_option maxRecDepth 20000 in
theorem S_Ma_max {l : Launch} {D : va_G} {B t : Nat} {ac : Nat → ClassId} (x0 : Int32) (x1 : Int32) (M : Mem) (post : Int32 → Mem → Prop) (h : T_Ma_max x0 x1 M post) : Met l y_Ma_max w_Ma_max rm_Ma_max (va_Pc [.int x0, .int x1] (PRE D B t ac M)) (QI D B ac post) 0 0 (AB B) := by
  refine met_i (by decide +kernel) (Nat.le_of_ble_eq_true rfl) (fun x h1 hR h3 h4 h5 h6 C Rt => ?_)
  subst h3 h4 h5 h6
  unfold T_Ma_max at h
  show J x 2 0 [(0, .int x0), (1, .int x1)] [] 0 0 M
  refine J_iload_n C 0 D_Ma_max_0 rfl rfl ?_
  refine J_iload_n C 1 D_Ma_max_1 rfl rfl ?_
  refine J_icmp_lt (tgt := 9) C D_Ma_max_2 (by decide) (fun c_2 => ?_) (fun c_2 => ?_)
  · have h := h.1 c_2
    refine J_iload_n C 1 D_Ma_max_9 rfl rfl ?_
    exact J_sub [] rfl (Z_Ma_max_10 C hR Rt  _ _ h)
  · have h := h.2 c_2
    refine J_iload_n C 0 D_Ma_max_5 rfl rfl ?_
    refine J_goto (tgt := 10) C D_Ma_max_6 (by decide) ?_
    exact J_sub [] rfl (Z_Ma_max_10 C hR Rt  _ _ h)
theorem D_Ar_fill2_0 : decode b_Ar_fill2 0 = .ok (.iconst 0, 1) := by decide +kernel
theorem D_Ar_fill2_1 : decode b_Ar_fill2 1 = .ok (.istore_n 2, 1) := by decide +kernel
theorem D_Ar_fill2_2 : decode b_Ar_fill2 2 = .ok (.aload_n 0, 1) := by decide +kernel
theorem D_Ar_fill2_3 : decode b_Ar_fill2 3 = .ok (.arraylength, 1) := by decide +kernel
theorem D_Ar_fill2_4 : decode b_Ar_fill2 4 = .ok (.istore_n 3, 1) := by decide +kernel
theorem D_Ar_fill2_5 : decode b_Ar_fill2 5 = .ok (.iload_n 2, 1) := by decide +kernel
theorem D_Ar_fill2_6 : decode b_Ar_fill2 6 = .ok (.iload_n 3, 1) := by decide +kernel
theorem D_Ar_fill2_7 : decode b_Ar_fill2 7 = .ok (.if_icmp .ge 13, 3) := by decide +kernel
theorem D_Ar_fill2_10 : decode b_Ar_fill2 10 = .ok (.aload_n 0, 1) := by decide +kernel
theorem D_Ar_fill2_11 : decode b_Ar_fill2 11 = .ok (.iload_n 2, 1) := by decide +kernel
theorem D_Ar_fill2_12 : decode b_Ar_fill2 12 = .ok (.iload_n 1, 1) := by decide +kernel
theorem D_Ar_fill2_13 : decode b_Ar_fill2 13 = .ok (.iastore, 1) := by decide +kernel
theorem D_Ar_fill2_14 : decode b_Ar_fill2 14 = .ok (.iinc 2 1, 3) := by decide +kernel
theorem D_Ar_fill2_17 : decode b_Ar_fill2 17 = .ok (.goto (-12), 3) := by decide +kernel
theorem D_Ar_fill2_20 : decode b_Ar_fill2 20 = .ok (.return_, 1) := by decide +kernel
abbrev rm_Ar_fill2 : Room := { frames := 0, cells := 0, slots := 0, locals := 0 }
def B_Ar_fill2_5 (k5 : Nat → Int32 → Int32 → Int32 → Mem → Prop) (post : Mem → Prop) (a0 : Nat) (x1 : Int32) (x2 : Int32) (x3 : Int32) (M : Mem) : Prop := ((x3 ≤ x2 → (post M)) ∧ (¬ x3 ≤ x2 → (isA M a0 8 x2 ∧ k5 a0 x1 (x2 + 1) x3 (sI M a0 (Int32.toNatClampNeg x2) x1))))
set_option maxRecDepth 20000 in
theorem Z_Ar_fill2_5 {x : Ctx} {post : Mem → Prop} (C : Ok x b_Ar_fill2 4 "java/util/Arrays") (hR : xR x = rm_Ar_fill2) (Rt : RetV x post 0 0) {k5 : Nat → Int32 → Int32 → Int32 → Mem → Prop} (K5 : ∀ (a0 : Nat) (x1 : Int32) (x2 : Int32) (x3 : Int32) (M : Mem), k5 a0 x1 x2 x3 M → J x 4 5 [(0, .ref (xB x + a0)), (1, .int x1), (2, .int x2), (3, .int x3)] [] 0 0 M) (a0 : Nat) (x1 : Int32) (x2 : Int32) (x3 : Int32) (M : Mem) (h : B_Ar_fill2_5 k5 post a0 x1 x2 x3 M) : J x 4 5 [(0, .ref (xB x + a0)), (1, .int x1), (2, .int x2), (3, .int x3)] [] 0 0 M := by
  unfold B_Ar_fill2_5 at h
  refine J_iload_n C 2 D_Ar_fill2_5 rfl rfl ?_
  refine J_iload_n C 3 D_Ar_fill2_6 rfl rfl ?_
  refine J_icmp_ge (tgt := 20) C D_Ar_fill2_7 (by decide) (fun c_7 => ?_) (fun c_7 => ?_)
  · have h := h.1 c_7
    exact J_vret C Rt D_Ar_fill2_20 h
  · have h := h.2 c_7
    refine J_aload_n C 0 D_Ar_fill2_10 rfl rfl ?_
    refine J_iload_n C 2 D_Ar_fill2_11 rfl rfl ?_
    refine J_iload_n C 1 D_Ar_fill2_12 rfl rfl ?_
    obtain ⟨c_13, h⟩ := h
    refine J_iast C D_Ar_fill2_13 c_13 ?_
    refine J_iinc (v := x2 + 1) (lv' := [(2, .int (x2 + 1)), (0, .ref (xB x + a0)), (1, .int x1), (3, .int x3)]) C 2 2 D_Ar_fill2_14 rfl rfl (by decide) rfl ?_
    refine J_goto (tgt := 5) C D_Ar_fill2_17 (by decide) ?_
    exact J_sub [1, 2, 0, 3] rfl (K5 _ _ _ _ _ h)
def L_Ar_fill2_5 (post : Mem → Prop) : Nat → Nat → Int32 → Int32 → Int32 → Mem → Prop
  | 0, _, _, _, _, _ => False
  | n + 1, a0, x1, x2, x3, M => B_Ar_fill2_5 (L_Ar_fill2_5 post n) post a0 x1 x2 x3 M
theorem Y_Ar_fill2_5 {x : Ctx} {post : Mem → Prop} (C : Ok x b_Ar_fill2 4 "java/util/Arrays") (hR : xR x = rm_Ar_fill2) (Rt : RetV x post 0 0) : ∀ (n : Nat) (a0 : Nat) (x1 : Int32) (x2 : Int32) (x3 : Int32) (M : Mem), L_Ar_fill2_5 post n a0 x1 x2 x3 M → J x 4 5 [(0, .ref (xB x + a0)), (1, .int x1), (2, .int x2), (3, .int x3)] [] 0 0 M := by
  intro n
  induction n with
  | zero => intro a0 x1 x2 x3 M h; exact h.elim
  | succ n ih => intro a0 x1 x2 x3 M h; exact Z_Ar_fill2_5 C hR Rt ih _ _ _ _ _ h
def T_Ar_fill2 (a0 : Nat) (x1 : Int32) (M : Mem) (post : Mem → Prop) : Prop := (isK M a0 8 ∧ ∃ n, L_Ar_fill2_5 post n a0 x1 0 (nI (ln M a0)) M)
set_option maxRecDepth 20000 in
theorem S_Ar_fill2 {l : Launch} {D : va_G} {B t : Nat} {ac : Nat → ClassId} (a0 : Nat) (x1 : Int32) (M : Mem) (post : Mem → Prop) (h : T_Ar_fill2 a0 x1 M post) : Met l y_Ar_fill2 w_Ar_fill2 rm_Ar_fill2 (va_Pc [.ref (B + a0), .int x1] (PRE D B t ac M)) (QV D B ac post) 0 0 (AB B) := by
  refine met_v (by decide +kernel) (Nat.le_of_ble_eq_true rfl) (fun x h1 hR h3 h4 h5 h6 C Rt Nm => ?_)
  subst h3 h4 h5 h6
  unfold T_Ar_fill2 at h
  show J x 4 0 [(0, .ref (xB x + a0)), (1, .int x1)] [] 0 0 M
  refine J_iconst (v := 0) C D_Ar_fill2_0 rfl ?_
  refine J_istore_n (lv' := [(2, .int 0), (0, .ref (xB x + a0)), (1, .int x1)]) C 2 D_Ar_fill2_1 rfl (by decide) rfl ?_
  refine J_aload_n C 0 D_Ar_fill2_2 rfl rfl ?_
  obtain ⟨c_3, h⟩ := h
  refine J_alen C D_Ar_fill2_3 c_3 ?_
  refine J_istore_n (lv' := [(3, .int (nI (ln M a0))), (2, .int 0), (0, .ref (xB x + a0)), (1, .int x1)]) C 3 D_Ar_fill2_4 rfl (by decide) rfl ?_
  obtain ⟨n, h⟩ := h
  exact J_sub [2, 3, 1, 0] rfl (Y_Ar_fill2_5 C hR Rt  n _ _ _ _ _ h)
theorem D_Ma_floorMod_0 : decode b_Ma_floorMod 0 = .ok (.iload_n 0, 1) := by decide +kernel
theorem D_Ma_floorMod_1 : decode b_Ma_floorMod 1 = .ok (.iload_n 1, 1) := by decide +kernel
theorem D_Ma_floorMod_2 : decode b_Ma_floorMod 2 = .ok (.irem, 1) := by decide +kernel
theorem D_Ma_floorMod_3 : decode b_Ma_floorMod 3 = .ok (.istore_n 2, 1) := by decide +kernel
theorem D_Ma_floorMod_4 : decode b_Ma_floorMod 4 = .ok (.iload_n 0, 1) := by decide +kernel
theorem D_Ma_floorMod_5 : decode b_Ma_floorMod 5 = .ok (.iload_n 1, 1) := by decide +kernel
theorem D_Ma_floorMod_6 : decode b_Ma_floorMod 6 = .ok (.ixor, 1) := by decide +kernel
theorem D_Ma_floorMod_7 : decode b_Ma_floorMod 7 = .ok (.ifCond .ge 11, 3) := by decide +kernel
theorem D_Ma_floorMod_10 : decode b_Ma_floorMod 10 = .ok (.iload_n 2, 1) := by decide +kernel
theorem D_Ma_floorMod_11 : decode b_Ma_floorMod 11 = .ok (.ifCond .eq 7, 3) := by decide +kernel
theorem D_Ma_floorMod_14 : decode b_Ma_floorMod 14 = .ok (.iload_n 2, 1) := by decide +kernel
theorem D_Ma_floorMod_15 : decode b_Ma_floorMod 15 = .ok (.iload_n 1, 1) := by decide +kernel
theorem D_Ma_floorMod_16 : decode b_Ma_floorMod 16 = .ok (.iadd, 1) := by decide +kernel
theorem D_Ma_floorMod_17 : decode b_Ma_floorMod 17 = .ok (.ireturn, 1) := by decide +kernel
theorem D_Ma_floorMod_18 : decode b_Ma_floorMod 18 = .ok (.iload_n 2, 1) := by decide +kernel
theorem D_Ma_floorMod_19 : decode b_Ma_floorMod 19 = .ok (.ireturn, 1) := by decide +kernel
abbrev rm_Ma_floorMod : Room := { frames := 0, cells := 0, slots := 0, locals := 0 }
def B_Ma_floorMod_18 (post : Int32 → Mem → Prop) (x2 : Int32) (M : Mem) : Prop := (post x2 M)
set_option maxRecDepth 20000 in
theorem Z_Ma_floorMod_18 {x : Ctx} {post : Int32 → Mem → Prop} (C : Ok x b_Ma_floorMod 3 "java/lang/Math") (hR : xR x = rm_Ma_floorMod) (Rt : RetI x .int post 0 0) (x2 : Int32) (M : Mem) (h : B_Ma_floorMod_18 post x2 M) : J x 3 18 [(2, .int x2)] [] 0 0 M := by
  unfold B_Ma_floorMod_18 at h
  refine J_iload_n C 2 D_Ma_floorMod_18 rfl rfl ?_
  exact J_iret C Rt D_Ma_floorMod_19 rfl h
def T_Ma_floorMod (x0 : Int32) (x1 : Int32) (M : Mem) (post : Int32 → Mem → Prop) : Prop := (¬ (x1 : Int32) = 0 ∧ (0 ≤ (x0 ^^^ x1) → (B_Ma_floorMod_18 post (x0 - x0 / x1 * x1) M)) ∧ (¬ 0 ≤ (x0 ^^^ x1) → (((x0 - x0 / x1 * x1) = 0 → (B_Ma_floorMod_18 post (x0 - x0 / x1 * x1) M)) ∧ (¬ (x0 - x0 / x1 * x1) = 0 → (post ((x0 - x0 / x1 * x1) + x1) M)))))
set_option maxRecDepth 20000 in
theorem S_Ma_floorMod {l : Launch} {D : va_G} {B t : Nat} {ac : Nat → ClassId} (x0 : Int32) (x1 : Int32) (M : Mem) (post : Int32 → Mem → Prop) (h : T_Ma_floorMod x0 x1 M post) : Met l y_Ma_floorMod w_Ma_floorMod rm_Ma_floorMod (va_Pc [.int x0, .int x1] (PRE D B t ac M)) (QI D B ac post) 0 0 (AB B) := by
  refine met_i (by decide +kernel) (Nat.le_of_ble_eq_true rfl) (fun x h1 hR h3 h4 h5 h6 C Rt => ?_)
  subst h3 h4 h5 h6
  unfold T_Ma_floorMod at h
  show J x 3 0 [(0, .int x0), (1, .int x1)] [] 0 0 M
  refine J_iload_n C 0 D_Ma_floorMod_0 rfl rfl ?_
  refine J_iload_n C 1 D_Ma_floorMod_1 rfl rfl ?_
  obtain ⟨c_2, h⟩ := h
  refine J_irem C D_Ma_floorMod_2 c_2 ?_
  refine J_istore_n (lv' := [(2, .int (x0 - x0 / x1 * x1)), (0, .int x0), (1, .int x1)]) C 2 D_Ma_floorMod_3 rfl (by decide) rfl ?_
  refine J_iload_n C 0 D_Ma_floorMod_4 rfl rfl ?_
  refine J_iload_n C 1 D_Ma_floorMod_5 rfl rfl ?_
  refine J_ixor C D_Ma_floorMod_6 ?_
  refine J_if_ge (tgt := 18) C D_Ma_floorMod_7 (by decide) (fun c_7 => ?_) (fun c_7 => ?_)
  · have h := h.1 c_7
    exact J_sub [0] rfl (Z_Ma_floorMod_18 C hR Rt  _ _ h)
  · have h := h.2 c_7
    refine J_iload_n C 2 D_Ma_floorMod_10 rfl rfl ?_
    refine J_if_eq (tgt := 18) C D_Ma_floorMod_11 (by decide) (fun c_11 => ?_) (fun c_11 => ?_)
    · have h := h.1 c_11
      exact J_sub [0] rfl (Z_Ma_floorMod_18 C hR Rt  _ _ h)
    · have h := h.2 c_11
      refine J_iload_n C 2 D_Ma_floorMod_14 rfl rfl ?_
      refine J_iload_n C 1 D_Ma_floorMod_15 rfl rfl ?_
      refine J_iadd C D_Ma_floorMod_16 ?_
      exact J_iret C Rt D_Ma_floorMod_17 rfl h
theorem D_Nu_modulo_0 : decode b_Nu_modulo 0 = .ok (.iload_n 1, 1) := by decide +kernel
theorem D_Nu_modulo_1 : decode b_Nu_modulo 1 = .ok (.aload_n 0, 1) := by decide +kernel
theorem D_Nu_modulo_2 : decode b_Nu_modulo 2 = .ok (.getfield 19, 3) := by decide +kernel
theorem D_Nu_modulo_5 : decode b_Nu_modulo 5 = .ok (.invokestatic 23, 3) := by decide +kernel
theorem D_Nu_modulo_8 : decode b_Nu_modulo 8 = .ok (.ireturn, 1) := by decide +kernel
abbrev rm_Nu_modulo : Room := { frames := 1, cells := 0, slots := 0, locals := 22 }
def T_Nu_modulo (a0 : Nat) (x1 : Int32) (M : Mem) (post : Int32 → Mem → Prop) : Prop := (isK M a0 2 ∧ T_Ma_floorMod x1 (gI M a0 1) M (fun r5 M5 => post r5 M5))
set_option maxRecDepth 20000 in
theorem S_Nu_modulo {l : Launch} {D : va_G} {B t : Nat} {ac : Nat → ClassId} (a0 : Nat) (x1 : Int32) (M : Mem) (post : Int32 → Mem → Prop) (h : T_Nu_modulo a0 x1 M post) : Met l y_Nu_modulo w_Nu_modulo rm_Nu_modulo (va_Pc [.ref (B + a0), .int x1] (PRE D B t ac M)) (QI D B ac post) 0 0 (AB B) := by
  refine met_i (by decide +kernel) (Nat.le_of_ble_eq_true rfl) (fun x h1 hR h3 h4 h5 h6 C Rt => ?_)
  subst h3 h4 h5 h6
  unfold T_Nu_modulo at h
  show J x 2 0 [(0, .ref (xB x + a0)), (1, .int x1)] [] 0 0 M
  refine J_iload_n C 1 D_Nu_modulo_0 rfl rfl ?_
  refine J_aload_n C 0 D_Nu_modulo_1 rfl rfl ?_
  obtain ⟨c_2, h⟩ := h
  refine J_getI C fl_Nu_19 D_Nu_modulo_2 c_2 ?_
  refine J_callSi C ml_Nu_23 (S_Ma_floorMod _ _ _ _ h) (by rw [hR]; decide) rfl rfl (Nat.le_of_ble_eq_true rfl) D_Nu_modulo_5 (fun r5 M5 h => ?_)
  exact J_iret C Rt D_Nu_modulo_8 rfl h
theorem D_Ar_rangeCheck_0 : decode b_Ar_rangeCheck 0 = .ok (.iload_n 1, 1) := by decide +kernel
theorem D_Ar_rangeCheck_1 : decode b_Ar_rangeCheck 1 = .ok (.iload_n 2, 1) := by decide +kernel
theorem D_Ar_rangeCheck_2 : decode b_Ar_rangeCheck 2 = .ok (.if_icmp .le 44, 3) := by decide +kernel
theorem D_Ar_rangeCheck_5 : decode b_Ar_rangeCheck 5 = .ok (.new 43, 3) := by decide +kernel
theorem D_Ar_rangeCheck_8 : decode b_Ar_rangeCheck 8 = .ok (.dup, 1) := by decide +kernel
theorem D_Ar_rangeCheck_9 : decode b_Ar_rangeCheck 9 = .ok (.new 45, 3) := by decide +kernel
theorem D_Ar_rangeCheck_12 : decode b_Ar_rangeCheck 12 = .ok (.dup, 1) := by decide +kernel
theorem D_Ar_rangeCheck_13 : decode b_Ar_rangeCheck 13 = .ok (.invokespecial 47, 3) := by decide +kernel
theorem D_Ar_rangeCheck_16 : decode b_Ar_rangeCheck 16 = .ok (.ldc 48, 2) := by decide +kernel
theorem D_Ar_rangeCheck_18 : decode b_Ar_rangeCheck 18 = .ok (.invokevirtual 50, 3) := by decide +kernel
theorem D_Ar_rangeCheck_21 : decode b_Ar_rangeCheck 21 = .ok (.iload_n 1, 1) := by decide +kernel
theorem D_Ar_rangeCheck_22 : decode b_Ar_rangeCheck 22 = .ok (.invokevirtual 54, 3) := by decide +kernel
theorem D_Ar_rangeCheck_25 : decode b_Ar_rangeCheck 25 = .ok (.ldc 57, 2) := by decide +kernel
theorem D_Ar_rangeCheck_27 : decode b_Ar_rangeCheck 27 = .ok (.invokevirtual 50, 3) := by decide +kernel
theorem D_Ar_rangeCheck_30 : decode b_Ar_rangeCheck 30 = .ok (.iload_n 2, 1) := by decide +kernel
theorem D_Ar_rangeCheck_31 : decode b_Ar_rangeCheck 31 = .ok (.invokevirtual 54, 3) := by decide +kernel
theorem D_Ar_rangeCheck_34 : decode b_Ar_rangeCheck 34 = .ok (.ldc 59, 2) := by decide +kernel
theorem D_Ar_rangeCheck_36 : decode b_Ar_rangeCheck 36 = .ok (.invokevirtual 50, 3) := by decide +kernel
theorem D_Ar_rangeCheck_39 : decode b_Ar_rangeCheck 39 = .ok (.invokevirtual 61, 3) := by decide +kernel
theorem D_Ar_rangeCheck_42 : decode b_Ar_rangeCheck 42 = .ok (.invokespecial 65, 3) := by decide +kernel
theorem D_Ar_rangeCheck_45 : decode b_Ar_rangeCheck 45 = .ok (.athrow, 1) := by decide +kernel
theorem D_Ar_rangeCheck_46 : decode b_Ar_rangeCheck 46 = .ok (.iload_n 1, 1) := by decide +kernel
theorem D_Ar_rangeCheck_47 : decode b_Ar_rangeCheck 47 = .ok (.ifCond .ge 12, 3) := by decide +kernel
theorem D_Ar_rangeCheck_50 : decode b_Ar_rangeCheck 50 = .ok (.new 68, 3) := by decide +kernel
theorem D_Ar_rangeCheck_53 : decode b_Ar_rangeCheck 53 = .ok (.dup, 1) := by decide +kernel
theorem D_Ar_rangeCheck_54 : decode b_Ar_rangeCheck 54 = .ok (.iload_n 1, 1) := by decide +kernel
theorem D_Ar_rangeCheck_55 : decode b_Ar_rangeCheck 55 = .ok (.invokespecial 70, 3) := by decide +kernel
theorem D_Ar_rangeCheck_58 : decode b_Ar_rangeCheck 58 = .ok (.athrow, 1) := by decide +kernel
theorem D_Ar_rangeCheck_59 : decode b_Ar_rangeCheck 59 = .ok (.iload_n 2, 1) := by decide +kernel
theorem D_Ar_rangeCheck_60 : decode b_Ar_rangeCheck 60 = .ok (.iload_n 0, 1) := by decide +kernel
theorem D_Ar_rangeCheck_61 : decode b_Ar_rangeCheck 61 = .ok (.if_icmp .le 12, 3) := by decide +kernel
theorem D_Ar_rangeCheck_64 : decode b_Ar_rangeCheck 64 = .ok (.new 68, 3) := by decide +kernel
theorem D_Ar_rangeCheck_67 : decode b_Ar_rangeCheck 67 = .ok (.dup, 1) := by decide +kernel
theorem D_Ar_rangeCheck_68 : decode b_Ar_rangeCheck 68 = .ok (.iload_n 2, 1) := by decide +kernel
theorem D_Ar_rangeCheck_69 : decode b_Ar_rangeCheck 69 = .ok (.invokespecial 70, 3) := by decide +kernel
theorem D_Ar_rangeCheck_72 : decode b_Ar_rangeCheck 72 = .ok (.athrow, 1) := by decide +kernel
theorem D_Ar_rangeCheck_73 : decode b_Ar_rangeCheck 73 = .ok (.return_, 1) := by decide +kernel
abbrev rm_Ar_rangeCheck : Room := { frames := 0, cells := 0, slots := 0, locals := 0 }
def T_Ar_rangeCheck (x0 : Int32) (x1 : Int32) (x2 : Int32) (M : Mem) (post : Mem → Prop) : Prop := ((x1 ≤ x2 → ((0 ≤ x1 → ((x2 ≤ x0 → (post M)) ∧ (¬ x2 ≤ x0 → (False)))) ∧ (¬ 0 ≤ x1 → (False)))) ∧ (¬ x1 ≤ x2 → (False)))
set_option maxRecDepth 20000 in
theorem S_Ar_rangeCheck {l : Launch} {D : va_G} {B t : Nat} {ac : Nat → ClassId} (x0 : Int32) (x1 : Int32) (x2 : Int32) (M : Mem) (post : Mem → Prop) (h : T_Ar_rangeCheck x0 x1 x2 M post) : Met l y_Ar_rangeCheck w_Ar_rangeCheck rm_Ar_rangeCheck (va_Pc [.int x0, .int x1, .int x2] (PRE D B t ac M)) (QV D B ac post) 0 0 (AB B) := by
  refine met_v (by decide +kernel) (Nat.le_of_ble_eq_true rfl) (fun x h1 hR h3 h4 h5 h6 C Rt Nm => ?_)
  subst h3 h4 h5 h6
  unfold T_Ar_rangeCheck at h
  show J x 3 0 [(0, .int x0), (1, .int x1), (2, .int x2)] [] 0 0 M
  refine J_iload_n C 1 D_Ar_rangeCheck_0 rfl rfl ?_
  refine J_iload_n C 2 D_Ar_rangeCheck_1 rfl rfl ?_
  refine J_icmp_le (tgt := 46) C D_Ar_rangeCheck_2 (by decide) (fun c_2 => ?_) (fun c_2 => ?_)
  · have h := h.1 c_2
    refine J_iload_n C 1 D_Ar_rangeCheck_46 rfl rfl ?_
    refine J_if_ge (tgt := 59) C D_Ar_rangeCheck_47 (by decide) (fun c_47 => ?_) (fun c_47 => ?_)
    · have h := h.1 c_47
      refine J_iload_n C 2 D_Ar_rangeCheck_59 rfl rfl ?_
      refine J_iload_n C 0 D_Ar_rangeCheck_60 rfl rfl ?_
      refine J_icmp_le (tgt := 73) C D_Ar_rangeCheck_61 (by decide) (fun c_61 => ?_) (fun c_61 => ?_)
      · have h := h.1 c_61
        exact J_vret C Rt D_Ar_rangeCheck_73 h
      · have h := h.2 c_61
        exact h.elim
    · have h := h.2 c_47
      exact h.elim
  · have h := h.2 c_2
    exact h.elim
theorem D_Ar_fill4_0 : decode b_Ar_fill4 0 = .ok (.aload_n 0, 1) := by decide +kernel
theorem D_Ar_fill4_1 : decode b_Ar_fill4 1 = .ok (.arraylength, 1) := by decide +kernel
theorem D_Ar_fill4_2 : decode b_Ar_fill4 2 = .ok (.iload_n 1, 1) := by decide +kernel
theorem D_Ar_fill4_3 : decode b_Ar_fill4 3 = .ok (.iload_n 2, 1) := by decide +kernel
theorem D_Ar_fill4_4 : decode b_Ar_fill4 4 = .ok (.invokestatic 13, 3) := by decide +kernel
theorem D_Ar_fill4_7 : decode b_Ar_fill4 7 = .ok (.iload_n 1, 1) := by decide +kernel
theorem D_Ar_fill4_8 : decode b_Ar_fill4 8 = .ok (.istore 4, 2) := by decide +kernel
theorem D_Ar_fill4_10 : decode b_Ar_fill4 10 = .ok (.iload 4, 2) := by decide +kernel
theorem D_Ar_fill4_12 : decode b_Ar_fill4 12 = .ok (.iload_n 2, 1) := by decide +kernel
theorem D_Ar_fill4_13 : decode b_Ar_fill4 13 = .ok (.if_icmp .ge 14, 3) := by decide +kernel
theorem D_Ar_fill4_16 : decode b_Ar_fill4 16 = .ok (.aload_n 0, 1) := by decide +kernel
theorem D_Ar_fill4_17 : decode b_Ar_fill4 17 = .ok (.iload 4, 2) := by decide +kernel
theorem D_Ar_fill4_19 : decode b_Ar_fill4 19 = .ok (.iload_n 3, 1) := by decide +kernel
theorem D_Ar_fill4_20 : decode b_Ar_fill4 20 = .ok (.iastore, 1) := by decide +kernel
theorem D_Ar_fill4_21 : decode b_Ar_fill4 21 = .ok (.iinc 4 1, 3) := by decide +kernel
theorem D_Ar_fill4_24 : decode b_Ar_fill4 24 = .ok (.goto (-14), 3) := by decide +kernel
theorem D_Ar_fill4_27 : decode b_Ar_fill4 27 = .ok (.return_, 1) := by decide +kernel
abbrev rm_Ar_fill4 : Room := { frames := 1, cells := 0, slots := 0, locals := 22 }
def B_Ar_fill4_10 (k10 : Nat → Int32 → Int32 → Int32 → Mem → Prop) (post : Mem → Prop) (a0 : Nat) (x2 : Int32) (x3 : Int32) (x4 : Int32) (M : Mem) : Prop := ((x2 ≤ x4 → (post M)) ∧ (¬ x2 ≤ x4 → (isA M a0 8 x4 ∧ k10 a0 x2 x3 (x4 + 1) (sI M a0 (Int32.toNatClampNeg x4) x3))))
set_option maxRecDepth 20000 in
theorem Z_Ar_fill4_10 {x : Ctx} {post : Mem → Prop} (C : Ok x b_Ar_fill4 5 "java/util/Arrays") (hR : xR x = rm_Ar_fill4) (Rt : RetV x post 0 0) {k10 : Nat → Int32 → Int32 → Int32 → Mem → Prop} (K10 : ∀ (a0 : Nat) (x2 : Int32) (x3 : Int32) (x4 : Int32) (M : Mem), k10 a0 x2 x3 x4 M → J x 5 10 [(0, .ref (xB x + a0)), (2, .int x2), (3, .int x3), (4, .int x4)] [] 0 0 M) (a0 : Nat) (x2 : Int32) (x3 : Int32) (x4 : Int32) (M : Mem) (h : B_Ar_fill4_10 k10 post a0 x2 x3 x4 M) : J x 5 10 [(0, .ref (xB x + a0)), (2, .int x2), (3, .int x3), (4, .int x4)] [] 0 0 M := by
  unfold B_Ar_fill4_10 at h
  refine J_iload C 4 D_Ar_fill4_10 rfl ?_
  refine J_iload_n C 2 D_Ar_fill4_12 rfl rfl ?_
  refine J_icmp_ge (tgt := 27) C D_Ar_fill4_13 (by decide) (fun c_13 => ?_) (fun c_13 => ?_)
  · have h := h.1 c_13
    exact J_vret C Rt D_Ar_fill4_27 h
  · have h := h.2 c_13
    refine J_aload_n C 0 D_Ar_fill4_16 rfl rfl ?_
    refine J_iload C 4 D_Ar_fill4_17 rfl ?_
    refine J_iload_n C 3 D_Ar_fill4_19 rfl rfl ?_
    obtain ⟨c_20, h⟩ := h
    refine J_iast C D_Ar_fill4_20 c_20 ?_
    refine J_iinc (v := x4 + 1) (lv' := [(4, .int (x4 + 1)), (0, .ref (xB x + a0)), (2, .int x2), (3, .int x3)]) C 4 3 D_Ar_fill4_21 rfl rfl (by decide) rfl ?_
    refine J_goto (tgt := 10) C D_Ar_fill4_24 (by decide) ?_
    exact J_sub [1, 2, 3, 0] rfl (K10 _ _ _ _ _ h)
def L_Ar_fill4_10 (post : Mem → Prop) : Nat → Nat → Int32 → Int32 → Int32 → Mem → Prop
  | 0, _, _, _, _, _ => False
  | n + 1, a0, x2, x3, x4, M => B_Ar_fill4_10 (L_Ar_fill4_10 post n) post a0 x2 x3 x4 M
theorem Y_Ar_fill4_10 {x : Ctx} {post : Mem → Prop} (C : Ok x b_Ar_fill4 5 "java/util/Arrays") (hR : xR x = rm_Ar_fill4) (Rt : RetV x post 0 0) : ∀ (n : Nat) (a0 : Nat) (x2 : Int32) (x3 : Int32) (x4 : Int32) (M : Mem), L_Ar_fill4_10 post n a0 x2 x3 x4 M → J x 5 10 [(0, .ref (xB x + a0)), (2, .int x2), (3, .int x3), (4, .int x4)] [] 0 0 M := by
  intro n
  induction n with
  | zero => intro a0 x2 x3 x4 M h; exact h.elim
  | succ n ih => intro a0 x2 x3 x4 M h; exact Z_Ar_fill4_10 C hR Rt ih _ _ _ _ _ h
def T_Ar_fill4 (a0 : Nat) (x1 : Int32) (x2 : Int32) (x3 : Int32) (M : Mem) (post : Mem → Prop) : Prop := (isK M a0 8 ∧ T_Ar_rangeCheck (nI (ln M a0)) x1 x2 M (fun M4 => ∃ n, L_Ar_fill4_10 post n a0 x2 x3 x1 M4))
set_option maxRecDepth 20000 in
theorem S_Ar_fill4 {l : Launch} {D : va_G} {B t : Nat} {ac : Nat → ClassId} (a0 : Nat) (x1 : Int32) (x2 : Int32) (x3 : Int32) (M : Mem) (post : Mem → Prop) (h : T_Ar_fill4 a0 x1 x2 x3 M post) : Met l y_Ar_fill4 w_Ar_fill4 rm_Ar_fill4 (va_Pc [.ref (B + a0), .int x1, .int x2, .int x3] (PRE D B t ac M)) (QV D B ac post) 0 0 (AB B) := by
  refine met_v (by decide +kernel) (Nat.le_of_ble_eq_true rfl) (fun x h1 hR h3 h4 h5 h6 C Rt Nm => ?_)
  subst h3 h4 h5 h6
  unfold T_Ar_fill4 at h
  show J x 5 0 [(0, .ref (xB x + a0)), (1, .int x1), (2, .int x2), (3, .int x3)] [] 0 0 M
  refine J_aload_n C 0 D_Ar_fill4_0 rfl rfl ?_
  obtain ⟨c_1, h⟩ := h
  refine J_alen C D_Ar_fill4_1 c_1 ?_
  refine J_iload_n C 1 D_Ar_fill4_2 rfl rfl ?_
  refine J_iload_n C 2 D_Ar_fill4_3 rfl rfl ?_
  refine J_callSv C ml_Ar_13 (S_Ar_rangeCheck _ _ _ _ _ h) (by rw [hR]; decide) rfl rfl (Nat.le_of_ble_eq_true rfl) D_Ar_fill4_4 (fun M4 h => ?_)
  refine J_iload_n C 1 D_Ar_fill4_7 rfl rfl ?_
  refine J_istore (lv' := [(4, .int x1), (0, .ref (xB x + a0)), (1, .int x1), (2, .int x2), (3, .int x3)]) C 4 D_Ar_fill4_8 (by decide) rfl ?_
  obtain ⟨n, h⟩ := h
  exact J_sub [1, 3, 4, 0] rfl (Y_Ar_fill4_10 C hR Rt  n _ _ _ _ _ h)
theorem D_Nu_prime_0 : decode b_Nu_prime 0 = .ok (.aload_n 0, 1) := by decide +kernel
theorem D_Nu_prime_1 : decode b_Nu_prime 1 = .ok (.getfield 19, 3) := by decide +kernel
theorem D_Nu_prime_4 : decode b_Nu_prime 4 = .ok (.ireturn, 1) := by decide +kernel
abbrev rm_Nu_prime : Room := { frames := 0, cells := 0, slots := 0, locals := 0 }
def T_Nu_prime (a0 : Nat) (M : Mem) (post : Int32 → Mem → Prop) : Prop := (isK M a0 2 ∧ post (gI M a0 1) M)
set_option maxRecDepth 20000 in
theorem S_Nu_prime {l : Launch} {D : va_G} {B t : Nat} {ac : Nat → ClassId} (a0 : Nat) (M : Mem) (post : Int32 → Mem → Prop) (h : T_Nu_prime a0 M post) : Met l y_Nu_prime w_Nu_prime rm_Nu_prime (va_Pc [.ref (B + a0)] (PRE D B t ac M)) (QI D B ac post) 0 0 (AB B) := by
  refine met_i (by decide +kernel) (Nat.le_of_ble_eq_true rfl) (fun x h1 hR h3 h4 h5 h6 C Rt => ?_)
  subst h3 h4 h5 h6
  unfold T_Nu_prime at h
  show J x 1 0 [(0, .ref (xB x + a0))] [] 0 0 M
  refine J_aload_n C 0 D_Nu_prime_0 rfl rfl ?_
  obtain ⟨c_1, h⟩ := h
  refine J_getI C fl_Nu_19 D_Nu_prime_1 c_1 ?_
  exact J_iret C Rt D_Nu_prime_4 rfl h
theorem D_Ma_min_0 : decode b_Ma_min 0 = .ok (.iload_n 0, 1) := by decide +kernel
theorem D_Ma_min_1 : decode b_Ma_min 1 = .ok (.iload_n 1, 1) := by decide +kernel
theorem D_Ma_min_2 : decode b_Ma_min 2 = .ok (.if_icmp .gt 7, 3) := by decide +kernel
theorem D_Ma_min_5 : decode b_Ma_min 5 = .ok (.iload_n 0, 1) := by decide +kernel
theorem D_Ma_min_6 : decode b_Ma_min 6 = .ok (.goto 4, 3) := by decide +kernel
theorem D_Ma_min_9 : decode b_Ma_min 9 = .ok (.iload_n 1, 1) := by decide +kernel
theorem D_Ma_min_10 : decode b_Ma_min 10 = .ok (.ireturn, 1) := by decide +kernel
abbrev rm_Ma_min : Room := { frames := 0, cells := 0, slots := 0, locals := 0 }
def B_Ma_min_10 (post : Int32 → Mem → Prop) (s0 : Int32) (M : Mem) : Prop := (post s0 M)
set_option maxRecDepth 20000 in
theorem Z_Ma_min_10 {x : Ctx} {post : Int32 → Mem → Prop} (C : Ok x b_Ma_min 2 "java/lang/Math") (hR : xR x = rm_Ma_min) (Rt : RetI x .int post 0 0) (s0 : Int32) (M : Mem) (h : B_Ma_min_10 post s0 M) : J x 2 10 [] [.int s0] 0 0 M := by
  unfold B_Ma_min_10 at h
  exact J_iret C Rt D_Ma_min_10 rfl h
def T_Ma_min (x0 : Int32) (x1 : Int32) (M : Mem) (post : Int32 → Mem → Prop) : Prop := ((x1 < x0 → (B_Ma_min_10 post x1 M)) ∧ (¬ x1 < x0 → (B_Ma_min_10 post x0 M)))
set_option maxRecDepth 20000 in
theorem S_Ma_min {l : Launch} {D : va_G} {B t : Nat} {ac : Nat → ClassId} (x0 : Int32) (x1 : Int32) (M : Mem) (post : Int32 → Mem → Prop) (h : T_Ma_min x0 x1 M post) : Met l y_Ma_min w_Ma_min rm_Ma_min (va_Pc [.int x0, .int x1] (PRE D B t ac M)) (QI D B ac post) 0 0 (AB B) := by
  refine met_i (by decide +kernel) (Nat.le_of_ble_eq_true rfl) (fun x h1 hR h3 h4 h5 h6 C Rt => ?_)
  subst h3 h4 h5 h6
  unfold T_Ma_min at h
  show J x 2 0 [(0, .int x0), (1, .int x1)] [] 0 0 M
  refine J_iload_n C 0 D_Ma_min_0 rfl rfl ?_
  refine J_iload_n C 1 D_Ma_min_1 rfl rfl ?_
  refine J_icmp_gt (tgt := 9) C D_Ma_min_2 (by decide) (fun c_2 => ?_) (fun c_2 => ?_)
  · have h := h.1 c_2
    refine J_iload_n C 1 D_Ma_min_9 rfl rfl ?_
    exact J_sub [] rfl (Z_Ma_min_10 C hR Rt  _ _ h)
  · have h := h.2 c_2
    refine J_iload_n C 0 D_Ma_min_5 rfl rfl ?_
    refine J_goto (tgt := 10) C D_Ma_min_6 (by decide) ?_
    exact J_sub [] rfl (Z_Ma_min_10 C hR Rt  _ _ h)
theorem D_Nu_inverse_0 : decode b_Nu_inverse 0 = .ok (.aload_n 0, 1) := by decide +kernel
theorem D_Nu_inverse_1 : decode b_Nu_inverse 1 = .ok (.getfield 9, 3) := by decide +kernel
theorem D_Nu_inverse_4 : decode b_Nu_inverse 4 = .ok (.iload_n 1, 1) := by decide +kernel
theorem D_Nu_inverse_5 : decode b_Nu_inverse 5 = .ok (.iaload, 1) := by decide +kernel
theorem D_Nu_inverse_6 : decode b_Nu_inverse 6 = .ok (.ireturn, 1) := by decide +kernel
abbrev rm_Nu_inverse : Room := { frames := 0, cells := 0, slots := 0, locals := 0 }
def T_Nu_inverse (a0 : Nat) (x1 : Int32) (M : Mem) (post : Int32 → Mem → Prop) : Prop := (isK M a0 2 ∧ ∃ q1, gR M a0 0 = some q1 ∧ isA M q1 8 x1 ∧ post (gI M q1 (Int32.toNatClampNeg x1)) M)
set_option maxRecDepth 20000 in
theorem S_Nu_inverse {l : Launch} {D : va_G} {B t : Nat} {ac : Nat → ClassId} (a0 : Nat) (x1 : Int32) (M : Mem) (post : Int32 → Mem → Prop) (h : T_Nu_inverse a0 x1 M post) : Met l y_Nu_inverse w_Nu_inverse rm_Nu_inverse (va_Pc [.ref (B + a0), .int x1] (PRE D B t ac M)) (QI D B ac post) 0 0 (AB B) := by
  refine met_i (by decide +kernel) (Nat.le_of_ble_eq_true rfl) (fun x h1 hR h3 h4 h5 h6 C Rt => ?_)
  subst h3 h4 h5 h6
  unfold T_Nu_inverse at h
  show J x 2 0 [(0, .ref (xB x + a0)), (1, .int x1)] [] 0 0 M
  refine J_aload_n C 0 D_Nu_inverse_0 rfl rfl ?_
  obtain ⟨c_1, q1, e_1, h⟩ := h
  refine J_getR C fl_Nu_9 D_Nu_inverse_1 c_1 e_1 ?_
  refine J_iload_n C 1 D_Nu_inverse_4 rfl rfl ?_
  obtain ⟨c_5, h⟩ := h
  refine J_iald C D_Nu_inverse_5 c_5 ?_
  exact J_iret C Rt D_Nu_inverse_6 rfl h
end
section
theorem fl_Pr_9 : Fld "HeapTower$Products" 9 4 0 false true := ⟨R_Pr, F_Pr, 6, t_Pr, iw_Pr, rfl, by decide, rfl, rfl, by decide, rfl, (gw_in (List.mem_of_getElem? (i := 108) (by decide +kernel)) (by decide +kernel)), t_Pr_ok, n_Pr, rfl, (fun h => by cases h), fun _ => Or.inr ⟨_, rfl⟩⟩
theorem fl_Pr_15 : Fld "HeapTower$Products" 15 4 1 false true := ⟨R_Pr, F_Pr, 6, t_Pr, iw_Pr, rfl, by decide, rfl, rfl, by decide, rfl, (gw_in (List.mem_of_getElem? (i := 110) (by decide +kernel)) (by decide +kernel)), t_Pr_ok, n_Pr, rfl, (fun h => by cases h), fun _ => Or.inr ⟨_, rfl⟩⟩
theorem fl_Pr_18 : Fld "HeapTower$Products" 18 4 2 false true := ⟨R_Pr, F_Pr, 6, t_Pr, iw_Pr, rfl, by decide, rfl, rfl, by decide, rfl, (gw_in (List.mem_of_getElem? (i := 112) (by decide +kernel)) (by decide +kernel)), t_Pr_ok, n_Pr, rfl, (fun h => by cases h), fun _ => Or.inr ⟨_, rfl⟩⟩
theorem fl_Pr_21 : Fld "HeapTower$Products" 21 4 3 false true := ⟨R_Pr, F_Pr, 6, t_Pr, iw_Pr, rfl, by decide, rfl, rfl, by decide, rfl, (gw_in (List.mem_of_getElem? (i := 113) (by decide +kernel)) (by decide +kernel)), t_Pr_ok, n_Pr, rfl, (fun h => by cases h), fun _ => Or.inr ⟨_, rfl⟩⟩
theorem fl_Pr_32 : Fld "HeapTower$Products" 32 4 4 true false := ⟨R_Pr, F_Pr, 6, t_Pr, iw_Pr, rfl, by decide, rfl, rfl, by decide, rfl, (gw_in (List.mem_of_getElem? (i := 114) (by decide +kernel)) (by decide +kernel)), t_Pr_ok, n_Pr, rfl, fun _ => rfl, (fun h => by cases h)⟩
theorem fl_Pr_36 : Fld "HeapTower$Products" 36 4 5 true false := ⟨R_Pr, F_Pr, 6, t_Pr, iw_Pr, rfl, by decide, rfl, rfl, by decide, rfl, (gw_in (List.mem_of_getElem? (i := 115) (by decide +kernel)) (by decide +kernel)), t_Pr_ok, n_Pr, rfl, fun _ => rfl, (fun h => by cases h)⟩
theorem ml_Pr_24 : MLS "HeapTower$Products" 24 y_Pr_place b_Pr_place 2 (some .int) 2 := ⟨List.forall_mem_cons.mpr ⟨(gw_in (List.mem_of_getElem? (i := 91) (by decide +kernel)) (by decide +kernel)), List.forall_mem_cons.mpr ⟨(gw_in (List.mem_of_getElem? (i := 92) (by decide +kernel)) (by decide +kernel)), List.forall_mem_cons.mpr ⟨(gw_in (List.mem_of_getElem? (i := 67) (by decide +kernel)) (by decide +kernel)), List.forall_mem_cons.mpr ⟨(gw_in (List.mem_of_getElem? (i := 93) (by decide +kernel)) (by decide +kernel)), fun _ h => absurd h List.not_mem_nil⟩⟩⟩⟩, by decide⟩
theorem ml_Pr_39 : MLV "HeapTower$Products" 39 y_Pr_lineByLast b_Pr_lineByLast 5 (some .int) 1 4 := ⟨List.forall_mem_cons.mpr ⟨(gw_in (List.mem_of_getElem? (i := 98) (by decide +kernel)) (by decide +kernel)), List.forall_mem_cons.mpr ⟨(gw_in (List.mem_of_getElem? (i := 100) (by decide +kernel)) (by decide +kernel)), List.forall_mem_cons.mpr ⟨(gw_in (List.mem_of_getElem? (i := 0) (by decide +kernel)) (by decide +kernel)), List.forall_mem_cons.mpr ⟨(gw_in (List.mem_of_getElem? (i := 67) (by decide +kernel)) (by decide +kernel)), List.forall_mem_cons.mpr ⟨(gw_in (List.mem_of_getElem? (i := 101) (by decide +kernel)) (by decide +kernel)), fun _ h => absurd h List.not_mem_nil⟩⟩⟩⟩⟩, by decide, F_Pr, 6, rfl, by decide⟩
theorem ml_Pr_43 : MLV "HeapTower$Products" 43 y_Pr_lineByFirst b_Pr_lineByFirst 5 (some .int) 1 4 := ⟨List.forall_mem_cons.mpr ⟨(gw_in (List.mem_of_getElem? (i := 104) (by decide +kernel)) (by decide +kernel)), List.forall_mem_cons.mpr ⟨(gw_in (List.mem_of_getElem? (i := 106) (by decide +kernel)) (by decide +kernel)), List.forall_mem_cons.mpr ⟨(gw_in (List.mem_of_getElem? (i := 1) (by decide +kernel)) (by decide +kernel)), List.forall_mem_cons.mpr ⟨(gw_in (List.mem_of_getElem? (i := 67) (by decide +kernel)) (by decide +kernel)), List.forall_mem_cons.mpr ⟨(gw_in (List.mem_of_getElem? (i := 107) (by decide +kernel)) (by decide +kernel)), fun _ h => absurd h List.not_mem_nil⟩⟩⟩⟩⟩, by decide, F_Pr, 6, rfl, by decide⟩
theorem ml_Pr_49 : MLV "HeapTower$Products" 49 y_Pr_at b_Pr_at 3 (some .int) 2 4 := ⟨List.forall_mem_cons.mpr ⟨(gw_in (List.mem_of_getElem? (i := 636) (by decide +kernel)) (by decide +kernel)), List.forall_mem_cons.mpr ⟨(gw_in (List.mem_of_getElem? (i := 431) (by decide +kernel)) (by decide +kernel)), List.forall_mem_cons.mpr ⟨(gw_in (List.mem_of_getElem? (i := 432) (by decide +kernel)) (by decide +kernel)), List.forall_mem_cons.mpr ⟨(gw_in (List.mem_of_getElem? (i := 67) (by decide +kernel)) (by decide +kernel)), List.forall_mem_cons.mpr ⟨(gw_in (List.mem_of_getElem? (i := 433) (by decide +kernel)) (by decide +kernel)), fun _ h => absurd h List.not_mem_nil⟩⟩⟩⟩⟩, by decide, F_Pr, 6, rfl, by decide⟩
theorem D_Pr_place_0 : decode b_Pr_place 0 = .ok (.iload_n 0, 1) := by decide +kernel
theorem D_Pr_place_1 : decode b_Pr_place 1 = .ok (.iload_n 1, 1) := by decide +kernel
theorem D_Pr_place_2 : decode b_Pr_place 2 = .ok (.iadd, 1) := by decide +kernel
theorem D_Pr_place_3 : decode b_Pr_place 3 = .ok (.iload_n 0, 1) := by decide +kernel
theorem D_Pr_place_4 : decode b_Pr_place 4 = .ok (.iload_n 1, 1) := by decide +kernel
theorem D_Pr_place_5 : decode b_Pr_place 5 = .ok (.iadd, 1) := by decide +kernel
theorem D_Pr_place_6 : decode b_Pr_place 6 = .ok (.iconst 1, 1) := by decide +kernel
theorem D_Pr_place_7 : decode b_Pr_place 7 = .ok (.iadd, 1) := by decide +kernel
theorem D_Pr_place_8 : decode b_Pr_place 8 = .ok (.imul, 1) := by decide +kernel
theorem D_Pr_place_9 : decode b_Pr_place 9 = .ok (.iconst 2, 1) := by decide +kernel
theorem D_Pr_place_10 : decode b_Pr_place 10 = .ok (.idiv, 1) := by decide +kernel
theorem D_Pr_place_11 : decode b_Pr_place 11 = .ok (.iload_n 1, 1) := by decide +kernel
theorem D_Pr_place_12 : decode b_Pr_place 12 = .ok (.iadd, 1) := by decide +kernel
theorem D_Pr_place_13 : decode b_Pr_place 13 = .ok (.ireturn, 1) := by decide +kernel
abbrev rm_Pr_place : Room := { frames := 0, cells := 0, slots := 0, locals := 0 }
def T_Pr_place (x0 : Int32) (x1 : Int32) (M : Mem) (post : Int32 → Mem → Prop) : Prop := (¬ (2 : Int32) = 0 ∧ post ((((x0 + x1) * ((x0 + x1) + 1)) / 2) + x1) M)
set_option maxRecDepth 20000 in
theorem S_Pr_place {l : Launch} {D : va_G} {B t : Nat} {ac : Nat → ClassId} (x0 : Int32) (x1 : Int32) (M : Mem) (post : Int32 → Mem → Prop) (h : T_Pr_place x0 x1 M post) : Met l y_Pr_place w_Pr_place rm_Pr_place (va_Pc [.int x0, .int x1] (PRE D B t ac M)) (QI D B ac post) 0 0 (AB B) := by
  refine met_i (by decide +kernel) (Nat.le_of_ble_eq_true rfl) (fun x h1 hR h3 h4 h5 h6 C Rt => ?_)
  subst h3 h4 h5 h6
  unfold T_Pr_place at h
  show J x 2 0 [(0, .int x0), (1, .int x1)] [] 0 0 M
  refine J_iload_n C 0 D_Pr_place_0 rfl rfl ?_
  refine J_iload_n C 1 D_Pr_place_1 rfl rfl ?_
  refine J_iadd C D_Pr_place_2 ?_
  refine J_iload_n C 0 D_Pr_place_3 rfl rfl ?_
  refine J_iload_n C 1 D_Pr_place_4 rfl rfl ?_
  refine J_iadd C D_Pr_place_5 ?_
  refine J_iconst (v := 1) C D_Pr_place_6 rfl ?_
  refine J_iadd C D_Pr_place_7 ?_
  refine J_imul C D_Pr_place_8 ?_
  refine J_iconst (v := 2) C D_Pr_place_9 rfl ?_
  obtain ⟨c_10, h⟩ := h
  refine J_idiv C D_Pr_place_10 c_10 ?_
  refine J_iload_n C 1 D_Pr_place_11 rfl rfl ?_
  refine J_iadd C D_Pr_place_12 ?_
  exact J_iret C Rt D_Pr_place_13 rfl h
theorem D_Pr_lineByLast_0 : decode b_Pr_lineByLast 0 = .ok (.iconst 0, 1) := by decide +kernel
theorem D_Pr_lineByLast_1 : decode b_Pr_lineByLast 1 = .ok (.istore_n 2, 1) := by decide +kernel
theorem D_Pr_lineByLast_2 : decode b_Pr_lineByLast 2 = .ok (.iconst 0, 1) := by decide +kernel
theorem D_Pr_lineByLast_3 : decode b_Pr_lineByLast 3 = .ok (.istore_n 3, 1) := by decide +kernel
theorem D_Pr_lineByLast_4 : decode b_Pr_lineByLast 4 = .ok (.iload_n 3, 1) := by decide +kernel
theorem D_Pr_lineByLast_5 : decode b_Pr_lineByLast 5 = .ok (.aload_n 0, 1) := by decide +kernel
theorem D_Pr_lineByLast_6 : decode b_Pr_lineByLast 6 = .ok (.getfield 32, 3) := by decide +kernel
theorem D_Pr_lineByLast_9 : decode b_Pr_lineByLast 9 = .ok (.iconst 2, 1) := by decide +kernel
theorem D_Pr_lineByLast_10 : decode b_Pr_lineByLast 10 = .ok (.if_icmp .le 7, 3) := by decide +kernel
theorem D_Pr_lineByLast_13 : decode b_Pr_lineByLast 13 = .ok (.iload_n 1, 1) := by decide +kernel
theorem D_Pr_lineByLast_14 : decode b_Pr_lineByLast 14 = .ok (.goto 4, 3) := by decide +kernel
theorem D_Pr_lineByLast_17 : decode b_Pr_lineByLast 17 = .ok (.iconst 0, 1) := by decide +kernel
theorem D_Pr_lineByLast_18 : decode b_Pr_lineByLast 18 = .ok (.if_icmp .gt 59, 3) := by decide +kernel
theorem D_Pr_lineByLast_21 : decode b_Pr_lineByLast 21 = .ok (.iconst 0, 1) := by decide +kernel
theorem D_Pr_lineByLast_22 : decode b_Pr_lineByLast 22 = .ok (.istore 4, 2) := by decide +kernel
theorem D_Pr_lineByLast_24 : decode b_Pr_lineByLast 24 = .ok (.iload 4, 2) := by decide +kernel
theorem D_Pr_lineByLast_26 : decode b_Pr_lineByLast 26 = .ok (.aload_n 0, 1) := by decide +kernel
theorem D_Pr_lineByLast_27 : decode b_Pr_lineByLast 27 = .ok (.getfield 32, 3) := by decide +kernel
theorem D_Pr_lineByLast_30 : decode b_Pr_lineByLast 30 = .ok (.iconst 1, 1) := by decide +kernel
theorem D_Pr_lineByLast_31 : decode b_Pr_lineByLast 31 = .ok (.if_icmp .le 9, 3) := by decide +kernel
theorem D_Pr_lineByLast_34 : decode b_Pr_lineByLast 34 = .ok (.iload_n 1, 1) := by decide +kernel
theorem D_Pr_lineByLast_35 : decode b_Pr_lineByLast 35 = .ok (.iload_n 3, 1) := by decide +kernel
theorem D_Pr_lineByLast_36 : decode b_Pr_lineByLast 36 = .ok (.isub, 1) := by decide +kernel
theorem D_Pr_lineByLast_37 : decode b_Pr_lineByLast 37 = .ok (.goto 4, 3) := by decide +kernel
theorem D_Pr_lineByLast_40 : decode b_Pr_lineByLast 40 = .ok (.iconst 0, 1) := by decide +kernel
theorem D_Pr_lineByLast_41 : decode b_Pr_lineByLast 41 = .ok (.if_icmp .gt 30, 3) := by decide +kernel
theorem D_Pr_lineByLast_44 : decode b_Pr_lineByLast 44 = .ok (.aload_n 0, 1) := by decide +kernel
theorem D_Pr_lineByLast_45 : decode b_Pr_lineByLast 45 = .ok (.getfield 18, 3) := by decide +kernel
theorem D_Pr_lineByLast_48 : decode b_Pr_lineByLast 48 = .ok (.getstatic 46, 3) := by decide +kernel
theorem D_Pr_lineByLast_51 : decode b_Pr_lineByLast 51 = .ok (.iload_n 1, 1) := by decide +kernel
theorem D_Pr_lineByLast_52 : decode b_Pr_lineByLast 52 = .ok (.iaload, 1) := by decide +kernel
theorem D_Pr_lineByLast_53 : decode b_Pr_lineByLast 53 = .ok (.iload_n 2, 1) := by decide +kernel
theorem D_Pr_lineByLast_54 : decode b_Pr_lineByLast 54 = .ok (.iadd, 1) := by decide +kernel
theorem D_Pr_lineByLast_55 : decode b_Pr_lineByLast 55 = .ok (.iload 4, 2) := by decide +kernel
theorem D_Pr_lineByLast_57 : decode b_Pr_lineByLast 57 = .ok (.iload_n 3, 1) := by decide +kernel
theorem D_Pr_lineByLast_58 : decode b_Pr_lineByLast 58 = .ok (.invokestatic 24, 3) := by decide +kernel
theorem D_Pr_lineByLast_61 : decode b_Pr_lineByLast 61 = .ok (.iastore, 1) := by decide +kernel
theorem D_Pr_lineByLast_62 : decode b_Pr_lineByLast 62 = .ok (.iinc 2 1, 3) := by decide +kernel
theorem D_Pr_lineByLast_65 : decode b_Pr_lineByLast 65 = .ok (.iinc 4 1, 3) := by decide +kernel
theorem D_Pr_lineByLast_68 : decode b_Pr_lineByLast 68 = .ok (.goto (-44), 3) := by decide +kernel
theorem D_Pr_lineByLast_71 : decode b_Pr_lineByLast 71 = .ok (.iinc 3 1, 3) := by decide +kernel
theorem D_Pr_lineByLast_74 : decode b_Pr_lineByLast 74 = .ok (.goto (-70), 3) := by decide +kernel
theorem D_Pr_lineByLast_77 : decode b_Pr_lineByLast 77 = .ok (.iload_n 2, 1) := by decide +kernel
theorem D_Pr_lineByLast_78 : decode b_Pr_lineByLast 78 = .ok (.ireturn, 1) := by decide +kernel
abbrev rm_Pr_lineByLast : Room := { frames := 1, cells := 0, slots := 0, locals := 21 }
def B_Pr_lineByLast_41 (k4 : Nat → Int32 → Int32 → Int32 → Mem → Prop) (k24 : Nat → Int32 → Int32 → Int32 → Int32 → Mem → Prop) (post : Int32 → Mem → Prop) (a0 : Nat) (x1 : Int32) (x2 : Int32) (x3 : Int32) (x4 : Int32) (s0 : Int32) (s1 : Int32) (M : Mem) : Prop := ((s0 < s1 → (k4 a0 x1 x2 (x3 + 1) M)) ∧ (¬ s0 < s1 → (isK M a0 4 ∧ ∃ q45, gR M a0 2 = some q45 ∧ vp_in x1 12 ∧ T_Pr_place x4 x3 M (fun r58 M58 => isA M58 q45 8 ((fst (Int32.toNatClampNeg x1)) + x2) ∧ k24 a0 x1 (x2 + 1) x3 (x4 + 1) (sI M58 q45 (Int32.toNatClampNeg ((fst (Int32.toNatClampNeg x1)) + x2)) r58)))))
set_option maxRecDepth 20000 in
theorem Z_Pr_lineByLast_41 {x : Ctx} {post : Int32 → Mem → Prop} (C : Ok x b_Pr_lineByLast 5 "HeapTower$Products") (hR : xR x = rm_Pr_lineByLast) (Rt : RetI x .int post 0 0) {k4 : Nat → Int32 → Int32 → Int32 → Mem → Prop} (K4 : ∀ (a0 : Nat) (x1 : Int32) (x2 : Int32) (x3 : Int32) (M : Mem), k4 a0 x1 x2 x3 M → J x 5 4 [(0, .ref (xB x + a0)), (1, .int x1), (2, .int x2), (3, .int x3)] [] 0 0 M) {k24 : Nat → Int32 → Int32 → Int32 → Int32 → Mem → Prop} (K24 : ∀ (a0 : Nat) (x1 : Int32) (x2 : Int32) (x3 : Int32) (x4 : Int32) (M : Mem), k24 a0 x1 x2 x3 x4 M → J x 5 24 [(0, .ref (xB x + a0)), (1, .int x1), (2, .int x2), (3, .int x3), (4, .int x4)] [] 0 0 M) (a0 : Nat) (x1 : Int32) (x2 : Int32) (x3 : Int32) (x4 : Int32) (s0 : Int32) (s1 : Int32) (M : Mem) (h : B_Pr_lineByLast_41 k4 k24 post a0 x1 x2 x3 x4 s0 s1 M) : J x 5 41 [(0, .ref (xB x + a0)), (1, .int x1), (2, .int x2), (3, .int x3), (4, .int x4)] [.int s0, .int s1] 0 0 M := by
  unfold B_Pr_lineByLast_41 at h
  refine J_icmp_gt (tgt := 71) C D_Pr_lineByLast_41 (by decide) (fun c_41 => ?_) (fun c_41 => ?_)
  · have h := h.1 c_41
    refine J_iinc (v := x3 + 1) (lv' := [(3, .int (x3 + 1)), (0, .ref (xB x + a0)), (1, .int x1), (2, .int x2), (4, .int x4)]) C 3 3 D_Pr_lineByLast_71 rfl rfl (by decide) rfl ?_
    refine J_goto (tgt := 4) C D_Pr_lineByLast_74 (by decide) ?_
    exact J_sub [1, 2, 3, 0] rfl (K4 _ _ _ _ _ h)
  · have h := h.2 c_41
    refine J_aload_n C 0 D_Pr_lineByLast_44 rfl rfl ?_
    obtain ⟨c_45, q45, e_45, h⟩ := h
    refine J_getR C fl_Pr_18 D_Pr_lineByLast_45 c_45 e_45 ?_
    refine J_first C (by decide) D_Pr_lineByLast_48 ?_
    refine J_iload_n C 1 D_Pr_lineByLast_51 rfl rfl ?_
    obtain ⟨c_52, h⟩ := h
    refine J_fald C D_Pr_lineByLast_52 c_52 ?_
    refine J_iload_n C 2 D_Pr_lineByLast_53 rfl rfl ?_
    refine J_iadd C D_Pr_lineByLast_54 ?_
    refine J_iload C 4 D_Pr_lineByLast_55 rfl ?_
    refine J_iload_n C 3 D_Pr_lineByLast_57 rfl rfl ?_
    refine J_callSi C ml_Pr_24 (S_Pr_place _ _ _ _ h) (by rw [hR]; decide) rfl rfl (Nat.le_of_ble_eq_true rfl) D_Pr_lineByLast_58 (fun r58 M58 h => ?_)
    obtain ⟨c_61, h⟩ := h
    refine J_iast C D_Pr_lineByLast_61 c_61 ?_
    refine J_iinc (v := x2 + 1) (lv' := [(2, .int (x2 + 1)), (0, .ref (xB x + a0)), (1, .int x1), (3, .int x3), (4, .int x4)]) C 2 2 D_Pr_lineByLast_62 rfl rfl (by decide) rfl ?_
    refine J_iinc (v := x4 + 1) (lv' := [(4, .int (x4 + 1)), (2, .int (x2 + 1)), (0, .ref (xB x + a0)), (1, .int x1), (3, .int x3)]) C 4 4 D_Pr_lineByLast_65 rfl rfl (by decide) rfl ?_
    refine J_goto (tgt := 24) C D_Pr_lineByLast_68 (by decide) ?_
    exact J_sub [2, 3, 1, 4, 0] rfl (K24 _ _ _ _ _ _ h)
def B_Pr_lineByLast_24 (k4 : Nat → Int32 → Int32 → Int32 → Mem → Prop) (k24 : Nat → Int32 → Int32 → Int32 → Int32 → Mem → Prop) (post : Int32 → Mem → Prop) (a0 : Nat) (x1 : Int32) (x2 : Int32) (x3 : Int32) (x4 : Int32) (M : Mem) : Prop := (isK M a0 4 ∧ ((gI M a0 4) ≤ 1 → (B_Pr_lineByLast_41 k4 k24 post a0 x1 x2 x3 x4 0 x4 M)) ∧ (¬ (gI M a0 4) ≤ 1 → (B_Pr_lineByLast_41 k4 k24 post a0 x1 x2 x3 x4 (x1 - x3) x4 M)))
set_option maxRecDepth 20000 in
theorem Z_Pr_lineByLast_24 {x : Ctx} {post : Int32 → Mem → Prop} (C : Ok x b_Pr_lineByLast 5 "HeapTower$Products") (hR : xR x = rm_Pr_lineByLast) (Rt : RetI x .int post 0 0) {k4 : Nat → Int32 → Int32 → Int32 → Mem → Prop} (K4 : ∀ (a0 : Nat) (x1 : Int32) (x2 : Int32) (x3 : Int32) (M : Mem), k4 a0 x1 x2 x3 M → J x 5 4 [(0, .ref (xB x + a0)), (1, .int x1), (2, .int x2), (3, .int x3)] [] 0 0 M) {k24 : Nat → Int32 → Int32 → Int32 → Int32 → Mem → Prop} (K24 : ∀ (a0 : Nat) (x1 : Int32) (x2 : Int32) (x3 : Int32) (x4 : Int32) (M : Mem), k24 a0 x1 x2 x3 x4 M → J x 5 24 [(0, .ref (xB x + a0)), (1, .int x1), (2, .int x2), (3, .int x3), (4, .int x4)] [] 0 0 M) (a0 : Nat) (x1 : Int32) (x2 : Int32) (x3 : Int32) (x4 : Int32) (M : Mem) (h : B_Pr_lineByLast_24 k4 k24 post a0 x1 x2 x3 x4 M) : J x 5 24 [(0, .ref (xB x + a0)), (1, .int x1), (2, .int x2), (3, .int x3), (4, .int x4)] [] 0 0 M := by
  unfold B_Pr_lineByLast_24 at h
  refine J_iload C 4 D_Pr_lineByLast_24 rfl ?_
  refine J_aload_n C 0 D_Pr_lineByLast_26 rfl rfl ?_
  obtain ⟨c_27, h⟩ := h
  refine J_getI C fl_Pr_32 D_Pr_lineByLast_27 c_27 ?_
  refine J_iconst (v := 1) C D_Pr_lineByLast_30 rfl ?_
  refine J_icmp_le (tgt := 40) C D_Pr_lineByLast_31 (by decide) (fun c_31 => ?_) (fun c_31 => ?_)
  · have h := h.1 c_31
    refine J_iconst (v := 0) C D_Pr_lineByLast_40 rfl ?_
    exact J_sub [0, 1, 2, 3, 4] rfl (Z_Pr_lineByLast_41 C hR Rt K4 K24 _ _ _ _ _ _ _ _ h)
  · have h := h.2 c_31
    refine J_iload_n C 1 D_Pr_lineByLast_34 rfl rfl ?_
    refine J_iload_n C 3 D_Pr_lineByLast_35 rfl rfl ?_
    refine J_isub C D_Pr_lineByLast_36 ?_
    refine J_goto (tgt := 41) C D_Pr_lineByLast_37 (by decide) ?_
    exact J_sub [0, 1, 2, 3, 4] rfl (Z_Pr_lineByLast_41 C hR Rt K4 K24 _ _ _ _ _ _ _ _ h)
def L_Pr_lineByLast_24 (k4 : Nat → Int32 → Int32 → Int32 → Mem → Prop) (post : Int32 → Mem → Prop) : Nat → Nat → Int32 → Int32 → Int32 → Int32 → Mem → Prop
  | 0, _, _, _, _, _, _ => False
  | n + 1, a0, x1, x2, x3, x4, M => B_Pr_lineByLast_24 k4 (L_Pr_lineByLast_24 k4 post n) post a0 x1 x2 x3 x4 M
theorem Y_Pr_lineByLast_24 {x : Ctx} {post : Int32 → Mem → Prop} (C : Ok x b_Pr_lineByLast 5 "HeapTower$Products") (hR : xR x = rm_Pr_lineByLast) (Rt : RetI x .int post 0 0) {k4 : Nat → Int32 → Int32 → Int32 → Mem → Prop} (K4 : ∀ (a0 : Nat) (x1 : Int32) (x2 : Int32) (x3 : Int32) (M : Mem), k4 a0 x1 x2 x3 M → J x 5 4 [(0, .ref (xB x + a0)), (1, .int x1), (2, .int x2), (3, .int x3)] [] 0 0 M) : ∀ (n : Nat) (a0 : Nat) (x1 : Int32) (x2 : Int32) (x3 : Int32) (x4 : Int32) (M : Mem), L_Pr_lineByLast_24 k4 post n a0 x1 x2 x3 x4 M → J x 5 24 [(0, .ref (xB x + a0)), (1, .int x1), (2, .int x2), (3, .int x3), (4, .int x4)] [] 0 0 M := by
  intro n
  induction n with
  | zero => intro a0 x1 x2 x3 x4 M h; exact h.elim
  | succ n ih => intro a0 x1 x2 x3 x4 M h; exact Z_Pr_lineByLast_24 C hR Rt K4 ih _ _ _ _ _ _ h
def B_Pr_lineByLast_18 (k4 : Nat → Int32 → Int32 → Int32 → Mem → Prop) (post : Int32 → Mem → Prop) (a0 : Nat) (x1 : Int32) (x2 : Int32) (x3 : Int32) (s0 : Int32) (s1 : Int32) (M : Mem) : Prop := ((s0 < s1 → (post x2 M)) ∧ (¬ s0 < s1 → (∃ n, L_Pr_lineByLast_24 k4 post n a0 x1 x2 x3 0 M)))
set_option maxRecDepth 20000 in
theorem Z_Pr_lineByLast_18 {x : Ctx} {post : Int32 → Mem → Prop} (C : Ok x b_Pr_lineByLast 5 "HeapTower$Products") (hR : xR x = rm_Pr_lineByLast) (Rt : RetI x .int post 0 0) {k4 : Nat → Int32 → Int32 → Int32 → Mem → Prop} (K4 : ∀ (a0 : Nat) (x1 : Int32) (x2 : Int32) (x3 : Int32) (M : Mem), k4 a0 x1 x2 x3 M → J x 5 4 [(0, .ref (xB x + a0)), (1, .int x1), (2, .int x2), (3, .int x3)] [] 0 0 M) (a0 : Nat) (x1 : Int32) (x2 : Int32) (x3 : Int32) (s0 : Int32) (s1 : Int32) (M : Mem) (h : B_Pr_lineByLast_18 k4 post a0 x1 x2 x3 s0 s1 M) : J x 5 18 [(0, .ref (xB x + a0)), (1, .int x1), (2, .int x2), (3, .int x3)] [.int s0, .int s1] 0 0 M := by
  unfold B_Pr_lineByLast_18 at h
  refine J_icmp_gt (tgt := 77) C D_Pr_lineByLast_18 (by decide) (fun c_18 => ?_) (fun c_18 => ?_)
  · have h := h.1 c_18
    refine J_iload_n C 2 D_Pr_lineByLast_77 rfl rfl ?_
    exact J_iret C Rt D_Pr_lineByLast_78 rfl h
  · have h := h.2 c_18
    refine J_iconst (v := 0) C D_Pr_lineByLast_21 rfl ?_
    refine J_istore (lv' := [(4, .int 0), (0, .ref (xB x + a0)), (1, .int x1), (2, .int x2), (3, .int x3)]) C 4 D_Pr_lineByLast_22 (by decide) rfl ?_
    obtain ⟨n, h⟩ := h
    exact J_sub [1, 2, 3, 4, 0] rfl (Y_Pr_lineByLast_24 C hR Rt K4 n _ _ _ _ _ _ h)
def B_Pr_lineByLast_4 (k4 : Nat → Int32 → Int32 → Int32 → Mem → Prop) (post : Int32 → Mem → Prop) (a0 : Nat) (x1 : Int32) (x2 : Int32) (x3 : Int32) (M : Mem) : Prop := (isK M a0 4 ∧ ((gI M a0 4) ≤ 2 → (B_Pr_lineByLast_18 k4 post a0 x1 x2 x3 0 x3 M)) ∧ (¬ (gI M a0 4) ≤ 2 → (B_Pr_lineByLast_18 k4 post a0 x1 x2 x3 x1 x3 M)))
set_option maxRecDepth 20000 in
theorem Z_Pr_lineByLast_4 {x : Ctx} {post : Int32 → Mem → Prop} (C : Ok x b_Pr_lineByLast 5 "HeapTower$Products") (hR : xR x = rm_Pr_lineByLast) (Rt : RetI x .int post 0 0) {k4 : Nat → Int32 → Int32 → Int32 → Mem → Prop} (K4 : ∀ (a0 : Nat) (x1 : Int32) (x2 : Int32) (x3 : Int32) (M : Mem), k4 a0 x1 x2 x3 M → J x 5 4 [(0, .ref (xB x + a0)), (1, .int x1), (2, .int x2), (3, .int x3)] [] 0 0 M) (a0 : Nat) (x1 : Int32) (x2 : Int32) (x3 : Int32) (M : Mem) (h : B_Pr_lineByLast_4 k4 post a0 x1 x2 x3 M) : J x 5 4 [(0, .ref (xB x + a0)), (1, .int x1), (2, .int x2), (3, .int x3)] [] 0 0 M := by
  unfold B_Pr_lineByLast_4 at h
  refine J_iload_n C 3 D_Pr_lineByLast_4 rfl rfl ?_
  refine J_aload_n C 0 D_Pr_lineByLast_5 rfl rfl ?_
  obtain ⟨c_6, h⟩ := h
  refine J_getI C fl_Pr_32 D_Pr_lineByLast_6 c_6 ?_
  refine J_iconst (v := 2) C D_Pr_lineByLast_9 rfl ?_
  refine J_icmp_le (tgt := 17) C D_Pr_lineByLast_10 (by decide) (fun c_10 => ?_) (fun c_10 => ?_)
  · have h := h.1 c_10
    refine J_iconst (v := 0) C D_Pr_lineByLast_17 rfl ?_
    exact J_sub [0, 1, 2, 3] rfl (Z_Pr_lineByLast_18 C hR Rt K4 _ _ _ _ _ _ _ h)
  · have h := h.2 c_10
    refine J_iload_n C 1 D_Pr_lineByLast_13 rfl rfl ?_
    refine J_goto (tgt := 18) C D_Pr_lineByLast_14 (by decide) ?_
    exact J_sub [0, 1, 2, 3] rfl (Z_Pr_lineByLast_18 C hR Rt K4 _ _ _ _ _ _ _ h)
def L_Pr_lineByLast_4 (post : Int32 → Mem → Prop) : Nat → Nat → Int32 → Int32 → Int32 → Mem → Prop
  | 0, _, _, _, _, _ => False
  | n + 1, a0, x1, x2, x3, M => B_Pr_lineByLast_4 (L_Pr_lineByLast_4 post n) post a0 x1 x2 x3 M
theorem Y_Pr_lineByLast_4 {x : Ctx} {post : Int32 → Mem → Prop} (C : Ok x b_Pr_lineByLast 5 "HeapTower$Products") (hR : xR x = rm_Pr_lineByLast) (Rt : RetI x .int post 0 0) : ∀ (n : Nat) (a0 : Nat) (x1 : Int32) (x2 : Int32) (x3 : Int32) (M : Mem), L_Pr_lineByLast_4 post n a0 x1 x2 x3 M → J x 5 4 [(0, .ref (xB x + a0)), (1, .int x1), (2, .int x2), (3, .int x3)] [] 0 0 M := by
  intro n
  induction n with
  | zero => intro a0 x1 x2 x3 M h; exact h.elim
  | succ n ih => intro a0 x1 x2 x3 M h; exact Z_Pr_lineByLast_4 C hR Rt ih _ _ _ _ _ h
def T_Pr_lineByLast (a0 : Nat) (x1 : Int32) (M : Mem) (post : Int32 → Mem → Prop) : Prop := (∃ n, L_Pr_lineByLast_4 post n a0 x1 0 0 M)
set_option maxRecDepth 20000 in
theorem S_Pr_lineByLast {l : Launch} {D : va_G} {B t : Nat} {ac : Nat → ClassId} (a0 : Nat) (x1 : Int32) (M : Mem) (post : Int32 → Mem → Prop) (h : T_Pr_lineByLast a0 x1 M post) : Met l y_Pr_lineByLast w_Pr_lineByLast rm_Pr_lineByLast (va_Pc [.ref (B + a0), .int x1] (PRE D B t ac M)) (QI D B ac post) 0 0 (AB B) := by
  refine met_i (by decide +kernel) (Nat.le_of_ble_eq_true rfl) (fun x h1 hR h3 h4 h5 h6 C Rt => ?_)
  subst h3 h4 h5 h6
  unfold T_Pr_lineByLast at h
  show J x 5 0 [(0, .ref (xB x + a0)), (1, .int x1)] [] 0 0 M
  refine J_iconst (v := 0) C D_Pr_lineByLast_0 rfl ?_
  refine J_istore_n (lv' := [(2, .int 0), (0, .ref (xB x + a0)), (1, .int x1)]) C 2 D_Pr_lineByLast_1 rfl (by decide) rfl ?_
  refine J_iconst (v := 0) C D_Pr_lineByLast_2 rfl ?_
  refine J_istore_n (lv' := [(3, .int 0), (2, .int 0), (0, .ref (xB x + a0)), (1, .int x1)]) C 3 D_Pr_lineByLast_3 rfl (by decide) rfl ?_
  obtain ⟨n, h⟩ := h
  exact J_sub [2, 3, 1, 0] rfl (Y_Pr_lineByLast_4 C hR Rt  n _ _ _ _ _ h)
theorem D_Pr_lineByFirst_0 : decode b_Pr_lineByFirst 0 = .ok (.iconst 0, 1) := by decide +kernel
theorem D_Pr_lineByFirst_1 : decode b_Pr_lineByFirst 1 = .ok (.istore_n 2, 1) := by decide +kernel
theorem D_Pr_lineByFirst_2 : decode b_Pr_lineByFirst 2 = .ok (.iconst 0, 1) := by decide +kernel
theorem D_Pr_lineByFirst_3 : decode b_Pr_lineByFirst 3 = .ok (.istore_n 3, 1) := by decide +kernel
theorem D_Pr_lineByFirst_4 : decode b_Pr_lineByFirst 4 = .ok (.iload_n 3, 1) := by decide +kernel
theorem D_Pr_lineByFirst_5 : decode b_Pr_lineByFirst 5 = .ok (.aload_n 0, 1) := by decide +kernel
theorem D_Pr_lineByFirst_6 : decode b_Pr_lineByFirst 6 = .ok (.getfield 32, 3) := by decide +kernel
theorem D_Pr_lineByFirst_9 : decode b_Pr_lineByFirst 9 = .ok (.iconst 1, 1) := by decide +kernel
theorem D_Pr_lineByFirst_10 : decode b_Pr_lineByFirst 10 = .ok (.if_icmp .le 7, 3) := by decide +kernel
theorem D_Pr_lineByFirst_13 : decode b_Pr_lineByFirst 13 = .ok (.iload_n 1, 1) := by decide +kernel
theorem D_Pr_lineByFirst_14 : decode b_Pr_lineByFirst 14 = .ok (.goto 4, 3) := by decide +kernel
theorem D_Pr_lineByFirst_17 : decode b_Pr_lineByFirst 17 = .ok (.iconst 0, 1) := by decide +kernel
theorem D_Pr_lineByFirst_18 : decode b_Pr_lineByFirst 18 = .ok (.if_icmp .gt 60, 3) := by decide +kernel
theorem D_Pr_lineByFirst_21 : decode b_Pr_lineByFirst 21 = .ok (.iconst 0, 1) := by decide +kernel
theorem D_Pr_lineByFirst_22 : decode b_Pr_lineByFirst 22 = .ok (.istore 4, 2) := by decide +kernel
theorem D_Pr_lineByFirst_24 : decode b_Pr_lineByFirst 24 = .ok (.iload 4, 2) := by decide +kernel
theorem D_Pr_lineByFirst_26 : decode b_Pr_lineByFirst 26 = .ok (.aload_n 0, 1) := by decide +kernel
theorem D_Pr_lineByFirst_27 : decode b_Pr_lineByFirst 27 = .ok (.getfield 32, 3) := by decide +kernel
theorem D_Pr_lineByFirst_30 : decode b_Pr_lineByFirst 30 = .ok (.iconst 2, 1) := by decide +kernel
theorem D_Pr_lineByFirst_31 : decode b_Pr_lineByFirst 31 = .ok (.if_icmp .le 7, 3) := by decide +kernel
theorem D_Pr_lineByFirst_34 : decode b_Pr_lineByFirst 34 = .ok (.iload_n 3, 1) := by decide +kernel
theorem D_Pr_lineByFirst_35 : decode b_Pr_lineByFirst 35 = .ok (.goto 4, 3) := by decide +kernel
theorem D_Pr_lineByFirst_38 : decode b_Pr_lineByFirst 38 = .ok (.iconst 0, 1) := by decide +kernel
theorem D_Pr_lineByFirst_39 : decode b_Pr_lineByFirst 39 = .ok (.if_icmp .gt 33, 3) := by decide +kernel
theorem D_Pr_lineByFirst_42 : decode b_Pr_lineByFirst 42 = .ok (.aload_n 0, 1) := by decide +kernel
theorem D_Pr_lineByFirst_43 : decode b_Pr_lineByFirst 43 = .ok (.getfield 18, 3) := by decide +kernel
theorem D_Pr_lineByFirst_46 : decode b_Pr_lineByFirst 46 = .ok (.getstatic 46, 3) := by decide +kernel
theorem D_Pr_lineByFirst_49 : decode b_Pr_lineByFirst 49 = .ok (.iload_n 1, 1) := by decide +kernel
theorem D_Pr_lineByFirst_50 : decode b_Pr_lineByFirst 50 = .ok (.iaload, 1) := by decide +kernel
theorem D_Pr_lineByFirst_51 : decode b_Pr_lineByFirst 51 = .ok (.iload_n 2, 1) := by decide +kernel
theorem D_Pr_lineByFirst_52 : decode b_Pr_lineByFirst 52 = .ok (.iadd, 1) := by decide +kernel
theorem D_Pr_lineByFirst_53 : decode b_Pr_lineByFirst 53 = .ok (.iload_n 3, 1) := by decide +kernel
theorem D_Pr_lineByFirst_54 : decode b_Pr_lineByFirst 54 = .ok (.iload 4, 2) := by decide +kernel
theorem D_Pr_lineByFirst_56 : decode b_Pr_lineByFirst 56 = .ok (.isub, 1) := by decide +kernel
theorem D_Pr_lineByFirst_57 : decode b_Pr_lineByFirst 57 = .ok (.iload 4, 2) := by decide +kernel
theorem D_Pr_lineByFirst_59 : decode b_Pr_lineByFirst 59 = .ok (.invokestatic 24, 3) := by decide +kernel
theorem D_Pr_lineByFirst_62 : decode b_Pr_lineByFirst 62 = .ok (.iastore, 1) := by decide +kernel
theorem D_Pr_lineByFirst_63 : decode b_Pr_lineByFirst 63 = .ok (.iinc 2 1, 3) := by decide +kernel
theorem D_Pr_lineByFirst_66 : decode b_Pr_lineByFirst 66 = .ok (.iinc 4 1, 3) := by decide +kernel
theorem D_Pr_lineByFirst_69 : decode b_Pr_lineByFirst 69 = .ok (.goto (-45), 3) := by decide +kernel
theorem D_Pr_lineByFirst_72 : decode b_Pr_lineByFirst 72 = .ok (.iinc 3 1, 3) := by decide +kernel
theorem D_Pr_lineByFirst_75 : decode b_Pr_lineByFirst 75 = .ok (.goto (-71), 3) := by decide +kernel
theorem D_Pr_lineByFirst_78 : decode b_Pr_lineByFirst 78 = .ok (.iload_n 2, 1) := by decide +kernel
theorem D_Pr_lineByFirst_79 : decode b_Pr_lineByFirst 79 = .ok (.ireturn, 1) := by decide +kernel
abbrev rm_Pr_lineByFirst : Room := { frames := 1, cells := 0, slots := 0, locals := 21 }
def B_Pr_lineByFirst_39 (k4 : Nat → Int32 → Int32 → Int32 → Mem → Prop) (k24 : Nat → Int32 → Int32 → Int32 → Int32 → Mem → Prop) (post : Int32 → Mem → Prop) (a0 : Nat) (x1 : Int32) (x2 : Int32) (x3 : Int32) (x4 : Int32) (s0 : Int32) (s1 : Int32) (M : Mem) : Prop := ((s0 < s1 → (k4 a0 x1 x2 (x3 + 1) M)) ∧ (¬ s0 < s1 → (isK M a0 4 ∧ ∃ q43, gR M a0 2 = some q43 ∧ vp_in x1 12 ∧ T_Pr_place (x3 - x4) x4 M (fun r59 M59 => isA M59 q43 8 ((fst (Int32.toNatClampNeg x1)) + x2) ∧ k24 a0 x1 (x2 + 1) x3 (x4 + 1) (sI M59 q43 (Int32.toNatClampNeg ((fst (Int32.toNatClampNeg x1)) + x2)) r59)))))
set_option maxRecDepth 20000 in
theorem Z_Pr_lineByFirst_39 {x : Ctx} {post : Int32 → Mem → Prop} (C : Ok x b_Pr_lineByFirst 5 "HeapTower$Products") (hR : xR x = rm_Pr_lineByFirst) (Rt : RetI x .int post 0 0) {k4 : Nat → Int32 → Int32 → Int32 → Mem → Prop} (K4 : ∀ (a0 : Nat) (x1 : Int32) (x2 : Int32) (x3 : Int32) (M : Mem), k4 a0 x1 x2 x3 M → J x 5 4 [(0, .ref (xB x + a0)), (1, .int x1), (2, .int x2), (3, .int x3)] [] 0 0 M) {k24 : Nat → Int32 → Int32 → Int32 → Int32 → Mem → Prop} (K24 : ∀ (a0 : Nat) (x1 : Int32) (x2 : Int32) (x3 : Int32) (x4 : Int32) (M : Mem), k24 a0 x1 x2 x3 x4 M → J x 5 24 [(0, .ref (xB x + a0)), (1, .int x1), (2, .int x2), (3, .int x3), (4, .int x4)] [] 0 0 M) (a0 : Nat) (x1 : Int32) (x2 : Int32) (x3 : Int32) (x4 : Int32) (s0 : Int32) (s1 : Int32) (M : Mem) (h : B_Pr_lineByFirst_39 k4 k24 post a0 x1 x2 x3 x4 s0 s1 M) : J x 5 39 [(0, .ref (xB x + a0)), (1, .int x1), (2, .int x2), (3, .int x3), (4, .int x4)] [.int s0, .int s1] 0 0 M := by
  unfold B_Pr_lineByFirst_39 at h
  refine J_icmp_gt (tgt := 72) C D_Pr_lineByFirst_39 (by decide) (fun c_39 => ?_) (fun c_39 => ?_)
  · have h := h.1 c_39
    refine J_iinc (v := x3 + 1) (lv' := [(3, .int (x3 + 1)), (0, .ref (xB x + a0)), (1, .int x1), (2, .int x2), (4, .int x4)]) C 3 3 D_Pr_lineByFirst_72 rfl rfl (by decide) rfl ?_
    refine J_goto (tgt := 4) C D_Pr_lineByFirst_75 (by decide) ?_
    exact J_sub [1, 2, 3, 0] rfl (K4 _ _ _ _ _ h)
  · have h := h.2 c_39
    refine J_aload_n C 0 D_Pr_lineByFirst_42 rfl rfl ?_
    obtain ⟨c_43, q43, e_43, h⟩ := h
    refine J_getR C fl_Pr_18 D_Pr_lineByFirst_43 c_43 e_43 ?_
    refine J_first C (by decide) D_Pr_lineByFirst_46 ?_
    refine J_iload_n C 1 D_Pr_lineByFirst_49 rfl rfl ?_
    obtain ⟨c_50, h⟩ := h
    refine J_fald C D_Pr_lineByFirst_50 c_50 ?_
    refine J_iload_n C 2 D_Pr_lineByFirst_51 rfl rfl ?_
    refine J_iadd C D_Pr_lineByFirst_52 ?_
    refine J_iload_n C 3 D_Pr_lineByFirst_53 rfl rfl ?_
    refine J_iload C 4 D_Pr_lineByFirst_54 rfl ?_
    refine J_isub C D_Pr_lineByFirst_56 ?_
    refine J_iload C 4 D_Pr_lineByFirst_57 rfl ?_
    refine J_callSi C ml_Pr_24 (S_Pr_place _ _ _ _ h) (by rw [hR]; decide) rfl rfl (Nat.le_of_ble_eq_true rfl) D_Pr_lineByFirst_59 (fun r59 M59 h => ?_)
    obtain ⟨c_62, h⟩ := h
    refine J_iast C D_Pr_lineByFirst_62 c_62 ?_
    refine J_iinc (v := x2 + 1) (lv' := [(2, .int (x2 + 1)), (0, .ref (xB x + a0)), (1, .int x1), (3, .int x3), (4, .int x4)]) C 2 2 D_Pr_lineByFirst_63 rfl rfl (by decide) rfl ?_
    refine J_iinc (v := x4 + 1) (lv' := [(4, .int (x4 + 1)), (2, .int (x2 + 1)), (0, .ref (xB x + a0)), (1, .int x1), (3, .int x3)]) C 4 4 D_Pr_lineByFirst_66 rfl rfl (by decide) rfl ?_
    refine J_goto (tgt := 24) C D_Pr_lineByFirst_69 (by decide) ?_
    exact J_sub [2, 3, 1, 4, 0] rfl (K24 _ _ _ _ _ _ h)
def B_Pr_lineByFirst_24 (k4 : Nat → Int32 → Int32 → Int32 → Mem → Prop) (k24 : Nat → Int32 → Int32 → Int32 → Int32 → Mem → Prop) (post : Int32 → Mem → Prop) (a0 : Nat) (x1 : Int32) (x2 : Int32) (x3 : Int32) (x4 : Int32) (M : Mem) : Prop := (isK M a0 4 ∧ ((gI M a0 4) ≤ 2 → (B_Pr_lineByFirst_39 k4 k24 post a0 x1 x2 x3 x4 0 x4 M)) ∧ (¬ (gI M a0 4) ≤ 2 → (B_Pr_lineByFirst_39 k4 k24 post a0 x1 x2 x3 x4 x3 x4 M)))
set_option maxRecDepth 20000 in
theorem Z_Pr_lineByFirst_24 {x : Ctx} {post : Int32 → Mem → Prop} (C : Ok x b_Pr_lineByFirst 5 "HeapTower$Products") (hR : xR x = rm_Pr_lineByFirst) (Rt : RetI x .int post 0 0) {k4 : Nat → Int32 → Int32 → Int32 → Mem → Prop} (K4 : ∀ (a0 : Nat) (x1 : Int32) (x2 : Int32) (x3 : Int32) (M : Mem), k4 a0 x1 x2 x3 M → J x 5 4 [(0, .ref (xB x + a0)), (1, .int x1), (2, .int x2), (3, .int x3)] [] 0 0 M) {k24 : Nat → Int32 → Int32 → Int32 → Int32 → Mem → Prop} (K24 : ∀ (a0 : Nat) (x1 : Int32) (x2 : Int32) (x3 : Int32) (x4 : Int32) (M : Mem), k24 a0 x1 x2 x3 x4 M → J x 5 24 [(0, .ref (xB x + a0)), (1, .int x1), (2, .int x2), (3, .int x3), (4, .int x4)] [] 0 0 M) (a0 : Nat) (x1 : Int32) (x2 : Int32) (x3 : Int32) (x4 : Int32) (M : Mem) (h : B_Pr_lineByFirst_24 k4 k24 post a0 x1 x2 x3 x4 M) : J x 5 24 [(0, .ref (xB x + a0)), (1, .int x1), (2, .int x2), (3, .int x3), (4, .int x4)] [] 0 0 M := by
  unfold B_Pr_lineByFirst_24 at h
  refine J_iload C 4 D_Pr_lineByFirst_24 rfl ?_
  refine J_aload_n C 0 D_Pr_lineByFirst_26 rfl rfl ?_
  obtain ⟨c_27, h⟩ := h
  refine J_getI C fl_Pr_32 D_Pr_lineByFirst_27 c_27 ?_
  refine J_iconst (v := 2) C D_Pr_lineByFirst_30 rfl ?_
  refine J_icmp_le (tgt := 38) C D_Pr_lineByFirst_31 (by decide) (fun c_31 => ?_) (fun c_31 => ?_)
  · have h := h.1 c_31
    refine J_iconst (v := 0) C D_Pr_lineByFirst_38 rfl ?_
    exact J_sub [0, 1, 2, 3, 4] rfl (Z_Pr_lineByFirst_39 C hR Rt K4 K24 _ _ _ _ _ _ _ _ h)
  · have h := h.2 c_31
    refine J_iload_n C 3 D_Pr_lineByFirst_34 rfl rfl ?_
    refine J_goto (tgt := 39) C D_Pr_lineByFirst_35 (by decide) ?_
    exact J_sub [0, 1, 2, 3, 4] rfl (Z_Pr_lineByFirst_39 C hR Rt K4 K24 _ _ _ _ _ _ _ _ h)
def L_Pr_lineByFirst_24 (k4 : Nat → Int32 → Int32 → Int32 → Mem → Prop) (post : Int32 → Mem → Prop) : Nat → Nat → Int32 → Int32 → Int32 → Int32 → Mem → Prop
  | 0, _, _, _, _, _, _ => False
  | n + 1, a0, x1, x2, x3, x4, M => B_Pr_lineByFirst_24 k4 (L_Pr_lineByFirst_24 k4 post n) post a0 x1 x2 x3 x4 M
theorem Y_Pr_lineByFirst_24 {x : Ctx} {post : Int32 → Mem → Prop} (C : Ok x b_Pr_lineByFirst 5 "HeapTower$Products") (hR : xR x = rm_Pr_lineByFirst) (Rt : RetI x .int post 0 0) {k4 : Nat → Int32 → Int32 → Int32 → Mem → Prop} (K4 : ∀ (a0 : Nat) (x1 : Int32) (x2 : Int32) (x3 : Int32) (M : Mem), k4 a0 x1 x2 x3 M → J x 5 4 [(0, .ref (xB x + a0)), (1, .int x1), (2, .int x2), (3, .int x3)] [] 0 0 M) : ∀ (n : Nat) (a0 : Nat) (x1 : Int32) (x2 : Int32) (x3 : Int32) (x4 : Int32) (M : Mem), L_Pr_lineByFirst_24 k4 post n a0 x1 x2 x3 x4 M → J x 5 24 [(0, .ref (xB x + a0)), (1, .int x1), (2, .int x2), (3, .int x3), (4, .int x4)] [] 0 0 M := by
  intro n
  induction n with
  | zero => intro a0 x1 x2 x3 x4 M h; exact h.elim
  | succ n ih => intro a0 x1 x2 x3 x4 M h; exact Z_Pr_lineByFirst_24 C hR Rt K4 ih _ _ _ _ _ _ h
def B_Pr_lineByFirst_18 (k4 : Nat → Int32 → Int32 → Int32 → Mem → Prop) (post : Int32 → Mem → Prop) (a0 : Nat) (x1 : Int32) (x2 : Int32) (x3 : Int32) (s0 : Int32) (s1 : Int32) (M : Mem) : Prop := ((s0 < s1 → (post x2 M)) ∧ (¬ s0 < s1 → (∃ n, L_Pr_lineByFirst_24 k4 post n a0 x1 x2 x3 0 M)))
set_option maxRecDepth 20000 in
theorem Z_Pr_lineByFirst_18 {x : Ctx} {post : Int32 → Mem → Prop} (C : Ok x b_Pr_lineByFirst 5 "HeapTower$Products") (hR : xR x = rm_Pr_lineByFirst) (Rt : RetI x .int post 0 0) {k4 : Nat → Int32 → Int32 → Int32 → Mem → Prop} (K4 : ∀ (a0 : Nat) (x1 : Int32) (x2 : Int32) (x3 : Int32) (M : Mem), k4 a0 x1 x2 x3 M → J x 5 4 [(0, .ref (xB x + a0)), (1, .int x1), (2, .int x2), (3, .int x3)] [] 0 0 M) (a0 : Nat) (x1 : Int32) (x2 : Int32) (x3 : Int32) (s0 : Int32) (s1 : Int32) (M : Mem) (h : B_Pr_lineByFirst_18 k4 post a0 x1 x2 x3 s0 s1 M) : J x 5 18 [(0, .ref (xB x + a0)), (1, .int x1), (2, .int x2), (3, .int x3)] [.int s0, .int s1] 0 0 M := by
  unfold B_Pr_lineByFirst_18 at h
  refine J_icmp_gt (tgt := 78) C D_Pr_lineByFirst_18 (by decide) (fun c_18 => ?_) (fun c_18 => ?_)
  · have h := h.1 c_18
    refine J_iload_n C 2 D_Pr_lineByFirst_78 rfl rfl ?_
    exact J_iret C Rt D_Pr_lineByFirst_79 rfl h
  · have h := h.2 c_18
    refine J_iconst (v := 0) C D_Pr_lineByFirst_21 rfl ?_
    refine J_istore (lv' := [(4, .int 0), (0, .ref (xB x + a0)), (1, .int x1), (2, .int x2), (3, .int x3)]) C 4 D_Pr_lineByFirst_22 (by decide) rfl ?_
    obtain ⟨n, h⟩ := h
    exact J_sub [1, 2, 3, 4, 0] rfl (Y_Pr_lineByFirst_24 C hR Rt K4 n _ _ _ _ _ _ h)
def B_Pr_lineByFirst_4 (k4 : Nat → Int32 → Int32 → Int32 → Mem → Prop) (post : Int32 → Mem → Prop) (a0 : Nat) (x1 : Int32) (x2 : Int32) (x3 : Int32) (M : Mem) : Prop := (isK M a0 4 ∧ ((gI M a0 4) ≤ 1 → (B_Pr_lineByFirst_18 k4 post a0 x1 x2 x3 0 x3 M)) ∧ (¬ (gI M a0 4) ≤ 1 → (B_Pr_lineByFirst_18 k4 post a0 x1 x2 x3 x1 x3 M)))
set_option maxRecDepth 20000 in
theorem Z_Pr_lineByFirst_4 {x : Ctx} {post : Int32 → Mem → Prop} (C : Ok x b_Pr_lineByFirst 5 "HeapTower$Products") (hR : xR x = rm_Pr_lineByFirst) (Rt : RetI x .int post 0 0) {k4 : Nat → Int32 → Int32 → Int32 → Mem → Prop} (K4 : ∀ (a0 : Nat) (x1 : Int32) (x2 : Int32) (x3 : Int32) (M : Mem), k4 a0 x1 x2 x3 M → J x 5 4 [(0, .ref (xB x + a0)), (1, .int x1), (2, .int x2), (3, .int x3)] [] 0 0 M) (a0 : Nat) (x1 : Int32) (x2 : Int32) (x3 : Int32) (M : Mem) (h : B_Pr_lineByFirst_4 k4 post a0 x1 x2 x3 M) : J x 5 4 [(0, .ref (xB x + a0)), (1, .int x1), (2, .int x2), (3, .int x3)] [] 0 0 M := by
  unfold B_Pr_lineByFirst_4 at h
  refine J_iload_n C 3 D_Pr_lineByFirst_4 rfl rfl ?_
  refine J_aload_n C 0 D_Pr_lineByFirst_5 rfl rfl ?_
  obtain ⟨c_6, h⟩ := h
  refine J_getI C fl_Pr_32 D_Pr_lineByFirst_6 c_6 ?_
  refine J_iconst (v := 1) C D_Pr_lineByFirst_9 rfl ?_
  refine J_icmp_le (tgt := 17) C D_Pr_lineByFirst_10 (by decide) (fun c_10 => ?_) (fun c_10 => ?_)
  · have h := h.1 c_10
    refine J_iconst (v := 0) C D_Pr_lineByFirst_17 rfl ?_
    exact J_sub [0, 1, 2, 3] rfl (Z_Pr_lineByFirst_18 C hR Rt K4 _ _ _ _ _ _ _ h)
  · have h := h.2 c_10
    refine J_iload_n C 1 D_Pr_lineByFirst_13 rfl rfl ?_
    refine J_goto (tgt := 18) C D_Pr_lineByFirst_14 (by decide) ?_
    exact J_sub [0, 1, 2, 3] rfl (Z_Pr_lineByFirst_18 C hR Rt K4 _ _ _ _ _ _ _ h)
def L_Pr_lineByFirst_4 (post : Int32 → Mem → Prop) : Nat → Nat → Int32 → Int32 → Int32 → Mem → Prop
  | 0, _, _, _, _, _ => False
  | n + 1, a0, x1, x2, x3, M => B_Pr_lineByFirst_4 (L_Pr_lineByFirst_4 post n) post a0 x1 x2 x3 M
theorem Y_Pr_lineByFirst_4 {x : Ctx} {post : Int32 → Mem → Prop} (C : Ok x b_Pr_lineByFirst 5 "HeapTower$Products") (hR : xR x = rm_Pr_lineByFirst) (Rt : RetI x .int post 0 0) : ∀ (n : Nat) (a0 : Nat) (x1 : Int32) (x2 : Int32) (x3 : Int32) (M : Mem), L_Pr_lineByFirst_4 post n a0 x1 x2 x3 M → J x 5 4 [(0, .ref (xB x + a0)), (1, .int x1), (2, .int x2), (3, .int x3)] [] 0 0 M := by
  intro n
  induction n with
  | zero => intro a0 x1 x2 x3 M h; exact h.elim
  | succ n ih => intro a0 x1 x2 x3 M h; exact Z_Pr_lineByFirst_4 C hR Rt ih _ _ _ _ _ h
def T_Pr_lineByFirst (a0 : Nat) (x1 : Int32) (M : Mem) (post : Int32 → Mem → Prop) : Prop := (∃ n, L_Pr_lineByFirst_4 post n a0 x1 0 0 M)
set_option maxRecDepth 20000 in
theorem S_Pr_lineByFirst {l : Launch} {D : va_G} {B t : Nat} {ac : Nat → ClassId} (a0 : Nat) (x1 : Int32) (M : Mem) (post : Int32 → Mem → Prop) (h : T_Pr_lineByFirst a0 x1 M post) : Met l y_Pr_lineByFirst w_Pr_lineByFirst rm_Pr_lineByFirst (va_Pc [.ref (B + a0), .int x1] (PRE D B t ac M)) (QI D B ac post) 0 0 (AB B) := by
  refine met_i (by decide +kernel) (Nat.le_of_ble_eq_true rfl) (fun x h1 hR h3 h4 h5 h6 C Rt => ?_)
  subst h3 h4 h5 h6
  unfold T_Pr_lineByFirst at h
  show J x 5 0 [(0, .ref (xB x + a0)), (1, .int x1)] [] 0 0 M
  refine J_iconst (v := 0) C D_Pr_lineByFirst_0 rfl ?_
  refine J_istore_n (lv' := [(2, .int 0), (0, .ref (xB x + a0)), (1, .int x1)]) C 2 D_Pr_lineByFirst_1 rfl (by decide) rfl ?_
  refine J_iconst (v := 0) C D_Pr_lineByFirst_2 rfl ?_
  refine J_istore_n (lv' := [(3, .int 0), (2, .int 0), (0, .ref (xB x + a0)), (1, .int x1)]) C 3 D_Pr_lineByFirst_3 rfl (by decide) rfl ?_
  obtain ⟨n, h⟩ := h
  exact J_sub [2, 3, 1, 0] rfl (Y_Pr_lineByFirst_4 C hR Rt  n _ _ _ _ _ h)
theorem D_Pr_arrange_0 : decode b_Pr_arrange 0 = .ok (.aload_n 0, 1) := by decide +kernel
theorem D_Pr_arrange_1 : decode b_Pr_arrange 1 = .ok (.iload_n 1, 1) := by decide +kernel
theorem D_Pr_arrange_2 : decode b_Pr_arrange 2 = .ok (.putfield 32, 3) := by decide +kernel
theorem D_Pr_arrange_5 : decode b_Pr_arrange 5 = .ok (.aload_n 0, 1) := by decide +kernel
theorem D_Pr_arrange_6 : decode b_Pr_arrange 6 = .ok (.iload_n 2, 1) := by decide +kernel
theorem D_Pr_arrange_7 : decode b_Pr_arrange 7 = .ok (.putfield 36, 3) := by decide +kernel
theorem D_Pr_arrange_10 : decode b_Pr_arrange 10 = .ok (.iconst 0, 1) := by decide +kernel
theorem D_Pr_arrange_11 : decode b_Pr_arrange 11 = .ok (.istore_n 3, 1) := by decide +kernel
theorem D_Pr_arrange_12 : decode b_Pr_arrange 12 = .ok (.iload_n 3, 1) := by decide +kernel
theorem D_Pr_arrange_13 : decode b_Pr_arrange 13 = .ok (.bipush 10, 2) := by decide +kernel
theorem D_Pr_arrange_15 : decode b_Pr_arrange 15 = .ok (.if_icmp .gt 32, 3) := by decide +kernel
theorem D_Pr_arrange_18 : decode b_Pr_arrange 18 = .ok (.aload_n 0, 1) := by decide +kernel
theorem D_Pr_arrange_19 : decode b_Pr_arrange 19 = .ok (.getfield 21, 3) := by decide +kernel
theorem D_Pr_arrange_22 : decode b_Pr_arrange 22 = .ok (.iload_n 3, 1) := by decide +kernel
theorem D_Pr_arrange_23 : decode b_Pr_arrange 23 = .ok (.iload_n 2, 1) := by decide +kernel
theorem D_Pr_arrange_24 : decode b_Pr_arrange 24 = .ok (.ifCond .ne 11, 3) := by decide +kernel
theorem D_Pr_arrange_27 : decode b_Pr_arrange 27 = .ok (.aload_n 0, 1) := by decide +kernel
theorem D_Pr_arrange_28 : decode b_Pr_arrange 28 = .ok (.iload_n 3, 1) := by decide +kernel
theorem D_Pr_arrange_29 : decode b_Pr_arrange 29 = .ok (.invokevirtual 39, 3) := by decide +kernel
theorem D_Pr_arrange_32 : decode b_Pr_arrange 32 = .ok (.goto 8, 3) := by decide +kernel
theorem D_Pr_arrange_35 : decode b_Pr_arrange 35 = .ok (.aload_n 0, 1) := by decide +kernel
theorem D_Pr_arrange_36 : decode b_Pr_arrange 36 = .ok (.iload_n 3, 1) := by decide +kernel
theorem D_Pr_arrange_37 : decode b_Pr_arrange 37 = .ok (.invokevirtual 43, 3) := by decide +kernel
theorem D_Pr_arrange_40 : decode b_Pr_arrange 40 = .ok (.iastore, 1) := by decide +kernel
theorem D_Pr_arrange_41 : decode b_Pr_arrange 41 = .ok (.iinc 3 1, 3) := by decide +kernel
theorem D_Pr_arrange_44 : decode b_Pr_arrange 44 = .ok (.goto (-32), 3) := by decide +kernel
theorem D_Pr_arrange_47 : decode b_Pr_arrange 47 = .ok (.return_, 1) := by decide +kernel
abbrev rm_Pr_arrange : Room := { frames := 2, cells := 0, slots := 0, locals := 45 }
def B_Pr_arrange_40 (k12 : Nat → Int32 → Int32 → Mem → Prop) (post : Mem → Prop) (a0 : Nat) (x2 : Int32) (x3 : Int32) (s0 : Int32) (s1 : Int32) (t2 : Nat) (M : Mem) : Prop := (isA M t2 8 s1 ∧ k12 a0 x2 (x3 + 1) (sI M t2 (Int32.toNatClampNeg s1) s0))
set_option maxRecDepth 20000 in
theorem Z_Pr_arrange_40 {x : Ctx} {post : Mem → Prop} (C : Ok x b_Pr_arrange 4 "HeapTower$Products") (hR : xR x = rm_Pr_arrange) (Rt : RetV x post 0 0) {k12 : Nat → Int32 → Int32 → Mem → Prop} (K12 : ∀ (a0 : Nat) (x2 : Int32) (x3 : Int32) (M : Mem), k12 a0 x2 x3 M → J x 4 12 [(0, .ref (xB x + a0)), (2, .int x2), (3, .int x3)] [] 0 0 M) (a0 : Nat) (x2 : Int32) (x3 : Int32) (s0 : Int32) (s1 : Int32) (t2 : Nat) (M : Mem) (h : B_Pr_arrange_40 k12 post a0 x2 x3 s0 s1 t2 M) : J x 4 40 [(0, .ref (xB x + a0)), (2, .int x2), (3, .int x3)] [.int s0, .int s1, .ref (xB x + t2)] 0 0 M := by
  unfold B_Pr_arrange_40 at h
  obtain ⟨c_40, h⟩ := h
  refine J_iast C D_Pr_arrange_40 c_40 ?_
  refine J_iinc (v := x3 + 1) (lv' := [(3, .int (x3 + 1)), (0, .ref (xB x + a0)), (2, .int x2)]) C 3 2 D_Pr_arrange_41 rfl rfl (by decide) rfl ?_
  refine J_goto (tgt := 12) C D_Pr_arrange_44 (by decide) ?_
  exact J_sub [1, 2, 0] rfl (K12 _ _ _ _ h)
def B_Pr_arrange_12 (k12 : Nat → Int32 → Int32 → Mem → Prop) (post : Mem → Prop) (a0 : Nat) (x2 : Int32) (x3 : Int32) (M : Mem) : Prop := ((10 < x3 → (post M)) ∧ (¬ 10 < x3 → (isK M a0 4 ∧ ∃ q19, gR M a0 3 = some q19 ∧ (¬ x2 = 0 → (isK M a0 4 ∧ T_Pr_lineByFirst a0 x3 M (fun r37 M37 => B_Pr_arrange_40 k12 post a0 x2 x3 r37 x3 q19 M37))) ∧ (x2 = 0 → (isK M a0 4 ∧ T_Pr_lineByLast a0 x3 M (fun r29 M29 => B_Pr_arrange_40 k12 post a0 x2 x3 r29 x3 q19 M29))))))
set_option maxRecDepth 20000 in
theorem Z_Pr_arrange_12 {x : Ctx} {post : Mem → Prop} (C : Ok x b_Pr_arrange 4 "HeapTower$Products") (hR : xR x = rm_Pr_arrange) (Rt : RetV x post 0 0) {k12 : Nat → Int32 → Int32 → Mem → Prop} (K12 : ∀ (a0 : Nat) (x2 : Int32) (x3 : Int32) (M : Mem), k12 a0 x2 x3 M → J x 4 12 [(0, .ref (xB x + a0)), (2, .int x2), (3, .int x3)] [] 0 0 M) (a0 : Nat) (x2 : Int32) (x3 : Int32) (M : Mem) (h : B_Pr_arrange_12 k12 post a0 x2 x3 M) : J x 4 12 [(0, .ref (xB x + a0)), (2, .int x2), (3, .int x3)] [] 0 0 M := by
  unfold B_Pr_arrange_12 at h
  refine J_iload_n C 3 D_Pr_arrange_12 rfl rfl ?_
  refine J_bipush (v := 10) C D_Pr_arrange_13 rfl ?_
  refine J_icmp_gt (tgt := 47) C D_Pr_arrange_15 (by decide) (fun c_15 => ?_) (fun c_15 => ?_)
  · have h := h.1 c_15
    exact J_vret C Rt D_Pr_arrange_47 h
  · have h := h.2 c_15
    refine J_aload_n C 0 D_Pr_arrange_18 rfl rfl ?_
    obtain ⟨c_19, q19, e_19, h⟩ := h
    refine J_getR C fl_Pr_21 D_Pr_arrange_19 c_19 e_19 ?_
    refine J_iload_n C 3 D_Pr_arrange_22 rfl rfl ?_
    refine J_iload_n C 2 D_Pr_arrange_23 rfl rfl ?_
    refine J_if_ne (tgt := 35) C D_Pr_arrange_24 (by decide) (fun c_24 => ?_) (fun c_24 => ?_)
    · have h := h.1 c_24
      refine J_aload_n C 0 D_Pr_arrange_35 rfl rfl ?_
      refine J_iload_n C 3 D_Pr_arrange_36 rfl rfl ?_
      obtain ⟨c_37, h⟩ := h
      refine J_callVi C ml_Pr_43 (S_Pr_lineByFirst _ _ _ _ h) (by rw [hR]; decide) rfl c_37 rfl (Nat.le_of_ble_eq_true rfl) D_Pr_arrange_37 (fun r37 M37 h => ?_)
      exact J_sub [0, 1, 2] rfl (Z_Pr_arrange_40 C hR Rt K12 _ _ _ _ _ _ _ h)
    · have h := h.2 c_24
      refine J_aload_n C 0 D_Pr_arrange_27 rfl rfl ?_
      refine J_iload_n C 3 D_Pr_arrange_28 rfl rfl ?_
      obtain ⟨c_29, h⟩ := h
      refine J_callVi C ml_Pr_39 (S_Pr_lineByLast _ _ _ _ h) (by rw [hR]; decide) rfl c_29 rfl (Nat.le_of_ble_eq_true rfl) D_Pr_arrange_29 (fun r29 M29 h => ?_)
      refine J_goto (tgt := 40) C D_Pr_arrange_32 (by decide) ?_
      exact J_sub [0, 1, 2] rfl (Z_Pr_arrange_40 C hR Rt K12 _ _ _ _ _ _ _ h)
def L_Pr_arrange_12 (post : Mem → Prop) : Nat → Nat → Int32 → Int32 → Mem → Prop
  | 0, _, _, _, _ => False
  | n + 1, a0, x2, x3, M => B_Pr_arrange_12 (L_Pr_arrange_12 post n) post a0 x2 x3 M
theorem Y_Pr_arrange_12 {x : Ctx} {post : Mem → Prop} (C : Ok x b_Pr_arrange 4 "HeapTower$Products") (hR : xR x = rm_Pr_arrange) (Rt : RetV x post 0 0) : ∀ (n : Nat) (a0 : Nat) (x2 : Int32) (x3 : Int32) (M : Mem), L_Pr_arrange_12 post n a0 x2 x3 M → J x 4 12 [(0, .ref (xB x + a0)), (2, .int x2), (3, .int x3)] [] 0 0 M := by
  intro n
  induction n with
  | zero => intro a0 x2 x3 M h; exact h.elim
  | succ n ih => intro a0 x2 x3 M h; exact Z_Pr_arrange_12 C hR Rt ih _ _ _ _ h
def T_Pr_arrange (a0 : Nat) (x1 : Int32) (x2 : Int32) (M : Mem) (post : Mem → Prop) : Prop := (isK M a0 4 ∧ isK (sI M a0 4 x1) a0 4 ∧ ∃ n, L_Pr_arrange_12 post n a0 x2 0 (sI (sI M a0 4 x1) a0 5 x2))
set_option maxRecDepth 20000 in
theorem S_Pr_arrange {l : Launch} {D : va_G} {B t : Nat} {ac : Nat → ClassId} (a0 : Nat) (x1 : Int32) (x2 : Int32) (M : Mem) (post : Mem → Prop) (h : T_Pr_arrange a0 x1 x2 M post) : Met l y_Pr_arrange w_Pr_arrange rm_Pr_arrange (va_Pc [.ref (B + a0), .int x1, .int x2] (PRE D B t ac M)) (QV D B ac post) 0 0 (AB B) := by
  refine met_v (by decide +kernel) (Nat.le_of_ble_eq_true rfl) (fun x h1 hR h3 h4 h5 h6 C Rt Nm => ?_)
  subst h3 h4 h5 h6
  unfold T_Pr_arrange at h
  show J x 4 0 [(0, .ref (xB x + a0)), (1, .int x1), (2, .int x2)] [] 0 0 M
  refine J_aload_n C 0 D_Pr_arrange_0 rfl rfl ?_
  refine J_iload_n C 1 D_Pr_arrange_1 rfl rfl ?_
  obtain ⟨c_2, h⟩ := h
  refine J_putI C fl_Pr_32 D_Pr_arrange_2 c_2 ?_
  refine J_aload_n C 0 D_Pr_arrange_5 rfl rfl ?_
  refine J_iload_n C 2 D_Pr_arrange_6 rfl rfl ?_
  obtain ⟨c_7, h⟩ := h
  refine J_putI C fl_Pr_36 D_Pr_arrange_7 c_7 ?_
  refine J_iconst (v := 0) C D_Pr_arrange_10 rfl ?_
  refine J_istore_n (lv' := [(3, .int 0), (0, .ref (xB x + a0)), (1, .int x1), (2, .int x2)]) C 3 D_Pr_arrange_11 rfl (by decide) rfl ?_
  obtain ⟨n, h⟩ := h
  exact J_sub [1, 3, 0] rfl (Y_Pr_arrange_12 C hR Rt  n _ _ _ _ h)
theorem D_Pr_orderNow_0 : decode b_Pr_orderNow 0 = .ok (.aload_n 0, 1) := by decide +kernel
theorem D_Pr_orderNow_1 : decode b_Pr_orderNow 1 = .ok (.getfield 36, 3) := by decide +kernel
theorem D_Pr_orderNow_4 : decode b_Pr_orderNow 4 = .ok (.ireturn, 1) := by decide +kernel
abbrev rm_Pr_orderNow : Room := { frames := 0, cells := 0, slots := 0, locals := 0 }
def T_Pr_orderNow (a0 : Nat) (M : Mem) (post : Int32 → Mem → Prop) : Prop := (isK M a0 4 ∧ post (gI M a0 5) M)
set_option maxRecDepth 20000 in
theorem S_Pr_orderNow {l : Launch} {D : va_G} {B t : Nat} {ac : Nat → ClassId} (a0 : Nat) (M : Mem) (post : Int32 → Mem → Prop) (h : T_Pr_orderNow a0 M post) : Met l y_Pr_orderNow w_Pr_orderNow rm_Pr_orderNow (va_Pc [.ref (B + a0)] (PRE D B t ac M)) (QI D B ac post) 0 0 (AB B) := by
  refine met_i (by decide +kernel) (Nat.le_of_ble_eq_true rfl) (fun x h1 hR h3 h4 h5 h6 C Rt => ?_)
  subst h3 h4 h5 h6
  unfold T_Pr_orderNow at h
  show J x 1 0 [(0, .ref (xB x + a0))] [] 0 0 M
  refine J_aload_n C 0 D_Pr_orderNow_0 rfl rfl ?_
  obtain ⟨c_1, h⟩ := h
  refine J_getI C fl_Pr_36 D_Pr_orderNow_1 c_1 ?_
  exact J_iret C Rt D_Pr_orderNow_4 rfl h
theorem D_Pr_letterCount_0 : decode b_Pr_letterCount 0 = .ok (.aload_n 0, 1) := by decide +kernel
theorem D_Pr_letterCount_1 : decode b_Pr_letterCount 1 = .ok (.getfield 32, 3) := by decide +kernel
theorem D_Pr_letterCount_4 : decode b_Pr_letterCount 4 = .ok (.ireturn, 1) := by decide +kernel
abbrev rm_Pr_letterCount : Room := { frames := 0, cells := 0, slots := 0, locals := 0 }
def T_Pr_letterCount (a0 : Nat) (M : Mem) (post : Int32 → Mem → Prop) : Prop := (isK M a0 4 ∧ post (gI M a0 4) M)
set_option maxRecDepth 20000 in
theorem S_Pr_letterCount {l : Launch} {D : va_G} {B t : Nat} {ac : Nat → ClassId} (a0 : Nat) (M : Mem) (post : Int32 → Mem → Prop) (h : T_Pr_letterCount a0 M post) : Met l y_Pr_letterCount w_Pr_letterCount rm_Pr_letterCount (va_Pc [.ref (B + a0)] (PRE D B t ac M)) (QI D B ac post) 0 0 (AB B) := by
  refine met_i (by decide +kernel) (Nat.le_of_ble_eq_true rfl) (fun x h1 hR h3 h4 h5 h6 C Rt => ?_)
  subst h3 h4 h5 h6
  unfold T_Pr_letterCount at h
  show J x 1 0 [(0, .ref (xB x + a0))] [] 0 0 M
  refine J_aload_n C 0 D_Pr_letterCount_0 rfl rfl ?_
  obtain ⟨c_1, h⟩ := h
  refine J_getI C fl_Pr_32 D_Pr_letterCount_1 c_1 ?_
  exact J_iret C Rt D_Pr_letterCount_4 rfl h
theorem D_Pr_amount_0 : decode b_Pr_amount 0 = .ok (.aload_n 0, 1) := by decide +kernel
theorem D_Pr_amount_1 : decode b_Pr_amount 1 = .ok (.getfield 21, 3) := by decide +kernel
theorem D_Pr_amount_4 : decode b_Pr_amount 4 = .ok (.iload_n 1, 1) := by decide +kernel
theorem D_Pr_amount_5 : decode b_Pr_amount 5 = .ok (.iaload, 1) := by decide +kernel
theorem D_Pr_amount_6 : decode b_Pr_amount 6 = .ok (.ireturn, 1) := by decide +kernel
abbrev rm_Pr_amount : Room := { frames := 0, cells := 0, slots := 0, locals := 0 }
def T_Pr_amount (a0 : Nat) (x1 : Int32) (M : Mem) (post : Int32 → Mem → Prop) : Prop := (isK M a0 4 ∧ ∃ q1, gR M a0 3 = some q1 ∧ isA M q1 8 x1 ∧ post (gI M q1 (Int32.toNatClampNeg x1)) M)
set_option maxRecDepth 20000 in
theorem S_Pr_amount {l : Launch} {D : va_G} {B t : Nat} {ac : Nat → ClassId} (a0 : Nat) (x1 : Int32) (M : Mem) (post : Int32 → Mem → Prop) (h : T_Pr_amount a0 x1 M post) : Met l y_Pr_amount w_Pr_amount rm_Pr_amount (va_Pc [.ref (B + a0), .int x1] (PRE D B t ac M)) (QI D B ac post) 0 0 (AB B) := by
  refine met_i (by decide +kernel) (Nat.le_of_ble_eq_true rfl) (fun x h1 hR h3 h4 h5 h6 C Rt => ?_)
  subst h3 h4 h5 h6
  unfold T_Pr_amount at h
  show J x 2 0 [(0, .ref (xB x + a0)), (1, .int x1)] [] 0 0 M
  refine J_aload_n C 0 D_Pr_amount_0 rfl rfl ?_
  obtain ⟨c_1, q1, e_1, h⟩ := h
  refine J_getR C fl_Pr_21 D_Pr_amount_1 c_1 e_1 ?_
  refine J_iload_n C 1 D_Pr_amount_4 rfl rfl ?_
  obtain ⟨c_5, h⟩ := h
  refine J_iald C D_Pr_amount_5 c_5 ?_
  exact J_iret C Rt D_Pr_amount_6 rfl h
theorem D_Pr_at_0 : decode b_Pr_at 0 = .ok (.aload_n 0, 1) := by decide +kernel
theorem D_Pr_at_1 : decode b_Pr_at 1 = .ok (.getfield 18, 3) := by decide +kernel
theorem D_Pr_at_4 : decode b_Pr_at 4 = .ok (.getstatic 46, 3) := by decide +kernel
theorem D_Pr_at_7 : decode b_Pr_at 7 = .ok (.iload_n 1, 1) := by decide +kernel
theorem D_Pr_at_8 : decode b_Pr_at 8 = .ok (.iaload, 1) := by decide +kernel
theorem D_Pr_at_9 : decode b_Pr_at 9 = .ok (.iload_n 2, 1) := by decide +kernel
theorem D_Pr_at_10 : decode b_Pr_at 10 = .ok (.iadd, 1) := by decide +kernel
theorem D_Pr_at_11 : decode b_Pr_at 11 = .ok (.iaload, 1) := by decide +kernel
theorem D_Pr_at_12 : decode b_Pr_at 12 = .ok (.ireturn, 1) := by decide +kernel
abbrev rm_Pr_at : Room := { frames := 0, cells := 0, slots := 0, locals := 0 }
def T_Pr_at (a0 : Nat) (x1 : Int32) (x2 : Int32) (M : Mem) (post : Int32 → Mem → Prop) : Prop := (isK M a0 4 ∧ ∃ q1, gR M a0 2 = some q1 ∧ vp_in x1 12 ∧ isA M q1 8 ((fst (Int32.toNatClampNeg x1)) + x2) ∧ post (gI M q1 (Int32.toNatClampNeg ((fst (Int32.toNatClampNeg x1)) + x2))) M)
set_option maxRecDepth 20000 in
theorem S_Pr_at {l : Launch} {D : va_G} {B t : Nat} {ac : Nat → ClassId} (a0 : Nat) (x1 : Int32) (x2 : Int32) (M : Mem) (post : Int32 → Mem → Prop) (h : T_Pr_at a0 x1 x2 M post) : Met l y_Pr_at w_Pr_at rm_Pr_at (va_Pc [.ref (B + a0), .int x1, .int x2] (PRE D B t ac M)) (QI D B ac post) 0 0 (AB B) := by
  refine met_i (by decide +kernel) (Nat.le_of_ble_eq_true rfl) (fun x h1 hR h3 h4 h5 h6 C Rt => ?_)
  subst h3 h4 h5 h6
  unfold T_Pr_at at h
  show J x 3 0 [(0, .ref (xB x + a0)), (1, .int x1), (2, .int x2)] [] 0 0 M
  refine J_aload_n C 0 D_Pr_at_0 rfl rfl ?_
  obtain ⟨c_1, q1, e_1, h⟩ := h
  refine J_getR C fl_Pr_18 D_Pr_at_1 c_1 e_1 ?_
  refine J_first C (by decide) D_Pr_at_4 ?_
  refine J_iload_n C 1 D_Pr_at_7 rfl rfl ?_
  obtain ⟨c_8, h⟩ := h
  refine J_fald C D_Pr_at_8 c_8 ?_
  refine J_iload_n C 2 D_Pr_at_9 rfl rfl ?_
  refine J_iadd C D_Pr_at_10 ?_
  obtain ⟨c_11, h⟩ := h
  refine J_iald C D_Pr_at_11 c_11 ?_
  exact J_iret C Rt D_Pr_at_12 rfl h
theorem D_Pr_power_0 : decode b_Pr_power 0 = .ok (.iload_n 3, 1) := by decide +kernel
theorem D_Pr_power_1 : decode b_Pr_power 1 = .ok (.ifCond .ne 19, 3) := by decide +kernel
theorem D_Pr_power_4 : decode b_Pr_power 4 = .ok (.iload_n 1, 1) := by decide +kernel
theorem D_Pr_power_5 : decode b_Pr_power 5 = .ok (.aload_n 0, 1) := by decide +kernel
theorem D_Pr_power_6 : decode b_Pr_power 6 = .ok (.getfield 9, 3) := by decide +kernel
theorem D_Pr_power_9 : decode b_Pr_power 9 = .ok (.iload_n 2, 1) := by decide +kernel
theorem D_Pr_power_10 : decode b_Pr_power 10 = .ok (.iaload, 1) := by decide +kernel
theorem D_Pr_power_11 : decode b_Pr_power 11 = .ok (.isub, 1) := by decide +kernel
theorem D_Pr_power_12 : decode b_Pr_power 12 = .ok (.aload_n 0, 1) := by decide +kernel
theorem D_Pr_power_13 : decode b_Pr_power 13 = .ok (.getfield 15, 3) := by decide +kernel
theorem D_Pr_power_16 : decode b_Pr_power 16 = .ok (.iload_n 2, 1) := by decide +kernel
theorem D_Pr_power_17 : decode b_Pr_power 17 = .ok (.iaload, 1) := by decide +kernel
theorem D_Pr_power_18 : decode b_Pr_power 18 = .ok (.isub, 1) := by decide +kernel
theorem D_Pr_power_19 : decode b_Pr_power 19 = .ok (.ireturn, 1) := by decide +kernel
theorem D_Pr_power_20 : decode b_Pr_power 20 = .ok (.iload_n 3, 1) := by decide +kernel
theorem D_Pr_power_21 : decode b_Pr_power 21 = .ok (.iconst 1, 1) := by decide +kernel
theorem D_Pr_power_22 : decode b_Pr_power 22 = .ok (.if_icmp .ne 12, 3) := by decide +kernel
theorem D_Pr_power_25 : decode b_Pr_power 25 = .ok (.aload_n 0, 1) := by decide +kernel
theorem D_Pr_power_26 : decode b_Pr_power 26 = .ok (.getfield 9, 3) := by decide +kernel
theorem D_Pr_power_29 : decode b_Pr_power 29 = .ok (.iload_n 2, 1) := by decide +kernel
theorem D_Pr_power_30 : decode b_Pr_power 30 = .ok (.iaload, 1) := by decide +kernel
theorem D_Pr_power_31 : decode b_Pr_power 31 = .ok (.goto 9, 3) := by decide +kernel
theorem D_Pr_power_34 : decode b_Pr_power 34 = .ok (.aload_n 0, 1) := by decide +kernel
theorem D_Pr_power_35 : decode b_Pr_power 35 = .ok (.getfield 15, 3) := by decide +kernel
theorem D_Pr_power_38 : decode b_Pr_power 38 = .ok (.iload_n 2, 1) := by decide +kernel
theorem D_Pr_power_39 : decode b_Pr_power 39 = .ok (.iaload, 1) := by decide +kernel
theorem D_Pr_power_40 : decode b_Pr_power 40 = .ok (.ireturn, 1) := by decide +kernel
abbrev rm_Pr_power : Room := { frames := 0, cells := 0, slots := 0, locals := 0 }
def B_Pr_power_40 (post : Int32 → Mem → Prop) (s0 : Int32) (M : Mem) : Prop := (post s0 M)
set_option maxRecDepth 20000 in
theorem Z_Pr_power_40 {x : Ctx} {post : Int32 → Mem → Prop} (C : Ok x b_Pr_power 4 "HeapTower$Products") (hR : xR x = rm_Pr_power) (Rt : RetI x .int post 0 0) (s0 : Int32) (M : Mem) (h : B_Pr_power_40 post s0 M) : J x 4 40 [] [.int s0] 0 0 M := by
  unfold B_Pr_power_40 at h
  exact J_iret C Rt D_Pr_power_40 rfl h
def T_Pr_power (a0 : Nat) (x1 : Int32) (x2 : Int32) (x3 : Int32) (M : Mem) (post : Int32 → Mem → Prop) : Prop := ((¬ x3 = 0 → ((¬ x3 = 1 → (isK M a0 4 ∧ ∃ q35, gR M a0 1 = some q35 ∧ isA M q35 8 x2 ∧ B_Pr_power_40 post (gI M q35 (Int32.toNatClampNeg x2)) M)) ∧ (x3 = 1 → (isK M a0 4 ∧ ∃ q26, gR M a0 0 = some q26 ∧ isA M q26 8 x2 ∧ B_Pr_power_40 post (gI M q26 (Int32.toNatClampNeg x2)) M)))) ∧ (x3 = 0 → (isK M a0 4 ∧ ∃ q6, gR M a0 0 = some q6 ∧ isA M q6 8 x2 ∧ isK M a0 4 ∧ ∃ q13, gR M a0 1 = some q13 ∧ isA M q13 8 x2 ∧ post ((x1 - (gI M q6 (Int32.toNatClampNeg x2))) - (gI M q13 (Int32.toNatClampNeg x2))) M)))
set_option maxRecDepth 20000 in
theorem S_Pr_power {l : Launch} {D : va_G} {B t : Nat} {ac : Nat → ClassId} (a0 : Nat) (x1 : Int32) (x2 : Int32) (x3 : Int32) (M : Mem) (post : Int32 → Mem → Prop) (h : T_Pr_power a0 x1 x2 x3 M post) : Met l y_Pr_power w_Pr_power rm_Pr_power (va_Pc [.ref (B + a0), .int x1, .int x2, .int x3] (PRE D B t ac M)) (QI D B ac post) 0 0 (AB B) := by
  refine met_i (by decide +kernel) (Nat.le_of_ble_eq_true rfl) (fun x h1 hR h3 h4 h5 h6 C Rt => ?_)
  subst h3 h4 h5 h6
  unfold T_Pr_power at h
  show J x 4 0 [(0, .ref (xB x + a0)), (1, .int x1), (2, .int x2), (3, .int x3)] [] 0 0 M
  refine J_iload_n C 3 D_Pr_power_0 rfl rfl ?_
  refine J_if_ne (tgt := 20) C D_Pr_power_1 (by decide) (fun c_1 => ?_) (fun c_1 => ?_)
  · have h := h.1 c_1
    refine J_iload_n C 3 D_Pr_power_20 rfl rfl ?_
    refine J_iconst (v := 1) C D_Pr_power_21 rfl ?_
    refine J_icmp_ne (tgt := 34) C D_Pr_power_22 (by decide) (fun c_22 => ?_) (fun c_22 => ?_)
    · have h := h.1 c_22
      refine J_aload_n C 0 D_Pr_power_34 rfl rfl ?_
      obtain ⟨c_35, q35, e_35, h⟩ := h
      refine J_getR C fl_Pr_15 D_Pr_power_35 c_35 e_35 ?_
      refine J_iload_n C 2 D_Pr_power_38 rfl rfl ?_
      obtain ⟨c_39, h⟩ := h
      refine J_iald C D_Pr_power_39 c_39 ?_
      exact J_sub [] rfl (Z_Pr_power_40 C hR Rt  _ _ h)
    · have h := h.2 c_22
      refine J_aload_n C 0 D_Pr_power_25 rfl rfl ?_
      obtain ⟨c_26, q26, e_26, h⟩ := h
      refine J_getR C fl_Pr_9 D_Pr_power_26 c_26 e_26 ?_
      refine J_iload_n C 2 D_Pr_power_29 rfl rfl ?_
      obtain ⟨c_30, h⟩ := h
      refine J_iald C D_Pr_power_30 c_30 ?_
      refine J_goto (tgt := 40) C D_Pr_power_31 (by decide) ?_
      exact J_sub [] rfl (Z_Pr_power_40 C hR Rt  _ _ h)
  · have h := h.2 c_1
    refine J_iload_n C 1 D_Pr_power_4 rfl rfl ?_
    refine J_aload_n C 0 D_Pr_power_5 rfl rfl ?_
    obtain ⟨c_6, q6, e_6, h⟩ := h
    refine J_getR C fl_Pr_9 D_Pr_power_6 c_6 e_6 ?_
    refine J_iload_n C 2 D_Pr_power_9 rfl rfl ?_
    obtain ⟨c_10, h⟩ := h
    refine J_iald C D_Pr_power_10 c_10 ?_
    refine J_isub C D_Pr_power_11 ?_
    refine J_aload_n C 0 D_Pr_power_12 rfl rfl ?_
    obtain ⟨c_13, q13, e_13, h⟩ := h
    refine J_getR C fl_Pr_15 D_Pr_power_13 c_13 e_13 ?_
    refine J_iload_n C 2 D_Pr_power_16 rfl rfl ?_
    obtain ⟨c_17, h⟩ := h
    refine J_iald C D_Pr_power_17 c_17 ?_
    refine J_isub C D_Pr_power_18 ?_
    exact J_iret C Rt D_Pr_power_19 rfl h
theorem D_Pr_together_0 : decode b_Pr_together 0 = .ok (.aload_n 0, 1) := by decide +kernel
theorem D_Pr_together_1 : decode b_Pr_together 1 = .ok (.getfield 9, 3) := by decide +kernel
theorem D_Pr_together_4 : decode b_Pr_together 4 = .ok (.iload_n 1, 1) := by decide +kernel
theorem D_Pr_together_5 : decode b_Pr_together 5 = .ok (.iaload, 1) := by decide +kernel
theorem D_Pr_together_6 : decode b_Pr_together 6 = .ok (.aload_n 0, 1) := by decide +kernel
theorem D_Pr_together_7 : decode b_Pr_together 7 = .ok (.getfield 9, 3) := by decide +kernel
theorem D_Pr_together_10 : decode b_Pr_together 10 = .ok (.iload_n 2, 1) := by decide +kernel
theorem D_Pr_together_11 : decode b_Pr_together 11 = .ok (.iaload, 1) := by decide +kernel
theorem D_Pr_together_12 : decode b_Pr_together 12 = .ok (.iadd, 1) := by decide +kernel
theorem D_Pr_together_13 : decode b_Pr_together 13 = .ok (.aload_n 0, 1) := by decide +kernel
theorem D_Pr_together_14 : decode b_Pr_together 14 = .ok (.getfield 15, 3) := by decide +kernel
theorem D_Pr_together_17 : decode b_Pr_together 17 = .ok (.iload_n 1, 1) := by decide +kernel
theorem D_Pr_together_18 : decode b_Pr_together 18 = .ok (.iaload, 1) := by decide +kernel
theorem D_Pr_together_19 : decode b_Pr_together 19 = .ok (.aload_n 0, 1) := by decide +kernel
theorem D_Pr_together_20 : decode b_Pr_together 20 = .ok (.getfield 15, 3) := by decide +kernel
theorem D_Pr_together_23 : decode b_Pr_together 23 = .ok (.iload_n 2, 1) := by decide +kernel
theorem D_Pr_together_24 : decode b_Pr_together 24 = .ok (.iaload, 1) := by decide +kernel
theorem D_Pr_together_25 : decode b_Pr_together 25 = .ok (.iadd, 1) := by decide +kernel
theorem D_Pr_together_26 : decode b_Pr_together 26 = .ok (.invokestatic 24, 3) := by decide +kernel
theorem D_Pr_together_29 : decode b_Pr_together 29 = .ok (.ireturn, 1) := by decide +kernel
abbrev rm_Pr_together : Room := { frames := 1, cells := 0, slots := 0, locals := 21 }
def T_Pr_together (a0 : Nat) (x1 : Int32) (x2 : Int32) (M : Mem) (post : Int32 → Mem → Prop) : Prop := (isK M a0 4 ∧ ∃ q1, gR M a0 0 = some q1 ∧ isA M q1 8 x1 ∧ isK M a0 4 ∧ ∃ q7, gR M a0 0 = some q7 ∧ isA M q7 8 x2 ∧ isK M a0 4 ∧ ∃ q14, gR M a0 1 = some q14 ∧ isA M q14 8 x1 ∧ isK M a0 4 ∧ ∃ q20, gR M a0 1 = some q20 ∧ isA M q20 8 x2 ∧ T_Pr_place ((gI M q1 (Int32.toNatClampNeg x1)) + (gI M q7 (Int32.toNatClampNeg x2))) ((gI M q14 (Int32.toNatClampNeg x1)) + (gI M q20 (Int32.toNatClampNeg x2))) M (fun r26 M26 => post r26 M26))
set_option maxRecDepth 20000 in
theorem S_Pr_together {l : Launch} {D : va_G} {B t : Nat} {ac : Nat → ClassId} (a0 : Nat) (x1 : Int32) (x2 : Int32) (M : Mem) (post : Int32 → Mem → Prop) (h : T_Pr_together a0 x1 x2 M post) : Met l y_Pr_together w_Pr_together rm_Pr_together (va_Pc [.ref (B + a0), .int x1, .int x2] (PRE D B t ac M)) (QI D B ac post) 0 0 (AB B) := by
  refine met_i (by decide +kernel) (Nat.le_of_ble_eq_true rfl) (fun x h1 hR h3 h4 h5 h6 C Rt => ?_)
  subst h3 h4 h5 h6
  unfold T_Pr_together at h
  show J x 3 0 [(0, .ref (xB x + a0)), (1, .int x1), (2, .int x2)] [] 0 0 M
  refine J_aload_n C 0 D_Pr_together_0 rfl rfl ?_
  obtain ⟨c_1, q1, e_1, h⟩ := h
  refine J_getR C fl_Pr_9 D_Pr_together_1 c_1 e_1 ?_
  refine J_iload_n C 1 D_Pr_together_4 rfl rfl ?_
  obtain ⟨c_5, h⟩ := h
  refine J_iald C D_Pr_together_5 c_5 ?_
  refine J_aload_n C 0 D_Pr_together_6 rfl rfl ?_
  obtain ⟨c_7, q7, e_7, h⟩ := h
  refine J_getR C fl_Pr_9 D_Pr_together_7 c_7 e_7 ?_
  refine J_iload_n C 2 D_Pr_together_10 rfl rfl ?_
  obtain ⟨c_11, h⟩ := h
  refine J_iald C D_Pr_together_11 c_11 ?_
  refine J_iadd C D_Pr_together_12 ?_
  refine J_aload_n C 0 D_Pr_together_13 rfl rfl ?_
  obtain ⟨c_14, q14, e_14, h⟩ := h
  refine J_getR C fl_Pr_15 D_Pr_together_14 c_14 e_14 ?_
  refine J_iload_n C 1 D_Pr_together_17 rfl rfl ?_
  obtain ⟨c_18, h⟩ := h
  refine J_iald C D_Pr_together_18 c_18 ?_
  refine J_aload_n C 0 D_Pr_together_19 rfl rfl ?_
  obtain ⟨c_20, q20, e_20, h⟩ := h
  refine J_getR C fl_Pr_15 D_Pr_together_20 c_20 e_20 ?_
  refine J_iload_n C 2 D_Pr_together_23 rfl rfl ?_
  obtain ⟨c_24, h⟩ := h
  refine J_iald C D_Pr_together_24 c_24 ?_
  refine J_iadd C D_Pr_together_25 ?_
  refine J_callSi C ml_Pr_24 (S_Pr_place _ _ _ _ h) (by rw [hR]; decide) rfl rfl (Nat.le_of_ble_eq_true rfl) D_Pr_together_26 (fun r26 M26 h => ?_)
  exact J_iret C Rt D_Pr_together_29 rfl h
theorem D_Pr_lowered_0 : decode b_Pr_lowered 0 = .ok (.aload_n 0, 1) := by decide +kernel
theorem D_Pr_lowered_1 : decode b_Pr_lowered 1 = .ok (.getfield 9, 3) := by decide +kernel
theorem D_Pr_lowered_4 : decode b_Pr_lowered 4 = .ok (.iload_n 1, 1) := by decide +kernel
theorem D_Pr_lowered_5 : decode b_Pr_lowered 5 = .ok (.iaload, 1) := by decide +kernel
theorem D_Pr_lowered_6 : decode b_Pr_lowered 6 = .ok (.iload_n 2, 1) := by decide +kernel
theorem D_Pr_lowered_7 : decode b_Pr_lowered 7 = .ok (.iconst 1, 1) := by decide +kernel
theorem D_Pr_lowered_8 : decode b_Pr_lowered 8 = .ok (.if_icmp .ne 7, 3) := by decide +kernel
theorem D_Pr_lowered_11 : decode b_Pr_lowered 11 = .ok (.iconst 1, 1) := by decide +kernel
theorem D_Pr_lowered_12 : decode b_Pr_lowered 12 = .ok (.goto 4, 3) := by decide +kernel
theorem D_Pr_lowered_15 : decode b_Pr_lowered 15 = .ok (.iconst 0, 1) := by decide +kernel
theorem D_Pr_lowered_16 : decode b_Pr_lowered 16 = .ok (.isub, 1) := by decide +kernel
theorem D_Pr_lowered_17 : decode b_Pr_lowered 17 = .ok (.aload_n 0, 1) := by decide +kernel
theorem D_Pr_lowered_18 : decode b_Pr_lowered 18 = .ok (.getfield 15, 3) := by decide +kernel
theorem D_Pr_lowered_21 : decode b_Pr_lowered 21 = .ok (.iload_n 1, 1) := by decide +kernel
theorem D_Pr_lowered_22 : decode b_Pr_lowered 22 = .ok (.iaload, 1) := by decide +kernel
theorem D_Pr_lowered_23 : decode b_Pr_lowered 23 = .ok (.iload_n 2, 1) := by decide +kernel
theorem D_Pr_lowered_24 : decode b_Pr_lowered 24 = .ok (.iconst 2, 1) := by decide +kernel
theorem D_Pr_lowered_25 : decode b_Pr_lowered 25 = .ok (.if_icmp .ne 7, 3) := by decide +kernel
theorem D_Pr_lowered_28 : decode b_Pr_lowered 28 = .ok (.iconst 1, 1) := by decide +kernel
theorem D_Pr_lowered_29 : decode b_Pr_lowered 29 = .ok (.goto 4, 3) := by decide +kernel
theorem D_Pr_lowered_32 : decode b_Pr_lowered 32 = .ok (.iconst 0, 1) := by decide +kernel
theorem D_Pr_lowered_33 : decode b_Pr_lowered 33 = .ok (.isub, 1) := by decide +kernel
theorem D_Pr_lowered_34 : decode b_Pr_lowered 34 = .ok (.invokestatic 24, 3) := by decide +kernel
theorem D_Pr_lowered_37 : decode b_Pr_lowered 37 = .ok (.ireturn, 1) := by decide +kernel
abbrev rm_Pr_lowered : Room := { frames := 1, cells := 0, slots := 0, locals := 21 }
def B_Pr_lowered_33 (post : Int32 → Mem → Prop) (s0 : Int32) (s1 : Int32) (s2 : Int32) (M : Mem) : Prop := (T_Pr_place s2 (s1 - s0) M (fun r34 M34 => post r34 M34))
set_option maxRecDepth 20000 in
theorem Z_Pr_lowered_33 {x : Ctx} {post : Int32 → Mem → Prop} (C : Ok x b_Pr_lowered 3 "HeapTower$Products") (hR : xR x = rm_Pr_lowered) (Rt : RetI x .int post 0 0) (s0 : Int32) (s1 : Int32) (s2 : Int32) (M : Mem) (h : B_Pr_lowered_33 post s0 s1 s2 M) : J x 3 33 [] [.int s0, .int s1, .int s2] 0 0 M := by
  unfold B_Pr_lowered_33 at h
  refine J_isub C D_Pr_lowered_33 ?_
  refine J_callSi C ml_Pr_24 (S_Pr_place _ _ _ _ h) (by rw [hR]; decide) rfl rfl (Nat.le_of_ble_eq_true rfl) D_Pr_lowered_34 (fun r34 M34 h => ?_)
  exact J_iret C Rt D_Pr_lowered_37 rfl h
def B_Pr_lowered_16 (post : Int32 → Mem → Prop) (a0 : Nat) (x1 : Int32) (x2 : Int32) (s0 : Int32) (s1 : Int32) (M : Mem) : Prop := (isK M a0 4 ∧ ∃ q18, gR M a0 1 = some q18 ∧ isA M q18 8 x1 ∧ (¬ x2 = 2 → (B_Pr_lowered_33 post 0 (gI M q18 (Int32.toNatClampNeg x1)) (s1 - s0) M)) ∧ (x2 = 2 → (B_Pr_lowered_33 post 1 (gI M q18 (Int32.toNatClampNeg x1)) (s1 - s0) M)))
set_option maxRecDepth 20000 in
theorem Z_Pr_lowered_16 {x : Ctx} {post : Int32 → Mem → Prop} (C : Ok x b_Pr_lowered 3 "HeapTower$Products") (hR : xR x = rm_Pr_lowered) (Rt : RetI x .int post 0 0) (a0 : Nat) (x1 : Int32) (x2 : Int32) (s0 : Int32) (s1 : Int32) (M : Mem) (h : B_Pr_lowered_16 post a0 x1 x2 s0 s1 M) : J x 3 16 [(0, .ref (xB x + a0)), (1, .int x1), (2, .int x2)] [.int s0, .int s1] 0 0 M := by
  unfold B_Pr_lowered_16 at h
  refine J_isub C D_Pr_lowered_16 ?_
  refine J_aload_n C 0 D_Pr_lowered_17 rfl rfl ?_
  obtain ⟨c_18, q18, e_18, h⟩ := h
  refine J_getR C fl_Pr_15 D_Pr_lowered_18 c_18 e_18 ?_
  refine J_iload_n C 1 D_Pr_lowered_21 rfl rfl ?_
  obtain ⟨c_22, h⟩ := h
  refine J_iald C D_Pr_lowered_22 c_22 ?_
  refine J_iload_n C 2 D_Pr_lowered_23 rfl rfl ?_
  refine J_iconst (v := 2) C D_Pr_lowered_24 rfl ?_
  refine J_icmp_ne (tgt := 32) C D_Pr_lowered_25 (by decide) (fun c_25 => ?_) (fun c_25 => ?_)
  · have h := h.1 c_25
    refine J_iconst (v := 0) C D_Pr_lowered_32 rfl ?_
    exact J_sub [] rfl (Z_Pr_lowered_33 C hR Rt  _ _ _ _ h)
  · have h := h.2 c_25
    refine J_iconst (v := 1) C D_Pr_lowered_28 rfl ?_
    refine J_goto (tgt := 33) C D_Pr_lowered_29 (by decide) ?_
    exact J_sub [] rfl (Z_Pr_lowered_33 C hR Rt  _ _ _ _ h)
def T_Pr_lowered (a0 : Nat) (x1 : Int32) (x2 : Int32) (M : Mem) (post : Int32 → Mem → Prop) : Prop := (isK M a0 4 ∧ ∃ q1, gR M a0 0 = some q1 ∧ isA M q1 8 x1 ∧ (¬ x2 = 1 → (B_Pr_lowered_16 post a0 x1 x2 0 (gI M q1 (Int32.toNatClampNeg x1)) M)) ∧ (x2 = 1 → (B_Pr_lowered_16 post a0 x1 x2 1 (gI M q1 (Int32.toNatClampNeg x1)) M)))
set_option maxRecDepth 20000 in
theorem S_Pr_lowered {l : Launch} {D : va_G} {B t : Nat} {ac : Nat → ClassId} (a0 : Nat) (x1 : Int32) (x2 : Int32) (M : Mem) (post : Int32 → Mem → Prop) (h : T_Pr_lowered a0 x1 x2 M post) : Met l y_Pr_lowered w_Pr_lowered rm_Pr_lowered (va_Pc [.ref (B + a0), .int x1, .int x2] (PRE D B t ac M)) (QI D B ac post) 0 0 (AB B) := by
  refine met_i (by decide +kernel) (Nat.le_of_ble_eq_true rfl) (fun x h1 hR h3 h4 h5 h6 C Rt => ?_)
  subst h3 h4 h5 h6
  unfold T_Pr_lowered at h
  show J x 3 0 [(0, .ref (xB x + a0)), (1, .int x1), (2, .int x2)] [] 0 0 M
  refine J_aload_n C 0 D_Pr_lowered_0 rfl rfl ?_
  obtain ⟨c_1, q1, e_1, h⟩ := h
  refine J_getR C fl_Pr_9 D_Pr_lowered_1 c_1 e_1 ?_
  refine J_iload_n C 1 D_Pr_lowered_4 rfl rfl ?_
  obtain ⟨c_5, h⟩ := h
  refine J_iald C D_Pr_lowered_5 c_5 ?_
  refine J_iload_n C 2 D_Pr_lowered_6 rfl rfl ?_
  refine J_iconst (v := 1) C D_Pr_lowered_7 rfl ?_
  refine J_icmp_ne (tgt := 15) C D_Pr_lowered_8 (by decide) (fun c_8 => ?_) (fun c_8 => ?_)
  · have h := h.1 c_8
    refine J_iconst (v := 0) C D_Pr_lowered_15 rfl ?_
    exact J_sub [0, 1, 2] rfl (Z_Pr_lowered_16 C hR Rt  _ _ _ _ _ _ h)
  · have h := h.2 c_8
    refine J_iconst (v := 1) C D_Pr_lowered_11 rfl ?_
    refine J_goto (tgt := 16) C D_Pr_lowered_12 (by decide) ?_
    exact J_sub [0, 1, 2] rfl (Z_Pr_lowered_16 C hR Rt  _ _ _ _ _ _ h)
theorem D_Pr_isZero_0 : decode b_Pr_isZero 0 = .ok (.iconst 0, 1) := by decide +kernel
theorem D_Pr_isZero_1 : decode b_Pr_isZero 1 = .ok (.istore_n 3, 1) := by decide +kernel
theorem D_Pr_isZero_2 : decode b_Pr_isZero 2 = .ok (.iload_n 3, 1) := by decide +kernel
theorem D_Pr_isZero_3 : decode b_Pr_isZero 3 = .ok (.aload_n 0, 1) := by decide +kernel
theorem D_Pr_isZero_4 : decode b_Pr_isZero 4 = .ok (.getfield 21, 3) := by decide +kernel
theorem D_Pr_isZero_7 : decode b_Pr_isZero 7 = .ok (.iload_n 1, 1) := by decide +kernel
theorem D_Pr_isZero_8 : decode b_Pr_isZero 8 = .ok (.iaload, 1) := by decide +kernel
theorem D_Pr_isZero_9 : decode b_Pr_isZero 9 = .ok (.if_icmp .ge 22, 3) := by decide +kernel
theorem D_Pr_isZero_12 : decode b_Pr_isZero 12 = .ok (.aload_n 2, 1) := by decide +kernel
theorem D_Pr_isZero_13 : decode b_Pr_isZero 13 = .ok (.aload_n 0, 1) := by decide +kernel
theorem D_Pr_isZero_14 : decode b_Pr_isZero 14 = .ok (.iload_n 1, 1) := by decide +kernel
theorem D_Pr_isZero_15 : decode b_Pr_isZero 15 = .ok (.iload_n 3, 1) := by decide +kernel
theorem D_Pr_isZero_16 : decode b_Pr_isZero 16 = .ok (.invokevirtual 49, 3) := by decide +kernel
theorem D_Pr_isZero_19 : decode b_Pr_isZero 19 = .ok (.iaload, 1) := by decide +kernel
theorem D_Pr_isZero_20 : decode b_Pr_isZero 20 = .ok (.ifCond .eq 5, 3) := by decide +kernel
theorem D_Pr_isZero_23 : decode b_Pr_isZero 23 = .ok (.iconst 0, 1) := by decide +kernel
theorem D_Pr_isZero_24 : decode b_Pr_isZero 24 = .ok (.ireturn, 1) := by decide +kernel
theorem D_Pr_isZero_25 : decode b_Pr_isZero 25 = .ok (.iinc 3 1, 3) := by decide +kernel
theorem D_Pr_isZero_28 : decode b_Pr_isZero 28 = .ok (.goto (-26), 3) := by decide +kernel
theorem D_Pr_isZero_31 : decode b_Pr_isZero 31 = .ok (.iconst 1, 1) := by decide +kernel
theorem D_Pr_isZero_32 : decode b_Pr_isZero 32 = .ok (.ireturn, 1) := by decide +kernel
abbrev rm_Pr_isZero : Room := { frames := 1, cells := 0, slots := 0, locals := 22 }
def B_Pr_isZero_2 (k2 : Nat → Int32 → Nat → Int32 → Mem → Prop) (post : Int32 → Mem → Prop) (a0 : Nat) (x1 : Int32) (a2 : Nat) (x3 : Int32) (M : Mem) : Prop := (isK M a0 4 ∧ ∃ q4, gR M a0 3 = some q4 ∧ isA M q4 8 x1 ∧ ((gI M q4 (Int32.toNatClampNeg x1)) ≤ x3 → (narrow .boolean (.int 1) = .int 1 ∧ post 1 M)) ∧ (¬ (gI M q4 (Int32.toNatClampNeg x1)) ≤ x3 → (isK M a0 4 ∧ T_Pr_at a0 x1 x3 M (fun r16 M16 => isA M16 a2 8 r16 ∧ ((gI M16 a2 (Int32.toNatClampNeg r16)) = 0 → (k2 a0 x1 a2 (x3 + 1) M16)) ∧ (¬ (gI M16 a2 (Int32.toNatClampNeg r16)) = 0 → (narrow .boolean (.int 0) = .int 0 ∧ post 0 M16))))))
set_option maxRecDepth 20000 in
theorem Z_Pr_isZero_2 {x : Ctx} {post : Int32 → Mem → Prop} (C : Ok x b_Pr_isZero 4 "HeapTower$Products") (hR : xR x = rm_Pr_isZero) (Rt : RetI x .boolean post 0 0) {k2 : Nat → Int32 → Nat → Int32 → Mem → Prop} (K2 : ∀ (a0 : Nat) (x1 : Int32) (a2 : Nat) (x3 : Int32) (M : Mem), k2 a0 x1 a2 x3 M → J x 4 2 [(0, .ref (xB x + a0)), (1, .int x1), (2, .ref (xB x + a2)), (3, .int x3)] [] 0 0 M) (a0 : Nat) (x1 : Int32) (a2 : Nat) (x3 : Int32) (M : Mem) (h : B_Pr_isZero_2 k2 post a0 x1 a2 x3 M) : J x 4 2 [(0, .ref (xB x + a0)), (1, .int x1), (2, .ref (xB x + a2)), (3, .int x3)] [] 0 0 M := by
  unfold B_Pr_isZero_2 at h
  refine J_iload_n C 3 D_Pr_isZero_2 rfl rfl ?_
  refine J_aload_n C 0 D_Pr_isZero_3 rfl rfl ?_
  obtain ⟨c_4, q4, e_4, h⟩ := h
  refine J_getR C fl_Pr_21 D_Pr_isZero_4 c_4 e_4 ?_
  refine J_iload_n C 1 D_Pr_isZero_7 rfl rfl ?_
  obtain ⟨c_8, h⟩ := h
  refine J_iald C D_Pr_isZero_8 c_8 ?_
  refine J_icmp_ge (tgt := 31) C D_Pr_isZero_9 (by decide) (fun c_9 => ?_) (fun c_9 => ?_)
  · have h := h.1 c_9
    refine J_iconst (v := 1) C D_Pr_isZero_31 rfl ?_
    obtain ⟨c_32, h⟩ := h
    exact J_iret C Rt D_Pr_isZero_32 c_32 h
  · have h := h.2 c_9
    refine J_aload_n C 2 D_Pr_isZero_12 rfl rfl ?_
    refine J_aload_n C 0 D_Pr_isZero_13 rfl rfl ?_
    refine J_iload_n C 1 D_Pr_isZero_14 rfl rfl ?_
    refine J_iload_n C 3 D_Pr_isZero_15 rfl rfl ?_
    obtain ⟨c_16, h⟩ := h
    refine J_callVi C ml_Pr_49 (S_Pr_at _ _ _ _ _ h) (by rw [hR]; decide) rfl c_16 rfl (Nat.le_of_ble_eq_true rfl) D_Pr_isZero_16 (fun r16 M16 h => ?_)
    obtain ⟨c_19, h⟩ := h
    refine J_iald C D_Pr_isZero_19 c_19 ?_
    refine J_if_eq (tgt := 25) C D_Pr_isZero_20 (by decide) (fun c_20 => ?_) (fun c_20 => ?_)
    · have h := h.1 c_20
      refine J_iinc (v := x3 + 1) (lv' := [(3, .int (x3 + 1)), (0, .ref (xB x + a0)), (1, .int x1), (2, .ref (xB x + a2))]) C 3 3 D_Pr_isZero_25 rfl rfl (by decide) rfl ?_
      refine J_goto (tgt := 2) C D_Pr_isZero_28 (by decide) ?_
      exact J_sub [1, 2, 3, 0] rfl (K2 _ _ _ _ _ h)
    · have h := h.2 c_20
      refine J_iconst (v := 0) C D_Pr_isZero_23 rfl ?_
      obtain ⟨c_24, h⟩ := h
      exact J_iret C Rt D_Pr_isZero_24 c_24 h
def L_Pr_isZero_2 (post : Int32 → Mem → Prop) : Nat → Nat → Int32 → Nat → Int32 → Mem → Prop
  | 0, _, _, _, _, _ => False
  | n + 1, a0, x1, a2, x3, M => B_Pr_isZero_2 (L_Pr_isZero_2 post n) post a0 x1 a2 x3 M
theorem Y_Pr_isZero_2 {x : Ctx} {post : Int32 → Mem → Prop} (C : Ok x b_Pr_isZero 4 "HeapTower$Products") (hR : xR x = rm_Pr_isZero) (Rt : RetI x .boolean post 0 0) : ∀ (n : Nat) (a0 : Nat) (x1 : Int32) (a2 : Nat) (x3 : Int32) (M : Mem), L_Pr_isZero_2 post n a0 x1 a2 x3 M → J x 4 2 [(0, .ref (xB x + a0)), (1, .int x1), (2, .ref (xB x + a2)), (3, .int x3)] [] 0 0 M := by
  intro n
  induction n with
  | zero => intro a0 x1 a2 x3 M h; exact h.elim
  | succ n ih => intro a0 x1 a2 x3 M h; exact Z_Pr_isZero_2 C hR Rt ih _ _ _ _ _ h
def T_Pr_isZero (a0 : Nat) (x1 : Int32) (a2 : Nat) (M : Mem) (post : Int32 → Mem → Prop) : Prop := (∃ n, L_Pr_isZero_2 post n a0 x1 a2 0 M)
set_option maxRecDepth 20000 in
theorem S_Pr_isZero {l : Launch} {D : va_G} {B t : Nat} {ac : Nat → ClassId} (a0 : Nat) (x1 : Int32) (a2 : Nat) (M : Mem) (post : Int32 → Mem → Prop) (h : T_Pr_isZero a0 x1 a2 M post) : Met l y_Pr_isZero w_Pr_isZero rm_Pr_isZero (va_Pc [.ref (B + a0), .int x1, .ref (B + a2)] (PRE D B t ac M)) (QI D B ac post) 0 0 (AB B) := by
  refine met_i (by decide +kernel) (Nat.le_of_ble_eq_true rfl) (fun x h1 hR h3 h4 h5 h6 C Rt => ?_)
  subst h3 h4 h5 h6
  unfold T_Pr_isZero at h
  show J x 4 0 [(0, .ref (xB x + a0)), (1, .int x1), (2, .ref (xB x + a2))] [] 0 0 M
  refine J_iconst (v := 0) C D_Pr_isZero_0 rfl ?_
  refine J_istore_n (lv' := [(3, .int 0), (0, .ref (xB x + a0)), (1, .int x1), (2, .ref (xB x + a2))]) C 3 D_Pr_isZero_1 rfl (by decide) rfl ?_
  obtain ⟨n, h⟩ := h
  exact J_sub [1, 2, 3, 0] rfl (Y_Pr_isZero_2 C hR Rt  n _ _ _ _ _ h)
theorem D_Pr_raised_0 : decode b_Pr_raised 0 = .ok (.aload_n 0, 1) := by decide +kernel
theorem D_Pr_raised_1 : decode b_Pr_raised 1 = .ok (.getfield 9, 3) := by decide +kernel
theorem D_Pr_raised_4 : decode b_Pr_raised 4 = .ok (.iload_n 1, 1) := by decide +kernel
theorem D_Pr_raised_5 : decode b_Pr_raised 5 = .ok (.iaload, 1) := by decide +kernel
theorem D_Pr_raised_6 : decode b_Pr_raised 6 = .ok (.iload_n 2, 1) := by decide +kernel
theorem D_Pr_raised_7 : decode b_Pr_raised 7 = .ok (.iconst 1, 1) := by decide +kernel
theorem D_Pr_raised_8 : decode b_Pr_raised 8 = .ok (.if_icmp .ne 7, 3) := by decide +kernel
theorem D_Pr_raised_11 : decode b_Pr_raised 11 = .ok (.iconst 1, 1) := by decide +kernel
theorem D_Pr_raised_12 : decode b_Pr_raised 12 = .ok (.goto 4, 3) := by decide +kernel
theorem D_Pr_raised_15 : decode b_Pr_raised 15 = .ok (.iconst 0, 1) := by decide +kernel
theorem D_Pr_raised_16 : decode b_Pr_raised 16 = .ok (.iadd, 1) := by decide +kernel
theorem D_Pr_raised_17 : decode b_Pr_raised 17 = .ok (.aload_n 0, 1) := by decide +kernel
theorem D_Pr_raised_18 : decode b_Pr_raised 18 = .ok (.getfield 15, 3) := by decide +kernel
theorem D_Pr_raised_21 : decode b_Pr_raised 21 = .ok (.iload_n 1, 1) := by decide +kernel
theorem D_Pr_raised_22 : decode b_Pr_raised 22 = .ok (.iaload, 1) := by decide +kernel
theorem D_Pr_raised_23 : decode b_Pr_raised 23 = .ok (.iload_n 2, 1) := by decide +kernel
theorem D_Pr_raised_24 : decode b_Pr_raised 24 = .ok (.iconst 2, 1) := by decide +kernel
theorem D_Pr_raised_25 : decode b_Pr_raised 25 = .ok (.if_icmp .ne 7, 3) := by decide +kernel
theorem D_Pr_raised_28 : decode b_Pr_raised 28 = .ok (.iconst 1, 1) := by decide +kernel
theorem D_Pr_raised_29 : decode b_Pr_raised 29 = .ok (.goto 4, 3) := by decide +kernel
theorem D_Pr_raised_32 : decode b_Pr_raised 32 = .ok (.iconst 0, 1) := by decide +kernel
theorem D_Pr_raised_33 : decode b_Pr_raised 33 = .ok (.iadd, 1) := by decide +kernel
theorem D_Pr_raised_34 : decode b_Pr_raised 34 = .ok (.invokestatic 24, 3) := by decide +kernel
theorem D_Pr_raised_37 : decode b_Pr_raised 37 = .ok (.ireturn, 1) := by decide +kernel
abbrev rm_Pr_raised : Room := { frames := 1, cells := 0, slots := 0, locals := 21 }
def B_Pr_raised_33 (post : Int32 → Mem → Prop) (s0 : Int32) (s1 : Int32) (s2 : Int32) (M : Mem) : Prop := (T_Pr_place s2 (s1 + s0) M (fun r34 M34 => post r34 M34))
set_option maxRecDepth 20000 in
theorem Z_Pr_raised_33 {x : Ctx} {post : Int32 → Mem → Prop} (C : Ok x b_Pr_raised 3 "HeapTower$Products") (hR : xR x = rm_Pr_raised) (Rt : RetI x .int post 0 0) (s0 : Int32) (s1 : Int32) (s2 : Int32) (M : Mem) (h : B_Pr_raised_33 post s0 s1 s2 M) : J x 3 33 [] [.int s0, .int s1, .int s2] 0 0 M := by
  unfold B_Pr_raised_33 at h
  refine J_iadd C D_Pr_raised_33 ?_
  refine J_callSi C ml_Pr_24 (S_Pr_place _ _ _ _ h) (by rw [hR]; decide) rfl rfl (Nat.le_of_ble_eq_true rfl) D_Pr_raised_34 (fun r34 M34 h => ?_)
  exact J_iret C Rt D_Pr_raised_37 rfl h
def B_Pr_raised_16 (post : Int32 → Mem → Prop) (a0 : Nat) (x1 : Int32) (x2 : Int32) (s0 : Int32) (s1 : Int32) (M : Mem) : Prop := (isK M a0 4 ∧ ∃ q18, gR M a0 1 = some q18 ∧ isA M q18 8 x1 ∧ (¬ x2 = 2 → (B_Pr_raised_33 post 0 (gI M q18 (Int32.toNatClampNeg x1)) (s1 + s0) M)) ∧ (x2 = 2 → (B_Pr_raised_33 post 1 (gI M q18 (Int32.toNatClampNeg x1)) (s1 + s0) M)))
set_option maxRecDepth 20000 in
theorem Z_Pr_raised_16 {x : Ctx} {post : Int32 → Mem → Prop} (C : Ok x b_Pr_raised 3 "HeapTower$Products") (hR : xR x = rm_Pr_raised) (Rt : RetI x .int post 0 0) (a0 : Nat) (x1 : Int32) (x2 : Int32) (s0 : Int32) (s1 : Int32) (M : Mem) (h : B_Pr_raised_16 post a0 x1 x2 s0 s1 M) : J x 3 16 [(0, .ref (xB x + a0)), (1, .int x1), (2, .int x2)] [.int s0, .int s1] 0 0 M := by
  unfold B_Pr_raised_16 at h
  refine J_iadd C D_Pr_raised_16 ?_
  refine J_aload_n C 0 D_Pr_raised_17 rfl rfl ?_
  obtain ⟨c_18, q18, e_18, h⟩ := h
  refine J_getR C fl_Pr_15 D_Pr_raised_18 c_18 e_18 ?_
  refine J_iload_n C 1 D_Pr_raised_21 rfl rfl ?_
  obtain ⟨c_22, h⟩ := h
  refine J_iald C D_Pr_raised_22 c_22 ?_
  refine J_iload_n C 2 D_Pr_raised_23 rfl rfl ?_
  refine J_iconst (v := 2) C D_Pr_raised_24 rfl ?_
  refine J_icmp_ne (tgt := 32) C D_Pr_raised_25 (by decide) (fun c_25 => ?_) (fun c_25 => ?_)
  · have h := h.1 c_25
    refine J_iconst (v := 0) C D_Pr_raised_32 rfl ?_
    exact J_sub [] rfl (Z_Pr_raised_33 C hR Rt  _ _ _ _ h)
  · have h := h.2 c_25
    refine J_iconst (v := 1) C D_Pr_raised_28 rfl ?_
    refine J_goto (tgt := 33) C D_Pr_raised_29 (by decide) ?_
    exact J_sub [] rfl (Z_Pr_raised_33 C hR Rt  _ _ _ _ h)
def T_Pr_raised (a0 : Nat) (x1 : Int32) (x2 : Int32) (M : Mem) (post : Int32 → Mem → Prop) : Prop := (isK M a0 4 ∧ ∃ q1, gR M a0 0 = some q1 ∧ isA M q1 8 x1 ∧ (¬ x2 = 1 → (B_Pr_raised_16 post a0 x1 x2 0 (gI M q1 (Int32.toNatClampNeg x1)) M)) ∧ (x2 = 1 → (B_Pr_raised_16 post a0 x1 x2 1 (gI M q1 (Int32.toNatClampNeg x1)) M)))
set_option maxRecDepth 20000 in
theorem S_Pr_raised {l : Launch} {D : va_G} {B t : Nat} {ac : Nat → ClassId} (a0 : Nat) (x1 : Int32) (x2 : Int32) (M : Mem) (post : Int32 → Mem → Prop) (h : T_Pr_raised a0 x1 x2 M post) : Met l y_Pr_raised w_Pr_raised rm_Pr_raised (va_Pc [.ref (B + a0), .int x1, .int x2] (PRE D B t ac M)) (QI D B ac post) 0 0 (AB B) := by
  refine met_i (by decide +kernel) (Nat.le_of_ble_eq_true rfl) (fun x h1 hR h3 h4 h5 h6 C Rt => ?_)
  subst h3 h4 h5 h6
  unfold T_Pr_raised at h
  show J x 3 0 [(0, .ref (xB x + a0)), (1, .int x1), (2, .int x2)] [] 0 0 M
  refine J_aload_n C 0 D_Pr_raised_0 rfl rfl ?_
  obtain ⟨c_1, q1, e_1, h⟩ := h
  refine J_getR C fl_Pr_9 D_Pr_raised_1 c_1 e_1 ?_
  refine J_iload_n C 1 D_Pr_raised_4 rfl rfl ?_
  obtain ⟨c_5, h⟩ := h
  refine J_iald C D_Pr_raised_5 c_5 ?_
  refine J_iload_n C 2 D_Pr_raised_6 rfl rfl ?_
  refine J_iconst (v := 1) C D_Pr_raised_7 rfl ?_
  refine J_icmp_ne (tgt := 15) C D_Pr_raised_8 (by decide) (fun c_8 => ?_) (fun c_8 => ?_)
  · have h := h.1 c_8
    refine J_iconst (v := 0) C D_Pr_raised_15 rfl ?_
    exact J_sub [0, 1, 2] rfl (Z_Pr_raised_16 C hR Rt  _ _ _ _ _ _ h)
  · have h := h.2 c_8
    refine J_iconst (v := 1) C D_Pr_raised_11 rfl ?_
    refine J_goto (tgt := 16) C D_Pr_raised_12 (by decide) ?_
    exact J_sub [0, 1, 2] rfl (Z_Pr_raised_16 C hR Rt  _ _ _ _ _ _ h)
end
section
theorem fl_Po_9 : Fld "HeapTower$Polynomial" 9 3 1 false true := ⟨R_Po, F_Po, 2, t_Po, iw_Po, rfl, by decide, rfl, rfl, by decide, rfl, (gw_in (List.mem_of_getElem? (i := 189) (by decide +kernel)) (by decide +kernel)), t_Po_ok, n_Po, rfl, (fun h => by cases h), fun _ => Or.inr ⟨_, rfl⟩⟩
theorem fl_Po_15 : Fld "HeapTower$Polynomial" 15 3 0 false true := ⟨R_Po, F_Po, 2, t_Po, iw_Po, rfl, by decide, rfl, rfl, by decide, rfl, (gw_in (List.mem_of_getElem? (i := 188) (by decide +kernel)) (by decide +kernel)), t_Po_ok, n_Po, rfl, (fun h => by cases h), fun _ => Or.inl ⟨_, rfl⟩⟩
theorem ml_Po_19 : MLS "HeapTower$Polynomial" 19 y_Ar_fill2 b_Ar_fill2 4 none 2 := ⟨List.forall_mem_cons.mpr ⟨(gw_in (List.mem_of_getElem? (i := 342) (by decide +kernel)) (by decide +kernel)), List.forall_mem_cons.mpr ⟨(gw_in (List.mem_of_getElem? (i := 343) (by decide +kernel)) (by decide +kernel)), List.forall_mem_cons.mpr ⟨(gw_in (List.mem_of_getElem? (i := 75) (by decide +kernel)) (by decide +kernel)), List.forall_mem_cons.mpr ⟨(gw_in (List.mem_of_getElem? (i := 344) (by decide +kernel)) (by decide +kernel)), fun _ h => absurd h List.not_mem_nil⟩⟩⟩⟩, by decide⟩
theorem ml_Po_34 : MLV "HeapTower$Polynomial" 34 y_Po_sizeOf b_Po_sizeOf 4 (some .int) 1 3 := ⟨List.forall_mem_cons.mpr ⟨(gw_in (List.mem_of_getElem? (i := 408) (by decide +kernel)) (by decide +kernel)), List.forall_mem_cons.mpr ⟨(gw_in (List.mem_of_getElem? (i := 410) (by decide +kernel)) (by decide +kernel)), List.forall_mem_cons.mpr ⟨(gw_in (List.mem_of_getElem? (i := 6) (by decide +kernel)) (by decide +kernel)), List.forall_mem_cons.mpr ⟨(gw_in (List.mem_of_getElem? (i := 70) (by decide +kernel)) (by decide +kernel)), List.forall_mem_cons.mpr ⟨(gw_in (List.mem_of_getElem? (i := 411) (by decide +kernel)) (by decide +kernel)), fun _ h => absurd h List.not_mem_nil⟩⟩⟩⟩⟩, by decide, F_Po, 2, rfl, by decide⟩
theorem ml_Po_38 : MLV "HeapTower$Polynomial" 38 y_Po_degree b_Po_degree 2 (some .int) 0 3 := ⟨List.forall_mem_cons.mpr ⟨(gw_in (List.mem_of_getElem? (i := 416) (by decide +kernel)) (by decide +kernel)), List.forall_mem_cons.mpr ⟨(gw_in (List.mem_of_getElem? (i := 405) (by decide +kernel)) (by decide +kernel)), List.forall_mem_cons.mpr ⟨(gw_in (List.mem_of_getElem? (i := 406) (by decide +kernel)) (by decide +kernel)), List.forall_mem_cons.mpr ⟨(gw_in (List.mem_of_getElem? (i := 70) (by decide +kernel)) (by decide +kernel)), List.forall_mem_cons.mpr ⟨(gw_in (List.mem_of_getElem? (i := 407) (by decide +kernel)) (by decide +kernel)), fun _ h => absurd h List.not_mem_nil⟩⟩⟩⟩⟩, by decide, F_Po, 2, rfl, by decide⟩
theorem ml_Po_42 : MLV "HeapTower$Polynomial" 42 y_Po_size b_Po_size 3 (some .int) 0 3 := ⟨List.forall_mem_cons.mpr ⟨(gw_in (List.mem_of_getElem? (i := 417) (by decide +kernel)) (by decide +kernel)), List.forall_mem_cons.mpr ⟨(gw_in (List.mem_of_getElem? (i := 397) (by decide +kernel)) (by decide +kernel)), List.forall_mem_cons.mpr ⟨(gw_in (List.mem_of_getElem? (i := 398) (by decide +kernel)) (by decide +kernel)), List.forall_mem_cons.mpr ⟨(gw_in (List.mem_of_getElem? (i := 70) (by decide +kernel)) (by decide +kernel)), List.forall_mem_cons.mpr ⟨(gw_in (List.mem_of_getElem? (i := 399) (by decide +kernel)) (by decide +kernel)), fun _ h => absurd h List.not_mem_nil⟩⟩⟩⟩⟩, by decide, F_Po, 2, rfl, by decide⟩
theorem ml_Po_45 : MLV "HeapTower$Polynomial" 45 y_Pr_amount b_Pr_amount 2 (some .int) 1 4 := ⟨List.forall_mem_cons.mpr ⟨(gw_in (List.mem_of_getElem? (i := 426) (by decide +kernel)) (by decide +kernel)), List.forall_mem_cons.mpr ⟨(gw_in (List.mem_of_getElem? (i := 427) (by decide +kernel)) (by decide +kernel)), List.forall_mem_cons.mpr ⟨(gw_in (List.mem_of_getElem? (i := 428) (by decide +kernel)) (by decide +kernel)), List.forall_mem_cons.mpr ⟨(gw_in (List.mem_of_getElem? (i := 67) (by decide +kernel)) (by decide +kernel)), List.forall_mem_cons.mpr ⟨(gw_in (List.mem_of_getElem? (i := 429) (by decide +kernel)) (by decide +kernel)), fun _ h => absurd h List.not_mem_nil⟩⟩⟩⟩⟩, by decide, F_Pr, 6, rfl, by decide⟩
theorem ml_Po_50 : MLV "HeapTower$Polynomial" 50 y_Pr_at b_Pr_at 3 (some .int) 2 4 := ⟨List.forall_mem_cons.mpr ⟨(gw_in (List.mem_of_getElem? (i := 430) (by decide +kernel)) (by decide +kernel)), List.forall_mem_cons.mpr ⟨(gw_in (List.mem_of_getElem? (i := 431) (by decide +kernel)) (by decide +kernel)), List.forall_mem_cons.mpr ⟨(gw_in (List.mem_of_getElem? (i := 432) (by decide +kernel)) (by decide +kernel)), List.forall_mem_cons.mpr ⟨(gw_in (List.mem_of_getElem? (i := 67) (by decide +kernel)) (by decide +kernel)), List.forall_mem_cons.mpr ⟨(gw_in (List.mem_of_getElem? (i := 433) (by decide +kernel)) (by decide +kernel)), fun _ h => absurd h List.not_mem_nil⟩⟩⟩⟩⟩, by decide, F_Pr, 6, rfl, by decide⟩
theorem ml_Po_54 : MLV "HeapTower$Polynomial" 54 y_Po_numberAt b_Po_numberAt 3 (some .int) 2 3 := ⟨List.forall_mem_cons.mpr ⟨(gw_in (List.mem_of_getElem? (i := 434) (by decide +kernel)) (by decide +kernel)), List.forall_mem_cons.mpr ⟨(gw_in (List.mem_of_getElem? (i := 369) (by decide +kernel)) (by decide +kernel)), List.forall_mem_cons.mpr ⟨(gw_in (List.mem_of_getElem? (i := 370) (by decide +kernel)) (by decide +kernel)), List.forall_mem_cons.mpr ⟨(gw_in (List.mem_of_getElem? (i := 70) (by decide +kernel)) (by decide +kernel)), List.forall_mem_cons.mpr ⟨(gw_in (List.mem_of_getElem? (i := 371) (by decide +kernel)) (by decide +kernel)), fun _ h => absurd h List.not_mem_nil⟩⟩⟩⟩⟩, by decide, F_Po, 2, rfl, by decide⟩
theorem ml_Po_57 : MLS "HeapTower$Polynomial" 57 y_Ar_fill4 b_Ar_fill4 5 none 4 := ⟨List.forall_mem_cons.mpr ⟨(gw_in (List.mem_of_getElem? (i := 447) (by decide +kernel)) (by decide +kernel)), List.forall_mem_cons.mpr ⟨(gw_in (List.mem_of_getElem? (i := 448) (by decide +kernel)) (by decide +kernel)), List.forall_mem_cons.mpr ⟨(gw_in (List.mem_of_getElem? (i := 75) (by decide +kernel)) (by decide +kernel)), List.forall_mem_cons.mpr ⟨(gw_in (List.mem_of_getElem? (i := 449) (by decide +kernel)) (by decide +kernel)), fun _ h => absurd h List.not_mem_nil⟩⟩⟩⟩, by decide⟩
theorem ml_Po_60 : MLV "HeapTower$Polynomial" 60 y_Po_movePartUp b_Po_movePartUp 6 none 3 3 := ⟨List.forall_mem_cons.mpr ⟨(gw_in (List.mem_of_getElem? (i := 453) (by decide +kernel)) (by decide +kernel)), List.forall_mem_cons.mpr ⟨(gw_in (List.mem_of_getElem? (i := 455) (by decide +kernel)) (by decide +kernel)), List.forall_mem_cons.mpr ⟨(gw_in (List.mem_of_getElem? (i := 8) (by decide +kernel)) (by decide +kernel)), List.forall_mem_cons.mpr ⟨(gw_in (List.mem_of_getElem? (i := 70) (by decide +kernel)) (by decide +kernel)), List.forall_mem_cons.mpr ⟨(gw_in (List.mem_of_getElem? (i := 456) (by decide +kernel)) (by decide +kernel)), fun _ h => absurd h List.not_mem_nil⟩⟩⟩⟩⟩, by decide, F_Po, 2, rfl, by decide⟩
theorem ml_Po_64 : MLV "HeapTower$Polynomial" 64 y_Pr_together b_Pr_together 3 (some .int) 2 4 := ⟨List.forall_mem_cons.mpr ⟨(gw_in (List.mem_of_getElem? (i := 457) (by decide +kernel)) (by decide +kernel)), List.forall_mem_cons.mpr ⟨(gw_in (List.mem_of_getElem? (i := 458) (by decide +kernel)) (by decide +kernel)), List.forall_mem_cons.mpr ⟨(gw_in (List.mem_of_getElem? (i := 459) (by decide +kernel)) (by decide +kernel)), List.forall_mem_cons.mpr ⟨(gw_in (List.mem_of_getElem? (i := 67) (by decide +kernel)) (by decide +kernel)), List.forall_mem_cons.mpr ⟨(gw_in (List.mem_of_getElem? (i := 460) (by decide +kernel)) (by decide +kernel)), fun _ h => absurd h List.not_mem_nil⟩⟩⟩⟩⟩, by decide, F_Pr, 6, rfl, by decide⟩
theorem ml_Po_67 : MLV "HeapTower$Polynomial" 67 y_Po_setNumber b_Po_setNumber 4 none 3 3 := ⟨List.forall_mem_cons.mpr ⟨(gw_in (List.mem_of_getElem? (i := 461) (by decide +kernel)) (by decide +kernel)), List.forall_mem_cons.mpr ⟨(gw_in (List.mem_of_getElem? (i := 381) (by decide +kernel)) (by decide +kernel)), List.forall_mem_cons.mpr ⟨(gw_in (List.mem_of_getElem? (i := 382) (by decide +kernel)) (by decide +kernel)), List.forall_mem_cons.mpr ⟨(gw_in (List.mem_of_getElem? (i := 70) (by decide +kernel)) (by decide +kernel)), List.forall_mem_cons.mpr ⟨(gw_in (List.mem_of_getElem? (i := 383) (by decide +kernel)) (by decide +kernel)), fun _ h => absurd h List.not_mem_nil⟩⟩⟩⟩⟩, by decide, F_Po, 2, rfl, by decide⟩
theorem kc_Po_25 : KC "HeapTower$Polynomial" 25 := ⟨⟨(gw_in (List.mem_of_getElem? (i := 482) (by decide +kernel)) (by decide +kernel)), (gw_in (List.mem_of_getElem? (i := 484) (by decide +kernel)) (by decide +kernel))⟩, (gw_in (List.mem_of_getElem? (i := 483) (by decide +kernel)) (by decide +kernel)), (gw_in (List.mem_of_getElem? (i := 76) (by decide +kernel)) (by decide +kernel))⟩
theorem D_Po_clear_0 : decode b_Po_clear 0 = .ok (.aload_n 0, 1) := by decide +kernel
theorem D_Po_clear_1 : decode b_Po_clear 1 = .ok (.getfield 9, 3) := by decide +kernel
theorem D_Po_clear_4 : decode b_Po_clear 4 = .ok (.iconst 0, 1) := by decide +kernel
theorem D_Po_clear_5 : decode b_Po_clear 5 = .ok (.invokestatic 19, 3) := by decide +kernel
theorem D_Po_clear_8 : decode b_Po_clear 8 = .ok (.return_, 1) := by decide +kernel
abbrev rm_Po_clear : Room := { frames := 1, cells := 0, slots := 0, locals := 23 }
def T_Po_clear (a0 : Nat) (M : Mem) (post : Mem → Prop) : Prop := (isK M a0 3 ∧ ∃ q1, gR M a0 1 = some q1 ∧ T_Ar_fill2 q1 0 M (fun M5 => post M5))
set_option maxRecDepth 20000 in
theorem S_Po_clear {l : Launch} {D : va_G} {B t : Nat} {ac : Nat → ClassId} (a0 : Nat) (M : Mem) (post : Mem → Prop) (h : T_Po_clear a0 M post) : Met l y_Po_clear w_Po_clear rm_Po_clear (va_Pc [.ref (B + a0)] (PRE D B t ac M)) (QV D B ac post) 0 0 (AB B) := by
  refine met_v (by decide +kernel) (Nat.le_of_ble_eq_true rfl) (fun x h1 hR h3 h4 h5 h6 C Rt Nm => ?_)
  subst h3 h4 h5 h6
  unfold T_Po_clear at h
  show J x 1 0 [(0, .ref (xB x + a0))] [] 0 0 M
  refine J_aload_n C 0 D_Po_clear_0 rfl rfl ?_
  obtain ⟨c_1, q1, e_1, h⟩ := h
  refine J_getR C fl_Po_9 D_Po_clear_1 c_1 e_1 ?_
  refine J_iconst (v := 0) C D_Po_clear_4 rfl ?_
  refine J_callSv C ml_Po_19 (S_Ar_fill2 _ _ _ _ h) (by rw [hR]; decide) rfl rfl (Nat.le_of_ble_eq_true rfl) D_Po_clear_5 (fun M5 h => ?_)
  exact J_vret C Rt D_Po_clear_8 h
theorem D_Po_numberAt_0 : decode b_Po_numberAt 0 = .ok (.aload_n 0, 1) := by decide +kernel
theorem D_Po_numberAt_1 : decode b_Po_numberAt 1 = .ok (.getfield 9, 3) := by decide +kernel
theorem D_Po_numberAt_4 : decode b_Po_numberAt 4 = .ok (.getstatic 31, 3) := by decide +kernel
theorem D_Po_numberAt_7 : decode b_Po_numberAt 7 = .ok (.iload_n 1, 1) := by decide +kernel
theorem D_Po_numberAt_8 : decode b_Po_numberAt 8 = .ok (.iaload, 1) := by decide +kernel
theorem D_Po_numberAt_9 : decode b_Po_numberAt 9 = .ok (.iload_n 2, 1) := by decide +kernel
theorem D_Po_numberAt_10 : decode b_Po_numberAt 10 = .ok (.iadd, 1) := by decide +kernel
theorem D_Po_numberAt_11 : decode b_Po_numberAt 11 = .ok (.iaload, 1) := by decide +kernel
theorem D_Po_numberAt_12 : decode b_Po_numberAt 12 = .ok (.ireturn, 1) := by decide +kernel
abbrev rm_Po_numberAt : Room := { frames := 0, cells := 0, slots := 0, locals := 0 }
def T_Po_numberAt (a0 : Nat) (x1 : Int32) (x2 : Int32) (M : Mem) (post : Int32 → Mem → Prop) : Prop := (isK M a0 3 ∧ ∃ q1, gR M a0 1 = some q1 ∧ vp_in x1 12 ∧ isA M q1 8 ((fst (Int32.toNatClampNeg x1)) + x2) ∧ post (gI M q1 (Int32.toNatClampNeg ((fst (Int32.toNatClampNeg x1)) + x2))) M)
set_option maxRecDepth 20000 in
theorem S_Po_numberAt {l : Launch} {D : va_G} {B t : Nat} {ac : Nat → ClassId} (a0 : Nat) (x1 : Int32) (x2 : Int32) (M : Mem) (post : Int32 → Mem → Prop) (h : T_Po_numberAt a0 x1 x2 M post) : Met l y_Po_numberAt w_Po_numberAt rm_Po_numberAt (va_Pc [.ref (B + a0), .int x1, .int x2] (PRE D B t ac M)) (QI D B ac post) 0 0 (AB B) := by
  refine met_i (by decide +kernel) (Nat.le_of_ble_eq_true rfl) (fun x h1 hR h3 h4 h5 h6 C Rt => ?_)
  subst h3 h4 h5 h6
  unfold T_Po_numberAt at h
  show J x 3 0 [(0, .ref (xB x + a0)), (1, .int x1), (2, .int x2)] [] 0 0 M
  refine J_aload_n C 0 D_Po_numberAt_0 rfl rfl ?_
  obtain ⟨c_1, q1, e_1, h⟩ := h
  refine J_getR C fl_Po_9 D_Po_numberAt_1 c_1 e_1 ?_
  refine J_first C (by decide) D_Po_numberAt_4 ?_
  refine J_iload_n C 1 D_Po_numberAt_7 rfl rfl ?_
  obtain ⟨c_8, h⟩ := h
  refine J_fald C D_Po_numberAt_8 c_8 ?_
  refine J_iload_n C 2 D_Po_numberAt_9 rfl rfl ?_
  refine J_iadd C D_Po_numberAt_10 ?_
  obtain ⟨c_11, h⟩ := h
  refine J_iald C D_Po_numberAt_11 c_11 ?_
  exact J_iret C Rt D_Po_numberAt_12 rfl h
theorem D_Po_setNumber_0 : decode b_Po_setNumber 0 = .ok (.aload_n 0, 1) := by decide +kernel
theorem D_Po_setNumber_1 : decode b_Po_setNumber 1 = .ok (.getfield 9, 3) := by decide +kernel
theorem D_Po_setNumber_4 : decode b_Po_setNumber 4 = .ok (.getstatic 31, 3) := by decide +kernel
theorem D_Po_setNumber_7 : decode b_Po_setNumber 7 = .ok (.iload_n 1, 1) := by decide +kernel
theorem D_Po_setNumber_8 : decode b_Po_setNumber 8 = .ok (.iaload, 1) := by decide +kernel
theorem D_Po_setNumber_9 : decode b_Po_setNumber 9 = .ok (.iload_n 2, 1) := by decide +kernel
theorem D_Po_setNumber_10 : decode b_Po_setNumber 10 = .ok (.iadd, 1) := by decide +kernel
theorem D_Po_setNumber_11 : decode b_Po_setNumber 11 = .ok (.iload_n 3, 1) := by decide +kernel
theorem D_Po_setNumber_12 : decode b_Po_setNumber 12 = .ok (.iastore, 1) := by decide +kernel
theorem D_Po_setNumber_13 : decode b_Po_setNumber 13 = .ok (.return_, 1) := by decide +kernel
abbrev rm_Po_setNumber : Room := { frames := 0, cells := 0, slots := 0, locals := 0 }
def T_Po_setNumber (a0 : Nat) (x1 : Int32) (x2 : Int32) (x3 : Int32) (M : Mem) (post : Mem → Prop) : Prop := (isK M a0 3 ∧ ∃ q1, gR M a0 1 = some q1 ∧ vp_in x1 12 ∧ isA M q1 8 ((fst (Int32.toNatClampNeg x1)) + x2) ∧ post (sI M q1 (Int32.toNatClampNeg ((fst (Int32.toNatClampNeg x1)) + x2)) x3))
set_option maxRecDepth 20000 in
theorem S_Po_setNumber {l : Launch} {D : va_G} {B t : Nat} {ac : Nat → ClassId} (a0 : Nat) (x1 : Int32) (x2 : Int32) (x3 : Int32) (M : Mem) (post : Mem → Prop) (h : T_Po_setNumber a0 x1 x2 x3 M post) : Met l y_Po_setNumber w_Po_setNumber rm_Po_setNumber (va_Pc [.ref (B + a0), .int x1, .int x2, .int x3] (PRE D B t ac M)) (QV D B ac post) 0 0 (AB B) := by
  refine met_v (by decide +kernel) (Nat.le_of_ble_eq_true rfl) (fun x h1 hR h3 h4 h5 h6 C Rt Nm => ?_)
  subst h3 h4 h5 h6
  unfold T_Po_setNumber at h
  show J x 4 0 [(0, .ref (xB x + a0)), (1, .int x1), (2, .int x2), (3, .int x3)] [] 0 0 M
  refine J_aload_n C 0 D_Po_setNumber_0 rfl rfl ?_
  obtain ⟨c_1, q1, e_1, h⟩ := h
  refine J_getR C fl_Po_9 D_Po_setNumber_1 c_1 e_1 ?_
  refine J_first C (by decide) D_Po_setNumber_4 ?_
  refine J_iload_n C 1 D_Po_setNumber_7 rfl rfl ?_
  obtain ⟨c_8, h⟩ := h
  refine J_fald C D_Po_setNumber_8 c_8 ?_
  refine J_iload_n C 2 D_Po_setNumber_9 rfl rfl ?_
  refine J_iadd C D_Po_setNumber_10 ?_
  refine J_iload_n C 3 D_Po_setNumber_11 rfl rfl ?_
  obtain ⟨c_12, h⟩ := h
  refine J_iast C D_Po_setNumber_12 c_12 ?_
  exact J_vret C Rt D_Po_setNumber_13 h
theorem D_Po_size_0 : decode b_Po_size 0 = .ok (.iconst 0, 1) := by decide +kernel
theorem D_Po_size_1 : decode b_Po_size 1 = .ok (.istore_n 1, 1) := by decide +kernel
theorem D_Po_size_2 : decode b_Po_size 2 = .ok (.iconst 0, 1) := by decide +kernel
theorem D_Po_size_3 : decode b_Po_size 3 = .ok (.istore_n 2, 1) := by decide +kernel
theorem D_Po_size_4 : decode b_Po_size 4 = .ok (.iload_n 2, 1) := by decide +kernel
theorem D_Po_size_5 : decode b_Po_size 5 = .ok (.sipush 286, 3) := by decide +kernel
theorem D_Po_size_8 : decode b_Po_size 8 = .ok (.if_icmp .ge 26, 3) := by decide +kernel
theorem D_Po_size_11 : decode b_Po_size 11 = .ok (.iload_n 1, 1) := by decide +kernel
theorem D_Po_size_12 : decode b_Po_size 12 = .ok (.aload_n 0, 1) := by decide +kernel
theorem D_Po_size_13 : decode b_Po_size 13 = .ok (.getfield 9, 3) := by decide +kernel
theorem D_Po_size_16 : decode b_Po_size 16 = .ok (.iload_n 2, 1) := by decide +kernel
theorem D_Po_size_17 : decode b_Po_size 17 = .ok (.iaload, 1) := by decide +kernel
theorem D_Po_size_18 : decode b_Po_size 18 = .ok (.ifCond .eq 7, 3) := by decide +kernel
theorem D_Po_size_21 : decode b_Po_size 21 = .ok (.iconst 1, 1) := by decide +kernel
theorem D_Po_size_22 : decode b_Po_size 22 = .ok (.goto 4, 3) := by decide +kernel
theorem D_Po_size_25 : decode b_Po_size 25 = .ok (.iconst 0, 1) := by decide +kernel
theorem D_Po_size_26 : decode b_Po_size 26 = .ok (.iadd, 1) := by decide +kernel
theorem D_Po_size_27 : decode b_Po_size 27 = .ok (.istore_n 1, 1) := by decide +kernel
theorem D_Po_size_28 : decode b_Po_size 28 = .ok (.iinc 2 1, 3) := by decide +kernel
theorem D_Po_size_31 : decode b_Po_size 31 = .ok (.goto (-27), 3) := by decide +kernel
theorem D_Po_size_34 : decode b_Po_size 34 = .ok (.iload_n 1, 1) := by decide +kernel
theorem D_Po_size_35 : decode b_Po_size 35 = .ok (.ireturn, 1) := by decide +kernel
abbrev rm_Po_size : Room := { frames := 0, cells := 0, slots := 0, locals := 0 }
def B_Po_size_26 (k4 : Nat → Int32 → Int32 → Mem → Prop) (post : Int32 → Mem → Prop) (a0 : Nat) (x2 : Int32) (s0 : Int32) (s1 : Int32) (M : Mem) : Prop := (k4 a0 (s1 + s0) (x2 + 1) M)
set_option maxRecDepth 20000 in
theorem Z_Po_size_26 {x : Ctx} {post : Int32 → Mem → Prop} (C : Ok x b_Po_size 3 "HeapTower$Polynomial") (hR : xR x = rm_Po_size) (Rt : RetI x .int post 0 0) {k4 : Nat → Int32 → Int32 → Mem → Prop} (K4 : ∀ (a0 : Nat) (x1 : Int32) (x2 : Int32) (M : Mem), k4 a0 x1 x2 M → J x 3 4 [(0, .ref (xB x + a0)), (1, .int x1), (2, .int x2)] [] 0 0 M) (a0 : Nat) (x2 : Int32) (s0 : Int32) (s1 : Int32) (M : Mem) (h : B_Po_size_26 k4 post a0 x2 s0 s1 M) : J x 3 26 [(0, .ref (xB x + a0)), (2, .int x2)] [.int s0, .int s1] 0 0 M := by
  unfold B_Po_size_26 at h
  refine J_iadd C D_Po_size_26 ?_
  refine J_istore_n (lv' := [(1, .int (s1 + s0)), (0, .ref (xB x + a0)), (2, .int x2)]) C 1 D_Po_size_27 rfl (by decide) rfl ?_
  refine J_iinc (v := x2 + 1) (lv' := [(2, .int (x2 + 1)), (1, .int (s1 + s0)), (0, .ref (xB x + a0))]) C 2 2 D_Po_size_28 rfl rfl (by decide) rfl ?_
  refine J_goto (tgt := 4) C D_Po_size_31 (by decide) ?_
  exact J_sub [2, 1, 0] rfl (K4 _ _ _ _ h)
def B_Po_size_4 (k4 : Nat → Int32 → Int32 → Mem → Prop) (post : Int32 → Mem → Prop) (a0 : Nat) (x1 : Int32) (x2 : Int32) (M : Mem) : Prop := ((286 ≤ x2 → (post x1 M)) ∧ (¬ 286 ≤ x2 → (isK M a0 3 ∧ ∃ q13, gR M a0 1 = some q13 ∧ isA M q13 8 x2 ∧ ((gI M q13 (Int32.toNatClampNeg x2)) = 0 → (B_Po_size_26 k4 post a0 x2 0 x1 M)) ∧ (¬ (gI M q13 (Int32.toNatClampNeg x2)) = 0 → (B_Po_size_26 k4 post a0 x2 1 x1 M)))))
set_option maxRecDepth 20000 in
theorem Z_Po_size_4 {x : Ctx} {post : Int32 → Mem → Prop} (C : Ok x b_Po_size 3 "HeapTower$Polynomial") (hR : xR x = rm_Po_size) (Rt : RetI x .int post 0 0) {k4 : Nat → Int32 → Int32 → Mem → Prop} (K4 : ∀ (a0 : Nat) (x1 : Int32) (x2 : Int32) (M : Mem), k4 a0 x1 x2 M → J x 3 4 [(0, .ref (xB x + a0)), (1, .int x1), (2, .int x2)] [] 0 0 M) (a0 : Nat) (x1 : Int32) (x2 : Int32) (M : Mem) (h : B_Po_size_4 k4 post a0 x1 x2 M) : J x 3 4 [(0, .ref (xB x + a0)), (1, .int x1), (2, .int x2)] [] 0 0 M := by
  unfold B_Po_size_4 at h
  refine J_iload_n C 2 D_Po_size_4 rfl rfl ?_
  refine J_sipush (v := 286) C D_Po_size_5 rfl ?_
  refine J_icmp_ge (tgt := 34) C D_Po_size_8 (by decide) (fun c_8 => ?_) (fun c_8 => ?_)
  · have h := h.1 c_8
    refine J_iload_n C 1 D_Po_size_34 rfl rfl ?_
    exact J_iret C Rt D_Po_size_35 rfl h
  · have h := h.2 c_8
    refine J_iload_n C 1 D_Po_size_11 rfl rfl ?_
    refine J_aload_n C 0 D_Po_size_12 rfl rfl ?_
    obtain ⟨c_13, q13, e_13, h⟩ := h
    refine J_getR C fl_Po_9 D_Po_size_13 c_13 e_13 ?_
    refine J_iload_n C 2 D_Po_size_16 rfl rfl ?_
    obtain ⟨c_17, h⟩ := h
    refine J_iald C D_Po_size_17 c_17 ?_
    refine J_if_eq (tgt := 25) C D_Po_size_18 (by decide) (fun c_18 => ?_) (fun c_18 => ?_)
    · have h := h.1 c_18
      refine J_iconst (v := 0) C D_Po_size_25 rfl ?_
      exact J_sub [0, 2] rfl (Z_Po_size_26 C hR Rt K4 _ _ _ _ _ h)
    · have h := h.2 c_18
      refine J_iconst (v := 1) C D_Po_size_21 rfl ?_
      refine J_goto (tgt := 26) C D_Po_size_22 (by decide) ?_
      exact J_sub [0, 2] rfl (Z_Po_size_26 C hR Rt K4 _ _ _ _ _ h)
def L_Po_size_4 (post : Int32 → Mem → Prop) : Nat → Nat → Int32 → Int32 → Mem → Prop
  | 0, _, _, _, _ => False
  | n + 1, a0, x1, x2, M => B_Po_size_4 (L_Po_size_4 post n) post a0 x1 x2 M
theorem Y_Po_size_4 {x : Ctx} {post : Int32 → Mem → Prop} (C : Ok x b_Po_size 3 "HeapTower$Polynomial") (hR : xR x = rm_Po_size) (Rt : RetI x .int post 0 0) : ∀ (n : Nat) (a0 : Nat) (x1 : Int32) (x2 : Int32) (M : Mem), L_Po_size_4 post n a0 x1 x2 M → J x 3 4 [(0, .ref (xB x + a0)), (1, .int x1), (2, .int x2)] [] 0 0 M := by
  intro n
  induction n with
  | zero => intro a0 x1 x2 M h; exact h.elim
  | succ n ih => intro a0 x1 x2 M h; exact Z_Po_size_4 C hR Rt ih _ _ _ _ h
def T_Po_size (a0 : Nat) (M : Mem) (post : Int32 → Mem → Prop) : Prop := (∃ n, L_Po_size_4 post n a0 0 0 M)
set_option maxRecDepth 20000 in
theorem S_Po_size {l : Launch} {D : va_G} {B t : Nat} {ac : Nat → ClassId} (a0 : Nat) (M : Mem) (post : Int32 → Mem → Prop) (h : T_Po_size a0 M post) : Met l y_Po_size w_Po_size rm_Po_size (va_Pc [.ref (B + a0)] (PRE D B t ac M)) (QI D B ac post) 0 0 (AB B) := by
  refine met_i (by decide +kernel) (Nat.le_of_ble_eq_true rfl) (fun x h1 hR h3 h4 h5 h6 C Rt => ?_)
  subst h3 h4 h5 h6
  unfold T_Po_size at h
  show J x 3 0 [(0, .ref (xB x + a0))] [] 0 0 M
  refine J_iconst (v := 0) C D_Po_size_0 rfl ?_
  refine J_istore_n (lv' := [(1, .int 0), (0, .ref (xB x + a0))]) C 1 D_Po_size_1 rfl (by decide) rfl ?_
  refine J_iconst (v := 0) C D_Po_size_2 rfl ?_
  refine J_istore_n (lv' := [(2, .int 0), (1, .int 0), (0, .ref (xB x + a0))]) C 2 D_Po_size_3 rfl (by decide) rfl ?_
  obtain ⟨n, h⟩ := h
  exact J_sub [2, 1, 0] rfl (Y_Po_size_4 C hR Rt  n _ _ _ _ h)
theorem D_Po_sizeOf_0 : decode b_Po_sizeOf 0 = .ok (.iconst 0, 1) := by decide +kernel
theorem D_Po_sizeOf_1 : decode b_Po_sizeOf 1 = .ok (.istore_n 2, 1) := by decide +kernel
theorem D_Po_sizeOf_2 : decode b_Po_sizeOf 2 = .ok (.getstatic 31, 3) := by decide +kernel
theorem D_Po_sizeOf_5 : decode b_Po_sizeOf 5 = .ok (.iload_n 1, 1) := by decide +kernel
theorem D_Po_sizeOf_6 : decode b_Po_sizeOf 6 = .ok (.iaload, 1) := by decide +kernel
theorem D_Po_sizeOf_7 : decode b_Po_sizeOf 7 = .ok (.istore_n 3, 1) := by decide +kernel
theorem D_Po_sizeOf_8 : decode b_Po_sizeOf 8 = .ok (.iload_n 3, 1) := by decide +kernel
theorem D_Po_sizeOf_9 : decode b_Po_sizeOf 9 = .ok (.getstatic 31, 3) := by decide +kernel
theorem D_Po_sizeOf_12 : decode b_Po_sizeOf 12 = .ok (.iload_n 1, 1) := by decide +kernel
theorem D_Po_sizeOf_13 : decode b_Po_sizeOf 13 = .ok (.iconst 1, 1) := by decide +kernel
theorem D_Po_sizeOf_14 : decode b_Po_sizeOf 14 = .ok (.iadd, 1) := by decide +kernel
theorem D_Po_sizeOf_15 : decode b_Po_sizeOf 15 = .ok (.iaload, 1) := by decide +kernel
theorem D_Po_sizeOf_16 : decode b_Po_sizeOf 16 = .ok (.if_icmp .ge 26, 3) := by decide +kernel
theorem D_Po_sizeOf_19 : decode b_Po_sizeOf 19 = .ok (.iload_n 2, 1) := by decide +kernel
theorem D_Po_sizeOf_20 : decode b_Po_sizeOf 20 = .ok (.aload_n 0, 1) := by decide +kernel
theorem D_Po_sizeOf_21 : decode b_Po_sizeOf 21 = .ok (.getfield 9, 3) := by decide +kernel
theorem D_Po_sizeOf_24 : decode b_Po_sizeOf 24 = .ok (.iload_n 3, 1) := by decide +kernel
theorem D_Po_sizeOf_25 : decode b_Po_sizeOf 25 = .ok (.iaload, 1) := by decide +kernel
theorem D_Po_sizeOf_26 : decode b_Po_sizeOf 26 = .ok (.ifCond .eq 7, 3) := by decide +kernel
theorem D_Po_sizeOf_29 : decode b_Po_sizeOf 29 = .ok (.iconst 1, 1) := by decide +kernel
theorem D_Po_sizeOf_30 : decode b_Po_sizeOf 30 = .ok (.goto 4, 3) := by decide +kernel
theorem D_Po_sizeOf_33 : decode b_Po_sizeOf 33 = .ok (.iconst 0, 1) := by decide +kernel
theorem D_Po_sizeOf_34 : decode b_Po_sizeOf 34 = .ok (.iadd, 1) := by decide +kernel
theorem D_Po_sizeOf_35 : decode b_Po_sizeOf 35 = .ok (.istore_n 2, 1) := by decide +kernel
theorem D_Po_sizeOf_36 : decode b_Po_sizeOf 36 = .ok (.iinc 3 1, 3) := by decide +kernel
theorem D_Po_sizeOf_39 : decode b_Po_sizeOf 39 = .ok (.goto (-31), 3) := by decide +kernel
theorem D_Po_sizeOf_42 : decode b_Po_sizeOf 42 = .ok (.iload_n 2, 1) := by decide +kernel
theorem D_Po_sizeOf_43 : decode b_Po_sizeOf 43 = .ok (.ireturn, 1) := by decide +kernel
abbrev rm_Po_sizeOf : Room := { frames := 0, cells := 0, slots := 0, locals := 0 }
def B_Po_sizeOf_34 (k8 : Nat → Int32 → Int32 → Int32 → Mem → Prop) (post : Int32 → Mem → Prop) (a0 : Nat) (x1 : Int32) (x3 : Int32) (s0 : Int32) (s1 : Int32) (M : Mem) : Prop := (k8 a0 x1 (s1 + s0) (x3 + 1) M)
set_option maxRecDepth 20000 in
theorem Z_Po_sizeOf_34 {x : Ctx} {post : Int32 → Mem → Prop} (C : Ok x b_Po_sizeOf 4 "HeapTower$Polynomial") (hR : xR x = rm_Po_sizeOf) (Rt : RetI x .int post 0 0) {k8 : Nat → Int32 → Int32 → Int32 → Mem → Prop} (K8 : ∀ (a0 : Nat) (x1 : Int32) (x2 : Int32) (x3 : Int32) (M : Mem), k8 a0 x1 x2 x3 M → J x 4 8 [(0, .ref (xB x + a0)), (1, .int x1), (2, .int x2), (3, .int x3)] [] 0 0 M) (a0 : Nat) (x1 : Int32) (x3 : Int32) (s0 : Int32) (s1 : Int32) (M : Mem) (h : B_Po_sizeOf_34 k8 post a0 x1 x3 s0 s1 M) : J x 4 34 [(0, .ref (xB x + a0)), (1, .int x1), (3, .int x3)] [.int s0, .int s1] 0 0 M := by
  unfold B_Po_sizeOf_34 at h
  refine J_iadd C D_Po_sizeOf_34 ?_
  refine J_istore_n (lv' := [(2, .int (s1 + s0)), (0, .ref (xB x + a0)), (1, .int x1), (3, .int x3)]) C 2 D_Po_sizeOf_35 rfl (by decide) rfl ?_
  refine J_iinc (v := x3 + 1) (lv' := [(3, .int (x3 + 1)), (2, .int (s1 + s0)), (0, .ref (xB x + a0)), (1, .int x1)]) C 3 3 D_Po_sizeOf_36 rfl rfl (by decide) rfl ?_
  refine J_goto (tgt := 8) C D_Po_sizeOf_39 (by decide) ?_
  exact J_sub [2, 3, 1, 0] rfl (K8 _ _ _ _ _ h)
def B_Po_sizeOf_8 (k8 : Nat → Int32 → Int32 → Int32 → Mem → Prop) (post : Int32 → Mem → Prop) (a0 : Nat) (x1 : Int32) (x2 : Int32) (x3 : Int32) (M : Mem) : Prop := (vp_in (x1 + 1) 12 ∧ ((fst (Int32.toNatClampNeg (x1 + 1))) ≤ x3 → (post x2 M)) ∧ (¬ (fst (Int32.toNatClampNeg (x1 + 1))) ≤ x3 → (isK M a0 3 ∧ ∃ q21, gR M a0 1 = some q21 ∧ isA M q21 8 x3 ∧ ((gI M q21 (Int32.toNatClampNeg x3)) = 0 → (B_Po_sizeOf_34 k8 post a0 x1 x3 0 x2 M)) ∧ (¬ (gI M q21 (Int32.toNatClampNeg x3)) = 0 → (B_Po_sizeOf_34 k8 post a0 x1 x3 1 x2 M)))))
set_option maxRecDepth 20000 in
theorem Z_Po_sizeOf_8 {x : Ctx} {post : Int32 → Mem → Prop} (C : Ok x b_Po_sizeOf 4 "HeapTower$Polynomial") (hR : xR x = rm_Po_sizeOf) (Rt : RetI x .int post 0 0) {k8 : Nat → Int32 → Int32 → Int32 → Mem → Prop} (K8 : ∀ (a0 : Nat) (x1 : Int32) (x2 : Int32) (x3 : Int32) (M : Mem), k8 a0 x1 x2 x3 M → J x 4 8 [(0, .ref (xB x + a0)), (1, .int x1), (2, .int x2), (3, .int x3)] [] 0 0 M) (a0 : Nat) (x1 : Int32) (x2 : Int32) (x3 : Int32) (M : Mem) (h : B_Po_sizeOf_8 k8 post a0 x1 x2 x3 M) : J x 4 8 [(0, .ref (xB x + a0)), (1, .int x1), (2, .int x2), (3, .int x3)] [] 0 0 M := by
  unfold B_Po_sizeOf_8 at h
  refine J_iload_n C 3 D_Po_sizeOf_8 rfl rfl ?_
  refine J_first C (by decide) D_Po_sizeOf_9 ?_
  refine J_iload_n C 1 D_Po_sizeOf_12 rfl rfl ?_
  refine J_iconst (v := 1) C D_Po_sizeOf_13 rfl ?_
  refine J_iadd C D_Po_sizeOf_14 ?_
  obtain ⟨c_15, h⟩ := h
  refine J_fald C D_Po_sizeOf_15 c_15 ?_
  refine J_icmp_ge (tgt := 42) C D_Po_sizeOf_16 (by decide) (fun c_16 => ?_) (fun c_16 => ?_)
  · have h := h.1 c_16
    refine J_iload_n C 2 D_Po_sizeOf_42 rfl rfl ?_
    exact J_iret C Rt D_Po_sizeOf_43 rfl h
  · have h := h.2 c_16
    refine J_iload_n C 2 D_Po_sizeOf_19 rfl rfl ?_
    refine J_aload_n C 0 D_Po_sizeOf_20 rfl rfl ?_
    obtain ⟨c_21, q21, e_21, h⟩ := h
    refine J_getR C fl_Po_9 D_Po_sizeOf_21 c_21 e_21 ?_
    refine J_iload_n C 3 D_Po_sizeOf_24 rfl rfl ?_
    obtain ⟨c_25, h⟩ := h
    refine J_iald C D_Po_sizeOf_25 c_25 ?_
    refine J_if_eq (tgt := 33) C D_Po_sizeOf_26 (by decide) (fun c_26 => ?_) (fun c_26 => ?_)
    · have h := h.1 c_26
      refine J_iconst (v := 0) C D_Po_sizeOf_33 rfl ?_
      exact J_sub [0, 1, 3] rfl (Z_Po_sizeOf_34 C hR Rt K8 _ _ _ _ _ _ h)
    · have h := h.2 c_26
      refine J_iconst (v := 1) C D_Po_sizeOf_29 rfl ?_
      refine J_goto (tgt := 34) C D_Po_sizeOf_30 (by decide) ?_
      exact J_sub [0, 1, 3] rfl (Z_Po_sizeOf_34 C hR Rt K8 _ _ _ _ _ _ h)
def L_Po_sizeOf_8 (post : Int32 → Mem → Prop) : Nat → Nat → Int32 → Int32 → Int32 → Mem → Prop
  | 0, _, _, _, _, _ => False
  | n + 1, a0, x1, x2, x3, M => B_Po_sizeOf_8 (L_Po_sizeOf_8 post n) post a0 x1 x2 x3 M
theorem Y_Po_sizeOf_8 {x : Ctx} {post : Int32 → Mem → Prop} (C : Ok x b_Po_sizeOf 4 "HeapTower$Polynomial") (hR : xR x = rm_Po_sizeOf) (Rt : RetI x .int post 0 0) : ∀ (n : Nat) (a0 : Nat) (x1 : Int32) (x2 : Int32) (x3 : Int32) (M : Mem), L_Po_sizeOf_8 post n a0 x1 x2 x3 M → J x 4 8 [(0, .ref (xB x + a0)), (1, .int x1), (2, .int x2), (3, .int x3)] [] 0 0 M := by
  intro n
  induction n with
  | zero => intro a0 x1 x2 x3 M h; exact h.elim
  | succ n ih => intro a0 x1 x2 x3 M h; exact Z_Po_sizeOf_8 C hR Rt ih _ _ _ _ _ h
def T_Po_sizeOf (a0 : Nat) (x1 : Int32) (M : Mem) (post : Int32 → Mem → Prop) : Prop := (vp_in x1 12 ∧ ∃ n, L_Po_sizeOf_8 post n a0 x1 0 (fst (Int32.toNatClampNeg x1)) M)
set_option maxRecDepth 20000 in
theorem S_Po_sizeOf {l : Launch} {D : va_G} {B t : Nat} {ac : Nat → ClassId} (a0 : Nat) (x1 : Int32) (M : Mem) (post : Int32 → Mem → Prop) (h : T_Po_sizeOf a0 x1 M post) : Met l y_Po_sizeOf w_Po_sizeOf rm_Po_sizeOf (va_Pc [.ref (B + a0), .int x1] (PRE D B t ac M)) (QI D B ac post) 0 0 (AB B) := by
  refine met_i (by decide +kernel) (Nat.le_of_ble_eq_true rfl) (fun x h1 hR h3 h4 h5 h6 C Rt => ?_)
  subst h3 h4 h5 h6
  unfold T_Po_sizeOf at h
  show J x 4 0 [(0, .ref (xB x + a0)), (1, .int x1)] [] 0 0 M
  refine J_iconst (v := 0) C D_Po_sizeOf_0 rfl ?_
  refine J_istore_n (lv' := [(2, .int 0), (0, .ref (xB x + a0)), (1, .int x1)]) C 2 D_Po_sizeOf_1 rfl (by decide) rfl ?_
  refine J_first C (by decide) D_Po_sizeOf_2 ?_
  refine J_iload_n C 1 D_Po_sizeOf_5 rfl rfl ?_
  obtain ⟨c_6, h⟩ := h
  refine J_fald C D_Po_sizeOf_6 c_6 ?_
  refine J_istore_n (lv' := [(3, .int (fst (Int32.toNatClampNeg x1))), (2, .int 0), (0, .ref (xB x + a0)), (1, .int x1)]) C 3 D_Po_sizeOf_7 rfl (by decide) rfl ?_
  obtain ⟨n, h⟩ := h
  exact J_sub [2, 3, 1, 0] rfl (Y_Po_sizeOf_8 C hR Rt  n _ _ _ _ _ h)
theorem D_Po_degree_0 : decode b_Po_degree 0 = .ok (.bipush 10, 2) := by decide +kernel
theorem D_Po_degree_2 : decode b_Po_degree 2 = .ok (.istore_n 1, 1) := by decide +kernel
theorem D_Po_degree_3 : decode b_Po_degree 3 = .ok (.iload_n 1, 1) := by decide +kernel
theorem D_Po_degree_4 : decode b_Po_degree 4 = .ok (.ifCond .lt 17, 3) := by decide +kernel
theorem D_Po_degree_7 : decode b_Po_degree 7 = .ok (.aload_n 0, 1) := by decide +kernel
theorem D_Po_degree_8 : decode b_Po_degree 8 = .ok (.iload_n 1, 1) := by decide +kernel
theorem D_Po_degree_9 : decode b_Po_degree 9 = .ok (.invokevirtual 34, 3) := by decide +kernel
theorem D_Po_degree_12 : decode b_Po_degree 12 = .ok (.ifCond .ne 9, 3) := by decide +kernel
theorem D_Po_degree_15 : decode b_Po_degree 15 = .ok (.iinc 1 (-1), 3) := by decide +kernel
theorem D_Po_degree_18 : decode b_Po_degree 18 = .ok (.goto (-15), 3) := by decide +kernel
theorem D_Po_degree_21 : decode b_Po_degree 21 = .ok (.iload_n 1, 1) := by decide +kernel
theorem D_Po_degree_22 : decode b_Po_degree 22 = .ok (.ireturn, 1) := by decide +kernel
abbrev rm_Po_degree : Room := { frames := 1, cells := 0, slots := 0, locals := 23 }
def B_Po_degree_21 (post : Int32 → Mem → Prop) (x1 : Int32) (M : Mem) : Prop := (post x1 M)
set_option maxRecDepth 20000 in
theorem Z_Po_degree_21 {x : Ctx} {post : Int32 → Mem → Prop} (C : Ok x b_Po_degree 2 "HeapTower$Polynomial") (hR : xR x = rm_Po_degree) (Rt : RetI x .int post 0 0) (x1 : Int32) (M : Mem) (h : B_Po_degree_21 post x1 M) : J x 2 21 [(1, .int x1)] [] 0 0 M := by
  unfold B_Po_degree_21 at h
  refine J_iload_n C 1 D_Po_degree_21 rfl rfl ?_
  exact J_iret C Rt D_Po_degree_22 rfl h
def B_Po_degree_3 (k3 : Nat → Int32 → Mem → Prop) (post : Int32 → Mem → Prop) (a0 : Nat) (x1 : Int32) (M : Mem) : Prop := ((x1 < 0 → (B_Po_degree_21 post x1 M)) ∧ (¬ x1 < 0 → (isK M a0 3 ∧ T_Po_sizeOf a0 x1 M (fun r9 M9 => (¬ r9 = 0 → (B_Po_degree_21 post x1 M9)) ∧ (r9 = 0 → (k3 a0 (x1 + (-1)) M9))))))
set_option maxRecDepth 20000 in
theorem Z_Po_degree_3 {x : Ctx} {post : Int32 → Mem → Prop} (C : Ok x b_Po_degree 2 "HeapTower$Polynomial") (hR : xR x = rm_Po_degree) (Rt : RetI x .int post 0 0) {k3 : Nat → Int32 → Mem → Prop} (K3 : ∀ (a0 : Nat) (x1 : Int32) (M : Mem), k3 a0 x1 M → J x 2 3 [(0, .ref (xB x + a0)), (1, .int x1)] [] 0 0 M) (a0 : Nat) (x1 : Int32) (M : Mem) (h : B_Po_degree_3 k3 post a0 x1 M) : J x 2 3 [(0, .ref (xB x + a0)), (1, .int x1)] [] 0 0 M := by
  unfold B_Po_degree_3 at h
  refine J_iload_n C 1 D_Po_degree_3 rfl rfl ?_
  refine J_if_lt (tgt := 21) C D_Po_degree_4 (by decide) (fun c_4 => ?_) (fun c_4 => ?_)
  · have h := h.1 c_4
    exact J_sub [1] rfl (Z_Po_degree_21 C hR Rt  _ _ h)
  · have h := h.2 c_4
    refine J_aload_n C 0 D_Po_degree_7 rfl rfl ?_
    refine J_iload_n C 1 D_Po_degree_8 rfl rfl ?_
    obtain ⟨c_9, h⟩ := h
    refine J_callVi C ml_Po_34 (S_Po_sizeOf _ _ _ _ h) (by rw [hR]; decide) rfl c_9 rfl (Nat.le_of_ble_eq_true rfl) D_Po_degree_9 (fun r9 M9 h => ?_)
    refine J_if_ne (tgt := 21) C D_Po_degree_12 (by decide) (fun c_12 => ?_) (fun c_12 => ?_)
    · have h := h.1 c_12
      exact J_sub [1] rfl (Z_Po_degree_21 C hR Rt  _ _ h)
    · have h := h.2 c_12
      refine J_iinc (v := x1 + (-1)) (lv' := [(1, .int (x1 + (-1))), (0, .ref (xB x + a0))]) C 1 1 D_Po_degree_15 rfl rfl (by decide) rfl ?_
      refine J_goto (tgt := 3) C D_Po_degree_18 (by decide) ?_
      exact J_sub [1, 0] rfl (K3 _ _ _ h)
def L_Po_degree_3 (post : Int32 → Mem → Prop) : Nat → Nat → Int32 → Mem → Prop
  | 0, _, _, _ => False
  | n + 1, a0, x1, M => B_Po_degree_3 (L_Po_degree_3 post n) post a0 x1 M
theorem Y_Po_degree_3 {x : Ctx} {post : Int32 → Mem → Prop} (C : Ok x b_Po_degree 2 "HeapTower$Polynomial") (hR : xR x = rm_Po_degree) (Rt : RetI x .int post 0 0) : ∀ (n : Nat) (a0 : Nat) (x1 : Int32) (M : Mem), L_Po_degree_3 post n a0 x1 M → J x 2 3 [(0, .ref (xB x + a0)), (1, .int x1)] [] 0 0 M := by
  intro n
  induction n with
  | zero => intro a0 x1 M h; exact h.elim
  | succ n ih => intro a0 x1 M h; exact Z_Po_degree_3 C hR Rt ih _ _ _ h
def T_Po_degree (a0 : Nat) (M : Mem) (post : Int32 → Mem → Prop) : Prop := (∃ n, L_Po_degree_3 post n a0 10 M)
set_option maxRecDepth 20000 in
theorem S_Po_degree {l : Launch} {D : va_G} {B t : Nat} {ac : Nat → ClassId} (a0 : Nat) (M : Mem) (post : Int32 → Mem → Prop) (h : T_Po_degree a0 M post) : Met l y_Po_degree w_Po_degree rm_Po_degree (va_Pc [.ref (B + a0)] (PRE D B t ac M)) (QI D B ac post) 0 0 (AB B) := by
  refine met_i (by decide +kernel) (Nat.le_of_ble_eq_true rfl) (fun x h1 hR h3 h4 h5 h6 C Rt => ?_)
  subst h3 h4 h5 h6
  unfold T_Po_degree at h
  show J x 2 0 [(0, .ref (xB x + a0))] [] 0 0 M
  refine J_bipush (v := 10) C D_Po_degree_0 rfl ?_
  refine J_istore_n (lv' := [(1, .int 10), (0, .ref (xB x + a0))]) C 1 D_Po_degree_2 rfl (by decide) rfl ?_
  obtain ⟨n, h⟩ := h
  exact J_sub [1, 0] rfl (Y_Po_degree_3 C hR Rt  n _ _ _ h)
theorem D_Po_isEven_0 : decode b_Po_isEven 0 = .ok (.aload_n 0, 1) := by decide +kernel
theorem D_Po_isEven_1 : decode b_Po_isEven 1 = .ok (.invokevirtual 38, 3) := by decide +kernel
theorem D_Po_isEven_4 : decode b_Po_isEven 4 = .ok (.istore_n 1, 1) := by decide +kernel
theorem D_Po_isEven_5 : decode b_Po_isEven 5 = .ok (.iload_n 1, 1) := by decide +kernel
theorem D_Po_isEven_6 : decode b_Po_isEven 6 = .ok (.ifCond .lt 15, 3) := by decide +kernel
theorem D_Po_isEven_9 : decode b_Po_isEven 9 = .ok (.aload_n 0, 1) := by decide +kernel
theorem D_Po_isEven_10 : decode b_Po_isEven 10 = .ok (.iload_n 1, 1) := by decide +kernel
theorem D_Po_isEven_11 : decode b_Po_isEven 11 = .ok (.invokevirtual 34, 3) := by decide +kernel
theorem D_Po_isEven_14 : decode b_Po_isEven 14 = .ok (.aload_n 0, 1) := by decide +kernel
theorem D_Po_isEven_15 : decode b_Po_isEven 15 = .ok (.invokevirtual 42, 3) := by decide +kernel
theorem D_Po_isEven_18 : decode b_Po_isEven 18 = .ok (.if_icmp .ne 7, 3) := by decide +kernel
theorem D_Po_isEven_21 : decode b_Po_isEven 21 = .ok (.iconst 1, 1) := by decide +kernel
theorem D_Po_isEven_22 : decode b_Po_isEven 22 = .ok (.goto 4, 3) := by decide +kernel
theorem D_Po_isEven_25 : decode b_Po_isEven 25 = .ok (.iconst 0, 1) := by decide +kernel
theorem D_Po_isEven_26 : decode b_Po_isEven 26 = .ok (.ireturn, 1) := by decide +kernel
abbrev rm_Po_isEven : Room := { frames := 2, cells := 0, slots := 0, locals := 44 }
def B_Po_isEven_26 (post : Int32 → Mem → Prop) (s0 : Int32) (M : Mem) : Prop := (narrow .boolean (.int s0) = .int s0 ∧ post s0 M)
set_option maxRecDepth 20000 in
theorem Z_Po_isEven_26 {x : Ctx} {post : Int32 → Mem → Prop} (C : Ok x b_Po_isEven 2 "HeapTower$Polynomial") (hR : xR x = rm_Po_isEven) (Rt : RetI x .boolean post 0 0) (s0 : Int32) (M : Mem) (h : B_Po_isEven_26 post s0 M) : J x 2 26 [] [.int s0] 0 0 M := by
  unfold B_Po_isEven_26 at h
  obtain ⟨c_26, h⟩ := h
  exact J_iret C Rt D_Po_isEven_26 c_26 h
def B_Po_isEven_21 (post : Int32 → Mem → Prop) (M : Mem) : Prop := (B_Po_isEven_26 post 1 M)
set_option maxRecDepth 20000 in
theorem Z_Po_isEven_21 {x : Ctx} {post : Int32 → Mem → Prop} (C : Ok x b_Po_isEven 2 "HeapTower$Polynomial") (hR : xR x = rm_Po_isEven) (Rt : RetI x .boolean post 0 0) (M : Mem) (h : B_Po_isEven_21 post M) : J x 2 21 [] [] 0 0 M := by
  unfold B_Po_isEven_21 at h
  refine J_iconst (v := 1) C D_Po_isEven_21 rfl ?_
  refine J_goto (tgt := 26) C D_Po_isEven_22 (by decide) ?_
  exact J_sub [] rfl (Z_Po_isEven_26 C hR Rt  _ _ h)
def T_Po_isEven (a0 : Nat) (M : Mem) (post : Int32 → Mem → Prop) : Prop := (isK M a0 3 ∧ T_Po_degree a0 M (fun r1 M1 => (r1 < 0 → (B_Po_isEven_21 post M1)) ∧ (¬ r1 < 0 → (isK M1 a0 3 ∧ T_Po_sizeOf a0 r1 M1 (fun r11 M11 => isK M11 a0 3 ∧ T_Po_size a0 M11 (fun r15 M15 => (¬ r11 = r15 → (B_Po_isEven_26 post 0 M15)) ∧ (r11 = r15 → (B_Po_isEven_21 post M15))))))))
set_option maxRecDepth 20000 in
theorem S_Po_isEven {l : Launch} {D : va_G} {B t : Nat} {ac : Nat → ClassId} (a0 : Nat) (M : Mem) (post : Int32 → Mem → Prop) (h : T_Po_isEven a0 M post) : Met l y_Po_isEven w_Po_isEven rm_Po_isEven (va_Pc [.ref (B + a0)] (PRE D B t ac M)) (QI D B ac post) 0 0 (AB B) := by
  refine met_i (by decide +kernel) (Nat.le_of_ble_eq_true rfl) (fun x h1 hR h3 h4 h5 h6 C Rt => ?_)
  subst h3 h4 h5 h6
  unfold T_Po_isEven at h
  show J x 2 0 [(0, .ref (xB x + a0))] [] 0 0 M
  refine J_aload_n C 0 D_Po_isEven_0 rfl rfl ?_
  obtain ⟨c_1, h⟩ := h
  refine J_callVi C ml_Po_38 (S_Po_degree _ _ _ h) (by rw [hR]; decide) rfl c_1 rfl (Nat.le_of_ble_eq_true rfl) D_Po_isEven_1 (fun r1 M1 h => ?_)
  refine J_istore_n (lv' := [(1, .int r1), (0, .ref (xB x + a0))]) C 1 D_Po_isEven_4 rfl (by decide) rfl ?_
  refine J_iload_n C 1 D_Po_isEven_5 rfl rfl ?_
  refine J_if_lt (tgt := 21) C D_Po_isEven_6 (by decide) (fun c_6 => ?_) (fun c_6 => ?_)
  · have h := h.1 c_6
    exact J_sub [] rfl (Z_Po_isEven_21 C hR Rt  _ h)
  · have h := h.2 c_6
    refine J_aload_n C 0 D_Po_isEven_9 rfl rfl ?_
    refine J_iload_n C 1 D_Po_isEven_10 rfl rfl ?_
    obtain ⟨c_11, h⟩ := h
    refine J_callVi C ml_Po_34 (S_Po_sizeOf _ _ _ _ h) (by rw [hR]; decide) rfl c_11 rfl (Nat.le_of_ble_eq_true rfl) D_Po_isEven_11 (fun r11 M11 h => ?_)
    refine J_aload_n C 0 D_Po_isEven_14 rfl rfl ?_
    obtain ⟨c_15, h⟩ := h
    refine J_callVi C ml_Po_42 (S_Po_size _ _ _ h) (by rw [hR]; decide) rfl c_15 rfl (Nat.le_of_ble_eq_true rfl) D_Po_isEven_15 (fun r15 M15 h => ?_)
    refine J_icmp_ne (tgt := 25) C D_Po_isEven_18 (by decide) (fun c_18 => ?_) (fun c_18 => ?_)
    · have h := h.1 c_18
      refine J_iconst (v := 0) C D_Po_isEven_25 rfl ?_
      exact J_sub [] rfl (Z_Po_isEven_26 C hR Rt  _ _ h)
    · have h := h.2 c_18
      exact J_sub [] rfl (Z_Po_isEven_21 C hR Rt  _ h)
theorem D_Po_headPlace_0 : decode b_Po_headPlace 0 = .ok (.aload_n 0, 1) := by decide +kernel
theorem D_Po_headPlace_1 : decode b_Po_headPlace 1 = .ok (.invokevirtual 38, 3) := by decide +kernel
theorem D_Po_headPlace_4 : decode b_Po_headPlace 4 = .ok (.istore_n 1, 1) := by decide +kernel
theorem D_Po_headPlace_5 : decode b_Po_headPlace 5 = .ok (.iconst 0, 1) := by decide +kernel
theorem D_Po_headPlace_6 : decode b_Po_headPlace 6 = .ok (.istore_n 2, 1) := by decide +kernel
theorem D_Po_headPlace_7 : decode b_Po_headPlace 7 = .ok (.iload_n 1, 1) := by decide +kernel
theorem D_Po_headPlace_8 : decode b_Po_headPlace 8 = .ok (.ifCond .lt 48, 3) := by decide +kernel
theorem D_Po_headPlace_11 : decode b_Po_headPlace 11 = .ok (.iload_n 2, 1) := by decide +kernel
theorem D_Po_headPlace_12 : decode b_Po_headPlace 12 = .ok (.aload_n 0, 1) := by decide +kernel
theorem D_Po_headPlace_13 : decode b_Po_headPlace 13 = .ok (.getfield 15, 3) := by decide +kernel
theorem D_Po_headPlace_16 : decode b_Po_headPlace 16 = .ok (.iload_n 1, 1) := by decide +kernel
theorem D_Po_headPlace_17 : decode b_Po_headPlace 17 = .ok (.invokevirtual 45, 3) := by decide +kernel
theorem D_Po_headPlace_20 : decode b_Po_headPlace 20 = .ok (.if_icmp .ge 36, 3) := by decide +kernel
theorem D_Po_headPlace_23 : decode b_Po_headPlace 23 = .ok (.aload_n 0, 1) := by decide +kernel
theorem D_Po_headPlace_24 : decode b_Po_headPlace 24 = .ok (.iload_n 1, 1) := by decide +kernel
theorem D_Po_headPlace_25 : decode b_Po_headPlace 25 = .ok (.aload_n 0, 1) := by decide +kernel
theorem D_Po_headPlace_26 : decode b_Po_headPlace 26 = .ok (.getfield 15, 3) := by decide +kernel
theorem D_Po_headPlace_29 : decode b_Po_headPlace 29 = .ok (.iload_n 1, 1) := by decide +kernel
theorem D_Po_headPlace_30 : decode b_Po_headPlace 30 = .ok (.iload_n 2, 1) := by decide +kernel
theorem D_Po_headPlace_31 : decode b_Po_headPlace 31 = .ok (.invokevirtual 50, 3) := by decide +kernel
theorem D_Po_headPlace_34 : decode b_Po_headPlace 34 = .ok (.invokevirtual 54, 3) := by decide +kernel
theorem D_Po_headPlace_37 : decode b_Po_headPlace 37 = .ok (.ifCond .eq 13, 3) := by decide +kernel
theorem D_Po_headPlace_40 : decode b_Po_headPlace 40 = .ok (.aload_n 0, 1) := by decide +kernel
theorem D_Po_headPlace_41 : decode b_Po_headPlace 41 = .ok (.getfield 15, 3) := by decide +kernel
theorem D_Po_headPlace_44 : decode b_Po_headPlace 44 = .ok (.iload_n 1, 1) := by decide +kernel
theorem D_Po_headPlace_45 : decode b_Po_headPlace 45 = .ok (.iload_n 2, 1) := by decide +kernel
theorem D_Po_headPlace_46 : decode b_Po_headPlace 46 = .ok (.invokevirtual 50, 3) := by decide +kernel
theorem D_Po_headPlace_49 : decode b_Po_headPlace 49 = .ok (.ireturn, 1) := by decide +kernel
theorem D_Po_headPlace_50 : decode b_Po_headPlace 50 = .ok (.iinc 2 1, 3) := by decide +kernel
theorem D_Po_headPlace_53 : decode b_Po_headPlace 53 = .ok (.goto (-46), 3) := by decide +kernel
theorem D_Po_headPlace_56 : decode b_Po_headPlace 56 = .ok (.iconst (-1), 1) := by decide +kernel
theorem D_Po_headPlace_57 : decode b_Po_headPlace 57 = .ok (.ireturn, 1) := by decide +kernel
abbrev rm_Po_headPlace : Room := { frames := 2, cells := 0, slots := 0, locals := 44 }
def B_Po_headPlace_56 (post : Int32 → Mem → Prop) (M : Mem) : Prop := (post ((-1)) M)
set_option maxRecDepth 20000 in
theorem Z_Po_headPlace_56 {x : Ctx} {post : Int32 → Mem → Prop} (C : Ok x b_Po_headPlace 3 "HeapTower$Polynomial") (hR : xR x = rm_Po_headPlace) (Rt : RetI x .int post 0 0) (M : Mem) (h : B_Po_headPlace_56 post M) : J x 3 56 [] [] 0 0 M := by
  unfold B_Po_headPlace_56 at h
  refine J_iconst (v := (-1)) C D_Po_headPlace_56 rfl ?_
  exact J_iret C Rt D_Po_headPlace_57 rfl h
def B_Po_headPlace_7 (k7 : Nat → Int32 → Int32 → Mem → Prop) (post : Int32 → Mem → Prop) (a0 : Nat) (x1 : Int32) (x2 : Int32) (M : Mem) : Prop := ((x1 < 0 → (B_Po_headPlace_56 post M)) ∧ (¬ x1 < 0 → (isK M a0 3 ∧ ∃ q13, gR M a0 0 = some q13 ∧ isK M q13 4 ∧ T_Pr_amount q13 x1 M (fun r17 M17 => (r17 ≤ x2 → (B_Po_headPlace_56 post M17)) ∧ (¬ r17 ≤ x2 → (isK M17 a0 3 ∧ ∃ q26, gR M17 a0 0 = some q26 ∧ isK M17 q26 4 ∧ T_Pr_at q26 x1 x2 M17 (fun r31 M31 => isK M31 a0 3 ∧ T_Po_numberAt a0 x1 r31 M31 (fun r34 M34 => (r34 = 0 → (k7 a0 x1 (x2 + 1) M34)) ∧ (¬ r34 = 0 → (isK M34 a0 3 ∧ ∃ q41, gR M34 a0 0 = some q41 ∧ isK M34 q41 4 ∧ T_Pr_at q41 x1 x2 M34 (fun r46 M46 => post r46 M46)))))))))))
set_option maxRecDepth 20000 in
theorem Z_Po_headPlace_7 {x : Ctx} {post : Int32 → Mem → Prop} (C : Ok x b_Po_headPlace 3 "HeapTower$Polynomial") (hR : xR x = rm_Po_headPlace) (Rt : RetI x .int post 0 0) {k7 : Nat → Int32 → Int32 → Mem → Prop} (K7 : ∀ (a0 : Nat) (x1 : Int32) (x2 : Int32) (M : Mem), k7 a0 x1 x2 M → J x 3 7 [(0, .ref (xB x + a0)), (1, .int x1), (2, .int x2)] [] 0 0 M) (a0 : Nat) (x1 : Int32) (x2 : Int32) (M : Mem) (h : B_Po_headPlace_7 k7 post a0 x1 x2 M) : J x 3 7 [(0, .ref (xB x + a0)), (1, .int x1), (2, .int x2)] [] 0 0 M := by
  unfold B_Po_headPlace_7 at h
  refine J_iload_n C 1 D_Po_headPlace_7 rfl rfl ?_
  refine J_if_lt (tgt := 56) C D_Po_headPlace_8 (by decide) (fun c_8 => ?_) (fun c_8 => ?_)
  · have h := h.1 c_8
    exact J_sub [] rfl (Z_Po_headPlace_56 C hR Rt  _ h)
  · have h := h.2 c_8
    refine J_iload_n C 2 D_Po_headPlace_11 rfl rfl ?_
    refine J_aload_n C 0 D_Po_headPlace_12 rfl rfl ?_
    obtain ⟨c_13, q13, e_13, h⟩ := h
    refine J_getR C fl_Po_15 D_Po_headPlace_13 c_13 e_13 ?_
    refine J_iload_n C 1 D_Po_headPlace_16 rfl rfl ?_
    obtain ⟨c_17, h⟩ := h
    refine J_callVi C ml_Po_45 (S_Pr_amount _ _ _ _ h) (by rw [hR]; decide) rfl c_17 rfl (Nat.le_of_ble_eq_true rfl) D_Po_headPlace_17 (fun r17 M17 h => ?_)
    refine J_icmp_ge (tgt := 56) C D_Po_headPlace_20 (by decide) (fun c_20 => ?_) (fun c_20 => ?_)
    · have h := h.1 c_20
      exact J_sub [] rfl (Z_Po_headPlace_56 C hR Rt  _ h)
    · have h := h.2 c_20
      refine J_aload_n C 0 D_Po_headPlace_23 rfl rfl ?_
      refine J_iload_n C 1 D_Po_headPlace_24 rfl rfl ?_
      refine J_aload_n C 0 D_Po_headPlace_25 rfl rfl ?_
      obtain ⟨c_26, q26, e_26, h⟩ := h
      refine J_getR C fl_Po_15 D_Po_headPlace_26 c_26 e_26 ?_
      refine J_iload_n C 1 D_Po_headPlace_29 rfl rfl ?_
      refine J_iload_n C 2 D_Po_headPlace_30 rfl rfl ?_
      obtain ⟨c_31, h⟩ := h
      refine J_callVi C ml_Po_50 (S_Pr_at _ _ _ _ _ h) (by rw [hR]; decide) rfl c_31 rfl (Nat.le_of_ble_eq_true rfl) D_Po_headPlace_31 (fun r31 M31 h => ?_)
      obtain ⟨c_34, h⟩ := h
      refine J_callVi C ml_Po_54 (S_Po_numberAt _ _ _ _ _ h) (by rw [hR]; decide) rfl c_34 rfl (Nat.le_of_ble_eq_true rfl) D_Po_headPlace_34 (fun r34 M34 h => ?_)
      refine J_if_eq (tgt := 50) C D_Po_headPlace_37 (by decide) (fun c_37 => ?_) (fun c_37 => ?_)
      · have h := h.1 c_37
        refine J_iinc (v := x2 + 1) (lv' := [(2, .int (x2 + 1)), (0, .ref (xB x + a0)), (1, .int x1)]) C 2 2 D_Po_headPlace_50 rfl rfl (by decide) rfl ?_
        refine J_goto (tgt := 7) C D_Po_headPlace_53 (by decide) ?_
        exact J_sub [1, 2, 0] rfl (K7 _ _ _ _ h)
      · have h := h.2 c_37
        refine J_aload_n C 0 D_Po_headPlace_40 rfl rfl ?_
        obtain ⟨c_41, q41, e_41, h⟩ := h
        refine J_getR C fl_Po_15 D_Po_headPlace_41 c_41 e_41 ?_
        refine J_iload_n C 1 D_Po_headPlace_44 rfl rfl ?_
        refine J_iload_n C 2 D_Po_headPlace_45 rfl rfl ?_
        obtain ⟨c_46, h⟩ := h
        refine J_callVi C ml_Po_50 (S_Pr_at _ _ _ _ _ h) (by rw [hR]; decide) rfl c_46 rfl (Nat.le_of_ble_eq_true rfl) D_Po_headPlace_46 (fun r46 M46 h => ?_)
        exact J_iret C Rt D_Po_headPlace_49 rfl h
def L_Po_headPlace_7 (post : Int32 → Mem → Prop) : Nat → Nat → Int32 → Int32 → Mem → Prop
  | 0, _, _, _, _ => False
  | n + 1, a0, x1, x2, M => B_Po_headPlace_7 (L_Po_headPlace_7 post n) post a0 x1 x2 M
theorem Y_Po_headPlace_7 {x : Ctx} {post : Int32 → Mem → Prop} (C : Ok x b_Po_headPlace 3 "HeapTower$Polynomial") (hR : xR x = rm_Po_headPlace) (Rt : RetI x .int post 0 0) : ∀ (n : Nat) (a0 : Nat) (x1 : Int32) (x2 : Int32) (M : Mem), L_Po_headPlace_7 post n a0 x1 x2 M → J x 3 7 [(0, .ref (xB x + a0)), (1, .int x1), (2, .int x2)] [] 0 0 M := by
  intro n
  induction n with
  | zero => intro a0 x1 x2 M h; exact h.elim
  | succ n ih => intro a0 x1 x2 M h; exact Z_Po_headPlace_7 C hR Rt ih _ _ _ _ h
def T_Po_headPlace (a0 : Nat) (M : Mem) (post : Int32 → Mem → Prop) : Prop := (isK M a0 3 ∧ T_Po_degree a0 M (fun r1 M1 => ∃ n, L_Po_headPlace_7 post n a0 r1 0 M1))
set_option maxRecDepth 20000 in
theorem S_Po_headPlace {l : Launch} {D : va_G} {B t : Nat} {ac : Nat → ClassId} (a0 : Nat) (M : Mem) (post : Int32 → Mem → Prop) (h : T_Po_headPlace a0 M post) : Met l y_Po_headPlace w_Po_headPlace rm_Po_headPlace (va_Pc [.ref (B + a0)] (PRE D B t ac M)) (QI D B ac post) 0 0 (AB B) := by
  refine met_i (by decide +kernel) (Nat.le_of_ble_eq_true rfl) (fun x h1 hR h3 h4 h5 h6 C Rt => ?_)
  subst h3 h4 h5 h6
  unfold T_Po_headPlace at h
  show J x 3 0 [(0, .ref (xB x + a0))] [] 0 0 M
  refine J_aload_n C 0 D_Po_headPlace_0 rfl rfl ?_
  obtain ⟨c_1, h⟩ := h
  refine J_callVi C ml_Po_38 (S_Po_degree _ _ _ h) (by rw [hR]; decide) rfl c_1 rfl (Nat.le_of_ble_eq_true rfl) D_Po_headPlace_1 (fun r1 M1 h => ?_)
  refine J_istore_n (lv' := [(1, .int r1), (0, .ref (xB x + a0))]) C 1 D_Po_headPlace_4 rfl (by decide) rfl ?_
  refine J_iconst (v := 0) C D_Po_headPlace_5 rfl ?_
  refine J_istore_n (lv' := [(2, .int 0), (1, .int r1), (0, .ref (xB x + a0))]) C 2 D_Po_headPlace_6 rfl (by decide) rfl ?_
  obtain ⟨n, h⟩ := h
  exact J_sub [2, 1, 0] rfl (Y_Po_headPlace_7 C hR Rt  n _ _ _ _ h)
theorem D_Po_movePartUp_0 : decode b_Po_movePartUp 0 = .ok (.iconst 0, 1) := by decide +kernel
theorem D_Po_movePartUp_1 : decode b_Po_movePartUp 1 = .ok (.istore 4, 2) := by decide +kernel
theorem D_Po_movePartUp_3 : decode b_Po_movePartUp 3 = .ok (.iload 4, 2) := by decide +kernel
theorem D_Po_movePartUp_5 : decode b_Po_movePartUp 5 = .ok (.aload_n 0, 1) := by decide +kernel
theorem D_Po_movePartUp_6 : decode b_Po_movePartUp 6 = .ok (.getfield 15, 3) := by decide +kernel
theorem D_Po_movePartUp_9 : decode b_Po_movePartUp 9 = .ok (.iload_n 1, 1) := by decide +kernel
theorem D_Po_movePartUp_10 : decode b_Po_movePartUp 10 = .ok (.invokevirtual 45, 3) := by decide +kernel
theorem D_Po_movePartUp_13 : decode b_Po_movePartUp 13 = .ok (.if_icmp .ge 43, 3) := by decide +kernel
theorem D_Po_movePartUp_16 : decode b_Po_movePartUp 16 = .ok (.aload_n 0, 1) := by decide +kernel
theorem D_Po_movePartUp_17 : decode b_Po_movePartUp 17 = .ok (.getfield 15, 3) := by decide +kernel
theorem D_Po_movePartUp_20 : decode b_Po_movePartUp 20 = .ok (.iload_n 1, 1) := by decide +kernel
theorem D_Po_movePartUp_21 : decode b_Po_movePartUp 21 = .ok (.iload 4, 2) := by decide +kernel
theorem D_Po_movePartUp_23 : decode b_Po_movePartUp 23 = .ok (.invokevirtual 50, 3) := by decide +kernel
theorem D_Po_movePartUp_26 : decode b_Po_movePartUp 26 = .ok (.istore 5, 2) := by decide +kernel
theorem D_Po_movePartUp_28 : decode b_Po_movePartUp 28 = .ok (.aload_n 0, 1) := by decide +kernel
theorem D_Po_movePartUp_29 : decode b_Po_movePartUp 29 = .ok (.iload_n 2, 1) := by decide +kernel
theorem D_Po_movePartUp_30 : decode b_Po_movePartUp 30 = .ok (.aload_n 0, 1) := by decide +kernel
theorem D_Po_movePartUp_31 : decode b_Po_movePartUp 31 = .ok (.getfield 15, 3) := by decide +kernel
theorem D_Po_movePartUp_34 : decode b_Po_movePartUp 34 = .ok (.iload 5, 2) := by decide +kernel
theorem D_Po_movePartUp_36 : decode b_Po_movePartUp 36 = .ok (.iload_n 3, 1) := by decide +kernel
theorem D_Po_movePartUp_37 : decode b_Po_movePartUp 37 = .ok (.invokevirtual 64, 3) := by decide +kernel
theorem D_Po_movePartUp_40 : decode b_Po_movePartUp 40 = .ok (.aload_n 0, 1) := by decide +kernel
theorem D_Po_movePartUp_41 : decode b_Po_movePartUp 41 = .ok (.iload_n 1, 1) := by decide +kernel
theorem D_Po_movePartUp_42 : decode b_Po_movePartUp 42 = .ok (.iload 5, 2) := by decide +kernel
theorem D_Po_movePartUp_44 : decode b_Po_movePartUp 44 = .ok (.invokevirtual 54, 3) := by decide +kernel
theorem D_Po_movePartUp_47 : decode b_Po_movePartUp 47 = .ok (.invokevirtual 67, 3) := by decide +kernel
theorem D_Po_movePartUp_50 : decode b_Po_movePartUp 50 = .ok (.iinc 4 1, 3) := by decide +kernel
theorem D_Po_movePartUp_53 : decode b_Po_movePartUp 53 = .ok (.goto (-50), 3) := by decide +kernel
theorem D_Po_movePartUp_56 : decode b_Po_movePartUp 56 = .ok (.return_, 1) := by decide +kernel
abbrev rm_Po_movePartUp : Room := { frames := 2, cells := 0, slots := 0, locals := 43 }
def B_Po_movePartUp_3 (k3 : Nat → Int32 → Int32 → Int32 → Int32 → Mem → Prop) (post : Mem → Prop) (a0 : Nat) (x1 : Int32) (x2 : Int32) (x3 : Int32) (x4 : Int32) (M : Mem) : Prop := (isK M a0 3 ∧ ∃ q6, gR M a0 0 = some q6 ∧ isK M q6 4 ∧ T_Pr_amount q6 x1 M (fun r10 M10 => (r10 ≤ x4 → (post M10)) ∧ (¬ r10 ≤ x4 → (isK M10 a0 3 ∧ ∃ q17, gR M10 a0 0 = some q17 ∧ isK M10 q17 4 ∧ T_Pr_at q17 x1 x4 M10 (fun r23 M23 => isK M23 a0 3 ∧ ∃ q31, gR M23 a0 0 = some q31 ∧ isK M23 q31 4 ∧ T_Pr_together q31 r23 x3 M23 (fun r37 M37 => isK M37 a0 3 ∧ T_Po_numberAt a0 x1 r23 M37 (fun r44 M44 => isK M44 a0 3 ∧ T_Po_setNumber a0 x2 r37 r44 M44 (fun M47 => k3 a0 x1 x2 x3 (x4 + 1) M47))))))))
set_option maxRecDepth 20000 in
theorem Z_Po_movePartUp_3 {x : Ctx} {post : Mem → Prop} (C : Ok x b_Po_movePartUp 6 "HeapTower$Polynomial") (hR : xR x = rm_Po_movePartUp) (Rt : RetV x post 0 0) {k3 : Nat → Int32 → Int32 → Int32 → Int32 → Mem → Prop} (K3 : ∀ (a0 : Nat) (x1 : Int32) (x2 : Int32) (x3 : Int32) (x4 : Int32) (M : Mem), k3 a0 x1 x2 x3 x4 M → J x 6 3 [(0, .ref (xB x + a0)), (1, .int x1), (2, .int x2), (3, .int x3), (4, .int x4)] [] 0 0 M) (a0 : Nat) (x1 : Int32) (x2 : Int32) (x3 : Int32) (x4 : Int32) (M : Mem) (h : B_Po_movePartUp_3 k3 post a0 x1 x2 x3 x4 M) : J x 6 3 [(0, .ref (xB x + a0)), (1, .int x1), (2, .int x2), (3, .int x3), (4, .int x4)] [] 0 0 M := by
  unfold B_Po_movePartUp_3 at h
  refine J_iload C 4 D_Po_movePartUp_3 rfl ?_
  refine J_aload_n C 0 D_Po_movePartUp_5 rfl rfl ?_
  obtain ⟨c_6, q6, e_6, h⟩ := h
  refine J_getR C fl_Po_15 D_Po_movePartUp_6 c_6 e_6 ?_
  refine J_iload_n C 1 D_Po_movePartUp_9 rfl rfl ?_
  obtain ⟨c_10, h⟩ := h
  refine J_callVi C ml_Po_45 (S_Pr_amount _ _ _ _ h) (by rw [hR]; decide) rfl c_10 rfl (Nat.le_of_ble_eq_true rfl) D_Po_movePartUp_10 (fun r10 M10 h => ?_)
  refine J_icmp_ge (tgt := 56) C D_Po_movePartUp_13 (by decide) (fun c_13 => ?_) (fun c_13 => ?_)
  · have h := h.1 c_13
    exact J_vret C Rt D_Po_movePartUp_56 h
  · have h := h.2 c_13
    refine J_aload_n C 0 D_Po_movePartUp_16 rfl rfl ?_
    obtain ⟨c_17, q17, e_17, h⟩ := h
    refine J_getR C fl_Po_15 D_Po_movePartUp_17 c_17 e_17 ?_
    refine J_iload_n C 1 D_Po_movePartUp_20 rfl rfl ?_
    refine J_iload C 4 D_Po_movePartUp_21 rfl ?_
    obtain ⟨c_23, h⟩ := h
    refine J_callVi C ml_Po_50 (S_Pr_at _ _ _ _ _ h) (by rw [hR]; decide) rfl c_23 rfl (Nat.le_of_ble_eq_true rfl) D_Po_movePartUp_23 (fun r23 M23 h => ?_)
    refine J_istore (lv' := [(5, .int r23), (0, .ref (xB x + a0)), (1, .int x1), (2, .int x2), (3, .int x3), (4, .int x4)]) C 5 D_Po_movePartUp_26 (by decide) rfl ?_
    refine J_aload_n C 0 D_Po_movePartUp_28 rfl rfl ?_
    refine J_iload_n C 2 D_Po_movePartUp_29 rfl rfl ?_
    refine J_aload_n C 0 D_Po_movePartUp_30 rfl rfl ?_
    obtain ⟨c_31, q31, e_31, h⟩ := h
    refine J_getR C fl_Po_15 D_Po_movePartUp_31 c_31 e_31 ?_
    refine J_iload C 5 D_Po_movePartUp_34 rfl ?_
    refine J_iload_n C 3 D_Po_movePartUp_36 rfl rfl ?_
    obtain ⟨c_37, h⟩ := h
    refine J_callVi C ml_Po_64 (S_Pr_together _ _ _ _ _ h) (by rw [hR]; decide) rfl c_37 rfl (Nat.le_of_ble_eq_true rfl) D_Po_movePartUp_37 (fun r37 M37 h => ?_)
    refine J_aload_n C 0 D_Po_movePartUp_40 rfl rfl ?_
    refine J_iload_n C 1 D_Po_movePartUp_41 rfl rfl ?_
    refine J_iload C 5 D_Po_movePartUp_42 rfl ?_
    obtain ⟨c_44, h⟩ := h
    refine J_callVi C ml_Po_54 (S_Po_numberAt _ _ _ _ _ h) (by rw [hR]; decide) rfl c_44 rfl (Nat.le_of_ble_eq_true rfl) D_Po_movePartUp_44 (fun r44 M44 h => ?_)
    obtain ⟨c_47, h⟩ := h
    refine J_callVv C ml_Po_67 (S_Po_setNumber _ _ _ _ _ _ h) (by rw [hR]; decide) rfl c_47 rfl (Nat.le_of_ble_eq_true rfl) D_Po_movePartUp_47 (fun M47 h => ?_)
    refine J_iinc (v := x4 + 1) (lv' := [(4, .int (x4 + 1)), (5, .int r23), (0, .ref (xB x + a0)), (1, .int x1), (2, .int x2), (3, .int x3)]) C 4 5 D_Po_movePartUp_50 rfl rfl (by decide) rfl ?_
    refine J_goto (tgt := 3) C D_Po_movePartUp_53 (by decide) ?_
    exact J_sub [2, 3, 4, 5, 0] rfl (K3 _ _ _ _ _ _ h)
def L_Po_movePartUp_3 (post : Mem → Prop) : Nat → Nat → Int32 → Int32 → Int32 → Int32 → Mem → Prop
  | 0, _, _, _, _, _, _ => False
  | n + 1, a0, x1, x2, x3, x4, M => B_Po_movePartUp_3 (L_Po_movePartUp_3 post n) post a0 x1 x2 x3 x4 M
theorem Y_Po_movePartUp_3 {x : Ctx} {post : Mem → Prop} (C : Ok x b_Po_movePartUp 6 "HeapTower$Polynomial") (hR : xR x = rm_Po_movePartUp) (Rt : RetV x post 0 0) : ∀ (n : Nat) (a0 : Nat) (x1 : Int32) (x2 : Int32) (x3 : Int32) (x4 : Int32) (M : Mem), L_Po_movePartUp_3 post n a0 x1 x2 x3 x4 M → J x 6 3 [(0, .ref (xB x + a0)), (1, .int x1), (2, .int x2), (3, .int x3), (4, .int x4)] [] 0 0 M := by
  intro n
  induction n with
  | zero => intro a0 x1 x2 x3 x4 M h; exact h.elim
  | succ n ih => intro a0 x1 x2 x3 x4 M h; exact Z_Po_movePartUp_3 C hR Rt ih _ _ _ _ _ _ h
def T_Po_movePartUp (a0 : Nat) (x1 : Int32) (x2 : Int32) (x3 : Int32) (M : Mem) (post : Mem → Prop) : Prop := (∃ n, L_Po_movePartUp_3 post n a0 x1 x2 x3 0 M)
set_option maxRecDepth 20000 in
theorem S_Po_movePartUp {l : Launch} {D : va_G} {B t : Nat} {ac : Nat → ClassId} (a0 : Nat) (x1 : Int32) (x2 : Int32) (x3 : Int32) (M : Mem) (post : Mem → Prop) (h : T_Po_movePartUp a0 x1 x2 x3 M post) : Met l y_Po_movePartUp w_Po_movePartUp rm_Po_movePartUp (va_Pc [.ref (B + a0), .int x1, .int x2, .int x3] (PRE D B t ac M)) (QV D B ac post) 0 0 (AB B) := by
  refine met_v (by decide +kernel) (Nat.le_of_ble_eq_true rfl) (fun x h1 hR h3 h4 h5 h6 C Rt Nm => ?_)
  subst h3 h4 h5 h6
  unfold T_Po_movePartUp at h
  show J x 6 0 [(0, .ref (xB x + a0)), (1, .int x1), (2, .int x2), (3, .int x3)] [] 0 0 M
  refine J_iconst (v := 0) C D_Po_movePartUp_0 rfl ?_
  refine J_istore (lv' := [(4, .int 0), (0, .ref (xB x + a0)), (1, .int x1), (2, .int x2), (3, .int x3)]) C 4 D_Po_movePartUp_1 (by decide) rfl ?_
  obtain ⟨n, h⟩ := h
  exact J_sub [1, 2, 3, 4, 0] rfl (Y_Po_movePartUp_3 C hR Rt  n _ _ _ _ _ _ h)
theorem D_Po_moveUp_0 : decode b_Po_moveUp 0 = .ok (.bipush 10, 2) := by decide +kernel
theorem D_Po_moveUp_2 : decode b_Po_moveUp 2 = .ok (.istore_n 3, 1) := by decide +kernel
theorem D_Po_moveUp_3 : decode b_Po_moveUp 3 = .ok (.iload_n 1, 1) := by decide +kernel
theorem D_Po_moveUp_4 : decode b_Po_moveUp 4 = .ok (.ifCond .le 47, 3) := by decide +kernel
theorem D_Po_moveUp_7 : decode b_Po_moveUp 7 = .ok (.iload_n 3, 1) := by decide +kernel
theorem D_Po_moveUp_8 : decode b_Po_moveUp 8 = .ok (.ifCond .lt 43, 3) := by decide +kernel
theorem D_Po_moveUp_11 : decode b_Po_moveUp 11 = .ok (.aload_n 0, 1) := by decide +kernel
theorem D_Po_moveUp_12 : decode b_Po_moveUp 12 = .ok (.getfield 9, 3) := by decide +kernel
theorem D_Po_moveUp_15 : decode b_Po_moveUp 15 = .ok (.getstatic 31, 3) := by decide +kernel
theorem D_Po_moveUp_18 : decode b_Po_moveUp 18 = .ok (.iload_n 3, 1) := by decide +kernel
theorem D_Po_moveUp_19 : decode b_Po_moveUp 19 = .ok (.iaload, 1) := by decide +kernel
theorem D_Po_moveUp_20 : decode b_Po_moveUp 20 = .ok (.getstatic 31, 3) := by decide +kernel
theorem D_Po_moveUp_23 : decode b_Po_moveUp 23 = .ok (.iload_n 3, 1) := by decide +kernel
theorem D_Po_moveUp_24 : decode b_Po_moveUp 24 = .ok (.iconst 1, 1) := by decide +kernel
theorem D_Po_moveUp_25 : decode b_Po_moveUp 25 = .ok (.iadd, 1) := by decide +kernel
theorem D_Po_moveUp_26 : decode b_Po_moveUp 26 = .ok (.iaload, 1) := by decide +kernel
theorem D_Po_moveUp_27 : decode b_Po_moveUp 27 = .ok (.iconst 0, 1) := by decide +kernel
theorem D_Po_moveUp_28 : decode b_Po_moveUp 28 = .ok (.invokestatic 57, 3) := by decide +kernel
theorem D_Po_moveUp_31 : decode b_Po_moveUp 31 = .ok (.iload_n 3, 1) := by decide +kernel
theorem D_Po_moveUp_32 : decode b_Po_moveUp 32 = .ok (.iload_n 1, 1) := by decide +kernel
theorem D_Po_moveUp_33 : decode b_Po_moveUp 33 = .ok (.if_icmp .lt 12, 3) := by decide +kernel
theorem D_Po_moveUp_36 : decode b_Po_moveUp 36 = .ok (.aload_n 0, 1) := by decide +kernel
theorem D_Po_moveUp_37 : decode b_Po_moveUp 37 = .ok (.iload_n 3, 1) := by decide +kernel
theorem D_Po_moveUp_38 : decode b_Po_moveUp 38 = .ok (.iload_n 1, 1) := by decide +kernel
theorem D_Po_moveUp_39 : decode b_Po_moveUp 39 = .ok (.isub, 1) := by decide +kernel
theorem D_Po_moveUp_40 : decode b_Po_moveUp 40 = .ok (.iload_n 3, 1) := by decide +kernel
theorem D_Po_moveUp_41 : decode b_Po_moveUp 41 = .ok (.iload_n 2, 1) := by decide +kernel
theorem D_Po_moveUp_42 : decode b_Po_moveUp 42 = .ok (.invokevirtual 60, 3) := by decide +kernel
theorem D_Po_moveUp_45 : decode b_Po_moveUp 45 = .ok (.iinc 3 (-1), 3) := by decide +kernel
theorem D_Po_moveUp_48 : decode b_Po_moveUp 48 = .ok (.goto (-45), 3) := by decide +kernel
theorem D_Po_moveUp_51 : decode b_Po_moveUp 51 = .ok (.return_, 1) := by decide +kernel
abbrev rm_Po_moveUp : Room := { frames := 3, cells := 0, slots := 0, locals := 68 }
def B_Po_moveUp_51 (post : Mem → Prop) (M : Mem) : Prop := (post M)
set_option maxRecDepth 20000 in
theorem Z_Po_moveUp_51 {x : Ctx} {post : Mem → Prop} (C : Ok x b_Po_moveUp 4 "HeapTower$Polynomial") (hR : xR x = rm_Po_moveUp) (Rt : RetV x post 0 0) (M : Mem) (h : B_Po_moveUp_51 post M) : J x 4 51 [] [] 0 0 M := by
  unfold B_Po_moveUp_51 at h
  exact J_vret C Rt D_Po_moveUp_51 h
def B_Po_moveUp_45 (k3 : Nat → Int32 → Int32 → Int32 → Mem → Prop) (post : Mem → Prop) (a0 : Nat) (x1 : Int32) (x2 : Int32) (x3 : Int32) (M : Mem) : Prop := (k3 a0 x1 x2 (x3 + (-1)) M)
set_option maxRecDepth 20000 in
theorem Z_Po_moveUp_45 {x : Ctx} {post : Mem → Prop} (C : Ok x b_Po_moveUp 4 "HeapTower$Polynomial") (hR : xR x = rm_Po_moveUp) (Rt : RetV x post 0 0) {k3 : Nat → Int32 → Int32 → Int32 → Mem → Prop} (K3 : ∀ (a0 : Nat) (x1 : Int32) (x2 : Int32) (x3 : Int32) (M : Mem), k3 a0 x1 x2 x3 M → J x 4 3 [(0, .ref (xB x + a0)), (1, .int x1), (2, .int x2), (3, .int x3)] [] 0 0 M) (a0 : Nat) (x1 : Int32) (x2 : Int32) (x3 : Int32) (M : Mem) (h : B_Po_moveUp_45 k3 post a0 x1 x2 x3 M) : J x 4 45 [(0, .ref (xB x + a0)), (1, .int x1), (2, .int x2), (3, .int x3)] [] 0 0 M := by
  unfold B_Po_moveUp_45 at h
  refine J_iinc (v := x3 + (-1)) (lv' := [(3, .int (x3 + (-1))), (0, .ref (xB x + a0)), (1, .int x1), (2, .int x2)]) C 3 3 D_Po_moveUp_45 rfl rfl (by decide) rfl ?_
  refine J_goto (tgt := 3) C D_Po_moveUp_48 (by decide) ?_
  exact J_sub [1, 2, 3, 0] rfl (K3 _ _ _ _ _ h)
def B_Po_moveUp_3 (k3 : Nat → Int32 → Int32 → Int32 → Mem → Prop) (post : Mem → Prop) (a0 : Nat) (x1 : Int32) (x2 : Int32) (x3 : Int32) (M : Mem) : Prop := ((x1 ≤ 0 → (B_Po_moveUp_51 post M)) ∧ (¬ x1 ≤ 0 → ((x3 < 0 → (B_Po_moveUp_51 post M)) ∧ (¬ x3 < 0 → (isK M a0 3 ∧ ∃ q12, gR M a0 1 = some q12 ∧ vp_in x3 12 ∧ vp_in (x3 + 1) 12 ∧ T_Ar_fill4 q12 (fst (Int32.toNatClampNeg x3)) (fst (Int32.toNatClampNeg (x3 + 1))) 0 M (fun M28 => (x3 < x1 → (B_Po_moveUp_45 k3 post a0 x1 x2 x3 M28)) ∧ (¬ x3 < x1 → (isK M28 a0 3 ∧ T_Po_movePartUp a0 (x3 - x1) x3 x2 M28 (fun M42 => B_Po_moveUp_45 k3 post a0 x1 x2 x3 M42)))))))))
set_option maxRecDepth 20000 in
theorem Z_Po_moveUp_3 {x : Ctx} {post : Mem → Prop} (C : Ok x b_Po_moveUp 4 "HeapTower$Polynomial") (hR : xR x = rm_Po_moveUp) (Rt : RetV x post 0 0) {k3 : Nat → Int32 → Int32 → Int32 → Mem → Prop} (K3 : ∀ (a0 : Nat) (x1 : Int32) (x2 : Int32) (x3 : Int32) (M : Mem), k3 a0 x1 x2 x3 M → J x 4 3 [(0, .ref (xB x + a0)), (1, .int x1), (2, .int x2), (3, .int x3)] [] 0 0 M) (a0 : Nat) (x1 : Int32) (x2 : Int32) (x3 : Int32) (M : Mem) (h : B_Po_moveUp_3 k3 post a0 x1 x2 x3 M) : J x 4 3 [(0, .ref (xB x + a0)), (1, .int x1), (2, .int x2), (3, .int x3)] [] 0 0 M := by
  unfold B_Po_moveUp_3 at h
  refine J_iload_n C 1 D_Po_moveUp_3 rfl rfl ?_
  refine J_if_le (tgt := 51) C D_Po_moveUp_4 (by decide) (fun c_4 => ?_) (fun c_4 => ?_)
  · have h := h.1 c_4
    exact J_sub [] rfl (Z_Po_moveUp_51 C hR Rt  _ h)
  · have h := h.2 c_4
    refine J_iload_n C 3 D_Po_moveUp_7 rfl rfl ?_
    refine J_if_lt (tgt := 51) C D_Po_moveUp_8 (by decide) (fun c_8 => ?_) (fun c_8 => ?_)
    · have h := h.1 c_8
      exact J_sub [] rfl (Z_Po_moveUp_51 C hR Rt  _ h)
    · have h := h.2 c_8
      refine J_aload_n C 0 D_Po_moveUp_11 rfl rfl ?_
      obtain ⟨c_12, q12, e_12, h⟩ := h
      refine J_getR C fl_Po_9 D_Po_moveUp_12 c_12 e_12 ?_
      refine J_first C (by decide) D_Po_moveUp_15 ?_
      refine J_iload_n C 3 D_Po_moveUp_18 rfl rfl ?_
      obtain ⟨c_19, h⟩ := h
      refine J_fald C D_Po_moveUp_19 c_19 ?_
      refine J_first C (by decide) D_Po_moveUp_20 ?_
      refine J_iload_n C 3 D_Po_moveUp_23 rfl rfl ?_
      refine J_iconst (v := 1) C D_Po_moveUp_24 rfl ?_
      refine J_iadd C D_Po_moveUp_25 ?_
      obtain ⟨c_26, h⟩ := h
      refine J_fald C D_Po_moveUp_26 c_26 ?_
      refine J_iconst (v := 0) C D_Po_moveUp_27 rfl ?_
      refine J_callSv C ml_Po_57 (S_Ar_fill4 _ _ _ _ _ _ h) (by rw [hR]; decide) rfl rfl (Nat.le_of_ble_eq_true rfl) D_Po_moveUp_28 (fun M28 h => ?_)
      refine J_iload_n C 3 D_Po_moveUp_31 rfl rfl ?_
      refine J_iload_n C 1 D_Po_moveUp_32 rfl rfl ?_
      refine J_icmp_lt (tgt := 45) C D_Po_moveUp_33 (by decide) (fun c_33 => ?_) (fun c_33 => ?_)
      · have h := h.1 c_33
        exact J_sub [0, 1, 2, 3] rfl (Z_Po_moveUp_45 C hR Rt K3 _ _ _ _ _ h)
      · have h := h.2 c_33
        refine J_aload_n C 0 D_Po_moveUp_36 rfl rfl ?_
        refine J_iload_n C 3 D_Po_moveUp_37 rfl rfl ?_
        refine J_iload_n C 1 D_Po_moveUp_38 rfl rfl ?_
        refine J_isub C D_Po_moveUp_39 ?_
        refine J_iload_n C 3 D_Po_moveUp_40 rfl rfl ?_
        refine J_iload_n C 2 D_Po_moveUp_41 rfl rfl ?_
        obtain ⟨c_42, h⟩ := h
        refine J_callVv C ml_Po_60 (S_Po_movePartUp _ _ _ _ _ _ h) (by rw [hR]; decide) rfl c_42 rfl (Nat.le_of_ble_eq_true rfl) D_Po_moveUp_42 (fun M42 h => ?_)
        exact J_sub [0, 1, 2, 3] rfl (Z_Po_moveUp_45 C hR Rt K3 _ _ _ _ _ h)
def L_Po_moveUp_3 (post : Mem → Prop) : Nat → Nat → Int32 → Int32 → Int32 → Mem → Prop
  | 0, _, _, _, _, _ => False
  | n + 1, a0, x1, x2, x3, M => B_Po_moveUp_3 (L_Po_moveUp_3 post n) post a0 x1 x2 x3 M
theorem Y_Po_moveUp_3 {x : Ctx} {post : Mem → Prop} (C : Ok x b_Po_moveUp 4 "HeapTower$Polynomial") (hR : xR x = rm_Po_moveUp) (Rt : RetV x post 0 0) : ∀ (n : Nat) (a0 : Nat) (x1 : Int32) (x2 : Int32) (x3 : Int32) (M : Mem), L_Po_moveUp_3 post n a0 x1 x2 x3 M → J x 4 3 [(0, .ref (xB x + a0)), (1, .int x1), (2, .int x2), (3, .int x3)] [] 0 0 M := by
  intro n
  induction n with
  | zero => intro a0 x1 x2 x3 M h; exact h.elim
  | succ n ih => intro a0 x1 x2 x3 M h; exact Z_Po_moveUp_3 C hR Rt ih _ _ _ _ _ h
def T_Po_moveUp (a0 : Nat) (x1 : Int32) (x2 : Int32) (M : Mem) (post : Mem → Prop) : Prop := (∃ n, L_Po_moveUp_3 post n a0 x1 x2 10 M)
set_option maxRecDepth 20000 in
theorem S_Po_moveUp {l : Launch} {D : va_G} {B t : Nat} {ac : Nat → ClassId} (a0 : Nat) (x1 : Int32) (x2 : Int32) (M : Mem) (post : Mem → Prop) (h : T_Po_moveUp a0 x1 x2 M post) : Met l y_Po_moveUp w_Po_moveUp rm_Po_moveUp (va_Pc [.ref (B + a0), .int x1, .int x2] (PRE D B t ac M)) (QV D B ac post) 0 0 (AB B) := by
  refine met_v (by decide +kernel) (Nat.le_of_ble_eq_true rfl) (fun x h1 hR h3 h4 h5 h6 C Rt Nm => ?_)
  subst h3 h4 h5 h6
  unfold T_Po_moveUp at h
  show J x 4 0 [(0, .ref (xB x + a0)), (1, .int x1), (2, .int x2)] [] 0 0 M
  refine J_bipush (v := 10) C D_Po_moveUp_0 rfl ?_
  refine J_istore_n (lv' := [(3, .int 10), (0, .ref (xB x + a0)), (1, .int x1), (2, .int x2)]) C 3 D_Po_moveUp_2 rfl (by decide) rfl ?_
  obtain ⟨n, h⟩ := h
  exact J_sub [1, 2, 3, 0] rfl (Y_Po_moveUp_3 C hR Rt  n _ _ _ _ _ h)
theorem D_Po_loadPart_0 : decode b_Po_loadPart 0 = .ok (.getstatic 31, 3) := by decide +kernel
theorem D_Po_loadPart_3 : decode b_Po_loadPart 3 = .ok (.iload_n 1, 1) := by decide +kernel
theorem D_Po_loadPart_4 : decode b_Po_loadPart 4 = .ok (.iaload, 1) := by decide +kernel
theorem D_Po_loadPart_5 : decode b_Po_loadPart 5 = .ok (.istore_n 3, 1) := by decide +kernel
theorem D_Po_loadPart_6 : decode b_Po_loadPart 6 = .ok (.aload_n 0, 1) := by decide +kernel
theorem D_Po_loadPart_7 : decode b_Po_loadPart 7 = .ok (.getfield 9, 3) := by decide +kernel
theorem D_Po_loadPart_10 : decode b_Po_loadPart 10 = .ok (.iload_n 3, 1) := by decide +kernel
theorem D_Po_loadPart_11 : decode b_Po_loadPart 11 = .ok (.aload_n 2, 1) := by decide +kernel
theorem D_Po_loadPart_12 : decode b_Po_loadPart 12 = .ok (.iconst 0, 1) := by decide +kernel
theorem D_Po_loadPart_13 : decode b_Po_loadPart 13 = .ok (.getstatic 31, 3) := by decide +kernel
theorem D_Po_loadPart_16 : decode b_Po_loadPart 16 = .ok (.iload_n 1, 1) := by decide +kernel
theorem D_Po_loadPart_17 : decode b_Po_loadPart 17 = .ok (.iconst 1, 1) := by decide +kernel
theorem D_Po_loadPart_18 : decode b_Po_loadPart 18 = .ok (.iadd, 1) := by decide +kernel
theorem D_Po_loadPart_19 : decode b_Po_loadPart 19 = .ok (.iaload, 1) := by decide +kernel
theorem D_Po_loadPart_20 : decode b_Po_loadPart 20 = .ok (.iload_n 3, 1) := by decide +kernel
theorem D_Po_loadPart_21 : decode b_Po_loadPart 21 = .ok (.isub, 1) := by decide +kernel
theorem D_Po_loadPart_22 : decode b_Po_loadPart 22 = .ok (.invokestatic 25, 3) := by decide +kernel
theorem D_Po_loadPart_25 : decode b_Po_loadPart 25 = .ok (.return_, 1) := by decide +kernel
abbrev rm_Po_loadPart : Room := { frames := 1, cells := 0, slots := 0, locals := 40 }
def T_Po_loadPart (a0 : Nat) (x1 : Int32) (a2 : Nat) (M : Mem) (post : Mem → Prop) : Prop := (vp_in x1 12 ∧ isK M a0 3 ∧ ∃ q7, gR M a0 1 = some q7 ∧ vp_in (x1 + 1) 12 ∧ cpOk M q7 (fst (Int32.toNatClampNeg x1)) a2 0 ((fst (Int32.toNatClampNeg (x1 + 1))) - (fst (Int32.toNatClampNeg x1))) ∧ post (cpM M q7 (fst (Int32.toNatClampNeg x1)) a2 0 ((fst (Int32.toNatClampNeg (x1 + 1))) - (fst (Int32.toNatClampNeg x1)))))
set_option maxRecDepth 20000 in
theorem S_Po_loadPart {l : Launch} {D : va_G} {B t : Nat} {ac : Nat → ClassId} (a0 : Nat) (x1 : Int32) (a2 : Nat) (M : Mem) (post : Mem → Prop) (h : T_Po_loadPart a0 x1 a2 M post) : Met l y_Po_loadPart w_Po_loadPart rm_Po_loadPart (va_Pc [.ref (B + a0), .int x1, .ref (B + a2)] (PRE D B t ac M)) (QV D B ac post) 0 0 (AB B) := by
  refine met_v (by decide +kernel) (Nat.le_of_ble_eq_true rfl) (fun x h1 hR h3 h4 h5 h6 C Rt Nm => ?_)
  subst h3 h4 h5 h6
  unfold T_Po_loadPart at h
  show J x 4 0 [(0, .ref (xB x + a0)), (1, .int x1), (2, .ref (xB x + a2))] [] 0 0 M
  refine J_first C (by decide) D_Po_loadPart_0 ?_
  refine J_iload_n C 1 D_Po_loadPart_3 rfl rfl ?_
  obtain ⟨c_4, h⟩ := h
  refine J_fald C D_Po_loadPart_4 c_4 ?_
  refine J_istore_n (lv' := [(3, .int (fst (Int32.toNatClampNeg x1))), (0, .ref (xB x + a0)), (1, .int x1), (2, .ref (xB x + a2))]) C 3 D_Po_loadPart_5 rfl (by decide) rfl ?_
  refine J_aload_n C 0 D_Po_loadPart_6 rfl rfl ?_
  obtain ⟨c_7, q7, e_7, h⟩ := h
  refine J_getR C fl_Po_9 D_Po_loadPart_7 c_7 e_7 ?_
  refine J_iload_n C 3 D_Po_loadPart_10 rfl rfl ?_
  refine J_aload_n C 2 D_Po_loadPart_11 rfl rfl ?_
  refine J_iconst (v := 0) C D_Po_loadPart_12 rfl ?_
  refine J_first C (by decide) D_Po_loadPart_13 ?_
  refine J_iload_n C 1 D_Po_loadPart_16 rfl rfl ?_
  refine J_iconst (v := 1) C D_Po_loadPart_17 rfl ?_
  refine J_iadd C D_Po_loadPart_18 ?_
  obtain ⟨c_19, h⟩ := h
  refine J_fald C D_Po_loadPart_19 c_19 ?_
  refine J_iload_n C 3 D_Po_loadPart_20 rfl rfl ?_
  refine J_isub C D_Po_loadPart_21 ?_
  obtain ⟨c_22, h⟩ := h
  refine J_copy C kc_Po_25 D_Po_loadPart_22 (by rw [hR]; decide) (Nat.le_of_ble_eq_true rfl) c_22 ?_
  exact J_vret C Rt D_Po_loadPart_25 h
theorem D_Po_setPart_0 : decode b_Po_setPart 0 = .ok (.getstatic 31, 3) := by decide +kernel
theorem D_Po_setPart_3 : decode b_Po_setPart 3 = .ok (.iload_n 1, 1) := by decide +kernel
theorem D_Po_setPart_4 : decode b_Po_setPart 4 = .ok (.iaload, 1) := by decide +kernel
theorem D_Po_setPart_5 : decode b_Po_setPart 5 = .ok (.istore_n 3, 1) := by decide +kernel
theorem D_Po_setPart_6 : decode b_Po_setPart 6 = .ok (.aload_n 2, 1) := by decide +kernel
theorem D_Po_setPart_7 : decode b_Po_setPart 7 = .ok (.iconst 0, 1) := by decide +kernel
theorem D_Po_setPart_8 : decode b_Po_setPart 8 = .ok (.aload_n 0, 1) := by decide +kernel
theorem D_Po_setPart_9 : decode b_Po_setPart 9 = .ok (.getfield 9, 3) := by decide +kernel
theorem D_Po_setPart_12 : decode b_Po_setPart 12 = .ok (.iload_n 3, 1) := by decide +kernel
theorem D_Po_setPart_13 : decode b_Po_setPart 13 = .ok (.getstatic 31, 3) := by decide +kernel
theorem D_Po_setPart_16 : decode b_Po_setPart 16 = .ok (.iload_n 1, 1) := by decide +kernel
theorem D_Po_setPart_17 : decode b_Po_setPart 17 = .ok (.iconst 1, 1) := by decide +kernel
theorem D_Po_setPart_18 : decode b_Po_setPart 18 = .ok (.iadd, 1) := by decide +kernel
theorem D_Po_setPart_19 : decode b_Po_setPart 19 = .ok (.iaload, 1) := by decide +kernel
theorem D_Po_setPart_20 : decode b_Po_setPart 20 = .ok (.iload_n 3, 1) := by decide +kernel
theorem D_Po_setPart_21 : decode b_Po_setPart 21 = .ok (.isub, 1) := by decide +kernel
theorem D_Po_setPart_22 : decode b_Po_setPart 22 = .ok (.invokestatic 25, 3) := by decide +kernel
theorem D_Po_setPart_25 : decode b_Po_setPart 25 = .ok (.return_, 1) := by decide +kernel
abbrev rm_Po_setPart : Room := { frames := 1, cells := 0, slots := 0, locals := 40 }
def T_Po_setPart (a0 : Nat) (x1 : Int32) (a2 : Nat) (M : Mem) (post : Mem → Prop) : Prop := (vp_in x1 12 ∧ isK M a0 3 ∧ ∃ q9, gR M a0 1 = some q9 ∧ vp_in (x1 + 1) 12 ∧ cpOk M a2 0 q9 (fst (Int32.toNatClampNeg x1)) ((fst (Int32.toNatClampNeg (x1 + 1))) - (fst (Int32.toNatClampNeg x1))) ∧ post (cpM M a2 0 q9 (fst (Int32.toNatClampNeg x1)) ((fst (Int32.toNatClampNeg (x1 + 1))) - (fst (Int32.toNatClampNeg x1)))))
set_option maxRecDepth 20000 in
theorem S_Po_setPart {l : Launch} {D : va_G} {B t : Nat} {ac : Nat → ClassId} (a0 : Nat) (x1 : Int32) (a2 : Nat) (M : Mem) (post : Mem → Prop) (h : T_Po_setPart a0 x1 a2 M post) : Met l y_Po_setPart w_Po_setPart rm_Po_setPart (va_Pc [.ref (B + a0), .int x1, .ref (B + a2)] (PRE D B t ac M)) (QV D B ac post) 0 0 (AB B) := by
  refine met_v (by decide +kernel) (Nat.le_of_ble_eq_true rfl) (fun x h1 hR h3 h4 h5 h6 C Rt Nm => ?_)
  subst h3 h4 h5 h6
  unfold T_Po_setPart at h
  show J x 4 0 [(0, .ref (xB x + a0)), (1, .int x1), (2, .ref (xB x + a2))] [] 0 0 M
  refine J_first C (by decide) D_Po_setPart_0 ?_
  refine J_iload_n C 1 D_Po_setPart_3 rfl rfl ?_
  obtain ⟨c_4, h⟩ := h
  refine J_fald C D_Po_setPart_4 c_4 ?_
  refine J_istore_n (lv' := [(3, .int (fst (Int32.toNatClampNeg x1))), (0, .ref (xB x + a0)), (1, .int x1), (2, .ref (xB x + a2))]) C 3 D_Po_setPart_5 rfl (by decide) rfl ?_
  refine J_aload_n C 2 D_Po_setPart_6 rfl rfl ?_
  refine J_iconst (v := 0) C D_Po_setPart_7 rfl ?_
  refine J_aload_n C 0 D_Po_setPart_8 rfl rfl ?_
  obtain ⟨c_9, q9, e_9, h⟩ := h
  refine J_getR C fl_Po_9 D_Po_setPart_9 c_9 e_9 ?_
  refine J_iload_n C 3 D_Po_setPart_12 rfl rfl ?_
  refine J_first C (by decide) D_Po_setPart_13 ?_
  refine J_iload_n C 1 D_Po_setPart_16 rfl rfl ?_
  refine J_iconst (v := 1) C D_Po_setPart_17 rfl ?_
  refine J_iadd C D_Po_setPart_18 ?_
  obtain ⟨c_19, h⟩ := h
  refine J_fald C D_Po_setPart_19 c_19 ?_
  refine J_iload_n C 3 D_Po_setPart_20 rfl rfl ?_
  refine J_isub C D_Po_setPart_21 ?_
  obtain ⟨c_22, h⟩ := h
  refine J_copy C kc_Po_25 D_Po_setPart_22 (by rw [hR]; decide) (Nat.le_of_ble_eq_true rfl) c_22 ?_
  exact J_vret C Rt D_Po_setPart_25 h
theorem D_Po_become_0 : decode b_Po_become 0 = .ok (.aload_n 1, 1) := by decide +kernel
theorem D_Po_become_1 : decode b_Po_become 1 = .ok (.getfield 9, 3) := by decide +kernel
theorem D_Po_become_4 : decode b_Po_become 4 = .ok (.iconst 0, 1) := by decide +kernel
theorem D_Po_become_5 : decode b_Po_become 5 = .ok (.aload_n 0, 1) := by decide +kernel
theorem D_Po_become_6 : decode b_Po_become 6 = .ok (.getfield 9, 3) := by decide +kernel
theorem D_Po_become_9 : decode b_Po_become 9 = .ok (.iconst 0, 1) := by decide +kernel
theorem D_Po_become_10 : decode b_Po_become 10 = .ok (.sipush 286, 3) := by decide +kernel
theorem D_Po_become_13 : decode b_Po_become 13 = .ok (.invokestatic 25, 3) := by decide +kernel
theorem D_Po_become_16 : decode b_Po_become 16 = .ok (.return_, 1) := by decide +kernel
abbrev rm_Po_become : Room := { frames := 1, cells := 0, slots := 0, locals := 40 }
def T_Po_become (a0 : Nat) (a1 : Nat) (M : Mem) (post : Mem → Prop) : Prop := (isK M a1 3 ∧ ∃ q1, gR M a1 1 = some q1 ∧ isK M a0 3 ∧ ∃ q6, gR M a0 1 = some q6 ∧ cpOk M q1 0 q6 0 286 ∧ post (cpM M q1 0 q6 0 286))
set_option maxRecDepth 20000 in
theorem S_Po_become {l : Launch} {D : va_G} {B t : Nat} {ac : Nat → ClassId} (a0 : Nat) (a1 : Nat) (M : Mem) (post : Mem → Prop) (h : T_Po_become a0 a1 M post) : Met l y_Po_become w_Po_become rm_Po_become (va_Pc [.ref (B + a0), .ref (B + a1)] (PRE D B t ac M)) (QV D B ac post) 0 0 (AB B) := by
  refine met_v (by decide +kernel) (Nat.le_of_ble_eq_true rfl) (fun x h1 hR h3 h4 h5 h6 C Rt Nm => ?_)
  subst h3 h4 h5 h6
  unfold T_Po_become at h
  show J x 2 0 [(0, .ref (xB x + a0)), (1, .ref (xB x + a1))] [] 0 0 M
  refine J_aload_n C 1 D_Po_become_0 rfl rfl ?_
  obtain ⟨c_1, q1, e_1, h⟩ := h
  refine J_getR C fl_Po_9 D_Po_become_1 c_1 e_1 ?_
  refine J_iconst (v := 0) C D_Po_become_4 rfl ?_
  refine J_aload_n C 0 D_Po_become_5 rfl rfl ?_
  obtain ⟨c_6, q6, e_6, h⟩ := h
  refine J_getR C fl_Po_9 D_Po_become_6 c_6 e_6 ?_
  refine J_iconst (v := 0) C D_Po_become_9 rfl ?_
  refine J_sipush (v := 286) C D_Po_become_10 rfl ?_
  obtain ⟨c_13, h⟩ := h
  refine J_copy C kc_Po_25 D_Po_become_13 (by rw [hR]; decide) (Nat.le_of_ble_eq_true rfl) c_13 ?_
  exact J_vret C Rt D_Po_become_16 h
end
section
theorem fl_Ro_11 : Fld "HeapTower$Rows" 11 5 2 false true := ⟨R_Ro, F_Ro, 8, t_Ro, iw_Ro, rfl, by decide, rfl, rfl, by decide, rfl, (gw_in (List.mem_of_getElem? (i := 158) (by decide +kernel)) (by decide +kernel)), t_Ro_ok, n_Ro, rfl, (fun h => by cases h), fun _ => Or.inr ⟨_, rfl⟩⟩
theorem fl_Ro_16 : Fld "HeapTower$Rows" 16 5 3 false true := ⟨R_Ro, F_Ro, 8, t_Ro, iw_Ro, rfl, by decide, rfl, rfl, by decide, rfl, (gw_in (List.mem_of_getElem? (i := 159) (by decide +kernel)) (by decide +kernel)), t_Ro_ok, n_Ro, rfl, (fun h => by cases h), fun _ => Or.inr ⟨_, rfl⟩⟩
theorem fl_Ro_20 : Fld "HeapTower$Rows" 20 5 4 false true := ⟨R_Ro, F_Ro, 8, t_Ro, iw_Ro, rfl, by decide, rfl, rfl, by decide, rfl, (gw_in (List.mem_of_getElem? (i := 160) (by decide +kernel)) (by decide +kernel)), t_Ro_ok, n_Ro, rfl, (fun h => by cases h), fun _ => Or.inr ⟨_, rfl⟩⟩
theorem fl_Ro_23 : Fld "HeapTower$Rows" 23 5 0 false true := ⟨R_Ro, F_Ro, 8, t_Ro, iw_Ro, rfl, by decide, rfl, rfl, by decide, rfl, (gw_in (List.mem_of_getElem? (i := 156) (by decide +kernel)) (by decide +kernel)), t_Ro_ok, n_Ro, rfl, (fun h => by cases h), fun _ => Or.inl ⟨_, rfl⟩⟩
theorem fl_Ro_27 : Fld "HeapTower$Rows" 27 5 1 false true := ⟨R_Ro, F_Ro, 8, t_Ro, iw_Ro, rfl, by decide, rfl, rfl, by decide, rfl, (gw_in (List.mem_of_getElem? (i := 157) (by decide +kernel)) (by decide +kernel)), t_Ro_ok, n_Ro, rfl, (fun h => by cases h), fun _ => Or.inl ⟨_, rfl⟩⟩
theorem fl_Ro_37 : Fld "HeapTower$Rows" 37 5 5 true false := ⟨R_Ro, F_Ro, 8, t_Ro, iw_Ro, rfl, by decide, rfl, rfl, by decide, rfl, (gw_in (List.mem_of_getElem? (i := 161) (by decide +kernel)) (by decide +kernel)), t_Ro_ok, n_Ro, rfl, fun _ => rfl, (fun h => by cases h)⟩
theorem fl_Ro_50 : Fld "HeapTower$Rows" 50 5 6 true false := ⟨R_Ro, F_Ro, 8, t_Ro, iw_Ro, rfl, by decide, rfl, rfl, by decide, rfl, (gw_in (List.mem_of_getElem? (i := 162) (by decide +kernel)) (by decide +kernel)), t_Ro_ok, n_Ro, rfl, fun _ => rfl, (fun h => by cases h)⟩
theorem fl_Ro_52 : Fld "HeapTower$Rows" 52 5 7 true false := ⟨R_Ro, F_Ro, 8, t_Ro, iw_Ro, rfl, by decide, rfl, rfl, by decide, rfl, (gw_in (List.mem_of_getElem? (i := 163) (by decide +kernel)) (by decide +kernel)), t_Ro_ok, n_Ro, rfl, fun _ => rfl, (fun h => by cases h)⟩
theorem ml_Ro_31 : MLV "HeapTower$Rows" 31 y_Pr_amount b_Pr_amount 2 (some .int) 1 4 := ⟨List.forall_mem_cons.mpr ⟨(gw_in (List.mem_of_getElem? (i := 538) (by decide +kernel)) (by decide +kernel)), List.forall_mem_cons.mpr ⟨(gw_in (List.mem_of_getElem? (i := 427) (by decide +kernel)) (by decide +kernel)), List.forall_mem_cons.mpr ⟨(gw_in (List.mem_of_getElem? (i := 428) (by decide +kernel)) (by decide +kernel)), List.forall_mem_cons.mpr ⟨(gw_in (List.mem_of_getElem? (i := 67) (by decide +kernel)) (by decide +kernel)), List.forall_mem_cons.mpr ⟨(gw_in (List.mem_of_getElem? (i := 429) (by decide +kernel)) (by decide +kernel)), fun _ h => absurd h List.not_mem_nil⟩⟩⟩⟩⟩, by decide, F_Pr, 6, rfl, by decide⟩
theorem ml_Ro_40 : MLV "HeapTower$Rows" 40 y_Pr_at b_Pr_at 3 (some .int) 2 4 := ⟨List.forall_mem_cons.mpr ⟨(gw_in (List.mem_of_getElem? (i := 539) (by decide +kernel)) (by decide +kernel)), List.forall_mem_cons.mpr ⟨(gw_in (List.mem_of_getElem? (i := 431) (by decide +kernel)) (by decide +kernel)), List.forall_mem_cons.mpr ⟨(gw_in (List.mem_of_getElem? (i := 432) (by decide +kernel)) (by decide +kernel)), List.forall_mem_cons.mpr ⟨(gw_in (List.mem_of_getElem? (i := 67) (by decide +kernel)) (by decide +kernel)), List.forall_mem_cons.mpr ⟨(gw_in (List.mem_of_getElem? (i := 433) (by decide +kernel)) (by decide +kernel)), fun _ h => absurd h List.not_mem_nil⟩⟩⟩⟩⟩, by decide, F_Pr, 6, rfl, by decide⟩
theorem ml_Ro_44 : MLV "HeapTower$Rows" 44 y_Nu_prime b_Nu_prime 1 (some .int) 0 2 := ⟨List.forall_mem_cons.mpr ⟨(gw_in (List.mem_of_getElem? (i := 540) (by decide +kernel)) (by decide +kernel)), List.forall_mem_cons.mpr ⟨(gw_in (List.mem_of_getElem? (i := 541) (by decide +kernel)) (by decide +kernel)), List.forall_mem_cons.mpr ⟨(gw_in (List.mem_of_getElem? (i := 542) (by decide +kernel)) (by decide +kernel)), List.forall_mem_cons.mpr ⟨(gw_in (List.mem_of_getElem? (i := 68) (by decide +kernel)) (by decide +kernel)), List.forall_mem_cons.mpr ⟨(gw_in (List.mem_of_getElem? (i := 543) (by decide +kernel)) (by decide +kernel)), fun _ h => absurd h List.not_mem_nil⟩⟩⟩⟩⟩, by decide, F_Nu, 2, rfl, by decide⟩
theorem ml_Ro_55 : MLS "HeapTower$Rows" 55 y_Ar_fill2 b_Ar_fill2 4 none 2 := ⟨List.forall_mem_cons.mpr ⟨(gw_in (List.mem_of_getElem? (i := 544) (by decide +kernel)) (by decide +kernel)), List.forall_mem_cons.mpr ⟨(gw_in (List.mem_of_getElem? (i := 343) (by decide +kernel)) (by decide +kernel)), List.forall_mem_cons.mpr ⟨(gw_in (List.mem_of_getElem? (i := 75) (by decide +kernel)) (by decide +kernel)), List.forall_mem_cons.mpr ⟨(gw_in (List.mem_of_getElem? (i := 344) (by decide +kernel)) (by decide +kernel)), fun _ h => absurd h List.not_mem_nil⟩⟩⟩⟩, by decide⟩
theorem ml_Ro_61 : MLV "HeapTower$Rows" 61 y_Ro_subtract b_Ro_subtract 6 none 3 5 := ⟨List.forall_mem_cons.mpr ⟨(gw_in (List.mem_of_getElem? (i := 590) (by decide +kernel)) (by decide +kernel)), List.forall_mem_cons.mpr ⟨(gw_in (List.mem_of_getElem? (i := 592) (by decide +kernel)) (by decide +kernel)), List.forall_mem_cons.mpr ⟨(gw_in (List.mem_of_getElem? (i := 16) (by decide +kernel)) (by decide +kernel)), List.forall_mem_cons.mpr ⟨(gw_in (List.mem_of_getElem? (i := 69) (by decide +kernel)) (by decide +kernel)), List.forall_mem_cons.mpr ⟨(gw_in (List.mem_of_getElem? (i := 593) (by decide +kernel)) (by decide +kernel)), fun _ h => absurd h List.not_mem_nil⟩⟩⟩⟩⟩, by decide, F_Ro, 8, rfl, by decide⟩
theorem ml_Ro_65 : MLV "HeapTower$Rows" 65 y_Nu_inverse b_Nu_inverse 2 (some .int) 1 2 := ⟨List.forall_mem_cons.mpr ⟨(gw_in (List.mem_of_getElem? (i := 594) (by decide +kernel)) (by decide +kernel)), List.forall_mem_cons.mpr ⟨(gw_in (List.mem_of_getElem? (i := 595) (by decide +kernel)) (by decide +kernel)), List.forall_mem_cons.mpr ⟨(gw_in (List.mem_of_getElem? (i := 596) (by decide +kernel)) (by decide +kernel)), List.forall_mem_cons.mpr ⟨(gw_in (List.mem_of_getElem? (i := 68) (by decide +kernel)) (by decide +kernel)), List.forall_mem_cons.mpr ⟨(gw_in (List.mem_of_getElem? (i := 597) (by decide +kernel)) (by decide +kernel)), fun _ h => absurd h List.not_mem_nil⟩⟩⟩⟩⟩, by decide, F_Nu, 2, rfl, by decide⟩
theorem D_Ro_begin_0 : decode b_Ro_begin 0 = .ok (.aload_n 0, 1) := by decide +kernel
theorem D_Ro_begin_1 : decode b_Ro_begin 1 = .ok (.aload_n 0, 1) := by decide +kernel
theorem D_Ro_begin_2 : decode b_Ro_begin 2 = .ok (.getfield 23, 3) := by decide +kernel
theorem D_Ro_begin_5 : decode b_Ro_begin 5 = .ok (.iload_n 1, 1) := by decide +kernel
theorem D_Ro_begin_6 : decode b_Ro_begin 6 = .ok (.invokevirtual 31, 3) := by decide +kernel
theorem D_Ro_begin_9 : decode b_Ro_begin 9 = .ok (.putfield 37, 3) := by decide +kernel
theorem D_Ro_begin_12 : decode b_Ro_begin 12 = .ok (.iconst 0, 1) := by decide +kernel
theorem D_Ro_begin_13 : decode b_Ro_begin 13 = .ok (.istore_n 2, 1) := by decide +kernel
theorem D_Ro_begin_14 : decode b_Ro_begin 14 = .ok (.iload_n 2, 1) := by decide +kernel
theorem D_Ro_begin_15 : decode b_Ro_begin 15 = .ok (.aload_n 0, 1) := by decide +kernel
theorem D_Ro_begin_16 : decode b_Ro_begin 16 = .ok (.getfield 37, 3) := by decide +kernel
theorem D_Ro_begin_19 : decode b_Ro_begin 19 = .ok (.if_icmp .ge 24, 3) := by decide +kernel
theorem D_Ro_begin_22 : decode b_Ro_begin 22 = .ok (.aload_n 0, 1) := by decide +kernel
theorem D_Ro_begin_23 : decode b_Ro_begin 23 = .ok (.getfield 20, 3) := by decide +kernel
theorem D_Ro_begin_26 : decode b_Ro_begin 26 = .ok (.iload_n 2, 1) := by decide +kernel
theorem D_Ro_begin_27 : decode b_Ro_begin 27 = .ok (.aload_n 0, 1) := by decide +kernel
theorem D_Ro_begin_28 : decode b_Ro_begin 28 = .ok (.getfield 23, 3) := by decide +kernel
theorem D_Ro_begin_31 : decode b_Ro_begin 31 = .ok (.iload_n 1, 1) := by decide +kernel
theorem D_Ro_begin_32 : decode b_Ro_begin 32 = .ok (.iload_n 2, 1) := by decide +kernel
theorem D_Ro_begin_33 : decode b_Ro_begin 33 = .ok (.invokevirtual 40, 3) := by decide +kernel
theorem D_Ro_begin_36 : decode b_Ro_begin 36 = .ok (.iastore, 1) := by decide +kernel
theorem D_Ro_begin_37 : decode b_Ro_begin 37 = .ok (.iinc 2 1, 3) := by decide +kernel
theorem D_Ro_begin_40 : decode b_Ro_begin 40 = .ok (.goto (-26), 3) := by decide +kernel
theorem D_Ro_begin_43 : decode b_Ro_begin 43 = .ok (.aload_n 0, 1) := by decide +kernel
theorem D_Ro_begin_44 : decode b_Ro_begin 44 = .ok (.aload_n 0, 1) := by decide +kernel
theorem D_Ro_begin_45 : decode b_Ro_begin 45 = .ok (.getfield 27, 3) := by decide +kernel
theorem D_Ro_begin_48 : decode b_Ro_begin 48 = .ok (.invokevirtual 44, 3) := by decide +kernel
theorem D_Ro_begin_51 : decode b_Ro_begin 51 = .ok (.putfield 50, 3) := by decide +kernel
theorem D_Ro_begin_54 : decode b_Ro_begin 54 = .ok (.aload_n 0, 1) := by decide +kernel
theorem D_Ro_begin_55 : decode b_Ro_begin 55 = .ok (.iconst 0, 1) := by decide +kernel
theorem D_Ro_begin_56 : decode b_Ro_begin 56 = .ok (.putfield 52, 3) := by decide +kernel
theorem D_Ro_begin_59 : decode b_Ro_begin 59 = .ok (.aload_n 0, 1) := by decide +kernel
theorem D_Ro_begin_60 : decode b_Ro_begin 60 = .ok (.getfield 16, 3) := by decide +kernel
theorem D_Ro_begin_63 : decode b_Ro_begin 63 = .ok (.iconst (-1), 1) := by decide +kernel
theorem D_Ro_begin_64 : decode b_Ro_begin 64 = .ok (.invokestatic 55, 3) := by decide +kernel
theorem D_Ro_begin_67 : decode b_Ro_begin 67 = .ok (.return_, 1) := by decide +kernel
abbrev rm_Ro_begin : Room := { frames := 1, cells := 0, slots := 0, locals := 23 }
def B_Ro_begin_14 (k14 : Nat → Int32 → Int32 → Mem → Prop) (post : Mem → Prop) (a0 : Nat) (x1 : Int32) (x2 : Int32) (M : Mem) : Prop := (isK M a0 5 ∧ ((gI M a0 5) ≤ x2 → (isK M a0 5 ∧ ∃ q45, gR M a0 1 = some q45 ∧ isK M q45 2 ∧ T_Nu_prime q45 M (fun r48 M48 => isK M48 a0 5 ∧ isK (sI M48 a0 6 r48) a0 5 ∧ isK (sI (sI M48 a0 6 r48) a0 7 0) a0 5 ∧ ∃ q60, gR (sI (sI M48 a0 6 r48) a0 7 0) a0 3 = some q60 ∧ T_Ar_fill2 q60 ((-1)) (sI (sI M48 a0 6 r48) a0 7 0) (fun M64 => post M64)))) ∧ (¬ (gI M a0 5) ≤ x2 → (isK M a0 5 ∧ ∃ q23, gR M a0 4 = some q23 ∧ isK M a0 5 ∧ ∃ q28, gR M a0 0 = some q28 ∧ isK M q28 4 ∧ T_Pr_at q28 x1 x2 M (fun r33 M33 => isA M33 q23 8 x2 ∧ k14 a0 x1 (x2 + 1) (sI M33 q23 (Int32.toNatClampNeg x2) r33)))))
set_option maxRecDepth 20000 in
theorem Z_Ro_begin_14 {x : Ctx} {post : Mem → Prop} (C : Ok x b_Ro_begin 3 "HeapTower$Rows") (hR : xR x = rm_Ro_begin) (Rt : RetV x post 0 0) {k14 : Nat → Int32 → Int32 → Mem → Prop} (K14 : ∀ (a0 : Nat) (x1 : Int32) (x2 : Int32) (M : Mem), k14 a0 x1 x2 M → J x 3 14 [(0, .ref (xB x + a0)), (1, .int x1), (2, .int x2)] [] 0 0 M) (a0 : Nat) (x1 : Int32) (x2 : Int32) (M : Mem) (h : B_Ro_begin_14 k14 post a0 x1 x2 M) : J x 3 14 [(0, .ref (xB x + a0)), (1, .int x1), (2, .int x2)] [] 0 0 M := by
  unfold B_Ro_begin_14 at h
  refine J_iload_n C 2 D_Ro_begin_14 rfl rfl ?_
  refine J_aload_n C 0 D_Ro_begin_15 rfl rfl ?_
  obtain ⟨c_16, h⟩ := h
  refine J_getI C fl_Ro_37 D_Ro_begin_16 c_16 ?_
  refine J_icmp_ge (tgt := 43) C D_Ro_begin_19 (by decide) (fun c_19 => ?_) (fun c_19 => ?_)
  · have h := h.1 c_19
    refine J_aload_n C 0 D_Ro_begin_43 rfl rfl ?_
    refine J_aload_n C 0 D_Ro_begin_44 rfl rfl ?_
    obtain ⟨c_45, q45, e_45, h⟩ := h
    refine J_getR C fl_Ro_27 D_Ro_begin_45 c_45 e_45 ?_
    obtain ⟨c_48, h⟩ := h
    refine J_callVi C ml_Ro_44 (S_Nu_prime _ _ _ h) (by rw [hR]; decide) rfl c_48 rfl (Nat.le_of_ble_eq_true rfl) D_Ro_begin_48 (fun r48 M48 h => ?_)
    obtain ⟨c_51, h⟩ := h
    refine J_putI C fl_Ro_50 D_Ro_begin_51 c_51 ?_
    refine J_aload_n C 0 D_Ro_begin_54 rfl rfl ?_
    refine J_iconst (v := 0) C D_Ro_begin_55 rfl ?_
    obtain ⟨c_56, h⟩ := h
    refine J_putI C fl_Ro_52 D_Ro_begin_56 c_56 ?_
    refine J_aload_n C 0 D_Ro_begin_59 rfl rfl ?_
    obtain ⟨c_60, q60, e_60, h⟩ := h
    refine J_getR C fl_Ro_16 D_Ro_begin_60 c_60 e_60 ?_
    refine J_iconst (v := (-1)) C D_Ro_begin_63 rfl ?_
    refine J_callSv C ml_Ro_55 (S_Ar_fill2 _ _ _ _ h) (by rw [hR]; decide) rfl rfl (Nat.le_of_ble_eq_true rfl) D_Ro_begin_64 (fun M64 h => ?_)
    exact J_vret C Rt D_Ro_begin_67 h
  · have h := h.2 c_19
    refine J_aload_n C 0 D_Ro_begin_22 rfl rfl ?_
    obtain ⟨c_23, q23, e_23, h⟩ := h
    refine J_getR C fl_Ro_20 D_Ro_begin_23 c_23 e_23 ?_
    refine J_iload_n C 2 D_Ro_begin_26 rfl rfl ?_
    refine J_aload_n C 0 D_Ro_begin_27 rfl rfl ?_
    obtain ⟨c_28, q28, e_28, h⟩ := h
    refine J_getR C fl_Ro_23 D_Ro_begin_28 c_28 e_28 ?_
    refine J_iload_n C 1 D_Ro_begin_31 rfl rfl ?_
    refine J_iload_n C 2 D_Ro_begin_32 rfl rfl ?_
    obtain ⟨c_33, h⟩ := h
    refine J_callVi C ml_Ro_40 (S_Pr_at _ _ _ _ _ h) (by rw [hR]; decide) rfl c_33 rfl (Nat.le_of_ble_eq_true rfl) D_Ro_begin_33 (fun r33 M33 h => ?_)
    obtain ⟨c_36, h⟩ := h
    refine J_iast C D_Ro_begin_36 c_36 ?_
    refine J_iinc (v := x2 + 1) (lv' := [(2, .int (x2 + 1)), (0, .ref (xB x + a0)), (1, .int x1)]) C 2 2 D_Ro_begin_37 rfl rfl (by decide) rfl ?_
    refine J_goto (tgt := 14) C D_Ro_begin_40 (by decide) ?_
    exact J_sub [1, 2, 0] rfl (K14 _ _ _ _ h)
def L_Ro_begin_14 (post : Mem → Prop) : Nat → Nat → Int32 → Int32 → Mem → Prop
  | 0, _, _, _, _ => False
  | n + 1, a0, x1, x2, M => B_Ro_begin_14 (L_Ro_begin_14 post n) post a0 x1 x2 M
theorem Y_Ro_begin_14 {x : Ctx} {post : Mem → Prop} (C : Ok x b_Ro_begin 3 "HeapTower$Rows") (hR : xR x = rm_Ro_begin) (Rt : RetV x post 0 0) : ∀ (n : Nat) (a0 : Nat) (x1 : Int32) (x2 : Int32) (M : Mem), L_Ro_begin_14 post n a0 x1 x2 M → J x 3 14 [(0, .ref (xB x + a0)), (1, .int x1), (2, .int x2)] [] 0 0 M := by
  intro n
  induction n with
  | zero => intro a0 x1 x2 M h; exact h.elim
  | succ n ih => intro a0 x1 x2 M h; exact Z_Ro_begin_14 C hR Rt ih _ _ _ _ h
def T_Ro_begin (a0 : Nat) (x1 : Int32) (M : Mem) (post : Mem → Prop) : Prop := (isK M a0 5 ∧ ∃ q2, gR M a0 0 = some q2 ∧ isK M q2 4 ∧ T_Pr_amount q2 x1 M (fun r6 M6 => isK M6 a0 5 ∧ ∃ n, L_Ro_begin_14 post n a0 x1 0 (sI M6 a0 5 r6)))
set_option maxRecDepth 20000 in
theorem S_Ro_begin {l : Launch} {D : va_G} {B t : Nat} {ac : Nat → ClassId} (a0 : Nat) (x1 : Int32) (M : Mem) (post : Mem → Prop) (h : T_Ro_begin a0 x1 M post) : Met l y_Ro_begin w_Ro_begin rm_Ro_begin (va_Pc [.ref (B + a0), .int x1] (PRE D B t ac M)) (QV D B ac post) 0 0 (AB B) := by
  refine met_v (by decide +kernel) (Nat.le_of_ble_eq_true rfl) (fun x h1 hR h3 h4 h5 h6 C Rt Nm => ?_)
  subst h3 h4 h5 h6
  unfold T_Ro_begin at h
  show J x 3 0 [(0, .ref (xB x + a0)), (1, .int x1)] [] 0 0 M
  refine J_aload_n C 0 D_Ro_begin_0 rfl rfl ?_
  refine J_aload_n C 0 D_Ro_begin_1 rfl rfl ?_
  obtain ⟨c_2, q2, e_2, h⟩ := h
  refine J_getR C fl_Ro_23 D_Ro_begin_2 c_2 e_2 ?_
  refine J_iload_n C 1 D_Ro_begin_5 rfl rfl ?_
  obtain ⟨c_6, h⟩ := h
  refine J_callVi C ml_Ro_31 (S_Pr_amount _ _ _ _ h) (by rw [hR]; decide) rfl c_6 rfl (Nat.le_of_ble_eq_true rfl) D_Ro_begin_6 (fun r6 M6 h => ?_)
  obtain ⟨c_9, h⟩ := h
  refine J_putI C fl_Ro_37 D_Ro_begin_9 c_9 ?_
  refine J_iconst (v := 0) C D_Ro_begin_12 rfl ?_
  refine J_istore_n (lv' := [(2, .int 0), (0, .ref (xB x + a0)), (1, .int x1)]) C 2 D_Ro_begin_13 rfl (by decide) rfl ?_
  obtain ⟨n, h⟩ := h
  exact J_sub [1, 2, 0] rfl (Y_Ro_begin_14 C hR Rt  n _ _ _ _ h)
theorem D_Ro_subtract_0 : decode b_Ro_subtract 0 = .ok (.iconst 0, 1) := by decide +kernel
theorem D_Ro_subtract_1 : decode b_Ro_subtract 1 = .ok (.istore 4, 2) := by decide +kernel
theorem D_Ro_subtract_3 : decode b_Ro_subtract 3 = .ok (.iload_n 2, 1) := by decide +kernel
theorem D_Ro_subtract_4 : decode b_Ro_subtract 4 = .ok (.ifCond .eq 59, 3) := by decide +kernel
theorem D_Ro_subtract_7 : decode b_Ro_subtract 7 = .ok (.iload 4, 2) := by decide +kernel
theorem D_Ro_subtract_9 : decode b_Ro_subtract 9 = .ok (.aload_n 0, 1) := by decide +kernel
theorem D_Ro_subtract_10 : decode b_Ro_subtract 10 = .ok (.getfield 37, 3) := by decide +kernel
theorem D_Ro_subtract_13 : decode b_Ro_subtract 13 = .ok (.if_icmp .ge 50, 3) := by decide +kernel
theorem D_Ro_subtract_16 : decode b_Ro_subtract 16 = .ok (.aload_n 0, 1) := by decide +kernel
theorem D_Ro_subtract_17 : decode b_Ro_subtract 17 = .ok (.getfield 20, 3) := by decide +kernel
theorem D_Ro_subtract_20 : decode b_Ro_subtract 20 = .ok (.iload 4, 2) := by decide +kernel
theorem D_Ro_subtract_22 : decode b_Ro_subtract 22 = .ok (.iaload, 1) := by decide +kernel
theorem D_Ro_subtract_23 : decode b_Ro_subtract 23 = .ok (.istore 5, 2) := by decide +kernel
theorem D_Ro_subtract_25 : decode b_Ro_subtract 25 = .ok (.aload_n 3, 1) := by decide +kernel
theorem D_Ro_subtract_26 : decode b_Ro_subtract 26 = .ok (.iload 5, 2) := by decide +kernel
theorem D_Ro_subtract_28 : decode b_Ro_subtract 28 = .ok (.iaload, 1) := by decide +kernel
theorem D_Ro_subtract_29 : decode b_Ro_subtract 29 = .ok (.ifCond .eq 28, 3) := by decide +kernel
theorem D_Ro_subtract_32 : decode b_Ro_subtract 32 = .ok (.aload_n 1, 1) := by decide +kernel
theorem D_Ro_subtract_33 : decode b_Ro_subtract 33 = .ok (.iload 5, 2) := by decide +kernel
theorem D_Ro_subtract_35 : decode b_Ro_subtract 35 = .ok (.aload_n 1, 1) := by decide +kernel
theorem D_Ro_subtract_36 : decode b_Ro_subtract 36 = .ok (.iload 5, 2) := by decide +kernel
theorem D_Ro_subtract_38 : decode b_Ro_subtract 38 = .ok (.iaload, 1) := by decide +kernel
theorem D_Ro_subtract_39 : decode b_Ro_subtract 39 = .ok (.aload_n 0, 1) := by decide +kernel
theorem D_Ro_subtract_40 : decode b_Ro_subtract 40 = .ok (.getfield 50, 3) := by decide +kernel
theorem D_Ro_subtract_43 : decode b_Ro_subtract 43 = .ok (.iload_n 2, 1) := by decide +kernel
theorem D_Ro_subtract_44 : decode b_Ro_subtract 44 = .ok (.isub, 1) := by decide +kernel
theorem D_Ro_subtract_45 : decode b_Ro_subtract 45 = .ok (.aload_n 3, 1) := by decide +kernel
theorem D_Ro_subtract_46 : decode b_Ro_subtract 46 = .ok (.iload 5, 2) := by decide +kernel
theorem D_Ro_subtract_48 : decode b_Ro_subtract 48 = .ok (.iaload, 1) := by decide +kernel
theorem D_Ro_subtract_49 : decode b_Ro_subtract 49 = .ok (.imul, 1) := by decide +kernel
theorem D_Ro_subtract_50 : decode b_Ro_subtract 50 = .ok (.iadd, 1) := by decide +kernel
theorem D_Ro_subtract_51 : decode b_Ro_subtract 51 = .ok (.aload_n 0, 1) := by decide +kernel
theorem D_Ro_subtract_52 : decode b_Ro_subtract 52 = .ok (.getfield 50, 3) := by decide +kernel
theorem D_Ro_subtract_55 : decode b_Ro_subtract 55 = .ok (.irem, 1) := by decide +kernel
theorem D_Ro_subtract_56 : decode b_Ro_subtract 56 = .ok (.iastore, 1) := by decide +kernel
theorem D_Ro_subtract_57 : decode b_Ro_subtract 57 = .ok (.iinc 4 1, 3) := by decide +kernel
theorem D_Ro_subtract_60 : decode b_Ro_subtract 60 = .ok (.goto (-57), 3) := by decide +kernel
theorem D_Ro_subtract_63 : decode b_Ro_subtract 63 = .ok (.return_, 1) := by decide +kernel
abbrev rm_Ro_subtract : Room := { frames := 0, cells := 0, slots := 0, locals := 0 }
def B_Ro_subtract_63 (post : Mem → Prop) (M : Mem) : Prop := (post M)
set_option maxRecDepth 20000 in
theorem Z_Ro_subtract_63 {x : Ctx} {post : Mem → Prop} (C : Ok x b_Ro_subtract 6 "HeapTower$Rows") (hR : xR x = rm_Ro_subtract) (Rt : RetV x post 0 0) (M : Mem) (h : B_Ro_subtract_63 post M) : J x 6 63 [] [] 0 0 M := by
  unfold B_Ro_subtract_63 at h
  exact J_vret C Rt D_Ro_subtract_63 h
def B_Ro_subtract_57 (k3 : Nat → Nat → Int32 → Nat → Int32 → Mem → Prop) (post : Mem → Prop) (a0 : Nat) (a1 : Nat) (x2 : Int32) (a3 : Nat) (x4 : Int32) (M : Mem) : Prop := (k3 a0 a1 x2 a3 (x4 + 1) M)
set_option maxRecDepth 20000 in
theorem Z_Ro_subtract_57 {x : Ctx} {post : Mem → Prop} (C : Ok x b_Ro_subtract 6 "HeapTower$Rows") (hR : xR x = rm_Ro_subtract) (Rt : RetV x post 0 0) {k3 : Nat → Nat → Int32 → Nat → Int32 → Mem → Prop} (K3 : ∀ (a0 : Nat) (a1 : Nat) (x2 : Int32) (a3 : Nat) (x4 : Int32) (M : Mem), k3 a0 a1 x2 a3 x4 M → J x 6 3 [(0, .ref (xB x + a0)), (1, .ref (xB x + a1)), (2, .int x2), (3, .ref (xB x + a3)), (4, .int x4)] [] 0 0 M) (a0 : Nat) (a1 : Nat) (x2 : Int32) (a3 : Nat) (x4 : Int32) (M : Mem) (h : B_Ro_subtract_57 k3 post a0 a1 x2 a3 x4 M) : J x 6 57 [(0, .ref (xB x + a0)), (1, .ref (xB x + a1)), (2, .int x2), (3, .ref (xB x + a3)), (4, .int x4)] [] 0 0 M := by
  unfold B_Ro_subtract_57 at h
  refine J_iinc (v := x4 + 1) (lv' := [(4, .int (x4 + 1)), (0, .ref (xB x + a0)), (1, .ref (xB x + a1)), (2, .int x2), (3, .ref (xB x + a3))]) C 4 4 D_Ro_subtract_57 rfl rfl (by decide) rfl ?_
  refine J_goto (tgt := 3) C D_Ro_subtract_60 (by decide) ?_
  exact J_sub [1, 2, 3, 4, 0] rfl (K3 _ _ _ _ _ _ h)
def B_Ro_subtract_3 (k3 : Nat → Nat → Int32 → Nat → Int32 → Mem → Prop) (post : Mem → Prop) (a0 : Nat) (a1 : Nat) (x2 : Int32) (a3 : Nat) (x4 : Int32) (M : Mem) : Prop := ((x2 = 0 → (B_Ro_subtract_63 post M)) ∧ (¬ x2 = 0 → (isK M a0 5 ∧ ((gI M a0 5) ≤ x4 → (B_Ro_subtract_63 post M)) ∧ (¬ (gI M a0 5) ≤ x4 → (isK M a0 5 ∧ ∃ q17, gR M a0 4 = some q17 ∧ isA M q17 8 x4 ∧ isA M a3 8 (gI M q17 (Int32.toNatClampNeg x4)) ∧ ((gI M a3 (Int32.toNatClampNeg (gI M q17 (Int32.toNatClampNeg x4)))) = 0 → (B_Ro_subtract_57 k3 post a0 a1 x2 a3 x4 M)) ∧ (¬ (gI M a3 (Int32.toNatClampNeg (gI M q17 (Int32.toNatClampNeg x4)))) = 0 → (isA M a1 8 (gI M q17 (Int32.toNatClampNeg x4)) ∧ isK M a0 5 ∧ isA M a3 8 (gI M q17 (Int32.toNatClampNeg x4)) ∧ isK M a0 5 ∧ ¬ ((gI M a0 6) : Int32) = 0 ∧ isA M a1 8 (gI M q17 (Int32.toNatClampNeg x4)) ∧ B_Ro_subtract_57 k3 post a0 a1 x2 a3 x4 (sI M a1 (Int32.toNatClampNeg (gI M q17 (Int32.toNatClampNeg x4))) (((gI M a1 (Int32.toNatClampNeg (gI M q17 (Int32.toNatClampNeg x4)))) + (((gI M a0 6) - x2) * (gI M a3 (Int32.toNatClampNeg (gI M q17 (Int32.toNatClampNeg x4)))))) - ((gI M a1 (Int32.toNatClampNeg (gI M q17 (Int32.toNatClampNeg x4)))) + (((gI M a0 6) - x2) * (gI M a3 (Int32.toNatClampNeg (gI M q17 (Int32.toNatClampNeg x4)))))) / (gI M a0 6) * (gI M a0 6))))))))))
set_option maxRecDepth 20000 in
theorem Z_Ro_subtract_3 {x : Ctx} {post : Mem → Prop} (C : Ok x b_Ro_subtract 6 "HeapTower$Rows") (hR : xR x = rm_Ro_subtract) (Rt : RetV x post 0 0) {k3 : Nat → Nat → Int32 → Nat → Int32 → Mem → Prop} (K3 : ∀ (a0 : Nat) (a1 : Nat) (x2 : Int32) (a3 : Nat) (x4 : Int32) (M : Mem), k3 a0 a1 x2 a3 x4 M → J x 6 3 [(0, .ref (xB x + a0)), (1, .ref (xB x + a1)), (2, .int x2), (3, .ref (xB x + a3)), (4, .int x4)] [] 0 0 M) (a0 : Nat) (a1 : Nat) (x2 : Int32) (a3 : Nat) (x4 : Int32) (M : Mem) (h : B_Ro_subtract_3 k3 post a0 a1 x2 a3 x4 M) : J x 6 3 [(0, .ref (xB x + a0)), (1, .ref (xB x + a1)), (2, .int x2), (3, .ref (xB x + a3)), (4, .int x4)] [] 0 0 M := by
  unfold B_Ro_subtract_3 at h
  refine J_iload_n C 2 D_Ro_subtract_3 rfl rfl ?_
  refine J_if_eq (tgt := 63) C D_Ro_subtract_4 (by decide) (fun c_4 => ?_) (fun c_4 => ?_)
  · have h := h.1 c_4
    exact J_sub [] rfl (Z_Ro_subtract_63 C hR Rt  _ h)
  · have h := h.2 c_4
    refine J_iload C 4 D_Ro_subtract_7 rfl ?_
    refine J_aload_n C 0 D_Ro_subtract_9 rfl rfl ?_
    obtain ⟨c_10, h⟩ := h
    refine J_getI C fl_Ro_37 D_Ro_subtract_10 c_10 ?_
    refine J_icmp_ge (tgt := 63) C D_Ro_subtract_13 (by decide) (fun c_13 => ?_) (fun c_13 => ?_)
    · have h := h.1 c_13
      exact J_sub [] rfl (Z_Ro_subtract_63 C hR Rt  _ h)
    · have h := h.2 c_13
      refine J_aload_n C 0 D_Ro_subtract_16 rfl rfl ?_
      obtain ⟨c_17, q17, e_17, h⟩ := h
      refine J_getR C fl_Ro_20 D_Ro_subtract_17 c_17 e_17 ?_
      refine J_iload C 4 D_Ro_subtract_20 rfl ?_
      obtain ⟨c_22, h⟩ := h
      refine J_iald C D_Ro_subtract_22 c_22 ?_
      refine J_istore (lv' := [(5, .int (gI M q17 (Int32.toNatClampNeg x4))), (0, .ref (xB x + a0)), (1, .ref (xB x + a1)), (2, .int x2), (3, .ref (xB x + a3)), (4, .int x4)]) C 5 D_Ro_subtract_23 (by decide) rfl ?_
      refine J_aload_n C 3 D_Ro_subtract_25 rfl rfl ?_
      refine J_iload C 5 D_Ro_subtract_26 rfl ?_
      obtain ⟨c_28, h⟩ := h
      refine J_iald C D_Ro_subtract_28 c_28 ?_
      refine J_if_eq (tgt := 57) C D_Ro_subtract_29 (by decide) (fun c_29 => ?_) (fun c_29 => ?_)
      · have h := h.1 c_29
        exact J_sub [1, 2, 3, 4, 5] rfl (Z_Ro_subtract_57 C hR Rt K3 _ _ _ _ _ _ h)
      · have h := h.2 c_29
        refine J_aload_n C 1 D_Ro_subtract_32 rfl rfl ?_
        refine J_iload C 5 D_Ro_subtract_33 rfl ?_
        refine J_aload_n C 1 D_Ro_subtract_35 rfl rfl ?_
        refine J_iload C 5 D_Ro_subtract_36 rfl ?_
        obtain ⟨c_38, h⟩ := h
        refine J_iald C D_Ro_subtract_38 c_38 ?_
        refine J_aload_n C 0 D_Ro_subtract_39 rfl rfl ?_
        obtain ⟨c_40, h⟩ := h
        refine J_getI C fl_Ro_50 D_Ro_subtract_40 c_40 ?_
        refine J_iload_n C 2 D_Ro_subtract_43 rfl rfl ?_
        refine J_isub C D_Ro_subtract_44 ?_
        refine J_aload_n C 3 D_Ro_subtract_45 rfl rfl ?_
        refine J_iload C 5 D_Ro_subtract_46 rfl ?_
        obtain ⟨c_48, h⟩ := h
        refine J_iald C D_Ro_subtract_48 c_48 ?_
        refine J_imul C D_Ro_subtract_49 ?_
        refine J_iadd C D_Ro_subtract_50 ?_
        refine J_aload_n C 0 D_Ro_subtract_51 rfl rfl ?_
        obtain ⟨c_52, h⟩ := h
        refine J_getI C fl_Ro_50 D_Ro_subtract_52 c_52 ?_
        obtain ⟨c_55, h⟩ := h
        refine J_irem C D_Ro_subtract_55 c_55 ?_
        obtain ⟨c_56, h⟩ := h
        refine J_iast C D_Ro_subtract_56 c_56 ?_
        exact J_sub [1, 2, 3, 4, 5] rfl (Z_Ro_subtract_57 C hR Rt K3 _ _ _ _ _ _ h)
def L_Ro_subtract_3 (post : Mem → Prop) : Nat → Nat → Nat → Int32 → Nat → Int32 → Mem → Prop
  | 0, _, _, _, _, _, _ => False
  | n + 1, a0, a1, x2, a3, x4, M => B_Ro_subtract_3 (L_Ro_subtract_3 post n) post a0 a1 x2 a3 x4 M
theorem Y_Ro_subtract_3 {x : Ctx} {post : Mem → Prop} (C : Ok x b_Ro_subtract 6 "HeapTower$Rows") (hR : xR x = rm_Ro_subtract) (Rt : RetV x post 0 0) : ∀ (n : Nat) (a0 : Nat) (a1 : Nat) (x2 : Int32) (a3 : Nat) (x4 : Int32) (M : Mem), L_Ro_subtract_3 post n a0 a1 x2 a3 x4 M → J x 6 3 [(0, .ref (xB x + a0)), (1, .ref (xB x + a1)), (2, .int x2), (3, .ref (xB x + a3)), (4, .int x4)] [] 0 0 M := by
  intro n
  induction n with
  | zero => intro a0 a1 x2 a3 x4 M h; exact h.elim
  | succ n ih => intro a0 a1 x2 a3 x4 M h; exact Z_Ro_subtract_3 C hR Rt ih _ _ _ _ _ _ h
def T_Ro_subtract (a0 : Nat) (a1 : Nat) (x2 : Int32) (a3 : Nat) (M : Mem) (post : Mem → Prop) : Prop := (∃ n, L_Ro_subtract_3 post n a0 a1 x2 a3 0 M)
set_option maxRecDepth 20000 in
theorem S_Ro_subtract {l : Launch} {D : va_G} {B t : Nat} {ac : Nat → ClassId} (a0 : Nat) (a1 : Nat) (x2 : Int32) (a3 : Nat) (M : Mem) (post : Mem → Prop) (h : T_Ro_subtract a0 a1 x2 a3 M post) : Met l y_Ro_subtract w_Ro_subtract rm_Ro_subtract (va_Pc [.ref (B + a0), .ref (B + a1), .int x2, .ref (B + a3)] (PRE D B t ac M)) (QV D B ac post) 0 0 (AB B) := by
  refine met_v (by decide +kernel) (Nat.le_of_ble_eq_true rfl) (fun x h1 hR h3 h4 h5 h6 C Rt Nm => ?_)
  subst h3 h4 h5 h6
  unfold T_Ro_subtract at h
  show J x 6 0 [(0, .ref (xB x + a0)), (1, .ref (xB x + a1)), (2, .int x2), (3, .ref (xB x + a3))] [] 0 0 M
  refine J_iconst (v := 0) C D_Ro_subtract_0 rfl ?_
  refine J_istore (lv' := [(4, .int 0), (0, .ref (xB x + a0)), (1, .ref (xB x + a1)), (2, .int x2), (3, .ref (xB x + a3))]) C 4 D_Ro_subtract_1 (by decide) rfl ?_
  obtain ⟨n, h⟩ := h
  exact J_sub [1, 2, 3, 4, 0] rfl (Y_Ro_subtract_3 C hR Rt  n _ _ _ _ _ _ h)
theorem D_Ro_add_0 : decode b_Ro_add 0 = .ok (.iconst (-1), 1) := by decide +kernel
theorem D_Ro_add_1 : decode b_Ro_add 1 = .ok (.istore_n 2, 1) := by decide +kernel
theorem D_Ro_add_2 : decode b_Ro_add 2 = .ok (.iconst 0, 1) := by decide +kernel
theorem D_Ro_add_3 : decode b_Ro_add 3 = .ok (.istore_n 3, 1) := by decide +kernel
theorem D_Ro_add_4 : decode b_Ro_add 4 = .ok (.iload_n 3, 1) := by decide +kernel
theorem D_Ro_add_5 : decode b_Ro_add 5 = .ok (.aload_n 0, 1) := by decide +kernel
theorem D_Ro_add_6 : decode b_Ro_add 6 = .ok (.getfield 37, 3) := by decide +kernel
theorem D_Ro_add_9 : decode b_Ro_add 9 = .ok (.if_icmp .ge 72, 3) := by decide +kernel
theorem D_Ro_add_12 : decode b_Ro_add 12 = .ok (.aload_n 0, 1) := by decide +kernel
theorem D_Ro_add_13 : decode b_Ro_add 13 = .ok (.getfield 20, 3) := by decide +kernel
theorem D_Ro_add_16 : decode b_Ro_add 16 = .ok (.iload_n 3, 1) := by decide +kernel
theorem D_Ro_add_17 : decode b_Ro_add 17 = .ok (.iaload, 1) := by decide +kernel
theorem D_Ro_add_18 : decode b_Ro_add 18 = .ok (.istore 4, 2) := by decide +kernel
theorem D_Ro_add_20 : decode b_Ro_add 20 = .ok (.aload_n 1, 1) := by decide +kernel
theorem D_Ro_add_21 : decode b_Ro_add 21 = .ok (.iload 4, 2) := by decide +kernel
theorem D_Ro_add_23 : decode b_Ro_add 23 = .ok (.iaload, 1) := by decide +kernel
theorem D_Ro_add_24 : decode b_Ro_add 24 = .ok (.ifCond .eq 37, 3) := by decide +kernel
theorem D_Ro_add_27 : decode b_Ro_add 27 = .ok (.aload_n 0, 1) := by decide +kernel
theorem D_Ro_add_28 : decode b_Ro_add 28 = .ok (.getfield 16, 3) := by decide +kernel
theorem D_Ro_add_31 : decode b_Ro_add 31 = .ok (.iload 4, 2) := by decide +kernel
theorem D_Ro_add_33 : decode b_Ro_add 33 = .ok (.iaload, 1) := by decide +kernel
theorem D_Ro_add_34 : decode b_Ro_add 34 = .ok (.ifCond .lt 27, 3) := by decide +kernel
theorem D_Ro_add_37 : decode b_Ro_add 37 = .ok (.aload_n 0, 1) := by decide +kernel
theorem D_Ro_add_38 : decode b_Ro_add 38 = .ok (.aload_n 1, 1) := by decide +kernel
theorem D_Ro_add_39 : decode b_Ro_add 39 = .ok (.aload_n 1, 1) := by decide +kernel
theorem D_Ro_add_40 : decode b_Ro_add 40 = .ok (.iload 4, 2) := by decide +kernel
theorem D_Ro_add_42 : decode b_Ro_add 42 = .ok (.iaload, 1) := by decide +kernel
theorem D_Ro_add_43 : decode b_Ro_add 43 = .ok (.aload_n 0, 1) := by decide +kernel
theorem D_Ro_add_44 : decode b_Ro_add 44 = .ok (.getfield 11, 3) := by decide +kernel
theorem D_Ro_add_47 : decode b_Ro_add 47 = .ok (.aload_n 0, 1) := by decide +kernel
theorem D_Ro_add_48 : decode b_Ro_add 48 = .ok (.getfield 16, 3) := by decide +kernel
theorem D_Ro_add_51 : decode b_Ro_add 51 = .ok (.iload 4, 2) := by decide +kernel
theorem D_Ro_add_53 : decode b_Ro_add 53 = .ok (.iaload, 1) := by decide +kernel
theorem D_Ro_add_54 : decode b_Ro_add 54 = .ok (.aaload, 1) := by decide +kernel
theorem D_Ro_add_55 : decode b_Ro_add 55 = .ok (.invokevirtual 61, 3) := by decide +kernel
theorem D_Ro_add_58 : decode b_Ro_add 58 = .ok (.goto 17, 3) := by decide +kernel
theorem D_Ro_add_61 : decode b_Ro_add 61 = .ok (.aload_n 1, 1) := by decide +kernel
theorem D_Ro_add_62 : decode b_Ro_add 62 = .ok (.iload 4, 2) := by decide +kernel
theorem D_Ro_add_64 : decode b_Ro_add 64 = .ok (.iaload, 1) := by decide +kernel
theorem D_Ro_add_65 : decode b_Ro_add 65 = .ok (.ifCond .eq 10, 3) := by decide +kernel
theorem D_Ro_add_68 : decode b_Ro_add 68 = .ok (.iload_n 2, 1) := by decide +kernel
theorem D_Ro_add_69 : decode b_Ro_add 69 = .ok (.ifCond .ge 6, 3) := by decide +kernel
theorem D_Ro_add_72 : decode b_Ro_add 72 = .ok (.iload 4, 2) := by decide +kernel
theorem D_Ro_add_74 : decode b_Ro_add 74 = .ok (.istore_n 2, 1) := by decide +kernel
theorem D_Ro_add_75 : decode b_Ro_add 75 = .ok (.iinc 3 1, 3) := by decide +kernel
theorem D_Ro_add_78 : decode b_Ro_add 78 = .ok (.goto (-74), 3) := by decide +kernel
theorem D_Ro_add_81 : decode b_Ro_add 81 = .ok (.iload_n 2, 1) := by decide +kernel
theorem D_Ro_add_82 : decode b_Ro_add 82 = .ok (.ifCond .lt 12, 3) := by decide +kernel
theorem D_Ro_add_85 : decode b_Ro_add 85 = .ok (.aload_n 0, 1) := by decide +kernel
theorem D_Ro_add_86 : decode b_Ro_add 86 = .ok (.getfield 52, 3) := by decide +kernel
theorem D_Ro_add_89 : decode b_Ro_add 89 = .ok (.bipush 66, 2) := by decide +kernel
theorem D_Ro_add_91 : decode b_Ro_add 91 = .ok (.if_icmp .lt 5, 3) := by decide +kernel
theorem D_Ro_add_94 : decode b_Ro_add 94 = .ok (.iconst 0, 1) := by decide +kernel
theorem D_Ro_add_95 : decode b_Ro_add 95 = .ok (.ireturn, 1) := by decide +kernel
theorem D_Ro_add_96 : decode b_Ro_add 96 = .ok (.aload_n 0, 1) := by decide +kernel
theorem D_Ro_add_97 : decode b_Ro_add 97 = .ok (.getfield 27, 3) := by decide +kernel
theorem D_Ro_add_100 : decode b_Ro_add 100 = .ok (.aload_n 1, 1) := by decide +kernel
theorem D_Ro_add_101 : decode b_Ro_add 101 = .ok (.iload_n 2, 1) := by decide +kernel
theorem D_Ro_add_102 : decode b_Ro_add 102 = .ok (.iaload, 1) := by decide +kernel
theorem D_Ro_add_103 : decode b_Ro_add 103 = .ok (.invokevirtual 65, 3) := by decide +kernel
theorem D_Ro_add_106 : decode b_Ro_add 106 = .ok (.istore_n 3, 1) := by decide +kernel
theorem D_Ro_add_107 : decode b_Ro_add 107 = .ok (.aload_n 0, 1) := by decide +kernel
theorem D_Ro_add_108 : decode b_Ro_add 108 = .ok (.getfield 11, 3) := by decide +kernel
theorem D_Ro_add_111 : decode b_Ro_add 111 = .ok (.aload_n 0, 1) := by decide +kernel
theorem D_Ro_add_112 : decode b_Ro_add 112 = .ok (.getfield 52, 3) := by decide +kernel
theorem D_Ro_add_115 : decode b_Ro_add 115 = .ok (.aaload, 1) := by decide +kernel
theorem D_Ro_add_116 : decode b_Ro_add 116 = .ok (.astore 4, 2) := by decide +kernel
theorem D_Ro_add_118 : decode b_Ro_add 118 = .ok (.iconst 0, 1) := by decide +kernel
theorem D_Ro_add_119 : decode b_Ro_add 119 = .ok (.istore 5, 2) := by decide +kernel
theorem D_Ro_add_121 : decode b_Ro_add 121 = .ok (.iload 5, 2) := by decide +kernel
theorem D_Ro_add_123 : decode b_Ro_add 123 = .ok (.aload_n 0, 1) := by decide +kernel
theorem D_Ro_add_124 : decode b_Ro_add 124 = .ok (.getfield 37, 3) := by decide +kernel
theorem D_Ro_add_127 : decode b_Ro_add 127 = .ok (.if_icmp .ge 35, 3) := by decide +kernel
theorem D_Ro_add_130 : decode b_Ro_add 130 = .ok (.aload 4, 2) := by decide +kernel
theorem D_Ro_add_132 : decode b_Ro_add 132 = .ok (.aload_n 0, 1) := by decide +kernel
theorem D_Ro_add_133 : decode b_Ro_add 133 = .ok (.getfield 20, 3) := by decide +kernel
theorem D_Ro_add_136 : decode b_Ro_add 136 = .ok (.iload 5, 2) := by decide +kernel
theorem D_Ro_add_138 : decode b_Ro_add 138 = .ok (.iaload, 1) := by decide +kernel
theorem D_Ro_add_139 : decode b_Ro_add 139 = .ok (.aload_n 1, 1) := by decide +kernel
theorem D_Ro_add_140 : decode b_Ro_add 140 = .ok (.aload_n 0, 1) := by decide +kernel
theorem D_Ro_add_141 : decode b_Ro_add 141 = .ok (.getfield 20, 3) := by decide +kernel
theorem D_Ro_add_144 : decode b_Ro_add 144 = .ok (.iload 5, 2) := by decide +kernel
theorem D_Ro_add_146 : decode b_Ro_add 146 = .ok (.iaload, 1) := by decide +kernel
theorem D_Ro_add_147 : decode b_Ro_add 147 = .ok (.iaload, 1) := by decide +kernel
theorem D_Ro_add_148 : decode b_Ro_add 148 = .ok (.iload_n 3, 1) := by decide +kernel
theorem D_Ro_add_149 : decode b_Ro_add 149 = .ok (.imul, 1) := by decide +kernel
theorem D_Ro_add_150 : decode b_Ro_add 150 = .ok (.aload_n 0, 1) := by decide +kernel
theorem D_Ro_add_151 : decode b_Ro_add 151 = .ok (.getfield 50, 3) := by decide +kernel
theorem D_Ro_add_154 : decode b_Ro_add 154 = .ok (.irem, 1) := by decide +kernel
theorem D_Ro_add_155 : decode b_Ro_add 155 = .ok (.iastore, 1) := by decide +kernel
theorem D_Ro_add_156 : decode b_Ro_add 156 = .ok (.iinc 5 1, 3) := by decide +kernel
theorem D_Ro_add_159 : decode b_Ro_add 159 = .ok (.goto (-38), 3) := by decide +kernel
theorem D_Ro_add_162 : decode b_Ro_add 162 = .ok (.iconst 0, 1) := by decide +kernel
theorem D_Ro_add_163 : decode b_Ro_add 163 = .ok (.istore 5, 2) := by decide +kernel
theorem D_Ro_add_165 : decode b_Ro_add 165 = .ok (.iload 5, 2) := by decide +kernel
theorem D_Ro_add_167 : decode b_Ro_add 167 = .ok (.aload_n 0, 1) := by decide +kernel
theorem D_Ro_add_168 : decode b_Ro_add 168 = .ok (.getfield 52, 3) := by decide +kernel
theorem D_Ro_add_171 : decode b_Ro_add 171 = .ok (.if_icmp .ge 31, 3) := by decide +kernel
theorem D_Ro_add_174 : decode b_Ro_add 174 = .ok (.aload_n 0, 1) := by decide +kernel
theorem D_Ro_add_175 : decode b_Ro_add 175 = .ok (.aload_n 0, 1) := by decide +kernel
theorem D_Ro_add_176 : decode b_Ro_add 176 = .ok (.getfield 11, 3) := by decide +kernel
theorem D_Ro_add_179 : decode b_Ro_add 179 = .ok (.iload 5, 2) := by decide +kernel
theorem D_Ro_add_181 : decode b_Ro_add 181 = .ok (.aaload, 1) := by decide +kernel
theorem D_Ro_add_182 : decode b_Ro_add 182 = .ok (.aload_n 0, 1) := by decide +kernel
theorem D_Ro_add_183 : decode b_Ro_add 183 = .ok (.getfield 11, 3) := by decide +kernel
theorem D_Ro_add_186 : decode b_Ro_add 186 = .ok (.iload 5, 2) := by decide +kernel
theorem D_Ro_add_188 : decode b_Ro_add 188 = .ok (.aaload, 1) := by decide +kernel
theorem D_Ro_add_189 : decode b_Ro_add 189 = .ok (.iload_n 2, 1) := by decide +kernel
theorem D_Ro_add_190 : decode b_Ro_add 190 = .ok (.iaload, 1) := by decide +kernel
theorem D_Ro_add_191 : decode b_Ro_add 191 = .ok (.aload 4, 2) := by decide +kernel
theorem D_Ro_add_193 : decode b_Ro_add 193 = .ok (.invokevirtual 61, 3) := by decide +kernel
theorem D_Ro_add_196 : decode b_Ro_add 196 = .ok (.iinc 5 1, 3) := by decide +kernel
theorem D_Ro_add_199 : decode b_Ro_add 199 = .ok (.goto (-34), 3) := by decide +kernel
theorem D_Ro_add_202 : decode b_Ro_add 202 = .ok (.aload_n 0, 1) := by decide +kernel
theorem D_Ro_add_203 : decode b_Ro_add 203 = .ok (.getfield 16, 3) := by decide +kernel
theorem D_Ro_add_206 : decode b_Ro_add 206 = .ok (.iload_n 2, 1) := by decide +kernel
theorem D_Ro_add_207 : decode b_Ro_add 207 = .ok (.aload_n 0, 1) := by decide +kernel
theorem D_Ro_add_208 : decode b_Ro_add 208 = .ok (.getfield 52, 3) := by decide +kernel
theorem D_Ro_add_211 : decode b_Ro_add 211 = .ok (.iastore, 1) := by decide +kernel
theorem D_Ro_add_212 : decode b_Ro_add 212 = .ok (.aload_n 0, 1) := by decide +kernel
theorem D_Ro_add_213 : decode b_Ro_add 213 = .ok (.dup, 1) := by decide +kernel
theorem D_Ro_add_214 : decode b_Ro_add 214 = .ok (.getfield 52, 3) := by decide +kernel
theorem D_Ro_add_217 : decode b_Ro_add 217 = .ok (.iconst 1, 1) := by decide +kernel
theorem D_Ro_add_218 : decode b_Ro_add 218 = .ok (.iadd, 1) := by decide +kernel
theorem D_Ro_add_219 : decode b_Ro_add 219 = .ok (.putfield 52, 3) := by decide +kernel
theorem D_Ro_add_222 : decode b_Ro_add 222 = .ok (.iconst 1, 1) := by decide +kernel
theorem D_Ro_add_223 : decode b_Ro_add 223 = .ok (.ireturn, 1) := by decide +kernel
abbrev rm_Ro_add : Room := { frames := 1, cells := 0, slots := 0, locals := 25 }
def B_Ro_add_165 (k165 : Nat → Int32 → Nat → Int32 → Mem → Prop) (post : Int32 → Mem → Prop) (a0 : Nat) (x2 : Int32) (a4 : Nat) (x5 : Int32) (M : Mem) : Prop := (isK M a0 5 ∧ ((gI M a0 7) ≤ x5 → (isK M a0 5 ∧ ∃ q203, gR M a0 3 = some q203 ∧ isK M a0 5 ∧ isA M q203 8 x2 ∧ isK (sI M q203 (Int32.toNatClampNeg x2) (gI M a0 7)) a0 5 ∧ isK (sI M q203 (Int32.toNatClampNeg x2) (gI M a0 7)) a0 5 ∧ narrow .boolean (.int 1) = .int 1 ∧ post 1 (sI (sI M q203 (Int32.toNatClampNeg x2) (gI M a0 7)) a0 7 ((gI (sI M q203 (Int32.toNatClampNeg x2) (gI M a0 7)) a0 7) + 1)))) ∧ (¬ (gI M a0 7) ≤ x5 → (isK M a0 5 ∧ ∃ q176, gR M a0 2 = some q176 ∧ isA M q176 11 x5 ∧ ∃ q181, gR M q176 (Int32.toNatClampNeg x5) = some q181 ∧ isK M a0 5 ∧ ∃ q183, gR M a0 2 = some q183 ∧ isA M q183 11 x5 ∧ ∃ q188, gR M q183 (Int32.toNatClampNeg x5) = some q188 ∧ isA M q188 8 x2 ∧ isK M a0 5 ∧ T_Ro_subtract a0 q181 (gI M q188 (Int32.toNatClampNeg x2)) a4 M (fun M193 => k165 a0 x2 a4 (x5 + 1) M193))))
set_option maxRecDepth 20000 in
theorem Z_Ro_add_165 {x : Ctx} {post : Int32 → Mem → Prop} (C : Ok x b_Ro_add 6 "HeapTower$Rows") (hR : xR x = rm_Ro_add) (Rt : RetI x .boolean post 0 0) {k165 : Nat → Int32 → Nat → Int32 → Mem → Prop} (K165 : ∀ (a0 : Nat) (x2 : Int32) (a4 : Nat) (x5 : Int32) (M : Mem), k165 a0 x2 a4 x5 M → J x 6 165 [(0, .ref (xB x + a0)), (2, .int x2), (4, .ref (xB x + a4)), (5, .int x5)] [] 0 0 M) (a0 : Nat) (x2 : Int32) (a4 : Nat) (x5 : Int32) (M : Mem) (h : B_Ro_add_165 k165 post a0 x2 a4 x5 M) : J x 6 165 [(0, .ref (xB x + a0)), (2, .int x2), (4, .ref (xB x + a4)), (5, .int x5)] [] 0 0 M := by
  unfold B_Ro_add_165 at h
  refine J_iload C 5 D_Ro_add_165 rfl ?_
  refine J_aload_n C 0 D_Ro_add_167 rfl rfl ?_
  obtain ⟨c_168, h⟩ := h
  refine J_getI C fl_Ro_52 D_Ro_add_168 c_168 ?_
  refine J_icmp_ge (tgt := 202) C D_Ro_add_171 (by decide) (fun c_171 => ?_) (fun c_171 => ?_)
  · have h := h.1 c_171
    refine J_aload_n C 0 D_Ro_add_202 rfl rfl ?_
    obtain ⟨c_203, q203, e_203, h⟩ := h
    refine J_getR C fl_Ro_16 D_Ro_add_203 c_203 e_203 ?_
    refine J_iload_n C 2 D_Ro_add_206 rfl rfl ?_
    refine J_aload_n C 0 D_Ro_add_207 rfl rfl ?_
    obtain ⟨c_208, h⟩ := h
    refine J_getI C fl_Ro_52 D_Ro_add_208 c_208 ?_
    obtain ⟨c_211, h⟩ := h
    refine J_iast C D_Ro_add_211 c_211 ?_
    refine J_aload_n C 0 D_Ro_add_212 rfl rfl ?_
    refine J_dup C D_Ro_add_213 rfl ?_
    obtain ⟨c_214, h⟩ := h
    refine J_getI C fl_Ro_52 D_Ro_add_214 c_214 ?_
    refine J_iconst (v := 1) C D_Ro_add_217 rfl ?_
    refine J_iadd C D_Ro_add_218 ?_
    obtain ⟨c_219, h⟩ := h
    refine J_putI C fl_Ro_52 D_Ro_add_219 c_219 ?_
    refine J_iconst (v := 1) C D_Ro_add_222 rfl ?_
    obtain ⟨c_223, h⟩ := h
    exact J_iret C Rt D_Ro_add_223 c_223 h
  · have h := h.2 c_171
    refine J_aload_n C 0 D_Ro_add_174 rfl rfl ?_
    refine J_aload_n C 0 D_Ro_add_175 rfl rfl ?_
    obtain ⟨c_176, q176, e_176, h⟩ := h
    refine J_getR C fl_Ro_11 D_Ro_add_176 c_176 e_176 ?_
    refine J_iload C 5 D_Ro_add_179 rfl ?_
    obtain ⟨c_181, q181, e_181, h⟩ := h
    refine J_aaldI C D_Ro_add_181 c_181 e_181 ?_
    refine J_aload_n C 0 D_Ro_add_182 rfl rfl ?_
    obtain ⟨c_183, q183, e_183, h⟩ := h
    refine J_getR C fl_Ro_11 D_Ro_add_183 c_183 e_183 ?_
    refine J_iload C 5 D_Ro_add_186 rfl ?_
    obtain ⟨c_188, q188, e_188, h⟩ := h
    refine J_aaldI C D_Ro_add_188 c_188 e_188 ?_
    refine J_iload_n C 2 D_Ro_add_189 rfl rfl ?_
    obtain ⟨c_190, h⟩ := h
    refine J_iald C D_Ro_add_190 c_190 ?_
    refine J_aload C 4 D_Ro_add_191 rfl ?_
    obtain ⟨c_193, h⟩ := h
    refine J_callVv C ml_Ro_61 (S_Ro_subtract _ _ _ _ _ _ h) (by rw [hR]; decide) rfl c_193 rfl (Nat.le_of_ble_eq_true rfl) D_Ro_add_193 (fun M193 h => ?_)
    refine J_iinc (v := x5 + 1) (lv' := [(5, .int (x5 + 1)), (0, .ref (xB x + a0)), (2, .int x2), (4, .ref (xB x + a4))]) C 5 3 D_Ro_add_196 rfl rfl (by decide) rfl ?_
    refine J_goto (tgt := 165) C D_Ro_add_199 (by decide) ?_
    exact J_sub [1, 2, 3, 0] rfl (K165 _ _ _ _ _ h)
def L_Ro_add_165 (post : Int32 → Mem → Prop) : Nat → Nat → Int32 → Nat → Int32 → Mem → Prop
  | 0, _, _, _, _, _ => False
  | n + 1, a0, x2, a4, x5, M => B_Ro_add_165 (L_Ro_add_165 post n) post a0 x2 a4 x5 M
theorem Y_Ro_add_165 {x : Ctx} {post : Int32 → Mem → Prop} (C : Ok x b_Ro_add 6 "HeapTower$Rows") (hR : xR x = rm_Ro_add) (Rt : RetI x .boolean post 0 0) : ∀ (n : Nat) (a0 : Nat) (x2 : Int32) (a4 : Nat) (x5 : Int32) (M : Mem), L_Ro_add_165 post n a0 x2 a4 x5 M → J x 6 165 [(0, .ref (xB x + a0)), (2, .int x2), (4, .ref (xB x + a4)), (5, .int x5)] [] 0 0 M := by
  intro n
  induction n with
  | zero => intro a0 x2 a4 x5 M h; exact h.elim
  | succ n ih => intro a0 x2 a4 x5 M h; exact Z_Ro_add_165 C hR Rt ih _ _ _ _ _ h
def B_Ro_add_121 (k121 : Nat → Nat → Int32 → Int32 → Nat → Int32 → Mem → Prop) (post : Int32 → Mem → Prop) (a0 : Nat) (a1 : Nat) (x2 : Int32) (x3 : Int32) (a4 : Nat) (x5 : Int32) (M : Mem) : Prop := (isK M a0 5 ∧ ((gI M a0 5) ≤ x5 → (∃ n, L_Ro_add_165 post n a0 x2 a4 0 M)) ∧ (¬ (gI M a0 5) ≤ x5 → (isK M a0 5 ∧ ∃ q133, gR M a0 4 = some q133 ∧ isA M q133 8 x5 ∧ isK M a0 5 ∧ ∃ q141, gR M a0 4 = some q141 ∧ isA M q141 8 x5 ∧ isA M a1 8 (gI M q141 (Int32.toNatClampNeg x5)) ∧ isK M a0 5 ∧ ¬ ((gI M a0 6) : Int32) = 0 ∧ isA M a4 8 (gI M q133 (Int32.toNatClampNeg x5)) ∧ k121 a0 a1 x2 x3 a4 (x5 + 1) (sI M a4 (Int32.toNatClampNeg (gI M q133 (Int32.toNatClampNeg x5))) (((gI M a1 (Int32.toNatClampNeg (gI M q141 (Int32.toNatClampNeg x5)))) * x3) - ((gI M a1 (Int32.toNatClampNeg (gI M q141 (Int32.toNatClampNeg x5)))) * x3) / (gI M a0 6) * (gI M a0 6))))))
set_option maxRecDepth 20000 in
theorem Z_Ro_add_121 {x : Ctx} {post : Int32 → Mem → Prop} (C : Ok x b_Ro_add 6 "HeapTower$Rows") (hR : xR x = rm_Ro_add) (Rt : RetI x .boolean post 0 0) {k121 : Nat → Nat → Int32 → Int32 → Nat → Int32 → Mem → Prop} (K121 : ∀ (a0 : Nat) (a1 : Nat) (x2 : Int32) (x3 : Int32) (a4 : Nat) (x5 : Int32) (M : Mem), k121 a0 a1 x2 x3 a4 x5 M → J x 6 121 [(0, .ref (xB x + a0)), (1, .ref (xB x + a1)), (2, .int x2), (3, .int x3), (4, .ref (xB x + a4)), (5, .int x5)] [] 0 0 M) (a0 : Nat) (a1 : Nat) (x2 : Int32) (x3 : Int32) (a4 : Nat) (x5 : Int32) (M : Mem) (h : B_Ro_add_121 k121 post a0 a1 x2 x3 a4 x5 M) : J x 6 121 [(0, .ref (xB x + a0)), (1, .ref (xB x + a1)), (2, .int x2), (3, .int x3), (4, .ref (xB x + a4)), (5, .int x5)] [] 0 0 M := by
  unfold B_Ro_add_121 at h
  refine J_iload C 5 D_Ro_add_121 rfl ?_
  refine J_aload_n C 0 D_Ro_add_123 rfl rfl ?_
  obtain ⟨c_124, h⟩ := h
  refine J_getI C fl_Ro_37 D_Ro_add_124 c_124 ?_
  refine J_icmp_ge (tgt := 162) C D_Ro_add_127 (by decide) (fun c_127 => ?_) (fun c_127 => ?_)
  · have h := h.1 c_127
    refine J_iconst (v := 0) C D_Ro_add_162 rfl ?_
    refine J_istore (lv' := [(5, .int 0), (0, .ref (xB x + a0)), (1, .ref (xB x + a1)), (2, .int x2), (3, .int x3), (4, .ref (xB x + a4))]) C 5 D_Ro_add_163 (by decide) rfl ?_
    obtain ⟨n, h⟩ := h
    exact J_sub [1, 3, 5, 0] rfl (Y_Ro_add_165 C hR Rt  n _ _ _ _ _ h)
  · have h := h.2 c_127
    refine J_aload C 4 D_Ro_add_130 rfl ?_
    refine J_aload_n C 0 D_Ro_add_132 rfl rfl ?_
    obtain ⟨c_133, q133, e_133, h⟩ := h
    refine J_getR C fl_Ro_20 D_Ro_add_133 c_133 e_133 ?_
    refine J_iload C 5 D_Ro_add_136 rfl ?_
    obtain ⟨c_138, h⟩ := h
    refine J_iald C D_Ro_add_138 c_138 ?_
    refine J_aload_n C 1 D_Ro_add_139 rfl rfl ?_
    refine J_aload_n C 0 D_Ro_add_140 rfl rfl ?_
    obtain ⟨c_141, q141, e_141, h⟩ := h
    refine J_getR C fl_Ro_20 D_Ro_add_141 c_141 e_141 ?_
    refine J_iload C 5 D_Ro_add_144 rfl ?_
    obtain ⟨c_146, h⟩ := h
    refine J_iald C D_Ro_add_146 c_146 ?_
    obtain ⟨c_147, h⟩ := h
    refine J_iald C D_Ro_add_147 c_147 ?_
    refine J_iload_n C 3 D_Ro_add_148 rfl rfl ?_
    refine J_imul C D_Ro_add_149 ?_
    refine J_aload_n C 0 D_Ro_add_150 rfl rfl ?_
    obtain ⟨c_151, h⟩ := h
    refine J_getI C fl_Ro_50 D_Ro_add_151 c_151 ?_
    obtain ⟨c_154, h⟩ := h
    refine J_irem C D_Ro_add_154 c_154 ?_
    obtain ⟨c_155, h⟩ := h
    refine J_iast C D_Ro_add_155 c_155 ?_
    refine J_iinc (v := x5 + 1) (lv' := [(5, .int (x5 + 1)), (0, .ref (xB x + a0)), (1, .ref (xB x + a1)), (2, .int x2), (3, .int x3), (4, .ref (xB x + a4))]) C 5 5 D_Ro_add_156 rfl rfl (by decide) rfl ?_
    refine J_goto (tgt := 121) C D_Ro_add_159 (by decide) ?_
    exact J_sub [1, 2, 3, 4, 5, 0] rfl (K121 _ _ _ _ _ _ _ h)
def L_Ro_add_121 (post : Int32 → Mem → Prop) : Nat → Nat → Nat → Int32 → Int32 → Nat → Int32 → Mem → Prop
  | 0, _, _, _, _, _, _, _ => False
  | n + 1, a0, a1, x2, x3, a4, x5, M => B_Ro_add_121 (L_Ro_add_121 post n) post a0 a1 x2 x3 a4 x5 M
theorem Y_Ro_add_121 {x : Ctx} {post : Int32 → Mem → Prop} (C : Ok x b_Ro_add 6 "HeapTower$Rows") (hR : xR x = rm_Ro_add) (Rt : RetI x .boolean post 0 0) : ∀ (n : Nat) (a0 : Nat) (a1 : Nat) (x2 : Int32) (x3 : Int32) (a4 : Nat) (x5 : Int32) (M : Mem), L_Ro_add_121 post n a0 a1 x2 x3 a4 x5 M → J x 6 121 [(0, .ref (xB x + a0)), (1, .ref (xB x + a1)), (2, .int x2), (3, .int x3), (4, .ref (xB x + a4)), (5, .int x5)] [] 0 0 M := by
  intro n
  induction n with
  | zero => intro a0 a1 x2 x3 a4 x5 M h; exact h.elim
  | succ n ih => intro a0 a1 x2 x3 a4 x5 M h; exact Z_Ro_add_121 C hR Rt ih _ _ _ _ _ _ _ h
def B_Ro_add_94 (post : Int32 → Mem → Prop) (M : Mem) : Prop := (narrow .boolean (.int 0) = .int 0 ∧ post 0 M)
set_option maxRecDepth 20000 in
theorem Z_Ro_add_94 {x : Ctx} {post : Int32 → Mem → Prop} (C : Ok x b_Ro_add 6 "HeapTower$Rows") (hR : xR x = rm_Ro_add) (Rt : RetI x .boolean post 0 0) (M : Mem) (h : B_Ro_add_94 post M) : J x 6 94 [] [] 0 0 M := by
  unfold B_Ro_add_94 at h
  refine J_iconst (v := 0) C D_Ro_add_94 rfl ?_
  obtain ⟨c_95, h⟩ := h
  exact J_iret C Rt D_Ro_add_95 c_95 h
def B_Ro_add_75 (k4 : Nat → Nat → Int32 → Int32 → Mem → Prop) (post : Int32 → Mem → Prop) (a0 : Nat) (a1 : Nat) (x2 : Int32) (x3 : Int32) (M : Mem) : Prop := (k4 a0 a1 x2 (x3 + 1) M)
set_option maxRecDepth 20000 in
theorem Z_Ro_add_75 {x : Ctx} {post : Int32 → Mem → Prop} (C : Ok x b_Ro_add 6 "HeapTower$Rows") (hR : xR x = rm_Ro_add) (Rt : RetI x .boolean post 0 0) {k4 : Nat → Nat → Int32 → Int32 → Mem → Prop} (K4 : ∀ (a0 : Nat) (a1 : Nat) (x2 : Int32) (x3 : Int32) (M : Mem), k4 a0 a1 x2 x3 M → J x 6 4 [(0, .ref (xB x + a0)), (1, .ref (xB x + a1)), (2, .int x2), (3, .int x3)] [] 0 0 M) (a0 : Nat) (a1 : Nat) (x2 : Int32) (x3 : Int32) (M : Mem) (h : B_Ro_add_75 k4 post a0 a1 x2 x3 M) : J x 6 75 [(0, .ref (xB x + a0)), (1, .ref (xB x + a1)), (2, .int x2), (3, .int x3)] [] 0 0 M := by
  unfold B_Ro_add_75 at h
  refine J_iinc (v := x3 + 1) (lv' := [(3, .int (x3 + 1)), (0, .ref (xB x + a0)), (1, .ref (xB x + a1)), (2, .int x2)]) C 3 3 D_Ro_add_75 rfl rfl (by decide) rfl ?_
  refine J_goto (tgt := 4) C D_Ro_add_78 (by decide) ?_
  exact J_sub [1, 2, 3, 0] rfl (K4 _ _ _ _ _ h)
def B_Ro_add_61 (k4 : Nat → Nat → Int32 → Int32 → Mem → Prop) (post : Int32 → Mem → Prop) (a0 : Nat) (a1 : Nat) (x2 : Int32) (x3 : Int32) (x4 : Int32) (M : Mem) : Prop := (isA M a1 8 x4 ∧ ((gI M a1 (Int32.toNatClampNeg x4)) = 0 → (B_Ro_add_75 k4 post a0 a1 x2 x3 M)) ∧ (¬ (gI M a1 (Int32.toNatClampNeg x4)) = 0 → ((0 ≤ x2 → (B_Ro_add_75 k4 post a0 a1 x2 x3 M)) ∧ (¬ 0 ≤ x2 → (B_Ro_add_75 k4 post a0 a1 x4 x3 M)))))
set_option maxRecDepth 20000 in
theorem Z_Ro_add_61 {x : Ctx} {post : Int32 → Mem → Prop} (C : Ok x b_Ro_add 6 "HeapTower$Rows") (hR : xR x = rm_Ro_add) (Rt : RetI x .boolean post 0 0) {k4 : Nat → Nat → Int32 → Int32 → Mem → Prop} (K4 : ∀ (a0 : Nat) (a1 : Nat) (x2 : Int32) (x3 : Int32) (M : Mem), k4 a0 a1 x2 x3 M → J x 6 4 [(0, .ref (xB x + a0)), (1, .ref (xB x + a1)), (2, .int x2), (3, .int x3)] [] 0 0 M) (a0 : Nat) (a1 : Nat) (x2 : Int32) (x3 : Int32) (x4 : Int32) (M : Mem) (h : B_Ro_add_61 k4 post a0 a1 x2 x3 x4 M) : J x 6 61 [(0, .ref (xB x + a0)), (1, .ref (xB x + a1)), (2, .int x2), (3, .int x3), (4, .int x4)] [] 0 0 M := by
  unfold B_Ro_add_61 at h
  refine J_aload_n C 1 D_Ro_add_61 rfl rfl ?_
  refine J_iload C 4 D_Ro_add_62 rfl ?_
  obtain ⟨c_64, h⟩ := h
  refine J_iald C D_Ro_add_64 c_64 ?_
  refine J_if_eq (tgt := 75) C D_Ro_add_65 (by decide) (fun c_65 => ?_) (fun c_65 => ?_)
  · have h := h.1 c_65
    exact J_sub [0, 1, 2, 3] rfl (Z_Ro_add_75 C hR Rt K4 _ _ _ _ _ h)
  · have h := h.2 c_65
    refine J_iload_n C 2 D_Ro_add_68 rfl rfl ?_
    refine J_if_ge (tgt := 75) C D_Ro_add_69 (by decide) (fun c_69 => ?_) (fun c_69 => ?_)
    · have h := h.1 c_69
      exact J_sub [0, 1, 2, 3] rfl (Z_Ro_add_75 C hR Rt K4 _ _ _ _ _ h)
    · have h := h.2 c_69
      refine J_iload C 4 D_Ro_add_72 rfl ?_
      refine J_istore_n (lv' := [(2, .int x4), (0, .ref (xB x + a0)), (1, .ref (xB x + a1)), (3, .int x3), (4, .int x4)]) C 2 D_Ro_add_74 rfl (by decide) rfl ?_
      exact J_sub [1, 2, 0, 3] rfl (Z_Ro_add_75 C hR Rt K4 _ _ _ _ _ h)
def B_Ro_add_4 (k4 : Nat → Nat → Int32 → Int32 → Mem → Prop) (post : Int32 → Mem → Prop) (a0 : Nat) (a1 : Nat) (x2 : Int32) (x3 : Int32) (M : Mem) : Prop := (isK M a0 5 ∧ ((gI M a0 5) ≤ x3 → ((x2 < 0 → (B_Ro_add_94 post M)) ∧ (¬ x2 < 0 → (isK M a0 5 ∧ ((gI M a0 7) < 66 → (isK M a0 5 ∧ ∃ q97, gR M a0 1 = some q97 ∧ isA M a1 8 x2 ∧ isK M q97 2 ∧ T_Nu_inverse q97 (gI M a1 (Int32.toNatClampNeg x2)) M (fun r103 M103 => isK M103 a0 5 ∧ ∃ q108, gR M103 a0 2 = some q108 ∧ isK M103 a0 5 ∧ isA M103 q108 11 (gI M103 a0 7) ∧ ∃ q115, gR M103 q108 (Int32.toNatClampNeg (gI M103 a0 7)) = some q115 ∧ ∃ n, L_Ro_add_121 post n a0 a1 x2 r103 q115 0 M103))) ∧ (¬ (gI M a0 7) < 66 → (B_Ro_add_94 post M)))))) ∧ (¬ (gI M a0 5) ≤ x3 → (isK M a0 5 ∧ ∃ q13, gR M a0 4 = some q13 ∧ isA M q13 8 x3 ∧ isA M a1 8 (gI M q13 (Int32.toNatClampNeg x3)) ∧ ((gI M a1 (Int32.toNatClampNeg (gI M q13 (Int32.toNatClampNeg x3)))) = 0 → (B_Ro_add_61 k4 post a0 a1 x2 x3 (gI M q13 (Int32.toNatClampNeg x3)) M)) ∧ (¬ (gI M a1 (Int32.toNatClampNeg (gI M q13 (Int32.toNatClampNeg x3)))) = 0 → (isK M a0 5 ∧ ∃ q28, gR M a0 3 = some q28 ∧ isA M q28 8 (gI M q13 (Int32.toNatClampNeg x3)) ∧ ((gI M q28 (Int32.toNatClampNeg (gI M q13 (Int32.toNatClampNeg x3)))) < 0 → (B_Ro_add_61 k4 post a0 a1 x2 x3 (gI M q13 (Int32.toNatClampNeg x3)) M)) ∧ (¬ (gI M q28 (Int32.toNatClampNeg (gI M q13 (Int32.toNatClampNeg x3)))) < 0 → (isA M a1 8 (gI M q13 (Int32.toNatClampNeg x3)) ∧ isK M a0 5 ∧ ∃ q44, gR M a0 2 = some q44 ∧ isK M a0 5 ∧ ∃ q48, gR M a0 3 = some q48 ∧ isA M q48 8 (gI M q13 (Int32.toNatClampNeg x3)) ∧ isA M q44 11 (gI M q48 (Int32.toNatClampNeg (gI M q13 (Int32.toNatClampNeg x3)))) ∧ ∃ q54, gR M q44 (Int32.toNatClampNeg (gI M q48 (Int32.toNatClampNeg (gI M q13 (Int32.toNatClampNeg x3))))) = some q54 ∧ isK M a0 5 ∧ T_Ro_subtract a0 a1 (gI M a1 (Int32.toNatClampNeg (gI M q13 (Int32.toNatClampNeg x3)))) q54 M (fun M55 => B_Ro_add_75 k4 post a0 a1 x2 x3 M55))))))))
set_option maxRecDepth 20000 in
theorem Z_Ro_add_4 {x : Ctx} {post : Int32 → Mem → Prop} (C : Ok x b_Ro_add 6 "HeapTower$Rows") (hR : xR x = rm_Ro_add) (Rt : RetI x .boolean post 0 0) {k4 : Nat → Nat → Int32 → Int32 → Mem → Prop} (K4 : ∀ (a0 : Nat) (a1 : Nat) (x2 : Int32) (x3 : Int32) (M : Mem), k4 a0 a1 x2 x3 M → J x 6 4 [(0, .ref (xB x + a0)), (1, .ref (xB x + a1)), (2, .int x2), (3, .int x3)] [] 0 0 M) (a0 : Nat) (a1 : Nat) (x2 : Int32) (x3 : Int32) (M : Mem) (h : B_Ro_add_4 k4 post a0 a1 x2 x3 M) : J x 6 4 [(0, .ref (xB x + a0)), (1, .ref (xB x + a1)), (2, .int x2), (3, .int x3)] [] 0 0 M := by
  unfold B_Ro_add_4 at h
  refine J_iload_n C 3 D_Ro_add_4 rfl rfl ?_
  refine J_aload_n C 0 D_Ro_add_5 rfl rfl ?_
  obtain ⟨c_6, h⟩ := h
  refine J_getI C fl_Ro_37 D_Ro_add_6 c_6 ?_
  refine J_icmp_ge (tgt := 81) C D_Ro_add_9 (by decide) (fun c_9 => ?_) (fun c_9 => ?_)
  · have h := h.1 c_9
    refine J_iload_n C 2 D_Ro_add_81 rfl rfl ?_
    refine J_if_lt (tgt := 94) C D_Ro_add_82 (by decide) (fun c_82 => ?_) (fun c_82 => ?_)
    · have h := h.1 c_82
      exact J_sub [] rfl (Z_Ro_add_94 C hR Rt  _ h)
    · have h := h.2 c_82
      refine J_aload_n C 0 D_Ro_add_85 rfl rfl ?_
      obtain ⟨c_86, h⟩ := h
      refine J_getI C fl_Ro_52 D_Ro_add_86 c_86 ?_
      refine J_bipush (v := 66) C D_Ro_add_89 rfl ?_
      refine J_icmp_lt (tgt := 96) C D_Ro_add_91 (by decide) (fun c_91 => ?_) (fun c_91 => ?_)
      · have h := h.1 c_91
        refine J_aload_n C 0 D_Ro_add_96 rfl rfl ?_
        obtain ⟨c_97, q97, e_97, h⟩ := h
        refine J_getR C fl_Ro_27 D_Ro_add_97 c_97 e_97 ?_
        refine J_aload_n C 1 D_Ro_add_100 rfl rfl ?_
        refine J_iload_n C 2 D_Ro_add_101 rfl rfl ?_
        obtain ⟨c_102, h⟩ := h
        refine J_iald C D_Ro_add_102 c_102 ?_
        obtain ⟨c_103, h⟩ := h
        refine J_callVi C ml_Ro_65 (S_Nu_inverse _ _ _ _ h) (by rw [hR]; decide) rfl c_103 rfl (Nat.le_of_ble_eq_true rfl) D_Ro_add_103 (fun r103 M103 h => ?_)
        refine J_istore_n (lv' := [(3, .int r103), (0, .ref (xB x + a0)), (1, .ref (xB x + a1)), (2, .int x2)]) C 3 D_Ro_add_106 rfl (by decide) rfl ?_
        refine J_aload_n C 0 D_Ro_add_107 rfl rfl ?_
        obtain ⟨c_108, q108, e_108, h⟩ := h
        refine J_getR C fl_Ro_11 D_Ro_add_108 c_108 e_108 ?_
        refine J_aload_n C 0 D_Ro_add_111 rfl rfl ?_
        obtain ⟨c_112, h⟩ := h
        refine J_getI C fl_Ro_52 D_Ro_add_112 c_112 ?_
        obtain ⟨c_115, q115, e_115, h⟩ := h
        refine J_aaldI C D_Ro_add_115 c_115 e_115 ?_
        refine J_astore (lv' := [(4, .ref (xB x + q115)), (3, .int r103), (0, .ref (xB x + a0)), (1, .ref (xB x + a1)), (2, .int x2)]) C 4 D_Ro_add_116 (by decide) rfl ?_
        refine J_iconst (v := 0) C D_Ro_add_118 rfl ?_
        refine J_istore (lv' := [(5, .int 0), (4, .ref (xB x + q115)), (3, .int r103), (0, .ref (xB x + a0)), (1, .ref (xB x + a1)), (2, .int x2)]) C 5 D_Ro_add_119 (by decide) rfl ?_
        obtain ⟨n, h⟩ := h
        exact J_sub [3, 4, 5, 2, 1, 0] rfl (Y_Ro_add_121 C hR Rt  n _ _ _ _ _ _ _ h)
      · have h := h.2 c_91
        exact J_sub [] rfl (Z_Ro_add_94 C hR Rt  _ h)
  · have h := h.2 c_9
    refine J_aload_n C 0 D_Ro_add_12 rfl rfl ?_
    obtain ⟨c_13, q13, e_13, h⟩ := h
    refine J_getR C fl_Ro_20 D_Ro_add_13 c_13 e_13 ?_
    refine J_iload_n C 3 D_Ro_add_16 rfl rfl ?_
    obtain ⟨c_17, h⟩ := h
    refine J_iald C D_Ro_add_17 c_17 ?_
    refine J_istore (lv' := [(4, .int (gI M q13 (Int32.toNatClampNeg x3))), (0, .ref (xB x + a0)), (1, .ref (xB x + a1)), (2, .int x2), (3, .int x3)]) C 4 D_Ro_add_18 (by decide) rfl ?_
    refine J_aload_n C 1 D_Ro_add_20 rfl rfl ?_
    refine J_iload C 4 D_Ro_add_21 rfl ?_
    obtain ⟨c_23, h⟩ := h
    refine J_iald C D_Ro_add_23 c_23 ?_
    refine J_if_eq (tgt := 61) C D_Ro_add_24 (by decide) (fun c_24 => ?_) (fun c_24 => ?_)
    · have h := h.1 c_24
      exact J_sub [1, 2, 3, 4, 0] rfl (Z_Ro_add_61 C hR Rt K4 _ _ _ _ _ _ h)
    · have h := h.2 c_24
      refine J_aload_n C 0 D_Ro_add_27 rfl rfl ?_
      obtain ⟨c_28, q28, e_28, h⟩ := h
      refine J_getR C fl_Ro_16 D_Ro_add_28 c_28 e_28 ?_
      refine J_iload C 4 D_Ro_add_31 rfl ?_
      obtain ⟨c_33, h⟩ := h
      refine J_iald C D_Ro_add_33 c_33 ?_
      refine J_if_lt (tgt := 61) C D_Ro_add_34 (by decide) (fun c_34 => ?_) (fun c_34 => ?_)
      · have h := h.1 c_34
        exact J_sub [1, 2, 3, 4, 0] rfl (Z_Ro_add_61 C hR Rt K4 _ _ _ _ _ _ h)
      · have h := h.2 c_34
        refine J_aload_n C 0 D_Ro_add_37 rfl rfl ?_
        refine J_aload_n C 1 D_Ro_add_38 rfl rfl ?_
        refine J_aload_n C 1 D_Ro_add_39 rfl rfl ?_
        refine J_iload C 4 D_Ro_add_40 rfl ?_
        obtain ⟨c_42, h⟩ := h
        refine J_iald C D_Ro_add_42 c_42 ?_
        refine J_aload_n C 0 D_Ro_add_43 rfl rfl ?_
        obtain ⟨c_44, q44, e_44, h⟩ := h
        refine J_getR C fl_Ro_11 D_Ro_add_44 c_44 e_44 ?_
        refine J_aload_n C 0 D_Ro_add_47 rfl rfl ?_
        obtain ⟨c_48, q48, e_48, h⟩ := h
        refine J_getR C fl_Ro_16 D_Ro_add_48 c_48 e_48 ?_
        refine J_iload C 4 D_Ro_add_51 rfl ?_
        obtain ⟨c_53, h⟩ := h
        refine J_iald C D_Ro_add_53 c_53 ?_
        obtain ⟨c_54, q54, e_54, h⟩ := h
        refine J_aaldI C D_Ro_add_54 c_54 e_54 ?_
        obtain ⟨c_55, h⟩ := h
        refine J_callVv C ml_Ro_61 (S_Ro_subtract _ _ _ _ _ _ h) (by rw [hR]; decide) rfl c_55 rfl (Nat.le_of_ble_eq_true rfl) D_Ro_add_55 (fun M55 h => ?_)
        refine J_goto (tgt := 75) C D_Ro_add_58 (by decide) ?_
        exact J_sub [1, 2, 3, 4] rfl (Z_Ro_add_75 C hR Rt K4 _ _ _ _ _ h)
def L_Ro_add_4 (post : Int32 → Mem → Prop) : Nat → Nat → Nat → Int32 → Int32 → Mem → Prop
  | 0, _, _, _, _, _ => False
  | n + 1, a0, a1, x2, x3, M => B_Ro_add_4 (L_Ro_add_4 post n) post a0 a1 x2 x3 M
theorem Y_Ro_add_4 {x : Ctx} {post : Int32 → Mem → Prop} (C : Ok x b_Ro_add 6 "HeapTower$Rows") (hR : xR x = rm_Ro_add) (Rt : RetI x .boolean post 0 0) : ∀ (n : Nat) (a0 : Nat) (a1 : Nat) (x2 : Int32) (x3 : Int32) (M : Mem), L_Ro_add_4 post n a0 a1 x2 x3 M → J x 6 4 [(0, .ref (xB x + a0)), (1, .ref (xB x + a1)), (2, .int x2), (3, .int x3)] [] 0 0 M := by
  intro n
  induction n with
  | zero => intro a0 a1 x2 x3 M h; exact h.elim
  | succ n ih => intro a0 a1 x2 x3 M h; exact Z_Ro_add_4 C hR Rt ih _ _ _ _ _ h
def T_Ro_add (a0 : Nat) (a1 : Nat) (M : Mem) (post : Int32 → Mem → Prop) : Prop := (∃ n, L_Ro_add_4 post n a0 a1 ((-1)) 0 M)
set_option maxRecDepth 20000 in
theorem S_Ro_add {l : Launch} {D : va_G} {B t : Nat} {ac : Nat → ClassId} (a0 : Nat) (a1 : Nat) (M : Mem) (post : Int32 → Mem → Prop) (h : T_Ro_add a0 a1 M post) : Met l y_Ro_add w_Ro_add rm_Ro_add (va_Pc [.ref (B + a0), .ref (B + a1)] (PRE D B t ac M)) (QI D B ac post) 0 0 (AB B) := by
  refine met_i (by decide +kernel) (Nat.le_of_ble_eq_true rfl) (fun x h1 hR h3 h4 h5 h6 C Rt => ?_)
  subst h3 h4 h5 h6
  unfold T_Ro_add at h
  show J x 6 0 [(0, .ref (xB x + a0)), (1, .ref (xB x + a1))] [] 0 0 M
  refine J_iconst (v := (-1)) C D_Ro_add_0 rfl ?_
  refine J_istore_n (lv' := [(2, .int ((-1))), (0, .ref (xB x + a0)), (1, .ref (xB x + a1))]) C 2 D_Ro_add_1 rfl (by decide) rfl ?_
  refine J_iconst (v := 0) C D_Ro_add_2 rfl ?_
  refine J_istore_n (lv' := [(3, .int 0), (2, .int ((-1))), (0, .ref (xB x + a0)), (1, .ref (xB x + a1))]) C 3 D_Ro_add_3 rfl (by decide) rfl ?_
  obtain ⟨n, h⟩ := h
  exact J_sub [2, 3, 1, 0] rfl (Y_Ro_add_4 C hR Rt  n _ _ _ _ _ h)
theorem D_Ro_hasHead_0 : decode b_Ro_hasHead 0 = .ok (.aload_n 0, 1) := by decide +kernel
theorem D_Ro_hasHead_1 : decode b_Ro_hasHead 1 = .ok (.getfield 16, 3) := by decide +kernel
theorem D_Ro_hasHead_4 : decode b_Ro_hasHead 4 = .ok (.iload_n 1, 1) := by decide +kernel
theorem D_Ro_hasHead_5 : decode b_Ro_hasHead 5 = .ok (.iaload, 1) := by decide +kernel
theorem D_Ro_hasHead_6 : decode b_Ro_hasHead 6 = .ok (.ifCond .lt 7, 3) := by decide +kernel
theorem D_Ro_hasHead_9 : decode b_Ro_hasHead 9 = .ok (.iconst 1, 1) := by decide +kernel
theorem D_Ro_hasHead_10 : decode b_Ro_hasHead 10 = .ok (.goto 4, 3) := by decide +kernel
theorem D_Ro_hasHead_13 : decode b_Ro_hasHead 13 = .ok (.iconst 0, 1) := by decide +kernel
theorem D_Ro_hasHead_14 : decode b_Ro_hasHead 14 = .ok (.ireturn, 1) := by decide +kernel
abbrev rm_Ro_hasHead : Room := { frames := 0, cells := 0, slots := 0, locals := 0 }
def B_Ro_hasHead_14 (post : Int32 → Mem → Prop) (s0 : Int32) (M : Mem) : Prop := (narrow .boolean (.int s0) = .int s0 ∧ post s0 M)
set_option maxRecDepth 20000 in
theorem Z_Ro_hasHead_14 {x : Ctx} {post : Int32 → Mem → Prop} (C : Ok x b_Ro_hasHead 2 "HeapTower$Rows") (hR : xR x = rm_Ro_hasHead) (Rt : RetI x .boolean post 0 0) (s0 : Int32) (M : Mem) (h : B_Ro_hasHead_14 post s0 M) : J x 2 14 [] [.int s0] 0 0 M := by
  unfold B_Ro_hasHead_14 at h
  obtain ⟨c_14, h⟩ := h
  exact J_iret C Rt D_Ro_hasHead_14 c_14 h
def T_Ro_hasHead (a0 : Nat) (x1 : Int32) (M : Mem) (post : Int32 → Mem → Prop) : Prop := (isK M a0 5 ∧ ∃ q1, gR M a0 3 = some q1 ∧ isA M q1 8 x1 ∧ ((gI M q1 (Int32.toNatClampNeg x1)) < 0 → (B_Ro_hasHead_14 post 0 M)) ∧ (¬ (gI M q1 (Int32.toNatClampNeg x1)) < 0 → (B_Ro_hasHead_14 post 1 M)))
set_option maxRecDepth 20000 in
theorem S_Ro_hasHead {l : Launch} {D : va_G} {B t : Nat} {ac : Nat → ClassId} (a0 : Nat) (x1 : Int32) (M : Mem) (post : Int32 → Mem → Prop) (h : T_Ro_hasHead a0 x1 M post) : Met l y_Ro_hasHead w_Ro_hasHead rm_Ro_hasHead (va_Pc [.ref (B + a0), .int x1] (PRE D B t ac M)) (QI D B ac post) 0 0 (AB B) := by
  refine met_i (by decide +kernel) (Nat.le_of_ble_eq_true rfl) (fun x h1 hR h3 h4 h5 h6 C Rt => ?_)
  subst h3 h4 h5 h6
  unfold T_Ro_hasHead at h
  show J x 2 0 [(0, .ref (xB x + a0)), (1, .int x1)] [] 0 0 M
  refine J_aload_n C 0 D_Ro_hasHead_0 rfl rfl ?_
  obtain ⟨c_1, q1, e_1, h⟩ := h
  refine J_getR C fl_Ro_16 D_Ro_hasHead_1 c_1 e_1 ?_
  refine J_iload_n C 1 D_Ro_hasHead_4 rfl rfl ?_
  obtain ⟨c_5, h⟩ := h
  refine J_iald C D_Ro_hasHead_5 c_5 ?_
  refine J_if_lt (tgt := 13) C D_Ro_hasHead_6 (by decide) (fun c_6 => ?_) (fun c_6 => ?_)
  · have h := h.1 c_6
    refine J_iconst (v := 0) C D_Ro_hasHead_13 rfl ?_
    exact J_sub [] rfl (Z_Ro_hasHead_14 C hR Rt  _ _ h)
  · have h := h.2 c_6
    refine J_iconst (v := 1) C D_Ro_hasHead_9 rfl ?_
    refine J_goto (tgt := 14) C D_Ro_hasHead_10 (by decide) ?_
    exact J_sub [] rfl (Z_Ro_hasHead_14 C hR Rt  _ _ h)
theorem D_Ro_numberAt_0 : decode b_Ro_numberAt 0 = .ok (.aload_n 0, 1) := by decide +kernel
theorem D_Ro_numberAt_1 : decode b_Ro_numberAt 1 = .ok (.getfield 16, 3) := by decide +kernel
theorem D_Ro_numberAt_4 : decode b_Ro_numberAt 4 = .ok (.iload_n 1, 1) := by decide +kernel
theorem D_Ro_numberAt_5 : decode b_Ro_numberAt 5 = .ok (.iaload, 1) := by decide +kernel
theorem D_Ro_numberAt_6 : decode b_Ro_numberAt 6 = .ok (.ifCond .ge 7, 3) := by decide +kernel
theorem D_Ro_numberAt_9 : decode b_Ro_numberAt 9 = .ok (.iconst 0, 1) := by decide +kernel
theorem D_Ro_numberAt_10 : decode b_Ro_numberAt 10 = .ok (.goto 16, 3) := by decide +kernel
theorem D_Ro_numberAt_13 : decode b_Ro_numberAt 13 = .ok (.aload_n 0, 1) := by decide +kernel
theorem D_Ro_numberAt_14 : decode b_Ro_numberAt 14 = .ok (.getfield 11, 3) := by decide +kernel
theorem D_Ro_numberAt_17 : decode b_Ro_numberAt 17 = .ok (.aload_n 0, 1) := by decide +kernel
theorem D_Ro_numberAt_18 : decode b_Ro_numberAt 18 = .ok (.getfield 16, 3) := by decide +kernel
theorem D_Ro_numberAt_21 : decode b_Ro_numberAt 21 = .ok (.iload_n 1, 1) := by decide +kernel
theorem D_Ro_numberAt_22 : decode b_Ro_numberAt 22 = .ok (.iaload, 1) := by decide +kernel
theorem D_Ro_numberAt_23 : decode b_Ro_numberAt 23 = .ok (.aaload, 1) := by decide +kernel
theorem D_Ro_numberAt_24 : decode b_Ro_numberAt 24 = .ok (.iload_n 2, 1) := by decide +kernel
theorem D_Ro_numberAt_25 : decode b_Ro_numberAt 25 = .ok (.iaload, 1) := by decide +kernel
theorem D_Ro_numberAt_26 : decode b_Ro_numberAt 26 = .ok (.ireturn, 1) := by decide +kernel
abbrev rm_Ro_numberAt : Room := { frames := 0, cells := 0, slots := 0, locals := 0 }
def B_Ro_numberAt_26 (post : Int32 → Mem → Prop) (s0 : Int32) (M : Mem) : Prop := (post s0 M)
set_option maxRecDepth 20000 in
theorem Z_Ro_numberAt_26 {x : Ctx} {post : Int32 → Mem → Prop} (C : Ok x b_Ro_numberAt 3 "HeapTower$Rows") (hR : xR x = rm_Ro_numberAt) (Rt : RetI x .int post 0 0) (s0 : Int32) (M : Mem) (h : B_Ro_numberAt_26 post s0 M) : J x 3 26 [] [.int s0] 0 0 M := by
  unfold B_Ro_numberAt_26 at h
  exact J_iret C Rt D_Ro_numberAt_26 rfl h
def T_Ro_numberAt (a0 : Nat) (x1 : Int32) (x2 : Int32) (M : Mem) (post : Int32 → Mem → Prop) : Prop := (isK M a0 5 ∧ ∃ q1, gR M a0 3 = some q1 ∧ isA M q1 8 x1 ∧ (0 ≤ (gI M q1 (Int32.toNatClampNeg x1)) → (isK M a0 5 ∧ ∃ q14, gR M a0 2 = some q14 ∧ isK M a0 5 ∧ ∃ q18, gR M a0 3 = some q18 ∧ isA M q18 8 x1 ∧ isA M q14 11 (gI M q18 (Int32.toNatClampNeg x1)) ∧ ∃ q23, gR M q14 (Int32.toNatClampNeg (gI M q18 (Int32.toNatClampNeg x1))) = some q23 ∧ isA M q23 8 x2 ∧ B_Ro_numberAt_26 post (gI M q23 (Int32.toNatClampNeg x2)) M)) ∧ (¬ 0 ≤ (gI M q1 (Int32.toNatClampNeg x1)) → (B_Ro_numberAt_26 post 0 M)))
set_option maxRecDepth 20000 in
theorem S_Ro_numberAt {l : Launch} {D : va_G} {B t : Nat} {ac : Nat → ClassId} (a0 : Nat) (x1 : Int32) (x2 : Int32) (M : Mem) (post : Int32 → Mem → Prop) (h : T_Ro_numberAt a0 x1 x2 M post) : Met l y_Ro_numberAt w_Ro_numberAt rm_Ro_numberAt (va_Pc [.ref (B + a0), .int x1, .int x2] (PRE D B t ac M)) (QI D B ac post) 0 0 (AB B) := by
  refine met_i (by decide +kernel) (Nat.le_of_ble_eq_true rfl) (fun x h1 hR h3 h4 h5 h6 C Rt => ?_)
  subst h3 h4 h5 h6
  unfold T_Ro_numberAt at h
  show J x 3 0 [(0, .ref (xB x + a0)), (1, .int x1), (2, .int x2)] [] 0 0 M
  refine J_aload_n C 0 D_Ro_numberAt_0 rfl rfl ?_
  obtain ⟨c_1, q1, e_1, h⟩ := h
  refine J_getR C fl_Ro_16 D_Ro_numberAt_1 c_1 e_1 ?_
  refine J_iload_n C 1 D_Ro_numberAt_4 rfl rfl ?_
  obtain ⟨c_5, h⟩ := h
  refine J_iald C D_Ro_numberAt_5 c_5 ?_
  refine J_if_ge (tgt := 13) C D_Ro_numberAt_6 (by decide) (fun c_6 => ?_) (fun c_6 => ?_)
  · have h := h.1 c_6
    refine J_aload_n C 0 D_Ro_numberAt_13 rfl rfl ?_
    obtain ⟨c_14, q14, e_14, h⟩ := h
    refine J_getR C fl_Ro_11 D_Ro_numberAt_14 c_14 e_14 ?_
    refine J_aload_n C 0 D_Ro_numberAt_17 rfl rfl ?_
    obtain ⟨c_18, q18, e_18, h⟩ := h
    refine J_getR C fl_Ro_16 D_Ro_numberAt_18 c_18 e_18 ?_
    refine J_iload_n C 1 D_Ro_numberAt_21 rfl rfl ?_
    obtain ⟨c_22, h⟩ := h
    refine J_iald C D_Ro_numberAt_22 c_22 ?_
    obtain ⟨c_23, q23, e_23, h⟩ := h
    refine J_aaldI C D_Ro_numberAt_23 c_23 e_23 ?_
    refine J_iload_n C 2 D_Ro_numberAt_24 rfl rfl ?_
    obtain ⟨c_25, h⟩ := h
    refine J_iald C D_Ro_numberAt_25 c_25 ?_
    exact J_sub [] rfl (Z_Ro_numberAt_26 C hR Rt  _ _ h)
  · have h := h.2 c_6
    refine J_iconst (v := 0) C D_Ro_numberAt_9 rfl ?_
    refine J_goto (tgt := 26) C D_Ro_numberAt_10 (by decide) ?_
    exact J_sub [] rfl (Z_Ro_numberAt_26 C hR Rt  _ _ h)
theorem D_Ro_size_0 : decode b_Ro_size 0 = .ok (.aload_n 0, 1) := by decide +kernel
theorem D_Ro_size_1 : decode b_Ro_size 1 = .ok (.getfield 52, 3) := by decide +kernel
theorem D_Ro_size_4 : decode b_Ro_size 4 = .ok (.ireturn, 1) := by decide +kernel
abbrev rm_Ro_size : Room := { frames := 0, cells := 0, slots := 0, locals := 0 }
def T_Ro_size (a0 : Nat) (M : Mem) (post : Int32 → Mem → Prop) : Prop := (isK M a0 5 ∧ post (gI M a0 7) M)
set_option maxRecDepth 20000 in
theorem S_Ro_size {l : Launch} {D : va_G} {B t : Nat} {ac : Nat → ClassId} (a0 : Nat) (M : Mem) (post : Int32 → Mem → Prop) (h : T_Ro_size a0 M post) : Met l y_Ro_size w_Ro_size rm_Ro_size (va_Pc [.ref (B + a0)] (PRE D B t ac M)) (QI D B ac post) 0 0 (AB B) := by
  refine met_i (by decide +kernel) (Nat.le_of_ble_eq_true rfl) (fun x h1 hR h3 h4 h5 h6 C Rt => ?_)
  subst h3 h4 h5 h6
  unfold T_Ro_size at h
  show J x 1 0 [(0, .ref (xB x + a0))] [] 0 0 M
  refine J_aload_n C 0 D_Ro_size_0 rfl rfl ?_
  obtain ⟨c_1, h⟩ := h
  refine J_getI C fl_Ro_52 D_Ro_size_1 c_1 ?_
  exact J_iret C Rt D_Ro_size_4 rfl h
end
section
theorem fl_Ba_11 : Fld "HeapTower$Base" 11 0 4 false true := ⟨R_Ba, F_Ba, 14, t_Ba, iw_Ba, rfl, by decide, rfl, rfl, by decide, rfl, (gw_in (List.mem_of_getElem? (i := 206) (by decide +kernel)) (by decide +kernel)), t_Ba_ok, n_Ba, rfl, (fun h => by cases h), fun _ => Or.inr ⟨_, rfl⟩⟩
theorem fl_Ba_15 : Fld "HeapTower$Base" 15 0 5 false true := ⟨R_Ba, F_Ba, 14, t_Ba, iw_Ba, rfl, by decide, rfl, rfl, by decide, rfl, (gw_in (List.mem_of_getElem? (i := 207) (by decide +kernel)) (by decide +kernel)), t_Ba_ok, n_Ba, rfl, (fun h => by cases h), fun _ => Or.inr ⟨_, rfl⟩⟩
theorem fl_Ba_18 : Fld "HeapTower$Base" 18 0 6 false true := ⟨R_Ba, F_Ba, 14, t_Ba, iw_Ba, rfl, by decide, rfl, rfl, by decide, rfl, (gw_in (List.mem_of_getElem? (i := 208) (by decide +kernel)) (by decide +kernel)), t_Ba_ok, n_Ba, rfl, (fun h => by cases h), fun _ => Or.inr ⟨_, rfl⟩⟩
theorem fl_Ba_21 : Fld "HeapTower$Base" 21 0 7 false true := ⟨R_Ba, F_Ba, 14, t_Ba, iw_Ba, rfl, by decide, rfl, rfl, by decide, rfl, (gw_in (List.mem_of_getElem? (i := 209) (by decide +kernel)) (by decide +kernel)), t_Ba_ok, n_Ba, rfl, (fun h => by cases h), fun _ => Or.inr ⟨_, rfl⟩⟩
theorem fl_Ba_24 : Fld "HeapTower$Base" 24 0 8 false true := ⟨R_Ba, F_Ba, 14, t_Ba, iw_Ba, rfl, by decide, rfl, rfl, by decide, rfl, (gw_in (List.mem_of_getElem? (i := 210) (by decide +kernel)) (by decide +kernel)), t_Ba_ok, n_Ba, rfl, (fun h => by cases h), fun _ => Or.inr ⟨_, rfl⟩⟩
theorem fl_Ba_27 : Fld "HeapTower$Base" 27 0 9 false true := ⟨R_Ba, F_Ba, 14, t_Ba, iw_Ba, rfl, by decide, rfl, rfl, by decide, rfl, (gw_in (List.mem_of_getElem? (i := 211) (by decide +kernel)) (by decide +kernel)), t_Ba_ok, n_Ba, rfl, (fun h => by cases h), fun _ => Or.inr ⟨_, rfl⟩⟩
theorem fl_Ba_33 : Fld "HeapTower$Base" 33 0 11 false true := ⟨R_Ba, F_Ba, 14, t_Ba, iw_Ba, rfl, by decide, rfl, rfl, by decide, rfl, (gw_in (List.mem_of_getElem? (i := 213) (by decide +kernel)) (by decide +kernel)), t_Ba_ok, n_Ba, rfl, (fun h => by cases h), fun _ => Or.inr ⟨_, rfl⟩⟩
theorem fl_Ba_36 : Fld "HeapTower$Base" 36 0 12 true false := ⟨R_Ba, F_Ba, 14, t_Ba, iw_Ba, rfl, by decide, rfl, rfl, by decide, rfl, (gw_in (List.mem_of_getElem? (i := 214) (by decide +kernel)) (by decide +kernel)), t_Ba_ok, n_Ba, rfl, fun _ => rfl, (fun h => by cases h)⟩
theorem fl_Ba_40 : Fld "HeapTower$Base" 40 0 0 false true := ⟨R_Ba, F_Ba, 14, t_Ba, iw_Ba, rfl, by decide, rfl, rfl, by decide, rfl, (gw_in (List.mem_of_getElem? (i := 202) (by decide +kernel)) (by decide +kernel)), t_Ba_ok, n_Ba, rfl, (fun h => by cases h), fun _ => Or.inl ⟨_, rfl⟩⟩
theorem fl_Ba_44 : Fld "HeapTower$Base" 44 0 1 false true := ⟨R_Ba, F_Ba, 14, t_Ba, iw_Ba, rfl, by decide, rfl, rfl, by decide, rfl, (gw_in (List.mem_of_getElem? (i := 203) (by decide +kernel)) (by decide +kernel)), t_Ba_ok, n_Ba, rfl, (fun h => by cases h), fun _ => Or.inl ⟨_, rfl⟩⟩
theorem fl_Ba_48 : Fld "HeapTower$Base" 48 0 2 false true := ⟨R_Ba, F_Ba, 14, t_Ba, iw_Ba, rfl, by decide, rfl, rfl, by decide, rfl, (gw_in (List.mem_of_getElem? (i := 204) (by decide +kernel)) (by decide +kernel)), t_Ba_ok, n_Ba, rfl, (fun h => by cases h), fun _ => Or.inl ⟨_, rfl⟩⟩
theorem fl_Ba_52 : Fld "HeapTower$Base" 52 0 3 false true := ⟨R_Ba, F_Ba, 14, t_Ba, iw_Ba, rfl, by decide, rfl, rfl, by decide, rfl, (gw_in (List.mem_of_getElem? (i := 205) (by decide +kernel)) (by decide +kernel)), t_Ba_ok, n_Ba, rfl, (fun h => by cases h), fun _ => Or.inr ⟨_, rfl⟩⟩
theorem fl_Ba_61 : Fld "HeapTower$Base" 61 0 13 true false := ⟨R_Ba, F_Ba, 14, t_Ba, iw_Ba, rfl, by decide, rfl, rfl, by decide, rfl, (gw_in (List.mem_of_getElem? (i := 215) (by decide +kernel)) (by decide +kernel)), t_Ba_ok, n_Ba, rfl, fun _ => rfl, (fun h => by cases h)⟩
theorem fn_Ba_124 : FldN "HeapTower$Base" 124 2 1 true := ⟨R_Nu, F_Nu, 2, iw_Nu, rfl, by decide, rfl, by decide, rfl, by decide⟩
theorem fn_Ba_126 : FldN "HeapTower$Base" 126 4 0 false := ⟨R_Pr, F_Pr, 6, iw_Pr, rfl, by decide, rfl, by decide, rfl, by decide⟩
theorem fn_Ba_129 : FldN "HeapTower$Base" 129 4 1 false := ⟨R_Pr, F_Pr, 6, iw_Pr, rfl, by decide, rfl, by decide, rfl, by decide⟩
theorem ml_Ba_55 : MLS "HeapTower$Base" 55 y_Ma_max b_Ma_max 2 (some .int) 2 := ⟨List.forall_mem_cons.mpr ⟨(gw_in (List.mem_of_getElem? (i := 331) (by decide +kernel)) (by decide +kernel)), List.forall_mem_cons.mpr ⟨(gw_in (List.mem_of_getElem? (i := 332) (by decide +kernel)) (by decide +kernel)), List.forall_mem_cons.mpr ⟨(gw_in (List.mem_of_getElem? (i := 74) (by decide +kernel)) (by decide +kernel)), List.forall_mem_cons.mpr ⟨(gw_in (List.mem_of_getElem? (i := 333) (by decide +kernel)) (by decide +kernel)), fun _ h => absurd h List.not_mem_nil⟩⟩⟩⟩, by decide⟩
theorem ml_Ba_64 : MLV "HeapTower$Base" 64 y_Pr_amount b_Pr_amount 2 (some .int) 1 4 := ⟨List.forall_mem_cons.mpr ⟨(gw_in (List.mem_of_getElem? (i := 549) (by decide +kernel)) (by decide +kernel)), List.forall_mem_cons.mpr ⟨(gw_in (List.mem_of_getElem? (i := 427) (by decide +kernel)) (by decide +kernel)), List.forall_mem_cons.mpr ⟨(gw_in (List.mem_of_getElem? (i := 428) (by decide +kernel)) (by decide +kernel)), List.forall_mem_cons.mpr ⟨(gw_in (List.mem_of_getElem? (i := 67) (by decide +kernel)) (by decide +kernel)), List.forall_mem_cons.mpr ⟨(gw_in (List.mem_of_getElem? (i := 429) (by decide +kernel)) (by decide +kernel)), fun _ h => absurd h List.not_mem_nil⟩⟩⟩⟩⟩, by decide, F_Pr, 6, rfl, by decide⟩
theorem ml_Ba_73 : MLS "HeapTower$Base" 73 y_Ar_fill2 b_Ar_fill2 4 none 2 := ⟨List.forall_mem_cons.mpr ⟨(gw_in (List.mem_of_getElem? (i := 576) (by decide +kernel)) (by decide +kernel)), List.forall_mem_cons.mpr ⟨(gw_in (List.mem_of_getElem? (i := 343) (by decide +kernel)) (by decide +kernel)), List.forall_mem_cons.mpr ⟨(gw_in (List.mem_of_getElem? (i := 75) (by decide +kernel)) (by decide +kernel)), List.forall_mem_cons.mpr ⟨(gw_in (List.mem_of_getElem? (i := 344) (by decide +kernel)) (by decide +kernel)), fun _ h => absurd h List.not_mem_nil⟩⟩⟩⟩, by decide⟩
theorem ml_Ba_79 : MLV "HeapTower$Base" 79 y_Ro_begin b_Ro_begin 3 none 1 5 := ⟨List.forall_mem_cons.mpr ⟨(gw_in (List.mem_of_getElem? (i := 534) (by decide +kernel)) (by decide +kernel)), List.forall_mem_cons.mpr ⟨(gw_in (List.mem_of_getElem? (i := 535) (by decide +kernel)) (by decide +kernel)), List.forall_mem_cons.mpr ⟨(gw_in (List.mem_of_getElem? (i := 536) (by decide +kernel)) (by decide +kernel)), List.forall_mem_cons.mpr ⟨(gw_in (List.mem_of_getElem? (i := 69) (by decide +kernel)) (by decide +kernel)), List.forall_mem_cons.mpr ⟨(gw_in (List.mem_of_getElem? (i := 537) (by decide +kernel)) (by decide +kernel)), fun _ h => absurd h List.not_mem_nil⟩⟩⟩⟩⟩, by decide, F_Ro, 8, rfl, by decide⟩
theorem ml_Ba_85 : MLV "HeapTower$Base" 85 y_Ba_inherit b_Ba_inherit 6 none 1 0 := ⟨List.forall_mem_cons.mpr ⟨(gw_in (List.mem_of_getElem? (i := 545) (by decide +kernel)) (by decide +kernel)), List.forall_mem_cons.mpr ⟨(gw_in (List.mem_of_getElem? (i := 547) (by decide +kernel)) (by decide +kernel)), List.forall_mem_cons.mpr ⟨(gw_in (List.mem_of_getElem? (i := 10) (by decide +kernel)) (by decide +kernel)), List.forall_mem_cons.mpr ⟨(gw_in (List.mem_of_getElem? (i := 71) (by decide +kernel)) (by decide +kernel)), List.forall_mem_cons.mpr ⟨(gw_in (List.mem_of_getElem? (i := 548) (by decide +kernel)) (by decide +kernel)), fun _ h => absurd h List.not_mem_nil⟩⟩⟩⟩⟩, by decide, F_Ba, 14, rfl, by decide⟩
theorem ml_Ba_88 : MLV "HeapTower$Base" 88 y_Ba_offerDifferences b_Ba_offerDifferences 8 none 1 0 := ⟨List.forall_mem_cons.mpr ⟨(gw_in (List.mem_of_getElem? (i := 561) (by decide +kernel)) (by decide +kernel)), List.forall_mem_cons.mpr ⟨(gw_in (List.mem_of_getElem? (i := 563) (by decide +kernel)) (by decide +kernel)), List.forall_mem_cons.mpr ⟨(gw_in (List.mem_of_getElem? (i := 12) (by decide +kernel)) (by decide +kernel)), List.forall_mem_cons.mpr ⟨(gw_in (List.mem_of_getElem? (i := 71) (by decide +kernel)) (by decide +kernel)), List.forall_mem_cons.mpr ⟨(gw_in (List.mem_of_getElem? (i := 564) (by decide +kernel)) (by decide +kernel)), fun _ h => absurd h List.not_mem_nil⟩⟩⟩⟩⟩, by decide, F_Ba, 14, rfl, by decide⟩
theorem ml_Ba_91 : MLV "HeapTower$Base" 91 y_Ba_reduce b_Ba_reduce 6 none 2 0 := ⟨List.forall_mem_cons.mpr ⟨(gw_in (List.mem_of_getElem? (i := 581) (by decide +kernel)) (by decide +kernel)), List.forall_mem_cons.mpr ⟨(gw_in (List.mem_of_getElem? (i := 582) (by decide +kernel)) (by decide +kernel)), List.forall_mem_cons.mpr ⟨(gw_in (List.mem_of_getElem? (i := 583) (by decide +kernel)) (by decide +kernel)), List.forall_mem_cons.mpr ⟨(gw_in (List.mem_of_getElem? (i := 71) (by decide +kernel)) (by decide +kernel)), List.forall_mem_cons.mpr ⟨(gw_in (List.mem_of_getElem? (i := 584) (by decide +kernel)) (by decide +kernel)), fun _ h => absurd h List.not_mem_nil⟩⟩⟩⟩⟩, by decide, F_Ba, 14, rfl, by decide⟩
theorem ml_Ba_95 : MLV "HeapTower$Base" 95 y_Ro_add b_Ro_add 6 (some .boolean) 1 5 := ⟨List.forall_mem_cons.mpr ⟨(gw_in (List.mem_of_getElem? (i := 586) (by decide +kernel)) (by decide +kernel)), List.forall_mem_cons.mpr ⟨(gw_in (List.mem_of_getElem? (i := 587) (by decide +kernel)) (by decide +kernel)), List.forall_mem_cons.mpr ⟨(gw_in (List.mem_of_getElem? (i := 588) (by decide +kernel)) (by decide +kernel)), List.forall_mem_cons.mpr ⟨(gw_in (List.mem_of_getElem? (i := 69) (by decide +kernel)) (by decide +kernel)), List.forall_mem_cons.mpr ⟨(gw_in (List.mem_of_getElem? (i := 589) (by decide +kernel)) (by decide +kernel)), fun _ h => absurd h List.not_mem_nil⟩⟩⟩⟩⟩, by decide, F_Ro, 8, rfl, by decide⟩
theorem ml_Ba_99 : MLV "HeapTower$Base" 99 y_Pr_at b_Pr_at 3 (some .int) 2 4 := ⟨List.forall_mem_cons.mpr ⟨(gw_in (List.mem_of_getElem? (i := 550) (by decide +kernel)) (by decide +kernel)), List.forall_mem_cons.mpr ⟨(gw_in (List.mem_of_getElem? (i := 431) (by decide +kernel)) (by decide +kernel)), List.forall_mem_cons.mpr ⟨(gw_in (List.mem_of_getElem? (i := 432) (by decide +kernel)) (by decide +kernel)), List.forall_mem_cons.mpr ⟨(gw_in (List.mem_of_getElem? (i := 67) (by decide +kernel)) (by decide +kernel)), List.forall_mem_cons.mpr ⟨(gw_in (List.mem_of_getElem? (i := 433) (by decide +kernel)) (by decide +kernel)), fun _ h => absurd h List.not_mem_nil⟩⟩⟩⟩⟩, by decide, F_Pr, 6, rfl, by decide⟩
theorem ml_Ba_114 : MLV "HeapTower$Base" 114 y_Nu_prime b_Nu_prime 1 (some .int) 0 2 := ⟨List.forall_mem_cons.mpr ⟨(gw_in (List.mem_of_getElem? (i := 585) (by decide +kernel)) (by decide +kernel)), List.forall_mem_cons.mpr ⟨(gw_in (List.mem_of_getElem? (i := 541) (by decide +kernel)) (by decide +kernel)), List.forall_mem_cons.mpr ⟨(gw_in (List.mem_of_getElem? (i := 542) (by decide +kernel)) (by decide +kernel)), List.forall_mem_cons.mpr ⟨(gw_in (List.mem_of_getElem? (i := 68) (by decide +kernel)) (by decide +kernel)), List.forall_mem_cons.mpr ⟨(gw_in (List.mem_of_getElem? (i := 543) (by decide +kernel)) (by decide +kernel)), fun _ h => absurd h List.not_mem_nil⟩⟩⟩⟩⟩, by decide, F_Nu, 2, rfl, by decide⟩
theorem ml_Ba_120 : MLV "HeapTower$Base" 120 y_Ba_addMoved b_Ba_addMoved 15 none 4 0 := ⟨List.forall_mem_cons.mpr ⟨(gw_in (List.mem_of_getElem? (i := 577) (by decide +kernel)) (by decide +kernel)), List.forall_mem_cons.mpr ⟨(gw_in (List.mem_of_getElem? (i := 579) (by decide +kernel)) (by decide +kernel)), List.forall_mem_cons.mpr ⟨(gw_in (List.mem_of_getElem? (i := 15) (by decide +kernel)) (by decide +kernel)), List.forall_mem_cons.mpr ⟨(gw_in (List.mem_of_getElem? (i := 71) (by decide +kernel)) (by decide +kernel)), List.forall_mem_cons.mpr ⟨(gw_in (List.mem_of_getElem? (i := 580) (by decide +kernel)) (by decide +kernel)), fun _ h => absurd h List.not_mem_nil⟩⟩⟩⟩⟩, by decide, F_Ba, 14, rfl, by decide⟩
theorem ml_Ba_132 : MLV "HeapTower$Base" 132 y_Ba_leaderBelow b_Ba_leaderBelow 4 (some .int) 3 0 := ⟨List.forall_mem_cons.mpr ⟨(gw_in (List.mem_of_getElem? (i := 551) (by decide +kernel)) (by decide +kernel)), List.forall_mem_cons.mpr ⟨(gw_in (List.mem_of_getElem? (i := 553) (by decide +kernel)) (by decide +kernel)), List.forall_mem_cons.mpr ⟨(gw_in (List.mem_of_getElem? (i := 11) (by decide +kernel)) (by decide +kernel)), List.forall_mem_cons.mpr ⟨(gw_in (List.mem_of_getElem? (i := 71) (by decide +kernel)) (by decide +kernel)), List.forall_mem_cons.mpr ⟨(gw_in (List.mem_of_getElem? (i := 554) (by decide +kernel)) (by decide +kernel)), fun _ h => absurd h List.not_mem_nil⟩⟩⟩⟩⟩, by decide, F_Ba, 14, rfl, by decide⟩
theorem ml_Ba_136 : MLV "HeapTower$Base" 136 y_Pr_power b_Pr_power 4 (some .int) 3 4 := ⟨List.forall_mem_cons.mpr ⟨(gw_in (List.mem_of_getElem? (i := 555) (by decide +kernel)) (by decide +kernel)), List.forall_mem_cons.mpr ⟨(gw_in (List.mem_of_getElem? (i := 436) (by decide +kernel)) (by decide +kernel)), List.forall_mem_cons.mpr ⟨(gw_in (List.mem_of_getElem? (i := 437) (by decide +kernel)) (by decide +kernel)), List.forall_mem_cons.mpr ⟨(gw_in (List.mem_of_getElem? (i := 67) (by decide +kernel)) (by decide +kernel)), List.forall_mem_cons.mpr ⟨(gw_in (List.mem_of_getElem? (i := 438) (by decide +kernel)) (by decide +kernel)), fun _ h => absurd h List.not_mem_nil⟩⟩⟩⟩⟩, by decide, F_Pr, 6, rfl, by decide⟩
theorem ml_Ba_139 : MLV "HeapTower$Base" 139 y_Pr_lowered b_Pr_lowered 3 (some .int) 2 4 := ⟨List.forall_mem_cons.mpr ⟨(gw_in (List.mem_of_getElem? (i := 557) (by decide +kernel)) (by decide +kernel)), List.forall_mem_cons.mpr ⟨(gw_in (List.mem_of_getElem? (i := 558) (by decide +kernel)) (by decide +kernel)), List.forall_mem_cons.mpr ⟨(gw_in (List.mem_of_getElem? (i := 559) (by decide +kernel)) (by decide +kernel)), List.forall_mem_cons.mpr ⟨(gw_in (List.mem_of_getElem? (i := 67) (by decide +kernel)) (by decide +kernel)), List.forall_mem_cons.mpr ⟨(gw_in (List.mem_of_getElem? (i := 560) (by decide +kernel)) (by decide +kernel)), fun _ h => absurd h List.not_mem_nil⟩⟩⟩⟩⟩, by decide, F_Pr, 6, rfl, by decide⟩
theorem ml_Ba_142 : MLV "HeapTower$Base" 142 y_Ba_isNews b_Ba_isNews 9 (some .boolean) 4 0 := ⟨List.forall_mem_cons.mpr ⟨(gw_in (List.mem_of_getElem? (i := 565) (by decide +kernel)) (by decide +kernel)), List.forall_mem_cons.mpr ⟨(gw_in (List.mem_of_getElem? (i := 567) (by decide +kernel)) (by decide +kernel)), List.forall_mem_cons.mpr ⟨(gw_in (List.mem_of_getElem? (i := 13) (by decide +kernel)) (by decide +kernel)), List.forall_mem_cons.mpr ⟨(gw_in (List.mem_of_getElem? (i := 71) (by decide +kernel)) (by decide +kernel)), List.forall_mem_cons.mpr ⟨(gw_in (List.mem_of_getElem? (i := 568) (by decide +kernel)) (by decide +kernel)), fun _ h => absurd h List.not_mem_nil⟩⟩⟩⟩⟩, by decide, F_Ba, 14, rfl, by decide⟩
theorem ml_Ba_146 : MLV "HeapTower$Base" 146 y_Ba_offerMoved b_Ba_offerMoved 4 none 3 0 := ⟨List.forall_mem_cons.mpr ⟨(gw_in (List.mem_of_getElem? (i := 572) (by decide +kernel)) (by decide +kernel)), List.forall_mem_cons.mpr ⟨(gw_in (List.mem_of_getElem? (i := 574) (by decide +kernel)) (by decide +kernel)), List.forall_mem_cons.mpr ⟨(gw_in (List.mem_of_getElem? (i := 14) (by decide +kernel)) (by decide +kernel)), List.forall_mem_cons.mpr ⟨(gw_in (List.mem_of_getElem? (i := 71) (by decide +kernel)) (by decide +kernel)), List.forall_mem_cons.mpr ⟨(gw_in (List.mem_of_getElem? (i := 575) (by decide +kernel)) (by decide +kernel)), fun _ h => absurd h List.not_mem_nil⟩⟩⟩⟩⟩, by decide, F_Ba, 14, rfl, by decide⟩
theorem ml_Ba_150 : MLS "HeapTower$Base" 150 y_Ma_min b_Ma_min 2 (some .int) 2 := ⟨List.forall_mem_cons.mpr ⟨(gw_in (List.mem_of_getElem? (i := 569) (by decide +kernel)) (by decide +kernel)), List.forall_mem_cons.mpr ⟨(gw_in (List.mem_of_getElem? (i := 570) (by decide +kernel)) (by decide +kernel)), List.forall_mem_cons.mpr ⟨(gw_in (List.mem_of_getElem? (i := 74) (by decide +kernel)) (by decide +kernel)), List.forall_mem_cons.mpr ⟨(gw_in (List.mem_of_getElem? (i := 571) (by decide +kernel)) (by decide +kernel)), fun _ h => absurd h List.not_mem_nil⟩⟩⟩⟩, by decide⟩
theorem D_Ba_forget_0 : decode b_Ba_forget 0 = .ok (.aload_n 0, 1) := by decide +kernel
theorem D_Ba_forget_1 : decode b_Ba_forget 1 = .ok (.getfield 36, 3) := by decide +kernel
theorem D_Ba_forget_4 : decode b_Ba_forget 4 = .ok (.iload_n 1, 1) := by decide +kernel
theorem D_Ba_forget_5 : decode b_Ba_forget 5 = .ok (.if_icmp .lt 38, 3) := by decide +kernel
theorem D_Ba_forget_8 : decode b_Ba_forget 8 = .ok (.aload_n 0, 1) := by decide +kernel
theorem D_Ba_forget_9 : decode b_Ba_forget 9 = .ok (.iload_n 1, 1) := by decide +kernel
theorem D_Ba_forget_10 : decode b_Ba_forget 10 = .ok (.iconst 0, 1) := by decide +kernel
theorem D_Ba_forget_11 : decode b_Ba_forget 11 = .ok (.invokestatic 55, 3) := by decide +kernel
theorem D_Ba_forget_14 : decode b_Ba_forget 14 = .ok (.iconst 1, 1) := by decide +kernel
theorem D_Ba_forget_15 : decode b_Ba_forget 15 = .ok (.isub, 1) := by decide +kernel
theorem D_Ba_forget_16 : decode b_Ba_forget 16 = .ok (.putfield 36, 3) := by decide +kernel
theorem D_Ba_forget_19 : decode b_Ba_forget 19 = .ok (.aload_n 0, 1) := by decide +kernel
theorem D_Ba_forget_20 : decode b_Ba_forget 20 = .ok (.aload_n 0, 1) := by decide +kernel
theorem D_Ba_forget_21 : decode b_Ba_forget 21 = .ok (.getfield 36, 3) := by decide +kernel
theorem D_Ba_forget_24 : decode b_Ba_forget 24 = .ok (.ifCond .ge 7, 3) := by decide +kernel
theorem D_Ba_forget_27 : decode b_Ba_forget 27 = .ok (.iconst 0, 1) := by decide +kernel
theorem D_Ba_forget_28 : decode b_Ba_forget 28 = .ok (.goto 12, 3) := by decide +kernel
theorem D_Ba_forget_31 : decode b_Ba_forget 31 = .ok (.aload_n 0, 1) := by decide +kernel
theorem D_Ba_forget_32 : decode b_Ba_forget 32 = .ok (.getfield 27, 3) := by decide +kernel
theorem D_Ba_forget_35 : decode b_Ba_forget 35 = .ok (.aload_n 0, 1) := by decide +kernel
theorem D_Ba_forget_36 : decode b_Ba_forget 36 = .ok (.getfield 36, 3) := by decide +kernel
theorem D_Ba_forget_39 : decode b_Ba_forget 39 = .ok (.iaload, 1) := by decide +kernel
theorem D_Ba_forget_40 : decode b_Ba_forget 40 = .ok (.putfield 61, 3) := by decide +kernel
theorem D_Ba_forget_43 : decode b_Ba_forget 43 = .ok (.return_, 1) := by decide +kernel
abbrev rm_Ba_forget : Room := { frames := 1, cells := 0, slots := 0, locals := 21 }
def B_Ba_forget_43 (post : Mem → Prop) (M : Mem) : Prop := (post M)
set_option maxRecDepth 20000 in
theorem Z_Ba_forget_43 {x : Ctx} {post : Mem → Prop} (C : Ok x b_Ba_forget 2 "HeapTower$Base") (hR : xR x = rm_Ba_forget) (Rt : RetV x post 0 0) (M : Mem) (h : B_Ba_forget_43 post M) : J x 2 43 [] [] 0 0 M := by
  unfold B_Ba_forget_43 at h
  exact J_vret C Rt D_Ba_forget_43 h
def B_Ba_forget_40 (post : Mem → Prop) (s0 : Int32) (t1 : Nat) (M : Mem) : Prop := (isK M t1 0 ∧ B_Ba_forget_43 post (sI M t1 13 s0))
set_option maxRecDepth 20000 in
theorem Z_Ba_forget_40 {x : Ctx} {post : Mem → Prop} (C : Ok x b_Ba_forget 2 "HeapTower$Base") (hR : xR x = rm_Ba_forget) (Rt : RetV x post 0 0) (s0 : Int32) (t1 : Nat) (M : Mem) (h : B_Ba_forget_40 post s0 t1 M) : J x 2 40 [] [.int s0, .ref (xB x + t1)] 0 0 M := by
  unfold B_Ba_forget_40 at h
  obtain ⟨c_40, h⟩ := h
  refine J_putI C fl_Ba_61 D_Ba_forget_40 c_40 ?_
  exact J_sub [] rfl (Z_Ba_forget_43 C hR Rt  _ h)
def T_Ba_forget (a0 : Nat) (x1 : Int32) (M : Mem) (post : Mem → Prop) : Prop := (isK M a0 0 ∧ ((gI M a0 12) < x1 → (B_Ba_forget_43 post M)) ∧ (¬ (gI M a0 12) < x1 → (T_Ma_max x1 0 M (fun r11 M11 => isK M11 a0 0 ∧ isK (sI M11 a0 12 (r11 - 1)) a0 0 ∧ (0 ≤ (gI (sI M11 a0 12 (r11 - 1)) a0 12) → (isK (sI M11 a0 12 (r11 - 1)) a0 0 ∧ ∃ q32, gR (sI M11 a0 12 (r11 - 1)) a0 9 = some q32 ∧ isK (sI M11 a0 12 (r11 - 1)) a0 0 ∧ isA (sI M11 a0 12 (r11 - 1)) q32 8 (gI (sI M11 a0 12 (r11 - 1)) a0 12) ∧ B_Ba_forget_40 post (gI (sI M11 a0 12 (r11 - 1)) q32 (Int32.toNatClampNeg (gI (sI M11 a0 12 (r11 - 1)) a0 12))) a0 (sI M11 a0 12 (r11 - 1)))) ∧ (¬ 0 ≤ (gI (sI M11 a0 12 (r11 - 1)) a0 12) → (B_Ba_forget_40 post 0 a0 (sI M11 a0 12 (r11 - 1))))))))
set_option maxRecDepth 20000 in
theorem S_Ba_forget {l : Launch} {D : va_G} {B t : Nat} {ac : Nat → ClassId} (a0 : Nat) (x1 : Int32) (M : Mem) (post : Mem → Prop) (h : T_Ba_forget a0 x1 M post) : Met l y_Ba_forget w_Ba_forget rm_Ba_forget (va_Pc [.ref (B + a0), .int x1] (PRE D B t ac M)) (QV D B ac post) 0 0 (AB B) := by
  refine met_v (by decide +kernel) (Nat.le_of_ble_eq_true rfl) (fun x h1 hR h3 h4 h5 h6 C Rt Nm => ?_)
  subst h3 h4 h5 h6
  unfold T_Ba_forget at h
  show J x 2 0 [(0, .ref (xB x + a0)), (1, .int x1)] [] 0 0 M
  refine J_aload_n C 0 D_Ba_forget_0 rfl rfl ?_
  obtain ⟨c_1, h⟩ := h
  refine J_getI C fl_Ba_36 D_Ba_forget_1 c_1 ?_
  refine J_iload_n C 1 D_Ba_forget_4 rfl rfl ?_
  refine J_icmp_lt (tgt := 43) C D_Ba_forget_5 (by decide) (fun c_5 => ?_) (fun c_5 => ?_)
  · have h := h.1 c_5
    exact J_sub [] rfl (Z_Ba_forget_43 C hR Rt  _ h)
  · have h := h.2 c_5
    refine J_aload_n C 0 D_Ba_forget_8 rfl rfl ?_
    refine J_iload_n C 1 D_Ba_forget_9 rfl rfl ?_
    refine J_iconst (v := 0) C D_Ba_forget_10 rfl ?_
    refine J_callSi C ml_Ba_55 (S_Ma_max _ _ _ _ h) (by rw [hR]; decide) rfl rfl (Nat.le_of_ble_eq_true rfl) D_Ba_forget_11 (fun r11 M11 h => ?_)
    refine J_iconst (v := 1) C D_Ba_forget_14 rfl ?_
    refine J_isub C D_Ba_forget_15 ?_
    obtain ⟨c_16, h⟩ := h
    refine J_putI C fl_Ba_36 D_Ba_forget_16 c_16 ?_
    refine J_aload_n C 0 D_Ba_forget_19 rfl rfl ?_
    refine J_aload_n C 0 D_Ba_forget_20 rfl rfl ?_
    obtain ⟨c_21, h⟩ := h
    refine J_getI C fl_Ba_36 D_Ba_forget_21 c_21 ?_
    refine J_if_ge (tgt := 31) C D_Ba_forget_24 (by decide) (fun c_24 => ?_) (fun c_24 => ?_)
    · have h := h.1 c_24
      refine J_aload_n C 0 D_Ba_forget_31 rfl rfl ?_
      obtain ⟨c_32, q32, e_32, h⟩ := h
      refine J_getR C fl_Ba_27 D_Ba_forget_32 c_32 e_32 ?_
      refine J_aload_n C 0 D_Ba_forget_35 rfl rfl ?_
      obtain ⟨c_36, h⟩ := h
      refine J_getI C fl_Ba_36 D_Ba_forget_36 c_36 ?_
      obtain ⟨c_39, h⟩ := h
      refine J_iald C D_Ba_forget_39 c_39 ?_
      exact J_sub [] rfl (Z_Ba_forget_40 C hR Rt  _ _ _ h)
    · have h := h.2 c_24
      refine J_iconst (v := 0) C D_Ba_forget_27 rfl ?_
      refine J_goto (tgt := 40) C D_Ba_forget_28 (by decide) ?_
      exact J_sub [] rfl (Z_Ba_forget_40 C hR Rt  _ _ _ h)
theorem D_Ba_reached_0 : decode b_Ba_reached 0 = .ok (.aload_n 0, 1) := by decide +kernel
theorem D_Ba_reached_1 : decode b_Ba_reached 1 = .ok (.getfield 36, 3) := by decide +kernel
theorem D_Ba_reached_4 : decode b_Ba_reached 4 = .ok (.ireturn, 1) := by decide +kernel
abbrev rm_Ba_reached : Room := { frames := 0, cells := 0, slots := 0, locals := 0 }
def T_Ba_reached (a0 : Nat) (M : Mem) (post : Int32 → Mem → Prop) : Prop := (isK M a0 0 ∧ post (gI M a0 12) M)
set_option maxRecDepth 20000 in
theorem S_Ba_reached {l : Launch} {D : va_G} {B t : Nat} {ac : Nat → ClassId} (a0 : Nat) (M : Mem) (post : Int32 → Mem → Prop) (h : T_Ba_reached a0 M post) : Met l y_Ba_reached w_Ba_reached rm_Ba_reached (va_Pc [.ref (B + a0)] (PRE D B t ac M)) (QI D B ac post) 0 0 (AB B) := by
  refine met_i (by decide +kernel) (Nat.le_of_ble_eq_true rfl) (fun x h1 hR h3 h4 h5 h6 C Rt => ?_)
  subst h3 h4 h5 h6
  unfold T_Ba_reached at h
  show J x 1 0 [(0, .ref (xB x + a0))] [] 0 0 M
  refine J_aload_n C 0 D_Ba_reached_0 rfl rfl ?_
  obtain ⟨c_1, h⟩ := h
  refine J_getI C fl_Ba_36 D_Ba_reached_1 c_1 ?_
  exact J_iret C Rt D_Ba_reached_4 rfl h
theorem D_Ba_leaderBelow_0 : decode b_Ba_leaderBelow 0 = .ok (.iload_n 1, 1) := by decide +kernel
theorem D_Ba_leaderBelow_1 : decode b_Ba_leaderBelow 1 = .ok (.ifCond .eq 16, 3) := by decide +kernel
theorem D_Ba_leaderBelow_4 : decode b_Ba_leaderBelow 4 = .ok (.aload_n 0, 1) := by decide +kernel
theorem D_Ba_leaderBelow_5 : decode b_Ba_leaderBelow 5 = .ok (.getfield 40, 3) := by decide +kernel
theorem D_Ba_leaderBelow_8 : decode b_Ba_leaderBelow 8 = .ok (.iload_n 1, 1) := by decide +kernel
theorem D_Ba_leaderBelow_9 : decode b_Ba_leaderBelow 9 = .ok (.iload_n 2, 1) := by decide +kernel
theorem D_Ba_leaderBelow_10 : decode b_Ba_leaderBelow 10 = .ok (.iload_n 3, 1) := by decide +kernel
theorem D_Ba_leaderBelow_11 : decode b_Ba_leaderBelow 11 = .ok (.invokevirtual 136, 3) := by decide +kernel
theorem D_Ba_leaderBelow_14 : decode b_Ba_leaderBelow 14 = .ok (.ifCond .ne 5, 3) := by decide +kernel
theorem D_Ba_leaderBelow_17 : decode b_Ba_leaderBelow 17 = .ok (.iconst 0, 1) := by decide +kernel
theorem D_Ba_leaderBelow_18 : decode b_Ba_leaderBelow 18 = .ok (.ireturn, 1) := by decide +kernel
theorem D_Ba_leaderBelow_19 : decode b_Ba_leaderBelow 19 = .ok (.aload_n 0, 1) := by decide +kernel
theorem D_Ba_leaderBelow_20 : decode b_Ba_leaderBelow 20 = .ok (.getfield 24, 3) := by decide +kernel
theorem D_Ba_leaderBelow_23 : decode b_Ba_leaderBelow 23 = .ok (.getstatic 70, 3) := by decide +kernel
theorem D_Ba_leaderBelow_26 : decode b_Ba_leaderBelow 26 = .ok (.iload_n 1, 1) := by decide +kernel
theorem D_Ba_leaderBelow_27 : decode b_Ba_leaderBelow 27 = .ok (.iconst 1, 1) := by decide +kernel
theorem D_Ba_leaderBelow_28 : decode b_Ba_leaderBelow 28 = .ok (.isub, 1) := by decide +kernel
theorem D_Ba_leaderBelow_29 : decode b_Ba_leaderBelow 29 = .ok (.iaload, 1) := by decide +kernel
theorem D_Ba_leaderBelow_30 : decode b_Ba_leaderBelow 30 = .ok (.aload_n 0, 1) := by decide +kernel
theorem D_Ba_leaderBelow_31 : decode b_Ba_leaderBelow 31 = .ok (.getfield 40, 3) := by decide +kernel
theorem D_Ba_leaderBelow_34 : decode b_Ba_leaderBelow 34 = .ok (.iload_n 2, 1) := by decide +kernel
theorem D_Ba_leaderBelow_35 : decode b_Ba_leaderBelow 35 = .ok (.iload_n 3, 1) := by decide +kernel
theorem D_Ba_leaderBelow_36 : decode b_Ba_leaderBelow 36 = .ok (.invokevirtual 139, 3) := by decide +kernel
theorem D_Ba_leaderBelow_39 : decode b_Ba_leaderBelow 39 = .ok (.iadd, 1) := by decide +kernel
theorem D_Ba_leaderBelow_40 : decode b_Ba_leaderBelow 40 = .ok (.iaload, 1) := by decide +kernel
theorem D_Ba_leaderBelow_41 : decode b_Ba_leaderBelow 41 = .ok (.ireturn, 1) := by decide +kernel
abbrev rm_Ba_leaderBelow : Room := { frames := 2, cells := 0, slots := 0, locals := 43 }
def B_Ba_leaderBelow_17 (post : Int32 → Mem → Prop) (M : Mem) : Prop := (post 0 M)
set_option maxRecDepth 20000 in
theorem Z_Ba_leaderBelow_17 {x : Ctx} {post : Int32 → Mem → Prop} (C : Ok x b_Ba_leaderBelow 4 "HeapTower$Base") (hR : xR x = rm_Ba_leaderBelow) (Rt : RetI x .int post 0 0) (M : Mem) (h : B_Ba_leaderBelow_17 post M) : J x 4 17 [] [] 0 0 M := by
  unfold B_Ba_leaderBelow_17 at h
  refine J_iconst (v := 0) C D_Ba_leaderBelow_17 rfl ?_
  exact J_iret C Rt D_Ba_leaderBelow_18 rfl h
def T_Ba_leaderBelow (a0 : Nat) (x1 : Int32) (x2 : Int32) (x3 : Int32) (M : Mem) (post : Int32 → Mem → Prop) : Prop := ((x1 = 0 → (B_Ba_leaderBelow_17 post M)) ∧ (¬ x1 = 0 → (isK M a0 0 ∧ ∃ q5, gR M a0 0 = some q5 ∧ isK M q5 4 ∧ T_Pr_power q5 x1 x2 x3 M (fun r11 M11 => (¬ r11 = 0 → (isK M11 a0 0 ∧ ∃ q20, gR M11 a0 8 = some q20 ∧ vp_in (x1 - 1) 12 ∧ isK M11 a0 0 ∧ ∃ q31, gR M11 a0 0 = some q31 ∧ isK M11 q31 4 ∧ T_Pr_lowered q31 x2 x3 M11 (fun r36 M36 => isA M36 q20 8 ((fst (Int32.toNatClampNeg (x1 - 1))) + r36) ∧ post (gI M36 q20 (Int32.toNatClampNeg ((fst (Int32.toNatClampNeg (x1 - 1))) + r36))) M36))) ∧ (r11 = 0 → (B_Ba_leaderBelow_17 post M11))))))
set_option maxRecDepth 20000 in
theorem S_Ba_leaderBelow {l : Launch} {D : va_G} {B t : Nat} {ac : Nat → ClassId} (a0 : Nat) (x1 : Int32) (x2 : Int32) (x3 : Int32) (M : Mem) (post : Int32 → Mem → Prop) (h : T_Ba_leaderBelow a0 x1 x2 x3 M post) : Met l y_Ba_leaderBelow w_Ba_leaderBelow rm_Ba_leaderBelow (va_Pc [.ref (B + a0), .int x1, .int x2, .int x3] (PRE D B t ac M)) (QI D B ac post) 0 0 (AB B) := by
  refine met_i (by decide +kernel) (Nat.le_of_ble_eq_true rfl) (fun x h1 hR h3 h4 h5 h6 C Rt => ?_)
  subst h3 h4 h5 h6
  unfold T_Ba_leaderBelow at h
  show J x 4 0 [(0, .ref (xB x + a0)), (1, .int x1), (2, .int x2), (3, .int x3)] [] 0 0 M
  refine J_iload_n C 1 D_Ba_leaderBelow_0 rfl rfl ?_
  refine J_if_eq (tgt := 17) C D_Ba_leaderBelow_1 (by decide) (fun c_1 => ?_) (fun c_1 => ?_)
  · have h := h.1 c_1
    exact J_sub [] rfl (Z_Ba_leaderBelow_17 C hR Rt  _ h)
  · have h := h.2 c_1
    refine J_aload_n C 0 D_Ba_leaderBelow_4 rfl rfl ?_
    obtain ⟨c_5, q5, e_5, h⟩ := h
    refine J_getR C fl_Ba_40 D_Ba_leaderBelow_5 c_5 e_5 ?_
    refine J_iload_n C 1 D_Ba_leaderBelow_8 rfl rfl ?_
    refine J_iload_n C 2 D_Ba_leaderBelow_9 rfl rfl ?_
    refine J_iload_n C 3 D_Ba_leaderBelow_10 rfl rfl ?_
    obtain ⟨c_11, h⟩ := h
    refine J_callVi C ml_Ba_136 (S_Pr_power _ _ _ _ _ _ h) (by rw [hR]; decide) rfl c_11 rfl (Nat.le_of_ble_eq_true rfl) D_Ba_leaderBelow_11 (fun r11 M11 h => ?_)
    refine J_if_ne (tgt := 19) C D_Ba_leaderBelow_14 (by decide) (fun c_14 => ?_) (fun c_14 => ?_)
    · have h := h.1 c_14
      refine J_aload_n C 0 D_Ba_leaderBelow_19 rfl rfl ?_
      obtain ⟨c_20, q20, e_20, h⟩ := h
      refine J_getR C fl_Ba_24 D_Ba_leaderBelow_20 c_20 e_20 ?_
      refine J_first C (by decide) D_Ba_leaderBelow_23 ?_
      refine J_iload_n C 1 D_Ba_leaderBelow_26 rfl rfl ?_
      refine J_iconst (v := 1) C D_Ba_leaderBelow_27 rfl ?_
      refine J_isub C D_Ba_leaderBelow_28 ?_
      obtain ⟨c_29, h⟩ := h
      refine J_fald C D_Ba_leaderBelow_29 c_29 ?_
      refine J_aload_n C 0 D_Ba_leaderBelow_30 rfl rfl ?_
      obtain ⟨c_31, q31, e_31, h⟩ := h
      refine J_getR C fl_Ba_40 D_Ba_leaderBelow_31 c_31 e_31 ?_
      refine J_iload_n C 2 D_Ba_leaderBelow_34 rfl rfl ?_
      refine J_iload_n C 3 D_Ba_leaderBelow_35 rfl rfl ?_
      obtain ⟨c_36, h⟩ := h
      refine J_callVi C ml_Ba_139 (S_Pr_lowered _ _ _ _ _ h) (by rw [hR]; decide) rfl c_36 rfl (Nat.le_of_ble_eq_true rfl) D_Ba_leaderBelow_36 (fun r36 M36 h => ?_)
      refine J_iadd C D_Ba_leaderBelow_39 ?_
      obtain ⟨c_40, h⟩ := h
      refine J_iald C D_Ba_leaderBelow_40 c_40 ?_
      exact J_iret C Rt D_Ba_leaderBelow_41 rfl h
    · have h := h.2 c_14
      exact J_sub [] rfl (Z_Ba_leaderBelow_17 C hR Rt  _ h)
theorem D_Ba_inherit_0 : decode b_Ba_inherit 0 = .ok (.iconst 0, 1) := by decide +kernel
theorem D_Ba_inherit_1 : decode b_Ba_inherit 1 = .ok (.istore_n 2, 1) := by decide +kernel
theorem D_Ba_inherit_2 : decode b_Ba_inherit 2 = .ok (.iload_n 2, 1) := by decide +kernel
theorem D_Ba_inherit_3 : decode b_Ba_inherit 3 = .ok (.aload_n 0, 1) := by decide +kernel
theorem D_Ba_inherit_4 : decode b_Ba_inherit 4 = .ok (.getfield 40, 3) := by decide +kernel
theorem D_Ba_inherit_7 : decode b_Ba_inherit 7 = .ok (.iload_n 1, 1) := by decide +kernel
theorem D_Ba_inherit_8 : decode b_Ba_inherit 8 = .ok (.invokevirtual 64, 3) := by decide +kernel
theorem D_Ba_inherit_11 : decode b_Ba_inherit 11 = .ok (.if_icmp .ge 66, 3) := by decide +kernel
theorem D_Ba_inherit_14 : decode b_Ba_inherit 14 = .ok (.aload_n 0, 1) := by decide +kernel
theorem D_Ba_inherit_15 : decode b_Ba_inherit 15 = .ok (.getfield 40, 3) := by decide +kernel
theorem D_Ba_inherit_18 : decode b_Ba_inherit 18 = .ok (.iload_n 1, 1) := by decide +kernel
theorem D_Ba_inherit_19 : decode b_Ba_inherit 19 = .ok (.iload_n 2, 1) := by decide +kernel
theorem D_Ba_inherit_20 : decode b_Ba_inherit 20 = .ok (.invokevirtual 99, 3) := by decide +kernel
theorem D_Ba_inherit_23 : decode b_Ba_inherit 23 = .ok (.istore_n 3, 1) := by decide +kernel
theorem D_Ba_inherit_24 : decode b_Ba_inherit 24 = .ok (.iconst 0, 1) := by decide +kernel
theorem D_Ba_inherit_25 : decode b_Ba_inherit 25 = .ok (.istore 4, 2) := by decide +kernel
theorem D_Ba_inherit_27 : decode b_Ba_inherit 27 = .ok (.iconst 0, 1) := by decide +kernel
theorem D_Ba_inherit_28 : decode b_Ba_inherit 28 = .ok (.istore 5, 2) := by decide +kernel
theorem D_Ba_inherit_30 : decode b_Ba_inherit 30 = .ok (.iload 5, 2) := by decide +kernel
theorem D_Ba_inherit_32 : decode b_Ba_inherit 32 = .ok (.iconst 3, 1) := by decide +kernel
theorem D_Ba_inherit_33 : decode b_Ba_inherit 33 = .ok (.if_icmp .ge 24, 3) := by decide +kernel
theorem D_Ba_inherit_36 : decode b_Ba_inherit 36 = .ok (.iload 4, 2) := by decide +kernel
theorem D_Ba_inherit_38 : decode b_Ba_inherit 38 = .ok (.ifCond .ne 19, 3) := by decide +kernel
theorem D_Ba_inherit_41 : decode b_Ba_inherit 41 = .ok (.aload_n 0, 1) := by decide +kernel
theorem D_Ba_inherit_42 : decode b_Ba_inherit 42 = .ok (.iload_n 1, 1) := by decide +kernel
theorem D_Ba_inherit_43 : decode b_Ba_inherit 43 = .ok (.iload_n 3, 1) := by decide +kernel
theorem D_Ba_inherit_44 : decode b_Ba_inherit 44 = .ok (.iload 5, 2) := by decide +kernel
theorem D_Ba_inherit_46 : decode b_Ba_inherit 46 = .ok (.invokevirtual 132, 3) := by decide +kernel
theorem D_Ba_inherit_49 : decode b_Ba_inherit 49 = .ok (.istore 4, 2) := by decide +kernel
theorem D_Ba_inherit_51 : decode b_Ba_inherit 51 = .ok (.iinc 5 1, 3) := by decide +kernel
theorem D_Ba_inherit_54 : decode b_Ba_inherit 54 = .ok (.goto (-24), 3) := by decide +kernel
theorem D_Ba_inherit_57 : decode b_Ba_inherit 57 = .ok (.aload_n 0, 1) := by decide +kernel
theorem D_Ba_inherit_58 : decode b_Ba_inherit 58 = .ok (.getfield 24, 3) := by decide +kernel
theorem D_Ba_inherit_61 : decode b_Ba_inherit 61 = .ok (.getstatic 70, 3) := by decide +kernel
theorem D_Ba_inherit_64 : decode b_Ba_inherit 64 = .ok (.iload_n 1, 1) := by decide +kernel
theorem D_Ba_inherit_65 : decode b_Ba_inherit 65 = .ok (.iaload, 1) := by decide +kernel
theorem D_Ba_inherit_66 : decode b_Ba_inherit 66 = .ok (.iload_n 3, 1) := by decide +kernel
theorem D_Ba_inherit_67 : decode b_Ba_inherit 67 = .ok (.iadd, 1) := by decide +kernel
theorem D_Ba_inherit_68 : decode b_Ba_inherit 68 = .ok (.iload 4, 2) := by decide +kernel
theorem D_Ba_inherit_70 : decode b_Ba_inherit 70 = .ok (.iastore, 1) := by decide +kernel
theorem D_Ba_inherit_71 : decode b_Ba_inherit 71 = .ok (.iinc 2 1, 3) := by decide +kernel
theorem D_Ba_inherit_74 : decode b_Ba_inherit 74 = .ok (.goto (-72), 3) := by decide +kernel
theorem D_Ba_inherit_77 : decode b_Ba_inherit 77 = .ok (.return_, 1) := by decide +kernel
abbrev rm_Ba_inherit : Room := { frames := 3, cells := 0, slots := 0, locals := 66 }
def B_Ba_inherit_57 (k2 : Nat → Int32 → Int32 → Mem → Prop) (post : Mem → Prop) (a0 : Nat) (x1 : Int32) (x2 : Int32) (x3 : Int32) (x4 : Int32) (M : Mem) : Prop := (isK M a0 0 ∧ ∃ q58, gR M a0 8 = some q58 ∧ vp_in x1 12 ∧ isA M q58 8 ((fst (Int32.toNatClampNeg x1)) + x3) ∧ k2 a0 x1 (x2 + 1) (sI M q58 (Int32.toNatClampNeg ((fst (Int32.toNatClampNeg x1)) + x3)) x4))
set_option maxRecDepth 20000 in
theorem Z_Ba_inherit_57 {x : Ctx} {post : Mem → Prop} (C : Ok x b_Ba_inherit 6 "HeapTower$Base") (hR : xR x = rm_Ba_inherit) (Rt : RetV x post 0 0) {k2 : Nat → Int32 → Int32 → Mem → Prop} (K2 : ∀ (a0 : Nat) (x1 : Int32) (x2 : Int32) (M : Mem), k2 a0 x1 x2 M → J x 6 2 [(0, .ref (xB x + a0)), (1, .int x1), (2, .int x2)] [] 0 0 M) (a0 : Nat) (x1 : Int32) (x2 : Int32) (x3 : Int32) (x4 : Int32) (M : Mem) (h : B_Ba_inherit_57 k2 post a0 x1 x2 x3 x4 M) : J x 6 57 [(0, .ref (xB x + a0)), (1, .int x1), (2, .int x2), (3, .int x3), (4, .int x4)] [] 0 0 M := by
  unfold B_Ba_inherit_57 at h
  refine J_aload_n C 0 D_Ba_inherit_57 rfl rfl ?_
  obtain ⟨c_58, q58, e_58, h⟩ := h
  refine J_getR C fl_Ba_24 D_Ba_inherit_58 c_58 e_58 ?_
  refine J_first C (by decide) D_Ba_inherit_61 ?_
  refine J_iload_n C 1 D_Ba_inherit_64 rfl rfl ?_
  obtain ⟨c_65, h⟩ := h
  refine J_fald C D_Ba_inherit_65 c_65 ?_
  refine J_iload_n C 3 D_Ba_inherit_66 rfl rfl ?_
  refine J_iadd C D_Ba_inherit_67 ?_
  refine J_iload C 4 D_Ba_inherit_68 rfl ?_
  obtain ⟨c_70, h⟩ := h
  refine J_iast C D_Ba_inherit_70 c_70 ?_
  refine J_iinc (v := x2 + 1) (lv' := [(2, .int (x2 + 1)), (0, .ref (xB x + a0)), (1, .int x1), (3, .int x3), (4, .int x4)]) C 2 2 D_Ba_inherit_71 rfl rfl (by decide) rfl ?_
  refine J_goto (tgt := 2) C D_Ba_inherit_74 (by decide) ?_
  exact J_sub [1, 2, 0] rfl (K2 _ _ _ _ h)
def B_Ba_inherit_30 (k2 : Nat → Int32 → Int32 → Mem → Prop) (k30 : Nat → Int32 → Int32 → Int32 → Int32 → Int32 → Mem → Prop) (post : Mem → Prop) (a0 : Nat) (x1 : Int32) (x2 : Int32) (x3 : Int32) (x4 : Int32) (x5 : Int32) (M : Mem) : Prop := ((3 ≤ x5 → (B_Ba_inherit_57 k2 post a0 x1 x2 x3 x4 M)) ∧ (¬ 3 ≤ x5 → ((¬ x4 = 0 → (B_Ba_inherit_57 k2 post a0 x1 x2 x3 x4 M)) ∧ (x4 = 0 → (isK M a0 0 ∧ T_Ba_leaderBelow a0 x1 x3 x5 M (fun r46 M46 => k30 a0 x1 x2 x3 r46 (x5 + 1) M46))))))
set_option maxRecDepth 20000 in
theorem Z_Ba_inherit_30 {x : Ctx} {post : Mem → Prop} (C : Ok x b_Ba_inherit 6 "HeapTower$Base") (hR : xR x = rm_Ba_inherit) (Rt : RetV x post 0 0) {k2 : Nat → Int32 → Int32 → Mem → Prop} (K2 : ∀ (a0 : Nat) (x1 : Int32) (x2 : Int32) (M : Mem), k2 a0 x1 x2 M → J x 6 2 [(0, .ref (xB x + a0)), (1, .int x1), (2, .int x2)] [] 0 0 M) {k30 : Nat → Int32 → Int32 → Int32 → Int32 → Int32 → Mem → Prop} (K30 : ∀ (a0 : Nat) (x1 : Int32) (x2 : Int32) (x3 : Int32) (x4 : Int32) (x5 : Int32) (M : Mem), k30 a0 x1 x2 x3 x4 x5 M → J x 6 30 [(0, .ref (xB x + a0)), (1, .int x1), (2, .int x2), (3, .int x3), (4, .int x4), (5, .int x5)] [] 0 0 M) (a0 : Nat) (x1 : Int32) (x2 : Int32) (x3 : Int32) (x4 : Int32) (x5 : Int32) (M : Mem) (h : B_Ba_inherit_30 k2 k30 post a0 x1 x2 x3 x4 x5 M) : J x 6 30 [(0, .ref (xB x + a0)), (1, .int x1), (2, .int x2), (3, .int x3), (4, .int x4), (5, .int x5)] [] 0 0 M := by
  unfold B_Ba_inherit_30 at h
  refine J_iload C 5 D_Ba_inherit_30 rfl ?_
  refine J_iconst (v := 3) C D_Ba_inherit_32 rfl ?_
  refine J_icmp_ge (tgt := 57) C D_Ba_inherit_33 (by decide) (fun c_33 => ?_) (fun c_33 => ?_)
  · have h := h.1 c_33
    exact J_sub [0, 1, 2, 3, 4] rfl (Z_Ba_inherit_57 C hR Rt K2 _ _ _ _ _ _ h)
  · have h := h.2 c_33
    refine J_iload C 4 D_Ba_inherit_36 rfl ?_
    refine J_if_ne (tgt := 57) C D_Ba_inherit_38 (by decide) (fun c_38 => ?_) (fun c_38 => ?_)
    · have h := h.1 c_38
      exact J_sub [0, 1, 2, 3, 4] rfl (Z_Ba_inherit_57 C hR Rt K2 _ _ _ _ _ _ h)
    · have h := h.2 c_38
      refine J_aload_n C 0 D_Ba_inherit_41 rfl rfl ?_
      refine J_iload_n C 1 D_Ba_inherit_42 rfl rfl ?_
      refine J_iload_n C 3 D_Ba_inherit_43 rfl rfl ?_
      refine J_iload C 5 D_Ba_inherit_44 rfl ?_
      obtain ⟨c_46, h⟩ := h
      refine J_callVi C ml_Ba_132 (S_Ba_leaderBelow _ _ _ _ _ _ h) (by rw [hR]; decide) rfl c_46 rfl (Nat.le_of_ble_eq_true rfl) D_Ba_inherit_46 (fun r46 M46 h => ?_)
      refine J_istore (lv' := [(4, .int r46), (0, .ref (xB x + a0)), (1, .int x1), (2, .int x2), (3, .int x3), (5, .int x5)]) C 4 D_Ba_inherit_49 (by decide) rfl ?_
      refine J_iinc (v := x5 + 1) (lv' := [(5, .int (x5 + 1)), (4, .int r46), (0, .ref (xB x + a0)), (1, .int x1), (2, .int x2), (3, .int x3)]) C 5 5 D_Ba_inherit_51 rfl rfl (by decide) rfl ?_
      refine J_goto (tgt := 30) C D_Ba_inherit_54 (by decide) ?_
      exact J_sub [2, 3, 4, 5, 1, 0] rfl (K30 _ _ _ _ _ _ _ h)
def L_Ba_inherit_30 (k2 : Nat → Int32 → Int32 → Mem → Prop) (post : Mem → Prop) : Nat → Nat → Int32 → Int32 → Int32 → Int32 → Int32 → Mem → Prop
  | 0, _, _, _, _, _, _, _ => False
  | n + 1, a0, x1, x2, x3, x4, x5, M => B_Ba_inherit_30 k2 (L_Ba_inherit_30 k2 post n) post a0 x1 x2 x3 x4 x5 M
theorem Y_Ba_inherit_30 {x : Ctx} {post : Mem → Prop} (C : Ok x b_Ba_inherit 6 "HeapTower$Base") (hR : xR x = rm_Ba_inherit) (Rt : RetV x post 0 0) {k2 : Nat → Int32 → Int32 → Mem → Prop} (K2 : ∀ (a0 : Nat) (x1 : Int32) (x2 : Int32) (M : Mem), k2 a0 x1 x2 M → J x 6 2 [(0, .ref (xB x + a0)), (1, .int x1), (2, .int x2)] [] 0 0 M) : ∀ (n : Nat) (a0 : Nat) (x1 : Int32) (x2 : Int32) (x3 : Int32) (x4 : Int32) (x5 : Int32) (M : Mem), L_Ba_inherit_30 k2 post n a0 x1 x2 x3 x4 x5 M → J x 6 30 [(0, .ref (xB x + a0)), (1, .int x1), (2, .int x2), (3, .int x3), (4, .int x4), (5, .int x5)] [] 0 0 M := by
  intro n
  induction n with
  | zero => intro a0 x1 x2 x3 x4 x5 M h; exact h.elim
  | succ n ih => intro a0 x1 x2 x3 x4 x5 M h; exact Z_Ba_inherit_30 C hR Rt K2 ih _ _ _ _ _ _ _ h
def B_Ba_inherit_2 (k2 : Nat → Int32 → Int32 → Mem → Prop) (post : Mem → Prop) (a0 : Nat) (x1 : Int32) (x2 : Int32) (M : Mem) : Prop := (isK M a0 0 ∧ ∃ q4, gR M a0 0 = some q4 ∧ isK M q4 4 ∧ T_Pr_amount q4 x1 M (fun r8 M8 => (r8 ≤ x2 → (post M8)) ∧ (¬ r8 ≤ x2 → (isK M8 a0 0 ∧ ∃ q15, gR M8 a0 0 = some q15 ∧ isK M8 q15 4 ∧ T_Pr_at q15 x1 x2 M8 (fun r20 M20 => ∃ n, L_Ba_inherit_30 k2 post n a0 x1 x2 r20 0 0 M20)))))
set_option maxRecDepth 20000 in
theorem Z_Ba_inherit_2 {x : Ctx} {post : Mem → Prop} (C : Ok x b_Ba_inherit 6 "HeapTower$Base") (hR : xR x = rm_Ba_inherit) (Rt : RetV x post 0 0) {k2 : Nat → Int32 → Int32 → Mem → Prop} (K2 : ∀ (a0 : Nat) (x1 : Int32) (x2 : Int32) (M : Mem), k2 a0 x1 x2 M → J x 6 2 [(0, .ref (xB x + a0)), (1, .int x1), (2, .int x2)] [] 0 0 M) (a0 : Nat) (x1 : Int32) (x2 : Int32) (M : Mem) (h : B_Ba_inherit_2 k2 post a0 x1 x2 M) : J x 6 2 [(0, .ref (xB x + a0)), (1, .int x1), (2, .int x2)] [] 0 0 M := by
  unfold B_Ba_inherit_2 at h
  refine J_iload_n C 2 D_Ba_inherit_2 rfl rfl ?_
  refine J_aload_n C 0 D_Ba_inherit_3 rfl rfl ?_
  obtain ⟨c_4, q4, e_4, h⟩ := h
  refine J_getR C fl_Ba_40 D_Ba_inherit_4 c_4 e_4 ?_
  refine J_iload_n C 1 D_Ba_inherit_7 rfl rfl ?_
  obtain ⟨c_8, h⟩ := h
  refine J_callVi C ml_Ba_64 (S_Pr_amount _ _ _ _ h) (by rw [hR]; decide) rfl c_8 rfl (Nat.le_of_ble_eq_true rfl) D_Ba_inherit_8 (fun r8 M8 h => ?_)
  refine J_icmp_ge (tgt := 77) C D_Ba_inherit_11 (by decide) (fun c_11 => ?_) (fun c_11 => ?_)
  · have h := h.1 c_11
    exact J_vret C Rt D_Ba_inherit_77 h
  · have h := h.2 c_11
    refine J_aload_n C 0 D_Ba_inherit_14 rfl rfl ?_
    obtain ⟨c_15, q15, e_15, h⟩ := h
    refine J_getR C fl_Ba_40 D_Ba_inherit_15 c_15 e_15 ?_
    refine J_iload_n C 1 D_Ba_inherit_18 rfl rfl ?_
    refine J_iload_n C 2 D_Ba_inherit_19 rfl rfl ?_
    obtain ⟨c_20, h⟩ := h
    refine J_callVi C ml_Ba_99 (S_Pr_at _ _ _ _ _ h) (by rw [hR]; decide) rfl c_20 rfl (Nat.le_of_ble_eq_true rfl) D_Ba_inherit_20 (fun r20 M20 h => ?_)
    refine J_istore_n (lv' := [(3, .int r20), (0, .ref (xB x + a0)), (1, .int x1), (2, .int x2)]) C 3 D_Ba_inherit_23 rfl (by decide) rfl ?_
    refine J_iconst (v := 0) C D_Ba_inherit_24 rfl ?_
    refine J_istore (lv' := [(4, .int 0), (3, .int r20), (0, .ref (xB x + a0)), (1, .int x1), (2, .int x2)]) C 4 D_Ba_inherit_25 (by decide) rfl ?_
    refine J_iconst (v := 0) C D_Ba_inherit_27 rfl ?_
    refine J_istore (lv' := [(5, .int 0), (4, .int 0), (3, .int r20), (0, .ref (xB x + a0)), (1, .int x1), (2, .int x2)]) C 5 D_Ba_inherit_28 (by decide) rfl ?_
    obtain ⟨n, h⟩ := h
    exact J_sub [3, 4, 5, 2, 1, 0] rfl (Y_Ba_inherit_30 C hR Rt K2 n _ _ _ _ _ _ _ h)
def L_Ba_inherit_2 (post : Mem → Prop) : Nat → Nat → Int32 → Int32 → Mem → Prop
  | 0, _, _, _, _ => False
  | n + 1, a0, x1, x2, M => B_Ba_inherit_2 (L_Ba_inherit_2 post n) post a0 x1 x2 M
theorem Y_Ba_inherit_2 {x : Ctx} {post : Mem → Prop} (C : Ok x b_Ba_inherit 6 "HeapTower$Base") (hR : xR x = rm_Ba_inherit) (Rt : RetV x post 0 0) : ∀ (n : Nat) (a0 : Nat) (x1 : Int32) (x2 : Int32) (M : Mem), L_Ba_inherit_2 post n a0 x1 x2 M → J x 6 2 [(0, .ref (xB x + a0)), (1, .int x1), (2, .int x2)] [] 0 0 M := by
  intro n
  induction n with
  | zero => intro a0 x1 x2 M h; exact h.elim
  | succ n ih => intro a0 x1 x2 M h; exact Z_Ba_inherit_2 C hR Rt ih _ _ _ _ h
def T_Ba_inherit (a0 : Nat) (x1 : Int32) (M : Mem) (post : Mem → Prop) : Prop := (∃ n, L_Ba_inherit_2 post n a0 x1 0 M)
set_option maxRecDepth 20000 in
theorem S_Ba_inherit {l : Launch} {D : va_G} {B t : Nat} {ac : Nat → ClassId} (a0 : Nat) (x1 : Int32) (M : Mem) (post : Mem → Prop) (h : T_Ba_inherit a0 x1 M post) : Met l y_Ba_inherit w_Ba_inherit rm_Ba_inherit (va_Pc [.ref (B + a0), .int x1] (PRE D B t ac M)) (QV D B ac post) 0 0 (AB B) := by
  refine met_v (by decide +kernel) (Nat.le_of_ble_eq_true rfl) (fun x h1 hR h3 h4 h5 h6 C Rt Nm => ?_)
  subst h3 h4 h5 h6
  unfold T_Ba_inherit at h
  show J x 6 0 [(0, .ref (xB x + a0)), (1, .int x1)] [] 0 0 M
  refine J_iconst (v := 0) C D_Ba_inherit_0 rfl ?_
  refine J_istore_n (lv' := [(2, .int 0), (0, .ref (xB x + a0)), (1, .int x1)]) C 2 D_Ba_inherit_1 rfl (by decide) rfl ?_
  obtain ⟨n, h⟩ := h
  exact J_sub [1, 2, 0] rfl (Y_Ba_inherit_2 C hR Rt  n _ _ _ _ h)
theorem D_Ba_isNews_0 : decode b_Ba_isNews 0 = .ok (.iconst 0, 1) := by decide +kernel
theorem D_Ba_isNews_1 : decode b_Ba_isNews 1 = .ok (.istore 5, 2) := by decide +kernel
theorem D_Ba_isNews_3 : decode b_Ba_isNews 3 = .ok (.iconst 0, 1) := by decide +kernel
theorem D_Ba_isNews_4 : decode b_Ba_isNews 4 = .ok (.istore 6, 2) := by decide +kernel
theorem D_Ba_isNews_6 : decode b_Ba_isNews 6 = .ok (.iload 6, 2) := by decide +kernel
theorem D_Ba_isNews_8 : decode b_Ba_isNews 8 = .ok (.iconst 3, 1) := by decide +kernel
theorem D_Ba_isNews_9 : decode b_Ba_isNews 9 = .ok (.if_icmp .ge 112, 3) := by decide +kernel
theorem D_Ba_isNews_12 : decode b_Ba_isNews 12 = .ok (.aload_n 0, 1) := by decide +kernel
theorem D_Ba_isNews_13 : decode b_Ba_isNews 13 = .ok (.getfield 40, 3) := by decide +kernel
theorem D_Ba_isNews_16 : decode b_Ba_isNews 16 = .ok (.aload_n 0, 1) := by decide +kernel
theorem D_Ba_isNews_17 : decode b_Ba_isNews 17 = .ok (.getfield 21, 3) := by decide +kernel
theorem D_Ba_isNews_20 : decode b_Ba_isNews 20 = .ok (.iload_n 3, 1) := by decide +kernel
theorem D_Ba_isNews_21 : decode b_Ba_isNews 21 = .ok (.iaload, 1) := by decide +kernel
theorem D_Ba_isNews_22 : decode b_Ba_isNews 22 = .ok (.aload_n 0, 1) := by decide +kernel
theorem D_Ba_isNews_23 : decode b_Ba_isNews 23 = .ok (.getfield 11, 3) := by decide +kernel
theorem D_Ba_isNews_26 : decode b_Ba_isNews 26 = .ok (.aload_n 0, 1) := by decide +kernel
theorem D_Ba_isNews_27 : decode b_Ba_isNews 27 = .ok (.getfield 18, 3) := by decide +kernel
theorem D_Ba_isNews_30 : decode b_Ba_isNews 30 = .ok (.iload_n 3, 1) := by decide +kernel
theorem D_Ba_isNews_31 : decode b_Ba_isNews 31 = .ok (.iaload, 1) := by decide +kernel
theorem D_Ba_isNews_32 : decode b_Ba_isNews 32 = .ok (.iaload, 1) := by decide +kernel
theorem D_Ba_isNews_33 : decode b_Ba_isNews 33 = .ok (.iload 6, 2) := by decide +kernel
theorem D_Ba_isNews_35 : decode b_Ba_isNews 35 = .ok (.invokevirtual 136, 3) := by decide +kernel
theorem D_Ba_isNews_38 : decode b_Ba_isNews 38 = .ok (.istore 7, 2) := by decide +kernel
theorem D_Ba_isNews_40 : decode b_Ba_isNews 40 = .ok (.aload_n 0, 1) := by decide +kernel
theorem D_Ba_isNews_41 : decode b_Ba_isNews 41 = .ok (.getfield 40, 3) := by decide +kernel
theorem D_Ba_isNews_44 : decode b_Ba_isNews 44 = .ok (.aload_n 0, 1) := by decide +kernel
theorem D_Ba_isNews_45 : decode b_Ba_isNews 45 = .ok (.getfield 21, 3) := by decide +kernel
theorem D_Ba_isNews_48 : decode b_Ba_isNews 48 = .ok (.iload 4, 2) := by decide +kernel
theorem D_Ba_isNews_50 : decode b_Ba_isNews 50 = .ok (.iaload, 1) := by decide +kernel
theorem D_Ba_isNews_51 : decode b_Ba_isNews 51 = .ok (.aload_n 0, 1) := by decide +kernel
theorem D_Ba_isNews_52 : decode b_Ba_isNews 52 = .ok (.getfield 11, 3) := by decide +kernel
theorem D_Ba_isNews_55 : decode b_Ba_isNews 55 = .ok (.aload_n 0, 1) := by decide +kernel
theorem D_Ba_isNews_56 : decode b_Ba_isNews 56 = .ok (.getfield 18, 3) := by decide +kernel
theorem D_Ba_isNews_59 : decode b_Ba_isNews 59 = .ok (.iload 4, 2) := by decide +kernel
theorem D_Ba_isNews_61 : decode b_Ba_isNews 61 = .ok (.iaload, 1) := by decide +kernel
theorem D_Ba_isNews_62 : decode b_Ba_isNews 62 = .ok (.iaload, 1) := by decide +kernel
theorem D_Ba_isNews_63 : decode b_Ba_isNews 63 = .ok (.iload 6, 2) := by decide +kernel
theorem D_Ba_isNews_65 : decode b_Ba_isNews 65 = .ok (.invokevirtual 136, 3) := by decide +kernel
theorem D_Ba_isNews_68 : decode b_Ba_isNews 68 = .ok (.istore 8, 2) := by decide +kernel
theorem D_Ba_isNews_70 : decode b_Ba_isNews 70 = .ok (.iload 7, 2) := by decide +kernel
theorem D_Ba_isNews_72 : decode b_Ba_isNews 72 = .ok (.iload 8, 2) := by decide +kernel
theorem D_Ba_isNews_74 : decode b_Ba_isNews 74 = .ok (.invokestatic 55, 3) := by decide +kernel
theorem D_Ba_isNews_77 : decode b_Ba_isNews 77 = .ok (.aload_n 0, 1) := by decide +kernel
theorem D_Ba_isNews_78 : decode b_Ba_isNews 78 = .ok (.getfield 40, 3) := by decide +kernel
theorem D_Ba_isNews_81 : decode b_Ba_isNews 81 = .ok (.iload_n 1, 1) := by decide +kernel
theorem D_Ba_isNews_82 : decode b_Ba_isNews 82 = .ok (.iload_n 2, 1) := by decide +kernel
theorem D_Ba_isNews_83 : decode b_Ba_isNews 83 = .ok (.iload 6, 2) := by decide +kernel
theorem D_Ba_isNews_85 : decode b_Ba_isNews 85 = .ok (.invokevirtual 136, 3) := by decide +kernel
theorem D_Ba_isNews_88 : decode b_Ba_isNews 88 = .ok (.if_icmp .eq 5, 3) := by decide +kernel
theorem D_Ba_isNews_91 : decode b_Ba_isNews 91 = .ok (.iconst 0, 1) := by decide +kernel
theorem D_Ba_isNews_92 : decode b_Ba_isNews 92 = .ok (.ireturn, 1) := by decide +kernel
theorem D_Ba_isNews_93 : decode b_Ba_isNews 93 = .ok (.iload 5, 2) := by decide +kernel
theorem D_Ba_isNews_95 : decode b_Ba_isNews 95 = .ok (.ifCond .ne 13, 3) := by decide +kernel
theorem D_Ba_isNews_98 : decode b_Ba_isNews 98 = .ok (.iload 7, 2) := by decide +kernel
theorem D_Ba_isNews_100 : decode b_Ba_isNews 100 = .ok (.iload 8, 2) := by decide +kernel
theorem D_Ba_isNews_102 : decode b_Ba_isNews 102 = .ok (.invokestatic 150, 3) := by decide +kernel
theorem D_Ba_isNews_105 : decode b_Ba_isNews 105 = .ok (.ifCond .le 7, 3) := by decide +kernel
theorem D_Ba_isNews_108 : decode b_Ba_isNews 108 = .ok (.iconst 1, 1) := by decide +kernel
theorem D_Ba_isNews_109 : decode b_Ba_isNews 109 = .ok (.goto 4, 3) := by decide +kernel
theorem D_Ba_isNews_112 : decode b_Ba_isNews 112 = .ok (.iconst 0, 1) := by decide +kernel
theorem D_Ba_isNews_113 : decode b_Ba_isNews 113 = .ok (.istore 5, 2) := by decide +kernel
theorem D_Ba_isNews_115 : decode b_Ba_isNews 115 = .ok (.iinc 6 1, 3) := by decide +kernel
theorem D_Ba_isNews_118 : decode b_Ba_isNews 118 = .ok (.goto (-112), 3) := by decide +kernel
theorem D_Ba_isNews_121 : decode b_Ba_isNews 121 = .ok (.iload 5, 2) := by decide +kernel
theorem D_Ba_isNews_123 : decode b_Ba_isNews 123 = .ok (.ireturn, 1) := by decide +kernel
abbrev rm_Ba_isNews : Room := { frames := 1, cells := 0, slots := 0, locals := 23 }
def B_Ba_isNews_113 (k6 : Nat → Int32 → Int32 → Int32 → Int32 → Int32 → Int32 → Mem → Prop) (post : Int32 → Mem → Prop) (a0 : Nat) (x1 : Int32) (x2 : Int32) (x3 : Int32) (x4 : Int32) (x6 : Int32) (s0 : Int32) (M : Mem) : Prop := (k6 a0 x1 x2 x3 x4 s0 (x6 + 1) M)
set_option maxRecDepth 20000 in
theorem Z_Ba_isNews_113 {x : Ctx} {post : Int32 → Mem → Prop} (C : Ok x b_Ba_isNews 9 "HeapTower$Base") (hR : xR x = rm_Ba_isNews) (Rt : RetI x .boolean post 0 0) {k6 : Nat → Int32 → Int32 → Int32 → Int32 → Int32 → Int32 → Mem → Prop} (K6 : ∀ (a0 : Nat) (x1 : Int32) (x2 : Int32) (x3 : Int32) (x4 : Int32) (x5 : Int32) (x6 : Int32) (M : Mem), k6 a0 x1 x2 x3 x4 x5 x6 M → J x 9 6 [(0, .ref (xB x + a0)), (1, .int x1), (2, .int x2), (3, .int x3), (4, .int x4), (5, .int x5), (6, .int x6)] [] 0 0 M) (a0 : Nat) (x1 : Int32) (x2 : Int32) (x3 : Int32) (x4 : Int32) (x6 : Int32) (s0 : Int32) (M : Mem) (h : B_Ba_isNews_113 k6 post a0 x1 x2 x3 x4 x6 s0 M) : J x 9 113 [(0, .ref (xB x + a0)), (1, .int x1), (2, .int x2), (3, .int x3), (4, .int x4), (6, .int x6)] [.int s0] 0 0 M := by
  unfold B_Ba_isNews_113 at h
  refine J_istore (lv' := [(5, .int s0), (0, .ref (xB x + a0)), (1, .int x1), (2, .int x2), (3, .int x3), (4, .int x4), (6, .int x6)]) C 5 D_Ba_isNews_113 (by decide) rfl ?_
  refine J_iinc (v := x6 + 1) (lv' := [(6, .int (x6 + 1)), (5, .int s0), (0, .ref (xB x + a0)), (1, .int x1), (2, .int x2), (3, .int x3), (4, .int x4)]) C 6 6 D_Ba_isNews_115 rfl rfl (by decide) rfl ?_
  refine J_goto (tgt := 6) C D_Ba_isNews_118 (by decide) ?_
  exact J_sub [2, 3, 4, 5, 6, 1, 0] rfl (K6 _ _ _ _ _ _ _ _ h)
def B_Ba_isNews_108 (k6 : Nat → Int32 → Int32 → Int32 → Int32 → Int32 → Int32 → Mem → Prop) (post : Int32 → Mem → Prop) (a0 : Nat) (x1 : Int32) (x2 : Int32) (x3 : Int32) (x4 : Int32) (x6 : Int32) (M : Mem) : Prop := (B_Ba_isNews_113 k6 post a0 x1 x2 x3 x4 x6 1 M)
set_option maxRecDepth 20000 in
theorem Z_Ba_isNews_108 {x : Ctx} {post : Int32 → Mem → Prop} (C : Ok x b_Ba_isNews 9 "HeapTower$Base") (hR : xR x = rm_Ba_isNews) (Rt : RetI x .boolean post 0 0) {k6 : Nat → Int32 → Int32 → Int32 → Int32 → Int32 → Int32 → Mem → Prop} (K6 : ∀ (a0 : Nat) (x1 : Int32) (x2 : Int32) (x3 : Int32) (x4 : Int32) (x5 : Int32) (x6 : Int32) (M : Mem), k6 a0 x1 x2 x3 x4 x5 x6 M → J x 9 6 [(0, .ref (xB x + a0)), (1, .int x1), (2, .int x2), (3, .int x3), (4, .int x4), (5, .int x5), (6, .int x6)] [] 0 0 M) (a0 : Nat) (x1 : Int32) (x2 : Int32) (x3 : Int32) (x4 : Int32) (x6 : Int32) (M : Mem) (h : B_Ba_isNews_108 k6 post a0 x1 x2 x3 x4 x6 M) : J x 9 108 [(0, .ref (xB x + a0)), (1, .int x1), (2, .int x2), (3, .int x3), (4, .int x4), (6, .int x6)] [] 0 0 M := by
  unfold B_Ba_isNews_108 at h
  refine J_iconst (v := 1) C D_Ba_isNews_108 rfl ?_
  refine J_goto (tgt := 113) C D_Ba_isNews_109 (by decide) ?_
  exact J_sub [0, 1, 2, 3, 4, 5] rfl (Z_Ba_isNews_113 C hR Rt K6 _ _ _ _ _ _ _ _ h)
def B_Ba_isNews_6 (k6 : Nat → Int32 → Int32 → Int32 → Int32 → Int32 → Int32 → Mem → Prop) (post : Int32 → Mem → Prop) (a0 : Nat) (x1 : Int32) (x2 : Int32) (x3 : Int32) (x4 : Int32) (x5 : Int32) (x6 : Int32) (M : Mem) : Prop := ((3 ≤ x6 → (narrow .boolean (.int x5) = .int x5 ∧ post x5 M)) ∧ (¬ 3 ≤ x6 → (isK M a0 0 ∧ ∃ q13, gR M a0 0 = some q13 ∧ isK M a0 0 ∧ ∃ q17, gR M a0 7 = some q17 ∧ isA M q17 8 x3 ∧ isK M a0 0 ∧ ∃ q23, gR M a0 4 = some q23 ∧ isK M a0 0 ∧ ∃ q27, gR M a0 6 = some q27 ∧ isA M q27 8 x3 ∧ isA M q23 8 (gI M q27 (Int32.toNatClampNeg x3)) ∧ isK M q13 4 ∧ T_Pr_power q13 (gI M q17 (Int32.toNatClampNeg x3)) (gI M q23 (Int32.toNatClampNeg (gI M q27 (Int32.toNatClampNeg x3)))) x6 M (fun r35 M35 => isK M35 a0 0 ∧ ∃ q41, gR M35 a0 0 = some q41 ∧ isK M35 a0 0 ∧ ∃ q45, gR M35 a0 7 = some q45 ∧ isA M35 q45 8 x4 ∧ isK M35 a0 0 ∧ ∃ q52, gR M35 a0 4 = some q52 ∧ isK M35 a0 0 ∧ ∃ q56, gR M35 a0 6 = some q56 ∧ isA M35 q56 8 x4 ∧ isA M35 q52 8 (gI M35 q56 (Int32.toNatClampNeg x4)) ∧ isK M35 q41 4 ∧ T_Pr_power q41 (gI M35 q45 (Int32.toNatClampNeg x4)) (gI M35 q52 (Int32.toNatClampNeg (gI M35 q56 (Int32.toNatClampNeg x4)))) x6 M35 (fun r65 M65 => T_Ma_max r35 r65 M65 (fun r74 M74 => isK M74 a0 0 ∧ ∃ q78, gR M74 a0 0 = some q78 ∧ isK M74 q78 4 ∧ T_Pr_power q78 x1 x2 x6 M74 (fun r85 M85 => (r74 = r85 → ((¬ x5 = 0 → (B_Ba_isNews_108 k6 post a0 x1 x2 x3 x4 x6 M85)) ∧ (x5 = 0 → (T_Ma_min r35 r65 M85 (fun r102 M102 => (r102 ≤ 0 → (B_Ba_isNews_113 k6 post a0 x1 x2 x3 x4 x6 0 M102)) ∧ (¬ r102 ≤ 0 → (B_Ba_isNews_108 k6 post a0 x1 x2 x3 x4 x6 M102))))))) ∧ (¬ r74 = r85 → (narrow .boolean (.int 0) = .int 0 ∧ post 0 M85)))))))))
set_option maxRecDepth 20000 in
theorem Z_Ba_isNews_6 {x : Ctx} {post : Int32 → Mem → Prop} (C : Ok x b_Ba_isNews 9 "HeapTower$Base") (hR : xR x = rm_Ba_isNews) (Rt : RetI x .boolean post 0 0) {k6 : Nat → Int32 → Int32 → Int32 → Int32 → Int32 → Int32 → Mem → Prop} (K6 : ∀ (a0 : Nat) (x1 : Int32) (x2 : Int32) (x3 : Int32) (x4 : Int32) (x5 : Int32) (x6 : Int32) (M : Mem), k6 a0 x1 x2 x3 x4 x5 x6 M → J x 9 6 [(0, .ref (xB x + a0)), (1, .int x1), (2, .int x2), (3, .int x3), (4, .int x4), (5, .int x5), (6, .int x6)] [] 0 0 M) (a0 : Nat) (x1 : Int32) (x2 : Int32) (x3 : Int32) (x4 : Int32) (x5 : Int32) (x6 : Int32) (M : Mem) (h : B_Ba_isNews_6 k6 post a0 x1 x2 x3 x4 x5 x6 M) : J x 9 6 [(0, .ref (xB x + a0)), (1, .int x1), (2, .int x2), (3, .int x3), (4, .int x4), (5, .int x5), (6, .int x6)] [] 0 0 M := by
  unfold B_Ba_isNews_6 at h
  refine J_iload C 6 D_Ba_isNews_6 rfl ?_
  refine J_iconst (v := 3) C D_Ba_isNews_8 rfl ?_
  refine J_icmp_ge (tgt := 121) C D_Ba_isNews_9 (by decide) (fun c_9 => ?_) (fun c_9 => ?_)
  · have h := h.1 c_9
    refine J_iload C 5 D_Ba_isNews_121 rfl ?_
    obtain ⟨c_123, h⟩ := h
    exact J_iret C Rt D_Ba_isNews_123 c_123 h
  · have h := h.2 c_9
    refine J_aload_n C 0 D_Ba_isNews_12 rfl rfl ?_
    obtain ⟨c_13, q13, e_13, h⟩ := h
    refine J_getR C fl_Ba_40 D_Ba_isNews_13 c_13 e_13 ?_
    refine J_aload_n C 0 D_Ba_isNews_16 rfl rfl ?_
    obtain ⟨c_17, q17, e_17, h⟩ := h
    refine J_getR C fl_Ba_21 D_Ba_isNews_17 c_17 e_17 ?_
    refine J_iload_n C 3 D_Ba_isNews_20 rfl rfl ?_
    obtain ⟨c_21, h⟩ := h
    refine J_iald C D_Ba_isNews_21 c_21 ?_
    refine J_aload_n C 0 D_Ba_isNews_22 rfl rfl ?_
    obtain ⟨c_23, q23, e_23, h⟩ := h
    refine J_getR C fl_Ba_11 D_Ba_isNews_23 c_23 e_23 ?_
    refine J_aload_n C 0 D_Ba_isNews_26 rfl rfl ?_
    obtain ⟨c_27, q27, e_27, h⟩ := h
    refine J_getR C fl_Ba_18 D_Ba_isNews_27 c_27 e_27 ?_
    refine J_iload_n C 3 D_Ba_isNews_30 rfl rfl ?_
    obtain ⟨c_31, h⟩ := h
    refine J_iald C D_Ba_isNews_31 c_31 ?_
    obtain ⟨c_32, h⟩ := h
    refine J_iald C D_Ba_isNews_32 c_32 ?_
    refine J_iload C 6 D_Ba_isNews_33 rfl ?_
    obtain ⟨c_35, h⟩ := h
    refine J_callVi C ml_Ba_136 (S_Pr_power _ _ _ _ _ _ h) (by rw [hR]; decide) rfl c_35 rfl (Nat.le_of_ble_eq_true rfl) D_Ba_isNews_35 (fun r35 M35 h => ?_)
    refine J_istore (lv' := [(7, .int r35), (0, .ref (xB x + a0)), (1, .int x1), (2, .int x2), (3, .int x3), (4, .int x4), (5, .int x5), (6, .int x6)]) C 7 D_Ba_isNews_38 (by decide) rfl ?_
    refine J_aload_n C 0 D_Ba_isNews_40 rfl rfl ?_
    obtain ⟨c_41, q41, e_41, h⟩ := h
    refine J_getR C fl_Ba_40 D_Ba_isNews_41 c_41 e_41 ?_
    refine J_aload_n C 0 D_Ba_isNews_44 rfl rfl ?_
    obtain ⟨c_45, q45, e_45, h⟩ := h
    refine J_getR C fl_Ba_21 D_Ba_isNews_45 c_45 e_45 ?_
    refine J_iload C 4 D_Ba_isNews_48 rfl ?_
    obtain ⟨c_50, h⟩ := h
    refine J_iald C D_Ba_isNews_50 c_50 ?_
    refine J_aload_n C 0 D_Ba_isNews_51 rfl rfl ?_
    obtain ⟨c_52, q52, e_52, h⟩ := h
    refine J_getR C fl_Ba_11 D_Ba_isNews_52 c_52 e_52 ?_
    refine J_aload_n C 0 D_Ba_isNews_55 rfl rfl ?_
    obtain ⟨c_56, q56, e_56, h⟩ := h
    refine J_getR C fl_Ba_18 D_Ba_isNews_56 c_56 e_56 ?_
    refine J_iload C 4 D_Ba_isNews_59 rfl ?_
    obtain ⟨c_61, h⟩ := h
    refine J_iald C D_Ba_isNews_61 c_61 ?_
    obtain ⟨c_62, h⟩ := h
    refine J_iald C D_Ba_isNews_62 c_62 ?_
    refine J_iload C 6 D_Ba_isNews_63 rfl ?_
    obtain ⟨c_65, h⟩ := h
    refine J_callVi C ml_Ba_136 (S_Pr_power _ _ _ _ _ _ h) (by rw [hR]; decide) rfl c_65 rfl (Nat.le_of_ble_eq_true rfl) D_Ba_isNews_65 (fun r65 M65 h => ?_)
    refine J_istore (lv' := [(8, .int r65), (7, .int r35), (0, .ref (xB x + a0)), (1, .int x1), (2, .int x2), (3, .int x3), (4, .int x4), (5, .int x5), (6, .int x6)]) C 8 D_Ba_isNews_68 (by decide) rfl ?_
    refine J_iload C 7 D_Ba_isNews_70 rfl ?_
    refine J_iload C 8 D_Ba_isNews_72 rfl ?_
    refine J_callSi C ml_Ba_55 (S_Ma_max _ _ _ _ h) (by rw [hR]; decide) rfl rfl (Nat.le_of_ble_eq_true rfl) D_Ba_isNews_74 (fun r74 M74 h => ?_)
    refine J_aload_n C 0 D_Ba_isNews_77 rfl rfl ?_
    obtain ⟨c_78, q78, e_78, h⟩ := h
    refine J_getR C fl_Ba_40 D_Ba_isNews_78 c_78 e_78 ?_
    refine J_iload_n C 1 D_Ba_isNews_81 rfl rfl ?_
    refine J_iload_n C 2 D_Ba_isNews_82 rfl rfl ?_
    refine J_iload C 6 D_Ba_isNews_83 rfl ?_
    obtain ⟨c_85, h⟩ := h
    refine J_callVi C ml_Ba_136 (S_Pr_power _ _ _ _ _ _ h) (by rw [hR]; decide) rfl c_85 rfl (Nat.le_of_ble_eq_true rfl) D_Ba_isNews_85 (fun r85 M85 h => ?_)
    refine J_icmp_eq (tgt := 93) C D_Ba_isNews_88 (by decide) (fun c_88 => ?_) (fun c_88 => ?_)
    · have h := h.1 c_88
      refine J_iload C 5 D_Ba_isNews_93 rfl ?_
      refine J_if_ne (tgt := 108) C D_Ba_isNews_95 (by decide) (fun c_95 => ?_) (fun c_95 => ?_)
      · have h := h.1 c_95
        exact J_sub [2, 3, 4, 5, 6, 8] rfl (Z_Ba_isNews_108 C hR Rt K6 _ _ _ _ _ _ _ h)
      · have h := h.2 c_95
        refine J_iload C 7 D_Ba_isNews_98 rfl ?_
        refine J_iload C 8 D_Ba_isNews_100 rfl ?_
        refine J_callSi C ml_Ba_150 (S_Ma_min _ _ _ _ h) (by rw [hR]; decide) rfl rfl (Nat.le_of_ble_eq_true rfl) D_Ba_isNews_102 (fun r102 M102 h => ?_)
        refine J_if_le (tgt := 112) C D_Ba_isNews_105 (by decide) (fun c_105 => ?_) (fun c_105 => ?_)
        · have h := h.1 c_105
          refine J_iconst (v := 0) C D_Ba_isNews_112 rfl ?_
          exact J_sub [2, 3, 4, 5, 6, 8] rfl (Z_Ba_isNews_113 C hR Rt K6 _ _ _ _ _ _ _ _ h)
        · have h := h.2 c_105
          exact J_sub [2, 3, 4, 5, 6, 8] rfl (Z_Ba_isNews_108 C hR Rt K6 _ _ _ _ _ _ _ h)
    · have h := h.2 c_88
      refine J_iconst (v := 0) C D_Ba_isNews_91 rfl ?_
      obtain ⟨c_92, h⟩ := h
      exact J_iret C Rt D_Ba_isNews_92 c_92 h
def L_Ba_isNews_6 (post : Int32 → Mem → Prop) : Nat → Nat → Int32 → Int32 → Int32 → Int32 → Int32 → Int32 → Mem → Prop
  | 0, _, _, _, _, _, _, _, _ => False
  | n + 1, a0, x1, x2, x3, x4, x5, x6, M => B_Ba_isNews_6 (L_Ba_isNews_6 post n) post a0 x1 x2 x3 x4 x5 x6 M
theorem Y_Ba_isNews_6 {x : Ctx} {post : Int32 → Mem → Prop} (C : Ok x b_Ba_isNews 9 "HeapTower$Base") (hR : xR x = rm_Ba_isNews) (Rt : RetI x .boolean post 0 0) : ∀ (n : Nat) (a0 : Nat) (x1 : Int32) (x2 : Int32) (x3 : Int32) (x4 : Int32) (x5 : Int32) (x6 : Int32) (M : Mem), L_Ba_isNews_6 post n a0 x1 x2 x3 x4 x5 x6 M → J x 9 6 [(0, .ref (xB x + a0)), (1, .int x1), (2, .int x2), (3, .int x3), (4, .int x4), (5, .int x5), (6, .int x6)] [] 0 0 M := by
  intro n
  induction n with
  | zero => intro a0 x1 x2 x3 x4 x5 x6 M h; exact h.elim
  | succ n ih => intro a0 x1 x2 x3 x4 x5 x6 M h; exact Z_Ba_isNews_6 C hR Rt ih _ _ _ _ _ _ _ _ h
def T_Ba_isNews (a0 : Nat) (x1 : Int32) (x2 : Int32) (x3 : Int32) (x4 : Int32) (M : Mem) (post : Int32 → Mem → Prop) : Prop := (∃ n, L_Ba_isNews_6 post n a0 x1 x2 x3 x4 0 0 M)
set_option maxRecDepth 20000 in
theorem S_Ba_isNews {l : Launch} {D : va_G} {B t : Nat} {ac : Nat → ClassId} (a0 : Nat) (x1 : Int32) (x2 : Int32) (x3 : Int32) (x4 : Int32) (M : Mem) (post : Int32 → Mem → Prop) (h : T_Ba_isNews a0 x1 x2 x3 x4 M post) : Met l y_Ba_isNews w_Ba_isNews rm_Ba_isNews (va_Pc [.ref (B + a0), .int x1, .int x2, .int x3, .int x4] (PRE D B t ac M)) (QI D B ac post) 0 0 (AB B) := by
  refine met_i (by decide +kernel) (Nat.le_of_ble_eq_true rfl) (fun x h1 hR h3 h4 h5 h6 C Rt => ?_)
  subst h3 h4 h5 h6
  unfold T_Ba_isNews at h
  show J x 9 0 [(0, .ref (xB x + a0)), (1, .int x1), (2, .int x2), (3, .int x3), (4, .int x4)] [] 0 0 M
  refine J_iconst (v := 0) C D_Ba_isNews_0 rfl ?_
  refine J_istore (lv' := [(5, .int 0), (0, .ref (xB x + a0)), (1, .int x1), (2, .int x2), (3, .int x3), (4, .int x4)]) C 5 D_Ba_isNews_1 (by decide) rfl ?_
  refine J_iconst (v := 0) C D_Ba_isNews_3 rfl ?_
  refine J_istore (lv' := [(6, .int 0), (5, .int 0), (0, .ref (xB x + a0)), (1, .int x1), (2, .int x2), (3, .int x3), (4, .int x4)]) C 6 D_Ba_isNews_4 (by decide) rfl ?_
  obtain ⟨n, h⟩ := h
  exact J_sub [2, 3, 4, 5, 6, 1, 0] rfl (Y_Ba_isNews_6 C hR Rt  n _ _ _ _ _ _ _ _ h)
theorem D_Ba_addMoved_0 : decode b_Ba_addMoved 0 = .ok (.aload_n 0, 1) := by decide +kernel
theorem D_Ba_addMoved_1 : decode b_Ba_addMoved 1 = .ok (.getfield 44, 3) := by decide +kernel
theorem D_Ba_addMoved_4 : decode b_Ba_addMoved 4 = .ok (.getfield 124, 3) := by decide +kernel
theorem D_Ba_addMoved_7 : decode b_Ba_addMoved 7 = .ok (.istore 5, 2) := by decide +kernel
theorem D_Ba_addMoved_9 : decode b_Ba_addMoved 9 = .ok (.aload_n 0, 1) := by decide +kernel
theorem D_Ba_addMoved_10 : decode b_Ba_addMoved 10 = .ok (.getfield 40, 3) := by decide +kernel
theorem D_Ba_addMoved_13 : decode b_Ba_addMoved 13 = .ok (.getfield 126, 3) := by decide +kernel
theorem D_Ba_addMoved_16 : decode b_Ba_addMoved 16 = .ok (.astore 6, 2) := by decide +kernel
theorem D_Ba_addMoved_18 : decode b_Ba_addMoved 18 = .ok (.aload_n 0, 1) := by decide +kernel
theorem D_Ba_addMoved_19 : decode b_Ba_addMoved 19 = .ok (.getfield 40, 3) := by decide +kernel
theorem D_Ba_addMoved_22 : decode b_Ba_addMoved 22 = .ok (.getfield 129, 3) := by decide +kernel
theorem D_Ba_addMoved_25 : decode b_Ba_addMoved 25 = .ok (.astore 7, 2) := by decide +kernel
theorem D_Ba_addMoved_27 : decode b_Ba_addMoved 27 = .ok (.aload_n 0, 1) := by decide +kernel
theorem D_Ba_addMoved_28 : decode b_Ba_addMoved 28 = .ok (.getfield 11, 3) := by decide +kernel
theorem D_Ba_addMoved_31 : decode b_Ba_addMoved 31 = .ok (.aload_n 0, 1) := by decide +kernel
theorem D_Ba_addMoved_32 : decode b_Ba_addMoved 32 = .ok (.getfield 18, 3) := by decide +kernel
theorem D_Ba_addMoved_35 : decode b_Ba_addMoved 35 = .ok (.iload_n 2, 1) := by decide +kernel
theorem D_Ba_addMoved_36 : decode b_Ba_addMoved 36 = .ok (.iaload, 1) := by decide +kernel
theorem D_Ba_addMoved_37 : decode b_Ba_addMoved 37 = .ok (.iaload, 1) := by decide +kernel
theorem D_Ba_addMoved_38 : decode b_Ba_addMoved 38 = .ok (.istore 8, 2) := by decide +kernel
theorem D_Ba_addMoved_40 : decode b_Ba_addMoved 40 = .ok (.aload 6, 2) := by decide +kernel
theorem D_Ba_addMoved_42 : decode b_Ba_addMoved 42 = .ok (.iload_n 3, 1) := by decide +kernel
theorem D_Ba_addMoved_43 : decode b_Ba_addMoved 43 = .ok (.iaload, 1) := by decide +kernel
theorem D_Ba_addMoved_44 : decode b_Ba_addMoved 44 = .ok (.aload 6, 2) := by decide +kernel
theorem D_Ba_addMoved_46 : decode b_Ba_addMoved 46 = .ok (.iload 8, 2) := by decide +kernel
theorem D_Ba_addMoved_48 : decode b_Ba_addMoved 48 = .ok (.iaload, 1) := by decide +kernel
theorem D_Ba_addMoved_49 : decode b_Ba_addMoved 49 = .ok (.isub, 1) := by decide +kernel
theorem D_Ba_addMoved_50 : decode b_Ba_addMoved 50 = .ok (.istore 9, 2) := by decide +kernel
theorem D_Ba_addMoved_52 : decode b_Ba_addMoved 52 = .ok (.aload 7, 2) := by decide +kernel
theorem D_Ba_addMoved_54 : decode b_Ba_addMoved 54 = .ok (.iload_n 3, 1) := by decide +kernel
theorem D_Ba_addMoved_55 : decode b_Ba_addMoved 55 = .ok (.iaload, 1) := by decide +kernel
theorem D_Ba_addMoved_56 : decode b_Ba_addMoved 56 = .ok (.aload 7, 2) := by decide +kernel
theorem D_Ba_addMoved_58 : decode b_Ba_addMoved 58 = .ok (.iload 8, 2) := by decide +kernel
theorem D_Ba_addMoved_60 : decode b_Ba_addMoved 60 = .ok (.iaload, 1) := by decide +kernel
theorem D_Ba_addMoved_61 : decode b_Ba_addMoved 61 = .ok (.isub, 1) := by decide +kernel
theorem D_Ba_addMoved_62 : decode b_Ba_addMoved 62 = .ok (.istore 10, 2) := by decide +kernel
theorem D_Ba_addMoved_64 : decode b_Ba_addMoved 64 = .ok (.aload_n 0, 1) := by decide +kernel
theorem D_Ba_addMoved_65 : decode b_Ba_addMoved 65 = .ok (.getfield 18, 3) := by decide +kernel
theorem D_Ba_addMoved_68 : decode b_Ba_addMoved 68 = .ok (.iload_n 2, 1) := by decide +kernel
theorem D_Ba_addMoved_69 : decode b_Ba_addMoved 69 = .ok (.iaload, 1) := by decide +kernel
theorem D_Ba_addMoved_70 : decode b_Ba_addMoved 70 = .ok (.istore 11, 2) := by decide +kernel
theorem D_Ba_addMoved_72 : decode b_Ba_addMoved 72 = .ok (.iload 11, 2) := by decide +kernel
theorem D_Ba_addMoved_74 : decode b_Ba_addMoved 74 = .ok (.aload_n 0, 1) := by decide +kernel
theorem D_Ba_addMoved_75 : decode b_Ba_addMoved 75 = .ok (.getfield 18, 3) := by decide +kernel
theorem D_Ba_addMoved_78 : decode b_Ba_addMoved 78 = .ok (.iload_n 2, 1) := by decide +kernel
theorem D_Ba_addMoved_79 : decode b_Ba_addMoved 79 = .ok (.iconst 1, 1) := by decide +kernel
theorem D_Ba_addMoved_80 : decode b_Ba_addMoved 80 = .ok (.iadd, 1) := by decide +kernel
theorem D_Ba_addMoved_81 : decode b_Ba_addMoved 81 = .ok (.iaload, 1) := by decide +kernel
theorem D_Ba_addMoved_82 : decode b_Ba_addMoved 82 = .ok (.if_icmp .ge 78, 3) := by decide +kernel
theorem D_Ba_addMoved_85 : decode b_Ba_addMoved 85 = .ok (.aload 7, 2) := by decide +kernel
theorem D_Ba_addMoved_87 : decode b_Ba_addMoved 87 = .ok (.aload_n 0, 1) := by decide +kernel
theorem D_Ba_addMoved_88 : decode b_Ba_addMoved 88 = .ok (.getfield 11, 3) := by decide +kernel
theorem D_Ba_addMoved_91 : decode b_Ba_addMoved 91 = .ok (.iload 11, 2) := by decide +kernel
theorem D_Ba_addMoved_93 : decode b_Ba_addMoved 93 = .ok (.iaload, 1) := by decide +kernel
theorem D_Ba_addMoved_94 : decode b_Ba_addMoved 94 = .ok (.iaload, 1) := by decide +kernel
theorem D_Ba_addMoved_95 : decode b_Ba_addMoved 95 = .ok (.iload 10, 2) := by decide +kernel
theorem D_Ba_addMoved_97 : decode b_Ba_addMoved 97 = .ok (.iadd, 1) := by decide +kernel
theorem D_Ba_addMoved_98 : decode b_Ba_addMoved 98 = .ok (.istore 12, 2) := by decide +kernel
theorem D_Ba_addMoved_100 : decode b_Ba_addMoved 100 = .ok (.aload 6, 2) := by decide +kernel
theorem D_Ba_addMoved_102 : decode b_Ba_addMoved 102 = .ok (.aload_n 0, 1) := by decide +kernel
theorem D_Ba_addMoved_103 : decode b_Ba_addMoved 103 = .ok (.getfield 11, 3) := by decide +kernel
theorem D_Ba_addMoved_106 : decode b_Ba_addMoved 106 = .ok (.iload 11, 2) := by decide +kernel
theorem D_Ba_addMoved_108 : decode b_Ba_addMoved 108 = .ok (.iaload, 1) := by decide +kernel
theorem D_Ba_addMoved_109 : decode b_Ba_addMoved 109 = .ok (.iaload, 1) := by decide +kernel
theorem D_Ba_addMoved_110 : decode b_Ba_addMoved 110 = .ok (.iload 9, 2) := by decide +kernel
theorem D_Ba_addMoved_112 : decode b_Ba_addMoved 112 = .ok (.iadd, 1) := by decide +kernel
theorem D_Ba_addMoved_113 : decode b_Ba_addMoved 113 = .ok (.iload 12, 2) := by decide +kernel
theorem D_Ba_addMoved_115 : decode b_Ba_addMoved 115 = .ok (.iadd, 1) := by decide +kernel
theorem D_Ba_addMoved_116 : decode b_Ba_addMoved 116 = .ok (.istore 13, 2) := by decide +kernel
theorem D_Ba_addMoved_118 : decode b_Ba_addMoved 118 = .ok (.iload 13, 2) := by decide +kernel
theorem D_Ba_addMoved_120 : decode b_Ba_addMoved 120 = .ok (.iload 13, 2) := by decide +kernel
theorem D_Ba_addMoved_122 : decode b_Ba_addMoved 122 = .ok (.iconst 1, 1) := by decide +kernel
theorem D_Ba_addMoved_123 : decode b_Ba_addMoved 123 = .ok (.iadd, 1) := by decide +kernel
theorem D_Ba_addMoved_124 : decode b_Ba_addMoved 124 = .ok (.imul, 1) := by decide +kernel
theorem D_Ba_addMoved_125 : decode b_Ba_addMoved 125 = .ok (.iconst 2, 1) := by decide +kernel
theorem D_Ba_addMoved_126 : decode b_Ba_addMoved 126 = .ok (.idiv, 1) := by decide +kernel
theorem D_Ba_addMoved_127 : decode b_Ba_addMoved 127 = .ok (.iload 12, 2) := by decide +kernel
theorem D_Ba_addMoved_129 : decode b_Ba_addMoved 129 = .ok (.iadd, 1) := by decide +kernel
theorem D_Ba_addMoved_130 : decode b_Ba_addMoved 130 = .ok (.istore 14, 2) := by decide +kernel
theorem D_Ba_addMoved_132 : decode b_Ba_addMoved 132 = .ok (.aload_n 1, 1) := by decide +kernel
theorem D_Ba_addMoved_133 : decode b_Ba_addMoved 133 = .ok (.iload 14, 2) := by decide +kernel
theorem D_Ba_addMoved_135 : decode b_Ba_addMoved 135 = .ok (.aload_n 1, 1) := by decide +kernel
theorem D_Ba_addMoved_136 : decode b_Ba_addMoved 136 = .ok (.iload 14, 2) := by decide +kernel
theorem D_Ba_addMoved_138 : decode b_Ba_addMoved 138 = .ok (.iaload, 1) := by decide +kernel
theorem D_Ba_addMoved_139 : decode b_Ba_addMoved 139 = .ok (.iload 4, 2) := by decide +kernel
theorem D_Ba_addMoved_141 : decode b_Ba_addMoved 141 = .ok (.aload_n 0, 1) := by decide +kernel
theorem D_Ba_addMoved_142 : decode b_Ba_addMoved 142 = .ok (.getfield 15, 3) := by decide +kernel
theorem D_Ba_addMoved_145 : decode b_Ba_addMoved 145 = .ok (.iload 11, 2) := by decide +kernel
theorem D_Ba_addMoved_147 : decode b_Ba_addMoved 147 = .ok (.iaload, 1) := by decide +kernel
theorem D_Ba_addMoved_148 : decode b_Ba_addMoved 148 = .ok (.imul, 1) := by decide +kernel
theorem D_Ba_addMoved_149 : decode b_Ba_addMoved 149 = .ok (.iadd, 1) := by decide +kernel
theorem D_Ba_addMoved_150 : decode b_Ba_addMoved 150 = .ok (.iload 5, 2) := by decide +kernel
theorem D_Ba_addMoved_152 : decode b_Ba_addMoved 152 = .ok (.irem, 1) := by decide +kernel
theorem D_Ba_addMoved_153 : decode b_Ba_addMoved 153 = .ok (.iastore, 1) := by decide +kernel
theorem D_Ba_addMoved_154 : decode b_Ba_addMoved 154 = .ok (.iinc 11 1, 3) := by decide +kernel
theorem D_Ba_addMoved_157 : decode b_Ba_addMoved 157 = .ok (.goto (-85), 3) := by decide +kernel
theorem D_Ba_addMoved_160 : decode b_Ba_addMoved 160 = .ok (.return_, 1) := by decide +kernel
abbrev rm_Ba_addMoved : Room := { frames := 0, cells := 0, slots := 0, locals := 0 }
def B_Ba_addMoved_72 (k72 : Nat → Nat → Int32 → Int32 → Int32 → Nat → Nat → Int32 → Int32 → Int32 → Mem → Prop) (post : Mem → Prop) (a0 : Nat) (a1 : Nat) (x2 : Int32) (x4 : Int32) (x5 : Int32) (a6 : Nat) (a7 : Nat) (x9 : Int32) (x10 : Int32) (x11 : Int32) (M : Mem) : Prop := (isK M a0 0 ∧ ∃ q75, gR M a0 6 = some q75 ∧ isA M q75 8 (x2 + 1) ∧ ((gI M q75 (Int32.toNatClampNeg (x2 + 1))) ≤ x11 → (post M)) ∧ (¬ (gI M q75 (Int32.toNatClampNeg (x2 + 1))) ≤ x11 → (isK M a0 0 ∧ ∃ q88, gR M a0 4 = some q88 ∧ isA M q88 8 x11 ∧ isA M a7 8 (gI M q88 (Int32.toNatClampNeg x11)) ∧ isK M a0 0 ∧ ∃ q103, gR M a0 4 = some q103 ∧ isA M q103 8 x11 ∧ isA M a6 8 (gI M q103 (Int32.toNatClampNeg x11)) ∧ ¬ (2 : Int32) = 0 ∧ isA M a1 8 ((((((gI M a6 (Int32.toNatClampNeg (gI M q103 (Int32.toNatClampNeg x11)))) + x9) + ((gI M a7 (Int32.toNatClampNeg (gI M q88 (Int32.toNatClampNeg x11)))) + x10)) * ((((gI M a6 (Int32.toNatClampNeg (gI M q103 (Int32.toNatClampNeg x11)))) + x9) + ((gI M a7 (Int32.toNatClampNeg (gI M q88 (Int32.toNatClampNeg x11)))) + x10)) + 1)) / 2) + ((gI M a7 (Int32.toNatClampNeg (gI M q88 (Int32.toNatClampNeg x11)))) + x10)) ∧ isK M a0 0 ∧ ∃ q142, gR M a0 5 = some q142 ∧ isA M q142 8 x11 ∧ ¬ (x5 : Int32) = 0 ∧ isA M a1 8 ((((((gI M a6 (Int32.toNatClampNeg (gI M q103 (Int32.toNatClampNeg x11)))) + x9) + ((gI M a7 (Int32.toNatClampNeg (gI M q88 (Int32.toNatClampNeg x11)))) + x10)) * ((((gI M a6 (Int32.toNatClampNeg (gI M q103 (Int32.toNatClampNeg x11)))) + x9) + ((gI M a7 (Int32.toNatClampNeg (gI M q88 (Int32.toNatClampNeg x11)))) + x10)) + 1)) / 2) + ((gI M a7 (Int32.toNatClampNeg (gI M q88 (Int32.toNatClampNeg x11)))) + x10)) ∧ k72 a0 a1 x2 x4 x5 a6 a7 x9 x10 (x11 + 1) (sI M a1 (Int32.toNatClampNeg ((((((gI M a6 (Int32.toNatClampNeg (gI M q103 (Int32.toNatClampNeg x11)))) + x9) + ((gI M a7 (Int32.toNatClampNeg (gI M q88 (Int32.toNatClampNeg x11)))) + x10)) * ((((gI M a6 (Int32.toNatClampNeg (gI M q103 (Int32.toNatClampNeg x11)))) + x9) + ((gI M a7 (Int32.toNatClampNeg (gI M q88 (Int32.toNatClampNeg x11)))) + x10)) + 1)) / 2) + ((gI M a7 (Int32.toNatClampNeg (gI M q88 (Int32.toNatClampNeg x11)))) + x10))) (((gI M a1 (Int32.toNatClampNeg ((((((gI M a6 (Int32.toNatClampNeg (gI M q103 (Int32.toNatClampNeg x11)))) + x9) + ((gI M a7 (Int32.toNatClampNeg (gI M q88 (Int32.toNatClampNeg x11)))) + x10)) * ((((gI M a6 (Int32.toNatClampNeg (gI M q103 (Int32.toNatClampNeg x11)))) + x9) + ((gI M a7 (Int32.toNatClampNeg (gI M q88 (Int32.toNatClampNeg x11)))) + x10)) + 1)) / 2) + ((gI M a7 (Int32.toNatClampNeg (gI M q88 (Int32.toNatClampNeg x11)))) + x10)))) + (x4 * (gI M q142 (Int32.toNatClampNeg x11)))) - ((gI M a1 (Int32.toNatClampNeg ((((((gI M a6 (Int32.toNatClampNeg (gI M q103 (Int32.toNatClampNeg x11)))) + x9) + ((gI M a7 (Int32.toNatClampNeg (gI M q88 (Int32.toNatClampNeg x11)))) + x10)) * ((((gI M a6 (Int32.toNatClampNeg (gI M q103 (Int32.toNatClampNeg x11)))) + x9) + ((gI M a7 (Int32.toNatClampNeg (gI M q88 (Int32.toNatClampNeg x11)))) + x10)) + 1)) / 2) + ((gI M a7 (Int32.toNatClampNeg (gI M q88 (Int32.toNatClampNeg x11)))) + x10)))) + (x4 * (gI M q142 (Int32.toNatClampNeg x11)))) / x5 * x5)))))
set_option maxRecDepth 20000 in
theorem Z_Ba_addMoved_72 {x : Ctx} {post : Mem → Prop} (C : Ok x b_Ba_addMoved 15 "HeapTower$Base") (hR : xR x = rm_Ba_addMoved) (Rt : RetV x post 0 0) {k72 : Nat → Nat → Int32 → Int32 → Int32 → Nat → Nat → Int32 → Int32 → Int32 → Mem → Prop} (K72 : ∀ (a0 : Nat) (a1 : Nat) (x2 : Int32) (x4 : Int32) (x5 : Int32) (a6 : Nat) (a7 : Nat) (x9 : Int32) (x10 : Int32) (x11 : Int32) (M : Mem), k72 a0 a1 x2 x4 x5 a6 a7 x9 x10 x11 M → J x 15 72 [(0, .ref (xB x + a0)), (1, .ref (xB x + a1)), (2, .int x2), (4, .int x4), (5, .int x5), (6, .ref (xB x + a6)), (7, .ref (xB x + a7)), (9, .int x9), (10, .int x10), (11, .int x11)] [] 0 0 M) (a0 : Nat) (a1 : Nat) (x2 : Int32) (x4 : Int32) (x5 : Int32) (a6 : Nat) (a7 : Nat) (x9 : Int32) (x10 : Int32) (x11 : Int32) (M : Mem) (h : B_Ba_addMoved_72 k72 post a0 a1 x2 x4 x5 a6 a7 x9 x10 x11 M) : J x 15 72 [(0, .ref (xB x + a0)), (1, .ref (xB x + a1)), (2, .int x2), (4, .int x4), (5, .int x5), (6, .ref (xB x + a6)), (7, .ref (xB x + a7)), (9, .int x9), (10, .int x10), (11, .int x11)] [] 0 0 M := by
  unfold B_Ba_addMoved_72 at h
  refine J_iload C 11 D_Ba_addMoved_72 rfl ?_
  refine J_aload_n C 0 D_Ba_addMoved_74 rfl rfl ?_
  obtain ⟨c_75, q75, e_75, h⟩ := h
  refine J_getR C fl_Ba_18 D_Ba_addMoved_75 c_75 e_75 ?_
  refine J_iload_n C 2 D_Ba_addMoved_78 rfl rfl ?_
  refine J_iconst (v := 1) C D_Ba_addMoved_79 rfl ?_
  refine J_iadd C D_Ba_addMoved_80 ?_
  obtain ⟨c_81, h⟩ := h
  refine J_iald C D_Ba_addMoved_81 c_81 ?_
  refine J_icmp_ge (tgt := 160) C D_Ba_addMoved_82 (by decide) (fun c_82 => ?_) (fun c_82 => ?_)
  · have h := h.1 c_82
    exact J_vret C Rt D_Ba_addMoved_160 h
  · have h := h.2 c_82
    refine J_aload C 7 D_Ba_addMoved_85 rfl ?_
    refine J_aload_n C 0 D_Ba_addMoved_87 rfl rfl ?_
    obtain ⟨c_88, q88, e_88, h⟩ := h
    refine J_getR C fl_Ba_11 D_Ba_addMoved_88 c_88 e_88 ?_
    refine J_iload C 11 D_Ba_addMoved_91 rfl ?_
    obtain ⟨c_93, h⟩ := h
    refine J_iald C D_Ba_addMoved_93 c_93 ?_
    obtain ⟨c_94, h⟩ := h
    refine J_iald C D_Ba_addMoved_94 c_94 ?_
    refine J_iload C 10 D_Ba_addMoved_95 rfl ?_
    refine J_iadd C D_Ba_addMoved_97 ?_
    refine J_istore (lv' := [(12, .int ((gI M a7 (Int32.toNatClampNeg (gI M q88 (Int32.toNatClampNeg x11)))) + x10)), (0, .ref (xB x + a0)), (1, .ref (xB x + a1)), (2, .int x2), (4, .int x4), (5, .int x5), (6, .ref (xB x + a6)), (7, .ref (xB x + a7)), (9, .int x9), (10, .int x10), (11, .int x11)]) C 12 D_Ba_addMoved_98 (by decide) rfl ?_
    refine J_aload C 6 D_Ba_addMoved_100 rfl ?_
    refine J_aload_n C 0 D_Ba_addMoved_102 rfl rfl ?_
    obtain ⟨c_103, q103, e_103, h⟩ := h
    refine J_getR C fl_Ba_11 D_Ba_addMoved_103 c_103 e_103 ?_
    refine J_iload C 11 D_Ba_addMoved_106 rfl ?_
    obtain ⟨c_108, h⟩ := h
    refine J_iald C D_Ba_addMoved_108 c_108 ?_
    obtain ⟨c_109, h⟩ := h
    refine J_iald C D_Ba_addMoved_109 c_109 ?_
    refine J_iload C 9 D_Ba_addMoved_110 rfl ?_
    refine J_iadd C D_Ba_addMoved_112 ?_
    refine J_iload C 12 D_Ba_addMoved_113 rfl ?_
    refine J_iadd C D_Ba_addMoved_115 ?_
    refine J_istore (lv' := [(13, .int (((gI M a6 (Int32.toNatClampNeg (gI M q103 (Int32.toNatClampNeg x11)))) + x9) + ((gI M a7 (Int32.toNatClampNeg (gI M q88 (Int32.toNatClampNeg x11)))) + x10))), (12, .int ((gI M a7 (Int32.toNatClampNeg (gI M q88 (Int32.toNatClampNeg x11)))) + x10)), (0, .ref (xB x + a0)), (1, .ref (xB x + a1)), (2, .int x2), (4, .int x4), (5, .int x5), (6, .ref (xB x + a6)), (7, .ref (xB x + a7)), (9, .int x9), (10, .int x10), (11, .int x11)]) C 13 D_Ba_addMoved_116 (by decide) rfl ?_
    refine J_iload C 13 D_Ba_addMoved_118 rfl ?_
    refine J_iload C 13 D_Ba_addMoved_120 rfl ?_
    refine J_iconst (v := 1) C D_Ba_addMoved_122 rfl ?_
    refine J_iadd C D_Ba_addMoved_123 ?_
    refine J_imul C D_Ba_addMoved_124 ?_
    refine J_iconst (v := 2) C D_Ba_addMoved_125 rfl ?_
    obtain ⟨c_126, h⟩ := h
    refine J_idiv C D_Ba_addMoved_126 c_126 ?_
    refine J_iload C 12 D_Ba_addMoved_127 rfl ?_
    refine J_iadd C D_Ba_addMoved_129 ?_
    refine J_istore (lv' := [(14, .int ((((((gI M a6 (Int32.toNatClampNeg (gI M q103 (Int32.toNatClampNeg x11)))) + x9) + ((gI M a7 (Int32.toNatClampNeg (gI M q88 (Int32.toNatClampNeg x11)))) + x10)) * ((((gI M a6 (Int32.toNatClampNeg (gI M q103 (Int32.toNatClampNeg x11)))) + x9) + ((gI M a7 (Int32.toNatClampNeg (gI M q88 (Int32.toNatClampNeg x11)))) + x10)) + 1)) / 2) + ((gI M a7 (Int32.toNatClampNeg (gI M q88 (Int32.toNatClampNeg x11)))) + x10))), (13, .int (((gI M a6 (Int32.toNatClampNeg (gI M q103 (Int32.toNatClampNeg x11)))) + x9) + ((gI M a7 (Int32.toNatClampNeg (gI M q88 (Int32.toNatClampNeg x11)))) + x10))), (12, .int ((gI M a7 (Int32.toNatClampNeg (gI M q88 (Int32.toNatClampNeg x11)))) + x10)), (0, .ref (xB x + a0)), (1, .ref (xB x + a1)), (2, .int x2), (4, .int x4), (5, .int x5), (6, .ref (xB x + a6)), (7, .ref (xB x + a7)), (9, .int x9), (10, .int x10), (11, .int x11)]) C 14 D_Ba_addMoved_130 (by decide) rfl ?_
    refine J_aload_n C 1 D_Ba_addMoved_132 rfl rfl ?_
    refine J_iload C 14 D_Ba_addMoved_133 rfl ?_
    refine J_aload_n C 1 D_Ba_addMoved_135 rfl rfl ?_
    refine J_iload C 14 D_Ba_addMoved_136 rfl ?_
    obtain ⟨c_138, h⟩ := h
    refine J_iald C D_Ba_addMoved_138 c_138 ?_
    refine J_iload C 4 D_Ba_addMoved_139 rfl ?_
    refine J_aload_n C 0 D_Ba_addMoved_141 rfl rfl ?_
    obtain ⟨c_142, q142, e_142, h⟩ := h
    refine J_getR C fl_Ba_15 D_Ba_addMoved_142 c_142 e_142 ?_
    refine J_iload C 11 D_Ba_addMoved_145 rfl ?_
    obtain ⟨c_147, h⟩ := h
    refine J_iald C D_Ba_addMoved_147 c_147 ?_
    refine J_imul C D_Ba_addMoved_148 ?_
    refine J_iadd C D_Ba_addMoved_149 ?_
    refine J_iload C 5 D_Ba_addMoved_150 rfl ?_
    obtain ⟨c_152, h⟩ := h
    refine J_irem C D_Ba_addMoved_152 c_152 ?_
    obtain ⟨c_153, h⟩ := h
    refine J_iast C D_Ba_addMoved_153 c_153 ?_
    refine J_iinc (v := x11 + 1) (lv' := [(11, .int (x11 + 1)), (14, .int ((((((gI M a6 (Int32.toNatClampNeg (gI M q103 (Int32.toNatClampNeg x11)))) + x9) + ((gI M a7 (Int32.toNatClampNeg (gI M q88 (Int32.toNatClampNeg x11)))) + x10)) * ((((gI M a6 (Int32.toNatClampNeg (gI M q103 (Int32.toNatClampNeg x11)))) + x9) + ((gI M a7 (Int32.toNatClampNeg (gI M q88 (Int32.toNatClampNeg x11)))) + x10)) + 1)) / 2) + ((gI M a7 (Int32.toNatClampNeg (gI M q88 (Int32.toNatClampNeg x11)))) + x10))), (13, .int (((gI M a6 (Int32.toNatClampNeg (gI M q103 (Int32.toNatClampNeg x11)))) + x9) + ((gI M a7 (Int32.toNatClampNeg (gI M q88 (Int32.toNatClampNeg x11)))) + x10))), (12, .int ((gI M a7 (Int32.toNatClampNeg (gI M q88 (Int32.toNatClampNeg x11)))) + x10)), (0, .ref (xB x + a0)), (1, .ref (xB x + a1)), (2, .int x2), (4, .int x4), (5, .int x5), (6, .ref (xB x + a6)), (7, .ref (xB x + a7)), (9, .int x9), (10, .int x10)]) C 11 12 D_Ba_addMoved_154 rfl rfl (by decide) rfl ?_
    refine J_goto (tgt := 72) C D_Ba_addMoved_157 (by decide) ?_
    exact J_sub [4, 5, 6, 7, 8, 9, 10, 11, 12, 0] rfl (K72 _ _ _ _ _ _ _ _ _ _ _ h)
def L_Ba_addMoved_72 (post : Mem → Prop) : Nat → Nat → Nat → Int32 → Int32 → Int32 → Nat → Nat → Int32 → Int32 → Int32 → Mem → Prop
  | 0, _, _, _, _, _, _, _, _, _, _, _ => False
  | n + 1, a0, a1, x2, x4, x5, a6, a7, x9, x10, x11, M => B_Ba_addMoved_72 (L_Ba_addMoved_72 post n) post a0 a1 x2 x4 x5 a6 a7 x9 x10 x11 M
theorem Y_Ba_addMoved_72 {x : Ctx} {post : Mem → Prop} (C : Ok x b_Ba_addMoved 15 "HeapTower$Base") (hR : xR x = rm_Ba_addMoved) (Rt : RetV x post 0 0) : ∀ (n : Nat) (a0 : Nat) (a1 : Nat) (x2 : Int32) (x4 : Int32) (x5 : Int32) (a6 : Nat) (a7 : Nat) (x9 : Int32) (x10 : Int32) (x11 : Int32) (M : Mem), L_Ba_addMoved_72 post n a0 a1 x2 x4 x5 a6 a7 x9 x10 x11 M → J x 15 72 [(0, .ref (xB x + a0)), (1, .ref (xB x + a1)), (2, .int x2), (4, .int x4), (5, .int x5), (6, .ref (xB x + a6)), (7, .ref (xB x + a7)), (9, .int x9), (10, .int x10), (11, .int x11)] [] 0 0 M := by
  intro n
  induction n with
  | zero => intro a0 a1 x2 x4 x5 a6 a7 x9 x10 x11 M h; exact h.elim
  | succ n ih => intro a0 a1 x2 x4 x5 a6 a7 x9 x10 x11 M h; exact Z_Ba_addMoved_72 C hR Rt ih _ _ _ _ _ _ _ _ _ _ _ h
def T_Ba_addMoved (a0 : Nat) (a1 : Nat) (x2 : Int32) (x3 : Int32) (x4 : Int32) (M : Mem) (post : Mem → Prop) : Prop := (isK M a0 0 ∧ ∃ q1, gR M a0 1 = some q1 ∧ isK M q1 2 ∧ isK M a0 0 ∧ ∃ q10, gR M a0 0 = some q10 ∧ isK M q10 4 ∧ ∃ q13, gR M q10 0 = some q13 ∧ isK M a0 0 ∧ ∃ q19, gR M a0 0 = some q19 ∧ isK M q19 4 ∧ ∃ q22, gR M q19 1 = some q22 ∧ isK M a0 0 ∧ ∃ q28, gR M a0 4 = some q28 ∧ isK M a0 0 ∧ ∃ q32, gR M a0 6 = some q32 ∧ isA M q32 8 x2 ∧ isA M q28 8 (gI M q32 (Int32.toNatClampNeg x2)) ∧ isA M q13 8 x3 ∧ isA M q13 8 (gI M q28 (Int32.toNatClampNeg (gI M q32 (Int32.toNatClampNeg x2)))) ∧ isA M q22 8 x3 ∧ isA M q22 8 (gI M q28 (Int32.toNatClampNeg (gI M q32 (Int32.toNatClampNeg x2)))) ∧ isK M a0 0 ∧ ∃ q65, gR M a0 6 = some q65 ∧ isA M q65 8 x2 ∧ ∃ n, L_Ba_addMoved_72 post n a0 a1 x2 x4 (gI M q1 1) q13 q22 ((gI M q13 (Int32.toNatClampNeg x3)) - (gI M q13 (Int32.toNatClampNeg (gI M q28 (Int32.toNatClampNeg (gI M q32 (Int32.toNatClampNeg x2))))))) ((gI M q22 (Int32.toNatClampNeg x3)) - (gI M q22 (Int32.toNatClampNeg (gI M q28 (Int32.toNatClampNeg (gI M q32 (Int32.toNatClampNeg x2))))))) (gI M q65 (Int32.toNatClampNeg x2)) M)
set_option maxRecDepth 20000 in
theorem S_Ba_addMoved {l : Launch} {D : va_G} {B t : Nat} {ac : Nat → ClassId} (a0 : Nat) (a1 : Nat) (x2 : Int32) (x3 : Int32) (x4 : Int32) (M : Mem) (post : Mem → Prop) (h : T_Ba_addMoved a0 a1 x2 x3 x4 M post) : Met l y_Ba_addMoved w_Ba_addMoved rm_Ba_addMoved (va_Pc [.ref (B + a0), .ref (B + a1), .int x2, .int x3, .int x4] (PRE D B t ac M)) (QV D B ac post) 0 0 (AB B) := by
  refine met_v (by decide +kernel) (Nat.le_of_ble_eq_true rfl) (fun x h1 hR h3 h4 h5 h6 C Rt Nm => ?_)
  subst h3 h4 h5 h6
  unfold T_Ba_addMoved at h
  show J x 15 0 [(0, .ref (xB x + a0)), (1, .ref (xB x + a1)), (2, .int x2), (3, .int x3), (4, .int x4)] [] 0 0 M
  refine J_aload_n C 0 D_Ba_addMoved_0 rfl rfl ?_
  obtain ⟨c_1, q1, e_1, h⟩ := h
  refine J_getR C fl_Ba_44 D_Ba_addMoved_1 c_1 e_1 ?_
  obtain ⟨c_4, h⟩ := h
  refine J_getIN C fn_Ba_124 D_Ba_addMoved_4 c_4 ?_
  refine J_istore (lv' := [(5, .int (gI M q1 1)), (0, .ref (xB x + a0)), (1, .ref (xB x + a1)), (2, .int x2), (3, .int x3), (4, .int x4)]) C 5 D_Ba_addMoved_7 (by decide) rfl ?_
  refine J_aload_n C 0 D_Ba_addMoved_9 rfl rfl ?_
  obtain ⟨c_10, q10, e_10, h⟩ := h
  refine J_getR C fl_Ba_40 D_Ba_addMoved_10 c_10 e_10 ?_
  obtain ⟨c_13, q13, e_13, h⟩ := h
  refine J_getRN C fn_Ba_126 D_Ba_addMoved_13 c_13 e_13 ?_
  refine J_astore (lv' := [(6, .ref (xB x + q13)), (5, .int (gI M q1 1)), (0, .ref (xB x + a0)), (1, .ref (xB x + a1)), (2, .int x2), (3, .int x3), (4, .int x4)]) C 6 D_Ba_addMoved_16 (by decide) rfl ?_
  refine J_aload_n C 0 D_Ba_addMoved_18 rfl rfl ?_
  obtain ⟨c_19, q19, e_19, h⟩ := h
  refine J_getR C fl_Ba_40 D_Ba_addMoved_19 c_19 e_19 ?_
  obtain ⟨c_22, q22, e_22, h⟩ := h
  refine J_getRN C fn_Ba_129 D_Ba_addMoved_22 c_22 e_22 ?_
  refine J_astore (lv' := [(7, .ref (xB x + q22)), (6, .ref (xB x + q13)), (5, .int (gI M q1 1)), (0, .ref (xB x + a0)), (1, .ref (xB x + a1)), (2, .int x2), (3, .int x3), (4, .int x4)]) C 7 D_Ba_addMoved_25 (by decide) rfl ?_
  refine J_aload_n C 0 D_Ba_addMoved_27 rfl rfl ?_
  obtain ⟨c_28, q28, e_28, h⟩ := h
  refine J_getR C fl_Ba_11 D_Ba_addMoved_28 c_28 e_28 ?_
  refine J_aload_n C 0 D_Ba_addMoved_31 rfl rfl ?_
  obtain ⟨c_32, q32, e_32, h⟩ := h
  refine J_getR C fl_Ba_18 D_Ba_addMoved_32 c_32 e_32 ?_
  refine J_iload_n C 2 D_Ba_addMoved_35 rfl rfl ?_
  obtain ⟨c_36, h⟩ := h
  refine J_iald C D_Ba_addMoved_36 c_36 ?_
  obtain ⟨c_37, h⟩ := h
  refine J_iald C D_Ba_addMoved_37 c_37 ?_
  refine J_istore (lv' := [(8, .int (gI M q28 (Int32.toNatClampNeg (gI M q32 (Int32.toNatClampNeg x2))))), (7, .ref (xB x + q22)), (6, .ref (xB x + q13)), (5, .int (gI M q1 1)), (0, .ref (xB x + a0)), (1, .ref (xB x + a1)), (2, .int x2), (3, .int x3), (4, .int x4)]) C 8 D_Ba_addMoved_38 (by decide) rfl ?_
  refine J_aload C 6 D_Ba_addMoved_40 rfl ?_
  refine J_iload_n C 3 D_Ba_addMoved_42 rfl rfl ?_
  obtain ⟨c_43, h⟩ := h
  refine J_iald C D_Ba_addMoved_43 c_43 ?_
  refine J_aload C 6 D_Ba_addMoved_44 rfl ?_
  refine J_iload C 8 D_Ba_addMoved_46 rfl ?_
  obtain ⟨c_48, h⟩ := h
  refine J_iald C D_Ba_addMoved_48 c_48 ?_
  refine J_isub C D_Ba_addMoved_49 ?_
  refine J_istore (lv' := [(9, .int ((gI M q13 (Int32.toNatClampNeg x3)) - (gI M q13 (Int32.toNatClampNeg (gI M q28 (Int32.toNatClampNeg (gI M q32 (Int32.toNatClampNeg x2)))))))), (8, .int (gI M q28 (Int32.toNatClampNeg (gI M q32 (Int32.toNatClampNeg x2))))), (7, .ref (xB x + q22)), (6, .ref (xB x + q13)), (5, .int (gI M q1 1)), (0, .ref (xB x + a0)), (1, .ref (xB x + a1)), (2, .int x2), (3, .int x3), (4, .int x4)]) C 9 D_Ba_addMoved_50 (by decide) rfl ?_
  refine J_aload C 7 D_Ba_addMoved_52 rfl ?_
  refine J_iload_n C 3 D_Ba_addMoved_54 rfl rfl ?_
  obtain ⟨c_55, h⟩ := h
  refine J_iald C D_Ba_addMoved_55 c_55 ?_
  refine J_aload C 7 D_Ba_addMoved_56 rfl ?_
  refine J_iload C 8 D_Ba_addMoved_58 rfl ?_
  obtain ⟨c_60, h⟩ := h
  refine J_iald C D_Ba_addMoved_60 c_60 ?_
  refine J_isub C D_Ba_addMoved_61 ?_
  refine J_istore (lv' := [(10, .int ((gI M q22 (Int32.toNatClampNeg x3)) - (gI M q22 (Int32.toNatClampNeg (gI M q28 (Int32.toNatClampNeg (gI M q32 (Int32.toNatClampNeg x2)))))))), (9, .int ((gI M q13 (Int32.toNatClampNeg x3)) - (gI M q13 (Int32.toNatClampNeg (gI M q28 (Int32.toNatClampNeg (gI M q32 (Int32.toNatClampNeg x2)))))))), (8, .int (gI M q28 (Int32.toNatClampNeg (gI M q32 (Int32.toNatClampNeg x2))))), (7, .ref (xB x + q22)), (6, .ref (xB x + q13)), (5, .int (gI M q1 1)), (0, .ref (xB x + a0)), (1, .ref (xB x + a1)), (2, .int x2), (3, .int x3), (4, .int x4)]) C 10 D_Ba_addMoved_62 (by decide) rfl ?_
  refine J_aload_n C 0 D_Ba_addMoved_64 rfl rfl ?_
  obtain ⟨c_65, q65, e_65, h⟩ := h
  refine J_getR C fl_Ba_18 D_Ba_addMoved_65 c_65 e_65 ?_
  refine J_iload_n C 2 D_Ba_addMoved_68 rfl rfl ?_
  obtain ⟨c_69, h⟩ := h
  refine J_iald C D_Ba_addMoved_69 c_69 ?_
  refine J_istore (lv' := [(11, .int (gI M q65 (Int32.toNatClampNeg x2))), (10, .int ((gI M q22 (Int32.toNatClampNeg x3)) - (gI M q22 (Int32.toNatClampNeg (gI M q28 (Int32.toNatClampNeg (gI M q32 (Int32.toNatClampNeg x2)))))))), (9, .int ((gI M q13 (Int32.toNatClampNeg x3)) - (gI M q13 (Int32.toNatClampNeg (gI M q28 (Int32.toNatClampNeg (gI M q32 (Int32.toNatClampNeg x2)))))))), (8, .int (gI M q28 (Int32.toNatClampNeg (gI M q32 (Int32.toNatClampNeg x2))))), (7, .ref (xB x + q22)), (6, .ref (xB x + q13)), (5, .int (gI M q1 1)), (0, .ref (xB x + a0)), (1, .ref (xB x + a1)), (2, .int x2), (3, .int x3), (4, .int x4)]) C 11 D_Ba_addMoved_70 (by decide) rfl ?_
  obtain ⟨n, h⟩ := h
  exact J_sub [7, 8, 9, 11, 6, 5, 4, 2, 1, 0] rfl (Y_Ba_addMoved_72 C hR Rt  n _ _ _ _ _ _ _ _ _ _ _ h)
theorem D_Ba_reduce_0 : decode b_Ba_reduce 0 = .ok (.iconst 0, 1) := by decide +kernel
theorem D_Ba_reduce_1 : decode b_Ba_reduce 1 = .ok (.istore_n 3, 1) := by decide +kernel
theorem D_Ba_reduce_2 : decode b_Ba_reduce 2 = .ok (.iload_n 3, 1) := by decide +kernel
theorem D_Ba_reduce_3 : decode b_Ba_reduce 3 = .ok (.aload_n 0, 1) := by decide +kernel
theorem D_Ba_reduce_4 : decode b_Ba_reduce 4 = .ok (.getfield 40, 3) := by decide +kernel
theorem D_Ba_reduce_7 : decode b_Ba_reduce 7 = .ok (.iload_n 1, 1) := by decide +kernel
theorem D_Ba_reduce_8 : decode b_Ba_reduce 8 = .ok (.invokevirtual 64, 3) := by decide +kernel
theorem D_Ba_reduce_11 : decode b_Ba_reduce 11 = .ok (.if_icmp .ge 74, 3) := by decide +kernel
theorem D_Ba_reduce_14 : decode b_Ba_reduce 14 = .ok (.aload_n 0, 1) := by decide +kernel
theorem D_Ba_reduce_15 : decode b_Ba_reduce 15 = .ok (.getfield 40, 3) := by decide +kernel
theorem D_Ba_reduce_18 : decode b_Ba_reduce 18 = .ok (.iload_n 1, 1) := by decide +kernel
theorem D_Ba_reduce_19 : decode b_Ba_reduce 19 = .ok (.iload_n 3, 1) := by decide +kernel
theorem D_Ba_reduce_20 : decode b_Ba_reduce 20 = .ok (.invokevirtual 99, 3) := by decide +kernel
theorem D_Ba_reduce_23 : decode b_Ba_reduce 23 = .ok (.istore 4, 2) := by decide +kernel
theorem D_Ba_reduce_25 : decode b_Ba_reduce 25 = .ok (.aload_n 2, 1) := by decide +kernel
theorem D_Ba_reduce_26 : decode b_Ba_reduce 26 = .ok (.iload 4, 2) := by decide +kernel
theorem D_Ba_reduce_28 : decode b_Ba_reduce 28 = .ok (.iaload, 1) := by decide +kernel
theorem D_Ba_reduce_29 : decode b_Ba_reduce 29 = .ok (.ifCond .ne 7, 3) := by decide +kernel
theorem D_Ba_reduce_32 : decode b_Ba_reduce 32 = .ok (.iconst 0, 1) := by decide +kernel
theorem D_Ba_reduce_33 : decode b_Ba_reduce 33 = .ok (.goto 16, 3) := by decide +kernel
theorem D_Ba_reduce_36 : decode b_Ba_reduce 36 = .ok (.aload_n 0, 1) := by decide +kernel
theorem D_Ba_reduce_37 : decode b_Ba_reduce 37 = .ok (.getfield 24, 3) := by decide +kernel
theorem D_Ba_reduce_40 : decode b_Ba_reduce 40 = .ok (.getstatic 70, 3) := by decide +kernel
theorem D_Ba_reduce_43 : decode b_Ba_reduce 43 = .ok (.iload_n 1, 1) := by decide +kernel
theorem D_Ba_reduce_44 : decode b_Ba_reduce 44 = .ok (.iaload, 1) := by decide +kernel
theorem D_Ba_reduce_45 : decode b_Ba_reduce 45 = .ok (.iload 4, 2) := by decide +kernel
theorem D_Ba_reduce_47 : decode b_Ba_reduce 47 = .ok (.iadd, 1) := by decide +kernel
theorem D_Ba_reduce_48 : decode b_Ba_reduce 48 = .ok (.iaload, 1) := by decide +kernel
theorem D_Ba_reduce_49 : decode b_Ba_reduce 49 = .ok (.istore 5, 2) := by decide +kernel
theorem D_Ba_reduce_51 : decode b_Ba_reduce 51 = .ok (.iload 5, 2) := by decide +kernel
theorem D_Ba_reduce_53 : decode b_Ba_reduce 53 = .ok (.ifCond .le 26, 3) := by decide +kernel
theorem D_Ba_reduce_56 : decode b_Ba_reduce 56 = .ok (.aload_n 0, 1) := by decide +kernel
theorem D_Ba_reduce_57 : decode b_Ba_reduce 57 = .ok (.aload_n 2, 1) := by decide +kernel
theorem D_Ba_reduce_58 : decode b_Ba_reduce 58 = .ok (.iload 5, 2) := by decide +kernel
theorem D_Ba_reduce_60 : decode b_Ba_reduce 60 = .ok (.iconst 1, 1) := by decide +kernel
theorem D_Ba_reduce_61 : decode b_Ba_reduce 61 = .ok (.isub, 1) := by decide +kernel
theorem D_Ba_reduce_62 : decode b_Ba_reduce 62 = .ok (.iload 4, 2) := by decide +kernel
theorem D_Ba_reduce_64 : decode b_Ba_reduce 64 = .ok (.aload_n 0, 1) := by decide +kernel
theorem D_Ba_reduce_65 : decode b_Ba_reduce 65 = .ok (.getfield 44, 3) := by decide +kernel
theorem D_Ba_reduce_68 : decode b_Ba_reduce 68 = .ok (.invokevirtual 114, 3) := by decide +kernel
theorem D_Ba_reduce_71 : decode b_Ba_reduce 71 = .ok (.aload_n 2, 1) := by decide +kernel
theorem D_Ba_reduce_72 : decode b_Ba_reduce 72 = .ok (.iload 4, 2) := by decide +kernel
theorem D_Ba_reduce_74 : decode b_Ba_reduce 74 = .ok (.iaload, 1) := by decide +kernel
theorem D_Ba_reduce_75 : decode b_Ba_reduce 75 = .ok (.isub, 1) := by decide +kernel
theorem D_Ba_reduce_76 : decode b_Ba_reduce 76 = .ok (.invokevirtual 120, 3) := by decide +kernel
theorem D_Ba_reduce_79 : decode b_Ba_reduce 79 = .ok (.iinc 3 1, 3) := by decide +kernel
theorem D_Ba_reduce_82 : decode b_Ba_reduce 82 = .ok (.goto (-80), 3) := by decide +kernel
theorem D_Ba_reduce_85 : decode b_Ba_reduce 85 = .ok (.return_, 1) := by decide +kernel
abbrev rm_Ba_reduce : Room := { frames := 1, cells := 0, slots := 0, locals := 34 }
def B_Ba_reduce_79 (k2 : Nat → Int32 → Nat → Int32 → Mem → Prop) (post : Mem → Prop) (a0 : Nat) (x1 : Int32) (a2 : Nat) (x3 : Int32) (M : Mem) : Prop := (k2 a0 x1 a2 (x3 + 1) M)
set_option maxRecDepth 20000 in
theorem Z_Ba_reduce_79 {x : Ctx} {post : Mem → Prop} (C : Ok x b_Ba_reduce 6 "HeapTower$Base") (hR : xR x = rm_Ba_reduce) (Rt : RetV x post 0 0) {k2 : Nat → Int32 → Nat → Int32 → Mem → Prop} (K2 : ∀ (a0 : Nat) (x1 : Int32) (a2 : Nat) (x3 : Int32) (M : Mem), k2 a0 x1 a2 x3 M → J x 6 2 [(0, .ref (xB x + a0)), (1, .int x1), (2, .ref (xB x + a2)), (3, .int x3)] [] 0 0 M) (a0 : Nat) (x1 : Int32) (a2 : Nat) (x3 : Int32) (M : Mem) (h : B_Ba_reduce_79 k2 post a0 x1 a2 x3 M) : J x 6 79 [(0, .ref (xB x + a0)), (1, .int x1), (2, .ref (xB x + a2)), (3, .int x3)] [] 0 0 M := by
  unfold B_Ba_reduce_79 at h
  refine J_iinc (v := x3 + 1) (lv' := [(3, .int (x3 + 1)), (0, .ref (xB x + a0)), (1, .int x1), (2, .ref (xB x + a2))]) C 3 3 D_Ba_reduce_79 rfl rfl (by decide) rfl ?_
  refine J_goto (tgt := 2) C D_Ba_reduce_82 (by decide) ?_
  exact J_sub [1, 2, 3, 0] rfl (K2 _ _ _ _ _ h)
def B_Ba_reduce_49 (k2 : Nat → Int32 → Nat → Int32 → Mem → Prop) (post : Mem → Prop) (a0 : Nat) (x1 : Int32) (a2 : Nat) (x3 : Int32) (x4 : Int32) (s0 : Int32) (M : Mem) : Prop := ((s0 ≤ 0 → (B_Ba_reduce_79 k2 post a0 x1 a2 x3 M)) ∧ (¬ s0 ≤ 0 → (isK M a0 0 ∧ ∃ q65, gR M a0 1 = some q65 ∧ isK M q65 2 ∧ T_Nu_prime q65 M (fun r68 M68 => isA M68 a2 8 x4 ∧ isK M68 a0 0 ∧ T_Ba_addMoved a0 a2 (s0 - 1) x4 (r68 - (gI M68 a2 (Int32.toNatClampNeg x4))) M68 (fun M76 => B_Ba_reduce_79 k2 post a0 x1 a2 x3 M76)))))
set_option maxRecDepth 20000 in
theorem Z_Ba_reduce_49 {x : Ctx} {post : Mem → Prop} (C : Ok x b_Ba_reduce 6 "HeapTower$Base") (hR : xR x = rm_Ba_reduce) (Rt : RetV x post 0 0) {k2 : Nat → Int32 → Nat → Int32 → Mem → Prop} (K2 : ∀ (a0 : Nat) (x1 : Int32) (a2 : Nat) (x3 : Int32) (M : Mem), k2 a0 x1 a2 x3 M → J x 6 2 [(0, .ref (xB x + a0)), (1, .int x1), (2, .ref (xB x + a2)), (3, .int x3)] [] 0 0 M) (a0 : Nat) (x1 : Int32) (a2 : Nat) (x3 : Int32) (x4 : Int32) (s0 : Int32) (M : Mem) (h : B_Ba_reduce_49 k2 post a0 x1 a2 x3 x4 s0 M) : J x 6 49 [(0, .ref (xB x + a0)), (1, .int x1), (2, .ref (xB x + a2)), (3, .int x3), (4, .int x4)] [.int s0] 0 0 M := by
  unfold B_Ba_reduce_49 at h
  refine J_istore (lv' := [(5, .int s0), (0, .ref (xB x + a0)), (1, .int x1), (2, .ref (xB x + a2)), (3, .int x3), (4, .int x4)]) C 5 D_Ba_reduce_49 (by decide) rfl ?_
  refine J_iload C 5 D_Ba_reduce_51 rfl ?_
  refine J_if_le (tgt := 79) C D_Ba_reduce_53 (by decide) (fun c_53 => ?_) (fun c_53 => ?_)
  · have h := h.1 c_53
    exact J_sub [1, 2, 3, 4] rfl (Z_Ba_reduce_79 C hR Rt K2 _ _ _ _ _ h)
  · have h := h.2 c_53
    refine J_aload_n C 0 D_Ba_reduce_56 rfl rfl ?_
    refine J_aload_n C 2 D_Ba_reduce_57 rfl rfl ?_
    refine J_iload C 5 D_Ba_reduce_58 rfl ?_
    refine J_iconst (v := 1) C D_Ba_reduce_60 rfl ?_
    refine J_isub C D_Ba_reduce_61 ?_
    refine J_iload C 4 D_Ba_reduce_62 rfl ?_
    refine J_aload_n C 0 D_Ba_reduce_64 rfl rfl ?_
    obtain ⟨c_65, q65, e_65, h⟩ := h
    refine J_getR C fl_Ba_44 D_Ba_reduce_65 c_65 e_65 ?_
    obtain ⟨c_68, h⟩ := h
    refine J_callVi C ml_Ba_114 (S_Nu_prime _ _ _ h) (by rw [hR]; decide) rfl c_68 rfl (Nat.le_of_ble_eq_true rfl) D_Ba_reduce_68 (fun r68 M68 h => ?_)
    refine J_aload_n C 2 D_Ba_reduce_71 rfl rfl ?_
    refine J_iload C 4 D_Ba_reduce_72 rfl ?_
    obtain ⟨c_74, h⟩ := h
    refine J_iald C D_Ba_reduce_74 c_74 ?_
    refine J_isub C D_Ba_reduce_75 ?_
    obtain ⟨c_76, h⟩ := h
    refine J_callVv C ml_Ba_120 (S_Ba_addMoved _ _ _ _ _ _ _ h) (by rw [hR]; decide) rfl c_76 rfl (Nat.le_of_ble_eq_true rfl) D_Ba_reduce_76 (fun M76 h => ?_)
    exact J_sub [1, 2, 3, 4] rfl (Z_Ba_reduce_79 C hR Rt K2 _ _ _ _ _ h)
def B_Ba_reduce_2 (k2 : Nat → Int32 → Nat → Int32 → Mem → Prop) (post : Mem → Prop) (a0 : Nat) (x1 : Int32) (a2 : Nat) (x3 : Int32) (M : Mem) : Prop := (isK M a0 0 ∧ ∃ q4, gR M a0 0 = some q4 ∧ isK M q4 4 ∧ T_Pr_amount q4 x1 M (fun r8 M8 => (r8 ≤ x3 → (post M8)) ∧ (¬ r8 ≤ x3 → (isK M8 a0 0 ∧ ∃ q15, gR M8 a0 0 = some q15 ∧ isK M8 q15 4 ∧ T_Pr_at q15 x1 x3 M8 (fun r20 M20 => isA M20 a2 8 r20 ∧ (¬ (gI M20 a2 (Int32.toNatClampNeg r20)) = 0 → (isK M20 a0 0 ∧ ∃ q37, gR M20 a0 8 = some q37 ∧ vp_in x1 12 ∧ isA M20 q37 8 ((fst (Int32.toNatClampNeg x1)) + r20) ∧ B_Ba_reduce_49 k2 post a0 x1 a2 x3 r20 (gI M20 q37 (Int32.toNatClampNeg ((fst (Int32.toNatClampNeg x1)) + r20))) M20)) ∧ ((gI M20 a2 (Int32.toNatClampNeg r20)) = 0 → (B_Ba_reduce_49 k2 post a0 x1 a2 x3 r20 0 M20)))))))
set_option maxRecDepth 20000 in
theorem Z_Ba_reduce_2 {x : Ctx} {post : Mem → Prop} (C : Ok x b_Ba_reduce 6 "HeapTower$Base") (hR : xR x = rm_Ba_reduce) (Rt : RetV x post 0 0) {k2 : Nat → Int32 → Nat → Int32 → Mem → Prop} (K2 : ∀ (a0 : Nat) (x1 : Int32) (a2 : Nat) (x3 : Int32) (M : Mem), k2 a0 x1 a2 x3 M → J x 6 2 [(0, .ref (xB x + a0)), (1, .int x1), (2, .ref (xB x + a2)), (3, .int x3)] [] 0 0 M) (a0 : Nat) (x1 : Int32) (a2 : Nat) (x3 : Int32) (M : Mem) (h : B_Ba_reduce_2 k2 post a0 x1 a2 x3 M) : J x 6 2 [(0, .ref (xB x + a0)), (1, .int x1), (2, .ref (xB x + a2)), (3, .int x3)] [] 0 0 M := by
  unfold B_Ba_reduce_2 at h
  refine J_iload_n C 3 D_Ba_reduce_2 rfl rfl ?_
  refine J_aload_n C 0 D_Ba_reduce_3 rfl rfl ?_
  obtain ⟨c_4, q4, e_4, h⟩ := h
  refine J_getR C fl_Ba_40 D_Ba_reduce_4 c_4 e_4 ?_
  refine J_iload_n C 1 D_Ba_reduce_7 rfl rfl ?_
  obtain ⟨c_8, h⟩ := h
  refine J_callVi C ml_Ba_64 (S_Pr_amount _ _ _ _ h) (by rw [hR]; decide) rfl c_8 rfl (Nat.le_of_ble_eq_true rfl) D_Ba_reduce_8 (fun r8 M8 h => ?_)
  refine J_icmp_ge (tgt := 85) C D_Ba_reduce_11 (by decide) (fun c_11 => ?_) (fun c_11 => ?_)
  · have h := h.1 c_11
    exact J_vret C Rt D_Ba_reduce_85 h
  · have h := h.2 c_11
    refine J_aload_n C 0 D_Ba_reduce_14 rfl rfl ?_
    obtain ⟨c_15, q15, e_15, h⟩ := h
    refine J_getR C fl_Ba_40 D_Ba_reduce_15 c_15 e_15 ?_
    refine J_iload_n C 1 D_Ba_reduce_18 rfl rfl ?_
    refine J_iload_n C 3 D_Ba_reduce_19 rfl rfl ?_
    obtain ⟨c_20, h⟩ := h
    refine J_callVi C ml_Ba_99 (S_Pr_at _ _ _ _ _ h) (by rw [hR]; decide) rfl c_20 rfl (Nat.le_of_ble_eq_true rfl) D_Ba_reduce_20 (fun r20 M20 h => ?_)
    refine J_istore (lv' := [(4, .int r20), (0, .ref (xB x + a0)), (1, .int x1), (2, .ref (xB x + a2)), (3, .int x3)]) C 4 D_Ba_reduce_23 (by decide) rfl ?_
    refine J_aload_n C 2 D_Ba_reduce_25 rfl rfl ?_
    refine J_iload C 4 D_Ba_reduce_26 rfl ?_
    obtain ⟨c_28, h⟩ := h
    refine J_iald C D_Ba_reduce_28 c_28 ?_
    refine J_if_ne (tgt := 36) C D_Ba_reduce_29 (by decide) (fun c_29 => ?_) (fun c_29 => ?_)
    · have h := h.1 c_29
      refine J_aload_n C 0 D_Ba_reduce_36 rfl rfl ?_
      obtain ⟨c_37, q37, e_37, h⟩ := h
      refine J_getR C fl_Ba_24 D_Ba_reduce_37 c_37 e_37 ?_
      refine J_first C (by decide) D_Ba_reduce_40 ?_
      refine J_iload_n C 1 D_Ba_reduce_43 rfl rfl ?_
      obtain ⟨c_44, h⟩ := h
      refine J_fald C D_Ba_reduce_44 c_44 ?_
      refine J_iload C 4 D_Ba_reduce_45 rfl ?_
      refine J_iadd C D_Ba_reduce_47 ?_
      obtain ⟨c_48, h⟩ := h
      refine J_iald C D_Ba_reduce_48 c_48 ?_
      exact J_sub [1, 2, 3, 4, 0] rfl (Z_Ba_reduce_49 C hR Rt K2 _ _ _ _ _ _ _ h)
    · have h := h.2 c_29
      refine J_iconst (v := 0) C D_Ba_reduce_32 rfl ?_
      refine J_goto (tgt := 49) C D_Ba_reduce_33 (by decide) ?_
      exact J_sub [1, 2, 3, 4, 0] rfl (Z_Ba_reduce_49 C hR Rt K2 _ _ _ _ _ _ _ h)
def L_Ba_reduce_2 (post : Mem → Prop) : Nat → Nat → Int32 → Nat → Int32 → Mem → Prop
  | 0, _, _, _, _, _ => False
  | n + 1, a0, x1, a2, x3, M => B_Ba_reduce_2 (L_Ba_reduce_2 post n) post a0 x1 a2 x3 M
theorem Y_Ba_reduce_2 {x : Ctx} {post : Mem → Prop} (C : Ok x b_Ba_reduce 6 "HeapTower$Base") (hR : xR x = rm_Ba_reduce) (Rt : RetV x post 0 0) : ∀ (n : Nat) (a0 : Nat) (x1 : Int32) (a2 : Nat) (x3 : Int32) (M : Mem), L_Ba_reduce_2 post n a0 x1 a2 x3 M → J x 6 2 [(0, .ref (xB x + a0)), (1, .int x1), (2, .ref (xB x + a2)), (3, .int x3)] [] 0 0 M := by
  intro n
  induction n with
  | zero => intro a0 x1 a2 x3 M h; exact h.elim
  | succ n ih => intro a0 x1 a2 x3 M h; exact Z_Ba_reduce_2 C hR Rt ih _ _ _ _ _ h
def T_Ba_reduce (a0 : Nat) (x1 : Int32) (a2 : Nat) (M : Mem) (post : Mem → Prop) : Prop := (∃ n, L_Ba_reduce_2 post n a0 x1 a2 0 M)
set_option maxRecDepth 20000 in
theorem S_Ba_reduce {l : Launch} {D : va_G} {B t : Nat} {ac : Nat → ClassId} (a0 : Nat) (x1 : Int32) (a2 : Nat) (M : Mem) (post : Mem → Prop) (h : T_Ba_reduce a0 x1 a2 M post) : Met l y_Ba_reduce w_Ba_reduce rm_Ba_reduce (va_Pc [.ref (B + a0), .int x1, .ref (B + a2)] (PRE D B t ac M)) (QV D B ac post) 0 0 (AB B) := by
  refine met_v (by decide +kernel) (Nat.le_of_ble_eq_true rfl) (fun x h1 hR h3 h4 h5 h6 C Rt Nm => ?_)
  subst h3 h4 h5 h6
  unfold T_Ba_reduce at h
  show J x 6 0 [(0, .ref (xB x + a0)), (1, .int x1), (2, .ref (xB x + a2))] [] 0 0 M
  refine J_iconst (v := 0) C D_Ba_reduce_0 rfl ?_
  refine J_istore_n (lv' := [(3, .int 0), (0, .ref (xB x + a0)), (1, .int x1), (2, .ref (xB x + a2))]) C 3 D_Ba_reduce_1 rfl (by decide) rfl ?_
  obtain ⟨n, h⟩ := h
  exact J_sub [1, 2, 3, 0] rfl (Y_Ba_reduce_2 C hR Rt  n _ _ _ _ _ h)
theorem D_Ba_offerMoved_0 : decode b_Ba_offerMoved 0 = .ok (.aload_n 0, 1) := by decide +kernel
theorem D_Ba_offerMoved_1 : decode b_Ba_offerMoved 1 = .ok (.getfield 52, 3) := by decide +kernel
theorem D_Ba_offerMoved_4 : decode b_Ba_offerMoved 4 = .ok (.iconst 0, 1) := by decide +kernel
theorem D_Ba_offerMoved_5 : decode b_Ba_offerMoved 5 = .ok (.invokestatic 73, 3) := by decide +kernel
theorem D_Ba_offerMoved_8 : decode b_Ba_offerMoved 8 = .ok (.aload_n 0, 1) := by decide +kernel
theorem D_Ba_offerMoved_9 : decode b_Ba_offerMoved 9 = .ok (.aload_n 0, 1) := by decide +kernel
theorem D_Ba_offerMoved_10 : decode b_Ba_offerMoved 10 = .ok (.getfield 52, 3) := by decide +kernel
theorem D_Ba_offerMoved_13 : decode b_Ba_offerMoved 13 = .ok (.iload_n 3, 1) := by decide +kernel
theorem D_Ba_offerMoved_14 : decode b_Ba_offerMoved 14 = .ok (.iload_n 2, 1) := by decide +kernel
theorem D_Ba_offerMoved_15 : decode b_Ba_offerMoved 15 = .ok (.iconst 1, 1) := by decide +kernel
theorem D_Ba_offerMoved_16 : decode b_Ba_offerMoved 16 = .ok (.invokevirtual 120, 3) := by decide +kernel
theorem D_Ba_offerMoved_19 : decode b_Ba_offerMoved 19 = .ok (.aload_n 0, 1) := by decide +kernel
theorem D_Ba_offerMoved_20 : decode b_Ba_offerMoved 20 = .ok (.iload_n 1, 1) := by decide +kernel
theorem D_Ba_offerMoved_21 : decode b_Ba_offerMoved 21 = .ok (.aload_n 0, 1) := by decide +kernel
theorem D_Ba_offerMoved_22 : decode b_Ba_offerMoved 22 = .ok (.getfield 52, 3) := by decide +kernel
theorem D_Ba_offerMoved_25 : decode b_Ba_offerMoved 25 = .ok (.invokevirtual 91, 3) := by decide +kernel
theorem D_Ba_offerMoved_28 : decode b_Ba_offerMoved 28 = .ok (.aload_n 0, 1) := by decide +kernel
theorem D_Ba_offerMoved_29 : decode b_Ba_offerMoved 29 = .ok (.getfield 48, 3) := by decide +kernel
theorem D_Ba_offerMoved_32 : decode b_Ba_offerMoved 32 = .ok (.aload_n 0, 1) := by decide +kernel
theorem D_Ba_offerMoved_33 : decode b_Ba_offerMoved 33 = .ok (.getfield 52, 3) := by decide +kernel
theorem D_Ba_offerMoved_36 : decode b_Ba_offerMoved 36 = .ok (.invokevirtual 95, 3) := by decide +kernel
theorem D_Ba_offerMoved_39 : decode b_Ba_offerMoved 39 = .ok (.pop, 1) := by decide +kernel
theorem D_Ba_offerMoved_40 : decode b_Ba_offerMoved 40 = .ok (.return_, 1) := by decide +kernel
abbrev rm_Ba_offerMoved : Room := { frames := 2, cells := 0, slots := 0, locals := 59 }
def T_Ba_offerMoved (a0 : Nat) (x1 : Int32) (x2 : Int32) (x3 : Int32) (M : Mem) (post : Mem → Prop) : Prop := (isK M a0 0 ∧ ∃ q1, gR M a0 3 = some q1 ∧ T_Ar_fill2 q1 0 M (fun M5 => isK M5 a0 0 ∧ ∃ q10, gR M5 a0 3 = some q10 ∧ isK M5 a0 0 ∧ T_Ba_addMoved a0 q10 x3 x2 1 M5 (fun M16 => isK M16 a0 0 ∧ ∃ q22, gR M16 a0 3 = some q22 ∧ isK M16 a0 0 ∧ T_Ba_reduce a0 x1 q22 M16 (fun M25 => isK M25 a0 0 ∧ ∃ q29, gR M25 a0 2 = some q29 ∧ isK M25 a0 0 ∧ ∃ q33, gR M25 a0 3 = some q33 ∧ isK M25 q29 5 ∧ T_Ro_add q29 q33 M25 (fun r36 M36 => post M36)))))
set_option maxRecDepth 20000 in
theorem S_Ba_offerMoved {l : Launch} {D : va_G} {B t : Nat} {ac : Nat → ClassId} (a0 : Nat) (x1 : Int32) (x2 : Int32) (x3 : Int32) (M : Mem) (post : Mem → Prop) (h : T_Ba_offerMoved a0 x1 x2 x3 M post) : Met l y_Ba_offerMoved w_Ba_offerMoved rm_Ba_offerMoved (va_Pc [.ref (B + a0), .int x1, .int x2, .int x3] (PRE D B t ac M)) (QV D B ac post) 0 0 (AB B) := by
  refine met_v (by decide +kernel) (Nat.le_of_ble_eq_true rfl) (fun x h1 hR h3 h4 h5 h6 C Rt Nm => ?_)
  subst h3 h4 h5 h6
  unfold T_Ba_offerMoved at h
  show J x 4 0 [(0, .ref (xB x + a0)), (1, .int x1), (2, .int x2), (3, .int x3)] [] 0 0 M
  refine J_aload_n C 0 D_Ba_offerMoved_0 rfl rfl ?_
  obtain ⟨c_1, q1, e_1, h⟩ := h
  refine J_getR C fl_Ba_52 D_Ba_offerMoved_1 c_1 e_1 ?_
  refine J_iconst (v := 0) C D_Ba_offerMoved_4 rfl ?_
  refine J_callSv C ml_Ba_73 (S_Ar_fill2 _ _ _ _ h) (by rw [hR]; decide) rfl rfl (Nat.le_of_ble_eq_true rfl) D_Ba_offerMoved_5 (fun M5 h => ?_)
  refine J_aload_n C 0 D_Ba_offerMoved_8 rfl rfl ?_
  refine J_aload_n C 0 D_Ba_offerMoved_9 rfl rfl ?_
  obtain ⟨c_10, q10, e_10, h⟩ := h
  refine J_getR C fl_Ba_52 D_Ba_offerMoved_10 c_10 e_10 ?_
  refine J_iload_n C 3 D_Ba_offerMoved_13 rfl rfl ?_
  refine J_iload_n C 2 D_Ba_offerMoved_14 rfl rfl ?_
  refine J_iconst (v := 1) C D_Ba_offerMoved_15 rfl ?_
  obtain ⟨c_16, h⟩ := h
  refine J_callVv C ml_Ba_120 (S_Ba_addMoved _ _ _ _ _ _ _ h) (by rw [hR]; decide) rfl c_16 rfl (Nat.le_of_ble_eq_true rfl) D_Ba_offerMoved_16 (fun M16 h => ?_)
  refine J_aload_n C 0 D_Ba_offerMoved_19 rfl rfl ?_
  refine J_iload_n C 1 D_Ba_offerMoved_20 rfl rfl ?_
  refine J_aload_n C 0 D_Ba_offerMoved_21 rfl rfl ?_
  obtain ⟨c_22, q22, e_22, h⟩ := h
  refine J_getR C fl_Ba_52 D_Ba_offerMoved_22 c_22 e_22 ?_
  obtain ⟨c_25, h⟩ := h
  refine J_callVv C ml_Ba_91 (S_Ba_reduce _ _ _ _ _ h) (by rw [hR]; decide) rfl c_25 rfl (Nat.le_of_ble_eq_true rfl) D_Ba_offerMoved_25 (fun M25 h => ?_)
  refine J_aload_n C 0 D_Ba_offerMoved_28 rfl rfl ?_
  obtain ⟨c_29, q29, e_29, h⟩ := h
  refine J_getR C fl_Ba_48 D_Ba_offerMoved_29 c_29 e_29 ?_
  refine J_aload_n C 0 D_Ba_offerMoved_32 rfl rfl ?_
  obtain ⟨c_33, q33, e_33, h⟩ := h
  refine J_getR C fl_Ba_52 D_Ba_offerMoved_33 c_33 e_33 ?_
  obtain ⟨c_36, h⟩ := h
  refine J_callVi C ml_Ba_95 (S_Ro_add _ _ _ _ h) (by rw [hR]; decide) rfl c_36 rfl (Nat.le_of_ble_eq_true rfl) D_Ba_offerMoved_36 (fun r36 M36 h => ?_)
  refine J_pop C D_Ba_offerMoved_39 rfl ?_
  exact J_vret C Rt D_Ba_offerMoved_40 h
theorem D_Ba_offerDifferences_0 : decode b_Ba_offerDifferences 0 = .ok (.iconst 0, 1) := by decide +kernel
theorem D_Ba_offerDifferences_1 : decode b_Ba_offerDifferences 1 = .ok (.istore_n 2, 1) := by decide +kernel
theorem D_Ba_offerDifferences_2 : decode b_Ba_offerDifferences 2 = .ok (.aload_n 0, 1) := by decide +kernel
theorem D_Ba_offerDifferences_3 : decode b_Ba_offerDifferences 3 = .ok (.getfield 61, 3) := by decide +kernel
theorem D_Ba_offerDifferences_6 : decode b_Ba_offerDifferences 6 = .ok (.iconst 1, 1) := by decide +kernel
theorem D_Ba_offerDifferences_7 : decode b_Ba_offerDifferences 7 = .ok (.if_icmp .le 129, 3) := by decide +kernel
theorem D_Ba_offerDifferences_10 : decode b_Ba_offerDifferences 10 = .ok (.iload_n 2, 1) := by decide +kernel
theorem D_Ba_offerDifferences_11 : decode b_Ba_offerDifferences 11 = .ok (.aload_n 0, 1) := by decide +kernel
theorem D_Ba_offerDifferences_12 : decode b_Ba_offerDifferences 12 = .ok (.getfield 40, 3) := by decide +kernel
theorem D_Ba_offerDifferences_15 : decode b_Ba_offerDifferences 15 = .ok (.iload_n 1, 1) := by decide +kernel
theorem D_Ba_offerDifferences_16 : decode b_Ba_offerDifferences 16 = .ok (.invokevirtual 64, 3) := by decide +kernel
theorem D_Ba_offerDifferences_19 : decode b_Ba_offerDifferences 19 = .ok (.if_icmp .ge 117, 3) := by decide +kernel
theorem D_Ba_offerDifferences_22 : decode b_Ba_offerDifferences 22 = .ok (.aload_n 0, 1) := by decide +kernel
theorem D_Ba_offerDifferences_23 : decode b_Ba_offerDifferences 23 = .ok (.getfield 40, 3) := by decide +kernel
theorem D_Ba_offerDifferences_26 : decode b_Ba_offerDifferences 26 = .ok (.iload_n 1, 1) := by decide +kernel
theorem D_Ba_offerDifferences_27 : decode b_Ba_offerDifferences 27 = .ok (.iload_n 2, 1) := by decide +kernel
theorem D_Ba_offerDifferences_28 : decode b_Ba_offerDifferences 28 = .ok (.invokevirtual 99, 3) := by decide +kernel
theorem D_Ba_offerDifferences_31 : decode b_Ba_offerDifferences 31 = .ok (.istore_n 3, 1) := by decide +kernel
theorem D_Ba_offerDifferences_32 : decode b_Ba_offerDifferences 32 = .ok (.aload_n 0, 1) := by decide +kernel
theorem D_Ba_offerDifferences_33 : decode b_Ba_offerDifferences 33 = .ok (.getfield 24, 3) := by decide +kernel
theorem D_Ba_offerDifferences_36 : decode b_Ba_offerDifferences 36 = .ok (.getstatic 70, 3) := by decide +kernel
theorem D_Ba_offerDifferences_39 : decode b_Ba_offerDifferences 39 = .ok (.iload_n 1, 1) := by decide +kernel
theorem D_Ba_offerDifferences_40 : decode b_Ba_offerDifferences 40 = .ok (.iaload, 1) := by decide +kernel
theorem D_Ba_offerDifferences_41 : decode b_Ba_offerDifferences 41 = .ok (.iload_n 3, 1) := by decide +kernel
theorem D_Ba_offerDifferences_42 : decode b_Ba_offerDifferences 42 = .ok (.iadd, 1) := by decide +kernel
theorem D_Ba_offerDifferences_43 : decode b_Ba_offerDifferences 43 = .ok (.iaload, 1) := by decide +kernel
theorem D_Ba_offerDifferences_44 : decode b_Ba_offerDifferences 44 = .ok (.istore 4, 2) := by decide +kernel
theorem D_Ba_offerDifferences_46 : decode b_Ba_offerDifferences 46 = .ok (.iload 4, 2) := by decide +kernel
theorem D_Ba_offerDifferences_48 : decode b_Ba_offerDifferences 48 = .ok (.istore 5, 2) := by decide +kernel
theorem D_Ba_offerDifferences_50 : decode b_Ba_offerDifferences 50 = .ok (.iconst 1, 1) := by decide +kernel
theorem D_Ba_offerDifferences_51 : decode b_Ba_offerDifferences 51 = .ok (.istore 6, 2) := by decide +kernel
theorem D_Ba_offerDifferences_53 : decode b_Ba_offerDifferences 53 = .ok (.iload 6, 2) := by decide +kernel
theorem D_Ba_offerDifferences_55 : decode b_Ba_offerDifferences 55 = .ok (.iconst 3, 1) := by decide +kernel
theorem D_Ba_offerDifferences_56 : decode b_Ba_offerDifferences 56 = .ok (.if_icmp .ge 74, 3) := by decide +kernel
theorem D_Ba_offerDifferences_59 : decode b_Ba_offerDifferences 59 = .ok (.iload 4, 2) := by decide +kernel
theorem D_Ba_offerDifferences_61 : decode b_Ba_offerDifferences 61 = .ok (.ifCond .le 69, 3) := by decide +kernel
theorem D_Ba_offerDifferences_64 : decode b_Ba_offerDifferences 64 = .ok (.aload_n 0, 1) := by decide +kernel
theorem D_Ba_offerDifferences_65 : decode b_Ba_offerDifferences 65 = .ok (.iload_n 1, 1) := by decide +kernel
theorem D_Ba_offerDifferences_66 : decode b_Ba_offerDifferences 66 = .ok (.iload_n 3, 1) := by decide +kernel
theorem D_Ba_offerDifferences_67 : decode b_Ba_offerDifferences 67 = .ok (.iload 6, 2) := by decide +kernel
theorem D_Ba_offerDifferences_69 : decode b_Ba_offerDifferences 69 = .ok (.invokevirtual 132, 3) := by decide +kernel
theorem D_Ba_offerDifferences_72 : decode b_Ba_offerDifferences 72 = .ok (.istore 7, 2) := by decide +kernel
theorem D_Ba_offerDifferences_74 : decode b_Ba_offerDifferences 74 = .ok (.iload 7, 2) := by decide +kernel
theorem D_Ba_offerDifferences_76 : decode b_Ba_offerDifferences 76 = .ok (.ifCond .le 48, 3) := by decide +kernel
theorem D_Ba_offerDifferences_79 : decode b_Ba_offerDifferences 79 = .ok (.iload 7, 2) := by decide +kernel
theorem D_Ba_offerDifferences_81 : decode b_Ba_offerDifferences 81 = .ok (.iload 4, 2) := by decide +kernel
theorem D_Ba_offerDifferences_83 : decode b_Ba_offerDifferences 83 = .ok (.if_icmp .eq 41, 3) := by decide +kernel
theorem D_Ba_offerDifferences_86 : decode b_Ba_offerDifferences 86 = .ok (.iload 7, 2) := by decide +kernel
theorem D_Ba_offerDifferences_88 : decode b_Ba_offerDifferences 88 = .ok (.iload 5, 2) := by decide +kernel
theorem D_Ba_offerDifferences_90 : decode b_Ba_offerDifferences 90 = .ok (.if_icmp .eq 34, 3) := by decide +kernel
theorem D_Ba_offerDifferences_93 : decode b_Ba_offerDifferences 93 = .ok (.aload_n 0, 1) := by decide +kernel
theorem D_Ba_offerDifferences_94 : decode b_Ba_offerDifferences 94 = .ok (.iload_n 1, 1) := by decide +kernel
theorem D_Ba_offerDifferences_95 : decode b_Ba_offerDifferences 95 = .ok (.iload_n 3, 1) := by decide +kernel
theorem D_Ba_offerDifferences_96 : decode b_Ba_offerDifferences 96 = .ok (.iload 4, 2) := by decide +kernel
theorem D_Ba_offerDifferences_98 : decode b_Ba_offerDifferences 98 = .ok (.iconst 1, 1) := by decide +kernel
theorem D_Ba_offerDifferences_99 : decode b_Ba_offerDifferences 99 = .ok (.isub, 1) := by decide +kernel
theorem D_Ba_offerDifferences_100 : decode b_Ba_offerDifferences 100 = .ok (.iload 7, 2) := by decide +kernel
theorem D_Ba_offerDifferences_102 : decode b_Ba_offerDifferences 102 = .ok (.iconst 1, 1) := by decide +kernel
theorem D_Ba_offerDifferences_103 : decode b_Ba_offerDifferences 103 = .ok (.isub, 1) := by decide +kernel
theorem D_Ba_offerDifferences_104 : decode b_Ba_offerDifferences 104 = .ok (.invokevirtual 142, 3) := by decide +kernel
theorem D_Ba_offerDifferences_107 : decode b_Ba_offerDifferences 107 = .ok (.ifCond .eq 17, 3) := by decide +kernel
theorem D_Ba_offerDifferences_110 : decode b_Ba_offerDifferences 110 = .ok (.aload_n 0, 1) := by decide +kernel
theorem D_Ba_offerDifferences_111 : decode b_Ba_offerDifferences 111 = .ok (.iload_n 1, 1) := by decide +kernel
theorem D_Ba_offerDifferences_112 : decode b_Ba_offerDifferences 112 = .ok (.iload_n 3, 1) := by decide +kernel
theorem D_Ba_offerDifferences_113 : decode b_Ba_offerDifferences 113 = .ok (.iload 7, 2) := by decide +kernel
theorem D_Ba_offerDifferences_115 : decode b_Ba_offerDifferences 115 = .ok (.iconst 1, 1) := by decide +kernel
theorem D_Ba_offerDifferences_116 : decode b_Ba_offerDifferences 116 = .ok (.isub, 1) := by decide +kernel
theorem D_Ba_offerDifferences_117 : decode b_Ba_offerDifferences 117 = .ok (.invokevirtual 146, 3) := by decide +kernel
theorem D_Ba_offerDifferences_120 : decode b_Ba_offerDifferences 120 = .ok (.iload 7, 2) := by decide +kernel
theorem D_Ba_offerDifferences_122 : decode b_Ba_offerDifferences 122 = .ok (.istore 5, 2) := by decide +kernel
theorem D_Ba_offerDifferences_124 : decode b_Ba_offerDifferences 124 = .ok (.iinc 6 1, 3) := by decide +kernel
theorem D_Ba_offerDifferences_127 : decode b_Ba_offerDifferences 127 = .ok (.goto (-74), 3) := by decide +kernel
theorem D_Ba_offerDifferences_130 : decode b_Ba_offerDifferences 130 = .ok (.iinc 2 1, 3) := by decide +kernel
theorem D_Ba_offerDifferences_133 : decode b_Ba_offerDifferences 133 = .ok (.goto (-131), 3) := by decide +kernel
theorem D_Ba_offerDifferences_136 : decode b_Ba_offerDifferences 136 = .ok (.return_, 1) := by decide +kernel
abbrev rm_Ba_offerDifferences : Room := { frames := 3, cells := 0, slots := 0, locals := 82 }
def B_Ba_offerDifferences_136 (post : Mem → Prop) (M : Mem) : Prop := (post M)
set_option maxRecDepth 20000 in
theorem Z_Ba_offerDifferences_136 {x : Ctx} {post : Mem → Prop} (C : Ok x b_Ba_offerDifferences 8 "HeapTower$Base") (hR : xR x = rm_Ba_offerDifferences) (Rt : RetV x post 0 0) (M : Mem) (h : B_Ba_offerDifferences_136 post M) : J x 8 136 [] [] 0 0 M := by
  unfold B_Ba_offerDifferences_136 at h
  exact J_vret C Rt D_Ba_offerDifferences_136 h
def B_Ba_offerDifferences_130 (k2 : Nat → Int32 → Int32 → Mem → Prop) (post : Mem → Prop) (a0 : Nat) (x1 : Int32) (x2 : Int32) (M : Mem) : Prop := (k2 a0 x1 (x2 + 1) M)
set_option maxRecDepth 20000 in
theorem Z_Ba_offerDifferences_130 {x : Ctx} {post : Mem → Prop} (C : Ok x b_Ba_offerDifferences 8 "HeapTower$Base") (hR : xR x = rm_Ba_offerDifferences) (Rt : RetV x post 0 0) {k2 : Nat → Int32 → Int32 → Mem → Prop} (K2 : ∀ (a0 : Nat) (x1 : Int32) (x2 : Int32) (M : Mem), k2 a0 x1 x2 M → J x 8 2 [(0, .ref (xB x + a0)), (1, .int x1), (2, .int x2)] [] 0 0 M) (a0 : Nat) (x1 : Int32) (x2 : Int32) (M : Mem) (h : B_Ba_offerDifferences_130 k2 post a0 x1 x2 M) : J x 8 130 [(0, .ref (xB x + a0)), (1, .int x1), (2, .int x2)] [] 0 0 M := by
  unfold B_Ba_offerDifferences_130 at h
  refine J_iinc (v := x2 + 1) (lv' := [(2, .int (x2 + 1)), (0, .ref (xB x + a0)), (1, .int x1)]) C 2 2 D_Ba_offerDifferences_130 rfl rfl (by decide) rfl ?_
  refine J_goto (tgt := 2) C D_Ba_offerDifferences_133 (by decide) ?_
  exact J_sub [1, 2, 0] rfl (K2 _ _ _ _ h)
def B_Ba_offerDifferences_124 (k2 : Nat → Int32 → Int32 → Mem → Prop) (k53 : Nat → Int32 → Int32 → Int32 → Int32 → Int32 → Int32 → Mem → Prop) (post : Mem → Prop) (a0 : Nat) (x1 : Int32) (x2 : Int32) (x3 : Int32) (x4 : Int32) (x5 : Int32) (x6 : Int32) (M : Mem) : Prop := (k53 a0 x1 x2 x3 x4 x5 (x6 + 1) M)
set_option maxRecDepth 20000 in
theorem Z_Ba_offerDifferences_124 {x : Ctx} {post : Mem → Prop} (C : Ok x b_Ba_offerDifferences 8 "HeapTower$Base") (hR : xR x = rm_Ba_offerDifferences) (Rt : RetV x post 0 0) {k2 : Nat → Int32 → Int32 → Mem → Prop} (K2 : ∀ (a0 : Nat) (x1 : Int32) (x2 : Int32) (M : Mem), k2 a0 x1 x2 M → J x 8 2 [(0, .ref (xB x + a0)), (1, .int x1), (2, .int x2)] [] 0 0 M) {k53 : Nat → Int32 → Int32 → Int32 → Int32 → Int32 → Int32 → Mem → Prop} (K53 : ∀ (a0 : Nat) (x1 : Int32) (x2 : Int32) (x3 : Int32) (x4 : Int32) (x5 : Int32) (x6 : Int32) (M : Mem), k53 a0 x1 x2 x3 x4 x5 x6 M → J x 8 53 [(0, .ref (xB x + a0)), (1, .int x1), (2, .int x2), (3, .int x3), (4, .int x4), (5, .int x5), (6, .int x6)] [] 0 0 M) (a0 : Nat) (x1 : Int32) (x2 : Int32) (x3 : Int32) (x4 : Int32) (x5 : Int32) (x6 : Int32) (M : Mem) (h : B_Ba_offerDifferences_124 k2 k53 post a0 x1 x2 x3 x4 x5 x6 M) : J x 8 124 [(0, .ref (xB x + a0)), (1, .int x1), (2, .int x2), (3, .int x3), (4, .int x4), (5, .int x5), (6, .int x6)] [] 0 0 M := by
  unfold B_Ba_offerDifferences_124 at h
  refine J_iinc (v := x6 + 1) (lv' := [(6, .int (x6 + 1)), (0, .ref (xB x + a0)), (1, .int x1), (2, .int x2), (3, .int x3), (4, .int x4), (5, .int x5)]) C 6 6 D_Ba_offerDifferences_124 rfl rfl (by decide) rfl ?_
  refine J_goto (tgt := 53) C D_Ba_offerDifferences_127 (by decide) ?_
  exact J_sub [1, 2, 3, 4, 5, 6, 0] rfl (K53 _ _ _ _ _ _ _ _ h)
def B_Ba_offerDifferences_53 (k2 : Nat → Int32 → Int32 → Mem → Prop) (k53 : Nat → Int32 → Int32 → Int32 → Int32 → Int32 → Int32 → Mem → Prop) (post : Mem → Prop) (a0 : Nat) (x1 : Int32) (x2 : Int32) (x3 : Int32) (x4 : Int32) (x5 : Int32) (x6 : Int32) (M : Mem) : Prop := ((3 ≤ x6 → (B_Ba_offerDifferences_130 k2 post a0 x1 x2 M)) ∧ (¬ 3 ≤ x6 → ((x4 ≤ 0 → (B_Ba_offerDifferences_130 k2 post a0 x1 x2 M)) ∧ (¬ x4 ≤ 0 → (isK M a0 0 ∧ T_Ba_leaderBelow a0 x1 x3 x6 M (fun r69 M69 => (r69 ≤ 0 → (B_Ba_offerDifferences_124 k2 k53 post a0 x1 x2 x3 x4 x5 x6 M69)) ∧ (¬ r69 ≤ 0 → ((r69 = x4 → (B_Ba_offerDifferences_124 k2 k53 post a0 x1 x2 x3 x4 x5 x6 M69)) ∧ (¬ r69 = x4 → ((r69 = x5 → (B_Ba_offerDifferences_124 k2 k53 post a0 x1 x2 x3 x4 x5 x6 M69)) ∧ (¬ r69 = x5 → (isK M69 a0 0 ∧ T_Ba_isNews a0 x1 x3 (x4 - 1) (r69 - 1) M69 (fun r104 M104 => (r104 = 0 → (B_Ba_offerDifferences_124 k2 k53 post a0 x1 x2 x3 x4 x5 x6 M104)) ∧ (¬ r104 = 0 → (isK M104 a0 0 ∧ T_Ba_offerMoved a0 x1 x3 (r69 - 1) M104 (fun M117 => B_Ba_offerDifferences_124 k2 k53 post a0 x1 x2 x3 x4 r69 x6 M117))))))))))))))))
set_option maxRecDepth 20000 in
theorem Z_Ba_offerDifferences_53 {x : Ctx} {post : Mem → Prop} (C : Ok x b_Ba_offerDifferences 8 "HeapTower$Base") (hR : xR x = rm_Ba_offerDifferences) (Rt : RetV x post 0 0) {k2 : Nat → Int32 → Int32 → Mem → Prop} (K2 : ∀ (a0 : Nat) (x1 : Int32) (x2 : Int32) (M : Mem), k2 a0 x1 x2 M → J x 8 2 [(0, .ref (xB x + a0)), (1, .int x1), (2, .int x2)] [] 0 0 M) {k53 : Nat → Int32 → Int32 → Int32 → Int32 → Int32 → Int32 → Mem → Prop} (K53 : ∀ (a0 : Nat) (x1 : Int32) (x2 : Int32) (x3 : Int32) (x4 : Int32) (x5 : Int32) (x6 : Int32) (M : Mem), k53 a0 x1 x2 x3 x4 x5 x6 M → J x 8 53 [(0, .ref (xB x + a0)), (1, .int x1), (2, .int x2), (3, .int x3), (4, .int x4), (5, .int x5), (6, .int x6)] [] 0 0 M) (a0 : Nat) (x1 : Int32) (x2 : Int32) (x3 : Int32) (x4 : Int32) (x5 : Int32) (x6 : Int32) (M : Mem) (h : B_Ba_offerDifferences_53 k2 k53 post a0 x1 x2 x3 x4 x5 x6 M) : J x 8 53 [(0, .ref (xB x + a0)), (1, .int x1), (2, .int x2), (3, .int x3), (4, .int x4), (5, .int x5), (6, .int x6)] [] 0 0 M := by
  unfold B_Ba_offerDifferences_53 at h
  refine J_iload C 6 D_Ba_offerDifferences_53 rfl ?_
  refine J_iconst (v := 3) C D_Ba_offerDifferences_55 rfl ?_
  refine J_icmp_ge (tgt := 130) C D_Ba_offerDifferences_56 (by decide) (fun c_56 => ?_) (fun c_56 => ?_)
  · have h := h.1 c_56
    exact J_sub [0, 1, 2] rfl (Z_Ba_offerDifferences_130 C hR Rt K2 _ _ _ _ h)
  · have h := h.2 c_56
    refine J_iload C 4 D_Ba_offerDifferences_59 rfl ?_
    refine J_if_le (tgt := 130) C D_Ba_offerDifferences_61 (by decide) (fun c_61 => ?_) (fun c_61 => ?_)
    · have h := h.1 c_61
      exact J_sub [0, 1, 2] rfl (Z_Ba_offerDifferences_130 C hR Rt K2 _ _ _ _ h)
    · have h := h.2 c_61
      refine J_aload_n C 0 D_Ba_offerDifferences_64 rfl rfl ?_
      refine J_iload_n C 1 D_Ba_offerDifferences_65 rfl rfl ?_
      refine J_iload_n C 3 D_Ba_offerDifferences_66 rfl rfl ?_
      refine J_iload C 6 D_Ba_offerDifferences_67 rfl ?_
      obtain ⟨c_69, h⟩ := h
      refine J_callVi C ml_Ba_132 (S_Ba_leaderBelow _ _ _ _ _ _ h) (by rw [hR]; decide) rfl c_69 rfl (Nat.le_of_ble_eq_true rfl) D_Ba_offerDifferences_69 (fun r69 M69 h => ?_)
      refine J_istore (lv' := [(7, .int r69), (0, .ref (xB x + a0)), (1, .int x1), (2, .int x2), (3, .int x3), (4, .int x4), (5, .int x5), (6, .int x6)]) C 7 D_Ba_offerDifferences_72 (by decide) rfl ?_
      refine J_iload C 7 D_Ba_offerDifferences_74 rfl ?_
      refine J_if_le (tgt := 124) C D_Ba_offerDifferences_76 (by decide) (fun c_76 => ?_) (fun c_76 => ?_)
      · have h := h.1 c_76
        exact J_sub [1, 2, 3, 4, 5, 6, 7] rfl (Z_Ba_offerDifferences_124 C hR Rt K2 K53 _ _ _ _ _ _ _ _ h)
      · have h := h.2 c_76
        refine J_iload C 7 D_Ba_offerDifferences_79 rfl ?_
        refine J_iload C 4 D_Ba_offerDifferences_81 rfl ?_
        refine J_icmp_eq (tgt := 124) C D_Ba_offerDifferences_83 (by decide) (fun c_83 => ?_) (fun c_83 => ?_)
        · have h := h.1 c_83
          exact J_sub [1, 2, 3, 4, 5, 6, 7] rfl (Z_Ba_offerDifferences_124 C hR Rt K2 K53 _ _ _ _ _ _ _ _ h)
        · have h := h.2 c_83
          refine J_iload C 7 D_Ba_offerDifferences_86 rfl ?_
          refine J_iload C 5 D_Ba_offerDifferences_88 rfl ?_
          refine J_icmp_eq (tgt := 124) C D_Ba_offerDifferences_90 (by decide) (fun c_90 => ?_) (fun c_90 => ?_)
          · have h := h.1 c_90
            exact J_sub [1, 2, 3, 4, 5, 6, 7] rfl (Z_Ba_offerDifferences_124 C hR Rt K2 K53 _ _ _ _ _ _ _ _ h)
          · have h := h.2 c_90
            refine J_aload_n C 0 D_Ba_offerDifferences_93 rfl rfl ?_
            refine J_iload_n C 1 D_Ba_offerDifferences_94 rfl rfl ?_
            refine J_iload_n C 3 D_Ba_offerDifferences_95 rfl rfl ?_
            refine J_iload C 4 D_Ba_offerDifferences_96 rfl ?_
            refine J_iconst (v := 1) C D_Ba_offerDifferences_98 rfl ?_
            refine J_isub C D_Ba_offerDifferences_99 ?_
            refine J_iload C 7 D_Ba_offerDifferences_100 rfl ?_
            refine J_iconst (v := 1) C D_Ba_offerDifferences_102 rfl ?_
            refine J_isub C D_Ba_offerDifferences_103 ?_
            obtain ⟨c_104, h⟩ := h
            refine J_callVi C ml_Ba_142 (S_Ba_isNews _ _ _ _ _ _ _ h) (by rw [hR]; decide) rfl c_104 rfl (Nat.le_of_ble_eq_true rfl) D_Ba_offerDifferences_104 (fun r104 M104 h => ?_)
            refine J_if_eq (tgt := 124) C D_Ba_offerDifferences_107 (by decide) (fun c_107 => ?_) (fun c_107 => ?_)
            · have h := h.1 c_107
              exact J_sub [1, 2, 3, 4, 5, 6, 7] rfl (Z_Ba_offerDifferences_124 C hR Rt K2 K53 _ _ _ _ _ _ _ _ h)
            · have h := h.2 c_107
              refine J_aload_n C 0 D_Ba_offerDifferences_110 rfl rfl ?_
              refine J_iload_n C 1 D_Ba_offerDifferences_111 rfl rfl ?_
              refine J_iload_n C 3 D_Ba_offerDifferences_112 rfl rfl ?_
              refine J_iload C 7 D_Ba_offerDifferences_113 rfl ?_
              refine J_iconst (v := 1) C D_Ba_offerDifferences_115 rfl ?_
              refine J_isub C D_Ba_offerDifferences_116 ?_
              obtain ⟨c_117, h⟩ := h
              refine J_callVv C ml_Ba_146 (S_Ba_offerMoved _ _ _ _ _ _ h) (by rw [hR]; decide) rfl c_117 rfl (Nat.le_of_ble_eq_true rfl) D_Ba_offerDifferences_117 (fun M117 h => ?_)
              refine J_iload C 7 D_Ba_offerDifferences_120 rfl ?_
              refine J_istore (lv' := [(5, .int r69), (7, .int r69), (0, .ref (xB x + a0)), (1, .int x1), (2, .int x2), (3, .int x3), (4, .int x4), (6, .int x6)]) C 5 D_Ba_offerDifferences_122 (by decide) rfl ?_
              exact J_sub [2, 3, 4, 5, 6, 0, 7] rfl (Z_Ba_offerDifferences_124 C hR Rt K2 K53 _ _ _ _ _ _ _ _ h)
def L_Ba_offerDifferences_53 (k2 : Nat → Int32 → Int32 → Mem → Prop) (post : Mem → Prop) : Nat → Nat → Int32 → Int32 → Int32 → Int32 → Int32 → Int32 → Mem → Prop
  | 0, _, _, _, _, _, _, _, _ => False
  | n + 1, a0, x1, x2, x3, x4, x5, x6, M => B_Ba_offerDifferences_53 k2 (L_Ba_offerDifferences_53 k2 post n) post a0 x1 x2 x3 x4 x5 x6 M
theorem Y_Ba_offerDifferences_53 {x : Ctx} {post : Mem → Prop} (C : Ok x b_Ba_offerDifferences 8 "HeapTower$Base") (hR : xR x = rm_Ba_offerDifferences) (Rt : RetV x post 0 0) {k2 : Nat → Int32 → Int32 → Mem → Prop} (K2 : ∀ (a0 : Nat) (x1 : Int32) (x2 : Int32) (M : Mem), k2 a0 x1 x2 M → J x 8 2 [(0, .ref (xB x + a0)), (1, .int x1), (2, .int x2)] [] 0 0 M) : ∀ (n : Nat) (a0 : Nat) (x1 : Int32) (x2 : Int32) (x3 : Int32) (x4 : Int32) (x5 : Int32) (x6 : Int32) (M : Mem), L_Ba_offerDifferences_53 k2 post n a0 x1 x2 x3 x4 x5 x6 M → J x 8 53 [(0, .ref (xB x + a0)), (1, .int x1), (2, .int x2), (3, .int x3), (4, .int x4), (5, .int x5), (6, .int x6)] [] 0 0 M := by
  intro n
  induction n with
  | zero => intro a0 x1 x2 x3 x4 x5 x6 M h; exact h.elim
  | succ n ih => intro a0 x1 x2 x3 x4 x5 x6 M h; exact Z_Ba_offerDifferences_53 C hR Rt K2 ih _ _ _ _ _ _ _ _ h
def B_Ba_offerDifferences_2 (k2 : Nat → Int32 → Int32 → Mem → Prop) (post : Mem → Prop) (a0 : Nat) (x1 : Int32) (x2 : Int32) (M : Mem) : Prop := (isK M a0 0 ∧ ((gI M a0 13) ≤ 1 → (B_Ba_offerDifferences_136 post M)) ∧ (¬ (gI M a0 13) ≤ 1 → (isK M a0 0 ∧ ∃ q12, gR M a0 0 = some q12 ∧ isK M q12 4 ∧ T_Pr_amount q12 x1 M (fun r16 M16 => (r16 ≤ x2 → (B_Ba_offerDifferences_136 post M16)) ∧ (¬ r16 ≤ x2 → (isK M16 a0 0 ∧ ∃ q23, gR M16 a0 0 = some q23 ∧ isK M16 q23 4 ∧ T_Pr_at q23 x1 x2 M16 (fun r28 M28 => isK M28 a0 0 ∧ ∃ q33, gR M28 a0 8 = some q33 ∧ vp_in x1 12 ∧ isA M28 q33 8 ((fst (Int32.toNatClampNeg x1)) + r28) ∧ ∃ n, L_Ba_offerDifferences_53 k2 post n a0 x1 x2 r28 (gI M28 q33 (Int32.toNatClampNeg ((fst (Int32.toNatClampNeg x1)) + r28))) (gI M28 q33 (Int32.toNatClampNeg ((fst (Int32.toNatClampNeg x1)) + r28))) 1 M28)))))))
set_option maxRecDepth 20000 in
theorem Z_Ba_offerDifferences_2 {x : Ctx} {post : Mem → Prop} (C : Ok x b_Ba_offerDifferences 8 "HeapTower$Base") (hR : xR x = rm_Ba_offerDifferences) (Rt : RetV x post 0 0) {k2 : Nat → Int32 → Int32 → Mem → Prop} (K2 : ∀ (a0 : Nat) (x1 : Int32) (x2 : Int32) (M : Mem), k2 a0 x1 x2 M → J x 8 2 [(0, .ref (xB x + a0)), (1, .int x1), (2, .int x2)] [] 0 0 M) (a0 : Nat) (x1 : Int32) (x2 : Int32) (M : Mem) (h : B_Ba_offerDifferences_2 k2 post a0 x1 x2 M) : J x 8 2 [(0, .ref (xB x + a0)), (1, .int x1), (2, .int x2)] [] 0 0 M := by
  unfold B_Ba_offerDifferences_2 at h
  refine J_aload_n C 0 D_Ba_offerDifferences_2 rfl rfl ?_
  obtain ⟨c_3, h⟩ := h
  refine J_getI C fl_Ba_61 D_Ba_offerDifferences_3 c_3 ?_
  refine J_iconst (v := 1) C D_Ba_offerDifferences_6 rfl ?_
  refine J_icmp_le (tgt := 136) C D_Ba_offerDifferences_7 (by decide) (fun c_7 => ?_) (fun c_7 => ?_)
  · have h := h.1 c_7
    exact J_sub [] rfl (Z_Ba_offerDifferences_136 C hR Rt  _ h)
  · have h := h.2 c_7
    refine J_iload_n C 2 D_Ba_offerDifferences_10 rfl rfl ?_
    refine J_aload_n C 0 D_Ba_offerDifferences_11 rfl rfl ?_
    obtain ⟨c_12, q12, e_12, h⟩ := h
    refine J_getR C fl_Ba_40 D_Ba_offerDifferences_12 c_12 e_12 ?_
    refine J_iload_n C 1 D_Ba_offerDifferences_15 rfl rfl ?_
    obtain ⟨c_16, h⟩ := h
    refine J_callVi C ml_Ba_64 (S_Pr_amount _ _ _ _ h) (by rw [hR]; decide) rfl c_16 rfl (Nat.le_of_ble_eq_true rfl) D_Ba_offerDifferences_16 (fun r16 M16 h => ?_)
    refine J_icmp_ge (tgt := 136) C D_Ba_offerDifferences_19 (by decide) (fun c_19 => ?_) (fun c_19 => ?_)
    · have h := h.1 c_19
      exact J_sub [] rfl (Z_Ba_offerDifferences_136 C hR Rt  _ h)
    · have h := h.2 c_19
      refine J_aload_n C 0 D_Ba_offerDifferences_22 rfl rfl ?_
      obtain ⟨c_23, q23, e_23, h⟩ := h
      refine J_getR C fl_Ba_40 D_Ba_offerDifferences_23 c_23 e_23 ?_
      refine J_iload_n C 1 D_Ba_offerDifferences_26 rfl rfl ?_
      refine J_iload_n C 2 D_Ba_offerDifferences_27 rfl rfl ?_
      obtain ⟨c_28, h⟩ := h
      refine J_callVi C ml_Ba_99 (S_Pr_at _ _ _ _ _ h) (by rw [hR]; decide) rfl c_28 rfl (Nat.le_of_ble_eq_true rfl) D_Ba_offerDifferences_28 (fun r28 M28 h => ?_)
      refine J_istore_n (lv' := [(3, .int r28), (0, .ref (xB x + a0)), (1, .int x1), (2, .int x2)]) C 3 D_Ba_offerDifferences_31 rfl (by decide) rfl ?_
      refine J_aload_n C 0 D_Ba_offerDifferences_32 rfl rfl ?_
      obtain ⟨c_33, q33, e_33, h⟩ := h
      refine J_getR C fl_Ba_24 D_Ba_offerDifferences_33 c_33 e_33 ?_
      refine J_first C (by decide) D_Ba_offerDifferences_36 ?_
      refine J_iload_n C 1 D_Ba_offerDifferences_39 rfl rfl ?_
      obtain ⟨c_40, h⟩ := h
      refine J_fald C D_Ba_offerDifferences_40 c_40 ?_
      refine J_iload_n C 3 D_Ba_offerDifferences_41 rfl rfl ?_
      refine J_iadd C D_Ba_offerDifferences_42 ?_
      obtain ⟨c_43, h⟩ := h
      refine J_iald C D_Ba_offerDifferences_43 c_43 ?_
      refine J_istore (lv' := [(4, .int (gI M28 q33 (Int32.toNatClampNeg ((fst (Int32.toNatClampNeg x1)) + r28)))), (3, .int r28), (0, .ref (xB x + a0)), (1, .int x1), (2, .int x2)]) C 4 D_Ba_offerDifferences_44 (by decide) rfl ?_
      refine J_iload C 4 D_Ba_offerDifferences_46 rfl ?_
      refine J_istore (lv' := [(5, .int (gI M28 q33 (Int32.toNatClampNeg ((fst (Int32.toNatClampNeg x1)) + r28)))), (4, .int (gI M28 q33 (Int32.toNatClampNeg ((fst (Int32.toNatClampNeg x1)) + r28)))), (3, .int r28), (0, .ref (xB x + a0)), (1, .int x1), (2, .int x2)]) C 5 D_Ba_offerDifferences_48 (by decide) rfl ?_
      refine J_iconst (v := 1) C D_Ba_offerDifferences_50 rfl ?_
      refine J_istore (lv' := [(6, .int 1), (5, .int (gI M28 q33 (Int32.toNatClampNeg ((fst (Int32.toNatClampNeg x1)) + r28)))), (4, .int (gI M28 q33 (Int32.toNatClampNeg ((fst (Int32.toNatClampNeg x1)) + r28)))), (3, .int r28), (0, .ref (xB x + a0)), (1, .int x1), (2, .int x2)]) C 6 D_Ba_offerDifferences_51 (by decide) rfl ?_
      obtain ⟨n, h⟩ := h
      exact J_sub [4, 5, 6, 3, 2, 1, 0] rfl (Y_Ba_offerDifferences_53 C hR Rt K2 n _ _ _ _ _ _ _ _ h)
def L_Ba_offerDifferences_2 (post : Mem → Prop) : Nat → Nat → Int32 → Int32 → Mem → Prop
  | 0, _, _, _, _ => False
  | n + 1, a0, x1, x2, M => B_Ba_offerDifferences_2 (L_Ba_offerDifferences_2 post n) post a0 x1 x2 M
theorem Y_Ba_offerDifferences_2 {x : Ctx} {post : Mem → Prop} (C : Ok x b_Ba_offerDifferences 8 "HeapTower$Base") (hR : xR x = rm_Ba_offerDifferences) (Rt : RetV x post 0 0) : ∀ (n : Nat) (a0 : Nat) (x1 : Int32) (x2 : Int32) (M : Mem), L_Ba_offerDifferences_2 post n a0 x1 x2 M → J x 8 2 [(0, .ref (xB x + a0)), (1, .int x1), (2, .int x2)] [] 0 0 M := by
  intro n
  induction n with
  | zero => intro a0 x1 x2 M h; exact h.elim
  | succ n ih => intro a0 x1 x2 M h; exact Z_Ba_offerDifferences_2 C hR Rt ih _ _ _ _ h
def T_Ba_offerDifferences (a0 : Nat) (x1 : Int32) (M : Mem) (post : Mem → Prop) : Prop := (∃ n, L_Ba_offerDifferences_2 post n a0 x1 0 M)
set_option maxRecDepth 20000 in
theorem S_Ba_offerDifferences {l : Launch} {D : va_G} {B t : Nat} {ac : Nat → ClassId} (a0 : Nat) (x1 : Int32) (M : Mem) (post : Mem → Prop) (h : T_Ba_offerDifferences a0 x1 M post) : Met l y_Ba_offerDifferences w_Ba_offerDifferences rm_Ba_offerDifferences (va_Pc [.ref (B + a0), .int x1] (PRE D B t ac M)) (QV D B ac post) 0 0 (AB B) := by
  refine met_v (by decide +kernel) (Nat.le_of_ble_eq_true rfl) (fun x h1 hR h3 h4 h5 h6 C Rt Nm => ?_)
  subst h3 h4 h5 h6
  unfold T_Ba_offerDifferences at h
  show J x 8 0 [(0, .ref (xB x + a0)), (1, .int x1)] [] 0 0 M
  refine J_iconst (v := 0) C D_Ba_offerDifferences_0 rfl ?_
  refine J_istore_n (lv' := [(2, .int 0), (0, .ref (xB x + a0)), (1, .int x1)]) C 2 D_Ba_offerDifferences_1 rfl (by decide) rfl ?_
  obtain ⟨n, h⟩ := h
  exact J_sub [1, 2, 0] rfl (Y_Ba_offerDifferences_2 C hR Rt  n _ _ _ _ h)
theorem D_Ba_open_0 : decode b_Ba_open 0 = .ok (.aload_n 0, 1) := by decide +kernel
theorem D_Ba_open_1 : decode b_Ba_open 1 = .ok (.getfield 48, 3) := by decide +kernel
theorem D_Ba_open_4 : decode b_Ba_open 4 = .ok (.iload_n 1, 1) := by decide +kernel
theorem D_Ba_open_5 : decode b_Ba_open 5 = .ok (.invokevirtual 79, 3) := by decide +kernel
theorem D_Ba_open_8 : decode b_Ba_open 8 = .ok (.aload_n 0, 1) := by decide +kernel
theorem D_Ba_open_9 : decode b_Ba_open 9 = .ok (.getfield 33, 3) := by decide +kernel
theorem D_Ba_open_12 : decode b_Ba_open 12 = .ok (.iload_n 1, 1) := by decide +kernel
theorem D_Ba_open_13 : decode b_Ba_open 13 = .ok (.iconst 0, 1) := by decide +kernel
theorem D_Ba_open_14 : decode b_Ba_open 14 = .ok (.iastore, 1) := by decide +kernel
theorem D_Ba_open_15 : decode b_Ba_open 15 = .ok (.aload_n 0, 1) := by decide +kernel
theorem D_Ba_open_16 : decode b_Ba_open 16 = .ok (.iload_n 1, 1) := by decide +kernel
theorem D_Ba_open_17 : decode b_Ba_open 17 = .ok (.invokevirtual 85, 3) := by decide +kernel
theorem D_Ba_open_20 : decode b_Ba_open 20 = .ok (.aload_n 0, 1) := by decide +kernel
theorem D_Ba_open_21 : decode b_Ba_open 21 = .ok (.iload_n 1, 1) := by decide +kernel
theorem D_Ba_open_22 : decode b_Ba_open 22 = .ok (.invokevirtual 88, 3) := by decide +kernel
theorem D_Ba_open_25 : decode b_Ba_open 25 = .ok (.return_, 1) := by decide +kernel
abbrev rm_Ba_open : Room := { frames := 4, cells := 0, slots := 0, locals := 109 }
def T_Ba_open (a0 : Nat) (x1 : Int32) (M : Mem) (post : Mem → Prop) : Prop := (isK M a0 0 ∧ ∃ q1, gR M a0 2 = some q1 ∧ isK M q1 5 ∧ T_Ro_begin q1 x1 M (fun M5 => isK M5 a0 0 ∧ ∃ q9, gR M5 a0 11 = some q9 ∧ isA M5 q9 8 x1 ∧ isK (sI M5 q9 (Int32.toNatClampNeg x1) 0) a0 0 ∧ T_Ba_inherit a0 x1 (sI M5 q9 (Int32.toNatClampNeg x1) 0) (fun M17 => isK M17 a0 0 ∧ T_Ba_offerDifferences a0 x1 M17 (fun M22 => post M22))))
set_option maxRecDepth 20000 in
theorem S_Ba_open {l : Launch} {D : va_G} {B t : Nat} {ac : Nat → ClassId} (a0 : Nat) (x1 : Int32) (M : Mem) (post : Mem → Prop) (h : T_Ba_open a0 x1 M post) : Met l y_Ba_open w_Ba_open rm_Ba_open (va_Pc [.ref (B + a0), .int x1] (PRE D B t ac M)) (QV D B ac post) 0 0 (AB B) := by
  refine met_v (by decide +kernel) (Nat.le_of_ble_eq_true rfl) (fun x h1 hR h3 h4 h5 h6 C Rt Nm => ?_)
  subst h3 h4 h5 h6
  unfold T_Ba_open at h
  show J x 2 0 [(0, .ref (xB x + a0)), (1, .int x1)] [] 0 0 M
  refine J_aload_n C 0 D_Ba_open_0 rfl rfl ?_
  obtain ⟨c_1, q1, e_1, h⟩ := h
  refine J_getR C fl_Ba_48 D_Ba_open_1 c_1 e_1 ?_
  refine J_iload_n C 1 D_Ba_open_4 rfl rfl ?_
  obtain ⟨c_5, h⟩ := h
  refine J_callVv C ml_Ba_79 (S_Ro_begin _ _ _ _ h) (by rw [hR]; decide) rfl c_5 rfl (Nat.le_of_ble_eq_true rfl) D_Ba_open_5 (fun M5 h => ?_)
  refine J_aload_n C 0 D_Ba_open_8 rfl rfl ?_
  obtain ⟨c_9, q9, e_9, h⟩ := h
  refine J_getR C fl_Ba_33 D_Ba_open_9 c_9 e_9 ?_
  refine J_iload_n C 1 D_Ba_open_12 rfl rfl ?_
  refine J_iconst (v := 0) C D_Ba_open_13 rfl ?_
  obtain ⟨c_14, h⟩ := h
  refine J_iast C D_Ba_open_14 c_14 ?_
  refine J_aload_n C 0 D_Ba_open_15 rfl rfl ?_
  refine J_iload_n C 1 D_Ba_open_16 rfl rfl ?_
  obtain ⟨c_17, h⟩ := h
  refine J_callVv C ml_Ba_85 (S_Ba_inherit _ _ _ _ h) (by rw [hR]; decide) rfl c_17 rfl (Nat.le_of_ble_eq_true rfl) D_Ba_open_17 (fun M17 h => ?_)
  refine J_aload_n C 0 D_Ba_open_20 rfl rfl ?_
  refine J_iload_n C 1 D_Ba_open_21 rfl rfl ?_
  obtain ⟨c_22, h⟩ := h
  refine J_callVv C ml_Ba_88 (S_Ba_offerDifferences _ _ _ _ h) (by rw [hR]; decide) rfl c_22 rfl (Nat.le_of_ble_eq_true rfl) D_Ba_open_22 (fun M22 h => ?_)
  exact J_vret C Rt D_Ba_open_25 h
theorem D_Ba_offer_0 : decode b_Ba_offer 0 = .ok (.aload_n 0, 1) := by decide +kernel
theorem D_Ba_offer_1 : decode b_Ba_offer 1 = .ok (.iload_n 1, 1) := by decide +kernel
theorem D_Ba_offer_2 : decode b_Ba_offer 2 = .ok (.aload_n 2, 1) := by decide +kernel
theorem D_Ba_offer_3 : decode b_Ba_offer 3 = .ok (.invokevirtual 91, 3) := by decide +kernel
theorem D_Ba_offer_6 : decode b_Ba_offer 6 = .ok (.aload_n 0, 1) := by decide +kernel
theorem D_Ba_offer_7 : decode b_Ba_offer 7 = .ok (.getfield 48, 3) := by decide +kernel
theorem D_Ba_offer_10 : decode b_Ba_offer 10 = .ok (.aload_n 2, 1) := by decide +kernel
theorem D_Ba_offer_11 : decode b_Ba_offer 11 = .ok (.invokevirtual 95, 3) := by decide +kernel
theorem D_Ba_offer_14 : decode b_Ba_offer 14 = .ok (.ifCond .eq 13, 3) := by decide +kernel
theorem D_Ba_offer_17 : decode b_Ba_offer 17 = .ok (.aload_n 0, 1) := by decide +kernel
theorem D_Ba_offer_18 : decode b_Ba_offer 18 = .ok (.getfield 33, 3) := by decide +kernel
theorem D_Ba_offer_21 : decode b_Ba_offer 21 = .ok (.iload_n 1, 1) := by decide +kernel
theorem D_Ba_offer_22 : decode b_Ba_offer 22 = .ok (.dup2, 1) := by decide +kernel
theorem D_Ba_offer_23 : decode b_Ba_offer 23 = .ok (.iaload, 1) := by decide +kernel
theorem D_Ba_offer_24 : decode b_Ba_offer 24 = .ok (.iconst 1, 1) := by decide +kernel
theorem D_Ba_offer_25 : decode b_Ba_offer 25 = .ok (.iadd, 1) := by decide +kernel
theorem D_Ba_offer_26 : decode b_Ba_offer 26 = .ok (.iastore, 1) := by decide +kernel
theorem D_Ba_offer_27 : decode b_Ba_offer 27 = .ok (.return_, 1) := by decide +kernel
abbrev rm_Ba_offer : Room := { frames := 2, cells := 0, slots := 0, locals := 59 }
def B_Ba_offer_27 (post : Mem → Prop) (M : Mem) : Prop := (post M)
set_option maxRecDepth 20000 in
theorem Z_Ba_offer_27 {x : Ctx} {post : Mem → Prop} (C : Ok x b_Ba_offer 3 "HeapTower$Base") (hR : xR x = rm_Ba_offer) (Rt : RetV x post 0 0) (M : Mem) (h : B_Ba_offer_27 post M) : J x 3 27 [] [] 0 0 M := by
  unfold B_Ba_offer_27 at h
  exact J_vret C Rt D_Ba_offer_27 h
def T_Ba_offer (a0 : Nat) (x1 : Int32) (a2 : Nat) (M : Mem) (post : Mem → Prop) : Prop := (isK M a0 0 ∧ T_Ba_reduce a0 x1 a2 M (fun M3 => isK M3 a0 0 ∧ ∃ q7, gR M3 a0 2 = some q7 ∧ isK M3 q7 5 ∧ T_Ro_add q7 a2 M3 (fun r11 M11 => (r11 = 0 → (B_Ba_offer_27 post M11)) ∧ (¬ r11 = 0 → (isK M11 a0 0 ∧ ∃ q18, gR M11 a0 11 = some q18 ∧ isA M11 q18 8 x1 ∧ isA M11 q18 8 x1 ∧ B_Ba_offer_27 post (sI M11 q18 (Int32.toNatClampNeg x1) ((gI M11 q18 (Int32.toNatClampNeg x1)) + 1)))))))
set_option maxRecDepth 20000 in
theorem S_Ba_offer {l : Launch} {D : va_G} {B t : Nat} {ac : Nat → ClassId} (a0 : Nat) (x1 : Int32) (a2 : Nat) (M : Mem) (post : Mem → Prop) (h : T_Ba_offer a0 x1 a2 M post) : Met l y_Ba_offer w_Ba_offer rm_Ba_offer (va_Pc [.ref (B + a0), .int x1, .ref (B + a2)] (PRE D B t ac M)) (QV D B ac post) 0 0 (AB B) := by
  refine met_v (by decide +kernel) (Nat.le_of_ble_eq_true rfl) (fun x h1 hR h3 h4 h5 h6 C Rt Nm => ?_)
  subst h3 h4 h5 h6
  unfold T_Ba_offer at h
  show J x 3 0 [(0, .ref (xB x + a0)), (1, .int x1), (2, .ref (xB x + a2))] [] 0 0 M
  refine J_aload_n C 0 D_Ba_offer_0 rfl rfl ?_
  refine J_iload_n C 1 D_Ba_offer_1 rfl rfl ?_
  refine J_aload_n C 2 D_Ba_offer_2 rfl rfl ?_
  obtain ⟨c_3, h⟩ := h
  refine J_callVv C ml_Ba_91 (S_Ba_reduce _ _ _ _ _ h) (by rw [hR]; decide) rfl c_3 rfl (Nat.le_of_ble_eq_true rfl) D_Ba_offer_3 (fun M3 h => ?_)
  refine J_aload_n C 0 D_Ba_offer_6 rfl rfl ?_
  obtain ⟨c_7, q7, e_7, h⟩ := h
  refine J_getR C fl_Ba_48 D_Ba_offer_7 c_7 e_7 ?_
  refine J_aload_n C 2 D_Ba_offer_10 rfl rfl ?_
  obtain ⟨c_11, h⟩ := h
  refine J_callVi C ml_Ba_95 (S_Ro_add _ _ _ _ h) (by rw [hR]; decide) rfl c_11 rfl (Nat.le_of_ble_eq_true rfl) D_Ba_offer_11 (fun r11 M11 h => ?_)
  refine J_if_eq (tgt := 27) C D_Ba_offer_14 (by decide) (fun c_14 => ?_) (fun c_14 => ?_)
  · have h := h.1 c_14
    exact J_sub [] rfl (Z_Ba_offer_27 C hR Rt  _ h)
  · have h := h.2 c_14
    refine J_aload_n C 0 D_Ba_offer_17 rfl rfl ?_
    obtain ⟨c_18, q18, e_18, h⟩ := h
    refine J_getR C fl_Ba_33 D_Ba_offer_18 c_18 e_18 ?_
    refine J_iload_n C 1 D_Ba_offer_21 rfl rfl ?_
    refine J_dup2 C D_Ba_offer_22 rfl rfl ?_
    obtain ⟨c_23, h⟩ := h
    refine J_iald C D_Ba_offer_23 c_23 ?_
    refine J_iconst (v := 1) C D_Ba_offer_24 rfl ?_
    refine J_iadd C D_Ba_offer_25 ?_
    obtain ⟨c_26, h⟩ := h
    refine J_iast C D_Ba_offer_26 c_26 ?_
    exact J_sub [] rfl (Z_Ba_offer_27 C hR Rt  _ h)
end
section
theorem fl_Ba_30 : Fld "HeapTower$Base" 30 0 10 false true := ⟨R_Ba, F_Ba, 14, t_Ba, iw_Ba, rfl, by decide, rfl, rfl, by decide, rfl, (gw_in (List.mem_of_getElem? (i := 212) (by decide +kernel)) (by decide +kernel)), t_Ba_ok, n_Ba, rfl, (fun h => by cases h), fun _ => Or.inr ⟨_, rfl⟩⟩
theorem ml_Ba_102 : MLV "HeapTower$Base" 102 y_Ro_hasHead b_Ro_hasHead 2 (some .boolean) 1 5 := ⟨List.forall_mem_cons.mpr ⟨(gw_in (List.mem_of_getElem? (i := 611) (by decide +kernel)) (by decide +kernel)), List.forall_mem_cons.mpr ⟨(gw_in (List.mem_of_getElem? (i := 612) (by decide +kernel)) (by decide +kernel)), List.forall_mem_cons.mpr ⟨(gw_in (List.mem_of_getElem? (i := 613) (by decide +kernel)) (by decide +kernel)), List.forall_mem_cons.mpr ⟨(gw_in (List.mem_of_getElem? (i := 69) (by decide +kernel)) (by decide +kernel)), List.forall_mem_cons.mpr ⟨(gw_in (List.mem_of_getElem? (i := 614) (by decide +kernel)) (by decide +kernel)), fun _ h => absurd h List.not_mem_nil⟩⟩⟩⟩⟩, by decide, F_Ro, 8, rfl, by decide⟩
theorem ml_Ba_106 : MLV "HeapTower$Base" 106 y_Ba_append b_Ba_append 7 none 2 0 := ⟨List.forall_mem_cons.mpr ⟨(gw_in (List.mem_of_getElem? (i := 615) (by decide +kernel)) (by decide +kernel)), List.forall_mem_cons.mpr ⟨(gw_in (List.mem_of_getElem? (i := 617) (by decide +kernel)) (by decide +kernel)), List.forall_mem_cons.mpr ⟨(gw_in (List.mem_of_getElem? (i := 17) (by decide +kernel)) (by decide +kernel)), List.forall_mem_cons.mpr ⟨(gw_in (List.mem_of_getElem? (i := 71) (by decide +kernel)) (by decide +kernel)), List.forall_mem_cons.mpr ⟨(gw_in (List.mem_of_getElem? (i := 618) (by decide +kernel)) (by decide +kernel)), fun _ h => absurd h List.not_mem_nil⟩⟩⟩⟩⟩, by decide, F_Ba, 14, rfl, by decide⟩
theorem ml_Ba_110 : MLV "HeapTower$Base" 110 y_Ba_isStandard b_Ba_isStandard 3 (some .boolean) 2 0 := ⟨List.forall_mem_cons.mpr ⟨(gw_in (List.mem_of_getElem? (i := 623) (by decide +kernel)) (by decide +kernel)), List.forall_mem_cons.mpr ⟨(gw_in (List.mem_of_getElem? (i := 624) (by decide +kernel)) (by decide +kernel)), List.forall_mem_cons.mpr ⟨(gw_in (List.mem_of_getElem? (i := 625) (by decide +kernel)) (by decide +kernel)), List.forall_mem_cons.mpr ⟨(gw_in (List.mem_of_getElem? (i := 71) (by decide +kernel)) (by decide +kernel)), List.forall_mem_cons.mpr ⟨(gw_in (List.mem_of_getElem? (i := 626) (by decide +kernel)) (by decide +kernel)), fun _ h => absurd h List.not_mem_nil⟩⟩⟩⟩⟩, by decide, F_Ba, 14, rfl, by decide⟩
theorem ml_Ba_153 : MLV "HeapTower$Base" 153 y_Ro_numberAt b_Ro_numberAt 3 (some .int) 2 5 := ⟨List.forall_mem_cons.mpr ⟨(gw_in (List.mem_of_getElem? (i := 619) (by decide +kernel)) (by decide +kernel)), List.forall_mem_cons.mpr ⟨(gw_in (List.mem_of_getElem? (i := 620) (by decide +kernel)) (by decide +kernel)), List.forall_mem_cons.mpr ⟨(gw_in (List.mem_of_getElem? (i := 621) (by decide +kernel)) (by decide +kernel)), List.forall_mem_cons.mpr ⟨(gw_in (List.mem_of_getElem? (i := 69) (by decide +kernel)) (by decide +kernel)), List.forall_mem_cons.mpr ⟨(gw_in (List.mem_of_getElem? (i := 622) (by decide +kernel)) (by decide +kernel)), fun _ h => absurd h List.not_mem_nil⟩⟩⟩⟩⟩, by decide, F_Ro, 8, rfl, by decide⟩
theorem D_Ba_append_0 : decode b_Ba_append 0 = .ok (.aload_n 0, 1) := by decide +kernel
theorem D_Ba_append_1 : decode b_Ba_append 1 = .ok (.getfield 61, 3) := by decide +kernel
theorem D_Ba_append_4 : decode b_Ba_append 4 = .ok (.bipush 66, 2) := by decide +kernel
theorem D_Ba_append_6 : decode b_Ba_append 6 = .ok (.if_icmp .ge 29, 3) := by decide +kernel
theorem D_Ba_append_9 : decode b_Ba_append 9 = .ok (.aload_n 0, 1) := by decide +kernel
theorem D_Ba_append_10 : decode b_Ba_append 10 = .ok (.getfield 18, 3) := by decide +kernel
theorem D_Ba_append_13 : decode b_Ba_append 13 = .ok (.aload_n 0, 1) := by decide +kernel
theorem D_Ba_append_14 : decode b_Ba_append 14 = .ok (.getfield 61, 3) := by decide +kernel
theorem D_Ba_append_17 : decode b_Ba_append 17 = .ok (.iaload, 1) := by decide +kernel
theorem D_Ba_append_18 : decode b_Ba_append 18 = .ok (.aload_n 0, 1) := by decide +kernel
theorem D_Ba_append_19 : decode b_Ba_append 19 = .ok (.getfield 40, 3) := by decide +kernel
theorem D_Ba_append_22 : decode b_Ba_append 22 = .ok (.iload_n 1, 1) := by decide +kernel
theorem D_Ba_append_23 : decode b_Ba_append 23 = .ok (.invokevirtual 64, 3) := by decide +kernel
theorem D_Ba_append_26 : decode b_Ba_append 26 = .ok (.iadd, 1) := by decide +kernel
theorem D_Ba_append_27 : decode b_Ba_append 27 = .ok (.iload_n 2, 1) := by decide +kernel
theorem D_Ba_append_28 : decode b_Ba_append 28 = .ok (.isub, 1) := by decide +kernel
theorem D_Ba_append_29 : decode b_Ba_append 29 = .ok (.sipush 2560, 3) := by decide +kernel
theorem D_Ba_append_32 : decode b_Ba_append 32 = .ok (.if_icmp .le 4, 3) := by decide +kernel
theorem D_Ba_append_35 : decode b_Ba_append 35 = .ok (.return_, 1) := by decide +kernel
theorem D_Ba_append_36 : decode b_Ba_append 36 = .ok (.aload_n 0, 1) := by decide +kernel
theorem D_Ba_append_37 : decode b_Ba_append 37 = .ok (.getfield 40, 3) := by decide +kernel
theorem D_Ba_append_40 : decode b_Ba_append 40 = .ok (.iload_n 1, 1) := by decide +kernel
theorem D_Ba_append_41 : decode b_Ba_append 41 = .ok (.iload_n 2, 1) := by decide +kernel
theorem D_Ba_append_42 : decode b_Ba_append 42 = .ok (.invokevirtual 99, 3) := by decide +kernel
theorem D_Ba_append_45 : decode b_Ba_append 45 = .ok (.istore_n 3, 1) := by decide +kernel
theorem D_Ba_append_46 : decode b_Ba_append 46 = .ok (.aload_n 0, 1) := by decide +kernel
theorem D_Ba_append_47 : decode b_Ba_append 47 = .ok (.getfield 18, 3) := by decide +kernel
theorem D_Ba_append_50 : decode b_Ba_append 50 = .ok (.aload_n 0, 1) := by decide +kernel
theorem D_Ba_append_51 : decode b_Ba_append 51 = .ok (.getfield 61, 3) := by decide +kernel
theorem D_Ba_append_54 : decode b_Ba_append 54 = .ok (.iaload, 1) := by decide +kernel
theorem D_Ba_append_55 : decode b_Ba_append 55 = .ok (.istore 4, 2) := by decide +kernel
theorem D_Ba_append_57 : decode b_Ba_append 57 = .ok (.iload_n 2, 1) := by decide +kernel
theorem D_Ba_append_58 : decode b_Ba_append 58 = .ok (.istore 5, 2) := by decide +kernel
theorem D_Ba_append_60 : decode b_Ba_append 60 = .ok (.iload 5, 2) := by decide +kernel
theorem D_Ba_append_62 : decode b_Ba_append 62 = .ok (.aload_n 0, 1) := by decide +kernel
theorem D_Ba_append_63 : decode b_Ba_append 63 = .ok (.getfield 40, 3) := by decide +kernel
theorem D_Ba_append_66 : decode b_Ba_append 66 = .ok (.iload_n 1, 1) := by decide +kernel
theorem D_Ba_append_67 : decode b_Ba_append 67 = .ok (.invokevirtual 64, 3) := by decide +kernel
theorem D_Ba_append_70 : decode b_Ba_append 70 = .ok (.if_icmp .ge 63, 3) := by decide +kernel
theorem D_Ba_append_73 : decode b_Ba_append 73 = .ok (.aload_n 0, 1) := by decide +kernel
theorem D_Ba_append_74 : decode b_Ba_append 74 = .ok (.getfield 40, 3) := by decide +kernel
theorem D_Ba_append_77 : decode b_Ba_append 77 = .ok (.iload_n 1, 1) := by decide +kernel
theorem D_Ba_append_78 : decode b_Ba_append 78 = .ok (.iload 5, 2) := by decide +kernel
theorem D_Ba_append_80 : decode b_Ba_append 80 = .ok (.invokevirtual 99, 3) := by decide +kernel
theorem D_Ba_append_83 : decode b_Ba_append 83 = .ok (.istore 6, 2) := by decide +kernel
theorem D_Ba_append_85 : decode b_Ba_append 85 = .ok (.aload_n 0, 1) := by decide +kernel
theorem D_Ba_append_86 : decode b_Ba_append 86 = .ok (.getfield 48, 3) := by decide +kernel
theorem D_Ba_append_89 : decode b_Ba_append 89 = .ok (.iload_n 3, 1) := by decide +kernel
theorem D_Ba_append_90 : decode b_Ba_append 90 = .ok (.iload 6, 2) := by decide +kernel
theorem D_Ba_append_92 : decode b_Ba_append 92 = .ok (.invokevirtual 153, 3) := by decide +kernel
theorem D_Ba_append_95 : decode b_Ba_append 95 = .ok (.ifCond .eq 32, 3) := by decide +kernel
theorem D_Ba_append_98 : decode b_Ba_append 98 = .ok (.aload_n 0, 1) := by decide +kernel
theorem D_Ba_append_99 : decode b_Ba_append 99 = .ok (.getfield 11, 3) := by decide +kernel
theorem D_Ba_append_102 : decode b_Ba_append 102 = .ok (.iload 4, 2) := by decide +kernel
theorem D_Ba_append_104 : decode b_Ba_append 104 = .ok (.iload 6, 2) := by decide +kernel
theorem D_Ba_append_106 : decode b_Ba_append 106 = .ok (.iastore, 1) := by decide +kernel
theorem D_Ba_append_107 : decode b_Ba_append 107 = .ok (.aload_n 0, 1) := by decide +kernel
theorem D_Ba_append_108 : decode b_Ba_append 108 = .ok (.getfield 15, 3) := by decide +kernel
theorem D_Ba_append_111 : decode b_Ba_append 111 = .ok (.iload 4, 2) := by decide +kernel
theorem D_Ba_append_113 : decode b_Ba_append 113 = .ok (.aload_n 0, 1) := by decide +kernel
theorem D_Ba_append_114 : decode b_Ba_append 114 = .ok (.getfield 48, 3) := by decide +kernel
theorem D_Ba_append_117 : decode b_Ba_append 117 = .ok (.iload_n 3, 1) := by decide +kernel
theorem D_Ba_append_118 : decode b_Ba_append 118 = .ok (.iload 6, 2) := by decide +kernel
theorem D_Ba_append_120 : decode b_Ba_append 120 = .ok (.invokevirtual 153, 3) := by decide +kernel
theorem D_Ba_append_123 : decode b_Ba_append 123 = .ok (.iastore, 1) := by decide +kernel
theorem D_Ba_append_124 : decode b_Ba_append 124 = .ok (.iinc 4 1, 3) := by decide +kernel
theorem D_Ba_append_127 : decode b_Ba_append 127 = .ok (.iinc 5 1, 3) := by decide +kernel
theorem D_Ba_append_130 : decode b_Ba_append 130 = .ok (.goto (-70), 3) := by decide +kernel
theorem D_Ba_append_133 : decode b_Ba_append 133 = .ok (.aload_n 0, 1) := by decide +kernel
theorem D_Ba_append_134 : decode b_Ba_append 134 = .ok (.getfield 21, 3) := by decide +kernel
theorem D_Ba_append_137 : decode b_Ba_append 137 = .ok (.aload_n 0, 1) := by decide +kernel
theorem D_Ba_append_138 : decode b_Ba_append 138 = .ok (.getfield 61, 3) := by decide +kernel
theorem D_Ba_append_141 : decode b_Ba_append 141 = .ok (.iload_n 1, 1) := by decide +kernel
theorem D_Ba_append_142 : decode b_Ba_append 142 = .ok (.iastore, 1) := by decide +kernel
theorem D_Ba_append_143 : decode b_Ba_append 143 = .ok (.aload_n 0, 1) := by decide +kernel
theorem D_Ba_append_144 : decode b_Ba_append 144 = .ok (.dup, 1) := by decide +kernel
theorem D_Ba_append_145 : decode b_Ba_append 145 = .ok (.getfield 61, 3) := by decide +kernel
theorem D_Ba_append_148 : decode b_Ba_append 148 = .ok (.iconst 1, 1) := by decide +kernel
theorem D_Ba_append_149 : decode b_Ba_append 149 = .ok (.iadd, 1) := by decide +kernel
theorem D_Ba_append_150 : decode b_Ba_append 150 = .ok (.putfield 61, 3) := by decide +kernel
theorem D_Ba_append_153 : decode b_Ba_append 153 = .ok (.aload_n 0, 1) := by decide +kernel
theorem D_Ba_append_154 : decode b_Ba_append 154 = .ok (.getfield 18, 3) := by decide +kernel
theorem D_Ba_append_157 : decode b_Ba_append 157 = .ok (.aload_n 0, 1) := by decide +kernel
theorem D_Ba_append_158 : decode b_Ba_append 158 = .ok (.getfield 61, 3) := by decide +kernel
theorem D_Ba_append_161 : decode b_Ba_append 161 = .ok (.iload 4, 2) := by decide +kernel
theorem D_Ba_append_163 : decode b_Ba_append 163 = .ok (.iastore, 1) := by decide +kernel
theorem D_Ba_append_164 : decode b_Ba_append 164 = .ok (.aload_n 0, 1) := by decide +kernel
theorem D_Ba_append_165 : decode b_Ba_append 165 = .ok (.getfield 24, 3) := by decide +kernel
theorem D_Ba_append_168 : decode b_Ba_append 168 = .ok (.getstatic 70, 3) := by decide +kernel
theorem D_Ba_append_171 : decode b_Ba_append 171 = .ok (.iload_n 1, 1) := by decide +kernel
theorem D_Ba_append_172 : decode b_Ba_append 172 = .ok (.iaload, 1) := by decide +kernel
theorem D_Ba_append_173 : decode b_Ba_append 173 = .ok (.iload_n 3, 1) := by decide +kernel
theorem D_Ba_append_174 : decode b_Ba_append 174 = .ok (.iadd, 1) := by decide +kernel
theorem D_Ba_append_175 : decode b_Ba_append 175 = .ok (.aload_n 0, 1) := by decide +kernel
theorem D_Ba_append_176 : decode b_Ba_append 176 = .ok (.getfield 61, 3) := by decide +kernel
theorem D_Ba_append_179 : decode b_Ba_append 179 = .ok (.iastore, 1) := by decide +kernel
theorem D_Ba_append_180 : decode b_Ba_append 180 = .ok (.return_, 1) := by decide +kernel
abbrev rm_Ba_append : Room := { frames := 1, cells := 0, slots := 0, locals := 22 }
def B_Ba_append_127 (k60 : Nat → Int32 → Int32 → Int32 → Int32 → Mem → Prop) (post : Mem → Prop) (a0 : Nat) (x1 : Int32) (x3 : Int32) (x4 : Int32) (x5 : Int32) (M : Mem) : Prop := (k60 a0 x1 x3 x4 (x5 + 1) M)
set_option maxRecDepth 20000 in
theorem Z_Ba_append_127 {x : Ctx} {post : Mem → Prop} (C : Ok x b_Ba_append 7 "HeapTower$Base") (hR : xR x = rm_Ba_append) (Rt : RetV x post 0 0) {k60 : Nat → Int32 → Int32 → Int32 → Int32 → Mem → Prop} (K60 : ∀ (a0 : Nat) (x1 : Int32) (x3 : Int32) (x4 : Int32) (x5 : Int32) (M : Mem), k60 a0 x1 x3 x4 x5 M → J x 7 60 [(0, .ref (xB x + a0)), (1, .int x1), (3, .int x3), (4, .int x4), (5, .int x5)] [] 0 0 M) (a0 : Nat) (x1 : Int32) (x3 : Int32) (x4 : Int32) (x5 : Int32) (M : Mem) (h : B_Ba_append_127 k60 post a0 x1 x3 x4 x5 M) : J x 7 127 [(0, .ref (xB x + a0)), (1, .int x1), (3, .int x3), (4, .int x4), (5, .int x5)] [] 0 0 M := by
  unfold B_Ba_append_127 at h
  refine J_iinc (v := x5 + 1) (lv' := [(5, .int (x5 + 1)), (0, .ref (xB x + a0)), (1, .int x1), (3, .int x3), (4, .int x4)]) C 5 4 D_Ba_append_127 rfl rfl (by decide) rfl ?_
  refine J_goto (tgt := 60) C D_Ba_append_130 (by decide) ?_
  exact J_sub [1, 2, 3, 4, 0] rfl (K60 _ _ _ _ _ _ h)
def B_Ba_append_60 (k60 : Nat → Int32 → Int32 → Int32 → Int32 → Mem → Prop) (post : Mem → Prop) (a0 : Nat) (x1 : Int32) (x3 : Int32) (x4 : Int32) (x5 : Int32) (M : Mem) : Prop := (isK M a0 0 ∧ ∃ q63, gR M a0 0 = some q63 ∧ isK M q63 4 ∧ T_Pr_amount q63 x1 M (fun r67 M67 => (r67 ≤ x5 → (isK M67 a0 0 ∧ ∃ q134, gR M67 a0 7 = some q134 ∧ isK M67 a0 0 ∧ isA M67 q134 8 (gI M67 a0 13) ∧ isK (sI M67 q134 (Int32.toNatClampNeg (gI M67 a0 13)) x1) a0 0 ∧ isK (sI M67 q134 (Int32.toNatClampNeg (gI M67 a0 13)) x1) a0 0 ∧ isK (sI (sI M67 q134 (Int32.toNatClampNeg (gI M67 a0 13)) x1) a0 13 ((gI (sI M67 q134 (Int32.toNatClampNeg (gI M67 a0 13)) x1) a0 13) + 1)) a0 0 ∧ ∃ q154, gR (sI (sI M67 q134 (Int32.toNatClampNeg (gI M67 a0 13)) x1) a0 13 ((gI (sI M67 q134 (Int32.toNatClampNeg (gI M67 a0 13)) x1) a0 13) + 1)) a0 6 = some q154 ∧ isK (sI (sI M67 q134 (Int32.toNatClampNeg (gI M67 a0 13)) x1) a0 13 ((gI (sI M67 q134 (Int32.toNatClampNeg (gI M67 a0 13)) x1) a0 13) + 1)) a0 0 ∧ isA (sI (sI M67 q134 (Int32.toNatClampNeg (gI M67 a0 13)) x1) a0 13 ((gI (sI M67 q134 (Int32.toNatClampNeg (gI M67 a0 13)) x1) a0 13) + 1)) q154 8 (gI (sI (sI M67 q134 (Int32.toNatClampNeg (gI M67 a0 13)) x1) a0 13 ((gI (sI M67 q134 (Int32.toNatClampNeg (gI M67 a0 13)) x1) a0 13) + 1)) a0 13) ∧ isK (sI (sI (sI M67 q134 (Int32.toNatClampNeg (gI M67 a0 13)) x1) a0 13 ((gI (sI M67 q134 (Int32.toNatClampNeg (gI M67 a0 13)) x1) a0 13) + 1)) q154 (Int32.toNatClampNeg (gI (sI (sI M67 q134 (Int32.toNatClampNeg (gI M67 a0 13)) x1) a0 13 ((gI (sI M67 q134 (Int32.toNatClampNeg (gI M67 a0 13)) x1) a0 13) + 1)) a0 13)) x4) a0 0 ∧ ∃ q165, gR (sI (sI (sI M67 q134 (Int32.toNatClampNeg (gI M67 a0 13)) x1) a0 13 ((gI (sI M67 q134 (Int32.toNatClampNeg (gI M67 a0 13)) x1) a0 13) + 1)) q154 (Int32.toNatClampNeg (gI (sI (sI M67 q134 (Int32.toNatClampNeg (gI M67 a0 13)) x1) a0 13 ((gI (sI M67 q134 (Int32.toNatClampNeg (gI M67 a0 13)) x1) a0 13) + 1)) a0 13)) x4) a0 8 = some q165 ∧ vp_in x1 12 ∧ isK (sI (sI (sI M67 q134 (Int32.toNatClampNeg (gI M67 a0 13)) x1) a0 13 ((gI (sI M67 q134 (Int32.toNatClampNeg (gI M67 a0 13)) x1) a0 13) + 1)) q154 (Int32.toNatClampNeg (gI (sI (sI M67 q134 (Int32.toNatClampNeg (gI M67 a0 13)) x1) a0 13 ((gI (sI M67 q134 (Int32.toNatClampNeg (gI M67 a0 13)) x1) a0 13) + 1)) a0 13)) x4) a0 0 ∧ isA (sI (sI (sI M67 q134 (Int32.toNatClampNeg (gI M67 a0 13)) x1) a0 13 ((gI (sI M67 q134 (Int32.toNatClampNeg (gI M67 a0 13)) x1) a0 13) + 1)) q154 (Int32.toNatClampNeg (gI (sI (sI M67 q134 (Int32.toNatClampNeg (gI M67 a0 13)) x1) a0 13 ((gI (sI M67 q134 (Int32.toNatClampNeg (gI M67 a0 13)) x1) a0 13) + 1)) a0 13)) x4) q165 8 ((fst (Int32.toNatClampNeg x1)) + x3) ∧ post (sI (sI (sI (sI M67 q134 (Int32.toNatClampNeg (gI M67 a0 13)) x1) a0 13 ((gI (sI M67 q134 (Int32.toNatClampNeg (gI M67 a0 13)) x1) a0 13) + 1)) q154 (Int32.toNatClampNeg (gI (sI (sI M67 q134 (Int32.toNatClampNeg (gI M67 a0 13)) x1) a0 13 ((gI (sI M67 q134 (Int32.toNatClampNeg (gI M67 a0 13)) x1) a0 13) + 1)) a0 13)) x4) q165 (Int32.toNatClampNeg ((fst (Int32.toNatClampNeg x1)) + x3)) (gI (sI (sI (sI M67 q134 (Int32.toNatClampNeg (gI M67 a0 13)) x1) a0 13 ((gI (sI M67 q134 (Int32.toNatClampNeg (gI M67 a0 13)) x1) a0 13) + 1)) q154 (Int32.toNatClampNeg (gI (sI (sI M67 q134 (Int32.toNatClampNeg (gI M67 a0 13)) x1) a0 13 ((gI (sI M67 q134 (Int32.toNatClampNeg (gI M67 a0 13)) x1) a0 13) + 1)) a0 13)) x4) a0 13)))) ∧ (¬ r67 ≤ x5 → (isK M67 a0 0 ∧ ∃ q74, gR M67 a0 0 = some q74 ∧ isK M67 q74 4 ∧ T_Pr_at q74 x1 x5 M67 (fun r80 M80 => isK M80 a0 0 ∧ ∃ q86, gR M80 a0 2 = some q86 ∧ isK M80 q86 5 ∧ T_Ro_numberAt q86 x3 r80 M80 (fun r92 M92 => (r92 = 0 → (B_Ba_append_127 k60 post a0 x1 x3 x4 x5 M92)) ∧ (¬ r92 = 0 → (isK M92 a0 0 ∧ ∃ q99, gR M92 a0 4 = some q99 ∧ isA M92 q99 8 x4 ∧ isK (sI M92 q99 (Int32.toNatClampNeg x4) r80) a0 0 ∧ ∃ q108, gR (sI M92 q99 (Int32.toNatClampNeg x4) r80) a0 5 = some q108 ∧ isK (sI M92 q99 (Int32.toNatClampNeg x4) r80) a0 0 ∧ ∃ q114, gR (sI M92 q99 (Int32.toNatClampNeg x4) r80) a0 2 = some q114 ∧ isK (sI M92 q99 (Int32.toNatClampNeg x4) r80) q114 5 ∧ T_Ro_numberAt q114 x3 r80 (sI M92 q99 (Int32.toNatClampNeg x4) r80) (fun r120 M120 => isA M120 q108 8 x4 ∧ B_Ba_append_127 k60 post a0 x1 x3 (x4 + 1) x5 (sI M120 q108 (Int32.toNatClampNeg x4) r120))))))))))
set_option maxRecDepth 20000 in
theorem Z_Ba_append_60 {x : Ctx} {post : Mem → Prop} (C : Ok x b_Ba_append 7 "HeapTower$Base") (hR : xR x = rm_Ba_append) (Rt : RetV x post 0 0) {k60 : Nat → Int32 → Int32 → Int32 → Int32 → Mem → Prop} (K60 : ∀ (a0 : Nat) (x1 : Int32) (x3 : Int32) (x4 : Int32) (x5 : Int32) (M : Mem), k60 a0 x1 x3 x4 x5 M → J x 7 60 [(0, .ref (xB x + a0)), (1, .int x1), (3, .int x3), (4, .int x4), (5, .int x5)] [] 0 0 M) (a0 : Nat) (x1 : Int32) (x3 : Int32) (x4 : Int32) (x5 : Int32) (M : Mem) (h : B_Ba_append_60 k60 post a0 x1 x3 x4 x5 M) : J x 7 60 [(0, .ref (xB x + a0)), (1, .int x1), (3, .int x3), (4, .int x4), (5, .int x5)] [] 0 0 M := by
  unfold B_Ba_append_60 at h
  refine J_iload C 5 D_Ba_append_60 rfl ?_
  refine J_aload_n C 0 D_Ba_append_62 rfl rfl ?_
  obtain ⟨c_63, q63, e_63, h⟩ := h
  refine J_getR C fl_Ba_40 D_Ba_append_63 c_63 e_63 ?_
  refine J_iload_n C 1 D_Ba_append_66 rfl rfl ?_
  obtain ⟨c_67, h⟩ := h
  refine J_callVi C ml_Ba_64 (S_Pr_amount _ _ _ _ h) (by rw [hR]; decide) rfl c_67 rfl (Nat.le_of_ble_eq_true rfl) D_Ba_append_67 (fun r67 M67 h => ?_)
  refine J_icmp_ge (tgt := 133) C D_Ba_append_70 (by decide) (fun c_70 => ?_) (fun c_70 => ?_)
  · have h := h.1 c_70
    refine J_aload_n C 0 D_Ba_append_133 rfl rfl ?_
    obtain ⟨c_134, q134, e_134, h⟩ := h
    refine J_getR C fl_Ba_21 D_Ba_append_134 c_134 e_134 ?_
    refine J_aload_n C 0 D_Ba_append_137 rfl rfl ?_
    obtain ⟨c_138, h⟩ := h
    refine J_getI C fl_Ba_61 D_Ba_append_138 c_138 ?_
    refine J_iload_n C 1 D_Ba_append_141 rfl rfl ?_
    obtain ⟨c_142, h⟩ := h
    refine J_iast C D_Ba_append_142 c_142 ?_
    refine J_aload_n C 0 D_Ba_append_143 rfl rfl ?_
    refine J_dup C D_Ba_append_144 rfl ?_
    obtain ⟨c_145, h⟩ := h
    refine J_getI C fl_Ba_61 D_Ba_append_145 c_145 ?_
    refine J_iconst (v := 1) C D_Ba_append_148 rfl ?_
    refine J_iadd C D_Ba_append_149 ?_
    obtain ⟨c_150, h⟩ := h
    refine J_putI C fl_Ba_61 D_Ba_append_150 c_150 ?_
    refine J_aload_n C 0 D_Ba_append_153 rfl rfl ?_
    obtain ⟨c_154, q154, e_154, h⟩ := h
    refine J_getR C fl_Ba_18 D_Ba_append_154 c_154 e_154 ?_
    refine J_aload_n C 0 D_Ba_append_157 rfl rfl ?_
    obtain ⟨c_158, h⟩ := h
    refine J_getI C fl_Ba_61 D_Ba_append_158 c_158 ?_
    refine J_iload C 4 D_Ba_append_161 rfl ?_
    obtain ⟨c_163, h⟩ := h
    refine J_iast C D_Ba_append_163 c_163 ?_
    refine J_aload_n C 0 D_Ba_append_164 rfl rfl ?_
    obtain ⟨c_165, q165, e_165, h⟩ := h
    refine J_getR C fl_Ba_24 D_Ba_append_165 c_165 e_165 ?_
    refine J_first C (by decide) D_Ba_append_168 ?_
    refine J_iload_n C 1 D_Ba_append_171 rfl rfl ?_
    obtain ⟨c_172, h⟩ := h
    refine J_fald C D_Ba_append_172 c_172 ?_
    refine J_iload_n C 3 D_Ba_append_173 rfl rfl ?_
    refine J_iadd C D_Ba_append_174 ?_
    refine J_aload_n C 0 D_Ba_append_175 rfl rfl ?_
    obtain ⟨c_176, h⟩ := h
    refine J_getI C fl_Ba_61 D_Ba_append_176 c_176 ?_
    obtain ⟨c_179, h⟩ := h
    refine J_iast C D_Ba_append_179 c_179 ?_
    exact J_vret C Rt D_Ba_append_180 h
  · have h := h.2 c_70
    refine J_aload_n C 0 D_Ba_append_73 rfl rfl ?_
    obtain ⟨c_74, q74, e_74, h⟩ := h
    refine J_getR C fl_Ba_40 D_Ba_append_74 c_74 e_74 ?_
    refine J_iload_n C 1 D_Ba_append_77 rfl rfl ?_
    refine J_iload C 5 D_Ba_append_78 rfl ?_
    obtain ⟨c_80, h⟩ := h
    refine J_callVi C ml_Ba_99 (S_Pr_at _ _ _ _ _ h) (by rw [hR]; decide) rfl c_80 rfl (Nat.le_of_ble_eq_true rfl) D_Ba_append_80 (fun r80 M80 h => ?_)
    refine J_istore (lv' := [(6, .int r80), (0, .ref (xB x + a0)), (1, .int x1), (3, .int x3), (4, .int x4), (5, .int x5)]) C 6 D_Ba_append_83 (by decide) rfl ?_
    refine J_aload_n C 0 D_Ba_append_85 rfl rfl ?_
    obtain ⟨c_86, q86, e_86, h⟩ := h
    refine J_getR C fl_Ba_48 D_Ba_append_86 c_86 e_86 ?_
    refine J_iload_n C 3 D_Ba_append_89 rfl rfl ?_
    refine J_iload C 6 D_Ba_append_90 rfl ?_
    obtain ⟨c_92, h⟩ := h
    refine J_callVi C ml_Ba_153 (S_Ro_numberAt _ _ _ _ _ h) (by rw [hR]; decide) rfl c_92 rfl (Nat.le_of_ble_eq_true rfl) D_Ba_append_92 (fun r92 M92 h => ?_)
    refine J_if_eq (tgt := 127) C D_Ba_append_95 (by decide) (fun c_95 => ?_) (fun c_95 => ?_)
    · have h := h.1 c_95
      exact J_sub [1, 2, 3, 4, 5] rfl (Z_Ba_append_127 C hR Rt K60 _ _ _ _ _ _ h)
    · have h := h.2 c_95
      refine J_aload_n C 0 D_Ba_append_98 rfl rfl ?_
      obtain ⟨c_99, q99, e_99, h⟩ := h
      refine J_getR C fl_Ba_11 D_Ba_append_99 c_99 e_99 ?_
      refine J_iload C 4 D_Ba_append_102 rfl ?_
      refine J_iload C 6 D_Ba_append_104 rfl ?_
      obtain ⟨c_106, h⟩ := h
      refine J_iast C D_Ba_append_106 c_106 ?_
      refine J_aload_n C 0 D_Ba_append_107 rfl rfl ?_
      obtain ⟨c_108, q108, e_108, h⟩ := h
      refine J_getR C fl_Ba_15 D_Ba_append_108 c_108 e_108 ?_
      refine J_iload C 4 D_Ba_append_111 rfl ?_
      refine J_aload_n C 0 D_Ba_append_113 rfl rfl ?_
      obtain ⟨c_114, q114, e_114, h⟩ := h
      refine J_getR C fl_Ba_48 D_Ba_append_114 c_114 e_114 ?_
      refine J_iload_n C 3 D_Ba_append_117 rfl rfl ?_
      refine J_iload C 6 D_Ba_append_118 rfl ?_
      obtain ⟨c_120, h⟩ := h
      refine J_callVi C ml_Ba_153 (S_Ro_numberAt _ _ _ _ _ h) (by rw [hR]; decide) rfl c_120 rfl (Nat.le_of_ble_eq_true rfl) D_Ba_append_120 (fun r120 M120 h => ?_)
      obtain ⟨c_123, h⟩ := h
      refine J_iast C D_Ba_append_123 c_123 ?_
      refine J_iinc (v := x4 + 1) (lv' := [(4, .int (x4 + 1)), (6, .int r80), (0, .ref (xB x + a0)), (1, .int x1), (3, .int x3), (5, .int x5)]) C 4 4 D_Ba_append_124 rfl rfl (by decide) rfl ?_
      exact J_sub [2, 3, 4, 0, 5] rfl (Z_Ba_append_127 C hR Rt K60 _ _ _ _ _ _ h)
def L_Ba_append_60 (post : Mem → Prop) : Nat → Nat → Int32 → Int32 → Int32 → Int32 → Mem → Prop
  | 0, _, _, _, _, _, _ => False
  | n + 1, a0, x1, x3, x4, x5, M => B_Ba_append_60 (L_Ba_append_60 post n) post a0 x1 x3 x4 x5 M
theorem Y_Ba_append_60 {x : Ctx} {post : Mem → Prop} (C : Ok x b_Ba_append 7 "HeapTower$Base") (hR : xR x = rm_Ba_append) (Rt : RetV x post 0 0) : ∀ (n : Nat) (a0 : Nat) (x1 : Int32) (x3 : Int32) (x4 : Int32) (x5 : Int32) (M : Mem), L_Ba_append_60 post n a0 x1 x3 x4 x5 M → J x 7 60 [(0, .ref (xB x + a0)), (1, .int x1), (3, .int x3), (4, .int x4), (5, .int x5)] [] 0 0 M := by
  intro n
  induction n with
  | zero => intro a0 x1 x3 x4 x5 M h; exact h.elim
  | succ n ih => intro a0 x1 x3 x4 x5 M h; exact Z_Ba_append_60 C hR Rt ih _ _ _ _ _ _ h
def B_Ba_append_35 (post : Mem → Prop) (M : Mem) : Prop := (post M)
set_option maxRecDepth 20000 in
theorem Z_Ba_append_35 {x : Ctx} {post : Mem → Prop} (C : Ok x b_Ba_append 7 "HeapTower$Base") (hR : xR x = rm_Ba_append) (Rt : RetV x post 0 0) (M : Mem) (h : B_Ba_append_35 post M) : J x 7 35 [] [] 0 0 M := by
  unfold B_Ba_append_35 at h
  exact J_vret C Rt D_Ba_append_35 h
def T_Ba_append (a0 : Nat) (x1 : Int32) (x2 : Int32) (M : Mem) (post : Mem → Prop) : Prop := (isK M a0 0 ∧ (66 ≤ (gI M a0 13) → (B_Ba_append_35 post M)) ∧ (¬ 66 ≤ (gI M a0 13) → (isK M a0 0 ∧ ∃ q10, gR M a0 6 = some q10 ∧ isK M a0 0 ∧ isA M q10 8 (gI M a0 13) ∧ isK M a0 0 ∧ ∃ q19, gR M a0 0 = some q19 ∧ isK M q19 4 ∧ T_Pr_amount q19 x1 M (fun r23 M23 => ((((gI M q10 (Int32.toNatClampNeg (gI M a0 13))) + r23) - x2) ≤ 2560 → (isK M23 a0 0 ∧ ∃ q37, gR M23 a0 0 = some q37 ∧ isK M23 q37 4 ∧ T_Pr_at q37 x1 x2 M23 (fun r42 M42 => isK M42 a0 0 ∧ ∃ q47, gR M42 a0 6 = some q47 ∧ isK M42 a0 0 ∧ isA M42 q47 8 (gI M42 a0 13) ∧ ∃ n, L_Ba_append_60 post n a0 x1 r42 (gI M42 q47 (Int32.toNatClampNeg (gI M42 a0 13))) x2 M42))) ∧ (¬ (((gI M q10 (Int32.toNatClampNeg (gI M a0 13))) + r23) - x2) ≤ 2560 → (B_Ba_append_35 post M23))))))
set_option maxRecDepth 20000 in
theorem S_Ba_append {l : Launch} {D : va_G} {B t : Nat} {ac : Nat → ClassId} (a0 : Nat) (x1 : Int32) (x2 : Int32) (M : Mem) (post : Mem → Prop) (h : T_Ba_append a0 x1 x2 M post) : Met l y_Ba_append w_Ba_append rm_Ba_append (va_Pc [.ref (B + a0), .int x1, .int x2] (PRE D B t ac M)) (QV D B ac post) 0 0 (AB B) := by
  refine met_v (by decide +kernel) (Nat.le_of_ble_eq_true rfl) (fun x h1 hR h3 h4 h5 h6 C Rt Nm => ?_)
  subst h3 h4 h5 h6
  unfold T_Ba_append at h
  show J x 7 0 [(0, .ref (xB x + a0)), (1, .int x1), (2, .int x2)] [] 0 0 M
  refine J_aload_n C 0 D_Ba_append_0 rfl rfl ?_
  obtain ⟨c_1, h⟩ := h
  refine J_getI C fl_Ba_61 D_Ba_append_1 c_1 ?_
  refine J_bipush (v := 66) C D_Ba_append_4 rfl ?_
  refine J_icmp_ge (tgt := 35) C D_Ba_append_6 (by decide) (fun c_6 => ?_) (fun c_6 => ?_)
  · have h := h.1 c_6
    exact J_sub [] rfl (Z_Ba_append_35 C hR Rt  _ h)
  · have h := h.2 c_6
    refine J_aload_n C 0 D_Ba_append_9 rfl rfl ?_
    obtain ⟨c_10, q10, e_10, h⟩ := h
    refine J_getR C fl_Ba_18 D_Ba_append_10 c_10 e_10 ?_
    refine J_aload_n C 0 D_Ba_append_13 rfl rfl ?_
    obtain ⟨c_14, h⟩ := h
    refine J_getI C fl_Ba_61 D_Ba_append_14 c_14 ?_
    obtain ⟨c_17, h⟩ := h
    refine J_iald C D_Ba_append_17 c_17 ?_
    refine J_aload_n C 0 D_Ba_append_18 rfl rfl ?_
    obtain ⟨c_19, q19, e_19, h⟩ := h
    refine J_getR C fl_Ba_40 D_Ba_append_19 c_19 e_19 ?_
    refine J_iload_n C 1 D_Ba_append_22 rfl rfl ?_
    obtain ⟨c_23, h⟩ := h
    refine J_callVi C ml_Ba_64 (S_Pr_amount _ _ _ _ h) (by rw [hR]; decide) rfl c_23 rfl (Nat.le_of_ble_eq_true rfl) D_Ba_append_23 (fun r23 M23 h => ?_)
    refine J_iadd C D_Ba_append_26 ?_
    refine J_iload_n C 2 D_Ba_append_27 rfl rfl ?_
    refine J_isub C D_Ba_append_28 ?_
    refine J_sipush (v := 2560) C D_Ba_append_29 rfl ?_
    refine J_icmp_le (tgt := 36) C D_Ba_append_32 (by decide) (fun c_32 => ?_) (fun c_32 => ?_)
    · have h := h.1 c_32
      refine J_aload_n C 0 D_Ba_append_36 rfl rfl ?_
      obtain ⟨c_37, q37, e_37, h⟩ := h
      refine J_getR C fl_Ba_40 D_Ba_append_37 c_37 e_37 ?_
      refine J_iload_n C 1 D_Ba_append_40 rfl rfl ?_
      refine J_iload_n C 2 D_Ba_append_41 rfl rfl ?_
      obtain ⟨c_42, h⟩ := h
      refine J_callVi C ml_Ba_99 (S_Pr_at _ _ _ _ _ h) (by rw [hR]; decide) rfl c_42 rfl (Nat.le_of_ble_eq_true rfl) D_Ba_append_42 (fun r42 M42 h => ?_)
      refine J_istore_n (lv' := [(3, .int r42), (0, .ref (xB x + a0)), (1, .int x1), (2, .int x2)]) C 3 D_Ba_append_45 rfl (by decide) rfl ?_
      refine J_aload_n C 0 D_Ba_append_46 rfl rfl ?_
      obtain ⟨c_47, q47, e_47, h⟩ := h
      refine J_getR C fl_Ba_18 D_Ba_append_47 c_47 e_47 ?_
      refine J_aload_n C 0 D_Ba_append_50 rfl rfl ?_
      obtain ⟨c_51, h⟩ := h
      refine J_getI C fl_Ba_61 D_Ba_append_51 c_51 ?_
      obtain ⟨c_54, h⟩ := h
      refine J_iald C D_Ba_append_54 c_54 ?_
      refine J_istore (lv' := [(4, .int (gI M42 q47 (Int32.toNatClampNeg (gI M42 a0 13)))), (3, .int r42), (0, .ref (xB x + a0)), (1, .int x1), (2, .int x2)]) C 4 D_Ba_append_55 (by decide) rfl ?_
      refine J_iload_n C 2 D_Ba_append_57 rfl rfl ?_
      refine J_istore (lv' := [(5, .int x2), (4, .int (gI M42 q47 (Int32.toNatClampNeg (gI M42 a0 13)))), (3, .int r42), (0, .ref (xB x + a0)), (1, .int x1), (2, .int x2)]) C 5 D_Ba_append_58 (by decide) rfl ?_
      obtain ⟨n, h⟩ := h
      exact J_sub [3, 4, 2, 1, 0] rfl (Y_Ba_append_60 C hR Rt  n _ _ _ _ _ _ h)
    · have h := h.2 c_32
      exact J_sub [] rfl (Z_Ba_append_35 C hR Rt  _ h)
theorem D_Ba_isStandard_0 : decode b_Ba_isStandard 0 = .ok (.aload_n 0, 1) := by decide +kernel
theorem D_Ba_isStandard_1 : decode b_Ba_isStandard 1 = .ok (.getfield 24, 3) := by decide +kernel
theorem D_Ba_isStandard_4 : decode b_Ba_isStandard 4 = .ok (.getstatic 70, 3) := by decide +kernel
theorem D_Ba_isStandard_7 : decode b_Ba_isStandard 7 = .ok (.iload_n 1, 1) := by decide +kernel
theorem D_Ba_isStandard_8 : decode b_Ba_isStandard 8 = .ok (.iaload, 1) := by decide +kernel
theorem D_Ba_isStandard_9 : decode b_Ba_isStandard 9 = .ok (.iload_n 2, 1) := by decide +kernel
theorem D_Ba_isStandard_10 : decode b_Ba_isStandard 10 = .ok (.iadd, 1) := by decide +kernel
theorem D_Ba_isStandard_11 : decode b_Ba_isStandard 11 = .ok (.iaload, 1) := by decide +kernel
theorem D_Ba_isStandard_12 : decode b_Ba_isStandard 12 = .ok (.ifCond .ne 7, 3) := by decide +kernel
theorem D_Ba_isStandard_15 : decode b_Ba_isStandard 15 = .ok (.iconst 1, 1) := by decide +kernel
theorem D_Ba_isStandard_16 : decode b_Ba_isStandard 16 = .ok (.goto 4, 3) := by decide +kernel
theorem D_Ba_isStandard_19 : decode b_Ba_isStandard 19 = .ok (.iconst 0, 1) := by decide +kernel
theorem D_Ba_isStandard_20 : decode b_Ba_isStandard 20 = .ok (.ireturn, 1) := by decide +kernel
abbrev rm_Ba_isStandard : Room := { frames := 0, cells := 0, slots := 0, locals := 0 }
def B_Ba_isStandard_20 (post : Int32 → Mem → Prop) (s0 : Int32) (M : Mem) : Prop := (narrow .boolean (.int s0) = .int s0 ∧ post s0 M)
set_option maxRecDepth 20000 in
theorem Z_Ba_isStandard_20 {x : Ctx} {post : Int32 → Mem → Prop} (C : Ok x b_Ba_isStandard 3 "HeapTower$Base") (hR : xR x = rm_Ba_isStandard) (Rt : RetI x .boolean post 0 0) (s0 : Int32) (M : Mem) (h : B_Ba_isStandard_20 post s0 M) : J x 3 20 [] [.int s0] 0 0 M := by
  unfold B_Ba_isStandard_20 at h
  obtain ⟨c_20, h⟩ := h
  exact J_iret C Rt D_Ba_isStandard_20 c_20 h
def T_Ba_isStandard (a0 : Nat) (x1 : Int32) (x2 : Int32) (M : Mem) (post : Int32 → Mem → Prop) : Prop := (isK M a0 0 ∧ ∃ q1, gR M a0 8 = some q1 ∧ vp_in x1 12 ∧ isA M q1 8 ((fst (Int32.toNatClampNeg x1)) + x2) ∧ (¬ (gI M q1 (Int32.toNatClampNeg ((fst (Int32.toNatClampNeg x1)) + x2))) = 0 → (B_Ba_isStandard_20 post 0 M)) ∧ ((gI M q1 (Int32.toNatClampNeg ((fst (Int32.toNatClampNeg x1)) + x2))) = 0 → (B_Ba_isStandard_20 post 1 M)))
set_option maxRecDepth 20000 in
theorem S_Ba_isStandard {l : Launch} {D : va_G} {B t : Nat} {ac : Nat → ClassId} (a0 : Nat) (x1 : Int32) (x2 : Int32) (M : Mem) (post : Int32 → Mem → Prop) (h : T_Ba_isStandard a0 x1 x2 M post) : Met l y_Ba_isStandard w_Ba_isStandard rm_Ba_isStandard (va_Pc [.ref (B + a0), .int x1, .int x2] (PRE D B t ac M)) (QI D B ac post) 0 0 (AB B) := by
  refine met_i (by decide +kernel) (Nat.le_of_ble_eq_true rfl) (fun x h1 hR h3 h4 h5 h6 C Rt => ?_)
  subst h3 h4 h5 h6
  unfold T_Ba_isStandard at h
  show J x 3 0 [(0, .ref (xB x + a0)), (1, .int x1), (2, .int x2)] [] 0 0 M
  refine J_aload_n C 0 D_Ba_isStandard_0 rfl rfl ?_
  obtain ⟨c_1, q1, e_1, h⟩ := h
  refine J_getR C fl_Ba_24 D_Ba_isStandard_1 c_1 e_1 ?_
  refine J_first C (by decide) D_Ba_isStandard_4 ?_
  refine J_iload_n C 1 D_Ba_isStandard_7 rfl rfl ?_
  obtain ⟨c_8, h⟩ := h
  refine J_fald C D_Ba_isStandard_8 c_8 ?_
  refine J_iload_n C 2 D_Ba_isStandard_9 rfl rfl ?_
  refine J_iadd C D_Ba_isStandard_10 ?_
  obtain ⟨c_11, h⟩ := h
  refine J_iald C D_Ba_isStandard_11 c_11 ?_
  refine J_if_ne (tgt := 19) C D_Ba_isStandard_12 (by decide) (fun c_12 => ?_) (fun c_12 => ?_)
  · have h := h.1 c_12
    refine J_iconst (v := 0) C D_Ba_isStandard_19 rfl ?_
    exact J_sub [] rfl (Z_Ba_isStandard_20 C hR Rt  _ _ h)
  · have h := h.2 c_12
    refine J_iconst (v := 1) C D_Ba_isStandard_15 rfl ?_
    refine J_goto (tgt := 20) C D_Ba_isStandard_16 (by decide) ?_
    exact J_sub [] rfl (Z_Ba_isStandard_20 C hR Rt  _ _ h)
theorem D_Ba_close_0 : decode b_Ba_close 0 = .ok (.iconst 0, 1) := by decide +kernel
theorem D_Ba_close_1 : decode b_Ba_close 1 = .ok (.istore_n 2, 1) := by decide +kernel
theorem D_Ba_close_2 : decode b_Ba_close 2 = .ok (.aload_n 0, 1) := by decide +kernel
theorem D_Ba_close_3 : decode b_Ba_close 3 = .ok (.getfield 40, 3) := by decide +kernel
theorem D_Ba_close_6 : decode b_Ba_close 6 = .ok (.iload_n 1, 1) := by decide +kernel
theorem D_Ba_close_7 : decode b_Ba_close 7 = .ok (.invokevirtual 64, 3) := by decide +kernel
theorem D_Ba_close_10 : decode b_Ba_close 10 = .ok (.iconst 1, 1) := by decide +kernel
theorem D_Ba_close_11 : decode b_Ba_close 11 = .ok (.isub, 1) := by decide +kernel
theorem D_Ba_close_12 : decode b_Ba_close 12 = .ok (.istore_n 3, 1) := by decide +kernel
theorem D_Ba_close_13 : decode b_Ba_close 13 = .ok (.iload_n 3, 1) := by decide +kernel
theorem D_Ba_close_14 : decode b_Ba_close 14 = .ok (.ifCond .lt 59, 3) := by decide +kernel
theorem D_Ba_close_17 : decode b_Ba_close 17 = .ok (.aload_n 0, 1) := by decide +kernel
theorem D_Ba_close_18 : decode b_Ba_close 18 = .ok (.getfield 48, 3) := by decide +kernel
theorem D_Ba_close_21 : decode b_Ba_close 21 = .ok (.aload_n 0, 1) := by decide +kernel
theorem D_Ba_close_22 : decode b_Ba_close 22 = .ok (.getfield 40, 3) := by decide +kernel
theorem D_Ba_close_25 : decode b_Ba_close 25 = .ok (.iload_n 1, 1) := by decide +kernel
theorem D_Ba_close_26 : decode b_Ba_close 26 = .ok (.iload_n 3, 1) := by decide +kernel
theorem D_Ba_close_27 : decode b_Ba_close 27 = .ok (.invokevirtual 99, 3) := by decide +kernel
theorem D_Ba_close_30 : decode b_Ba_close 30 = .ok (.invokevirtual 102, 3) := by decide +kernel
theorem D_Ba_close_33 : decode b_Ba_close 33 = .ok (.ifCond .eq 9, 3) := by decide +kernel
theorem D_Ba_close_36 : decode b_Ba_close 36 = .ok (.aload_n 0, 1) := by decide +kernel
theorem D_Ba_close_37 : decode b_Ba_close 37 = .ok (.iload_n 1, 1) := by decide +kernel
theorem D_Ba_close_38 : decode b_Ba_close 38 = .ok (.iload_n 3, 1) := by decide +kernel
theorem D_Ba_close_39 : decode b_Ba_close 39 = .ok (.invokevirtual 106, 3) := by decide +kernel
theorem D_Ba_close_42 : decode b_Ba_close 42 = .ok (.iload_n 2, 1) := by decide +kernel
theorem D_Ba_close_43 : decode b_Ba_close 43 = .ok (.aload_n 0, 1) := by decide +kernel
theorem D_Ba_close_44 : decode b_Ba_close 44 = .ok (.iload_n 1, 1) := by decide +kernel
theorem D_Ba_close_45 : decode b_Ba_close 45 = .ok (.aload_n 0, 1) := by decide +kernel
theorem D_Ba_close_46 : decode b_Ba_close 46 = .ok (.getfield 40, 3) := by decide +kernel
theorem D_Ba_close_49 : decode b_Ba_close 49 = .ok (.iload_n 1, 1) := by decide +kernel
theorem D_Ba_close_50 : decode b_Ba_close 50 = .ok (.iload_n 3, 1) := by decide +kernel
theorem D_Ba_close_51 : decode b_Ba_close 51 = .ok (.invokevirtual 99, 3) := by decide +kernel
theorem D_Ba_close_54 : decode b_Ba_close 54 = .ok (.invokevirtual 110, 3) := by decide +kernel
theorem D_Ba_close_57 : decode b_Ba_close 57 = .ok (.ifCond .eq 7, 3) := by decide +kernel
theorem D_Ba_close_60 : decode b_Ba_close 60 = .ok (.iconst 0, 1) := by decide +kernel
theorem D_Ba_close_61 : decode b_Ba_close 61 = .ok (.goto 4, 3) := by decide +kernel
theorem D_Ba_close_64 : decode b_Ba_close 64 = .ok (.iconst 1, 1) := by decide +kernel
theorem D_Ba_close_65 : decode b_Ba_close 65 = .ok (.iadd, 1) := by decide +kernel
theorem D_Ba_close_66 : decode b_Ba_close 66 = .ok (.istore_n 2, 1) := by decide +kernel
theorem D_Ba_close_67 : decode b_Ba_close 67 = .ok (.iinc 3 (-1), 3) := by decide +kernel
theorem D_Ba_close_70 : decode b_Ba_close 70 = .ok (.goto (-57), 3) := by decide +kernel
theorem D_Ba_close_73 : decode b_Ba_close 73 = .ok (.aload_n 0, 1) := by decide +kernel
theorem D_Ba_close_74 : decode b_Ba_close 74 = .ok (.getfield 30, 3) := by decide +kernel
theorem D_Ba_close_77 : decode b_Ba_close 77 = .ok (.iload_n 1, 1) := by decide +kernel
theorem D_Ba_close_78 : decode b_Ba_close 78 = .ok (.aload_n 0, 1) := by decide +kernel
theorem D_Ba_close_79 : decode b_Ba_close 79 = .ok (.getfield 40, 3) := by decide +kernel
theorem D_Ba_close_82 : decode b_Ba_close 82 = .ok (.iload_n 1, 1) := by decide +kernel
theorem D_Ba_close_83 : decode b_Ba_close 83 = .ok (.invokevirtual 64, 3) := by decide +kernel
theorem D_Ba_close_86 : decode b_Ba_close 86 = .ok (.iload_n 2, 1) := by decide +kernel
theorem D_Ba_close_87 : decode b_Ba_close 87 = .ok (.isub, 1) := by decide +kernel
theorem D_Ba_close_88 : decode b_Ba_close 88 = .ok (.iastore, 1) := by decide +kernel
theorem D_Ba_close_89 : decode b_Ba_close 89 = .ok (.aload_n 0, 1) := by decide +kernel
theorem D_Ba_close_90 : decode b_Ba_close 90 = .ok (.getfield 27, 3) := by decide +kernel
theorem D_Ba_close_93 : decode b_Ba_close 93 = .ok (.iload_n 1, 1) := by decide +kernel
theorem D_Ba_close_94 : decode b_Ba_close 94 = .ok (.aload_n 0, 1) := by decide +kernel
theorem D_Ba_close_95 : decode b_Ba_close 95 = .ok (.getfield 61, 3) := by decide +kernel
theorem D_Ba_close_98 : decode b_Ba_close 98 = .ok (.iastore, 1) := by decide +kernel
theorem D_Ba_close_99 : decode b_Ba_close 99 = .ok (.aload_n 0, 1) := by decide +kernel
theorem D_Ba_close_100 : decode b_Ba_close 100 = .ok (.iload_n 1, 1) := by decide +kernel
theorem D_Ba_close_101 : decode b_Ba_close 101 = .ok (.putfield 36, 3) := by decide +kernel
theorem D_Ba_close_104 : decode b_Ba_close 104 = .ok (.return_, 1) := by decide +kernel
abbrev rm_Ba_close : Room := { frames := 2, cells := 0, slots := 0, locals := 48 }
def B_Ba_close_65 (k13 : Nat → Int32 → Int32 → Int32 → Mem → Prop) (post : Mem → Prop) (a0 : Nat) (x1 : Int32) (x3 : Int32) (s0 : Int32) (s1 : Int32) (M : Mem) : Prop := (k13 a0 x1 (s1 + s0) (x3 + (-1)) M)
set_option maxRecDepth 20000 in
theorem Z_Ba_close_65 {x : Ctx} {post : Mem → Prop} (C : Ok x b_Ba_close 4 "HeapTower$Base") (hR : xR x = rm_Ba_close) (Rt : RetV x post 0 0) {k13 : Nat → Int32 → Int32 → Int32 → Mem → Prop} (K13 : ∀ (a0 : Nat) (x1 : Int32) (x2 : Int32) (x3 : Int32) (M : Mem), k13 a0 x1 x2 x3 M → J x 4 13 [(0, .ref (xB x + a0)), (1, .int x1), (2, .int x2), (3, .int x3)] [] 0 0 M) (a0 : Nat) (x1 : Int32) (x3 : Int32) (s0 : Int32) (s1 : Int32) (M : Mem) (h : B_Ba_close_65 k13 post a0 x1 x3 s0 s1 M) : J x 4 65 [(0, .ref (xB x + a0)), (1, .int x1), (3, .int x3)] [.int s0, .int s1] 0 0 M := by
  unfold B_Ba_close_65 at h
  refine J_iadd C D_Ba_close_65 ?_
  refine J_istore_n (lv' := [(2, .int (s1 + s0)), (0, .ref (xB x + a0)), (1, .int x1), (3, .int x3)]) C 2 D_Ba_close_66 rfl (by decide) rfl ?_
  refine J_iinc (v := x3 + (-1)) (lv' := [(3, .int (x3 + (-1))), (2, .int (s1 + s0)), (0, .ref (xB x + a0)), (1, .int x1)]) C 3 3 D_Ba_close_67 rfl rfl (by decide) rfl ?_
  refine J_goto (tgt := 13) C D_Ba_close_70 (by decide) ?_
  exact J_sub [2, 3, 1, 0] rfl (K13 _ _ _ _ _ h)
def B_Ba_close_42 (k13 : Nat → Int32 → Int32 → Int32 → Mem → Prop) (post : Mem → Prop) (a0 : Nat) (x1 : Int32) (x2 : Int32) (x3 : Int32) (M : Mem) : Prop := (isK M a0 0 ∧ ∃ q46, gR M a0 0 = some q46 ∧ isK M q46 4 ∧ T_Pr_at q46 x1 x3 M (fun r51 M51 => isK M51 a0 0 ∧ T_Ba_isStandard a0 x1 r51 M51 (fun r54 M54 => (r54 = 0 → (B_Ba_close_65 k13 post a0 x1 x3 1 x2 M54)) ∧ (¬ r54 = 0 → (B_Ba_close_65 k13 post a0 x1 x3 0 x2 M54)))))
set_option maxRecDepth 20000 in
theorem Z_Ba_close_42 {x : Ctx} {post : Mem → Prop} (C : Ok x b_Ba_close 4 "HeapTower$Base") (hR : xR x = rm_Ba_close) (Rt : RetV x post 0 0) {k13 : Nat → Int32 → Int32 → Int32 → Mem → Prop} (K13 : ∀ (a0 : Nat) (x1 : Int32) (x2 : Int32) (x3 : Int32) (M : Mem), k13 a0 x1 x2 x3 M → J x 4 13 [(0, .ref (xB x + a0)), (1, .int x1), (2, .int x2), (3, .int x3)] [] 0 0 M) (a0 : Nat) (x1 : Int32) (x2 : Int32) (x3 : Int32) (M : Mem) (h : B_Ba_close_42 k13 post a0 x1 x2 x3 M) : J x 4 42 [(0, .ref (xB x + a0)), (1, .int x1), (2, .int x2), (3, .int x3)] [] 0 0 M := by
  unfold B_Ba_close_42 at h
  refine J_iload_n C 2 D_Ba_close_42 rfl rfl ?_
  refine J_aload_n C 0 D_Ba_close_43 rfl rfl ?_
  refine J_iload_n C 1 D_Ba_close_44 rfl rfl ?_
  refine J_aload_n C 0 D_Ba_close_45 rfl rfl ?_
  obtain ⟨c_46, q46, e_46, h⟩ := h
  refine J_getR C fl_Ba_40 D_Ba_close_46 c_46 e_46 ?_
  refine J_iload_n C 1 D_Ba_close_49 rfl rfl ?_
  refine J_iload_n C 3 D_Ba_close_50 rfl rfl ?_
  obtain ⟨c_51, h⟩ := h
  refine J_callVi C ml_Ba_99 (S_Pr_at _ _ _ _ _ h) (by rw [hR]; decide) rfl c_51 rfl (Nat.le_of_ble_eq_true rfl) D_Ba_close_51 (fun r51 M51 h => ?_)
  obtain ⟨c_54, h⟩ := h
  refine J_callVi C ml_Ba_110 (S_Ba_isStandard _ _ _ _ _ h) (by rw [hR]; decide) rfl c_54 rfl (Nat.le_of_ble_eq_true rfl) D_Ba_close_54 (fun r54 M54 h => ?_)
  refine J_if_eq (tgt := 64) C D_Ba_close_57 (by decide) (fun c_57 => ?_) (fun c_57 => ?_)
  · have h := h.1 c_57
    refine J_iconst (v := 1) C D_Ba_close_64 rfl ?_
    exact J_sub [0, 1, 3] rfl (Z_Ba_close_65 C hR Rt K13 _ _ _ _ _ _ h)
  · have h := h.2 c_57
    refine J_iconst (v := 0) C D_Ba_close_60 rfl ?_
    refine J_goto (tgt := 65) C D_Ba_close_61 (by decide) ?_
    exact J_sub [0, 1, 3] rfl (Z_Ba_close_65 C hR Rt K13 _ _ _ _ _ _ h)
def B_Ba_close_13 (k13 : Nat → Int32 → Int32 → Int32 → Mem → Prop) (post : Mem → Prop) (a0 : Nat) (x1 : Int32) (x2 : Int32) (x3 : Int32) (M : Mem) : Prop := ((x3 < 0 → (isK M a0 0 ∧ ∃ q74, gR M a0 10 = some q74 ∧ isK M a0 0 ∧ ∃ q79, gR M a0 0 = some q79 ∧ isK M q79 4 ∧ T_Pr_amount q79 x1 M (fun r83 M83 => isA M83 q74 8 x1 ∧ isK (sI M83 q74 (Int32.toNatClampNeg x1) (r83 - x2)) a0 0 ∧ ∃ q90, gR (sI M83 q74 (Int32.toNatClampNeg x1) (r83 - x2)) a0 9 = some q90 ∧ isK (sI M83 q74 (Int32.toNatClampNeg x1) (r83 - x2)) a0 0 ∧ isA (sI M83 q74 (Int32.toNatClampNeg x1) (r83 - x2)) q90 8 x1 ∧ isK (sI (sI M83 q74 (Int32.toNatClampNeg x1) (r83 - x2)) q90 (Int32.toNatClampNeg x1) (gI (sI M83 q74 (Int32.toNatClampNeg x1) (r83 - x2)) a0 13)) a0 0 ∧ post (sI (sI (sI M83 q74 (Int32.toNatClampNeg x1) (r83 - x2)) q90 (Int32.toNatClampNeg x1) (gI (sI M83 q74 (Int32.toNatClampNeg x1) (r83 - x2)) a0 13)) a0 12 x1)))) ∧ (¬ x3 < 0 → (isK M a0 0 ∧ ∃ q18, gR M a0 2 = some q18 ∧ isK M a0 0 ∧ ∃ q22, gR M a0 0 = some q22 ∧ isK M q22 4 ∧ T_Pr_at q22 x1 x3 M (fun r27 M27 => isK M27 q18 5 ∧ T_Ro_hasHead q18 r27 M27 (fun r30 M30 => (r30 = 0 → (B_Ba_close_42 k13 post a0 x1 x2 x3 M30)) ∧ (¬ r30 = 0 → (isK M30 a0 0 ∧ T_Ba_append a0 x1 x3 M30 (fun M39 => B_Ba_close_42 k13 post a0 x1 x2 x3 M39))))))))
set_option maxRecDepth 20000 in
theorem Z_Ba_close_13 {x : Ctx} {post : Mem → Prop} (C : Ok x b_Ba_close 4 "HeapTower$Base") (hR : xR x = rm_Ba_close) (Rt : RetV x post 0 0) {k13 : Nat → Int32 → Int32 → Int32 → Mem → Prop} (K13 : ∀ (a0 : Nat) (x1 : Int32) (x2 : Int32) (x3 : Int32) (M : Mem), k13 a0 x1 x2 x3 M → J x 4 13 [(0, .ref (xB x + a0)), (1, .int x1), (2, .int x2), (3, .int x3)] [] 0 0 M) (a0 : Nat) (x1 : Int32) (x2 : Int32) (x3 : Int32) (M : Mem) (h : B_Ba_close_13 k13 post a0 x1 x2 x3 M) : J x 4 13 [(0, .ref (xB x + a0)), (1, .int x1), (2, .int x2), (3, .int x3)] [] 0 0 M := by
  unfold B_Ba_close_13 at h
  refine J_iload_n C 3 D_Ba_close_13 rfl rfl ?_
  refine J_if_lt (tgt := 73) C D_Ba_close_14 (by decide) (fun c_14 => ?_) (fun c_14 => ?_)
  · have h := h.1 c_14
    refine J_aload_n C 0 D_Ba_close_73 rfl rfl ?_
    obtain ⟨c_74, q74, e_74, h⟩ := h
    refine J_getR C fl_Ba_30 D_Ba_close_74 c_74 e_74 ?_
    refine J_iload_n C 1 D_Ba_close_77 rfl rfl ?_
    refine J_aload_n C 0 D_Ba_close_78 rfl rfl ?_
    obtain ⟨c_79, q79, e_79, h⟩ := h
    refine J_getR C fl_Ba_40 D_Ba_close_79 c_79 e_79 ?_
    refine J_iload_n C 1 D_Ba_close_82 rfl rfl ?_
    obtain ⟨c_83, h⟩ := h
    refine J_callVi C ml_Ba_64 (S_Pr_amount _ _ _ _ h) (by rw [hR]; decide) rfl c_83 rfl (Nat.le_of_ble_eq_true rfl) D_Ba_close_83 (fun r83 M83 h => ?_)
    refine J_iload_n C 2 D_Ba_close_86 rfl rfl ?_
    refine J_isub C D_Ba_close_87 ?_
    obtain ⟨c_88, h⟩ := h
    refine J_iast C D_Ba_close_88 c_88 ?_
    refine J_aload_n C 0 D_Ba_close_89 rfl rfl ?_
    obtain ⟨c_90, q90, e_90, h⟩ := h
    refine J_getR C fl_Ba_27 D_Ba_close_90 c_90 e_90 ?_
    refine J_iload_n C 1 D_Ba_close_93 rfl rfl ?_
    refine J_aload_n C 0 D_Ba_close_94 rfl rfl ?_
    obtain ⟨c_95, h⟩ := h
    refine J_getI C fl_Ba_61 D_Ba_close_95 c_95 ?_
    obtain ⟨c_98, h⟩ := h
    refine J_iast C D_Ba_close_98 c_98 ?_
    refine J_aload_n C 0 D_Ba_close_99 rfl rfl ?_
    refine J_iload_n C 1 D_Ba_close_100 rfl rfl ?_
    obtain ⟨c_101, h⟩ := h
    refine J_putI C fl_Ba_36 D_Ba_close_101 c_101 ?_
    exact J_vret C Rt D_Ba_close_104 h
  · have h := h.2 c_14
    refine J_aload_n C 0 D_Ba_close_17 rfl rfl ?_
    obtain ⟨c_18, q18, e_18, h⟩ := h
    refine J_getR C fl_Ba_48 D_Ba_close_18 c_18 e_18 ?_
    refine J_aload_n C 0 D_Ba_close_21 rfl rfl ?_
    obtain ⟨c_22, q22, e_22, h⟩ := h
    refine J_getR C fl_Ba_40 D_Ba_close_22 c_22 e_22 ?_
    refine J_iload_n C 1 D_Ba_close_25 rfl rfl ?_
    refine J_iload_n C 3 D_Ba_close_26 rfl rfl ?_
    obtain ⟨c_27, h⟩ := h
    refine J_callVi C ml_Ba_99 (S_Pr_at _ _ _ _ _ h) (by rw [hR]; decide) rfl c_27 rfl (Nat.le_of_ble_eq_true rfl) D_Ba_close_27 (fun r27 M27 h => ?_)
    obtain ⟨c_30, h⟩ := h
    refine J_callVi C ml_Ba_102 (S_Ro_hasHead _ _ _ _ h) (by rw [hR]; decide) rfl c_30 rfl (Nat.le_of_ble_eq_true rfl) D_Ba_close_30 (fun r30 M30 h => ?_)
    refine J_if_eq (tgt := 42) C D_Ba_close_33 (by decide) (fun c_33 => ?_) (fun c_33 => ?_)
    · have h := h.1 c_33
      exact J_sub [0, 1, 2, 3] rfl (Z_Ba_close_42 C hR Rt K13 _ _ _ _ _ h)
    · have h := h.2 c_33
      refine J_aload_n C 0 D_Ba_close_36 rfl rfl ?_
      refine J_iload_n C 1 D_Ba_close_37 rfl rfl ?_
      refine J_iload_n C 3 D_Ba_close_38 rfl rfl ?_
      obtain ⟨c_39, h⟩ := h
      refine J_callVv C ml_Ba_106 (S_Ba_append _ _ _ _ _ h) (by rw [hR]; decide) rfl c_39 rfl (Nat.le_of_ble_eq_true rfl) D_Ba_close_39 (fun M39 h => ?_)
      exact J_sub [0, 1, 2, 3] rfl (Z_Ba_close_42 C hR Rt K13 _ _ _ _ _ h)
def L_Ba_close_13 (post : Mem → Prop) : Nat → Nat → Int32 → Int32 → Int32 → Mem → Prop
  | 0, _, _, _, _, _ => False
  | n + 1, a0, x1, x2, x3, M => B_Ba_close_13 (L_Ba_close_13 post n) post a0 x1 x2 x3 M
theorem Y_Ba_close_13 {x : Ctx} {post : Mem → Prop} (C : Ok x b_Ba_close 4 "HeapTower$Base") (hR : xR x = rm_Ba_close) (Rt : RetV x post 0 0) : ∀ (n : Nat) (a0 : Nat) (x1 : Int32) (x2 : Int32) (x3 : Int32) (M : Mem), L_Ba_close_13 post n a0 x1 x2 x3 M → J x 4 13 [(0, .ref (xB x + a0)), (1, .int x1), (2, .int x2), (3, .int x3)] [] 0 0 M := by
  intro n
  induction n with
  | zero => intro a0 x1 x2 x3 M h; exact h.elim
  | succ n ih => intro a0 x1 x2 x3 M h; exact Z_Ba_close_13 C hR Rt ih _ _ _ _ _ h
def T_Ba_close (a0 : Nat) (x1 : Int32) (M : Mem) (post : Mem → Prop) : Prop := (isK M a0 0 ∧ ∃ q3, gR M a0 0 = some q3 ∧ isK M q3 4 ∧ T_Pr_amount q3 x1 M (fun r7 M7 => ∃ n, L_Ba_close_13 post n a0 x1 0 (r7 - 1) M7))
set_option maxRecDepth 20000 in
theorem S_Ba_close {l : Launch} {D : va_G} {B t : Nat} {ac : Nat → ClassId} (a0 : Nat) (x1 : Int32) (M : Mem) (post : Mem → Prop) (h : T_Ba_close a0 x1 M post) : Met l y_Ba_close w_Ba_close rm_Ba_close (va_Pc [.ref (B + a0), .int x1] (PRE D B t ac M)) (QV D B ac post) 0 0 (AB B) := by
  refine met_v (by decide +kernel) (Nat.le_of_ble_eq_true rfl) (fun x h1 hR h3 h4 h5 h6 C Rt Nm => ?_)
  subst h3 h4 h5 h6
  unfold T_Ba_close at h
  show J x 4 0 [(0, .ref (xB x + a0)), (1, .int x1)] [] 0 0 M
  refine J_iconst (v := 0) C D_Ba_close_0 rfl ?_
  refine J_istore_n (lv' := [(2, .int 0), (0, .ref (xB x + a0)), (1, .int x1)]) C 2 D_Ba_close_1 rfl (by decide) rfl ?_
  refine J_aload_n C 0 D_Ba_close_2 rfl rfl ?_
  obtain ⟨c_3, q3, e_3, h⟩ := h
  refine J_getR C fl_Ba_40 D_Ba_close_3 c_3 e_3 ?_
  refine J_iload_n C 1 D_Ba_close_6 rfl rfl ?_
  obtain ⟨c_7, h⟩ := h
  refine J_callVi C ml_Ba_64 (S_Pr_amount _ _ _ _ h) (by rw [hR]; decide) rfl c_7 rfl (Nat.le_of_ble_eq_true rfl) D_Ba_close_7 (fun r7 M7 h => ?_)
  refine J_iconst (v := 1) C D_Ba_close_10 rfl ?_
  refine J_isub C D_Ba_close_11 ?_
  refine J_istore_n (lv' := [(3, .int (r7 - 1)), (2, .int 0), (0, .ref (xB x + a0)), (1, .int x1)]) C 3 D_Ba_close_12 rfl (by decide) rfl ?_
  obtain ⟨n, h⟩ := h
  exact J_sub [2, 3, 1, 0] rfl (Y_Ba_close_13 C hR Rt  n _ _ _ _ _ h)
theorem D_Ba_sizeUpTo_0 : decode b_Ba_sizeUpTo 0 = .ok (.aload_n 0, 1) := by decide +kernel
theorem D_Ba_sizeUpTo_1 : decode b_Ba_sizeUpTo 1 = .ok (.getfield 27, 3) := by decide +kernel
theorem D_Ba_sizeUpTo_4 : decode b_Ba_sizeUpTo 4 = .ok (.iload_n 1, 1) := by decide +kernel
theorem D_Ba_sizeUpTo_5 : decode b_Ba_sizeUpTo 5 = .ok (.iaload, 1) := by decide +kernel
theorem D_Ba_sizeUpTo_6 : decode b_Ba_sizeUpTo 6 = .ok (.ireturn, 1) := by decide +kernel
abbrev rm_Ba_sizeUpTo : Room := { frames := 0, cells := 0, slots := 0, locals := 0 }
def T_Ba_sizeUpTo (a0 : Nat) (x1 : Int32) (M : Mem) (post : Int32 → Mem → Prop) : Prop := (isK M a0 0 ∧ ∃ q1, gR M a0 9 = some q1 ∧ isA M q1 8 x1 ∧ post (gI M q1 (Int32.toNatClampNeg x1)) M)
set_option maxRecDepth 20000 in
theorem S_Ba_sizeUpTo {l : Launch} {D : va_G} {B t : Nat} {ac : Nat → ClassId} (a0 : Nat) (x1 : Int32) (M : Mem) (post : Int32 → Mem → Prop) (h : T_Ba_sizeUpTo a0 x1 M post) : Met l y_Ba_sizeUpTo w_Ba_sizeUpTo rm_Ba_sizeUpTo (va_Pc [.ref (B + a0), .int x1] (PRE D B t ac M)) (QI D B ac post) 0 0 (AB B) := by
  refine met_i (by decide +kernel) (Nat.le_of_ble_eq_true rfl) (fun x h1 hR h3 h4 h5 h6 C Rt => ?_)
  subst h3 h4 h5 h6
  unfold T_Ba_sizeUpTo at h
  show J x 2 0 [(0, .ref (xB x + a0)), (1, .int x1)] [] 0 0 M
  refine J_aload_n C 0 D_Ba_sizeUpTo_0 rfl rfl ?_
  obtain ⟨c_1, q1, e_1, h⟩ := h
  refine J_getR C fl_Ba_27 D_Ba_sizeUpTo_1 c_1 e_1 ?_
  refine J_iload_n C 1 D_Ba_sizeUpTo_4 rfl rfl ?_
  obtain ⟨c_5, h⟩ := h
  refine J_iald C D_Ba_sizeUpTo_5 c_5 ?_
  exact J_iret C Rt D_Ba_sizeUpTo_6 rfl h
theorem D_Ba_loadElement_0 : decode b_Ba_loadElement 0 = .ok (.aload_n 2, 1) := by decide +kernel
theorem D_Ba_loadElement_1 : decode b_Ba_loadElement 1 = .ok (.iconst 0, 1) := by decide +kernel
theorem D_Ba_loadElement_2 : decode b_Ba_loadElement 2 = .ok (.invokestatic 73, 3) := by decide +kernel
theorem D_Ba_loadElement_5 : decode b_Ba_loadElement 5 = .ok (.aload_n 0, 1) := by decide +kernel
theorem D_Ba_loadElement_6 : decode b_Ba_loadElement 6 = .ok (.getfield 18, 3) := by decide +kernel
theorem D_Ba_loadElement_9 : decode b_Ba_loadElement 9 = .ok (.iload_n 1, 1) := by decide +kernel
theorem D_Ba_loadElement_10 : decode b_Ba_loadElement 10 = .ok (.iaload, 1) := by decide +kernel
theorem D_Ba_loadElement_11 : decode b_Ba_loadElement 11 = .ok (.istore_n 3, 1) := by decide +kernel
theorem D_Ba_loadElement_12 : decode b_Ba_loadElement 12 = .ok (.iload_n 3, 1) := by decide +kernel
theorem D_Ba_loadElement_13 : decode b_Ba_loadElement 13 = .ok (.aload_n 0, 1) := by decide +kernel
theorem D_Ba_loadElement_14 : decode b_Ba_loadElement 14 = .ok (.getfield 18, 3) := by decide +kernel
theorem D_Ba_loadElement_17 : decode b_Ba_loadElement 17 = .ok (.iload_n 1, 1) := by decide +kernel
theorem D_Ba_loadElement_18 : decode b_Ba_loadElement 18 = .ok (.iconst 1, 1) := by decide +kernel
theorem D_Ba_loadElement_19 : decode b_Ba_loadElement 19 = .ok (.iadd, 1) := by decide +kernel
theorem D_Ba_loadElement_20 : decode b_Ba_loadElement 20 = .ok (.iaload, 1) := by decide +kernel
theorem D_Ba_loadElement_21 : decode b_Ba_loadElement 21 = .ok (.if_icmp .ge 23, 3) := by decide +kernel
theorem D_Ba_loadElement_24 : decode b_Ba_loadElement 24 = .ok (.aload_n 2, 1) := by decide +kernel
theorem D_Ba_loadElement_25 : decode b_Ba_loadElement 25 = .ok (.aload_n 0, 1) := by decide +kernel
theorem D_Ba_loadElement_26 : decode b_Ba_loadElement 26 = .ok (.getfield 11, 3) := by decide +kernel
theorem D_Ba_loadElement_29 : decode b_Ba_loadElement 29 = .ok (.iload_n 3, 1) := by decide +kernel
theorem D_Ba_loadElement_30 : decode b_Ba_loadElement 30 = .ok (.iaload, 1) := by decide +kernel
theorem D_Ba_loadElement_31 : decode b_Ba_loadElement 31 = .ok (.aload_n 0, 1) := by decide +kernel
theorem D_Ba_loadElement_32 : decode b_Ba_loadElement 32 = .ok (.getfield 15, 3) := by decide +kernel
theorem D_Ba_loadElement_35 : decode b_Ba_loadElement 35 = .ok (.iload_n 3, 1) := by decide +kernel
theorem D_Ba_loadElement_36 : decode b_Ba_loadElement 36 = .ok (.iaload, 1) := by decide +kernel
theorem D_Ba_loadElement_37 : decode b_Ba_loadElement 37 = .ok (.iastore, 1) := by decide +kernel
theorem D_Ba_loadElement_38 : decode b_Ba_loadElement 38 = .ok (.iinc 3 1, 3) := by decide +kernel
theorem D_Ba_loadElement_41 : decode b_Ba_loadElement 41 = .ok (.goto (-29), 3) := by decide +kernel
theorem D_Ba_loadElement_44 : decode b_Ba_loadElement 44 = .ok (.return_, 1) := by decide +kernel
abbrev rm_Ba_loadElement : Room := { frames := 1, cells := 0, slots := 0, locals := 23 }
def B_Ba_loadElement_12 (k12 : Nat → Int32 → Nat → Int32 → Mem → Prop) (post : Mem → Prop) (a0 : Nat) (x1 : Int32) (a2 : Nat) (x3 : Int32) (M : Mem) : Prop := (isK M a0 0 ∧ ∃ q14, gR M a0 6 = some q14 ∧ isA M q14 8 (x1 + 1) ∧ ((gI M q14 (Int32.toNatClampNeg (x1 + 1))) ≤ x3 → (post M)) ∧ (¬ (gI M q14 (Int32.toNatClampNeg (x1 + 1))) ≤ x3 → (isK M a0 0 ∧ ∃ q26, gR M a0 4 = some q26 ∧ isA M q26 8 x3 ∧ isK M a0 0 ∧ ∃ q32, gR M a0 5 = some q32 ∧ isA M q32 8 x3 ∧ isA M a2 8 (gI M q26 (Int32.toNatClampNeg x3)) ∧ k12 a0 x1 a2 (x3 + 1) (sI M a2 (Int32.toNatClampNeg (gI M q26 (Int32.toNatClampNeg x3))) (gI M q32 (Int32.toNatClampNeg x3))))))
set_option maxRecDepth 20000 in
theorem Z_Ba_loadElement_12 {x : Ctx} {post : Mem → Prop} (C : Ok x b_Ba_loadElement 4 "HeapTower$Base") (hR : xR x = rm_Ba_loadElement) (Rt : RetV x post 0 0) {k12 : Nat → Int32 → Nat → Int32 → Mem → Prop} (K12 : ∀ (a0 : Nat) (x1 : Int32) (a2 : Nat) (x3 : Int32) (M : Mem), k12 a0 x1 a2 x3 M → J x 4 12 [(0, .ref (xB x + a0)), (1, .int x1), (2, .ref (xB x + a2)), (3, .int x3)] [] 0 0 M) (a0 : Nat) (x1 : Int32) (a2 : Nat) (x3 : Int32) (M : Mem) (h : B_Ba_loadElement_12 k12 post a0 x1 a2 x3 M) : J x 4 12 [(0, .ref (xB x + a0)), (1, .int x1), (2, .ref (xB x + a2)), (3, .int x3)] [] 0 0 M := by
  unfold B_Ba_loadElement_12 at h
  refine J_iload_n C 3 D_Ba_loadElement_12 rfl rfl ?_
  refine J_aload_n C 0 D_Ba_loadElement_13 rfl rfl ?_
  obtain ⟨c_14, q14, e_14, h⟩ := h
  refine J_getR C fl_Ba_18 D_Ba_loadElement_14 c_14 e_14 ?_
  refine J_iload_n C 1 D_Ba_loadElement_17 rfl rfl ?_
  refine J_iconst (v := 1) C D_Ba_loadElement_18 rfl ?_
  refine J_iadd C D_Ba_loadElement_19 ?_
  obtain ⟨c_20, h⟩ := h
  refine J_iald C D_Ba_loadElement_20 c_20 ?_
  refine J_icmp_ge (tgt := 44) C D_Ba_loadElement_21 (by decide) (fun c_21 => ?_) (fun c_21 => ?_)
  · have h := h.1 c_21
    exact J_vret C Rt D_Ba_loadElement_44 h
  · have h := h.2 c_21
    refine J_aload_n C 2 D_Ba_loadElement_24 rfl rfl ?_
    refine J_aload_n C 0 D_Ba_loadElement_25 rfl rfl ?_
    obtain ⟨c_26, q26, e_26, h⟩ := h
    refine J_getR C fl_Ba_11 D_Ba_loadElement_26 c_26 e_26 ?_
    refine J_iload_n C 3 D_Ba_loadElement_29 rfl rfl ?_
    obtain ⟨c_30, h⟩ := h
    refine J_iald C D_Ba_loadElement_30 c_30 ?_
    refine J_aload_n C 0 D_Ba_loadElement_31 rfl rfl ?_
    obtain ⟨c_32, q32, e_32, h⟩ := h
    refine J_getR C fl_Ba_15 D_Ba_loadElement_32 c_32 e_32 ?_
    refine J_iload_n C 3 D_Ba_loadElement_35 rfl rfl ?_
    obtain ⟨c_36, h⟩ := h
    refine J_iald C D_Ba_loadElement_36 c_36 ?_
    obtain ⟨c_37, h⟩ := h
    refine J_iast C D_Ba_loadElement_37 c_37 ?_
    refine J_iinc (v := x3 + 1) (lv' := [(3, .int (x3 + 1)), (0, .ref (xB x + a0)), (1, .int x1), (2, .ref (xB x + a2))]) C 3 3 D_Ba_loadElement_38 rfl rfl (by decide) rfl ?_
    refine J_goto (tgt := 12) C D_Ba_loadElement_41 (by decide) ?_
    exact J_sub [1, 2, 3, 0] rfl (K12 _ _ _ _ _ h)
def L_Ba_loadElement_12 (post : Mem → Prop) : Nat → Nat → Int32 → Nat → Int32 → Mem → Prop
  | 0, _, _, _, _, _ => False
  | n + 1, a0, x1, a2, x3, M => B_Ba_loadElement_12 (L_Ba_loadElement_12 post n) post a0 x1 a2 x3 M
theorem Y_Ba_loadElement_12 {x : Ctx} {post : Mem → Prop} (C : Ok x b_Ba_loadElement 4 "HeapTower$Base") (hR : xR x = rm_Ba_loadElement) (Rt : RetV x post 0 0) : ∀ (n : Nat) (a0 : Nat) (x1 : Int32) (a2 : Nat) (x3 : Int32) (M : Mem), L_Ba_loadElement_12 post n a0 x1 a2 x3 M → J x 4 12 [(0, .ref (xB x + a0)), (1, .int x1), (2, .ref (xB x + a2)), (3, .int x3)] [] 0 0 M := by
  intro n
  induction n with
  | zero => intro a0 x1 a2 x3 M h; exact h.elim
  | succ n ih => intro a0 x1 a2 x3 M h; exact Z_Ba_loadElement_12 C hR Rt ih _ _ _ _ _ h
def T_Ba_loadElement (a0 : Nat) (x1 : Int32) (a2 : Nat) (M : Mem) (post : Mem → Prop) : Prop := (T_Ar_fill2 a2 0 M (fun M2 => isK M2 a0 0 ∧ ∃ q6, gR M2 a0 6 = some q6 ∧ isA M2 q6 8 x1 ∧ ∃ n, L_Ba_loadElement_12 post n a0 x1 a2 (gI M2 q6 (Int32.toNatClampNeg x1)) M2))
set_option maxRecDepth 20000 in
theorem S_Ba_loadElement {l : Launch} {D : va_G} {B t : Nat} {ac : Nat → ClassId} (a0 : Nat) (x1 : Int32) (a2 : Nat) (M : Mem) (post : Mem → Prop) (h : T_Ba_loadElement a0 x1 a2 M post) : Met l y_Ba_loadElement w_Ba_loadElement rm_Ba_loadElement (va_Pc [.ref (B + a0), .int x1, .ref (B + a2)] (PRE D B t ac M)) (QV D B ac post) 0 0 (AB B) := by
  refine met_v (by decide +kernel) (Nat.le_of_ble_eq_true rfl) (fun x h1 hR h3 h4 h5 h6 C Rt Nm => ?_)
  subst h3 h4 h5 h6
  unfold T_Ba_loadElement at h
  show J x 4 0 [(0, .ref (xB x + a0)), (1, .int x1), (2, .ref (xB x + a2))] [] 0 0 M
  refine J_aload_n C 2 D_Ba_loadElement_0 rfl rfl ?_
  refine J_iconst (v := 0) C D_Ba_loadElement_1 rfl ?_
  refine J_callSv C ml_Ba_73 (S_Ar_fill2 _ _ _ _ h) (by rw [hR]; decide) rfl rfl (Nat.le_of_ble_eq_true rfl) D_Ba_loadElement_2 (fun M2 h => ?_)
  refine J_aload_n C 0 D_Ba_loadElement_5 rfl rfl ?_
  obtain ⟨c_6, q6, e_6, h⟩ := h
  refine J_getR C fl_Ba_18 D_Ba_loadElement_6 c_6 e_6 ?_
  refine J_iload_n C 1 D_Ba_loadElement_9 rfl rfl ?_
  obtain ⟨c_10, h⟩ := h
  refine J_iald C D_Ba_loadElement_10 c_10 ?_
  refine J_istore_n (lv' := [(3, .int (gI M2 q6 (Int32.toNatClampNeg x1))), (0, .ref (xB x + a0)), (1, .int x1), (2, .ref (xB x + a2))]) C 3 D_Ba_loadElement_11 rfl (by decide) rfl ?_
  obtain ⟨n, h⟩ := h
  exact J_sub [1, 2, 3, 0] rfl (Y_Ba_loadElement_12 C hR Rt  n _ _ _ _ _ h)
theorem D_Ba_degreeOf_0 : decode b_Ba_degreeOf 0 = .ok (.aload_n 0, 1) := by decide +kernel
theorem D_Ba_degreeOf_1 : decode b_Ba_degreeOf 1 = .ok (.getfield 21, 3) := by decide +kernel
theorem D_Ba_degreeOf_4 : decode b_Ba_degreeOf 4 = .ok (.iload_n 1, 1) := by decide +kernel
theorem D_Ba_degreeOf_5 : decode b_Ba_degreeOf 5 = .ok (.iaload, 1) := by decide +kernel
theorem D_Ba_degreeOf_6 : decode b_Ba_degreeOf 6 = .ok (.ireturn, 1) := by decide +kernel
abbrev rm_Ba_degreeOf : Room := { frames := 0, cells := 0, slots := 0, locals := 0 }
def T_Ba_degreeOf (a0 : Nat) (x1 : Int32) (M : Mem) (post : Int32 → Mem → Prop) : Prop := (isK M a0 0 ∧ ∃ q1, gR M a0 7 = some q1 ∧ isA M q1 8 x1 ∧ post (gI M q1 (Int32.toNatClampNeg x1)) M)
set_option maxRecDepth 20000 in
theorem S_Ba_degreeOf {l : Launch} {D : va_G} {B t : Nat} {ac : Nat → ClassId} (a0 : Nat) (x1 : Int32) (M : Mem) (post : Int32 → Mem → Prop) (h : T_Ba_degreeOf a0 x1 M post) : Met l y_Ba_degreeOf w_Ba_degreeOf rm_Ba_degreeOf (va_Pc [.ref (B + a0), .int x1] (PRE D B t ac M)) (QI D B ac post) 0 0 (AB B) := by
  refine met_i (by decide +kernel) (Nat.le_of_ble_eq_true rfl) (fun x h1 hR h3 h4 h5 h6 C Rt => ?_)
  subst h3 h4 h5 h6
  unfold T_Ba_degreeOf at h
  show J x 2 0 [(0, .ref (xB x + a0)), (1, .int x1)] [] 0 0 M
  refine J_aload_n C 0 D_Ba_degreeOf_0 rfl rfl ?_
  obtain ⟨c_1, q1, e_1, h⟩ := h
  refine J_getR C fl_Ba_21 D_Ba_degreeOf_1 c_1 e_1 ?_
  refine J_iload_n C 1 D_Ba_degreeOf_4 rfl rfl ?_
  obtain ⟨c_5, h⟩ := h
  refine J_iald C D_Ba_degreeOf_5 c_5 ?_
  exact J_iret C Rt D_Ba_degreeOf_6 rfl h
theorem D_Ba_standardCount_0 : decode b_Ba_standardCount 0 = .ok (.aload_n 0, 1) := by decide +kernel
theorem D_Ba_standardCount_1 : decode b_Ba_standardCount 1 = .ok (.getfield 30, 3) := by decide +kernel
theorem D_Ba_standardCount_4 : decode b_Ba_standardCount 4 = .ok (.iload_n 1, 1) := by decide +kernel
theorem D_Ba_standardCount_5 : decode b_Ba_standardCount 5 = .ok (.iaload, 1) := by decide +kernel
theorem D_Ba_standardCount_6 : decode b_Ba_standardCount 6 = .ok (.ireturn, 1) := by decide +kernel
abbrev rm_Ba_standardCount : Room := { frames := 0, cells := 0, slots := 0, locals := 0 }
def T_Ba_standardCount (a0 : Nat) (x1 : Int32) (M : Mem) (post : Int32 → Mem → Prop) : Prop := (isK M a0 0 ∧ ∃ q1, gR M a0 10 = some q1 ∧ isA M q1 8 x1 ∧ post (gI M q1 (Int32.toNatClampNeg x1)) M)
set_option maxRecDepth 20000 in
theorem S_Ba_standardCount {l : Launch} {D : va_G} {B t : Nat} {ac : Nat → ClassId} (a0 : Nat) (x1 : Int32) (M : Mem) (post : Int32 → Mem → Prop) (h : T_Ba_standardCount a0 x1 M post) : Met l y_Ba_standardCount w_Ba_standardCount rm_Ba_standardCount (va_Pc [.ref (B + a0), .int x1] (PRE D B t ac M)) (QI D B ac post) 0 0 (AB B) := by
  refine met_i (by decide +kernel) (Nat.le_of_ble_eq_true rfl) (fun x h1 hR h3 h4 h5 h6 C Rt => ?_)
  subst h3 h4 h5 h6
  unfold T_Ba_standardCount at h
  show J x 2 0 [(0, .ref (xB x + a0)), (1, .int x1)] [] 0 0 M
  refine J_aload_n C 0 D_Ba_standardCount_0 rfl rfl ?_
  obtain ⟨c_1, q1, e_1, h⟩ := h
  refine J_getR C fl_Ba_30 D_Ba_standardCount_1 c_1 e_1 ?_
  refine J_iload_n C 1 D_Ba_standardCount_4 rfl rfl ?_
  obtain ⟨c_5, h⟩ := h
  refine J_iald C D_Ba_standardCount_5 c_5 ?_
  exact J_iret C Rt D_Ba_standardCount_6 rfl h
theorem D_Ba_neededRows_0 : decode b_Ba_neededRows 0 = .ok (.aload_n 0, 1) := by decide +kernel
theorem D_Ba_neededRows_1 : decode b_Ba_neededRows 1 = .ok (.getfield 33, 3) := by decide +kernel
theorem D_Ba_neededRows_4 : decode b_Ba_neededRows 4 = .ok (.iload_n 1, 1) := by decide +kernel
theorem D_Ba_neededRows_5 : decode b_Ba_neededRows 5 = .ok (.iaload, 1) := by decide +kernel
theorem D_Ba_neededRows_6 : decode b_Ba_neededRows 6 = .ok (.ireturn, 1) := by decide +kernel
abbrev rm_Ba_neededRows : Room := { frames := 0, cells := 0, slots := 0, locals := 0 }
def T_Ba_neededRows (a0 : Nat) (x1 : Int32) (M : Mem) (post : Int32 → Mem → Prop) : Prop := (isK M a0 0 ∧ ∃ q1, gR M a0 11 = some q1 ∧ isA M q1 8 x1 ∧ post (gI M q1 (Int32.toNatClampNeg x1)) M)
set_option maxRecDepth 20000 in
theorem S_Ba_neededRows {l : Launch} {D : va_G} {B t : Nat} {ac : Nat → ClassId} (a0 : Nat) (x1 : Int32) (M : Mem) (post : Int32 → Mem → Prop) (h : T_Ba_neededRows a0 x1 M post) : Met l y_Ba_neededRows w_Ba_neededRows rm_Ba_neededRows (va_Pc [.ref (B + a0), .int x1] (PRE D B t ac M)) (QI D B ac post) 0 0 (AB B) := by
  refine met_i (by decide +kernel) (Nat.le_of_ble_eq_true rfl) (fun x h1 hR h3 h4 h5 h6 C Rt => ?_)
  subst h3 h4 h5 h6
  unfold T_Ba_neededRows at h
  show J x 2 0 [(0, .ref (xB x + a0)), (1, .int x1)] [] 0 0 M
  refine J_aload_n C 0 D_Ba_neededRows_0 rfl rfl ?_
  obtain ⟨c_1, q1, e_1, h⟩ := h
  refine J_getR C fl_Ba_33 D_Ba_neededRows_1 c_1 e_1 ?_
  refine J_iload_n C 1 D_Ba_neededRows_4 rfl rfl ?_
  obtain ⟨c_5, h⟩ := h
  refine J_iald C D_Ba_neededRows_5 c_5 ?_
  exact J_iret C Rt D_Ba_neededRows_6 rfl h
theorem D_Ba_leadingCount_0 : decode b_Ba_leadingCount 0 = .ok (.aload_n 0, 1) := by decide +kernel
theorem D_Ba_leadingCount_1 : decode b_Ba_leadingCount 1 = .ok (.getfield 40, 3) := by decide +kernel
theorem D_Ba_leadingCount_4 : decode b_Ba_leadingCount 4 = .ok (.iload_n 1, 1) := by decide +kernel
theorem D_Ba_leadingCount_5 : decode b_Ba_leadingCount 5 = .ok (.invokevirtual 64, 3) := by decide +kernel
theorem D_Ba_leadingCount_8 : decode b_Ba_leadingCount 8 = .ok (.aload_n 0, 1) := by decide +kernel
theorem D_Ba_leadingCount_9 : decode b_Ba_leadingCount 9 = .ok (.getfield 30, 3) := by decide +kernel
theorem D_Ba_leadingCount_12 : decode b_Ba_leadingCount 12 = .ok (.iload_n 1, 1) := by decide +kernel
theorem D_Ba_leadingCount_13 : decode b_Ba_leadingCount 13 = .ok (.iaload, 1) := by decide +kernel
theorem D_Ba_leadingCount_14 : decode b_Ba_leadingCount 14 = .ok (.isub, 1) := by decide +kernel
theorem D_Ba_leadingCount_15 : decode b_Ba_leadingCount 15 = .ok (.ireturn, 1) := by decide +kernel
abbrev rm_Ba_leadingCount : Room := { frames := 1, cells := 0, slots := 0, locals := 21 }
def T_Ba_leadingCount (a0 : Nat) (x1 : Int32) (M : Mem) (post : Int32 → Mem → Prop) : Prop := (isK M a0 0 ∧ ∃ q1, gR M a0 0 = some q1 ∧ isK M q1 4 ∧ T_Pr_amount q1 x1 M (fun r5 M5 => isK M5 a0 0 ∧ ∃ q9, gR M5 a0 10 = some q9 ∧ isA M5 q9 8 x1 ∧ post (r5 - (gI M5 q9 (Int32.toNatClampNeg x1))) M5))
set_option maxRecDepth 20000 in
theorem S_Ba_leadingCount {l : Launch} {D : va_G} {B t : Nat} {ac : Nat → ClassId} (a0 : Nat) (x1 : Int32) (M : Mem) (post : Int32 → Mem → Prop) (h : T_Ba_leadingCount a0 x1 M post) : Met l y_Ba_leadingCount w_Ba_leadingCount rm_Ba_leadingCount (va_Pc [.ref (B + a0), .int x1] (PRE D B t ac M)) (QI D B ac post) 0 0 (AB B) := by
  refine met_i (by decide +kernel) (Nat.le_of_ble_eq_true rfl) (fun x h1 hR h3 h4 h5 h6 C Rt => ?_)
  subst h3 h4 h5 h6
  unfold T_Ba_leadingCount at h
  show J x 2 0 [(0, .ref (xB x + a0)), (1, .int x1)] [] 0 0 M
  refine J_aload_n C 0 D_Ba_leadingCount_0 rfl rfl ?_
  obtain ⟨c_1, q1, e_1, h⟩ := h
  refine J_getR C fl_Ba_40 D_Ba_leadingCount_1 c_1 e_1 ?_
  refine J_iload_n C 1 D_Ba_leadingCount_4 rfl rfl ?_
  obtain ⟨c_5, h⟩ := h
  refine J_callVi C ml_Ba_64 (S_Pr_amount _ _ _ _ h) (by rw [hR]; decide) rfl c_5 rfl (Nat.le_of_ble_eq_true rfl) D_Ba_leadingCount_5 (fun r5 M5 h => ?_)
  refine J_aload_n C 0 D_Ba_leadingCount_8 rfl rfl ?_
  obtain ⟨c_9, q9, e_9, h⟩ := h
  refine J_getR C fl_Ba_30 D_Ba_leadingCount_9 c_9 e_9 ?_
  refine J_iload_n C 1 D_Ba_leadingCount_12 rfl rfl ?_
  obtain ⟨c_13, h⟩ := h
  refine J_iald C D_Ba_leadingCount_13 c_13 ?_
  refine J_isub C D_Ba_leadingCount_14 ?_
  exact J_iret C Rt D_Ba_leadingCount_15 rfl h
end
section
theorem fl_He_9 : Fld "HeapTower$Heap" 9 1 2 false true := ⟨R_He, F_He, 5, t_He, iw_He, rfl, by decide, rfl, rfl, by decide, rfl, (gw_in (List.mem_of_getElem? (i := 254) (by decide +kernel)) (by decide +kernel)), t_He_ok, n_He, rfl, (fun h => by cases h), fun _ => Or.inr ⟨_, rfl⟩⟩
theorem fl_He_17 : Fld "HeapTower$Heap" 17 1 3 false true := ⟨R_He, F_He, 5, t_He, iw_He, rfl, by decide, rfl, rfl, by decide, rfl, (gw_in (List.mem_of_getElem? (i := 255) (by decide +kernel)) (by decide +kernel)), t_He_ok, n_He, rfl, (fun h => by cases h), fun _ => Or.inr ⟨_, rfl⟩⟩
theorem fl_He_20 : Fld "HeapTower$Heap" 20 1 0 false true := ⟨R_He, F_He, 5, t_He, iw_He, rfl, by decide, rfl, rfl, by decide, rfl, (gw_in (List.mem_of_getElem? (i := 252) (by decide +kernel)) (by decide +kernel)), t_He_ok, n_He, rfl, (fun h => by cases h), fun _ => Or.inl ⟨_, rfl⟩⟩
theorem fl_He_24 : Fld "HeapTower$Heap" 24 1 1 false true := ⟨R_He, F_He, 5, t_He, iw_He, rfl, by decide, rfl, rfl, by decide, rfl, (gw_in (List.mem_of_getElem? (i := 253) (by decide +kernel)) (by decide +kernel)), t_He_ok, n_He, rfl, (fun h => by cases h), fun _ => Or.inr ⟨_, rfl⟩⟩
theorem fl_He_27 : Fld "HeapTower$Heap" 27 1 4 true false := ⟨R_He, F_He, 5, t_He, iw_He, rfl, by decide, rfl, rfl, by decide, rfl, (gw_in (List.mem_of_getElem? (i := 256) (by decide +kernel)) (by decide +kernel)), t_He_ok, n_He, rfl, fun _ => rfl, (fun h => by cases h)⟩
theorem ml_He_31 : MLV "HeapTower$Heap" 31 y_He_forgetBase b_He_forgetBase 1 none 0 1 := ⟨List.forall_mem_cons.mpr ⟨(gw_in (List.mem_of_getElem? (i := 323) (by decide +kernel)) (by decide +kernel)), List.forall_mem_cons.mpr ⟨(gw_in (List.mem_of_getElem? (i := 324) (by decide +kernel)) (by decide +kernel)), List.forall_mem_cons.mpr ⟨(gw_in (List.mem_of_getElem? (i := 325) (by decide +kernel)) (by decide +kernel)), List.forall_mem_cons.mpr ⟨(gw_in (List.mem_of_getElem? (i := 72) (by decide +kernel)) (by decide +kernel)), List.forall_mem_cons.mpr ⟨(gw_in (List.mem_of_getElem? (i := 326) (by decide +kernel)) (by decide +kernel)), fun _ h => absurd h List.not_mem_nil⟩⟩⟩⟩⟩, by decide, F_He, 5, rfl, by decide⟩
theorem ml_He_34 : MLV "HeapTower$Heap" 34 y_Ba_forget b_Ba_forget 2 none 1 0 := ⟨List.forall_mem_cons.mpr ⟨(gw_in (List.mem_of_getElem? (i := 327) (by decide +kernel)) (by decide +kernel)), List.forall_mem_cons.mpr ⟨(gw_in (List.mem_of_getElem? (i := 328) (by decide +kernel)) (by decide +kernel)), List.forall_mem_cons.mpr ⟨(gw_in (List.mem_of_getElem? (i := 329) (by decide +kernel)) (by decide +kernel)), List.forall_mem_cons.mpr ⟨(gw_in (List.mem_of_getElem? (i := 71) (by decide +kernel)) (by decide +kernel)), List.forall_mem_cons.mpr ⟨(gw_in (List.mem_of_getElem? (i := 330) (by decide +kernel)) (by decide +kernel)), fun _ h => absurd h List.not_mem_nil⟩⟩⟩⟩⟩, by decide, F_Ba, 14, rfl, by decide⟩
theorem ml_He_40 : MLV "HeapTower$Heap" 40 y_Po_loadPart b_Po_loadPart 4 none 2 3 := ⟨List.forall_mem_cons.mpr ⟨(gw_in (List.mem_of_getElem? (i := 478) (by decide +kernel)) (by decide +kernel)), List.forall_mem_cons.mpr ⟨(gw_in (List.mem_of_getElem? (i := 479) (by decide +kernel)) (by decide +kernel)), List.forall_mem_cons.mpr ⟨(gw_in (List.mem_of_getElem? (i := 480) (by decide +kernel)) (by decide +kernel)), List.forall_mem_cons.mpr ⟨(gw_in (List.mem_of_getElem? (i := 70) (by decide +kernel)) (by decide +kernel)), List.forall_mem_cons.mpr ⟨(gw_in (List.mem_of_getElem? (i := 481) (by decide +kernel)) (by decide +kernel)), fun _ h => absurd h List.not_mem_nil⟩⟩⟩⟩⟩, by decide, F_Po, 2, rfl, by decide⟩
theorem ml_He_52 : MLV "HeapTower$Heap" 52 y_He_load b_He_load 3 none 2 1 := ⟨List.forall_mem_cons.mpr ⟨(gw_in (List.mem_of_getElem? (i := 602) (by decide +kernel)) (by decide +kernel)), List.forall_mem_cons.mpr ⟨(gw_in (List.mem_of_getElem? (i := 510) (by decide +kernel)) (by decide +kernel)), List.forall_mem_cons.mpr ⟨(gw_in (List.mem_of_getElem? (i := 511) (by decide +kernel)) (by decide +kernel)), List.forall_mem_cons.mpr ⟨(gw_in (List.mem_of_getElem? (i := 72) (by decide +kernel)) (by decide +kernel)), List.forall_mem_cons.mpr ⟨(gw_in (List.mem_of_getElem? (i := 512) (by decide +kernel)) (by decide +kernel)), fun _ h => absurd h List.not_mem_nil⟩⟩⟩⟩⟩, by decide, F_He, 5, rfl, by decide⟩
theorem ml_He_55 : MLV "HeapTower$Heap" 55 y_Ba_offer b_Ba_offer 3 none 2 0 := ⟨List.forall_mem_cons.mpr ⟨(gw_in (List.mem_of_getElem? (i := 603) (by decide +kernel)) (by decide +kernel)), List.forall_mem_cons.mpr ⟨(gw_in (List.mem_of_getElem? (i := 604) (by decide +kernel)) (by decide +kernel)), List.forall_mem_cons.mpr ⟨(gw_in (List.mem_of_getElem? (i := 605) (by decide +kernel)) (by decide +kernel)), List.forall_mem_cons.mpr ⟨(gw_in (List.mem_of_getElem? (i := 71) (by decide +kernel)) (by decide +kernel)), List.forall_mem_cons.mpr ⟨(gw_in (List.mem_of_getElem? (i := 606) (by decide +kernel)) (by decide +kernel)), fun _ h => absurd h List.not_mem_nil⟩⟩⟩⟩⟩, by decide, F_Ba, 14, rfl, by decide⟩
theorem ml_He_58 : MLV "HeapTower$Heap" 58 y_Ba_reached b_Ba_reached 1 (some .int) 0 0 := ⟨List.forall_mem_cons.mpr ⟨(gw_in (List.mem_of_getElem? (i := 526) (by decide +kernel)) (by decide +kernel)), List.forall_mem_cons.mpr ⟨(gw_in (List.mem_of_getElem? (i := 527) (by decide +kernel)) (by decide +kernel)), List.forall_mem_cons.mpr ⟨(gw_in (List.mem_of_getElem? (i := 528) (by decide +kernel)) (by decide +kernel)), List.forall_mem_cons.mpr ⟨(gw_in (List.mem_of_getElem? (i := 71) (by decide +kernel)) (by decide +kernel)), List.forall_mem_cons.mpr ⟨(gw_in (List.mem_of_getElem? (i := 529) (by decide +kernel)) (by decide +kernel)), fun _ h => absurd h List.not_mem_nil⟩⟩⟩⟩⟩, by decide, F_Ba, 14, rfl, by decide⟩
theorem ml_He_62 : MLV "HeapTower$Heap" 62 y_Ba_open b_Ba_open 2 none 1 0 := ⟨List.forall_mem_cons.mpr ⟨(gw_in (List.mem_of_getElem? (i := 530) (by decide +kernel)) (by decide +kernel)), List.forall_mem_cons.mpr ⟨(gw_in (List.mem_of_getElem? (i := 531) (by decide +kernel)) (by decide +kernel)), List.forall_mem_cons.mpr ⟨(gw_in (List.mem_of_getElem? (i := 532) (by decide +kernel)) (by decide +kernel)), List.forall_mem_cons.mpr ⟨(gw_in (List.mem_of_getElem? (i := 71) (by decide +kernel)) (by decide +kernel)), List.forall_mem_cons.mpr ⟨(gw_in (List.mem_of_getElem? (i := 533) (by decide +kernel)) (by decide +kernel)), fun _ h => absurd h List.not_mem_nil⟩⟩⟩⟩⟩, by decide, F_Ba, 14, rfl, by decide⟩
theorem ml_He_65 : MLV "HeapTower$Heap" 65 y_He_offerRows b_He_offerRows 4 none 2 1 := ⟨List.forall_mem_cons.mpr ⟨(gw_in (List.mem_of_getElem? (i := 598) (by decide +kernel)) (by decide +kernel)), List.forall_mem_cons.mpr ⟨(gw_in (List.mem_of_getElem? (i := 599) (by decide +kernel)) (by decide +kernel)), List.forall_mem_cons.mpr ⟨(gw_in (List.mem_of_getElem? (i := 600) (by decide +kernel)) (by decide +kernel)), List.forall_mem_cons.mpr ⟨(gw_in (List.mem_of_getElem? (i := 72) (by decide +kernel)) (by decide +kernel)), List.forall_mem_cons.mpr ⟨(gw_in (List.mem_of_getElem? (i := 601) (by decide +kernel)) (by decide +kernel)), fun _ h => absurd h List.not_mem_nil⟩⟩⟩⟩⟩, by decide, F_He, 5, rfl, by decide⟩
theorem ml_He_69 : MLV "HeapTower$Heap" 69 y_Ba_close b_Ba_close 4 none 1 0 := ⟨List.forall_mem_cons.mpr ⟨(gw_in (List.mem_of_getElem? (i := 607) (by decide +kernel)) (by decide +kernel)), List.forall_mem_cons.mpr ⟨(gw_in (List.mem_of_getElem? (i := 608) (by decide +kernel)) (by decide +kernel)), List.forall_mem_cons.mpr ⟨(gw_in (List.mem_of_getElem? (i := 609) (by decide +kernel)) (by decide +kernel)), List.forall_mem_cons.mpr ⟨(gw_in (List.mem_of_getElem? (i := 71) (by decide +kernel)) (by decide +kernel)), List.forall_mem_cons.mpr ⟨(gw_in (List.mem_of_getElem? (i := 610) (by decide +kernel)) (by decide +kernel)), fun _ h => absurd h List.not_mem_nil⟩⟩⟩⟩⟩, by decide, F_Ba, 14, rfl, by decide⟩
theorem kc_He_46 : KC "HeapTower$Heap" 46 := ⟨⟨(gw_in (List.mem_of_getElem? (i := 513) (by decide +kernel)) (by decide +kernel)), (gw_in (List.mem_of_getElem? (i := 484) (by decide +kernel)) (by decide +kernel))⟩, (gw_in (List.mem_of_getElem? (i := 483) (by decide +kernel)) (by decide +kernel)), (gw_in (List.mem_of_getElem? (i := 76) (by decide +kernel)) (by decide +kernel))⟩
theorem D_He_forgetBase_0 : decode b_He_forgetBase 0 = .ok (.aload_n 0, 1) := by decide +kernel
theorem D_He_forgetBase_1 : decode b_He_forgetBase 1 = .ok (.getfield 20, 3) := by decide +kernel
theorem D_He_forgetBase_4 : decode b_He_forgetBase 4 = .ok (.iconst 0, 1) := by decide +kernel
theorem D_He_forgetBase_5 : decode b_He_forgetBase 5 = .ok (.invokevirtual 34, 3) := by decide +kernel
theorem D_He_forgetBase_8 : decode b_He_forgetBase 8 = .ok (.return_, 1) := by decide +kernel
abbrev rm_He_forgetBase : Room := { frames := 2, cells := 0, slots := 0, locals := 42 }
def T_He_forgetBase (a0 : Nat) (M : Mem) (post : Mem → Prop) : Prop := (isK M a0 1 ∧ ∃ q1, gR M a0 0 = some q1 ∧ isK M q1 0 ∧ T_Ba_forget q1 0 M (fun M5 => post M5))
set_option maxRecDepth 20000 in
theorem S_He_forgetBase {l : Launch} {D : va_G} {B t : Nat} {ac : Nat → ClassId} (a0 : Nat) (M : Mem) (post : Mem → Prop) (h : T_He_forgetBase a0 M post) : Met l y_He_forgetBase w_He_forgetBase rm_He_forgetBase (va_Pc [.ref (B + a0)] (PRE D B t ac M)) (QV D B ac post) 0 0 (AB B) := by
  refine met_v (by decide +kernel) (Nat.le_of_ble_eq_true rfl) (fun x h1 hR h3 h4 h5 h6 C Rt Nm => ?_)
  subst h3 h4 h5 h6
  unfold T_He_forgetBase at h
  show J x 1 0 [(0, .ref (xB x + a0))] [] 0 0 M
  refine J_aload_n C 0 D_He_forgetBase_0 rfl rfl ?_
  obtain ⟨c_1, q1, e_1, h⟩ := h
  refine J_getR C fl_He_20 D_He_forgetBase_1 c_1 e_1 ?_
  refine J_iconst (v := 0) C D_He_forgetBase_4 rfl ?_
  obtain ⟨c_5, h⟩ := h
  refine J_callVv C ml_He_34 (S_Ba_forget _ _ _ _ h) (by rw [hR]; decide) rfl c_5 rfl (Nat.le_of_ble_eq_true rfl) D_He_forgetBase_5 (fun M5 h => ?_)
  exact J_vret C Rt D_He_forgetBase_8 h
theorem D_He_empty_0 : decode b_He_empty 0 = .ok (.aload_n 0, 1) := by decide +kernel
theorem D_He_empty_1 : decode b_He_empty 1 = .ok (.iconst 0, 1) := by decide +kernel
theorem D_He_empty_2 : decode b_He_empty 2 = .ok (.putfield 27, 3) := by decide +kernel
theorem D_He_empty_5 : decode b_He_empty 5 = .ok (.aload_n 0, 1) := by decide +kernel
theorem D_He_empty_6 : decode b_He_empty 6 = .ok (.invokevirtual 31, 3) := by decide +kernel
theorem D_He_empty_9 : decode b_He_empty 9 = .ok (.return_, 1) := by decide +kernel
abbrev rm_He_empty : Room := { frames := 3, cells := 0, slots := 0, locals := 62 }
def T_He_empty (a0 : Nat) (M : Mem) (post : Mem → Prop) : Prop := (isK M a0 1 ∧ isK (sI M a0 4 0) a0 1 ∧ T_He_forgetBase a0 (sI M a0 4 0) (fun M6 => post M6))
set_option maxRecDepth 20000 in
theorem S_He_empty {l : Launch} {D : va_G} {B t : Nat} {ac : Nat → ClassId} (a0 : Nat) (M : Mem) (post : Mem → Prop) (h : T_He_empty a0 M post) : Met l y_He_empty w_He_empty rm_He_empty (va_Pc [.ref (B + a0)] (PRE D B t ac M)) (QV D B ac post) 0 0 (AB B) := by
  refine met_v (by decide +kernel) (Nat.le_of_ble_eq_true rfl) (fun x h1 hR h3 h4 h5 h6 C Rt Nm => ?_)
  subst h3 h4 h5 h6
  unfold T_He_empty at h
  show J x 1 0 [(0, .ref (xB x + a0))] [] 0 0 M
  refine J_aload_n C 0 D_He_empty_0 rfl rfl ?_
  refine J_iconst (v := 0) C D_He_empty_1 rfl ?_
  obtain ⟨c_2, h⟩ := h
  refine J_putI C fl_He_27 D_He_empty_2 c_2 ?_
  refine J_aload_n C 0 D_He_empty_5 rfl rfl ?_
  obtain ⟨c_6, h⟩ := h
  refine J_callVv C ml_He_31 (S_He_forgetBase _ _ _ h) (by rw [hR]; decide) rfl c_6 rfl (Nat.le_of_ble_eq_true rfl) D_He_empty_6 (fun M6 h => ?_)
  exact J_vret C Rt D_He_empty_9 h
theorem D_He_isFull_0 : decode b_He_isFull 0 = .ok (.aload_n 0, 1) := by decide +kernel
theorem D_He_isFull_1 : decode b_He_isFull 1 = .ok (.getfield 27, 3) := by decide +kernel
theorem D_He_isFull_4 : decode b_He_isFull 4 = .ok (.bipush 6, 2) := by decide +kernel
theorem D_He_isFull_6 : decode b_He_isFull 6 = .ok (.if_icmp .lt 7, 3) := by decide +kernel
theorem D_He_isFull_9 : decode b_He_isFull 9 = .ok (.iconst 1, 1) := by decide +kernel
theorem D_He_isFull_10 : decode b_He_isFull 10 = .ok (.goto 4, 3) := by decide +kernel
theorem D_He_isFull_13 : decode b_He_isFull 13 = .ok (.iconst 0, 1) := by decide +kernel
theorem D_He_isFull_14 : decode b_He_isFull 14 = .ok (.ireturn, 1) := by decide +kernel
abbrev rm_He_isFull : Room := { frames := 0, cells := 0, slots := 0, locals := 0 }
def B_He_isFull_14 (post : Int32 → Mem → Prop) (s0 : Int32) (M : Mem) : Prop := (narrow .boolean (.int s0) = .int s0 ∧ post s0 M)
set_option maxRecDepth 20000 in
theorem Z_He_isFull_14 {x : Ctx} {post : Int32 → Mem → Prop} (C : Ok x b_He_isFull 1 "HeapTower$Heap") (hR : xR x = rm_He_isFull) (Rt : RetI x .boolean post 0 0) (s0 : Int32) (M : Mem) (h : B_He_isFull_14 post s0 M) : J x 1 14 [] [.int s0] 0 0 M := by
  unfold B_He_isFull_14 at h
  obtain ⟨c_14, h⟩ := h
  exact J_iret C Rt D_He_isFull_14 c_14 h
def T_He_isFull (a0 : Nat) (M : Mem) (post : Int32 → Mem → Prop) : Prop := (isK M a0 1 ∧ ((gI M a0 4) < 6 → (B_He_isFull_14 post 0 M)) ∧ (¬ (gI M a0 4) < 6 → (B_He_isFull_14 post 1 M)))
set_option maxRecDepth 20000 in
theorem S_He_isFull {l : Launch} {D : va_G} {B t : Nat} {ac : Nat → ClassId} (a0 : Nat) (M : Mem) (post : Int32 → Mem → Prop) (h : T_He_isFull a0 M post) : Met l y_He_isFull w_He_isFull rm_He_isFull (va_Pc [.ref (B + a0)] (PRE D B t ac M)) (QI D B ac post) 0 0 (AB B) := by
  refine met_i (by decide +kernel) (Nat.le_of_ble_eq_true rfl) (fun x h1 hR h3 h4 h5 h6 C Rt => ?_)
  subst h3 h4 h5 h6
  unfold T_He_isFull at h
  show J x 1 0 [(0, .ref (xB x + a0))] [] 0 0 M
  refine J_aload_n C 0 D_He_isFull_0 rfl rfl ?_
  obtain ⟨c_1, h⟩ := h
  refine J_getI C fl_He_27 D_He_isFull_1 c_1 ?_
  refine J_bipush (v := 6) C D_He_isFull_4 rfl ?_
  refine J_icmp_lt (tgt := 13) C D_He_isFull_6 (by decide) (fun c_6 => ?_) (fun c_6 => ?_)
  · have h := h.1 c_6
    refine J_iconst (v := 0) C D_He_isFull_13 rfl ?_
    exact J_sub [] rfl (Z_He_isFull_14 C hR Rt  _ _ h)
  · have h := h.2 c_6
    refine J_iconst (v := 1) C D_He_isFull_9 rfl ?_
    refine J_goto (tgt := 14) C D_He_isFull_10 (by decide) ?_
    exact J_sub [] rfl (Z_He_isFull_14 C hR Rt  _ _ h)
theorem D_He_size_0 : decode b_He_size 0 = .ok (.aload_n 0, 1) := by decide +kernel
theorem D_He_size_1 : decode b_He_size 1 = .ok (.getfield 27, 3) := by decide +kernel
theorem D_He_size_4 : decode b_He_size 4 = .ok (.ireturn, 1) := by decide +kernel
abbrev rm_He_size : Room := { frames := 0, cells := 0, slots := 0, locals := 0 }
def T_He_size (a0 : Nat) (M : Mem) (post : Int32 → Mem → Prop) : Prop := (isK M a0 1 ∧ post (gI M a0 4) M)
set_option maxRecDepth 20000 in
theorem S_He_size {l : Launch} {D : va_G} {B t : Nat} {ac : Nat → ClassId} (a0 : Nat) (M : Mem) (post : Int32 → Mem → Prop) (h : T_He_size a0 M post) : Met l y_He_size w_He_size rm_He_size (va_Pc [.ref (B + a0)] (PRE D B t ac M)) (QI D B ac post) 0 0 (AB B) := by
  refine met_i (by decide +kernel) (Nat.le_of_ble_eq_true rfl) (fun x h1 hR h3 h4 h5 h6 C Rt => ?_)
  subst h3 h4 h5 h6
  unfold T_He_size at h
  show J x 1 0 [(0, .ref (xB x + a0))] [] 0 0 M
  refine J_aload_n C 0 D_He_size_0 rfl rfl ?_
  obtain ⟨c_1, h⟩ := h
  refine J_getI C fl_He_27 D_He_size_1 c_1 ?_
  exact J_iret C Rt D_He_size_4 rfl h
theorem D_He_append_0 : decode b_He_append 0 = .ok (.aload_n 1, 1) := by decide +kernel
theorem D_He_append_1 : decode b_He_append 1 = .ok (.iload_n 2, 1) := by decide +kernel
theorem D_He_append_2 : decode b_He_append 2 = .ok (.aload_n 0, 1) := by decide +kernel
theorem D_He_append_3 : decode b_He_append 3 = .ok (.getfield 17, 3) := by decide +kernel
theorem D_He_append_6 : decode b_He_append 6 = .ok (.aload_n 0, 1) := by decide +kernel
theorem D_He_append_7 : decode b_He_append 7 = .ok (.getfield 27, 3) := by decide +kernel
theorem D_He_append_10 : decode b_He_append 10 = .ok (.aaload, 1) := by decide +kernel
theorem D_He_append_11 : decode b_He_append 11 = .ok (.invokevirtual 40, 3) := by decide +kernel
theorem D_He_append_14 : decode b_He_append 14 = .ok (.aload_n 0, 1) := by decide +kernel
theorem D_He_append_15 : decode b_He_append 15 = .ok (.getfield 9, 3) := by decide +kernel
theorem D_He_append_18 : decode b_He_append 18 = .ok (.aload_n 0, 1) := by decide +kernel
theorem D_He_append_19 : decode b_He_append 19 = .ok (.getfield 27, 3) := by decide +kernel
theorem D_He_append_22 : decode b_He_append 22 = .ok (.iload_n 2, 1) := by decide +kernel
theorem D_He_append_23 : decode b_He_append 23 = .ok (.iastore, 1) := by decide +kernel
theorem D_He_append_24 : decode b_He_append 24 = .ok (.aload_n 0, 1) := by decide +kernel
theorem D_He_append_25 : decode b_He_append 25 = .ok (.dup, 1) := by decide +kernel
theorem D_He_append_26 : decode b_He_append 26 = .ok (.getfield 27, 3) := by decide +kernel
theorem D_He_append_29 : decode b_He_append 29 = .ok (.iconst 1, 1) := by decide +kernel
theorem D_He_append_30 : decode b_He_append 30 = .ok (.iadd, 1) := by decide +kernel
theorem D_He_append_31 : decode b_He_append 31 = .ok (.putfield 27, 3) := by decide +kernel
theorem D_He_append_34 : decode b_He_append 34 = .ok (.aload_n 0, 1) := by decide +kernel
theorem D_He_append_35 : decode b_He_append 35 = .ok (.getfield 20, 3) := by decide +kernel
theorem D_He_append_38 : decode b_He_append 38 = .ok (.iload_n 2, 1) := by decide +kernel
theorem D_He_append_39 : decode b_He_append 39 = .ok (.invokevirtual 34, 3) := by decide +kernel
theorem D_He_append_42 : decode b_He_append 42 = .ok (.return_, 1) := by decide +kernel
abbrev rm_He_append : Room := { frames := 2, cells := 0, slots := 0, locals := 63 }
def T_He_append (a0 : Nat) (a1 : Nat) (x2 : Int32) (M : Mem) (post : Mem → Prop) : Prop := (isK M a0 1 ∧ ∃ q3, gR M a0 3 = some q3 ∧ isK M a0 1 ∧ isA M q3 11 (gI M a0 4) ∧ ∃ q10, gR M q3 (Int32.toNatClampNeg (gI M a0 4)) = some q10 ∧ isK M a1 3 ∧ T_Po_loadPart a1 x2 q10 M (fun M11 => isK M11 a0 1 ∧ ∃ q15, gR M11 a0 2 = some q15 ∧ isK M11 a0 1 ∧ isA M11 q15 8 (gI M11 a0 4) ∧ isK (sI M11 q15 (Int32.toNatClampNeg (gI M11 a0 4)) x2) a0 1 ∧ isK (sI M11 q15 (Int32.toNatClampNeg (gI M11 a0 4)) x2) a0 1 ∧ isK (sI (sI M11 q15 (Int32.toNatClampNeg (gI M11 a0 4)) x2) a0 4 ((gI (sI M11 q15 (Int32.toNatClampNeg (gI M11 a0 4)) x2) a0 4) + 1)) a0 1 ∧ ∃ q35, gR (sI (sI M11 q15 (Int32.toNatClampNeg (gI M11 a0 4)) x2) a0 4 ((gI (sI M11 q15 (Int32.toNatClampNeg (gI M11 a0 4)) x2) a0 4) + 1)) a0 0 = some q35 ∧ isK (sI (sI M11 q15 (Int32.toNatClampNeg (gI M11 a0 4)) x2) a0 4 ((gI (sI M11 q15 (Int32.toNatClampNeg (gI M11 a0 4)) x2) a0 4) + 1)) q35 0 ∧ T_Ba_forget q35 x2 (sI (sI M11 q15 (Int32.toNatClampNeg (gI M11 a0 4)) x2) a0 4 ((gI (sI M11 q15 (Int32.toNatClampNeg (gI M11 a0 4)) x2) a0 4) + 1)) (fun M39 => post M39)))
set_option maxRecDepth 20000 in
theorem S_He_append {l : Launch} {D : va_G} {B t : Nat} {ac : Nat → ClassId} (a0 : Nat) (a1 : Nat) (x2 : Int32) (M : Mem) (post : Mem → Prop) (h : T_He_append a0 a1 x2 M post) : Met l y_He_append w_He_append rm_He_append (va_Pc [.ref (B + a0), .ref (B + a1), .int x2] (PRE D B t ac M)) (QV D B ac post) 0 0 (AB B) := by
  refine met_v (by decide +kernel) (Nat.le_of_ble_eq_true rfl) (fun x h1 hR h3 h4 h5 h6 C Rt Nm => ?_)
  subst h3 h4 h5 h6
  unfold T_He_append at h
  show J x 3 0 [(0, .ref (xB x + a0)), (1, .ref (xB x + a1)), (2, .int x2)] [] 0 0 M
  refine J_aload_n C 1 D_He_append_0 rfl rfl ?_
  refine J_iload_n C 2 D_He_append_1 rfl rfl ?_
  refine J_aload_n C 0 D_He_append_2 rfl rfl ?_
  obtain ⟨c_3, q3, e_3, h⟩ := h
  refine J_getR C fl_He_17 D_He_append_3 c_3 e_3 ?_
  refine J_aload_n C 0 D_He_append_6 rfl rfl ?_
  obtain ⟨c_7, h⟩ := h
  refine J_getI C fl_He_27 D_He_append_7 c_7 ?_
  obtain ⟨c_10, q10, e_10, h⟩ := h
  refine J_aaldI C D_He_append_10 c_10 e_10 ?_
  obtain ⟨c_11, h⟩ := h
  refine J_callVv C ml_He_40 (S_Po_loadPart _ _ _ _ _ h) (by rw [hR]; decide) rfl c_11 rfl (Nat.le_of_ble_eq_true rfl) D_He_append_11 (fun M11 h => ?_)
  refine J_aload_n C 0 D_He_append_14 rfl rfl ?_
  obtain ⟨c_15, q15, e_15, h⟩ := h
  refine J_getR C fl_He_9 D_He_append_15 c_15 e_15 ?_
  refine J_aload_n C 0 D_He_append_18 rfl rfl ?_
  obtain ⟨c_19, h⟩ := h
  refine J_getI C fl_He_27 D_He_append_19 c_19 ?_
  refine J_iload_n C 2 D_He_append_22 rfl rfl ?_
  obtain ⟨c_23, h⟩ := h
  refine J_iast C D_He_append_23 c_23 ?_
  refine J_aload_n C 0 D_He_append_24 rfl rfl ?_
  refine J_dup C D_He_append_25 rfl ?_
  obtain ⟨c_26, h⟩ := h
  refine J_getI C fl_He_27 D_He_append_26 c_26 ?_
  refine J_iconst (v := 1) C D_He_append_29 rfl ?_
  refine J_iadd C D_He_append_30 ?_
  obtain ⟨c_31, h⟩ := h
  refine J_putI C fl_He_27 D_He_append_31 c_31 ?_
  refine J_aload_n C 0 D_He_append_34 rfl rfl ?_
  obtain ⟨c_35, q35, e_35, h⟩ := h
  refine J_getR C fl_He_20 D_He_append_35 c_35 e_35 ?_
  refine J_iload_n C 2 D_He_append_38 rfl rfl ?_
  obtain ⟨c_39, h⟩ := h
  refine J_callVv C ml_He_34 (S_Ba_forget _ _ _ _ h) (by rw [hR]; decide) rfl c_39 rfl (Nat.le_of_ble_eq_true rfl) D_He_append_39 (fun M39 h => ?_)
  exact J_vret C Rt D_He_append_42 h
theorem D_He_degreeOf_0 : decode b_He_degreeOf 0 = .ok (.aload_n 0, 1) := by decide +kernel
theorem D_He_degreeOf_1 : decode b_He_degreeOf 1 = .ok (.getfield 9, 3) := by decide +kernel
theorem D_He_degreeOf_4 : decode b_He_degreeOf 4 = .ok (.iload_n 1, 1) := by decide +kernel
theorem D_He_degreeOf_5 : decode b_He_degreeOf 5 = .ok (.iaload, 1) := by decide +kernel
theorem D_He_degreeOf_6 : decode b_He_degreeOf 6 = .ok (.ireturn, 1) := by decide +kernel
abbrev rm_He_degreeOf : Room := { frames := 0, cells := 0, slots := 0, locals := 0 }
def T_He_degreeOf (a0 : Nat) (x1 : Int32) (M : Mem) (post : Int32 → Mem → Prop) : Prop := (isK M a0 1 ∧ ∃ q1, gR M a0 2 = some q1 ∧ isA M q1 8 x1 ∧ post (gI M q1 (Int32.toNatClampNeg x1)) M)
set_option maxRecDepth 20000 in
theorem S_He_degreeOf {l : Launch} {D : va_G} {B t : Nat} {ac : Nat → ClassId} (a0 : Nat) (x1 : Int32) (M : Mem) (post : Int32 → Mem → Prop) (h : T_He_degreeOf a0 x1 M post) : Met l y_He_degreeOf w_He_degreeOf rm_He_degreeOf (va_Pc [.ref (B + a0), .int x1] (PRE D B t ac M)) (QI D B ac post) 0 0 (AB B) := by
  refine met_i (by decide +kernel) (Nat.le_of_ble_eq_true rfl) (fun x h1 hR h3 h4 h5 h6 C Rt => ?_)
  subst h3 h4 h5 h6
  unfold T_He_degreeOf at h
  show J x 2 0 [(0, .ref (xB x + a0)), (1, .int x1)] [] 0 0 M
  refine J_aload_n C 0 D_He_degreeOf_0 rfl rfl ?_
  obtain ⟨c_1, q1, e_1, h⟩ := h
  refine J_getR C fl_He_9 D_He_degreeOf_1 c_1 e_1 ?_
  refine J_iload_n C 1 D_He_degreeOf_4 rfl rfl ?_
  obtain ⟨c_5, h⟩ := h
  refine J_iald C D_He_degreeOf_5 c_5 ?_
  exact J_iret C Rt D_He_degreeOf_6 rfl h
theorem D_He_removeLatest_0 : decode b_He_removeLatest 0 = .ok (.aload_n 0, 1) := by decide +kernel
theorem D_He_removeLatest_1 : decode b_He_removeLatest 1 = .ok (.dup, 1) := by decide +kernel
theorem D_He_removeLatest_2 : decode b_He_removeLatest 2 = .ok (.getfield 27, 3) := by decide +kernel
theorem D_He_removeLatest_5 : decode b_He_removeLatest 5 = .ok (.iconst 1, 1) := by decide +kernel
theorem D_He_removeLatest_6 : decode b_He_removeLatest 6 = .ok (.isub, 1) := by decide +kernel
theorem D_He_removeLatest_7 : decode b_He_removeLatest 7 = .ok (.putfield 27, 3) := by decide +kernel
theorem D_He_removeLatest_10 : decode b_He_removeLatest 10 = .ok (.aload_n 0, 1) := by decide +kernel
theorem D_He_removeLatest_11 : decode b_He_removeLatest 11 = .ok (.getfield 20, 3) := by decide +kernel
theorem D_He_removeLatest_14 : decode b_He_removeLatest 14 = .ok (.aload_n 0, 1) := by decide +kernel
theorem D_He_removeLatest_15 : decode b_He_removeLatest 15 = .ok (.getfield 9, 3) := by decide +kernel
theorem D_He_removeLatest_18 : decode b_He_removeLatest 18 = .ok (.aload_n 0, 1) := by decide +kernel
theorem D_He_removeLatest_19 : decode b_He_removeLatest 19 = .ok (.getfield 27, 3) := by decide +kernel
theorem D_He_removeLatest_22 : decode b_He_removeLatest 22 = .ok (.iaload, 1) := by decide +kernel
theorem D_He_removeLatest_23 : decode b_He_removeLatest 23 = .ok (.invokevirtual 34, 3) := by decide +kernel
theorem D_He_removeLatest_26 : decode b_He_removeLatest 26 = .ok (.return_, 1) := by decide +kernel
abbrev rm_He_removeLatest : Room := { frames := 2, cells := 0, slots := 0, locals := 42 }
def T_He_removeLatest (a0 : Nat) (M : Mem) (post : Mem → Prop) : Prop := (isK M a0 1 ∧ isK M a0 1 ∧ isK (sI M a0 4 ((gI M a0 4) - 1)) a0 1 ∧ ∃ q11, gR (sI M a0 4 ((gI M a0 4) - 1)) a0 0 = some q11 ∧ isK (sI M a0 4 ((gI M a0 4) - 1)) a0 1 ∧ ∃ q15, gR (sI M a0 4 ((gI M a0 4) - 1)) a0 2 = some q15 ∧ isK (sI M a0 4 ((gI M a0 4) - 1)) a0 1 ∧ isA (sI M a0 4 ((gI M a0 4) - 1)) q15 8 (gI (sI M a0 4 ((gI M a0 4) - 1)) a0 4) ∧ isK (sI M a0 4 ((gI M a0 4) - 1)) q11 0 ∧ T_Ba_forget q11 (gI (sI M a0 4 ((gI M a0 4) - 1)) q15 (Int32.toNatClampNeg (gI (sI M a0 4 ((gI M a0 4) - 1)) a0 4))) (sI M a0 4 ((gI M a0 4) - 1)) (fun M23 => post M23))
set_option maxRecDepth 20000 in
theorem S_He_removeLatest {l : Launch} {D : va_G} {B t : Nat} {ac : Nat → ClassId} (a0 : Nat) (M : Mem) (post : Mem → Prop) (h : T_He_removeLatest a0 M post) : Met l y_He_removeLatest w_He_removeLatest rm_He_removeLatest (va_Pc [.ref (B + a0)] (PRE D B t ac M)) (QV D B ac post) 0 0 (AB B) := by
  refine met_v (by decide +kernel) (Nat.le_of_ble_eq_true rfl) (fun x h1 hR h3 h4 h5 h6 C Rt Nm => ?_)
  subst h3 h4 h5 h6
  unfold T_He_removeLatest at h
  show J x 1 0 [(0, .ref (xB x + a0))] [] 0 0 M
  refine J_aload_n C 0 D_He_removeLatest_0 rfl rfl ?_
  refine J_dup C D_He_removeLatest_1 rfl ?_
  obtain ⟨c_2, h⟩ := h
  refine J_getI C fl_He_27 D_He_removeLatest_2 c_2 ?_
  refine J_iconst (v := 1) C D_He_removeLatest_5 rfl ?_
  refine J_isub C D_He_removeLatest_6 ?_
  obtain ⟨c_7, h⟩ := h
  refine J_putI C fl_He_27 D_He_removeLatest_7 c_7 ?_
  refine J_aload_n C 0 D_He_removeLatest_10 rfl rfl ?_
  obtain ⟨c_11, q11, e_11, h⟩ := h
  refine J_getR C fl_He_20 D_He_removeLatest_11 c_11 e_11 ?_
  refine J_aload_n C 0 D_He_removeLatest_14 rfl rfl ?_
  obtain ⟨c_15, q15, e_15, h⟩ := h
  refine J_getR C fl_He_9 D_He_removeLatest_15 c_15 e_15 ?_
  refine J_aload_n C 0 D_He_removeLatest_18 rfl rfl ?_
  obtain ⟨c_19, h⟩ := h
  refine J_getI C fl_He_27 D_He_removeLatest_19 c_19 ?_
  obtain ⟨c_22, h⟩ := h
  refine J_iald C D_He_removeLatest_22 c_22 ?_
  obtain ⟨c_23, h⟩ := h
  refine J_callVv C ml_He_34 (S_Ba_forget _ _ _ _ h) (by rw [hR]; decide) rfl c_23 rfl (Nat.le_of_ble_eq_true rfl) D_He_removeLatest_23 (fun M23 h => ?_)
  exact J_vret C Rt D_He_removeLatest_26 h
theorem D_He_has_0 : decode b_He_has 0 = .ok (.iload_n 1, 1) := by decide +kernel
theorem D_He_has_1 : decode b_He_has 1 = .ok (.ifCond .lt 15, 3) := by decide +kernel
theorem D_He_has_4 : decode b_He_has 4 = .ok (.iload_n 1, 1) := by decide +kernel
theorem D_He_has_5 : decode b_He_has 5 = .ok (.aload_n 0, 1) := by decide +kernel
theorem D_He_has_6 : decode b_He_has 6 = .ok (.getfield 27, 3) := by decide +kernel
theorem D_He_has_9 : decode b_He_has 9 = .ok (.if_icmp .ge 7, 3) := by decide +kernel
theorem D_He_has_12 : decode b_He_has 12 = .ok (.iconst 1, 1) := by decide +kernel
theorem D_He_has_13 : decode b_He_has 13 = .ok (.goto 4, 3) := by decide +kernel
theorem D_He_has_16 : decode b_He_has 16 = .ok (.iconst 0, 1) := by decide +kernel
theorem D_He_has_17 : decode b_He_has 17 = .ok (.ireturn, 1) := by decide +kernel
abbrev rm_He_has : Room := { frames := 0, cells := 0, slots := 0, locals := 0 }
def B_He_has_17 (post : Int32 → Mem → Prop) (s0 : Int32) (M : Mem) : Prop := (narrow .boolean (.int s0) = .int s0 ∧ post s0 M)
set_option maxRecDepth 20000 in
theorem Z_He_has_17 {x : Ctx} {post : Int32 → Mem → Prop} (C : Ok x b_He_has 2 "HeapTower$Heap") (hR : xR x = rm_He_has) (Rt : RetI x .boolean post 0 0) (s0 : Int32) (M : Mem) (h : B_He_has_17 post s0 M) : J x 2 17 [] [.int s0] 0 0 M := by
  unfold B_He_has_17 at h
  obtain ⟨c_17, h⟩ := h
  exact J_iret C Rt D_He_has_17 c_17 h
def B_He_has_16 (post : Int32 → Mem → Prop) (M : Mem) : Prop := (B_He_has_17 post 0 M)
set_option maxRecDepth 20000 in
theorem Z_He_has_16 {x : Ctx} {post : Int32 → Mem → Prop} (C : Ok x b_He_has 2 "HeapTower$Heap") (hR : xR x = rm_He_has) (Rt : RetI x .boolean post 0 0) (M : Mem) (h : B_He_has_16 post M) : J x 2 16 [] [] 0 0 M := by
  unfold B_He_has_16 at h
  refine J_iconst (v := 0) C D_He_has_16 rfl ?_
  exact J_sub [] rfl (Z_He_has_17 C hR Rt  _ _ h)
def T_He_has (a0 : Nat) (x1 : Int32) (M : Mem) (post : Int32 → Mem → Prop) : Prop := ((x1 < 0 → (B_He_has_16 post M)) ∧ (¬ x1 < 0 → (isK M a0 1 ∧ ((gI M a0 4) ≤ x1 → (B_He_has_16 post M)) ∧ (¬ (gI M a0 4) ≤ x1 → (B_He_has_17 post 1 M)))))
set_option maxRecDepth 20000 in
theorem S_He_has {l : Launch} {D : va_G} {B t : Nat} {ac : Nat → ClassId} (a0 : Nat) (x1 : Int32) (M : Mem) (post : Int32 → Mem → Prop) (h : T_He_has a0 x1 M post) : Met l y_He_has w_He_has rm_He_has (va_Pc [.ref (B + a0), .int x1] (PRE D B t ac M)) (QI D B ac post) 0 0 (AB B) := by
  refine met_i (by decide +kernel) (Nat.le_of_ble_eq_true rfl) (fun x h1 hR h3 h4 h5 h6 C Rt => ?_)
  subst h3 h4 h5 h6
  unfold T_He_has at h
  show J x 2 0 [(0, .ref (xB x + a0)), (1, .int x1)] [] 0 0 M
  refine J_iload_n C 1 D_He_has_0 rfl rfl ?_
  refine J_if_lt (tgt := 16) C D_He_has_1 (by decide) (fun c_1 => ?_) (fun c_1 => ?_)
  · have h := h.1 c_1
    exact J_sub [] rfl (Z_He_has_16 C hR Rt  _ h)
  · have h := h.2 c_1
    refine J_iload_n C 1 D_He_has_4 rfl rfl ?_
    refine J_aload_n C 0 D_He_has_5 rfl rfl ?_
    obtain ⟨c_6, h⟩ := h
    refine J_getI C fl_He_27 D_He_has_6 c_6 ?_
    refine J_icmp_ge (tgt := 16) C D_He_has_9 (by decide) (fun c_9 => ?_) (fun c_9 => ?_)
    · have h := h.1 c_9
      exact J_sub [] rfl (Z_He_has_16 C hR Rt  _ h)
    · have h := h.2 c_9
      refine J_iconst (v := 1) C D_He_has_12 rfl ?_
      refine J_goto (tgt := 17) C D_He_has_13 (by decide) ?_
      exact J_sub [] rfl (Z_He_has_17 C hR Rt  _ _ h)
theorem D_He_load_0 : decode b_He_load 0 = .ok (.aload_n 0, 1) := by decide +kernel
theorem D_He_load_1 : decode b_He_load 1 = .ok (.getfield 17, 3) := by decide +kernel
theorem D_He_load_4 : decode b_He_load 4 = .ok (.iload_n 1, 1) := by decide +kernel
theorem D_He_load_5 : decode b_He_load 5 = .ok (.aaload, 1) := by decide +kernel
theorem D_He_load_6 : decode b_He_load 6 = .ok (.iconst 0, 1) := by decide +kernel
theorem D_He_load_7 : decode b_He_load 7 = .ok (.aload_n 2, 1) := by decide +kernel
theorem D_He_load_8 : decode b_He_load 8 = .ok (.iconst 0, 1) := by decide +kernel
theorem D_He_load_9 : decode b_He_load 9 = .ok (.bipush 21, 2) := by decide +kernel
theorem D_He_load_11 : decode b_He_load 11 = .ok (.invokestatic 46, 3) := by decide +kernel
theorem D_He_load_14 : decode b_He_load 14 = .ok (.return_, 1) := by decide +kernel
abbrev rm_He_load : Room := { frames := 1, cells := 0, slots := 0, locals := 40 }
def T_He_load (a0 : Nat) (x1 : Int32) (a2 : Nat) (M : Mem) (post : Mem → Prop) : Prop := (isK M a0 1 ∧ ∃ q1, gR M a0 3 = some q1 ∧ isA M q1 11 x1 ∧ ∃ q5, gR M q1 (Int32.toNatClampNeg x1) = some q5 ∧ cpOk M q5 0 a2 0 21 ∧ post (cpM M q5 0 a2 0 21))
set_option maxRecDepth 20000 in
theorem S_He_load {l : Launch} {D : va_G} {B t : Nat} {ac : Nat → ClassId} (a0 : Nat) (x1 : Int32) (a2 : Nat) (M : Mem) (post : Mem → Prop) (h : T_He_load a0 x1 a2 M post) : Met l y_He_load w_He_load rm_He_load (va_Pc [.ref (B + a0), .int x1, .ref (B + a2)] (PRE D B t ac M)) (QV D B ac post) 0 0 (AB B) := by
  refine met_v (by decide +kernel) (Nat.le_of_ble_eq_true rfl) (fun x h1 hR h3 h4 h5 h6 C Rt Nm => ?_)
  subst h3 h4 h5 h6
  unfold T_He_load at h
  show J x 3 0 [(0, .ref (xB x + a0)), (1, .int x1), (2, .ref (xB x + a2))] [] 0 0 M
  refine J_aload_n C 0 D_He_load_0 rfl rfl ?_
  obtain ⟨c_1, q1, e_1, h⟩ := h
  refine J_getR C fl_He_17 D_He_load_1 c_1 e_1 ?_
  refine J_iload_n C 1 D_He_load_4 rfl rfl ?_
  obtain ⟨c_5, q5, e_5, h⟩ := h
  refine J_aaldI C D_He_load_5 c_5 e_5 ?_
  refine J_iconst (v := 0) C D_He_load_6 rfl ?_
  refine J_aload_n C 2 D_He_load_7 rfl rfl ?_
  refine J_iconst (v := 0) C D_He_load_8 rfl ?_
  refine J_bipush (v := 21) C D_He_load_9 rfl ?_
  obtain ⟨c_11, h⟩ := h
  refine J_copy C kc_He_46 D_He_load_11 (by rw [hR]; decide) (Nat.le_of_ble_eq_true rfl) c_11 ?_
  exact J_vret C Rt D_He_load_14 h
theorem D_He_offerRows_0 : decode b_He_offerRows 0 = .ok (.iconst 0, 1) := by decide +kernel
theorem D_He_offerRows_1 : decode b_He_offerRows 1 = .ok (.istore_n 3, 1) := by decide +kernel
theorem D_He_offerRows_2 : decode b_He_offerRows 2 = .ok (.iload_n 3, 1) := by decide +kernel
theorem D_He_offerRows_3 : decode b_He_offerRows 3 = .ok (.aload_n 0, 1) := by decide +kernel
theorem D_He_offerRows_4 : decode b_He_offerRows 4 = .ok (.getfield 27, 3) := by decide +kernel
theorem D_He_offerRows_7 : decode b_He_offerRows 7 = .ok (.if_icmp .ge 37, 3) := by decide +kernel
theorem D_He_offerRows_10 : decode b_He_offerRows 10 = .ok (.aload_n 0, 1) := by decide +kernel
theorem D_He_offerRows_11 : decode b_He_offerRows 11 = .ok (.getfield 9, 3) := by decide +kernel
theorem D_He_offerRows_14 : decode b_He_offerRows 14 = .ok (.iload_n 3, 1) := by decide +kernel
theorem D_He_offerRows_15 : decode b_He_offerRows 15 = .ok (.iaload, 1) := by decide +kernel
theorem D_He_offerRows_16 : decode b_He_offerRows 16 = .ok (.iload_n 2, 1) := by decide +kernel
theorem D_He_offerRows_17 : decode b_He_offerRows 17 = .ok (.if_icmp .ne 21, 3) := by decide +kernel
theorem D_He_offerRows_20 : decode b_He_offerRows 20 = .ok (.aload_n 0, 1) := by decide +kernel
theorem D_He_offerRows_21 : decode b_He_offerRows 21 = .ok (.iload_n 3, 1) := by decide +kernel
theorem D_He_offerRows_22 : decode b_He_offerRows 22 = .ok (.aload_n 0, 1) := by decide +kernel
theorem D_He_offerRows_23 : decode b_He_offerRows 23 = .ok (.getfield 24, 3) := by decide +kernel
theorem D_He_offerRows_26 : decode b_He_offerRows 26 = .ok (.invokevirtual 52, 3) := by decide +kernel
theorem D_He_offerRows_29 : decode b_He_offerRows 29 = .ok (.aload_n 1, 1) := by decide +kernel
theorem D_He_offerRows_30 : decode b_He_offerRows 30 = .ok (.iload_n 2, 1) := by decide +kernel
theorem D_He_offerRows_31 : decode b_He_offerRows 31 = .ok (.aload_n 0, 1) := by decide +kernel
theorem D_He_offerRows_32 : decode b_He_offerRows 32 = .ok (.getfield 24, 3) := by decide +kernel
theorem D_He_offerRows_35 : decode b_He_offerRows 35 = .ok (.invokevirtual 55, 3) := by decide +kernel
theorem D_He_offerRows_38 : decode b_He_offerRows 38 = .ok (.iinc 3 1, 3) := by decide +kernel
theorem D_He_offerRows_41 : decode b_He_offerRows 41 = .ok (.goto (-39), 3) := by decide +kernel
theorem D_He_offerRows_44 : decode b_He_offerRows 44 = .ok (.return_, 1) := by decide +kernel
abbrev rm_He_offerRows : Room := { frames := 3, cells := 0, slots := 0, locals := 81 }
def B_He_offerRows_38 (k2 : Nat → Nat → Int32 → Int32 → Mem → Prop) (post : Mem → Prop) (a0 : Nat) (a1 : Nat) (x2 : Int32) (x3 : Int32) (M : Mem) : Prop := (k2 a0 a1 x2 (x3 + 1) M)
set_option maxRecDepth 20000 in
theorem Z_He_offerRows_38 {x : Ctx} {post : Mem → Prop} (C : Ok x b_He_offerRows 4 "HeapTower$Heap") (hR : xR x = rm_He_offerRows) (Rt : RetV x post 0 0) {k2 : Nat → Nat → Int32 → Int32 → Mem → Prop} (K2 : ∀ (a0 : Nat) (a1 : Nat) (x2 : Int32) (x3 : Int32) (M : Mem), k2 a0 a1 x2 x3 M → J x 4 2 [(0, .ref (xB x + a0)), (1, .ref (xB x + a1)), (2, .int x2), (3, .int x3)] [] 0 0 M) (a0 : Nat) (a1 : Nat) (x2 : Int32) (x3 : Int32) (M : Mem) (h : B_He_offerRows_38 k2 post a0 a1 x2 x3 M) : J x 4 38 [(0, .ref (xB x + a0)), (1, .ref (xB x + a1)), (2, .int x2), (3, .int x3)] [] 0 0 M := by
  unfold B_He_offerRows_38 at h
  refine J_iinc (v := x3 + 1) (lv' := [(3, .int (x3 + 1)), (0, .ref (xB x + a0)), (1, .ref (xB x + a1)), (2, .int x2)]) C 3 3 D_He_offerRows_38 rfl rfl (by decide) rfl ?_
  refine J_goto (tgt := 2) C D_He_offerRows_41 (by decide) ?_
  exact J_sub [1, 2, 3, 0] rfl (K2 _ _ _ _ _ h)
def B_He_offerRows_2 (k2 : Nat → Nat → Int32 → Int32 → Mem → Prop) (post : Mem → Prop) (a0 : Nat) (a1 : Nat) (x2 : Int32) (x3 : Int32) (M : Mem) : Prop := (isK M a0 1 ∧ ((gI M a0 4) ≤ x3 → (post M)) ∧ (¬ (gI M a0 4) ≤ x3 → (isK M a0 1 ∧ ∃ q11, gR M a0 2 = some q11 ∧ isA M q11 8 x3 ∧ (¬ (gI M q11 (Int32.toNatClampNeg x3)) = x2 → (B_He_offerRows_38 k2 post a0 a1 x2 x3 M)) ∧ ((gI M q11 (Int32.toNatClampNeg x3)) = x2 → (isK M a0 1 ∧ ∃ q23, gR M a0 1 = some q23 ∧ isK M a0 1 ∧ T_He_load a0 x3 q23 M (fun M26 => isK M26 a0 1 ∧ ∃ q32, gR M26 a0 1 = some q32 ∧ isK M26 a1 0 ∧ T_Ba_offer a1 x2 q32 M26 (fun M35 => B_He_offerRows_38 k2 post a0 a1 x2 x3 M35)))))))
set_option maxRecDepth 20000 in
theorem Z_He_offerRows_2 {x : Ctx} {post : Mem → Prop} (C : Ok x b_He_offerRows 4 "HeapTower$Heap") (hR : xR x = rm_He_offerRows) (Rt : RetV x post 0 0) {k2 : Nat → Nat → Int32 → Int32 → Mem → Prop} (K2 : ∀ (a0 : Nat) (a1 : Nat) (x2 : Int32) (x3 : Int32) (M : Mem), k2 a0 a1 x2 x3 M → J x 4 2 [(0, .ref (xB x + a0)), (1, .ref (xB x + a1)), (2, .int x2), (3, .int x3)] [] 0 0 M) (a0 : Nat) (a1 : Nat) (x2 : Int32) (x3 : Int32) (M : Mem) (h : B_He_offerRows_2 k2 post a0 a1 x2 x3 M) : J x 4 2 [(0, .ref (xB x + a0)), (1, .ref (xB x + a1)), (2, .int x2), (3, .int x3)] [] 0 0 M := by
  unfold B_He_offerRows_2 at h
  refine J_iload_n C 3 D_He_offerRows_2 rfl rfl ?_
  refine J_aload_n C 0 D_He_offerRows_3 rfl rfl ?_
  obtain ⟨c_4, h⟩ := h
  refine J_getI C fl_He_27 D_He_offerRows_4 c_4 ?_
  refine J_icmp_ge (tgt := 44) C D_He_offerRows_7 (by decide) (fun c_7 => ?_) (fun c_7 => ?_)
  · have h := h.1 c_7
    exact J_vret C Rt D_He_offerRows_44 h
  · have h := h.2 c_7
    refine J_aload_n C 0 D_He_offerRows_10 rfl rfl ?_
    obtain ⟨c_11, q11, e_11, h⟩ := h
    refine J_getR C fl_He_9 D_He_offerRows_11 c_11 e_11 ?_
    refine J_iload_n C 3 D_He_offerRows_14 rfl rfl ?_
    obtain ⟨c_15, h⟩ := h
    refine J_iald C D_He_offerRows_15 c_15 ?_
    refine J_iload_n C 2 D_He_offerRows_16 rfl rfl ?_
    refine J_icmp_ne (tgt := 38) C D_He_offerRows_17 (by decide) (fun c_17 => ?_) (fun c_17 => ?_)
    · have h := h.1 c_17
      exact J_sub [0, 1, 2, 3] rfl (Z_He_offerRows_38 C hR Rt K2 _ _ _ _ _ h)
    · have h := h.2 c_17
      refine J_aload_n C 0 D_He_offerRows_20 rfl rfl ?_
      refine J_iload_n C 3 D_He_offerRows_21 rfl rfl ?_
      refine J_aload_n C 0 D_He_offerRows_22 rfl rfl ?_
      obtain ⟨c_23, q23, e_23, h⟩ := h
      refine J_getR C fl_He_24 D_He_offerRows_23 c_23 e_23 ?_
      obtain ⟨c_26, h⟩ := h
      refine J_callVv C ml_He_52 (S_He_load _ _ _ _ _ h) (by rw [hR]; decide) rfl c_26 rfl (Nat.le_of_ble_eq_true rfl) D_He_offerRows_26 (fun M26 h => ?_)
      refine J_aload_n C 1 D_He_offerRows_29 rfl rfl ?_
      refine J_iload_n C 2 D_He_offerRows_30 rfl rfl ?_
      refine J_aload_n C 0 D_He_offerRows_31 rfl rfl ?_
      obtain ⟨c_32, q32, e_32, h⟩ := h
      refine J_getR C fl_He_24 D_He_offerRows_32 c_32 e_32 ?_
      obtain ⟨c_35, h⟩ := h
      refine J_callVv C ml_He_55 (S_Ba_offer _ _ _ _ _ h) (by rw [hR]; decide) rfl c_35 rfl (Nat.le_of_ble_eq_true rfl) D_He_offerRows_35 (fun M35 h => ?_)
      exact J_sub [0, 1, 2, 3] rfl (Z_He_offerRows_38 C hR Rt K2 _ _ _ _ _ h)
def L_He_offerRows_2 (post : Mem → Prop) : Nat → Nat → Nat → Int32 → Int32 → Mem → Prop
  | 0, _, _, _, _, _ => False
  | n + 1, a0, a1, x2, x3, M => B_He_offerRows_2 (L_He_offerRows_2 post n) post a0 a1 x2 x3 M
theorem Y_He_offerRows_2 {x : Ctx} {post : Mem → Prop} (C : Ok x b_He_offerRows 4 "HeapTower$Heap") (hR : xR x = rm_He_offerRows) (Rt : RetV x post 0 0) : ∀ (n : Nat) (a0 : Nat) (a1 : Nat) (x2 : Int32) (x3 : Int32) (M : Mem), L_He_offerRows_2 post n a0 a1 x2 x3 M → J x 4 2 [(0, .ref (xB x + a0)), (1, .ref (xB x + a1)), (2, .int x2), (3, .int x3)] [] 0 0 M := by
  intro n
  induction n with
  | zero => intro a0 a1 x2 x3 M h; exact h.elim
  | succ n ih => intro a0 a1 x2 x3 M h; exact Z_He_offerRows_2 C hR Rt ih _ _ _ _ _ h
def T_He_offerRows (a0 : Nat) (a1 : Nat) (x2 : Int32) (M : Mem) (post : Mem → Prop) : Prop := (∃ n, L_He_offerRows_2 post n a0 a1 x2 0 M)
set_option maxRecDepth 20000 in
theorem S_He_offerRows {l : Launch} {D : va_G} {B t : Nat} {ac : Nat → ClassId} (a0 : Nat) (a1 : Nat) (x2 : Int32) (M : Mem) (post : Mem → Prop) (h : T_He_offerRows a0 a1 x2 M post) : Met l y_He_offerRows w_He_offerRows rm_He_offerRows (va_Pc [.ref (B + a0), .ref (B + a1), .int x2] (PRE D B t ac M)) (QV D B ac post) 0 0 (AB B) := by
  refine met_v (by decide +kernel) (Nat.le_of_ble_eq_true rfl) (fun x h1 hR h3 h4 h5 h6 C Rt Nm => ?_)
  subst h3 h4 h5 h6
  unfold T_He_offerRows at h
  show J x 4 0 [(0, .ref (xB x + a0)), (1, .ref (xB x + a1)), (2, .int x2)] [] 0 0 M
  refine J_iconst (v := 0) C D_He_offerRows_0 rfl ?_
  refine J_istore_n (lv' := [(3, .int 0), (0, .ref (xB x + a0)), (1, .ref (xB x + a1)), (2, .int x2)]) C 3 D_He_offerRows_1 rfl (by decide) rfl ?_
  obtain ⟨n, h⟩ := h
  exact J_sub [1, 2, 3, 0] rfl (Y_He_offerRows_2 C hR Rt  n _ _ _ _ _ h)
theorem D_He_baseUpTo_0 : decode b_He_baseUpTo 0 = .ok (.aload_n 0, 1) := by decide +kernel
theorem D_He_baseUpTo_1 : decode b_He_baseUpTo 1 = .ok (.getfield 20, 3) := by decide +kernel
theorem D_He_baseUpTo_4 : decode b_He_baseUpTo 4 = .ok (.invokevirtual 58, 3) := by decide +kernel
theorem D_He_baseUpTo_7 : decode b_He_baseUpTo 7 = .ok (.iconst 1, 1) := by decide +kernel
theorem D_He_baseUpTo_8 : decode b_He_baseUpTo 8 = .ok (.iadd, 1) := by decide +kernel
theorem D_He_baseUpTo_9 : decode b_He_baseUpTo 9 = .ok (.istore_n 2, 1) := by decide +kernel
theorem D_He_baseUpTo_10 : decode b_He_baseUpTo 10 = .ok (.iload_n 2, 1) := by decide +kernel
theorem D_He_baseUpTo_11 : decode b_He_baseUpTo 11 = .ok (.iload_n 1, 1) := by decide +kernel
theorem D_He_baseUpTo_12 : decode b_He_baseUpTo 12 = .ok (.if_icmp .gt 34, 3) := by decide +kernel
theorem D_He_baseUpTo_15 : decode b_He_baseUpTo 15 = .ok (.aload_n 0, 1) := by decide +kernel
theorem D_He_baseUpTo_16 : decode b_He_baseUpTo 16 = .ok (.getfield 20, 3) := by decide +kernel
theorem D_He_baseUpTo_19 : decode b_He_baseUpTo 19 = .ok (.iload_n 2, 1) := by decide +kernel
theorem D_He_baseUpTo_20 : decode b_He_baseUpTo 20 = .ok (.invokevirtual 62, 3) := by decide +kernel
theorem D_He_baseUpTo_23 : decode b_He_baseUpTo 23 = .ok (.aload_n 0, 1) := by decide +kernel
theorem D_He_baseUpTo_24 : decode b_He_baseUpTo 24 = .ok (.aload_n 0, 1) := by decide +kernel
theorem D_He_baseUpTo_25 : decode b_He_baseUpTo 25 = .ok (.getfield 20, 3) := by decide +kernel
theorem D_He_baseUpTo_28 : decode b_He_baseUpTo 28 = .ok (.iload_n 2, 1) := by decide +kernel
theorem D_He_baseUpTo_29 : decode b_He_baseUpTo 29 = .ok (.invokevirtual 65, 3) := by decide +kernel
theorem D_He_baseUpTo_32 : decode b_He_baseUpTo 32 = .ok (.aload_n 0, 1) := by decide +kernel
theorem D_He_baseUpTo_33 : decode b_He_baseUpTo 33 = .ok (.getfield 20, 3) := by decide +kernel
theorem D_He_baseUpTo_36 : decode b_He_baseUpTo 36 = .ok (.iload_n 2, 1) := by decide +kernel
theorem D_He_baseUpTo_37 : decode b_He_baseUpTo 37 = .ok (.invokevirtual 69, 3) := by decide +kernel
theorem D_He_baseUpTo_40 : decode b_He_baseUpTo 40 = .ok (.iinc 2 1, 3) := by decide +kernel
theorem D_He_baseUpTo_43 : decode b_He_baseUpTo 43 = .ok (.goto (-33), 3) := by decide +kernel
theorem D_He_baseUpTo_46 : decode b_He_baseUpTo 46 = .ok (.aload_n 0, 1) := by decide +kernel
theorem D_He_baseUpTo_47 : decode b_He_baseUpTo 47 = .ok (.getfield 20, 3) := by decide +kernel
theorem D_He_baseUpTo_50 : decode b_He_baseUpTo 50 = .ok (.areturn, 1) := by decide +kernel
abbrev rm_He_baseUpTo : Room := { frames := 5, cells := 0, slots := 0, locals := 130 }
def B_He_baseUpTo_10 (k10 : Nat → Int32 → Int32 → Mem → Prop) (post : Nat → Mem → Prop) (a0 : Nat) (x1 : Int32) (x2 : Int32) (M : Mem) : Prop := ((x1 < x2 → (isK M a0 1 ∧ ∃ q47, gR M a0 0 = some q47 ∧ post q47 M)) ∧ (¬ x1 < x2 → (isK M a0 1 ∧ ∃ q16, gR M a0 0 = some q16 ∧ isK M q16 0 ∧ T_Ba_open q16 x2 M (fun M20 => isK M20 a0 1 ∧ ∃ q25, gR M20 a0 0 = some q25 ∧ isK M20 a0 1 ∧ T_He_offerRows a0 q25 x2 M20 (fun M29 => isK M29 a0 1 ∧ ∃ q33, gR M29 a0 0 = some q33 ∧ isK M29 q33 0 ∧ T_Ba_close q33 x2 M29 (fun M37 => k10 a0 x1 (x2 + 1) M37))))))
set_option maxRecDepth 20000 in
theorem Z_He_baseUpTo_10 {x : Ctx} {post : Nat → Mem → Prop} (C : Ok x b_He_baseUpTo 3 "HeapTower$Heap") (hR : xR x = rm_He_baseUpTo) (Rt : RetR x (.object "HeapTower$Base") post 0 0) {k10 : Nat → Int32 → Int32 → Mem → Prop} (K10 : ∀ (a0 : Nat) (x1 : Int32) (x2 : Int32) (M : Mem), k10 a0 x1 x2 M → J x 3 10 [(0, .ref (xB x + a0)), (1, .int x1), (2, .int x2)] [] 0 0 M) (a0 : Nat) (x1 : Int32) (x2 : Int32) (M : Mem) (h : B_He_baseUpTo_10 k10 post a0 x1 x2 M) : J x 3 10 [(0, .ref (xB x + a0)), (1, .int x1), (2, .int x2)] [] 0 0 M := by
  unfold B_He_baseUpTo_10 at h
  refine J_iload_n C 2 D_He_baseUpTo_10 rfl rfl ?_
  refine J_iload_n C 1 D_He_baseUpTo_11 rfl rfl ?_
  refine J_icmp_gt (tgt := 46) C D_He_baseUpTo_12 (by decide) (fun c_12 => ?_) (fun c_12 => ?_)
  · have h := h.1 c_12
    refine J_aload_n C 0 D_He_baseUpTo_46 rfl rfl ?_
    obtain ⟨c_47, q47, e_47, h⟩ := h
    refine J_getR C fl_He_20 D_He_baseUpTo_47 c_47 e_47 ?_
    exact J_aret C Rt D_He_baseUpTo_50 h
  · have h := h.2 c_12
    refine J_aload_n C 0 D_He_baseUpTo_15 rfl rfl ?_
    obtain ⟨c_16, q16, e_16, h⟩ := h
    refine J_getR C fl_He_20 D_He_baseUpTo_16 c_16 e_16 ?_
    refine J_iload_n C 2 D_He_baseUpTo_19 rfl rfl ?_
    obtain ⟨c_20, h⟩ := h
    refine J_callVv C ml_He_62 (S_Ba_open _ _ _ _ h) (by rw [hR]; decide) rfl c_20 rfl (Nat.le_of_ble_eq_true rfl) D_He_baseUpTo_20 (fun M20 h => ?_)
    refine J_aload_n C 0 D_He_baseUpTo_23 rfl rfl ?_
    refine J_aload_n C 0 D_He_baseUpTo_24 rfl rfl ?_
    obtain ⟨c_25, q25, e_25, h⟩ := h
    refine J_getR C fl_He_20 D_He_baseUpTo_25 c_25 e_25 ?_
    refine J_iload_n C 2 D_He_baseUpTo_28 rfl rfl ?_
    obtain ⟨c_29, h⟩ := h
    refine J_callVv C ml_He_65 (S_He_offerRows _ _ _ _ _ h) (by rw [hR]; decide) rfl c_29 rfl (Nat.le_of_ble_eq_true rfl) D_He_baseUpTo_29 (fun M29 h => ?_)
    refine J_aload_n C 0 D_He_baseUpTo_32 rfl rfl ?_
    obtain ⟨c_33, q33, e_33, h⟩ := h
    refine J_getR C fl_He_20 D_He_baseUpTo_33 c_33 e_33 ?_
    refine J_iload_n C 2 D_He_baseUpTo_36 rfl rfl ?_
    obtain ⟨c_37, h⟩ := h
    refine J_callVv C ml_He_69 (S_Ba_close _ _ _ _ h) (by rw [hR]; decide) rfl c_37 rfl (Nat.le_of_ble_eq_true rfl) D_He_baseUpTo_37 (fun M37 h => ?_)
    refine J_iinc (v := x2 + 1) (lv' := [(2, .int (x2 + 1)), (0, .ref (xB x + a0)), (1, .int x1)]) C 2 2 D_He_baseUpTo_40 rfl rfl (by decide) rfl ?_
    refine J_goto (tgt := 10) C D_He_baseUpTo_43 (by decide) ?_
    exact J_sub [1, 2, 0] rfl (K10 _ _ _ _ h)
def L_He_baseUpTo_10 (post : Nat → Mem → Prop) : Nat → Nat → Int32 → Int32 → Mem → Prop
  | 0, _, _, _, _ => False
  | n + 1, a0, x1, x2, M => B_He_baseUpTo_10 (L_He_baseUpTo_10 post n) post a0 x1 x2 M
theorem Y_He_baseUpTo_10 {x : Ctx} {post : Nat → Mem → Prop} (C : Ok x b_He_baseUpTo 3 "HeapTower$Heap") (hR : xR x = rm_He_baseUpTo) (Rt : RetR x (.object "HeapTower$Base") post 0 0) : ∀ (n : Nat) (a0 : Nat) (x1 : Int32) (x2 : Int32) (M : Mem), L_He_baseUpTo_10 post n a0 x1 x2 M → J x 3 10 [(0, .ref (xB x + a0)), (1, .int x1), (2, .int x2)] [] 0 0 M := by
  intro n
  induction n with
  | zero => intro a0 x1 x2 M h; exact h.elim
  | succ n ih => intro a0 x1 x2 M h; exact Z_He_baseUpTo_10 C hR Rt ih _ _ _ _ h
def T_He_baseUpTo (a0 : Nat) (x1 : Int32) (M : Mem) (post : Nat → Mem → Prop) : Prop := (isK M a0 1 ∧ ∃ q1, gR M a0 0 = some q1 ∧ isK M q1 0 ∧ T_Ba_reached q1 M (fun r4 M4 => ∃ n, L_He_baseUpTo_10 post n a0 x1 (r4 + 1) M4))
set_option maxRecDepth 20000 in
theorem S_He_baseUpTo {l : Launch} {D : va_G} {B t : Nat} {ac : Nat → ClassId} (a0 : Nat) (x1 : Int32) (M : Mem) (post : Nat → Mem → Prop) (h : T_He_baseUpTo a0 x1 M post) : Met l y_He_baseUpTo w_He_baseUpTo rm_He_baseUpTo (va_Pc [.ref (B + a0), .int x1] (PRE D B t ac M)) (QR D B ac post) 0 0 (AB B) := by
  refine met_r (by decide +kernel) (Or.inl ⟨_, rfl⟩) (Nat.le_of_ble_eq_true rfl) (fun x h1 hR h3 h4 h5 h6 C Rt => ?_)
  subst h3 h4 h5 h6
  unfold T_He_baseUpTo at h
  show J x 3 0 [(0, .ref (xB x + a0)), (1, .int x1)] [] 0 0 M
  refine J_aload_n C 0 D_He_baseUpTo_0 rfl rfl ?_
  obtain ⟨c_1, q1, e_1, h⟩ := h
  refine J_getR C fl_He_20 D_He_baseUpTo_1 c_1 e_1 ?_
  obtain ⟨c_4, h⟩ := h
  refine J_callVi C ml_He_58 (S_Ba_reached _ _ _ h) (by rw [hR]; decide) rfl c_4 rfl (Nat.le_of_ble_eq_true rfl) D_He_baseUpTo_4 (fun r4 M4 h => ?_)
  refine J_iconst (v := 1) C D_He_baseUpTo_7 rfl ?_
  refine J_iadd C D_He_baseUpTo_8 ?_
  refine J_istore_n (lv' := [(2, .int (r4 + 1)), (0, .ref (xB x + a0)), (1, .int x1)]) C 2 D_He_baseUpTo_9 rfl (by decide) rfl ?_
  obtain ⟨n, h⟩ := h
  exact J_sub [1, 2, 0] rfl (Y_He_baseUpTo_10 C hR Rt  n _ _ _ _ h)
theorem D_He_become_0 : decode b_He_become 0 = .ok (.iconst 0, 1) := by decide +kernel
theorem D_He_become_1 : decode b_He_become 1 = .ok (.istore_n 2, 1) := by decide +kernel
theorem D_He_become_2 : decode b_He_become 2 = .ok (.iload_n 2, 1) := by decide +kernel
theorem D_He_become_3 : decode b_He_become 3 = .ok (.aload_n 1, 1) := by decide +kernel
theorem D_He_become_4 : decode b_He_become 4 = .ok (.getfield 27, 3) := by decide +kernel
theorem D_He_become_7 : decode b_He_become 7 = .ok (.if_icmp .ge 40, 3) := by decide +kernel
theorem D_He_become_10 : decode b_He_become 10 = .ok (.aload_n 1, 1) := by decide +kernel
theorem D_He_become_11 : decode b_He_become 11 = .ok (.getfield 17, 3) := by decide +kernel
theorem D_He_become_14 : decode b_He_become 14 = .ok (.iload_n 2, 1) := by decide +kernel
theorem D_He_become_15 : decode b_He_become 15 = .ok (.aaload, 1) := by decide +kernel
theorem D_He_become_16 : decode b_He_become 16 = .ok (.iconst 0, 1) := by decide +kernel
theorem D_He_become_17 : decode b_He_become 17 = .ok (.aload_n 0, 1) := by decide +kernel
theorem D_He_become_18 : decode b_He_become 18 = .ok (.getfield 17, 3) := by decide +kernel
theorem D_He_become_21 : decode b_He_become 21 = .ok (.iload_n 2, 1) := by decide +kernel
theorem D_He_become_22 : decode b_He_become 22 = .ok (.aaload, 1) := by decide +kernel
theorem D_He_become_23 : decode b_He_become 23 = .ok (.iconst 0, 1) := by decide +kernel
theorem D_He_become_24 : decode b_He_become 24 = .ok (.bipush 21, 2) := by decide +kernel
theorem D_He_become_26 : decode b_He_become 26 = .ok (.invokestatic 46, 3) := by decide +kernel
theorem D_He_become_29 : decode b_He_become 29 = .ok (.aload_n 0, 1) := by decide +kernel
theorem D_He_become_30 : decode b_He_become 30 = .ok (.getfield 9, 3) := by decide +kernel
theorem D_He_become_33 : decode b_He_become 33 = .ok (.iload_n 2, 1) := by decide +kernel
theorem D_He_become_34 : decode b_He_become 34 = .ok (.aload_n 1, 1) := by decide +kernel
theorem D_He_become_35 : decode b_He_become 35 = .ok (.getfield 9, 3) := by decide +kernel
theorem D_He_become_38 : decode b_He_become 38 = .ok (.iload_n 2, 1) := by decide +kernel
theorem D_He_become_39 : decode b_He_become 39 = .ok (.iaload, 1) := by decide +kernel
theorem D_He_become_40 : decode b_He_become 40 = .ok (.iastore, 1) := by decide +kernel
theorem D_He_become_41 : decode b_He_become 41 = .ok (.iinc 2 1, 3) := by decide +kernel
theorem D_He_become_44 : decode b_He_become 44 = .ok (.goto (-42), 3) := by decide +kernel
theorem D_He_become_47 : decode b_He_become 47 = .ok (.aload_n 0, 1) := by decide +kernel
theorem D_He_become_48 : decode b_He_become 48 = .ok (.aload_n 1, 1) := by decide +kernel
theorem D_He_become_49 : decode b_He_become 49 = .ok (.getfield 27, 3) := by decide +kernel
theorem D_He_become_52 : decode b_He_become 52 = .ok (.putfield 27, 3) := by decide +kernel
theorem D_He_become_55 : decode b_He_become 55 = .ok (.aload_n 0, 1) := by decide +kernel
theorem D_He_become_56 : decode b_He_become 56 = .ok (.invokevirtual 31, 3) := by decide +kernel
theorem D_He_become_59 : decode b_He_become 59 = .ok (.return_, 1) := by decide +kernel
abbrev rm_He_become : Room := { frames := 3, cells := 0, slots := 0, locals := 62 }
def B_He_become_2 (k2 : Nat → Nat → Int32 → Mem → Prop) (post : Mem → Prop) (a0 : Nat) (a1 : Nat) (x2 : Int32) (M : Mem) : Prop := (isK M a1 1 ∧ ((gI M a1 4) ≤ x2 → (isK M a1 1 ∧ isK M a0 1 ∧ isK (sI M a0 4 (gI M a1 4)) a0 1 ∧ T_He_forgetBase a0 (sI M a0 4 (gI M a1 4)) (fun M56 => post M56))) ∧ (¬ (gI M a1 4) ≤ x2 → (isK M a1 1 ∧ ∃ q11, gR M a1 3 = some q11 ∧ isA M q11 11 x2 ∧ ∃ q15, gR M q11 (Int32.toNatClampNeg x2) = some q15 ∧ isK M a0 1 ∧ ∃ q18, gR M a0 3 = some q18 ∧ isA M q18 11 x2 ∧ ∃ q22, gR M q18 (Int32.toNatClampNeg x2) = some q22 ∧ cpOk M q15 0 q22 0 21 ∧ isK (cpM M q15 0 q22 0 21) a0 1 ∧ ∃ q30, gR (cpM M q15 0 q22 0 21) a0 2 = some q30 ∧ isK (cpM M q15 0 q22 0 21) a1 1 ∧ ∃ q35, gR (cpM M q15 0 q22 0 21) a1 2 = some q35 ∧ isA (cpM M q15 0 q22 0 21) q35 8 x2 ∧ isA (cpM M q15 0 q22 0 21) q30 8 x2 ∧ k2 a0 a1 (x2 + 1) (sI (cpM M q15 0 q22 0 21) q30 (Int32.toNatClampNeg x2) (gI (cpM M q15 0 q22 0 21) q35 (Int32.toNatClampNeg x2))))))
set_option maxRecDepth 20000 in
theorem Z_He_become_2 {x : Ctx} {post : Mem → Prop} (C : Ok x b_He_become 3 "HeapTower$Heap") (hR : xR x = rm_He_become) (Rt : RetV x post 0 0) {k2 : Nat → Nat → Int32 → Mem → Prop} (K2 : ∀ (a0 : Nat) (a1 : Nat) (x2 : Int32) (M : Mem), k2 a0 a1 x2 M → J x 3 2 [(0, .ref (xB x + a0)), (1, .ref (xB x + a1)), (2, .int x2)] [] 0 0 M) (a0 : Nat) (a1 : Nat) (x2 : Int32) (M : Mem) (h : B_He_become_2 k2 post a0 a1 x2 M) : J x 3 2 [(0, .ref (xB x + a0)), (1, .ref (xB x + a1)), (2, .int x2)] [] 0 0 M := by
  unfold B_He_become_2 at h
  refine J_iload_n C 2 D_He_become_2 rfl rfl ?_
  refine J_aload_n C 1 D_He_become_3 rfl rfl ?_
  obtain ⟨c_4, h⟩ := h
  refine J_getI C fl_He_27 D_He_become_4 c_4 ?_
  refine J_icmp_ge (tgt := 47) C D_He_become_7 (by decide) (fun c_7 => ?_) (fun c_7 => ?_)
  · have h := h.1 c_7
    refine J_aload_n C 0 D_He_become_47 rfl rfl ?_
    refine J_aload_n C 1 D_He_become_48 rfl rfl ?_
    obtain ⟨c_49, h⟩ := h
    refine J_getI C fl_He_27 D_He_become_49 c_49 ?_
    obtain ⟨c_52, h⟩ := h
    refine J_putI C fl_He_27 D_He_become_52 c_52 ?_
    refine J_aload_n C 0 D_He_become_55 rfl rfl ?_
    obtain ⟨c_56, h⟩ := h
    refine J_callVv C ml_He_31 (S_He_forgetBase _ _ _ h) (by rw [hR]; decide) rfl c_56 rfl (Nat.le_of_ble_eq_true rfl) D_He_become_56 (fun M56 h => ?_)
    exact J_vret C Rt D_He_become_59 h
  · have h := h.2 c_7
    refine J_aload_n C 1 D_He_become_10 rfl rfl ?_
    obtain ⟨c_11, q11, e_11, h⟩ := h
    refine J_getR C fl_He_17 D_He_become_11 c_11 e_11 ?_
    refine J_iload_n C 2 D_He_become_14 rfl rfl ?_
    obtain ⟨c_15, q15, e_15, h⟩ := h
    refine J_aaldI C D_He_become_15 c_15 e_15 ?_
    refine J_iconst (v := 0) C D_He_become_16 rfl ?_
    refine J_aload_n C 0 D_He_become_17 rfl rfl ?_
    obtain ⟨c_18, q18, e_18, h⟩ := h
    refine J_getR C fl_He_17 D_He_become_18 c_18 e_18 ?_
    refine J_iload_n C 2 D_He_become_21 rfl rfl ?_
    obtain ⟨c_22, q22, e_22, h⟩ := h
    refine J_aaldI C D_He_become_22 c_22 e_22 ?_
    refine J_iconst (v := 0) C D_He_become_23 rfl ?_
    refine J_bipush (v := 21) C D_He_become_24 rfl ?_
    obtain ⟨c_26, h⟩ := h
    refine J_copy C kc_He_46 D_He_become_26 (by rw [hR]; decide) (Nat.le_of_ble_eq_true rfl) c_26 ?_
    refine J_aload_n C 0 D_He_become_29 rfl rfl ?_
    obtain ⟨c_30, q30, e_30, h⟩ := h
    refine J_getR C fl_He_9 D_He_become_30 c_30 e_30 ?_
    refine J_iload_n C 2 D_He_become_33 rfl rfl ?_
    refine J_aload_n C 1 D_He_become_34 rfl rfl ?_
    obtain ⟨c_35, q35, e_35, h⟩ := h
    refine J_getR C fl_He_9 D_He_become_35 c_35 e_35 ?_
    refine J_iload_n C 2 D_He_become_38 rfl rfl ?_
    obtain ⟨c_39, h⟩ := h
    refine J_iald C D_He_become_39 c_39 ?_
    obtain ⟨c_40, h⟩ := h
    refine J_iast C D_He_become_40 c_40 ?_
    refine J_iinc (v := x2 + 1) (lv' := [(2, .int (x2 + 1)), (0, .ref (xB x + a0)), (1, .ref (xB x + a1))]) C 2 2 D_He_become_41 rfl rfl (by decide) rfl ?_
    refine J_goto (tgt := 2) C D_He_become_44 (by decide) ?_
    exact J_sub [1, 2, 0] rfl (K2 _ _ _ _ h)
def L_He_become_2 (post : Mem → Prop) : Nat → Nat → Nat → Int32 → Mem → Prop
  | 0, _, _, _, _ => False
  | n + 1, a0, a1, x2, M => B_He_become_2 (L_He_become_2 post n) post a0 a1 x2 M
theorem Y_He_become_2 {x : Ctx} {post : Mem → Prop} (C : Ok x b_He_become 3 "HeapTower$Heap") (hR : xR x = rm_He_become) (Rt : RetV x post 0 0) : ∀ (n : Nat) (a0 : Nat) (a1 : Nat) (x2 : Int32) (M : Mem), L_He_become_2 post n a0 a1 x2 M → J x 3 2 [(0, .ref (xB x + a0)), (1, .ref (xB x + a1)), (2, .int x2)] [] 0 0 M := by
  intro n
  induction n with
  | zero => intro a0 a1 x2 M h; exact h.elim
  | succ n ih => intro a0 a1 x2 M h; exact Z_He_become_2 C hR Rt ih _ _ _ _ h
def T_He_become (a0 : Nat) (a1 : Nat) (M : Mem) (post : Mem → Prop) : Prop := (∃ n, L_He_become_2 post n a0 a1 0 M)
set_option maxRecDepth 20000 in
theorem S_He_become {l : Launch} {D : va_G} {B t : Nat} {ac : Nat → ClassId} (a0 : Nat) (a1 : Nat) (M : Mem) (post : Mem → Prop) (h : T_He_become a0 a1 M post) : Met l y_He_become w_He_become rm_He_become (va_Pc [.ref (B + a0), .ref (B + a1)] (PRE D B t ac M)) (QV D B ac post) 0 0 (AB B) := by
  refine met_v (by decide +kernel) (Nat.le_of_ble_eq_true rfl) (fun x h1 hR h3 h4 h5 h6 C Rt Nm => ?_)
  subst h3 h4 h5 h6
  unfold T_He_become at h
  show J x 3 0 [(0, .ref (xB x + a0)), (1, .ref (xB x + a1))] [] 0 0 M
  refine J_iconst (v := 0) C D_He_become_0 rfl ?_
  refine J_istore_n (lv' := [(2, .int 0), (0, .ref (xB x + a0)), (1, .ref (xB x + a1))]) C 2 D_He_become_1 rfl (by decide) rfl ?_
  obtain ⟨n, h⟩ := h
  exact J_sub [1, 2, 0] rfl (Y_He_become_2 C hR Rt  n _ _ _ _ h)
theorem D_He_numbersOf_0 : decode b_He_numbersOf 0 = .ok (.aload_n 0, 1) := by decide +kernel
theorem D_He_numbersOf_1 : decode b_He_numbersOf 1 = .ok (.getfield 17, 3) := by decide +kernel
theorem D_He_numbersOf_4 : decode b_He_numbersOf 4 = .ok (.iload_n 1, 1) := by decide +kernel
theorem D_He_numbersOf_5 : decode b_He_numbersOf 5 = .ok (.aaload, 1) := by decide +kernel
theorem D_He_numbersOf_6 : decode b_He_numbersOf 6 = .ok (.areturn, 1) := by decide +kernel
abbrev rm_He_numbersOf : Room := { frames := 0, cells := 0, slots := 0, locals := 0 }
def T_He_numbersOf (a0 : Nat) (x1 : Int32) (M : Mem) (post : Nat → Mem → Prop) : Prop := (isK M a0 1 ∧ ∃ q1, gR M a0 3 = some q1 ∧ isA M q1 11 x1 ∧ ∃ q5, gR M q1 (Int32.toNatClampNeg x1) = some q5 ∧ post q5 M)
set_option maxRecDepth 20000 in
theorem S_He_numbersOf {l : Launch} {D : va_G} {B t : Nat} {ac : Nat → ClassId} (a0 : Nat) (x1 : Int32) (M : Mem) (post : Nat → Mem → Prop) (h : T_He_numbersOf a0 x1 M post) : Met l y_He_numbersOf w_He_numbersOf rm_He_numbersOf (va_Pc [.ref (B + a0), .int x1] (PRE D B t ac M)) (QR D B ac post) 0 0 (AB B) := by
  refine met_r (by decide +kernel) (Or.inr ⟨_, rfl⟩) (Nat.le_of_ble_eq_true rfl) (fun x h1 hR h3 h4 h5 h6 C Rt => ?_)
  subst h3 h4 h5 h6
  unfold T_He_numbersOf at h
  show J x 2 0 [(0, .ref (xB x + a0)), (1, .int x1)] [] 0 0 M
  refine J_aload_n C 0 D_He_numbersOf_0 rfl rfl ?_
  obtain ⟨c_1, q1, e_1, h⟩ := h
  refine J_getR C fl_He_17 D_He_numbersOf_1 c_1 e_1 ?_
  refine J_iload_n C 1 D_He_numbersOf_4 rfl rfl ?_
  obtain ⟨c_5, q5, e_5, h⟩ := h
  refine J_aaldI C D_He_numbersOf_5 c_5 e_5 ?_
  exact J_aret C Rt D_He_numbersOf_6 h
end
