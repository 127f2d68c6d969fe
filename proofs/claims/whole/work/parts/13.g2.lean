theorem ml_HT_227 : MLV "HeapTower" 227 y_Ba_leadingCount b_Ba_leadingCount 2 (some .int) 1 0 := ⟨List.forall_mem_cons.mpr ⟨(gw_in (List.mem_of_getElem? (i := 747) (by decide +kernel)) (by decide +kernel)), List.forall_mem_cons.mpr ⟨(gw_in (List.mem_of_getElem? (i := 748) (by decide +kernel)) (by decide +kernel)), List.forall_mem_cons.mpr ⟨(gw_in (List.mem_of_getElem? (i := 749) (by decide +kernel)) (by decide +kernel)), List.forall_mem_cons.mpr ⟨(gw_in (List.mem_of_getElem? (i := 72) (by decide +kernel)) (by decide +kernel)), List.forall_mem_cons.mpr ⟨(gw_in (List.mem_of_getElem? (i := 750) (by decide +kernel)) (by decide +kernel)), fun _ h => absurd h List.not_mem_nil⟩⟩⟩⟩⟩, by decide, F_Ba, 13, rfl, by decide⟩
theorem ml_HT_230 : MLV "HeapTower" 230 y_HT_sumBaseUpTo b_HT_sumBaseUpTo 3 (some (.object "HeapTower$Base")) 1 6 := ⟨List.forall_mem_cons.mpr ⟨(gw_in (List.mem_of_getElem? (i := 751) (by decide +kernel)) (by decide +kernel)), List.forall_mem_cons.mpr ⟨(gw_in (List.mem_of_getElem? (i := 753) (by decide +kernel)) (by decide +kernel)), List.forall_mem_cons.mpr ⟨(gw_in (List.mem_of_getElem? (i := 26) (by decide +kernel)) (by decide +kernel)), List.forall_mem_cons.mpr ⟨(gw_in (List.mem_of_getElem? (i := 67) (by decide +kernel)) (by decide +kernel)), List.forall_mem_cons.mpr ⟨(gw_in (List.mem_of_getElem? (i := 754) (by decide +kernel)) (by decide +kernel)), fun _ h => absurd h List.not_mem_nil⟩⟩⟩⟩⟩, by decide, F_HT, 12, rfl, by decide⟩
theorem ml_HT_233 : MLV "HeapTower" 233 y_HT_productBaseUpTo b_HT_productBaseUpTo 3 (some (.object "HeapTower$Base")) 1 6 := ⟨List.forall_mem_cons.mpr ⟨(gw_in (List.mem_of_getElem? (i := 755) (by decide +kernel)) (by decide +kernel)), List.forall_mem_cons.mpr ⟨(gw_in (List.mem_of_getElem? (i := 757) (by decide +kernel)) (by decide +kernel)), List.forall_mem_cons.mpr ⟨(gw_in (List.mem_of_getElem? (i := 27) (by decide +kernel)) (by decide +kernel)), List.forall_mem_cons.mpr ⟨(gw_in (List.mem_of_getElem? (i := 67) (by decide +kernel)) (by decide +kernel)), List.forall_mem_cons.mpr ⟨(gw_in (List.mem_of_getElem? (i := 758) (by decide +kernel)) (by decide +kernel)), fun _ h => absurd h List.not_mem_nil⟩⟩⟩⟩⟩, by decide, F_HT, 12, rfl, by decide⟩
theorem ml_HT_236 : MLV "HeapTower" 236 y_HT_leastOutside b_HT_leastOutside 6 (some .int) 2 6 := ⟨List.forall_mem_cons.mpr ⟨(gw_in (List.mem_of_getElem? (i := 777) (by decide +kernel)) (by decide +kernel)), List.forall_mem_cons.mpr ⟨(gw_in (List.mem_of_getElem? (i := 779) (by decide +kernel)) (by decide +kernel)), List.forall_mem_cons.mpr ⟨(gw_in (List.mem_of_getElem? (i := 30) (by decide +kernel)) (by decide +kernel)), List.forall_mem_cons.mpr ⟨(gw_in (List.mem_of_getElem? (i := 67) (by decide +kernel)) (by decide +kernel)), List.forall_mem_cons.mpr ⟨(gw_in (List.mem_of_getElem? (i := 780) (by decide +kernel)) (by decide +kernel)), fun _ h => absurd h List.not_mem_nil⟩⟩⟩⟩⟩, by decide, F_HT, 12, rfl, by decide⟩
theorem ml_HT_240 : MLS "HeapTower" 240 y_Ma_min b_Ma_min 2 (some .int) 2 := ⟨List.forall_mem_cons.mpr ⟨(gw_in (List.mem_of_getElem? (i := 781) (by decide +kernel)) (by decide +kernel)), List.forall_mem_cons.mpr ⟨(gw_in (List.mem_of_getElem? (i := 572) (by decide +kernel)) (by decide +kernel)), List.forall_mem_cons.mpr ⟨(gw_in (List.mem_of_getElem? (i := 75) (by decide +kernel)) (by decide +kernel)), List.forall_mem_cons.mpr ⟨(gw_in (List.mem_of_getElem? (i := 573) (by decide +kernel)) (by decide +kernel)), fun _ h => absurd h List.not_mem_nil⟩⟩⟩⟩, by decide⟩
theorem ml_HT_245 : MLV "HeapTower" 245 y_Po_become b_Po_become 2 none 1 3 := ⟨List.forall_mem_cons.mpr ⟨(gw_in (List.mem_of_getElem? (i := 786) (by decide +kernel)) (by decide +kernel)), List.forall_mem_cons.mpr ⟨(gw_in (List.mem_of_getElem? (i := 787) (by decide +kernel)) (by decide +kernel)), List.forall_mem_cons.mpr ⟨(gw_in (List.mem_of_getElem? (i := 788) (by decide +kernel)) (by decide +kernel)), List.forall_mem_cons.mpr ⟨(gw_in (List.mem_of_getElem? (i := 71) (by decide +kernel)) (by decide +kernel)), List.forall_mem_cons.mpr ⟨(gw_in (List.mem_of_getElem? (i := 789) (by decide +kernel)) (by decide +kernel)), fun _ h => absurd h List.not_mem_nil⟩⟩⟩⟩⟩, by decide, F_Po, 2, rfl, by decide⟩
theorem ml_HT_248 : MLV "HeapTower" 248 y_HT_addClaimTimesRow b_HT_addClaimTimesRow 7 none 1 6 := ⟨List.forall_mem_cons.mpr ⟨(gw_in (List.mem_of_getElem? (i := 794) (by decide +kernel)) (by decide +kernel)), List.forall_mem_cons.mpr ⟨(gw_in (List.mem_of_getElem? (i := 796) (by decide +kernel)) (by decide +kernel)), List.forall_mem_cons.mpr ⟨(gw_in (List.mem_of_getElem? (i := 31) (by decide +kernel)) (by decide +kernel)), List.forall_mem_cons.mpr ⟨(gw_in (List.mem_of_getElem? (i := 67) (by decide +kernel)) (by decide +kernel)), List.forall_mem_cons.mpr ⟨(gw_in (List.mem_of_getElem? (i := 797) (by decide +kernel)) (by decide +kernel)), fun _ h => absurd h List.not_mem_nil⟩⟩⟩⟩⟩, by decide, F_HT, 12, rfl, by decide⟩
theorem ml_HT_251 : MLV "HeapTower" 251 y_Nu_prime b_Nu_prime 1 (some .int) 0 2 := ⟨List.forall_mem_cons.mpr ⟨(gw_in (List.mem_of_getElem? (i := 771) (by decide +kernel)) (by decide +kernel)), List.forall_mem_cons.mpr ⟨(gw_in (List.mem_of_getElem? (i := 543) (by decide +kernel)) (by decide +kernel)), List.forall_mem_cons.mpr ⟨(gw_in (List.mem_of_getElem? (i := 544) (by decide +kernel)) (by decide +kernel)), List.forall_mem_cons.mpr ⟨(gw_in (List.mem_of_getElem? (i := 69) (by decide +kernel)) (by decide +kernel)), List.forall_mem_cons.mpr ⟨(gw_in (List.mem_of_getElem? (i := 545) (by decide +kernel)) (by decide +kernel)), fun _ h => absurd h List.not_mem_nil⟩⟩⟩⟩⟩, by decide, F_Nu, 2, rfl, by decide⟩
theorem ml_HT_273 : MLV "HeapTower" 273 y_HT_addWorkToDraft b_HT_addWorkToDraft 9 none 4 6 := ⟨List.forall_mem_cons.mpr ⟨(gw_in (List.mem_of_getElem? (i := 798) (by decide +kernel)) (by decide +kernel)), List.forall_mem_cons.mpr ⟨(gw_in (List.mem_of_getElem? (i := 800) (by decide +kernel)) (by decide +kernel)), List.forall_mem_cons.mpr ⟨(gw_in (List.mem_of_getElem? (i := 32) (by decide +kernel)) (by decide +kernel)), List.forall_mem_cons.mpr ⟨(gw_in (List.mem_of_getElem? (i := 67) (by decide +kernel)) (by decide +kernel)), List.forall_mem_cons.mpr ⟨(gw_in (List.mem_of_getElem? (i := 801) (by decide +kernel)) (by decide +kernel)), fun _ h => absurd h List.not_mem_nil⟩⟩⟩⟩⟩, by decide, F_HT, 12, rfl, by decide⟩
theorem ml_HT_277 : MLV "HeapTower" 277 y_Pr_together b_Pr_together 3 (some .int) 2 4 := ⟨List.forall_mem_cons.mpr ⟨(gw_in (List.mem_of_getElem? (i := 772) (by decide +kernel)) (by decide +kernel)), List.forall_mem_cons.mpr ⟨(gw_in (List.mem_of_getElem? (i := 456) (by decide +kernel)) (by decide +kernel)), List.forall_mem_cons.mpr ⟨(gw_in (List.mem_of_getElem? (i := 457) (by decide +kernel)) (by decide +kernel)), List.forall_mem_cons.mpr ⟨(gw_in (List.mem_of_getElem? (i := 68) (by decide +kernel)) (by decide +kernel)), List.forall_mem_cons.mpr ⟨(gw_in (List.mem_of_getElem? (i := 458) (by decide +kernel)) (by decide +kernel)), fun _ h => absurd h List.not_mem_nil⟩⟩⟩⟩⟩, by decide, F_Pr, 6, rfl, by decide⟩
theorem ml_HT_293 : MLV "HeapTower" 293 y_HT_offerRowProducts b_HT_offerRowProducts 4 none 1 6 := ⟨List.forall_mem_cons.mpr ⟨(gw_in (List.mem_of_getElem? (i := 759) (by decide +kernel)) (by decide +kernel)), List.forall_mem_cons.mpr ⟨(gw_in (List.mem_of_getElem? (i := 761) (by decide +kernel)) (by decide +kernel)), List.forall_mem_cons.mpr ⟨(gw_in (List.mem_of_getElem? (i := 28) (by decide +kernel)) (by decide +kernel)), List.forall_mem_cons.mpr ⟨(gw_in (List.mem_of_getElem? (i := 67) (by decide +kernel)) (by decide +kernel)), List.forall_mem_cons.mpr ⟨(gw_in (List.mem_of_getElem? (i := 762) (by decide +kernel)) (by decide +kernel)), fun _ h => absurd h List.not_mem_nil⟩⟩⟩⟩⟩, by decide, F_HT, 12, rfl, by decide⟩
theorem ml_HT_296 : MLV "HeapTower" 296 y_HT_loadRowProduct b_HT_loadRowProduct 11 none 2 6 := ⟨List.forall_mem_cons.mpr ⟨(gw_in (List.mem_of_getElem? (i := 763) (by decide +kernel)) (by decide +kernel)), List.forall_mem_cons.mpr ⟨(gw_in (List.mem_of_getElem? (i := 765) (by decide +kernel)) (by decide +kernel)), List.forall_mem_cons.mpr ⟨(gw_in (List.mem_of_getElem? (i := 29) (by decide +kernel)) (by decide +kernel)), List.forall_mem_cons.mpr ⟨(gw_in (List.mem_of_getElem? (i := 67) (by decide +kernel)) (by decide +kernel)), List.forall_mem_cons.mpr ⟨(gw_in (List.mem_of_getElem? (i := 766) (by decide +kernel)) (by decide +kernel)), fun _ h => absurd h List.not_mem_nil⟩⟩⟩⟩⟩, by decide, F_HT, 12, rfl, by decide⟩
theorem ml_HT_302 : MLV "HeapTower" 302 y_He_numbersOf b_He_numbersOf 2 (some (.array .int)) 1 1 := ⟨List.forall_mem_cons.mpr ⟨(gw_in (List.mem_of_getElem? (i := 767) (by decide +kernel)) (by decide +kernel)), List.forall_mem_cons.mpr ⟨(gw_in (List.mem_of_getElem? (i := 768) (by decide +kernel)) (by decide +kernel)), List.forall_mem_cons.mpr ⟨(gw_in (List.mem_of_getElem? (i := 769) (by decide +kernel)) (by decide +kernel)), List.forall_mem_cons.mpr ⟨(gw_in (List.mem_of_getElem? (i := 73) (by decide +kernel)) (by decide +kernel)), List.forall_mem_cons.mpr ⟨(gw_in (List.mem_of_getElem? (i := 770) (by decide +kernel)) (by decide +kernel)), fun _ h => absurd h List.not_mem_nil⟩⟩⟩⟩⟩, by decide, F_He, 5, rfl, by decide⟩
theorem D_HT_swap_0 : decode b_HT_swap 0 = .ok (.aload_n 0, 1) := by decide +kernel
theorem D_HT_swap_1 : decode b_HT_swap 1 = .ok (.getfield 74, 3) := by decide +kernel
theorem D_HT_swap_4 : decode b_HT_swap 4 = .ok (.astore_n 1, 1) := by decide +kernel
theorem D_HT_swap_5 : decode b_HT_swap 5 = .ok (.aload_n 0, 1) := by decide +kernel
theorem D_HT_swap_6 : decode b_HT_swap 6 = .ok (.aload_n 0, 1) := by decide +kernel
theorem D_HT_swap_7 : decode b_HT_swap 7 = .ok (.getfield 78, 3) := by decide +kernel
theorem D_HT_swap_10 : decode b_HT_swap 10 = .ok (.putfield 74, 3) := by decide +kernel
theorem D_HT_swap_13 : decode b_HT_swap 13 = .ok (.aload_n 0, 1) := by decide +kernel
theorem D_HT_swap_14 : decode b_HT_swap 14 = .ok (.aload_n 1, 1) := by decide +kernel
theorem D_HT_swap_15 : decode b_HT_swap 15 = .ok (.putfield 78, 3) := by decide +kernel
theorem D_HT_swap_18 : decode b_HT_swap 18 = .ok (.aload_n 0, 1) := by decide +kernel
theorem D_HT_swap_19 : decode b_HT_swap 19 = .ok (.invokevirtual 101, 3) := by decide +kernel
theorem D_HT_swap_22 : decode b_HT_swap 22 = .ok (.aload_n 0, 1) := by decide +kernel
theorem D_HT_swap_23 : decode b_HT_swap 23 = .ok (.getfield 66, 3) := by decide +kernel
theorem D_HT_swap_26 : decode b_HT_swap 26 = .ok (.iconst 0, 1) := by decide +kernel
theorem D_HT_swap_27 : decode b_HT_swap 27 = .ok (.invokevirtual 224, 3) := by decide +kernel
theorem D_HT_swap_30 : decode b_HT_swap 30 = .ok (.aload_n 0, 1) := by decide +kernel
theorem D_HT_swap_31 : decode b_HT_swap 31 = .ok (.getfield 74, 3) := by decide +kernel
theorem D_HT_swap_34 : decode b_HT_swap 34 = .ok (.invokevirtual 154, 3) := by decide +kernel
theorem D_HT_swap_37 : decode b_HT_swap 37 = .ok (.ireturn, 1) := by decide +kernel
abbrev rm_HT_swap : Room := { frames := 3, cells := 0, slots := 0, locals := 64 }
def T_HT_swap (a0 : Nat) (M : Mem) (post : Int32 → Mem → Prop) : Prop := (isK M a0 6 ∧ ∃ q1, gR M a0 10 = some q1 ∧ isK M a0 6 ∧ ∃ q7, gR M a0 11 = some q7 ∧ isK M a0 6 ∧ isK (sR M a0 10 (some q7)) a0 6 ∧ isK (sR (sR M a0 10 (some q7)) a0 11 (some q1)) a0 6 ∧ T_HT_clearClaims a0 (sR (sR M a0 10 (some q7)) a0 11 (some q1)) (fun M19 => isK M19 a0 6 ∧ ∃ q23, gR M19 a0 9 = some q23 ∧ isK M19 q23 0 ∧ T_Ba_forget q23 0 M19 (fun M27 => isK M27 a0 6 ∧ ∃ q31, gR M27 a0 10 = some q31 ∧ isK M27 q31 1 ∧ T_He_size q31 M27 (fun r34 M34 => post r34 M34))))
set_option maxRecDepth 20000 in
theorem S_HT_swap {l : Launch} {D : va_G} {B t g : Nat} {d : Nat → Nat} {ac : Nat → ClassId}  (a0 : Nat) (M : Mem) (post : Int32 → Mem → Prop) (h : T_HT_swap a0 M post) : Met l y_HT_swap w_HT_swap rm_HT_swap (va_Pc [.ref (d a0)] (PRE D B d g t ac M)) (QI D B d g ac post) 0 0 (AB B) := by
  refine met_i (by decide +kernel) (Nat.le_of_ble_eq_true rfl) (fun x h1 hR h3 h4 h5 h6 h7 h8 C Rt => ?_)
  subst h3 h4 h5 h6 h7 h8
  unfold T_HT_swap at h
  show J x 2 0 [(0, .ref (xd x a0))] [] 0 0 M
  refine J_aload_n C 0 D_HT_swap_0 rfl rfl ?_
  obtain ⟨c_1, q1, e_1, h⟩ := h
  refine J_getR C fl_HT_74 D_HT_swap_1 c_1 e_1 ?_
  refine J_astore_n (lv' := [(1, .ref (xd x q1)), (0, .ref (xd x a0))]) C 1 D_HT_swap_4 rfl (by decide) rfl ?_
  refine J_aload_n C 0 D_HT_swap_5 rfl rfl ?_
  refine J_aload_n C 0 D_HT_swap_6 rfl rfl ?_
  obtain ⟨c_7, q7, e_7, h⟩ := h
  refine J_getR C fl_HT_78 D_HT_swap_7 c_7 e_7 ?_
  obtain ⟨c_10, h⟩ := h
  refine J_putR C fl_HT_74 D_HT_swap_10 c_10 ?_
  refine J_aload_n C 0 D_HT_swap_13 rfl rfl ?_
  refine J_aload_n C 1 D_HT_swap_14 rfl rfl ?_
  obtain ⟨c_15, h⟩ := h
  refine J_putR C fl_HT_78 D_HT_swap_15 c_15 ?_
  refine J_aload_n C 0 D_HT_swap_18 rfl rfl ?_
  obtain ⟨c_19, h⟩ := h
  refine J_callVv C ml_HT_101 (S_HT_clearClaims _ _ _ h) (by rw [hR]; decide) rfl c_19 rfl (Nat.le_of_ble_eq_true rfl) D_HT_swap_19 (fun M19 h => ?_)
  refine J_aload_n C 0 D_HT_swap_22 rfl rfl ?_
  obtain ⟨c_23, q23, e_23, h⟩ := h
  refine J_getR C fl_HT_66 D_HT_swap_23 c_23 e_23 ?_
  refine J_iconst (v := 0) C D_HT_swap_26 rfl ?_
  obtain ⟨c_27, h⟩ := h
  refine J_callVv C ml_HT_224 (S_Ba_forget _ _ _ _ h) (by rw [hR]; decide) rfl c_27 rfl (Nat.le_of_ble_eq_true rfl) D_HT_swap_27 (fun M27 h => ?_)
  refine J_aload_n C 0 D_HT_swap_30 rfl rfl ?_
  obtain ⟨c_31, q31, e_31, h⟩ := h
  refine J_getR C fl_HT_74 D_HT_swap_31 c_31 e_31 ?_
  obtain ⟨c_34, h⟩ := h
  refine J_callVi C ml_HT_154 (S_He_size _ _ _ h) (by rw [hR]; decide) rfl c_34 rfl (Nat.le_of_ble_eq_true rfl) D_HT_swap_34 (fun r34 M34 h => ?_)
  exact J_iret C Rt D_HT_swap_37 rfl h
theorem D_HT_sumBaseUpTo_0 : decode b_HT_sumBaseUpTo 0 = .ok (.aload_n 0, 1) := by decide +kernel
theorem D_HT_sumBaseUpTo_1 : decode b_HT_sumBaseUpTo 1 = .ok (.getfield 59, 3) := by decide +kernel
theorem D_HT_sumBaseUpTo_4 : decode b_HT_sumBaseUpTo 4 = .ok (.invokevirtual 280, 3) := by decide +kernel
theorem D_HT_sumBaseUpTo_7 : decode b_HT_sumBaseUpTo 7 = .ok (.iconst 1, 1) := by decide +kernel
theorem D_HT_sumBaseUpTo_8 : decode b_HT_sumBaseUpTo 8 = .ok (.iadd, 1) := by decide +kernel
theorem D_HT_sumBaseUpTo_9 : decode b_HT_sumBaseUpTo 9 = .ok (.istore_n 2, 1) := by decide +kernel
theorem D_HT_sumBaseUpTo_10 : decode b_HT_sumBaseUpTo 10 = .ok (.iload_n 2, 1) := by decide +kernel
theorem D_HT_sumBaseUpTo_11 : decode b_HT_sumBaseUpTo 11 = .ok (.iload_n 1, 1) := by decide +kernel
theorem D_HT_sumBaseUpTo_12 : decode b_HT_sumBaseUpTo 12 = .ok (.if_icmp .gt 49, 3) := by decide +kernel
theorem D_HT_sumBaseUpTo_15 : decode b_HT_sumBaseUpTo 15 = .ok (.aload_n 0, 1) := by decide +kernel
theorem D_HT_sumBaseUpTo_16 : decode b_HT_sumBaseUpTo 16 = .ok (.getfield 59, 3) := by decide +kernel
theorem D_HT_sumBaseUpTo_19 : decode b_HT_sumBaseUpTo 19 = .ok (.iload_n 2, 1) := by decide +kernel
theorem D_HT_sumBaseUpTo_20 : decode b_HT_sumBaseUpTo 20 = .ok (.invokevirtual 283, 3) := by decide +kernel
theorem D_HT_sumBaseUpTo_23 : decode b_HT_sumBaseUpTo 23 = .ok (.aload_n 0, 1) := by decide +kernel
theorem D_HT_sumBaseUpTo_24 : decode b_HT_sumBaseUpTo 24 = .ok (.getfield 74, 3) := by decide +kernel
theorem D_HT_sumBaseUpTo_27 : decode b_HT_sumBaseUpTo 27 = .ok (.aload_n 0, 1) := by decide +kernel
theorem D_HT_sumBaseUpTo_28 : decode b_HT_sumBaseUpTo 28 = .ok (.getfield 59, 3) := by decide +kernel
theorem D_HT_sumBaseUpTo_31 : decode b_HT_sumBaseUpTo 31 = .ok (.iload_n 2, 1) := by decide +kernel
theorem D_HT_sumBaseUpTo_32 : decode b_HT_sumBaseUpTo 32 = .ok (.invokevirtual 286, 3) := by decide +kernel
theorem D_HT_sumBaseUpTo_35 : decode b_HT_sumBaseUpTo 35 = .ok (.aload_n 0, 1) := by decide +kernel
theorem D_HT_sumBaseUpTo_36 : decode b_HT_sumBaseUpTo 36 = .ok (.getfield 78, 3) := by decide +kernel
theorem D_HT_sumBaseUpTo_39 : decode b_HT_sumBaseUpTo 39 = .ok (.aload_n 0, 1) := by decide +kernel
theorem D_HT_sumBaseUpTo_40 : decode b_HT_sumBaseUpTo 40 = .ok (.getfield 59, 3) := by decide +kernel
theorem D_HT_sumBaseUpTo_43 : decode b_HT_sumBaseUpTo 43 = .ok (.iload_n 2, 1) := by decide +kernel
theorem D_HT_sumBaseUpTo_44 : decode b_HT_sumBaseUpTo 44 = .ok (.invokevirtual 286, 3) := by decide +kernel
theorem D_HT_sumBaseUpTo_47 : decode b_HT_sumBaseUpTo 47 = .ok (.aload_n 0, 1) := by decide +kernel
theorem D_HT_sumBaseUpTo_48 : decode b_HT_sumBaseUpTo 48 = .ok (.getfield 59, 3) := by decide +kernel
theorem D_HT_sumBaseUpTo_51 : decode b_HT_sumBaseUpTo 51 = .ok (.iload_n 2, 1) := by decide +kernel
theorem D_HT_sumBaseUpTo_52 : decode b_HT_sumBaseUpTo 52 = .ok (.invokevirtual 290, 3) := by decide +kernel
theorem D_HT_sumBaseUpTo_55 : decode b_HT_sumBaseUpTo 55 = .ok (.iinc 2 1, 3) := by decide +kernel
theorem D_HT_sumBaseUpTo_58 : decode b_HT_sumBaseUpTo 58 = .ok (.goto (-48), 3) := by decide +kernel
theorem D_HT_sumBaseUpTo_61 : decode b_HT_sumBaseUpTo 61 = .ok (.aload_n 0, 1) := by decide +kernel
theorem D_HT_sumBaseUpTo_62 : decode b_HT_sumBaseUpTo 62 = .ok (.getfield 59, 3) := by decide +kernel
theorem D_HT_sumBaseUpTo_65 : decode b_HT_sumBaseUpTo 65 = .ok (.areturn, 1) := by decide +kernel
def B_HT_sumBaseUpTo_10 (k10 : Nat → Int32 → Int32 → Mem → Prop) (post : Nat → Mem → Prop) (a0 : Nat) (x1 : Int32) (x2 : Int32) (M : Mem) : Prop := ((x1 < x2 → (isK M a0 6 ∧ ∃ q62, gR M a0 7 = some q62 ∧ post q62 M)) ∧ (¬ x1 < x2 → (isK M a0 6 ∧ ∃ q16, gR M a0 7 = some q16 ∧ isK M q16 0 ∧ isK M a0 6 ∧ T_Ba_open q16 x2 M (fun M20 => isK M20 a0 6 ∧ isK M20 a0 6 ∧ ∃ q24, gR M20 a0 10 = some q24 ∧ isK M20 a0 6 ∧ ∃ q28, gR M20 a0 7 = some q28 ∧ isK M20 q24 1 ∧ T_He_offerRows q24 q28 x2 M20 (fun M32 => isK M32 a0 6 ∧ ∃ q36, gR M32 a0 11 = some q36 ∧ isK M32 a0 6 ∧ ∃ q40, gR M32 a0 7 = some q40 ∧ isK M32 q36 1 ∧ T_He_offerRows q36 q40 x2 M32 (fun M44 => isK M44 a0 6 ∧ ∃ q48, gR M44 a0 7 = some q48 ∧ isK M44 q48 0 ∧ T_Ba_close q48 x2 M44 (fun M52 => k10 a0 x1 (x2 + 1) M52)))))))
set_option maxRecDepth 20000 in
theorem Z_HT_sumBaseUpTo_10 {x : Ctx} {post : Nat → Mem → Prop} (C : Ok x b_HT_sumBaseUpTo 3 "HeapTower") (hR : (xR x).frames = 5 ∧ (xR x).locals = 131) (Bd : Bdg x 0) {z : Nat} (Rt : RetRD x (.object "HeapTower$Base") post z) {k10 : Nat → Int32 → Int32 → Mem → Prop} (K10 : ∀ x', Sm x x' → ∀ (a0 : Nat) (x1 : Int32) (x2 : Int32) (M : Mem), nC M + xg x' ≤ 2800 → k10 a0 x1 x2 M → J x' 3 10 [(0, .ref (xd x' a0)), (1, .int x1), (2, .int x2)] [] (iC x' M) (iS 0 x' M) M) (a0 : Nat) (x1 : Int32) (x2 : Int32) (M : Mem) (hN : nC M + xg x ≤ 2800) (h : B_HT_sumBaseUpTo_10 k10 post a0 x1 x2 M) : J x 3 10 [(0, .ref (xd x a0)), (1, .int x1), (2, .int x2)] [] (iC x M) (iS 0 x M) M := by
  unfold B_HT_sumBaseUpTo_10 at h
  refine J_iload_n C 2 D_HT_sumBaseUpTo_10 rfl rfl ?_
  refine J_iload_n C 1 D_HT_sumBaseUpTo_11 rfl rfl ?_
  refine J_icmp_gt (tgt := 61) C D_HT_sumBaseUpTo_12 (by decide) (fun c_12 => ?_) (fun c_12 => ?_)
  · have h := h.1 c_12
    refine J_aload_n C 0 D_HT_sumBaseUpTo_61 rfl rfl ?_
    obtain ⟨c_62, q62, e_62, h⟩ := h
    refine J_getR C fl_HT_59 D_HT_sumBaseUpTo_62 c_62 e_62 ?_
    exact JD_aret C Rt hN D_HT_sumBaseUpTo_65 h
  · have h := h.2 c_12
    refine J_aload_n C 0 D_HT_sumBaseUpTo_15 rfl rfl ?_
    obtain ⟨c_16, q16, e_16, h⟩ := h
    refine J_getR C fl_HT_59 D_HT_sumBaseUpTo_16 c_16 e_16 ?_
    refine J_iload_n C 2 D_HT_sumBaseUpTo_19 rfl rfl ?_
    obtain ⟨c_20, h⟩ := h
    refine J_sub [0, 1, 2] rfl ?_
    obtain ⟨i_20_0, h⟩ := h
    refine JD_callVv C Bd hN ml_HT_283 (S_Ba_open _ _ _ _ hN h) (by rw [hR.1, hR.2]; decide) rfl c_20 rfl (Nat.le_of_ble_eq_true rfl) D_HT_sumBaseUpTo_20 (fun x ex M20 hN hq h => ?_)
    have C := ex.ok C
    have hR := ex.fr hR
    have Bd := ex.bd Bd
    have Rt := ex.rr Rt
    have K10 := fun x2 s2 => K10 x2 (ex.tr s2)
    obtain ⟨j_20_0, h⟩ := h
    rw [hq a0 6 (by decide) i_20_0 j_20_0]
    refine J_aload_n C 0 D_HT_sumBaseUpTo_23 rfl rfl ?_
    obtain ⟨c_24, q24, e_24, h⟩ := h
    refine J_getR C fl_HT_74 D_HT_sumBaseUpTo_24 c_24 e_24 ?_
    refine J_aload_n C 0 D_HT_sumBaseUpTo_27 rfl rfl ?_
    obtain ⟨c_28, q28, e_28, h⟩ := h
    refine J_getR C fl_HT_59 D_HT_sumBaseUpTo_28 c_28 e_28 ?_
    refine J_iload_n C 2 D_HT_sumBaseUpTo_31 rfl rfl ?_
    obtain ⟨c_32, h⟩ := h
    refine JS_callVv C Bd hN ml_HT_286 (S_He_offerRows _ _ _ _ _ h) ⟨rfl, rfl⟩ (by rw [hR.1, hR.2]; decide) rfl c_32 rfl (Nat.le_of_ble_eq_true rfl) D_HT_sumBaseUpTo_32 (fun M32 hN h => ?_)
    refine J_aload_n C 0 D_HT_sumBaseUpTo_35 rfl rfl ?_
    obtain ⟨c_36, q36, e_36, h⟩ := h
    refine J_getR C fl_HT_78 D_HT_sumBaseUpTo_36 c_36 e_36 ?_
    refine J_aload_n C 0 D_HT_sumBaseUpTo_39 rfl rfl ?_
    obtain ⟨c_40, q40, e_40, h⟩ := h
    refine J_getR C fl_HT_59 D_HT_sumBaseUpTo_40 c_40 e_40 ?_
    refine J_iload_n C 2 D_HT_sumBaseUpTo_43 rfl rfl ?_
    obtain ⟨c_44, h⟩ := h
    refine JS_callVv C Bd hN ml_HT_286 (S_He_offerRows _ _ _ _ _ h) ⟨rfl, rfl⟩ (by rw [hR.1, hR.2]; decide) rfl c_44 rfl (Nat.le_of_ble_eq_true rfl) D_HT_sumBaseUpTo_44 (fun M44 hN h => ?_)
    refine J_aload_n C 0 D_HT_sumBaseUpTo_47 rfl rfl ?_
    obtain ⟨c_48, q48, e_48, h⟩ := h
    refine J_getR C fl_HT_59 D_HT_sumBaseUpTo_48 c_48 e_48 ?_
    refine J_iload_n C 2 D_HT_sumBaseUpTo_51 rfl rfl ?_
    obtain ⟨c_52, h⟩ := h
    refine JS_callVv C Bd hN ml_HT_290 (S_Ba_close _ _ _ _ h) ⟨rfl, rfl⟩ (by rw [hR.1, hR.2]; decide) rfl c_52 rfl (Nat.le_of_ble_eq_true rfl) D_HT_sumBaseUpTo_52 (fun M52 hN h => ?_)
    refine J_iinc (v := x2 + 1) (lv' := [(2, .int (x2 + 1)), (0, .ref (xd x a0)), (1, .int x1)]) C 2 2 D_HT_sumBaseUpTo_55 rfl rfl (by decide) rfl ?_
    refine J_goto (tgt := 10) C D_HT_sumBaseUpTo_58 (by decide) ?_
    exact J_sub [1, 2, 0] rfl (K10 x (Sm.rf x) _ _ _ _ hN h)
def L_HT_sumBaseUpTo_10 (post : Nat → Mem → Prop) : Nat → Nat → Int32 → Int32 → Mem → Prop
  | 0, _, _, _, _ => False
  | n + 1, a0, x1, x2, M => B_HT_sumBaseUpTo_10 (L_HT_sumBaseUpTo_10 post n) post a0 x1 x2 M
theorem Y_HT_sumBaseUpTo_10 {x : Ctx} {post : Nat → Mem → Prop} (C : Ok x b_HT_sumBaseUpTo 3 "HeapTower") (hR : (xR x).frames = 5 ∧ (xR x).locals = 131) (Bd : Bdg x 0) {z : Nat} (Rt : RetRD x (.object "HeapTower$Base") post z) : ∀ (n : Nat) (x' : Ctx), Sm x x' → ∀ (a0 : Nat) (x1 : Int32) (x2 : Int32) (M : Mem), nC M + xg x' ≤ 2800 → L_HT_sumBaseUpTo_10 post n a0 x1 x2 M → J x' 3 10 [(0, .ref (xd x' a0)), (1, .int x1), (2, .int x2)] [] (iC x' M) (iS 0 x' M) M := by
  intro n
  induction n with
  | zero => intro x' ex a0 x1 x2 M hN h; exact h.elim
  | succ n ih => intro x' ex a0 x1 x2 M hN h; exact Z_HT_sumBaseUpTo_10 (ex.ok C) (ex.fr hR) (ex.bd Bd) (ex.rr Rt) (fun x2 s2 => ih x2 (ex.tr s2)) _ _ _ _ hN h
def T_HT_sumBaseUpTo (a0 : Nat) (x1 : Int32) (M : Mem) (post : Nat → Mem → Prop) : Prop := (isK M a0 6 ∧ ∃ q1, gR M a0 7 = some q1 ∧ isK M q1 0 ∧ T_Ba_reached q1 M (fun r4 M4 => ∃ n, L_HT_sumBaseUpTo_10 post n a0 x1 (r4 + 1) M4))
set_option maxRecDepth 20000 in
theorem S_HT_sumBaseUpTo {l : Launch} {D : va_G} {B t g : Nat} {d : Nat → Nat} {ac : Nat → ClassId} (a0 : Nat) (x1 : Int32) (M : Mem) (post : Nat → Mem → Prop) (hN : nC M + g ≤ 2800) (h : T_HT_sumBaseUpTo a0 x1 M post) : Met l y_HT_sumBaseUpTo w_HT_sumBaseUpTo (rmD 5 131 (nC M + g)) (va_Pc [.ref (d a0), .int x1] (PRE D B d g t ac M)) (QRD D B ac post) (2800 - (nC M + g)) (2560 * (2800 - (nC M + g))) (AB B) := by
  refine met_rD (by decide +kernel) (Or.inl ⟨_, rfl⟩) (Nat.le_of_ble_eq_true rfl) hN (fun x h1 hR h3 h4 h5 h6 h7 h8 C Bd Rt hN => ?_)
  subst h3 h4 h5 h6 h7 h8
  unfold T_HT_sumBaseUpTo at h
  show J x 3 0 [(0, .ref (xd x a0)), (1, .int x1)] [] (iC x M) (iS 0 x M) M
  refine J_aload_n C 0 D_HT_sumBaseUpTo_0 rfl rfl ?_
  obtain ⟨c_1, q1, e_1, h⟩ := h
  refine J_getR C fl_HT_59 D_HT_sumBaseUpTo_1 c_1 e_1 ?_
  obtain ⟨c_4, h⟩ := h
  refine JS_callVi C Bd hN ml_HT_280 (S_Ba_reached _ _ _ h) ⟨rfl, rfl⟩ (by rw [hR.1, hR.2]; decide) rfl c_4 rfl (Nat.le_of_ble_eq_true rfl) D_HT_sumBaseUpTo_4 (fun r4 M4 hN h => ?_)
  refine J_iconst (v := 1) C D_HT_sumBaseUpTo_7 rfl ?_
  refine J_iadd C D_HT_sumBaseUpTo_8 ?_
  refine J_istore_n (lv' := [(2, .int (r4 + 1)), (0, .ref (xd x a0)), (1, .int x1)]) C 2 D_HT_sumBaseUpTo_9 rfl (by decide) rfl ?_
  obtain ⟨n, h⟩ := h
  exact J_sub [1, 2, 0] rfl (Y_HT_sumBaseUpTo_10 C hR Bd Rt  n x (Sm.rf x) _ _ _ _ hN h)
theorem D_HT_loadRowProduct_0 : decode b_HT_loadRowProduct 0 = .ok (.aload_n 0, 1) := by decide +kernel
theorem D_HT_loadRowProduct_1 : decode b_HT_loadRowProduct 1 = .ok (.getfield 74, 3) := by decide +kernel
theorem D_HT_loadRowProduct_4 : decode b_HT_loadRowProduct 4 = .ok (.iload_n 1, 1) := by decide +kernel
theorem D_HT_loadRowProduct_5 : decode b_HT_loadRowProduct 5 = .ok (.invokevirtual 302, 3) := by decide +kernel
theorem D_HT_loadRowProduct_8 : decode b_HT_loadRowProduct 8 = .ok (.astore_n 3, 1) := by decide +kernel
theorem D_HT_loadRowProduct_9 : decode b_HT_loadRowProduct 9 = .ok (.aload_n 0, 1) := by decide +kernel
theorem D_HT_loadRowProduct_10 : decode b_HT_loadRowProduct 10 = .ok (.getfield 78, 3) := by decide +kernel
theorem D_HT_loadRowProduct_13 : decode b_HT_loadRowProduct 13 = .ok (.iload_n 2, 1) := by decide +kernel
theorem D_HT_loadRowProduct_14 : decode b_HT_loadRowProduct 14 = .ok (.invokevirtual 302, 3) := by decide +kernel
theorem D_HT_loadRowProduct_17 : decode b_HT_loadRowProduct 17 = .ok (.astore 4, 2) := by decide +kernel
theorem D_HT_loadRowProduct_19 : decode b_HT_loadRowProduct 19 = .ok (.aload_n 0, 1) := by decide +kernel
theorem D_HT_loadRowProduct_20 : decode b_HT_loadRowProduct 20 = .ok (.getfield 19, 3) := by decide +kernel
theorem D_HT_loadRowProduct_23 : decode b_HT_loadRowProduct 23 = .ok (.invokevirtual 251, 3) := by decide +kernel
theorem D_HT_loadRowProduct_26 : decode b_HT_loadRowProduct 26 = .ok (.istore 5, 2) := by decide +kernel
theorem D_HT_loadRowProduct_28 : decode b_HT_loadRowProduct 28 = .ok (.aload_n 0, 1) := by decide +kernel
theorem D_HT_loadRowProduct_29 : decode b_HT_loadRowProduct 29 = .ok (.getfield 32, 3) := by decide +kernel
theorem D_HT_loadRowProduct_32 : decode b_HT_loadRowProduct 32 = .ok (.iconst 0, 1) := by decide +kernel
theorem D_HT_loadRowProduct_33 : decode b_HT_loadRowProduct 33 = .ok (.invokestatic 306, 3) := by decide +kernel
theorem D_HT_loadRowProduct_36 : decode b_HT_loadRowProduct 36 = .ok (.iconst 0, 1) := by decide +kernel
theorem D_HT_loadRowProduct_37 : decode b_HT_loadRowProduct 37 = .ok (.istore 6, 2) := by decide +kernel
theorem D_HT_loadRowProduct_39 : decode b_HT_loadRowProduct 39 = .ok (.iload 6, 2) := by decide +kernel
theorem D_HT_loadRowProduct_41 : decode b_HT_loadRowProduct 41 = .ok (.aload_n 0, 1) := by decide +kernel
theorem D_HT_loadRowProduct_42 : decode b_HT_loadRowProduct 42 = .ok (.getfield 10, 3) := by decide +kernel
theorem D_HT_loadRowProduct_45 : decode b_HT_loadRowProduct 45 = .ok (.aload_n 0, 1) := by decide +kernel
theorem D_HT_loadRowProduct_46 : decode b_HT_loadRowProduct 46 = .ok (.getfield 74, 3) := by decide +kernel
theorem D_HT_loadRowProduct_49 : decode b_HT_loadRowProduct 49 = .ok (.iload_n 1, 1) := by decide +kernel
theorem D_HT_loadRowProduct_50 : decode b_HT_loadRowProduct 50 = .ok (.invokevirtual 162, 3) := by decide +kernel
theorem D_HT_loadRowProduct_53 : decode b_HT_loadRowProduct 53 = .ok (.invokevirtual 213, 3) := by decide +kernel
theorem D_HT_loadRowProduct_56 : decode b_HT_loadRowProduct 56 = .ok (.if_icmp .ge 127, 3) := by decide +kernel
theorem D_HT_loadRowProduct_59 : decode b_HT_loadRowProduct 59 = .ok (.aload_n 0, 1) := by decide +kernel
theorem D_HT_loadRowProduct_60 : decode b_HT_loadRowProduct 60 = .ok (.getfield 10, 3) := by decide +kernel
theorem D_HT_loadRowProduct_63 : decode b_HT_loadRowProduct 63 = .ok (.aload_n 0, 1) := by decide +kernel
theorem D_HT_loadRowProduct_64 : decode b_HT_loadRowProduct 64 = .ok (.getfield 74, 3) := by decide +kernel
theorem D_HT_loadRowProduct_67 : decode b_HT_loadRowProduct 67 = .ok (.iload_n 1, 1) := by decide +kernel
theorem D_HT_loadRowProduct_68 : decode b_HT_loadRowProduct 68 = .ok (.invokevirtual 162, 3) := by decide +kernel
theorem D_HT_loadRowProduct_71 : decode b_HT_loadRowProduct 71 = .ok (.iload 6, 2) := by decide +kernel
theorem D_HT_loadRowProduct_73 : decode b_HT_loadRowProduct 73 = .ok (.invokevirtual 270, 3) := by decide +kernel
theorem D_HT_loadRowProduct_76 : decode b_HT_loadRowProduct 76 = .ok (.istore 7, 2) := by decide +kernel
theorem D_HT_loadRowProduct_78 : decode b_HT_loadRowProduct 78 = .ok (.aload_n 3, 1) := by decide +kernel
theorem D_HT_loadRowProduct_79 : decode b_HT_loadRowProduct 79 = .ok (.iload 7, 2) := by decide +kernel
theorem D_HT_loadRowProduct_81 : decode b_HT_loadRowProduct 81 = .ok (.iaload, 1) := by decide +kernel
theorem D_HT_loadRowProduct_82 : decode b_HT_loadRowProduct 82 = .ok (.ifCond .ne 6, 3) := by decide +kernel
theorem D_HT_loadRowProduct_85 : decode b_HT_loadRowProduct 85 = .ok (.goto 92, 3) := by decide +kernel
theorem D_HT_loadRowProduct_88 : decode b_HT_loadRowProduct 88 = .ok (.iconst 0, 1) := by decide +kernel
theorem D_HT_loadRowProduct_89 : decode b_HT_loadRowProduct 89 = .ok (.istore 8, 2) := by decide +kernel
theorem D_HT_loadRowProduct_91 : decode b_HT_loadRowProduct 91 = .ok (.iload 8, 2) := by decide +kernel
theorem D_HT_loadRowProduct_93 : decode b_HT_loadRowProduct 93 = .ok (.aload_n 0, 1) := by decide +kernel
theorem D_HT_loadRowProduct_94 : decode b_HT_loadRowProduct 94 = .ok (.getfield 10, 3) := by decide +kernel
theorem D_HT_loadRowProduct_97 : decode b_HT_loadRowProduct 97 = .ok (.aload_n 0, 1) := by decide +kernel
theorem D_HT_loadRowProduct_98 : decode b_HT_loadRowProduct 98 = .ok (.getfield 78, 3) := by decide +kernel
theorem D_HT_loadRowProduct_101 : decode b_HT_loadRowProduct 101 = .ok (.iload_n 2, 1) := by decide +kernel
theorem D_HT_loadRowProduct_102 : decode b_HT_loadRowProduct 102 = .ok (.invokevirtual 162, 3) := by decide +kernel
theorem D_HT_loadRowProduct_105 : decode b_HT_loadRowProduct 105 = .ok (.invokevirtual 213, 3) := by decide +kernel
theorem D_HT_loadRowProduct_108 : decode b_HT_loadRowProduct 108 = .ok (.if_icmp .ge 69, 3) := by decide +kernel
theorem D_HT_loadRowProduct_111 : decode b_HT_loadRowProduct 111 = .ok (.aload_n 0, 1) := by decide +kernel
theorem D_HT_loadRowProduct_112 : decode b_HT_loadRowProduct 112 = .ok (.getfield 10, 3) := by decide +kernel
theorem D_HT_loadRowProduct_115 : decode b_HT_loadRowProduct 115 = .ok (.aload_n 0, 1) := by decide +kernel
theorem D_HT_loadRowProduct_116 : decode b_HT_loadRowProduct 116 = .ok (.getfield 78, 3) := by decide +kernel
theorem D_HT_loadRowProduct_119 : decode b_HT_loadRowProduct 119 = .ok (.iload_n 2, 1) := by decide +kernel
theorem D_HT_loadRowProduct_120 : decode b_HT_loadRowProduct 120 = .ok (.invokevirtual 162, 3) := by decide +kernel
theorem D_HT_loadRowProduct_123 : decode b_HT_loadRowProduct 123 = .ok (.iload 8, 2) := by decide +kernel
theorem D_HT_loadRowProduct_125 : decode b_HT_loadRowProduct 125 = .ok (.invokevirtual 270, 3) := by decide +kernel
theorem D_HT_loadRowProduct_128 : decode b_HT_loadRowProduct 128 = .ok (.istore 9, 2) := by decide +kernel
theorem D_HT_loadRowProduct_130 : decode b_HT_loadRowProduct 130 = .ok (.aload_n 0, 1) := by decide +kernel
theorem D_HT_loadRowProduct_131 : decode b_HT_loadRowProduct 131 = .ok (.getfield 10, 3) := by decide +kernel
theorem D_HT_loadRowProduct_134 : decode b_HT_loadRowProduct 134 = .ok (.iload 7, 2) := by decide +kernel
theorem D_HT_loadRowProduct_136 : decode b_HT_loadRowProduct 136 = .ok (.iload 9, 2) := by decide +kernel
theorem D_HT_loadRowProduct_138 : decode b_HT_loadRowProduct 138 = .ok (.invokevirtual 277, 3) := by decide +kernel
theorem D_HT_loadRowProduct_141 : decode b_HT_loadRowProduct 141 = .ok (.istore 10, 2) := by decide +kernel
theorem D_HT_loadRowProduct_143 : decode b_HT_loadRowProduct 143 = .ok (.aload_n 0, 1) := by decide +kernel
theorem D_HT_loadRowProduct_144 : decode b_HT_loadRowProduct 144 = .ok (.getfield 32, 3) := by decide +kernel
theorem D_HT_loadRowProduct_147 : decode b_HT_loadRowProduct 147 = .ok (.iload 10, 2) := by decide +kernel
theorem D_HT_loadRowProduct_149 : decode b_HT_loadRowProduct 149 = .ok (.aload_n 0, 1) := by decide +kernel
theorem D_HT_loadRowProduct_150 : decode b_HT_loadRowProduct 150 = .ok (.getfield 32, 3) := by decide +kernel
theorem D_HT_loadRowProduct_153 : decode b_HT_loadRowProduct 153 = .ok (.iload 10, 2) := by decide +kernel
theorem D_HT_loadRowProduct_155 : decode b_HT_loadRowProduct 155 = .ok (.iaload, 1) := by decide +kernel
theorem D_HT_loadRowProduct_156 : decode b_HT_loadRowProduct 156 = .ok (.aload_n 3, 1) := by decide +kernel
theorem D_HT_loadRowProduct_157 : decode b_HT_loadRowProduct 157 = .ok (.iload 7, 2) := by decide +kernel
theorem D_HT_loadRowProduct_159 : decode b_HT_loadRowProduct 159 = .ok (.iaload, 1) := by decide +kernel
theorem D_HT_loadRowProduct_160 : decode b_HT_loadRowProduct 160 = .ok (.aload 4, 2) := by decide +kernel
theorem D_HT_loadRowProduct_162 : decode b_HT_loadRowProduct 162 = .ok (.iload 9, 2) := by decide +kernel
theorem D_HT_loadRowProduct_164 : decode b_HT_loadRowProduct 164 = .ok (.iaload, 1) := by decide +kernel
theorem D_HT_loadRowProduct_165 : decode b_HT_loadRowProduct 165 = .ok (.imul, 1) := by decide +kernel
theorem D_HT_loadRowProduct_166 : decode b_HT_loadRowProduct 166 = .ok (.iadd, 1) := by decide +kernel
theorem D_HT_loadRowProduct_167 : decode b_HT_loadRowProduct 167 = .ok (.iload 5, 2) := by decide +kernel
theorem D_HT_loadRowProduct_169 : decode b_HT_loadRowProduct 169 = .ok (.irem, 1) := by decide +kernel
theorem D_HT_loadRowProduct_170 : decode b_HT_loadRowProduct 170 = .ok (.iastore, 1) := by decide +kernel
theorem D_HT_loadRowProduct_171 : decode b_HT_loadRowProduct 171 = .ok (.iinc 8 1, 3) := by decide +kernel
theorem D_HT_loadRowProduct_174 : decode b_HT_loadRowProduct 174 = .ok (.goto (-83), 3) := by decide +kernel
theorem D_HT_loadRowProduct_177 : decode b_HT_loadRowProduct 177 = .ok (.iinc 6 1, 3) := by decide +kernel
theorem D_HT_loadRowProduct_180 : decode b_HT_loadRowProduct 180 = .ok (.goto (-141), 3) := by decide +kernel
theorem D_HT_loadRowProduct_183 : decode b_HT_loadRowProduct 183 = .ok (.return_, 1) := by decide +kernel
abbrev rm_HT_loadRowProduct : Room := { frames := 2, cells := 0, slots := 0, locals := 43 }
def B_HT_loadRowProduct_177 (k39 : Nat → Int32 → Int32 → Nat → Nat → Int32 → Int32 → Mem → Prop) (post : Mem → Prop) (a0 : Nat) (x1 : Int32) (x2 : Int32) (a3 : Nat) (a4 : Nat) (x5 : Int32) (x6 : Int32) (M : Mem) : Prop := (k39 a0 x1 x2 a3 a4 x5 (x6 + 1) M)
set_option maxRecDepth 20000 in
theorem Z_HT_loadRowProduct_177 {x : Ctx} {post : Mem → Prop} (C : Ok x b_HT_loadRowProduct 11 "HeapTower") (hR : xR x = rm_HT_loadRowProduct) (Rt : RetV x post 0 0) {k39 : Nat → Int32 → Int32 → Nat → Nat → Int32 → Int32 → Mem → Prop} (K39 : ∀ (a0 : Nat) (x1 : Int32) (x2 : Int32) (a3 : Nat) (a4 : Nat) (x5 : Int32) (x6 : Int32) (M : Mem), k39 a0 x1 x2 a3 a4 x5 x6 M → J x 11 39 [(0, .ref (xd x a0)), (1, .int x1), (2, .int x2), (3, .ref (xd x a3)), (4, .ref (xd x a4)), (5, .int x5), (6, .int x6)] [] 0 0 M) (a0 : Nat) (x1 : Int32) (x2 : Int32) (a3 : Nat) (a4 : Nat) (x5 : Int32) (x6 : Int32) (M : Mem) (h : B_HT_loadRowProduct_177 k39 post a0 x1 x2 a3 a4 x5 x6 M) : J x 11 177 [(0, .ref (xd x a0)), (1, .int x1), (2, .int x2), (3, .ref (xd x a3)), (4, .ref (xd x a4)), (5, .int x5), (6, .int x6)] [] 0 0 M := by
  unfold B_HT_loadRowProduct_177 at h
  refine J_iinc (v := x6 + 1) (lv' := [(6, .int (x6 + 1)), (0, .ref (xd x a0)), (1, .int x1), (2, .int x2), (3, .ref (xd x a3)), (4, .ref (xd x a4)), (5, .int x5)]) C 6 6 D_HT_loadRowProduct_177 rfl rfl (by decide) rfl ?_
  refine J_goto (tgt := 39) C D_HT_loadRowProduct_180 (by decide) ?_
  exact J_sub [1, 2, 3, 4, 5, 6, 0] rfl (K39 _ _ _ _ _ _ _ _ h)
def B_HT_loadRowProduct_91 (k39 : Nat → Int32 → Int32 → Nat → Nat → Int32 → Int32 → Mem → Prop) (k91 : Nat → Int32 → Int32 → Nat → Nat → Int32 → Int32 → Int32 → Int32 → Mem → Prop) (post : Mem → Prop) (a0 : Nat) (x1 : Int32) (x2 : Int32) (a3 : Nat) (a4 : Nat) (x5 : Int32) (x6 : Int32) (x7 : Int32) (x8 : Int32) (M : Mem) : Prop := (isK M a0 6 ∧ ∃ q94, gR M a0 0 = some q94 ∧ isK M a0 6 ∧ ∃ q98, gR M a0 11 = some q98 ∧ isK M q98 1 ∧ T_He_degreeOf q98 x2 M (fun r102 M102 => isK M102 q94 4 ∧ T_Pr_amount q94 r102 M102 (fun r105 M105 => (r105 ≤ x8 → (B_HT_loadRowProduct_177 k39 post a0 x1 x2 a3 a4 x5 x6 M105)) ∧ (¬ r105 ≤ x8 → (isK M105 a0 6 ∧ ∃ q112, gR M105 a0 0 = some q112 ∧ isK M105 a0 6 ∧ ∃ q116, gR M105 a0 11 = some q116 ∧ isK M105 q116 1 ∧ T_He_degreeOf q116 x2 M105 (fun r120 M120 => isK M120 q112 4 ∧ T_Pr_at q112 r120 x8 M120 (fun r125 M125 => isK M125 a0 6 ∧ ∃ q131, gR M125 a0 0 = some q131 ∧ isK M125 q131 4 ∧ T_Pr_together q131 x7 r125 M125 (fun r138 M138 => isK M138 a0 6 ∧ ∃ q144, gR M138 a0 3 = some q144 ∧ isK M138 a0 6 ∧ ∃ q150, gR M138 a0 3 = some q150 ∧ isA M138 q150 8 r138 ∧ isA M138 a3 8 x7 ∧ isA M138 a4 8 r125 ∧ ¬ (x5 : Int32) = 0 ∧ isA M138 q144 8 r138 ∧ k91 a0 x1 x2 a3 a4 x5 x6 x7 (x8 + 1) (sI M138 q144 (Int32.toNatClampNeg r138) (((gI M138 q150 (Int32.toNatClampNeg r138)) + ((gI M138 a3 (Int32.toNatClampNeg x7)) * (gI M138 a4 (Int32.toNatClampNeg r125)))) - ((gI M138 q150 (Int32.toNatClampNeg r138)) + ((gI M138 a3 (Int32.toNatClampNeg x7)) * (gI M138 a4 (Int32.toNatClampNeg r125)))) / x5 * x5))))))))))
set_option maxRecDepth 20000 in
theorem Z_HT_loadRowProduct_91 {x : Ctx} {post : Mem → Prop} (C : Ok x b_HT_loadRowProduct 11 "HeapTower") (hR : xR x = rm_HT_loadRowProduct) (Rt : RetV x post 0 0) {k39 : Nat → Int32 → Int32 → Nat → Nat → Int32 → Int32 → Mem → Prop} (K39 : ∀ (a0 : Nat) (x1 : Int32) (x2 : Int32) (a3 : Nat) (a4 : Nat) (x5 : Int32) (x6 : Int32) (M : Mem), k39 a0 x1 x2 a3 a4 x5 x6 M → J x 11 39 [(0, .ref (xd x a0)), (1, .int x1), (2, .int x2), (3, .ref (xd x a3)), (4, .ref (xd x a4)), (5, .int x5), (6, .int x6)] [] 0 0 M) {k91 : Nat → Int32 → Int32 → Nat → Nat → Int32 → Int32 → Int32 → Int32 → Mem → Prop} (K91 : ∀ (a0 : Nat) (x1 : Int32) (x2 : Int32) (a3 : Nat) (a4 : Nat) (x5 : Int32) (x6 : Int32) (x7 : Int32) (x8 : Int32) (M : Mem), k91 a0 x1 x2 a3 a4 x5 x6 x7 x8 M → J x 11 91 [(0, .ref (xd x a0)), (1, .int x1), (2, .int x2), (3, .ref (xd x a3)), (4, .ref (xd x a4)), (5, .int x5), (6, .int x6), (7, .int x7), (8, .int x8)] [] 0 0 M) (a0 : Nat) (x1 : Int32) (x2 : Int32) (a3 : Nat) (a4 : Nat) (x5 : Int32) (x6 : Int32) (x7 : Int32) (x8 : Int32) (M : Mem) (h : B_HT_loadRowProduct_91 k39 k91 post a0 x1 x2 a3 a4 x5 x6 x7 x8 M) : J x 11 91 [(0, .ref (xd x a0)), (1, .int x1), (2, .int x2), (3, .ref (xd x a3)), (4, .ref (xd x a4)), (5, .int x5), (6, .int x6), (7, .int x7), (8, .int x8)] [] 0 0 M := by
  unfold B_HT_loadRowProduct_91 at h
  refine J_iload C 8 D_HT_loadRowProduct_91 rfl ?_
  refine J_aload_n C 0 D_HT_loadRowProduct_93 rfl rfl ?_
  obtain ⟨c_94, q94, e_94, h⟩ := h
  refine J_getR C fl_HT_10 D_HT_loadRowProduct_94 c_94 e_94 ?_
  refine J_aload_n C 0 D_HT_loadRowProduct_97 rfl rfl ?_
  obtain ⟨c_98, q98, e_98, h⟩ := h
  refine J_getR C fl_HT_78 D_HT_loadRowProduct_98 c_98 e_98 ?_
  refine J_iload_n C 2 D_HT_loadRowProduct_101 rfl rfl ?_
  obtain ⟨c_102, h⟩ := h
  refine J_callVi C ml_HT_162 (S_He_degreeOf _ _ _ _ h) (by rw [hR]; decide) rfl c_102 rfl (Nat.le_of_ble_eq_true rfl) D_HT_loadRowProduct_102 (fun r102 M102 h => ?_)
  obtain ⟨c_105, h⟩ := h
  refine J_callVi C ml_HT_213 (S_Pr_amount _ _ _ _ h) (by rw [hR]; decide) rfl c_105 rfl (Nat.le_of_ble_eq_true rfl) D_HT_loadRowProduct_105 (fun r105 M105 h => ?_)
  refine J_icmp_ge (tgt := 177) C D_HT_loadRowProduct_108 (by decide) (fun c_108 => ?_) (fun c_108 => ?_)
  · have h := h.1 c_108
    exact J_sub [0, 1, 2, 3, 4, 5, 6] rfl (Z_HT_loadRowProduct_177 C hR Rt K39 _ _ _ _ _ _ _ _ h)
  · have h := h.2 c_108
    refine J_aload_n C 0 D_HT_loadRowProduct_111 rfl rfl ?_
    obtain ⟨c_112, q112, e_112, h⟩ := h
    refine J_getR C fl_HT_10 D_HT_loadRowProduct_112 c_112 e_112 ?_
    refine J_aload_n C 0 D_HT_loadRowProduct_115 rfl rfl ?_
    obtain ⟨c_116, q116, e_116, h⟩ := h
    refine J_getR C fl_HT_78 D_HT_loadRowProduct_116 c_116 e_116 ?_
    refine J_iload_n C 2 D_HT_loadRowProduct_119 rfl rfl ?_
    obtain ⟨c_120, h⟩ := h
    refine J_callVi C ml_HT_162 (S_He_degreeOf _ _ _ _ h) (by rw [hR]; decide) rfl c_120 rfl (Nat.le_of_ble_eq_true rfl) D_HT_loadRowProduct_120 (fun r120 M120 h => ?_)
    refine J_iload C 8 D_HT_loadRowProduct_123 rfl ?_
    obtain ⟨c_125, h⟩ := h
    refine J_callVi C ml_HT_270 (S_Pr_at _ _ _ _ _ h) (by rw [hR]; decide) rfl c_125 rfl (Nat.le_of_ble_eq_true rfl) D_HT_loadRowProduct_125 (fun r125 M125 h => ?_)
    refine J_istore (lv' := [(9, .int r125), (0, .ref (xd x a0)), (1, .int x1), (2, .int x2), (3, .ref (xd x a3)), (4, .ref (xd x a4)), (5, .int x5), (6, .int x6), (7, .int x7), (8, .int x8)]) C 9 D_HT_loadRowProduct_128 (by decide) rfl ?_
    refine J_aload_n C 0 D_HT_loadRowProduct_130 rfl rfl ?_
    obtain ⟨c_131, q131, e_131, h⟩ := h
    refine J_getR C fl_HT_10 D_HT_loadRowProduct_131 c_131 e_131 ?_
    refine J_iload C 7 D_HT_loadRowProduct_134 rfl ?_
    refine J_iload C 9 D_HT_loadRowProduct_136 rfl ?_
    obtain ⟨c_138, h⟩ := h
    refine J_callVi C ml_HT_277 (S_Pr_together _ _ _ _ _ h) (by rw [hR]; decide) rfl c_138 rfl (Nat.le_of_ble_eq_true rfl) D_HT_loadRowProduct_138 (fun r138 M138 h => ?_)
    refine J_istore (lv' := [(10, .int r138), (9, .int r125), (0, .ref (xd x a0)), (1, .int x1), (2, .int x2), (3, .ref (xd x a3)), (4, .ref (xd x a4)), (5, .int x5), (6, .int x6), (7, .int x7), (8, .int x8)]) C 10 D_HT_loadRowProduct_141 (by decide) rfl ?_
    refine J_aload_n C 0 D_HT_loadRowProduct_143 rfl rfl ?_
    obtain ⟨c_144, q144, e_144, h⟩ := h
    refine J_getR C fl_HT_32 D_HT_loadRowProduct_144 c_144 e_144 ?_
    refine J_iload C 10 D_HT_loadRowProduct_147 rfl ?_
    refine J_aload_n C 0 D_HT_loadRowProduct_149 rfl rfl ?_
    obtain ⟨c_150, q150, e_150, h⟩ := h
    refine J_getR C fl_HT_32 D_HT_loadRowProduct_150 c_150 e_150 ?_
    refine J_iload C 10 D_HT_loadRowProduct_153 rfl ?_
    obtain ⟨c_155, h⟩ := h
    refine J_iald C D_HT_loadRowProduct_155 c_155 ?_
    refine J_aload_n C 3 D_HT_loadRowProduct_156 rfl rfl ?_
    refine J_iload C 7 D_HT_loadRowProduct_157 rfl ?_
    obtain ⟨c_159, h⟩ := h
    refine J_iald C D_HT_loadRowProduct_159 c_159 ?_
    refine J_aload C 4 D_HT_loadRowProduct_160 rfl ?_
    refine J_iload C 9 D_HT_loadRowProduct_162 rfl ?_
    obtain ⟨c_164, h⟩ := h
    refine J_iald C D_HT_loadRowProduct_164 c_164 ?_
    refine J_imul C D_HT_loadRowProduct_165 ?_
    refine J_iadd C D_HT_loadRowProduct_166 ?_
    refine J_iload C 5 D_HT_loadRowProduct_167 rfl ?_
    obtain ⟨c_169, h⟩ := h
    refine J_irem C D_HT_loadRowProduct_169 c_169 ?_
    obtain ⟨c_170, h⟩ := h
    refine J_iast C D_HT_loadRowProduct_170 c_170 ?_
    refine J_iinc (v := x8 + 1) (lv' := [(8, .int (x8 + 1)), (10, .int r138), (9, .int r125), (0, .ref (xd x a0)), (1, .int x1), (2, .int x2), (3, .ref (xd x a3)), (4, .ref (xd x a4)), (5, .int x5), (6, .int x6), (7, .int x7)]) C 8 10 D_HT_loadRowProduct_171 rfl rfl (by decide) rfl ?_
    refine J_goto (tgt := 91) C D_HT_loadRowProduct_174 (by decide) ?_
    exact J_sub [3, 4, 5, 6, 7, 8, 9, 10, 0] rfl (K91 _ _ _ _ _ _ _ _ _ _ h)
def L_HT_loadRowProduct_91 (k39 : Nat → Int32 → Int32 → Nat → Nat → Int32 → Int32 → Mem → Prop) (post : Mem → Prop) : Nat → Nat → Int32 → Int32 → Nat → Nat → Int32 → Int32 → Int32 → Int32 → Mem → Prop
  | 0, _, _, _, _, _, _, _, _, _, _ => False
  | n + 1, a0, x1, x2, a3, a4, x5, x6, x7, x8, M => B_HT_loadRowProduct_91 k39 (L_HT_loadRowProduct_91 k39 post n) post a0 x1 x2 a3 a4 x5 x6 x7 x8 M
theorem Y_HT_loadRowProduct_91 {x : Ctx} {post : Mem → Prop} (C : Ok x b_HT_loadRowProduct 11 "HeapTower") (hR : xR x = rm_HT_loadRowProduct) (Rt : RetV x post 0 0) {k39 : Nat → Int32 → Int32 → Nat → Nat → Int32 → Int32 → Mem → Prop} (K39 : ∀ (a0 : Nat) (x1 : Int32) (x2 : Int32) (a3 : Nat) (a4 : Nat) (x5 : Int32) (x6 : Int32) (M : Mem), k39 a0 x1 x2 a3 a4 x5 x6 M → J x 11 39 [(0, .ref (xd x a0)), (1, .int x1), (2, .int x2), (3, .ref (xd x a3)), (4, .ref (xd x a4)), (5, .int x5), (6, .int x6)] [] 0 0 M) : ∀ (n : Nat) (a0 : Nat) (x1 : Int32) (x2 : Int32) (a3 : Nat) (a4 : Nat) (x5 : Int32) (x6 : Int32) (x7 : Int32) (x8 : Int32) (M : Mem), L_HT_loadRowProduct_91 k39 post n a0 x1 x2 a3 a4 x5 x6 x7 x8 M → J x 11 91 [(0, .ref (xd x a0)), (1, .int x1), (2, .int x2), (3, .ref (xd x a3)), (4, .ref (xd x a4)), (5, .int x5), (6, .int x6), (7, .int x7), (8, .int x8)] [] 0 0 M := by
  intro n
  induction n with
  | zero => intro a0 x1 x2 a3 a4 x5 x6 x7 x8 M h; exact h.elim
  | succ n ih => intro a0 x1 x2 a3 a4 x5 x6 x7 x8 M h; exact Z_HT_loadRowProduct_91 C hR Rt K39 ih _ _ _ _ _ _ _ _ _ _ h
def B_HT_loadRowProduct_39 (k39 : Nat → Int32 → Int32 → Nat → Nat → Int32 → Int32 → Mem → Prop) (post : Mem → Prop) (a0 : Nat) (x1 : Int32) (x2 : Int32) (a3 : Nat) (a4 : Nat) (x5 : Int32) (x6 : Int32) (M : Mem) : Prop := (isK M a0 6 ∧ ∃ q42, gR M a0 0 = some q42 ∧ isK M a0 6 ∧ ∃ q46, gR M a0 10 = some q46 ∧ isK M q46 1 ∧ T_He_degreeOf q46 x1 M (fun r50 M50 => isK M50 q42 4 ∧ T_Pr_amount q42 r50 M50 (fun r53 M53 => (r53 ≤ x6 → (post M53)) ∧ (¬ r53 ≤ x6 → (isK M53 a0 6 ∧ ∃ q60, gR M53 a0 0 = some q60 ∧ isK M53 a0 6 ∧ ∃ q64, gR M53 a0 10 = some q64 ∧ isK M53 q64 1 ∧ T_He_degreeOf q64 x1 M53 (fun r68 M68 => isK M68 q60 4 ∧ T_Pr_at q60 r68 x6 M68 (fun r73 M73 => isA M73 a3 8 r73 ∧ (¬ (gI M73 a3 (Int32.toNatClampNeg r73)) = 0 → (∃ n, L_HT_loadRowProduct_91 k39 post n a0 x1 x2 a3 a4 x5 x6 r73 0 M73)) ∧ ((gI M73 a3 (Int32.toNatClampNeg r73)) = 0 → (B_HT_loadRowProduct_177 k39 post a0 x1 x2 a3 a4 x5 x6 M73)))))))))
set_option maxRecDepth 20000 in
theorem Z_HT_loadRowProduct_39 {x : Ctx} {post : Mem → Prop} (C : Ok x b_HT_loadRowProduct 11 "HeapTower") (hR : xR x = rm_HT_loadRowProduct) (Rt : RetV x post 0 0) {k39 : Nat → Int32 → Int32 → Nat → Nat → Int32 → Int32 → Mem → Prop} (K39 : ∀ (a0 : Nat) (x1 : Int32) (x2 : Int32) (a3 : Nat) (a4 : Nat) (x5 : Int32) (x6 : Int32) (M : Mem), k39 a0 x1 x2 a3 a4 x5 x6 M → J x 11 39 [(0, .ref (xd x a0)), (1, .int x1), (2, .int x2), (3, .ref (xd x a3)), (4, .ref (xd x a4)), (5, .int x5), (6, .int x6)] [] 0 0 M) (a0 : Nat) (x1 : Int32) (x2 : Int32) (a3 : Nat) (a4 : Nat) (x5 : Int32) (x6 : Int32) (M : Mem) (h : B_HT_loadRowProduct_39 k39 post a0 x1 x2 a3 a4 x5 x6 M) : J x 11 39 [(0, .ref (xd x a0)), (1, .int x1), (2, .int x2), (3, .ref (xd x a3)), (4, .ref (xd x a4)), (5, .int x5), (6, .int x6)] [] 0 0 M := by
  unfold B_HT_loadRowProduct_39 at h
  refine J_iload C 6 D_HT_loadRowProduct_39 rfl ?_
  refine J_aload_n C 0 D_HT_loadRowProduct_41 rfl rfl ?_
  obtain ⟨c_42, q42, e_42, h⟩ := h
  refine J_getR C fl_HT_10 D_HT_loadRowProduct_42 c_42 e_42 ?_
  refine J_aload_n C 0 D_HT_loadRowProduct_45 rfl rfl ?_
  obtain ⟨c_46, q46, e_46, h⟩ := h
  refine J_getR C fl_HT_74 D_HT_loadRowProduct_46 c_46 e_46 ?_
  refine J_iload_n C 1 D_HT_loadRowProduct_49 rfl rfl ?_
  obtain ⟨c_50, h⟩ := h
  refine J_callVi C ml_HT_162 (S_He_degreeOf _ _ _ _ h) (by rw [hR]; decide) rfl c_50 rfl (Nat.le_of_ble_eq_true rfl) D_HT_loadRowProduct_50 (fun r50 M50 h => ?_)
  obtain ⟨c_53, h⟩ := h
  refine J_callVi C ml_HT_213 (S_Pr_amount _ _ _ _ h) (by rw [hR]; decide) rfl c_53 rfl (Nat.le_of_ble_eq_true rfl) D_HT_loadRowProduct_53 (fun r53 M53 h => ?_)
  refine J_icmp_ge (tgt := 183) C D_HT_loadRowProduct_56 (by decide) (fun c_56 => ?_) (fun c_56 => ?_)
  · have h := h.1 c_56
    exact J_vret C Rt D_HT_loadRowProduct_183 h
  · have h := h.2 c_56
    refine J_aload_n C 0 D_HT_loadRowProduct_59 rfl rfl ?_
    obtain ⟨c_60, q60, e_60, h⟩ := h
    refine J_getR C fl_HT_10 D_HT_loadRowProduct_60 c_60 e_60 ?_
    refine J_aload_n C 0 D_HT_loadRowProduct_63 rfl rfl ?_
    obtain ⟨c_64, q64, e_64, h⟩ := h
    refine J_getR C fl_HT_74 D_HT_loadRowProduct_64 c_64 e_64 ?_
    refine J_iload_n C 1 D_HT_loadRowProduct_67 rfl rfl ?_
    obtain ⟨c_68, h⟩ := h
    refine J_callVi C ml_HT_162 (S_He_degreeOf _ _ _ _ h) (by rw [hR]; decide) rfl c_68 rfl (Nat.le_of_ble_eq_true rfl) D_HT_loadRowProduct_68 (fun r68 M68 h => ?_)
    refine J_iload C 6 D_HT_loadRowProduct_71 rfl ?_
    obtain ⟨c_73, h⟩ := h
    refine J_callVi C ml_HT_270 (S_Pr_at _ _ _ _ _ h) (by rw [hR]; decide) rfl c_73 rfl (Nat.le_of_ble_eq_true rfl) D_HT_loadRowProduct_73 (fun r73 M73 h => ?_)
    refine J_istore (lv' := [(7, .int r73), (0, .ref (xd x a0)), (1, .int x1), (2, .int x2), (3, .ref (xd x a3)), (4, .ref (xd x a4)), (5, .int x5), (6, .int x6)]) C 7 D_HT_loadRowProduct_76 (by decide) rfl ?_
    refine J_aload_n C 3 D_HT_loadRowProduct_78 rfl rfl ?_
    refine J_iload C 7 D_HT_loadRowProduct_79 rfl ?_
    obtain ⟨c_81, h⟩ := h
    refine J_iald C D_HT_loadRowProduct_81 c_81 ?_
    refine J_if_ne (tgt := 88) C D_HT_loadRowProduct_82 (by decide) (fun c_82 => ?_) (fun c_82 => ?_)
    · have h := h.1 c_82
      refine J_iconst (v := 0) C D_HT_loadRowProduct_88 rfl ?_
      refine J_istore (lv' := [(8, .int 0), (7, .int r73), (0, .ref (xd x a0)), (1, .int x1), (2, .int x2), (3, .ref (xd x a3)), (4, .ref (xd x a4)), (5, .int x5), (6, .int x6)]) C 8 D_HT_loadRowProduct_89 (by decide) rfl ?_
      obtain ⟨n, h⟩ := h
      exact J_sub [2, 3, 4, 5, 6, 7, 8, 1, 0] rfl (Y_HT_loadRowProduct_91 C hR Rt K39 n _ _ _ _ _ _ _ _ _ _ h)
    · have h := h.2 c_82
      refine J_goto (tgt := 177) C D_HT_loadRowProduct_85 (by decide) ?_
      exact J_sub [1, 2, 3, 4, 5, 6, 7] rfl (Z_HT_loadRowProduct_177 C hR Rt K39 _ _ _ _ _ _ _ _ h)
def L_HT_loadRowProduct_39 (post : Mem → Prop) : Nat → Nat → Int32 → Int32 → Nat → Nat → Int32 → Int32 → Mem → Prop
  | 0, _, _, _, _, _, _, _, _ => False
  | n + 1, a0, x1, x2, a3, a4, x5, x6, M => B_HT_loadRowProduct_39 (L_HT_loadRowProduct_39 post n) post a0 x1 x2 a3 a4 x5 x6 M
theorem Y_HT_loadRowProduct_39 {x : Ctx} {post : Mem → Prop} (C : Ok x b_HT_loadRowProduct 11 "HeapTower") (hR : xR x = rm_HT_loadRowProduct) (Rt : RetV x post 0 0) : ∀ (n : Nat) (a0 : Nat) (x1 : Int32) (x2 : Int32) (a3 : Nat) (a4 : Nat) (x5 : Int32) (x6 : Int32) (M : Mem), L_HT_loadRowProduct_39 post n a0 x1 x2 a3 a4 x5 x6 M → J x 11 39 [(0, .ref (xd x a0)), (1, .int x1), (2, .int x2), (3, .ref (xd x a3)), (4, .ref (xd x a4)), (5, .int x5), (6, .int x6)] [] 0 0 M := by
  intro n
  induction n with
  | zero => intro a0 x1 x2 a3 a4 x5 x6 M h; exact h.elim
  | succ n ih => intro a0 x1 x2 a3 a4 x5 x6 M h; exact Z_HT_loadRowProduct_39 C hR Rt ih _ _ _ _ _ _ _ _ h
def T_HT_loadRowProduct (a0 : Nat) (x1 : Int32) (x2 : Int32) (M : Mem) (post : Mem → Prop) : Prop := (isK M a0 6 ∧ ∃ q1, gR M a0 10 = some q1 ∧ isK M q1 1 ∧ T_He_numbersOf q1 x1 M (fun r5 M5 => isK M5 a0 6 ∧ ∃ q10, gR M5 a0 11 = some q10 ∧ isK M5 q10 1 ∧ T_He_numbersOf q10 x2 M5 (fun r14 M14 => isK M14 a0 6 ∧ ∃ q20, gR M14 a0 1 = some q20 ∧ isK M14 q20 2 ∧ T_Nu_prime q20 M14 (fun r23 M23 => isK M23 a0 6 ∧ ∃ q29, gR M23 a0 3 = some q29 ∧ T_Ar_fill2 q29 0 M23 (fun M33 => ∃ n, L_HT_loadRowProduct_39 post n a0 x1 x2 r5 r14 r23 0 M33)))))
set_option maxRecDepth 20000 in
theorem S_HT_loadRowProduct {l : Launch} {D : va_G} {B t g : Nat} {d : Nat → Nat} {ac : Nat → ClassId}  (a0 : Nat) (x1 : Int32) (x2 : Int32) (M : Mem) (post : Mem → Prop) (h : T_HT_loadRowProduct a0 x1 x2 M post) : Met l y_HT_loadRowProduct w_HT_loadRowProduct rm_HT_loadRowProduct (va_Pc [.ref (d a0), .int x1, .int x2] (PRE D B d g t ac M)) (QV D B d g ac post) 0 0 (AB B) := by
  refine met_v (by decide +kernel) (Nat.le_of_ble_eq_true rfl) (fun x h1 hR h3 h4 h5 h6 h7 h8 C Rt Nm => ?_)
  subst h3 h4 h5 h6 h7 h8
  unfold T_HT_loadRowProduct at h
  show J x 11 0 [(0, .ref (xd x a0)), (1, .int x1), (2, .int x2)] [] 0 0 M
  refine J_aload_n C 0 D_HT_loadRowProduct_0 rfl rfl ?_
  obtain ⟨c_1, q1, e_1, h⟩ := h
  refine J_getR C fl_HT_74 D_HT_loadRowProduct_1 c_1 e_1 ?_
  refine J_iload_n C 1 D_HT_loadRowProduct_4 rfl rfl ?_
  obtain ⟨c_5, h⟩ := h
  refine J_callVr C ml_HT_302 (S_He_numbersOf _ _ _ _ h) (by rw [hR]; decide) rfl c_5 rfl (Nat.le_of_ble_eq_true rfl) D_HT_loadRowProduct_5 (fun r5 M5 h => ?_)
  refine J_astore_n (lv' := [(3, .ref (xd x r5)), (0, .ref (xd x a0)), (1, .int x1), (2, .int x2)]) C 3 D_HT_loadRowProduct_8 rfl (by decide) rfl ?_
  refine J_aload_n C 0 D_HT_loadRowProduct_9 rfl rfl ?_
  obtain ⟨c_10, q10, e_10, h⟩ := h
  refine J_getR C fl_HT_78 D_HT_loadRowProduct_10 c_10 e_10 ?_
  refine J_iload_n C 2 D_HT_loadRowProduct_13 rfl rfl ?_
  obtain ⟨c_14, h⟩ := h
  refine J_callVr C ml_HT_302 (S_He_numbersOf _ _ _ _ h) (by rw [hR]; decide) rfl c_14 rfl (Nat.le_of_ble_eq_true rfl) D_HT_loadRowProduct_14 (fun r14 M14 h => ?_)
  refine J_astore (lv' := [(4, .ref (xd x r14)), (3, .ref (xd x r5)), (0, .ref (xd x a0)), (1, .int x1), (2, .int x2)]) C 4 D_HT_loadRowProduct_17 (by decide) rfl ?_
  refine J_aload_n C 0 D_HT_loadRowProduct_19 rfl rfl ?_
  obtain ⟨c_20, q20, e_20, h⟩ := h
  refine J_getR C fl_HT_19 D_HT_loadRowProduct_20 c_20 e_20 ?_
  obtain ⟨c_23, h⟩ := h
  refine J_callVi C ml_HT_251 (S_Nu_prime _ _ _ h) (by rw [hR]; decide) rfl c_23 rfl (Nat.le_of_ble_eq_true rfl) D_HT_loadRowProduct_23 (fun r23 M23 h => ?_)
  refine J_istore (lv' := [(5, .int r23), (4, .ref (xd x r14)), (3, .ref (xd x r5)), (0, .ref (xd x a0)), (1, .int x1), (2, .int x2)]) C 5 D_HT_loadRowProduct_26 (by decide) rfl ?_
  refine J_aload_n C 0 D_HT_loadRowProduct_28 rfl rfl ?_
  obtain ⟨c_29, q29, e_29, h⟩ := h
  refine J_getR C fl_HT_32 D_HT_loadRowProduct_29 c_29 e_29 ?_
  refine J_iconst (v := 0) C D_HT_loadRowProduct_32 rfl ?_
  refine J_callSv C ml_HT_306 (S_Ar_fill2 _ _ _ _ h) (by rw [hR]; decide) rfl rfl (Nat.le_of_ble_eq_true rfl) D_HT_loadRowProduct_33 (fun M33 h => ?_)
  refine J_iconst (v := 0) C D_HT_loadRowProduct_36 rfl ?_
  refine J_istore (lv' := [(6, .int 0), (5, .int r23), (4, .ref (xd x r14)), (3, .ref (xd x r5)), (0, .ref (xd x a0)), (1, .int x1), (2, .int x2)]) C 6 D_HT_loadRowProduct_37 (by decide) rfl ?_
  obtain ⟨n, h⟩ := h
  exact J_sub [4, 5, 6, 3, 2, 1, 0] rfl (Y_HT_loadRowProduct_39 C hR Rt  n _ _ _ _ _ _ _ _ h)
theorem D_HT_offerRowProducts_0 : decode b_HT_offerRowProducts 0 = .ok (.iconst 0, 1) := by decide +kernel
theorem D_HT_offerRowProducts_1 : decode b_HT_offerRowProducts 1 = .ok (.istore_n 2, 1) := by decide +kernel
theorem D_HT_offerRowProducts_2 : decode b_HT_offerRowProducts 2 = .ok (.iload_n 2, 1) := by decide +kernel
theorem D_HT_offerRowProducts_3 : decode b_HT_offerRowProducts 3 = .ok (.aload_n 0, 1) := by decide +kernel
theorem D_HT_offerRowProducts_4 : decode b_HT_offerRowProducts 4 = .ok (.getfield 74, 3) := by decide +kernel
theorem D_HT_offerRowProducts_7 : decode b_HT_offerRowProducts 7 = .ok (.invokevirtual 154, 3) := by decide +kernel
theorem D_HT_offerRowProducts_10 : decode b_HT_offerRowProducts 10 = .ok (.if_icmp .ge 67, 3) := by decide +kernel
theorem D_HT_offerRowProducts_13 : decode b_HT_offerRowProducts 13 = .ok (.iconst 0, 1) := by decide +kernel
theorem D_HT_offerRowProducts_14 : decode b_HT_offerRowProducts 14 = .ok (.istore_n 3, 1) := by decide +kernel
theorem D_HT_offerRowProducts_15 : decode b_HT_offerRowProducts 15 = .ok (.iload_n 3, 1) := by decide +kernel
theorem D_HT_offerRowProducts_16 : decode b_HT_offerRowProducts 16 = .ok (.aload_n 0, 1) := by decide +kernel
theorem D_HT_offerRowProducts_17 : decode b_HT_offerRowProducts 17 = .ok (.getfield 78, 3) := by decide +kernel
theorem D_HT_offerRowProducts_20 : decode b_HT_offerRowProducts 20 = .ok (.invokevirtual 154, 3) := by decide +kernel
theorem D_HT_offerRowProducts_23 : decode b_HT_offerRowProducts 23 = .ok (.if_icmp .ge 48, 3) := by decide +kernel
theorem D_HT_offerRowProducts_26 : decode b_HT_offerRowProducts 26 = .ok (.aload_n 0, 1) := by decide +kernel
theorem D_HT_offerRowProducts_27 : decode b_HT_offerRowProducts 27 = .ok (.getfield 74, 3) := by decide +kernel
theorem D_HT_offerRowProducts_30 : decode b_HT_offerRowProducts 30 = .ok (.iload_n 2, 1) := by decide +kernel
theorem D_HT_offerRowProducts_31 : decode b_HT_offerRowProducts 31 = .ok (.invokevirtual 162, 3) := by decide +kernel
theorem D_HT_offerRowProducts_34 : decode b_HT_offerRowProducts 34 = .ok (.aload_n 0, 1) := by decide +kernel
theorem D_HT_offerRowProducts_35 : decode b_HT_offerRowProducts 35 = .ok (.getfield 78, 3) := by decide +kernel
theorem D_HT_offerRowProducts_38 : decode b_HT_offerRowProducts 38 = .ok (.iload_n 3, 1) := by decide +kernel
theorem D_HT_offerRowProducts_39 : decode b_HT_offerRowProducts 39 = .ok (.invokevirtual 162, 3) := by decide +kernel
theorem D_HT_offerRowProducts_42 : decode b_HT_offerRowProducts 42 = .ok (.iadd, 1) := by decide +kernel
theorem D_HT_offerRowProducts_43 : decode b_HT_offerRowProducts 43 = .ok (.iload_n 1, 1) := by decide +kernel
theorem D_HT_offerRowProducts_44 : decode b_HT_offerRowProducts 44 = .ok (.if_icmp .ne 21, 3) := by decide +kernel
theorem D_HT_offerRowProducts_47 : decode b_HT_offerRowProducts 47 = .ok (.aload_n 0, 1) := by decide +kernel
theorem D_HT_offerRowProducts_48 : decode b_HT_offerRowProducts 48 = .ok (.iload_n 2, 1) := by decide +kernel
theorem D_HT_offerRowProducts_49 : decode b_HT_offerRowProducts 49 = .ok (.iload_n 3, 1) := by decide +kernel
theorem D_HT_offerRowProducts_50 : decode b_HT_offerRowProducts 50 = .ok (.invokevirtual 296, 3) := by decide +kernel
theorem D_HT_offerRowProducts_53 : decode b_HT_offerRowProducts 53 = .ok (.aload_n 0, 1) := by decide +kernel
theorem D_HT_offerRowProducts_54 : decode b_HT_offerRowProducts 54 = .ok (.getfield 63, 3) := by decide +kernel
theorem D_HT_offerRowProducts_57 : decode b_HT_offerRowProducts 57 = .ok (.iload_n 1, 1) := by decide +kernel
theorem D_HT_offerRowProducts_58 : decode b_HT_offerRowProducts 58 = .ok (.aload_n 0, 1) := by decide +kernel
theorem D_HT_offerRowProducts_59 : decode b_HT_offerRowProducts 59 = .ok (.getfield 32, 3) := by decide +kernel
theorem D_HT_offerRowProducts_62 : decode b_HT_offerRowProducts 62 = .ok (.invokevirtual 299, 3) := by decide +kernel
theorem D_HT_offerRowProducts_65 : decode b_HT_offerRowProducts 65 = .ok (.iinc 3 1, 3) := by decide +kernel
theorem D_HT_offerRowProducts_68 : decode b_HT_offerRowProducts 68 = .ok (.goto (-53), 3) := by decide +kernel
theorem D_HT_offerRowProducts_71 : decode b_HT_offerRowProducts 71 = .ok (.iinc 2 1, 3) := by decide +kernel
theorem D_HT_offerRowProducts_74 : decode b_HT_offerRowProducts 74 = .ok (.goto (-72), 3) := by decide +kernel
theorem D_HT_offerRowProducts_77 : decode b_HT_offerRowProducts 77 = .ok (.return_, 1) := by decide +kernel
abbrev rm_HT_offerRowProducts : Room := { frames := 3, cells := 0, slots := 0, locals := 82 }
def B_HT_offerRowProducts_65 (k2 : Nat → Int32 → Int32 → Mem → Prop) (k15 : Nat → Int32 → Int32 → Int32 → Mem → Prop) (post : Mem → Prop) (a0 : Nat) (x1 : Int32) (x2 : Int32) (x3 : Int32) (M : Mem) : Prop := (k15 a0 x1 x2 (x3 + 1) M)
set_option maxRecDepth 20000 in
theorem Z_HT_offerRowProducts_65 {x : Ctx} {post : Mem → Prop} (C : Ok x b_HT_offerRowProducts 4 "HeapTower") (hR : xR x = rm_HT_offerRowProducts) (Rt : RetV x post 0 0) {k2 : Nat → Int32 → Int32 → Mem → Prop} (K2 : ∀ (a0 : Nat) (x1 : Int32) (x2 : Int32) (M : Mem), k2 a0 x1 x2 M → J x 4 2 [(0, .ref (xd x a0)), (1, .int x1), (2, .int x2)] [] 0 0 M) {k15 : Nat → Int32 → Int32 → Int32 → Mem → Prop} (K15 : ∀ (a0 : Nat) (x1 : Int32) (x2 : Int32) (x3 : Int32) (M : Mem), k15 a0 x1 x2 x3 M → J x 4 15 [(0, .ref (xd x a0)), (1, .int x1), (2, .int x2), (3, .int x3)] [] 0 0 M) (a0 : Nat) (x1 : Int32) (x2 : Int32) (x3 : Int32) (M : Mem) (h : B_HT_offerRowProducts_65 k2 k15 post a0 x1 x2 x3 M) : J x 4 65 [(0, .ref (xd x a0)), (1, .int x1), (2, .int x2), (3, .int x3)] [] 0 0 M := by
  unfold B_HT_offerRowProducts_65 at h
  refine J_iinc (v := x3 + 1) (lv' := [(3, .int (x3 + 1)), (0, .ref (xd x a0)), (1, .int x1), (2, .int x2)]) C 3 3 D_HT_offerRowProducts_65 rfl rfl (by decide) rfl ?_
  refine J_goto (tgt := 15) C D_HT_offerRowProducts_68 (by decide) ?_
  exact J_sub [1, 2, 3, 0] rfl (K15 _ _ _ _ _ h)
def B_HT_offerRowProducts_15 (k2 : Nat → Int32 → Int32 → Mem → Prop) (k15 : Nat → Int32 → Int32 → Int32 → Mem → Prop) (post : Mem → Prop) (a0 : Nat) (x1 : Int32) (x2 : Int32) (x3 : Int32) (M : Mem) : Prop := (isK M a0 6 ∧ ∃ q17, gR M a0 11 = some q17 ∧ isK M q17 1 ∧ T_He_size q17 M (fun r20 M20 => (r20 ≤ x3 → (k2 a0 x1 (x2 + 1) M20)) ∧ (¬ r20 ≤ x3 → (isK M20 a0 6 ∧ ∃ q27, gR M20 a0 10 = some q27 ∧ isK M20 q27 1 ∧ T_He_degreeOf q27 x2 M20 (fun r31 M31 => isK M31 a0 6 ∧ ∃ q35, gR M31 a0 11 = some q35 ∧ isK M31 q35 1 ∧ T_He_degreeOf q35 x3 M31 (fun r39 M39 => (¬ (r31 + r39) = x1 → (B_HT_offerRowProducts_65 k2 k15 post a0 x1 x2 x3 M39)) ∧ ((r31 + r39) = x1 → (isK M39 a0 6 ∧ T_HT_loadRowProduct a0 x2 x3 M39 (fun M50 => isK M50 a0 6 ∧ ∃ q54, gR M50 a0 8 = some q54 ∧ isK M50 a0 6 ∧ ∃ q59, gR M50 a0 3 = some q59 ∧ isK M50 q54 0 ∧ T_Ba_offer q54 x1 q59 M50 (fun M62 => B_HT_offerRowProducts_65 k2 k15 post a0 x1 x2 x3 M62))))))))))
set_option maxRecDepth 20000 in
theorem Z_HT_offerRowProducts_15 {x : Ctx} {post : Mem → Prop} (C : Ok x b_HT_offerRowProducts 4 "HeapTower") (hR : xR x = rm_HT_offerRowProducts) (Rt : RetV x post 0 0) {k2 : Nat → Int32 → Int32 → Mem → Prop} (K2 : ∀ (a0 : Nat) (x1 : Int32) (x2 : Int32) (M : Mem), k2 a0 x1 x2 M → J x 4 2 [(0, .ref (xd x a0)), (1, .int x1), (2, .int x2)] [] 0 0 M) {k15 : Nat → Int32 → Int32 → Int32 → Mem → Prop} (K15 : ∀ (a0 : Nat) (x1 : Int32) (x2 : Int32) (x3 : Int32) (M : Mem), k15 a0 x1 x2 x3 M → J x 4 15 [(0, .ref (xd x a0)), (1, .int x1), (2, .int x2), (3, .int x3)] [] 0 0 M) (a0 : Nat) (x1 : Int32) (x2 : Int32) (x3 : Int32) (M : Mem) (h : B_HT_offerRowProducts_15 k2 k15 post a0 x1 x2 x3 M) : J x 4 15 [(0, .ref (xd x a0)), (1, .int x1), (2, .int x2), (3, .int x3)] [] 0 0 M := by
  unfold B_HT_offerRowProducts_15 at h
  refine J_iload_n C 3 D_HT_offerRowProducts_15 rfl rfl ?_
  refine J_aload_n C 0 D_HT_offerRowProducts_16 rfl rfl ?_
  obtain ⟨c_17, q17, e_17, h⟩ := h
  refine J_getR C fl_HT_78 D_HT_offerRowProducts_17 c_17 e_17 ?_
  obtain ⟨c_20, h⟩ := h
  refine J_callVi C ml_HT_154 (S_He_size _ _ _ h) (by rw [hR]; decide) rfl c_20 rfl (Nat.le_of_ble_eq_true rfl) D_HT_offerRowProducts_20 (fun r20 M20 h => ?_)
  refine J_icmp_ge (tgt := 71) C D_HT_offerRowProducts_23 (by decide) (fun c_23 => ?_) (fun c_23 => ?_)
  · have h := h.1 c_23
    refine J_iinc (v := x2 + 1) (lv' := [(2, .int (x2 + 1)), (0, .ref (xd x a0)), (1, .int x1), (3, .int x3)]) C 2 2 D_HT_offerRowProducts_71 rfl rfl (by decide) rfl ?_
    refine J_goto (tgt := 2) C D_HT_offerRowProducts_74 (by decide) ?_
    exact J_sub [1, 2, 0] rfl (K2 _ _ _ _ h)
  · have h := h.2 c_23
    refine J_aload_n C 0 D_HT_offerRowProducts_26 rfl rfl ?_
    obtain ⟨c_27, q27, e_27, h⟩ := h
    refine J_getR C fl_HT_74 D_HT_offerRowProducts_27 c_27 e_27 ?_
    refine J_iload_n C 2 D_HT_offerRowProducts_30 rfl rfl ?_
    obtain ⟨c_31, h⟩ := h
    refine J_callVi C ml_HT_162 (S_He_degreeOf _ _ _ _ h) (by rw [hR]; decide) rfl c_31 rfl (Nat.le_of_ble_eq_true rfl) D_HT_offerRowProducts_31 (fun r31 M31 h => ?_)
    refine J_aload_n C 0 D_HT_offerRowProducts_34 rfl rfl ?_
    obtain ⟨c_35, q35, e_35, h⟩ := h
    refine J_getR C fl_HT_78 D_HT_offerRowProducts_35 c_35 e_35 ?_
    refine J_iload_n C 3 D_HT_offerRowProducts_38 rfl rfl ?_
    obtain ⟨c_39, h⟩ := h
    refine J_callVi C ml_HT_162 (S_He_degreeOf _ _ _ _ h) (by rw [hR]; decide) rfl c_39 rfl (Nat.le_of_ble_eq_true rfl) D_HT_offerRowProducts_39 (fun r39 M39 h => ?_)
    refine J_iadd C D_HT_offerRowProducts_42 ?_
    refine J_iload_n C 1 D_HT_offerRowProducts_43 rfl rfl ?_
    refine J_icmp_ne (tgt := 65) C D_HT_offerRowProducts_44 (by decide) (fun c_44 => ?_) (fun c_44 => ?_)
    · have h := h.1 c_44
      exact J_sub [0, 1, 2, 3] rfl (Z_HT_offerRowProducts_65 C hR Rt K2 K15 _ _ _ _ _ h)
    · have h := h.2 c_44
      refine J_aload_n C 0 D_HT_offerRowProducts_47 rfl rfl ?_
      refine J_iload_n C 2 D_HT_offerRowProducts_48 rfl rfl ?_
      refine J_iload_n C 3 D_HT_offerRowProducts_49 rfl rfl ?_
      obtain ⟨c_50, h⟩ := h
      refine J_callVv C ml_HT_296 (S_HT_loadRowProduct _ _ _ _ _ h) (by rw [hR]; decide) rfl c_50 rfl (Nat.le_of_ble_eq_true rfl) D_HT_offerRowProducts_50 (fun M50 h => ?_)
      refine J_aload_n C 0 D_HT_offerRowProducts_53 rfl rfl ?_
      obtain ⟨c_54, q54, e_54, h⟩ := h
      refine J_getR C fl_HT_63 D_HT_offerRowProducts_54 c_54 e_54 ?_
      refine J_iload_n C 1 D_HT_offerRowProducts_57 rfl rfl ?_
      refine J_aload_n C 0 D_HT_offerRowProducts_58 rfl rfl ?_
      obtain ⟨c_59, q59, e_59, h⟩ := h
      refine J_getR C fl_HT_32 D_HT_offerRowProducts_59 c_59 e_59 ?_
      obtain ⟨c_62, h⟩ := h
      refine J_callVv C ml_HT_299 (S_Ba_offer _ _ _ _ _ h) (by rw [hR]; decide) rfl c_62 rfl (Nat.le_of_ble_eq_true rfl) D_HT_offerRowProducts_62 (fun M62 h => ?_)
      exact J_sub [0, 1, 2, 3] rfl (Z_HT_offerRowProducts_65 C hR Rt K2 K15 _ _ _ _ _ h)
def L_HT_offerRowProducts_15 (k2 : Nat → Int32 → Int32 → Mem → Prop) (post : Mem → Prop) : Nat → Nat → Int32 → Int32 → Int32 → Mem → Prop
  | 0, _, _, _, _, _ => False
  | n + 1, a0, x1, x2, x3, M => B_HT_offerRowProducts_15 k2 (L_HT_offerRowProducts_15 k2 post n) post a0 x1 x2 x3 M
theorem Y_HT_offerRowProducts_15 {x : Ctx} {post : Mem → Prop} (C : Ok x b_HT_offerRowProducts 4 "HeapTower") (hR : xR x = rm_HT_offerRowProducts) (Rt : RetV x post 0 0) {k2 : Nat → Int32 → Int32 → Mem → Prop} (K2 : ∀ (a0 : Nat) (x1 : Int32) (x2 : Int32) (M : Mem), k2 a0 x1 x2 M → J x 4 2 [(0, .ref (xd x a0)), (1, .int x1), (2, .int x2)] [] 0 0 M) : ∀ (n : Nat) (a0 : Nat) (x1 : Int32) (x2 : Int32) (x3 : Int32) (M : Mem), L_HT_offerRowProducts_15 k2 post n a0 x1 x2 x3 M → J x 4 15 [(0, .ref (xd x a0)), (1, .int x1), (2, .int x2), (3, .int x3)] [] 0 0 M := by
  intro n
  induction n with
  | zero => intro a0 x1 x2 x3 M h; exact h.elim
  | succ n ih => intro a0 x1 x2 x3 M h; exact Z_HT_offerRowProducts_15 C hR Rt K2 ih _ _ _ _ _ h
def B_HT_offerRowProducts_2 (k2 : Nat → Int32 → Int32 → Mem → Prop) (post : Mem → Prop) (a0 : Nat) (x1 : Int32) (x2 : Int32) (M : Mem) : Prop := (isK M a0 6 ∧ ∃ q4, gR M a0 10 = some q4 ∧ isK M q4 1 ∧ T_He_size q4 M (fun r7 M7 => (r7 ≤ x2 → (post M7)) ∧ (¬ r7 ≤ x2 → (∃ n, L_HT_offerRowProducts_15 k2 post n a0 x1 x2 0 M7))))
set_option maxRecDepth 20000 in
theorem Z_HT_offerRowProducts_2 {x : Ctx} {post : Mem → Prop} (C : Ok x b_HT_offerRowProducts 4 "HeapTower") (hR : xR x = rm_HT_offerRowProducts) (Rt : RetV x post 0 0) {k2 : Nat → Int32 → Int32 → Mem → Prop} (K2 : ∀ (a0 : Nat) (x1 : Int32) (x2 : Int32) (M : Mem), k2 a0 x1 x2 M → J x 4 2 [(0, .ref (xd x a0)), (1, .int x1), (2, .int x2)] [] 0 0 M) (a0 : Nat) (x1 : Int32) (x2 : Int32) (M : Mem) (h : B_HT_offerRowProducts_2 k2 post a0 x1 x2 M) : J x 4 2 [(0, .ref (xd x a0)), (1, .int x1), (2, .int x2)] [] 0 0 M := by
  unfold B_HT_offerRowProducts_2 at h
  refine J_iload_n C 2 D_HT_offerRowProducts_2 rfl rfl ?_
  refine J_aload_n C 0 D_HT_offerRowProducts_3 rfl rfl ?_
  obtain ⟨c_4, q4, e_4, h⟩ := h
  refine J_getR C fl_HT_74 D_HT_offerRowProducts_4 c_4 e_4 ?_
  obtain ⟨c_7, h⟩ := h
  refine J_callVi C ml_HT_154 (S_He_size _ _ _ h) (by rw [hR]; decide) rfl c_7 rfl (Nat.le_of_ble_eq_true rfl) D_HT_offerRowProducts_7 (fun r7 M7 h => ?_)
  refine J_icmp_ge (tgt := 77) C D_HT_offerRowProducts_10 (by decide) (fun c_10 => ?_) (fun c_10 => ?_)
  · have h := h.1 c_10
    exact J_vret C Rt D_HT_offerRowProducts_77 h
  · have h := h.2 c_10
    refine J_iconst (v := 0) C D_HT_offerRowProducts_13 rfl ?_
    refine J_istore_n (lv' := [(3, .int 0), (0, .ref (xd x a0)), (1, .int x1), (2, .int x2)]) C 3 D_HT_offerRowProducts_14 rfl (by decide) rfl ?_
    obtain ⟨n, h⟩ := h
    exact J_sub [1, 2, 3, 0] rfl (Y_HT_offerRowProducts_15 C hR Rt K2 n _ _ _ _ _ h)
def L_HT_offerRowProducts_2 (post : Mem → Prop) : Nat → Nat → Int32 → Int32 → Mem → Prop
  | 0, _, _, _, _ => False
  | n + 1, a0, x1, x2, M => B_HT_offerRowProducts_2 (L_HT_offerRowProducts_2 post n) post a0 x1 x2 M
theorem Y_HT_offerRowProducts_2 {x : Ctx} {post : Mem → Prop} (C : Ok x b_HT_offerRowProducts 4 "HeapTower") (hR : xR x = rm_HT_offerRowProducts) (Rt : RetV x post 0 0) : ∀ (n : Nat) (a0 : Nat) (x1 : Int32) (x2 : Int32) (M : Mem), L_HT_offerRowProducts_2 post n a0 x1 x2 M → J x 4 2 [(0, .ref (xd x a0)), (1, .int x1), (2, .int x2)] [] 0 0 M := by
  intro n
  induction n with
  | zero => intro a0 x1 x2 M h; exact h.elim
  | succ n ih => intro a0 x1 x2 M h; exact Z_HT_offerRowProducts_2 C hR Rt ih _ _ _ _ h
def T_HT_offerRowProducts (a0 : Nat) (x1 : Int32) (M : Mem) (post : Mem → Prop) : Prop := (∃ n, L_HT_offerRowProducts_2 post n a0 x1 0 M)
set_option maxRecDepth 20000 in
theorem S_HT_offerRowProducts {l : Launch} {D : va_G} {B t g : Nat} {d : Nat → Nat} {ac : Nat → ClassId}  (a0 : Nat) (x1 : Int32) (M : Mem) (post : Mem → Prop) (h : T_HT_offerRowProducts a0 x1 M post) : Met l y_HT_offerRowProducts w_HT_offerRowProducts rm_HT_offerRowProducts (va_Pc [.ref (d a0), .int x1] (PRE D B d g t ac M)) (QV D B d g ac post) 0 0 (AB B) := by
  refine met_v (by decide +kernel) (Nat.le_of_ble_eq_true rfl) (fun x h1 hR h3 h4 h5 h6 h7 h8 C Rt Nm => ?_)
  subst h3 h4 h5 h6 h7 h8
  unfold T_HT_offerRowProducts at h
  show J x 4 0 [(0, .ref (xd x a0)), (1, .int x1)] [] 0 0 M
  refine J_iconst (v := 0) C D_HT_offerRowProducts_0 rfl ?_
  refine J_istore_n (lv' := [(2, .int 0), (0, .ref (xd x a0)), (1, .int x1)]) C 2 D_HT_offerRowProducts_1 rfl (by decide) rfl ?_
  obtain ⟨n, h⟩ := h
  exact J_sub [1, 2, 0] rfl (Y_HT_offerRowProducts_2 C hR Rt  n _ _ _ _ h)
theorem D_HT_productBaseUpTo_0 : decode b_HT_productBaseUpTo 0 = .ok (.aload_n 0, 1) := by decide +kernel
theorem D_HT_productBaseUpTo_1 : decode b_HT_productBaseUpTo 1 = .ok (.getfield 63, 3) := by decide +kernel
theorem D_HT_productBaseUpTo_4 : decode b_HT_productBaseUpTo 4 = .ok (.invokevirtual 280, 3) := by decide +kernel
theorem D_HT_productBaseUpTo_7 : decode b_HT_productBaseUpTo 7 = .ok (.iconst 1, 1) := by decide +kernel
theorem D_HT_productBaseUpTo_8 : decode b_HT_productBaseUpTo 8 = .ok (.iadd, 1) := by decide +kernel
theorem D_HT_productBaseUpTo_9 : decode b_HT_productBaseUpTo 9 = .ok (.istore_n 2, 1) := by decide +kernel
theorem D_HT_productBaseUpTo_10 : decode b_HT_productBaseUpTo 10 = .ok (.iload_n 2, 1) := by decide +kernel
theorem D_HT_productBaseUpTo_11 : decode b_HT_productBaseUpTo 11 = .ok (.iload_n 1, 1) := by decide +kernel
theorem D_HT_productBaseUpTo_12 : decode b_HT_productBaseUpTo 12 = .ok (.if_icmp .gt 30, 3) := by decide +kernel
theorem D_HT_productBaseUpTo_15 : decode b_HT_productBaseUpTo 15 = .ok (.aload_n 0, 1) := by decide +kernel
theorem D_HT_productBaseUpTo_16 : decode b_HT_productBaseUpTo 16 = .ok (.getfield 63, 3) := by decide +kernel
theorem D_HT_productBaseUpTo_19 : decode b_HT_productBaseUpTo 19 = .ok (.iload_n 2, 1) := by decide +kernel
theorem D_HT_productBaseUpTo_20 : decode b_HT_productBaseUpTo 20 = .ok (.invokevirtual 283, 3) := by decide +kernel
theorem D_HT_productBaseUpTo_23 : decode b_HT_productBaseUpTo 23 = .ok (.aload_n 0, 1) := by decide +kernel
theorem D_HT_productBaseUpTo_24 : decode b_HT_productBaseUpTo 24 = .ok (.iload_n 2, 1) := by decide +kernel
theorem D_HT_productBaseUpTo_25 : decode b_HT_productBaseUpTo 25 = .ok (.invokevirtual 293, 3) := by decide +kernel
theorem D_HT_productBaseUpTo_28 : decode b_HT_productBaseUpTo 28 = .ok (.aload_n 0, 1) := by decide +kernel
theorem D_HT_productBaseUpTo_29 : decode b_HT_productBaseUpTo 29 = .ok (.getfield 63, 3) := by decide +kernel
theorem D_HT_productBaseUpTo_32 : decode b_HT_productBaseUpTo 32 = .ok (.iload_n 2, 1) := by decide +kernel
theorem D_HT_productBaseUpTo_33 : decode b_HT_productBaseUpTo 33 = .ok (.invokevirtual 290, 3) := by decide +kernel
theorem D_HT_productBaseUpTo_36 : decode b_HT_productBaseUpTo 36 = .ok (.iinc 2 1, 3) := by decide +kernel
theorem D_HT_productBaseUpTo_39 : decode b_HT_productBaseUpTo 39 = .ok (.goto (-29), 3) := by decide +kernel
theorem D_HT_productBaseUpTo_42 : decode b_HT_productBaseUpTo 42 = .ok (.aload_n 0, 1) := by decide +kernel
theorem D_HT_productBaseUpTo_43 : decode b_HT_productBaseUpTo 43 = .ok (.getfield 63, 3) := by decide +kernel
theorem D_HT_productBaseUpTo_46 : decode b_HT_productBaseUpTo 46 = .ok (.areturn, 1) := by decide +kernel
def B_HT_productBaseUpTo_10 (k10 : Nat → Int32 → Int32 → Mem → Prop) (post : Nat → Mem → Prop) (a0 : Nat) (x1 : Int32) (x2 : Int32) (M : Mem) : Prop := ((x1 < x2 → (isK M a0 6 ∧ ∃ q43, gR M a0 8 = some q43 ∧ post q43 M)) ∧ (¬ x1 < x2 → (isK M a0 6 ∧ ∃ q16, gR M a0 8 = some q16 ∧ isK M q16 0 ∧ isK M a0 6 ∧ T_Ba_open q16 x2 M (fun M20 => isK M20 a0 6 ∧ isK M20 a0 6 ∧ T_HT_offerRowProducts a0 x2 M20 (fun M25 => isK M25 a0 6 ∧ ∃ q29, gR M25 a0 8 = some q29 ∧ isK M25 q29 0 ∧ T_Ba_close q29 x2 M25 (fun M33 => k10 a0 x1 (x2 + 1) M33))))))
set_option maxRecDepth 20000 in
theorem Z_HT_productBaseUpTo_10 {x : Ctx} {post : Nat → Mem → Prop} (C : Ok x b_HT_productBaseUpTo 3 "HeapTower") (hR : (xR x).frames = 5 ∧ (xR x).locals = 131) (Bd : Bdg x 0) {z : Nat} (Rt : RetRD x (.object "HeapTower$Base") post z) {k10 : Nat → Int32 → Int32 → Mem → Prop} (K10 : ∀ x', Sm x x' → ∀ (a0 : Nat) (x1 : Int32) (x2 : Int32) (M : Mem), nC M + xg x' ≤ 2800 → k10 a0 x1 x2 M → J x' 3 10 [(0, .ref (xd x' a0)), (1, .int x1), (2, .int x2)] [] (iC x' M) (iS 0 x' M) M) (a0 : Nat) (x1 : Int32) (x2 : Int32) (M : Mem) (hN : nC M + xg x ≤ 2800) (h : B_HT_productBaseUpTo_10 k10 post a0 x1 x2 M) : J x 3 10 [(0, .ref (xd x a0)), (1, .int x1), (2, .int x2)] [] (iC x M) (iS 0 x M) M := by
  unfold B_HT_productBaseUpTo_10 at h
  refine J_iload_n C 2 D_HT_productBaseUpTo_10 rfl rfl ?_
  refine J_iload_n C 1 D_HT_productBaseUpTo_11 rfl rfl ?_
  refine J_icmp_gt (tgt := 42) C D_HT_productBaseUpTo_12 (by decide) (fun c_12 => ?_) (fun c_12 => ?_)
  · have h := h.1 c_12
    refine J_aload_n C 0 D_HT_productBaseUpTo_42 rfl rfl ?_
    obtain ⟨c_43, q43, e_43, h⟩ := h
    refine J_getR C fl_HT_63 D_HT_productBaseUpTo_43 c_43 e_43 ?_
    exact JD_aret C Rt hN D_HT_productBaseUpTo_46 h
  · have h := h.2 c_12
    refine J_aload_n C 0 D_HT_productBaseUpTo_15 rfl rfl ?_
    obtain ⟨c_16, q16, e_16, h⟩ := h
    refine J_getR C fl_HT_63 D_HT_productBaseUpTo_16 c_16 e_16 ?_
    refine J_iload_n C 2 D_HT_productBaseUpTo_19 rfl rfl ?_
    obtain ⟨c_20, h⟩ := h
    refine J_sub [0, 1, 2] rfl ?_
    obtain ⟨i_20_0, h⟩ := h
    refine JD_callVv C Bd hN ml_HT_283 (S_Ba_open _ _ _ _ hN h) (by rw [hR.1, hR.2]; decide) rfl c_20 rfl (Nat.le_of_ble_eq_true rfl) D_HT_productBaseUpTo_20 (fun x ex M20 hN hq h => ?_)
    have C := ex.ok C
    have hR := ex.fr hR
    have Bd := ex.bd Bd
    have Rt := ex.rr Rt
    have K10 := fun x2 s2 => K10 x2 (ex.tr s2)
    obtain ⟨j_20_0, h⟩ := h
    rw [hq a0 6 (by decide) i_20_0 j_20_0]
    refine J_aload_n C 0 D_HT_productBaseUpTo_23 rfl rfl ?_
    refine J_iload_n C 2 D_HT_productBaseUpTo_24 rfl rfl ?_
    obtain ⟨c_25, h⟩ := h
    refine JS_callVv C Bd hN ml_HT_293 (S_HT_offerRowProducts _ _ _ _ h) ⟨rfl, rfl⟩ (by rw [hR.1, hR.2]; decide) rfl c_25 rfl (Nat.le_of_ble_eq_true rfl) D_HT_productBaseUpTo_25 (fun M25 hN h => ?_)
    refine J_aload_n C 0 D_HT_productBaseUpTo_28 rfl rfl ?_
    obtain ⟨c_29, q29, e_29, h⟩ := h
    refine J_getR C fl_HT_63 D_HT_productBaseUpTo_29 c_29 e_29 ?_
    refine J_iload_n C 2 D_HT_productBaseUpTo_32 rfl rfl ?_
    obtain ⟨c_33, h⟩ := h
    refine JS_callVv C Bd hN ml_HT_290 (S_Ba_close _ _ _ _ h) ⟨rfl, rfl⟩ (by rw [hR.1, hR.2]; decide) rfl c_33 rfl (Nat.le_of_ble_eq_true rfl) D_HT_productBaseUpTo_33 (fun M33 hN h => ?_)
    refine J_iinc (v := x2 + 1) (lv' := [(2, .int (x2 + 1)), (0, .ref (xd x a0)), (1, .int x1)]) C 2 2 D_HT_productBaseUpTo_36 rfl rfl (by decide) rfl ?_
    refine J_goto (tgt := 10) C D_HT_productBaseUpTo_39 (by decide) ?_
    exact J_sub [1, 2, 0] rfl (K10 x (Sm.rf x) _ _ _ _ hN h)
def L_HT_productBaseUpTo_10 (post : Nat → Mem → Prop) : Nat → Nat → Int32 → Int32 → Mem → Prop
  | 0, _, _, _, _ => False
  | n + 1, a0, x1, x2, M => B_HT_productBaseUpTo_10 (L_HT_productBaseUpTo_10 post n) post a0 x1 x2 M
theorem Y_HT_productBaseUpTo_10 {x : Ctx} {post : Nat → Mem → Prop} (C : Ok x b_HT_productBaseUpTo 3 "HeapTower") (hR : (xR x).frames = 5 ∧ (xR x).locals = 131) (Bd : Bdg x 0) {z : Nat} (Rt : RetRD x (.object "HeapTower$Base") post z) : ∀ (n : Nat) (x' : Ctx), Sm x x' → ∀ (a0 : Nat) (x1 : Int32) (x2 : Int32) (M : Mem), nC M + xg x' ≤ 2800 → L_HT_productBaseUpTo_10 post n a0 x1 x2 M → J x' 3 10 [(0, .ref (xd x' a0)), (1, .int x1), (2, .int x2)] [] (iC x' M) (iS 0 x' M) M := by
  intro n
  induction n with
  | zero => intro x' ex a0 x1 x2 M hN h; exact h.elim
  | succ n ih => intro x' ex a0 x1 x2 M hN h; exact Z_HT_productBaseUpTo_10 (ex.ok C) (ex.fr hR) (ex.bd Bd) (ex.rr Rt) (fun x2 s2 => ih x2 (ex.tr s2)) _ _ _ _ hN h
def T_HT_productBaseUpTo (a0 : Nat) (x1 : Int32) (M : Mem) (post : Nat → Mem → Prop) : Prop := (isK M a0 6 ∧ ∃ q1, gR M a0 8 = some q1 ∧ isK M q1 0 ∧ T_Ba_reached q1 M (fun r4 M4 => ∃ n, L_HT_productBaseUpTo_10 post n a0 x1 (r4 + 1) M4))
set_option maxRecDepth 20000 in
theorem S_HT_productBaseUpTo {l : Launch} {D : va_G} {B t g : Nat} {d : Nat → Nat} {ac : Nat → ClassId} (a0 : Nat) (x1 : Int32) (M : Mem) (post : Nat → Mem → Prop) (hN : nC M + g ≤ 2800) (h : T_HT_productBaseUpTo a0 x1 M post) : Met l y_HT_productBaseUpTo w_HT_productBaseUpTo (rmD 5 131 (nC M + g)) (va_Pc [.ref (d a0), .int x1] (PRE D B d g t ac M)) (QRD D B ac post) (2800 - (nC M + g)) (2560 * (2800 - (nC M + g))) (AB B) := by
  refine met_rD (by decide +kernel) (Or.inl ⟨_, rfl⟩) (Nat.le_of_ble_eq_true rfl) hN (fun x h1 hR h3 h4 h5 h6 h7 h8 C Bd Rt hN => ?_)
  subst h3 h4 h5 h6 h7 h8
  unfold T_HT_productBaseUpTo at h
  show J x 3 0 [(0, .ref (xd x a0)), (1, .int x1)] [] (iC x M) (iS 0 x M) M
  refine J_aload_n C 0 D_HT_productBaseUpTo_0 rfl rfl ?_
  obtain ⟨c_1, q1, e_1, h⟩ := h
  refine J_getR C fl_HT_63 D_HT_productBaseUpTo_1 c_1 e_1 ?_
  obtain ⟨c_4, h⟩ := h
  refine JS_callVi C Bd hN ml_HT_280 (S_Ba_reached _ _ _ h) ⟨rfl, rfl⟩ (by rw [hR.1, hR.2]; decide) rfl c_4 rfl (Nat.le_of_ble_eq_true rfl) D_HT_productBaseUpTo_4 (fun r4 M4 hN h => ?_)
  refine J_iconst (v := 1) C D_HT_productBaseUpTo_7 rfl ?_
  refine J_iadd C D_HT_productBaseUpTo_8 ?_
  refine J_istore_n (lv' := [(2, .int (r4 + 1)), (0, .ref (xd x a0)), (1, .int x1)]) C 2 D_HT_productBaseUpTo_9 rfl (by decide) rfl ?_
  obtain ⟨n, h⟩ := h
  exact J_sub [1, 2, 0] rfl (Y_HT_productBaseUpTo_10 C hR Bd Rt  n x (Sm.rf x) _ _ _ _ hN h)
theorem D_HT_dimension_0 : decode b_HT_dimension 0 = .ok (.iload_n 2, 1) := by decide +kernel
theorem D_HT_dimension_1 : decode b_HT_dimension 1 = .ok (.ifCond .lt 9, 3) := by decide +kernel
theorem D_HT_dimension_4 : decode b_HT_dimension 4 = .ok (.iload_n 2, 1) := by decide +kernel
theorem D_HT_dimension_5 : decode b_HT_dimension 5 = .ok (.bipush 10, 2) := by decide +kernel
theorem D_HT_dimension_7 : decode b_HT_dimension 7 = .ok (.if_icmp .le 6, 3) := by decide +kernel
theorem D_HT_dimension_10 : decode b_HT_dimension 10 = .ok (.ldc 85, 2) := by decide +kernel
theorem D_HT_dimension_12 : decode b_HT_dimension 12 = .ok (.ireturn, 1) := by decide +kernel
theorem D_HT_dimension_13 : decode b_HT_dimension 13 = .ok (.iload_n 1, 1) := by decide +kernel
theorem D_HT_dimension_14 : decode b_HT_dimension 14 = .ok (.tableswitch 116 0 4 #[34, 47, 60, 70, 106], 34) := by decide +kernel
theorem D_HT_dimension_48 : decode b_HT_dimension 48 = .ok (.aload_n 0, 1) := by decide +kernel
theorem D_HT_dimension_49 : decode b_HT_dimension 49 = .ok (.getfield 74, 3) := by decide +kernel
theorem D_HT_dimension_52 : decode b_HT_dimension 52 = .ok (.iload_n 2, 1) := by decide +kernel
theorem D_HT_dimension_53 : decode b_HT_dimension 53 = .ok (.invokevirtual 178, 3) := by decide +kernel
theorem D_HT_dimension_56 : decode b_HT_dimension 56 = .ok (.iload_n 2, 1) := by decide +kernel
theorem D_HT_dimension_57 : decode b_HT_dimension 57 = .ok (.invokevirtual 227, 3) := by decide +kernel
theorem D_HT_dimension_60 : decode b_HT_dimension 60 = .ok (.ireturn, 1) := by decide +kernel
theorem D_HT_dimension_61 : decode b_HT_dimension 61 = .ok (.aload_n 0, 1) := by decide +kernel
theorem D_HT_dimension_62 : decode b_HT_dimension 62 = .ok (.getfield 78, 3) := by decide +kernel
theorem D_HT_dimension_65 : decode b_HT_dimension 65 = .ok (.iload_n 2, 1) := by decide +kernel
theorem D_HT_dimension_66 : decode b_HT_dimension 66 = .ok (.invokevirtual 178, 3) := by decide +kernel
theorem D_HT_dimension_69 : decode b_HT_dimension 69 = .ok (.iload_n 2, 1) := by decide +kernel
theorem D_HT_dimension_70 : decode b_HT_dimension 70 = .ok (.invokevirtual 227, 3) := by decide +kernel
theorem D_HT_dimension_73 : decode b_HT_dimension 73 = .ok (.ireturn, 1) := by decide +kernel
theorem D_HT_dimension_74 : decode b_HT_dimension 74 = .ok (.aload_n 0, 1) := by decide +kernel
theorem D_HT_dimension_75 : decode b_HT_dimension 75 = .ok (.iload_n 2, 1) := by decide +kernel
theorem D_HT_dimension_76 : decode b_HT_dimension 76 = .ok (.invokevirtual 230, 3) := by decide +kernel
theorem D_HT_dimension_79 : decode b_HT_dimension 79 = .ok (.iload_n 2, 1) := by decide +kernel
theorem D_HT_dimension_80 : decode b_HT_dimension 80 = .ok (.invokevirtual 227, 3) := by decide +kernel
theorem D_HT_dimension_83 : decode b_HT_dimension 83 = .ok (.ireturn, 1) := by decide +kernel
theorem D_HT_dimension_84 : decode b_HT_dimension 84 = .ok (.aload_n 0, 1) := by decide +kernel
theorem D_HT_dimension_85 : decode b_HT_dimension 85 = .ok (.getfield 74, 3) := by decide +kernel
theorem D_HT_dimension_88 : decode b_HT_dimension 88 = .ok (.iload_n 2, 1) := by decide +kernel
theorem D_HT_dimension_89 : decode b_HT_dimension 89 = .ok (.invokevirtual 178, 3) := by decide +kernel
theorem D_HT_dimension_92 : decode b_HT_dimension 92 = .ok (.iload_n 2, 1) := by decide +kernel
theorem D_HT_dimension_93 : decode b_HT_dimension 93 = .ok (.invokevirtual 227, 3) := by decide +kernel
theorem D_HT_dimension_96 : decode b_HT_dimension 96 = .ok (.aload_n 0, 1) := by decide +kernel
theorem D_HT_dimension_97 : decode b_HT_dimension 97 = .ok (.getfield 78, 3) := by decide +kernel
theorem D_HT_dimension_100 : decode b_HT_dimension 100 = .ok (.iload_n 2, 1) := by decide +kernel
theorem D_HT_dimension_101 : decode b_HT_dimension 101 = .ok (.invokevirtual 178, 3) := by decide +kernel
theorem D_HT_dimension_104 : decode b_HT_dimension 104 = .ok (.iload_n 2, 1) := by decide +kernel
theorem D_HT_dimension_105 : decode b_HT_dimension 105 = .ok (.invokevirtual 227, 3) := by decide +kernel
theorem D_HT_dimension_108 : decode b_HT_dimension 108 = .ok (.iadd, 1) := by decide +kernel
theorem D_HT_dimension_109 : decode b_HT_dimension 109 = .ok (.aload_n 0, 1) := by decide +kernel
theorem D_HT_dimension_110 : decode b_HT_dimension 110 = .ok (.iload_n 2, 1) := by decide +kernel
theorem D_HT_dimension_111 : decode b_HT_dimension 111 = .ok (.invokevirtual 230, 3) := by decide +kernel
theorem D_HT_dimension_114 : decode b_HT_dimension 114 = .ok (.iload_n 2, 1) := by decide +kernel
theorem D_HT_dimension_115 : decode b_HT_dimension 115 = .ok (.invokevirtual 227, 3) := by decide +kernel
theorem D_HT_dimension_118 : decode b_HT_dimension 118 = .ok (.isub, 1) := by decide +kernel
theorem D_HT_dimension_119 : decode b_HT_dimension 119 = .ok (.ireturn, 1) := by decide +kernel
theorem D_HT_dimension_120 : decode b_HT_dimension 120 = .ok (.aload_n 0, 1) := by decide +kernel
theorem D_HT_dimension_121 : decode b_HT_dimension 121 = .ok (.iload_n 2, 1) := by decide +kernel
theorem D_HT_dimension_122 : decode b_HT_dimension 122 = .ok (.invokevirtual 233, 3) := by decide +kernel
theorem D_HT_dimension_125 : decode b_HT_dimension 125 = .ok (.iload_n 2, 1) := by decide +kernel
theorem D_HT_dimension_126 : decode b_HT_dimension 126 = .ok (.invokevirtual 227, 3) := by decide +kernel
theorem D_HT_dimension_129 : decode b_HT_dimension 129 = .ok (.ireturn, 1) := by decide +kernel
theorem D_HT_dimension_130 : decode b_HT_dimension 130 = .ok (.ldc 85, 2) := by decide +kernel
theorem D_HT_dimension_132 : decode b_HT_dimension 132 = .ok (.ireturn, 1) := by decide +kernel
def B_HT_dimension_10 (post : Int32 → Mem → Prop) (M : Mem) : Prop := (post ((-1000000)) M)
set_option maxRecDepth 20000 in
theorem Z_HT_dimension_10 {x : Ctx} {post : Int32 → Mem → Prop} (C : Ok x b_HT_dimension 3 "HeapTower") (hR : (xR x).frames = 6 ∧ (xR x).locals = 153) (Bd : Bdg x 0) {z : Nat} (Rt : RetID x .int post z) (M : Mem) (hN : nC M + xg x ≤ 2800) (h : B_HT_dimension_10 post M) : J x 3 10 [] [] (iC x M) (iS 0 x M) M := by
  unfold B_HT_dimension_10 at h
  refine J_ldc (v := (-1000000)) C D_HT_dimension_10 kw_HT_85 ?_
  exact JD_iret C Rt hN D_HT_dimension_12 rfl h
def T_HT_dimension (a0 : Nat) (x1 : Int32) (x2 : Int32) (M : Mem) (post : Int32 → Mem → Prop) : Prop := ((x2 < 0 → (B_HT_dimension_10 post M)) ∧ (¬ x2 < 0 → ((x2 ≤ 10 → (((Int32.toInt x1 < 0 ∨ 4 < Int32.toInt x1) → (post ((-1000000)) M)) ∧ (Int32.toInt x1 = 0 → (isK M a0 6 ∧ ∃ q49, gR M a0 10 = some q49 ∧ isK M q49 1 ∧ T_He_baseUpTo q49 x2 M (fun r53 M53 => isK M53 r53 0 ∧ T_Ba_leadingCount r53 x2 M53 (fun r57 M57 => post r57 M57)))) ∧ (Int32.toInt x1 = 1 → (isK M a0 6 ∧ ∃ q62, gR M a0 11 = some q62 ∧ isK M q62 1 ∧ T_He_baseUpTo q62 x2 M (fun r66 M66 => isK M66 r66 0 ∧ T_Ba_leadingCount r66 x2 M66 (fun r70 M70 => post r70 M70)))) ∧ (Int32.toInt x1 = 2 → (isK M a0 6 ∧ T_HT_sumBaseUpTo a0 x2 M (fun r76 M76 => isK M76 r76 0 ∧ T_Ba_leadingCount r76 x2 M76 (fun r80 M80 => post r80 M80)))) ∧ (Int32.toInt x1 = 3 → (isK M a0 6 ∧ ∃ q85, gR M a0 10 = some q85 ∧ isK M q85 1 ∧ isK M a0 6 ∧ T_He_baseUpTo q85 x2 M (fun r89 M89 => isK M89 a0 6 ∧ isK M89 r89 0 ∧ T_Ba_leadingCount r89 x2 M89 (fun r93 M93 => isK M93 a0 6 ∧ ∃ q97, gR M93 a0 11 = some q97 ∧ isK M93 q97 1 ∧ isK M93 a0 6 ∧ T_He_baseUpTo q97 x2 M93 (fun r101 M101 => isK M101 a0 6 ∧ isK M101 r101 0 ∧ T_Ba_leadingCount r101 x2 M101 (fun r105 M105 => isK M105 a0 6 ∧ T_HT_sumBaseUpTo a0 x2 M105 (fun r111 M111 => isK M111 r111 0 ∧ T_Ba_leadingCount r111 x2 M111 (fun r115 M115 => post ((r93 + r105) - r115) M115)))))))) ∧ (Int32.toInt x1 = 4 → (isK M a0 6 ∧ T_HT_productBaseUpTo a0 x2 M (fun r122 M122 => isK M122 r122 0 ∧ T_Ba_leadingCount r122 x2 M122 (fun r126 M126 => post r126 M126)))))) ∧ (¬ x2 ≤ 10 → (B_HT_dimension_10 post M)))))
set_option maxRecDepth 20000 in
theorem S_HT_dimension {l : Launch} {D : va_G} {B t g : Nat} {d : Nat → Nat} {ac : Nat → ClassId} (a0 : Nat) (x1 : Int32) (x2 : Int32) (M : Mem) (post : Int32 → Mem → Prop) (hN : nC M + g ≤ 2800) (h : T_HT_dimension a0 x1 x2 M post) : Met l y_HT_dimension w_HT_dimension (rmD 6 153 (nC M + g)) (va_Pc [.ref (d a0), .int x1, .int x2] (PRE D B d g t ac M)) (QID D B ac post) (2800 - (nC M + g)) (2560 * (2800 - (nC M + g))) (AB B) := by
  refine met_iD (by decide +kernel) (Nat.le_of_ble_eq_true rfl) hN (fun x h1 hR h3 h4 h5 h6 h7 h8 C Bd Rt hN => ?_)
  subst h3 h4 h5 h6 h7 h8
  unfold T_HT_dimension at h
  show J x 3 0 [(0, .ref (xd x a0)), (1, .int x1), (2, .int x2)] [] (iC x M) (iS 0 x M) M
  refine J_iload_n C 2 D_HT_dimension_0 rfl rfl ?_
  refine J_if_lt (tgt := 10) C D_HT_dimension_1 (by decide) (fun c_1 => ?_) (fun c_1 => ?_)
  · have h := h.1 c_1
    exact J_sub [] rfl (Z_HT_dimension_10 C hR Bd Rt  _ hN h)
  · have h := h.2 c_1
    refine J_iload_n C 2 D_HT_dimension_4 rfl rfl ?_
    refine J_bipush (v := 10) C D_HT_dimension_5 rfl ?_
    refine J_icmp_le (tgt := 13) C D_HT_dimension_7 (by decide) (fun c_7 => ?_) (fun c_7 => ?_)
    · have h := h.1 c_7
      refine J_iload_n C 1 D_HT_dimension_13 rfl rfl ?_
      by_cases q_14 : Int32.toInt x1 < 0 ∨ 4 < Int32.toInt x1
      · have h := h.1 q_14
        refine J_tableOut (tgt := 130) C D_HT_dimension_14 q_14 (by decide) ?_
        refine J_ldc (v := (-1000000)) C D_HT_dimension_130 kw_HT_85 ?_
        exact JD_iret C Rt hN D_HT_dimension_132 rfl h
      · have h := h.2
        have r_14 : Int32.toInt x1 = 0 ∨ Int32.toInt x1 = 1 ∨ Int32.toInt x1 = 2 ∨ Int32.toInt x1 = 3 ∨ Int32.toInt x1 = 4 := by omega
        rcases r_14 with r_14 | r_14 | r_14 | r_14 | r_14
        · have h := (h.1) r_14
          refine J_tableIn (tgt := 48) C D_HT_dimension_14 (by rw [r_14]; decide) (by rw [r_14]; decide) (by rw [r_14]; rfl) (by decide) ?_
          refine J_aload_n C 0 D_HT_dimension_48 rfl rfl ?_
          obtain ⟨c_49, q49, e_49, h⟩ := h
          refine J_getR C fl_HT_74 D_HT_dimension_49 c_49 e_49 ?_
          refine J_iload_n C 2 D_HT_dimension_52 rfl rfl ?_
          obtain ⟨c_53, h⟩ := h
          refine J_sub [2] rfl ?_
          refine JD_callVr C Bd hN ml_HT_178 (S_He_baseUpTo _ _ _ _ hN h) (by rw [hR.1, hR.2]; decide) rfl c_53 rfl (Nat.le_of_ble_eq_true rfl) D_HT_dimension_53 (fun x ex r53 M53 hN hq h => ?_)
          have C := ex.ok C
          have hR := ex.fr hR
          have Bd := ex.bd Bd
          have Rt := ex.ri Rt
          refine J_iload_n C 2 D_HT_dimension_56 rfl rfl ?_
          obtain ⟨c_57, h⟩ := h
          refine JS_callVi C Bd hN ml_HT_227 (S_Ba_leadingCount _ _ _ _ h) ⟨rfl, rfl⟩ (by rw [hR.1, hR.2]; decide) rfl c_57 rfl (Nat.le_of_ble_eq_true rfl) D_HT_dimension_57 (fun r57 M57 hN h => ?_)
          exact JD_iret C Rt hN D_HT_dimension_60 rfl h
        · have h := (h.2.1) r_14
          refine J_tableIn (tgt := 61) C D_HT_dimension_14 (by rw [r_14]; decide) (by rw [r_14]; decide) (by rw [r_14]; rfl) (by decide) ?_
          refine J_aload_n C 0 D_HT_dimension_61 rfl rfl ?_
          obtain ⟨c_62, q62, e_62, h⟩ := h
          refine J_getR C fl_HT_78 D_HT_dimension_62 c_62 e_62 ?_
          refine J_iload_n C 2 D_HT_dimension_65 rfl rfl ?_
          obtain ⟨c_66, h⟩ := h
          refine J_sub [2] rfl ?_
          refine JD_callVr C Bd hN ml_HT_178 (S_He_baseUpTo _ _ _ _ hN h) (by rw [hR.1, hR.2]; decide) rfl c_66 rfl (Nat.le_of_ble_eq_true rfl) D_HT_dimension_66 (fun x ex r66 M66 hN hq h => ?_)
          have C := ex.ok C
          have hR := ex.fr hR
          have Bd := ex.bd Bd
          have Rt := ex.ri Rt
          refine J_iload_n C 2 D_HT_dimension_69 rfl rfl ?_
          obtain ⟨c_70, h⟩ := h
          refine JS_callVi C Bd hN ml_HT_227 (S_Ba_leadingCount _ _ _ _ h) ⟨rfl, rfl⟩ (by rw [hR.1, hR.2]; decide) rfl c_70 rfl (Nat.le_of_ble_eq_true rfl) D_HT_dimension_70 (fun r70 M70 hN h => ?_)
          exact JD_iret C Rt hN D_HT_dimension_73 rfl h
        · have h := (h.2.2.1) r_14
          refine J_tableIn (tgt := 74) C D_HT_dimension_14 (by rw [r_14]; decide) (by rw [r_14]; decide) (by rw [r_14]; rfl) (by decide) ?_
          refine J_aload_n C 0 D_HT_dimension_74 rfl rfl ?_
          refine J_iload_n C 2 D_HT_dimension_75 rfl rfl ?_
          obtain ⟨c_76, h⟩ := h
          refine J_sub [2] rfl ?_
          refine JD_callVr C Bd hN ml_HT_230 (S_HT_sumBaseUpTo _ _ _ _ hN h) (by rw [hR.1, hR.2]; decide) rfl c_76 rfl (Nat.le_of_ble_eq_true rfl) D_HT_dimension_76 (fun x ex r76 M76 hN hq h => ?_)
          have C := ex.ok C
          have hR := ex.fr hR
          have Bd := ex.bd Bd
          have Rt := ex.ri Rt
          refine J_iload_n C 2 D_HT_dimension_79 rfl rfl ?_
          obtain ⟨c_80, h⟩ := h
          refine JS_callVi C Bd hN ml_HT_227 (S_Ba_leadingCount _ _ _ _ h) ⟨rfl, rfl⟩ (by rw [hR.1, hR.2]; decide) rfl c_80 rfl (Nat.le_of_ble_eq_true rfl) D_HT_dimension_80 (fun r80 M80 hN h => ?_)
          exact JD_iret C Rt hN D_HT_dimension_83 rfl h
        · have h := (h.2.2.2.1) r_14
          refine J_tableIn (tgt := 84) C D_HT_dimension_14 (by rw [r_14]; decide) (by rw [r_14]; decide) (by rw [r_14]; rfl) (by decide) ?_
          refine J_aload_n C 0 D_HT_dimension_84 rfl rfl ?_
          obtain ⟨c_85, q85, e_85, h⟩ := h
          refine J_getR C fl_HT_74 D_HT_dimension_85 c_85 e_85 ?_
          refine J_iload_n C 2 D_HT_dimension_88 rfl rfl ?_
          obtain ⟨c_89, h⟩ := h
          refine J_sub [0, 2] rfl ?_
          obtain ⟨i_89_0, h⟩ := h
          refine JD_callVr C Bd hN ml_HT_178 (S_He_baseUpTo _ _ _ _ hN h) (by rw [hR.1, hR.2]; decide) rfl c_89 rfl (Nat.le_of_ble_eq_true rfl) D_HT_dimension_89 (fun x ex r89 M89 hN hq h => ?_)
          have C := ex.ok C
          have hR := ex.fr hR
          have Bd := ex.bd Bd
          have Rt := ex.ri Rt
          obtain ⟨j_89_0, h⟩ := h
          rw [hq a0 6 (by decide) i_89_0 j_89_0]
          refine J_iload_n C 2 D_HT_dimension_92 rfl rfl ?_
          obtain ⟨c_93, h⟩ := h
          refine JS_callVi C Bd hN ml_HT_227 (S_Ba_leadingCount _ _ _ _ h) ⟨rfl, rfl⟩ (by rw [hR.1, hR.2]; decide) rfl c_93 rfl (Nat.le_of_ble_eq_true rfl) D_HT_dimension_93 (fun r93 M93 hN h => ?_)
          refine J_aload_n C 0 D_HT_dimension_96 rfl rfl ?_
          obtain ⟨c_97, q97, e_97, h⟩ := h
          refine J_getR C fl_HT_78 D_HT_dimension_97 c_97 e_97 ?_
          refine J_iload_n C 2 D_HT_dimension_100 rfl rfl ?_
          obtain ⟨c_101, h⟩ := h
          refine J_sub [0, 1] rfl ?_
          obtain ⟨i_101_0, h⟩ := h
          refine JD_callVr C Bd hN ml_HT_178 (S_He_baseUpTo _ _ _ _ hN h) (by rw [hR.1, hR.2]; decide) rfl c_101 rfl (Nat.le_of_ble_eq_true rfl) D_HT_dimension_101 (fun x ex r101 M101 hN hq h => ?_)
          have C := ex.ok C
          have hR := ex.fr hR
          have Bd := ex.bd Bd
          have Rt := ex.ri Rt
          obtain ⟨j_101_0, h⟩ := h
          rw [hq a0 6 (by decide) i_101_0 j_101_0]
          refine J_iload_n C 2 D_HT_dimension_104 rfl rfl ?_
          obtain ⟨c_105, h⟩ := h
          refine JS_callVi C Bd hN ml_HT_227 (S_Ba_leadingCount _ _ _ _ h) ⟨rfl, rfl⟩ (by rw [hR.1, hR.2]; decide) rfl c_105 rfl (Nat.le_of_ble_eq_true rfl) D_HT_dimension_105 (fun r105 M105 hN h => ?_)
          refine J_iadd C D_HT_dimension_108 ?_
          refine J_aload_n C 0 D_HT_dimension_109 rfl rfl ?_
          refine J_iload_n C 2 D_HT_dimension_110 rfl rfl ?_
          obtain ⟨c_111, h⟩ := h
          refine J_sub [1] rfl ?_
          refine JD_callVr C Bd hN ml_HT_230 (S_HT_sumBaseUpTo _ _ _ _ hN h) (by rw [hR.1, hR.2]; decide) rfl c_111 rfl (Nat.le_of_ble_eq_true rfl) D_HT_dimension_111 (fun x ex r111 M111 hN hq h => ?_)
          have C := ex.ok C
          have hR := ex.fr hR
          have Bd := ex.bd Bd
          have Rt := ex.ri Rt
          refine J_iload_n C 2 D_HT_dimension_114 rfl rfl ?_
          obtain ⟨c_115, h⟩ := h
          refine JS_callVi C Bd hN ml_HT_227 (S_Ba_leadingCount _ _ _ _ h) ⟨rfl, rfl⟩ (by rw [hR.1, hR.2]; decide) rfl c_115 rfl (Nat.le_of_ble_eq_true rfl) D_HT_dimension_115 (fun r115 M115 hN h => ?_)
          refine J_isub C D_HT_dimension_118 ?_
          exact JD_iret C Rt hN D_HT_dimension_119 rfl h
        · have h := (h.2.2.2.2) r_14
          refine J_tableIn (tgt := 120) C D_HT_dimension_14 (by rw [r_14]; decide) (by rw [r_14]; decide) (by rw [r_14]; rfl) (by decide) ?_
          refine J_aload_n C 0 D_HT_dimension_120 rfl rfl ?_
          refine J_iload_n C 2 D_HT_dimension_121 rfl rfl ?_
          obtain ⟨c_122, h⟩ := h
          refine J_sub [2] rfl ?_
          refine JD_callVr C Bd hN ml_HT_233 (S_HT_productBaseUpTo _ _ _ _ hN h) (by rw [hR.1, hR.2]; decide) rfl c_122 rfl (Nat.le_of_ble_eq_true rfl) D_HT_dimension_122 (fun x ex r122 M122 hN hq h => ?_)
          have C := ex.ok C
          have hR := ex.fr hR
          have Bd := ex.bd Bd
          have Rt := ex.ri Rt
          refine J_iload_n C 2 D_HT_dimension_125 rfl rfl ?_
          obtain ⟨c_126, h⟩ := h
          refine JS_callVi C Bd hN ml_HT_227 (S_Ba_leadingCount _ _ _ _ h) ⟨rfl, rfl⟩ (by rw [hR.1, hR.2]; decide) rfl c_126 rfl (Nat.le_of_ble_eq_true rfl) D_HT_dimension_126 (fun r126 M126 hN h => ?_)
          exact JD_iret C Rt hN D_HT_dimension_129 rfl h
    · have h := h.2 c_7
      exact J_sub [] rfl (Z_HT_dimension_10 C hR Bd Rt  _ hN h)
theorem D_HT_leastOutside_0 : decode b_HT_leastOutside 0 = .ok (.bipush 6, 2) := by decide +kernel
theorem D_HT_leastOutside_2 : decode b_HT_leastOutside 2 = .ok (.istore_n 3, 1) := by decide +kernel
theorem D_HT_leastOutside_3 : decode b_HT_leastOutside 3 = .ok (.iconst 0, 1) := by decide +kernel
theorem D_HT_leastOutside_4 : decode b_HT_leastOutside 4 = .ok (.istore 4, 2) := by decide +kernel
theorem D_HT_leastOutside_6 : decode b_HT_leastOutside 6 = .ok (.iload 4, 2) := by decide +kernel
theorem D_HT_leastOutside_8 : decode b_HT_leastOutside 8 = .ok (.aload_n 1, 1) := by decide +kernel
theorem D_HT_leastOutside_9 : decode b_HT_leastOutside 9 = .ok (.invokevirtual 154, 3) := by decide +kernel
theorem D_HT_leastOutside_12 : decode b_HT_leastOutside 12 = .ok (.if_icmp .ge 62, 3) := by decide +kernel
theorem D_HT_leastOutside_15 : decode b_HT_leastOutside 15 = .ok (.aload_n 1, 1) := by decide +kernel
theorem D_HT_leastOutside_16 : decode b_HT_leastOutside 16 = .ok (.iload 4, 2) := by decide +kernel
theorem D_HT_leastOutside_18 : decode b_HT_leastOutside 18 = .ok (.invokevirtual 162, 3) := by decide +kernel
theorem D_HT_leastOutside_21 : decode b_HT_leastOutside 21 = .ok (.istore 5, 2) := by decide +kernel
theorem D_HT_leastOutside_23 : decode b_HT_leastOutside 23 = .ok (.aload_n 1, 1) := by decide +kernel
theorem D_HT_leastOutside_24 : decode b_HT_leastOutside 24 = .ok (.iload 4, 2) := by decide +kernel
theorem D_HT_leastOutside_26 : decode b_HT_leastOutside 26 = .ok (.aload_n 0, 1) := by decide +kernel
theorem D_HT_leastOutside_27 : decode b_HT_leastOutside 27 = .ok (.getfield 32, 3) := by decide +kernel
theorem D_HT_leastOutside_30 : decode b_HT_leastOutside 30 = .ok (.invokevirtual 171, 3) := by decide +kernel
theorem D_HT_leastOutside_33 : decode b_HT_leastOutside 33 = .ok (.aload_n 2, 1) := by decide +kernel
theorem D_HT_leastOutside_34 : decode b_HT_leastOutside 34 = .ok (.iload 5, 2) := by decide +kernel
theorem D_HT_leastOutside_36 : decode b_HT_leastOutside 36 = .ok (.aload_n 0, 1) := by decide +kernel
theorem D_HT_leastOutside_37 : decode b_HT_leastOutside 37 = .ok (.getfield 32, 3) := by decide +kernel
theorem D_HT_leastOutside_40 : decode b_HT_leastOutside 40 = .ok (.invokevirtual 267, 3) := by decide +kernel
theorem D_HT_leastOutside_43 : decode b_HT_leastOutside 43 = .ok (.iload 5, 2) := by decide +kernel
theorem D_HT_leastOutside_45 : decode b_HT_leastOutside 45 = .ok (.iload_n 3, 1) := by decide +kernel
theorem D_HT_leastOutside_46 : decode b_HT_leastOutside 46 = .ok (.if_icmp .ge 22, 3) := by decide +kernel
theorem D_HT_leastOutside_49 : decode b_HT_leastOutside 49 = .ok (.aload_n 0, 1) := by decide +kernel
theorem D_HT_leastOutside_50 : decode b_HT_leastOutside 50 = .ok (.getfield 10, 3) := by decide +kernel
theorem D_HT_leastOutside_53 : decode b_HT_leastOutside 53 = .ok (.iload 5, 2) := by decide +kernel
theorem D_HT_leastOutside_55 : decode b_HT_leastOutside 55 = .ok (.aload_n 0, 1) := by decide +kernel
theorem D_HT_leastOutside_56 : decode b_HT_leastOutside 56 = .ok (.getfield 32, 3) := by decide +kernel
theorem D_HT_leastOutside_59 : decode b_HT_leastOutside 59 = .ok (.invokevirtual 186, 3) := by decide +kernel
theorem D_HT_leastOutside_62 : decode b_HT_leastOutside 62 = .ok (.ifCond .ne 6, 3) := by decide +kernel
theorem D_HT_leastOutside_65 : decode b_HT_leastOutside 65 = .ok (.iload 5, 2) := by decide +kernel
theorem D_HT_leastOutside_67 : decode b_HT_leastOutside 67 = .ok (.istore_n 3, 1) := by decide +kernel
theorem D_HT_leastOutside_68 : decode b_HT_leastOutside 68 = .ok (.iinc 4 1, 3) := by decide +kernel
theorem D_HT_leastOutside_71 : decode b_HT_leastOutside 71 = .ok (.goto (-65), 3) := by decide +kernel
theorem D_HT_leastOutside_74 : decode b_HT_leastOutside 74 = .ok (.iload_n 3, 1) := by decide +kernel
theorem D_HT_leastOutside_75 : decode b_HT_leastOutside 75 = .ok (.ireturn, 1) := by decide +kernel
abbrev rm_HT_leastOutside : Room := { frames := 2, cells := 0, slots := 0, locals := 62 }
def B_HT_leastOutside_68 (k6 : Nat → Nat → Nat → Int32 → Int32 → Mem → Prop) (post : Int32 → Mem → Prop) (a0 : Nat) (a1 : Nat) (a2 : Nat) (x3 : Int32) (x4 : Int32) (M : Mem) : Prop := (k6 a0 a1 a2 x3 (x4 + 1) M)
set_option maxRecDepth 20000 in
theorem Z_HT_leastOutside_68 {x : Ctx} {post : Int32 → Mem → Prop} (C : Ok x b_HT_leastOutside 6 "HeapTower") (hR : xR x = rm_HT_leastOutside) (Rt : RetI x .int post 0 0) {k6 : Nat → Nat → Nat → Int32 → Int32 → Mem → Prop} (K6 : ∀ (a0 : Nat) (a1 : Nat) (a2 : Nat) (x3 : Int32) (x4 : Int32) (M : Mem), k6 a0 a1 a2 x3 x4 M → J x 6 6 [(0, .ref (xd x a0)), (1, .ref (xd x a1)), (2, .ref (xd x a2)), (3, .int x3), (4, .int x4)] [] 0 0 M) (a0 : Nat) (a1 : Nat) (a2 : Nat) (x3 : Int32) (x4 : Int32) (M : Mem) (h : B_HT_leastOutside_68 k6 post a0 a1 a2 x3 x4 M) : J x 6 68 [(0, .ref (xd x a0)), (1, .ref (xd x a1)), (2, .ref (xd x a2)), (3, .int x3), (4, .int x4)] [] 0 0 M := by
  unfold B_HT_leastOutside_68 at h
  refine J_iinc (v := x4 + 1) (lv' := [(4, .int (x4 + 1)), (0, .ref (xd x a0)), (1, .ref (xd x a1)), (2, .ref (xd x a2)), (3, .int x3)]) C 4 4 D_HT_leastOutside_68 rfl rfl (by decide) rfl ?_
  refine J_goto (tgt := 6) C D_HT_leastOutside_71 (by decide) ?_
  exact J_sub [1, 2, 3, 4, 0] rfl (K6 _ _ _ _ _ _ h)
def B_HT_leastOutside_6 (k6 : Nat → Nat → Nat → Int32 → Int32 → Mem → Prop) (post : Int32 → Mem → Prop) (a0 : Nat) (a1 : Nat) (a2 : Nat) (x3 : Int32) (x4 : Int32) (M : Mem) : Prop := (isK M a1 1 ∧ T_He_size a1 M (fun r9 M9 => (r9 ≤ x4 → (post x3 M9)) ∧ (¬ r9 ≤ x4 → (isK M9 a1 1 ∧ T_He_degreeOf a1 x4 M9 (fun r18 M18 => isK M18 a0 6 ∧ ∃ q27, gR M18 a0 3 = some q27 ∧ isK M18 a1 1 ∧ T_He_load a1 x4 q27 M18 (fun M30 => isK M30 a0 6 ∧ ∃ q37, gR M30 a0 3 = some q37 ∧ isK M30 a2 0 ∧ T_Ba_reduce a2 r18 q37 M30 (fun M40 => (x3 ≤ r18 → (B_HT_leastOutside_68 k6 post a0 a1 a2 x3 x4 M40)) ∧ (¬ x3 ≤ r18 → (isK M40 a0 6 ∧ ∃ q50, gR M40 a0 0 = some q50 ∧ isK M40 a0 6 ∧ ∃ q56, gR M40 a0 3 = some q56 ∧ isK M40 q50 4 ∧ T_Pr_isZero q50 r18 q56 M40 (fun r59 M59 => (¬ r59 = 0 → (B_HT_leastOutside_68 k6 post a0 a1 a2 x3 x4 M59)) ∧ (r59 = 0 → (B_HT_leastOutside_68 k6 post a0 a1 a2 r18 x4 M59))))))))))))
set_option maxRecDepth 20000 in
theorem Z_HT_leastOutside_6 {x : Ctx} {post : Int32 → Mem → Prop} (C : Ok x b_HT_leastOutside 6 "HeapTower") (hR : xR x = rm_HT_leastOutside) (Rt : RetI x .int post 0 0) {k6 : Nat → Nat → Nat → Int32 → Int32 → Mem → Prop} (K6 : ∀ (a0 : Nat) (a1 : Nat) (a2 : Nat) (x3 : Int32) (x4 : Int32) (M : Mem), k6 a0 a1 a2 x3 x4 M → J x 6 6 [(0, .ref (xd x a0)), (1, .ref (xd x a1)), (2, .ref (xd x a2)), (3, .int x3), (4, .int x4)] [] 0 0 M) (a0 : Nat) (a1 : Nat) (a2 : Nat) (x3 : Int32) (x4 : Int32) (M : Mem) (h : B_HT_leastOutside_6 k6 post a0 a1 a2 x3 x4 M) : J x 6 6 [(0, .ref (xd x a0)), (1, .ref (xd x a1)), (2, .ref (xd x a2)), (3, .int x3), (4, .int x4)] [] 0 0 M := by
  unfold B_HT_leastOutside_6 at h
  refine J_iload C 4 D_HT_leastOutside_6 rfl ?_
  refine J_aload_n C 1 D_HT_leastOutside_8 rfl rfl ?_
  obtain ⟨c_9, h⟩ := h
  refine J_callVi C ml_HT_154 (S_He_size _ _ _ h) (by rw [hR]; decide) rfl c_9 rfl (Nat.le_of_ble_eq_true rfl) D_HT_leastOutside_9 (fun r9 M9 h => ?_)
  refine J_icmp_ge (tgt := 74) C D_HT_leastOutside_12 (by decide) (fun c_12 => ?_) (fun c_12 => ?_)
  · have h := h.1 c_12
    refine J_iload_n C 3 D_HT_leastOutside_74 rfl rfl ?_
    exact J_iret C Rt D_HT_leastOutside_75 rfl h
  · have h := h.2 c_12
    refine J_aload_n C 1 D_HT_leastOutside_15 rfl rfl ?_
    refine J_iload C 4 D_HT_leastOutside_16 rfl ?_
    obtain ⟨c_18, h⟩ := h
    refine J_callVi C ml_HT_162 (S_He_degreeOf _ _ _ _ h) (by rw [hR]; decide) rfl c_18 rfl (Nat.le_of_ble_eq_true rfl) D_HT_leastOutside_18 (fun r18 M18 h => ?_)
    refine J_istore (lv' := [(5, .int r18), (0, .ref (xd x a0)), (1, .ref (xd x a1)), (2, .ref (xd x a2)), (3, .int x3), (4, .int x4)]) C 5 D_HT_leastOutside_21 (by decide) rfl ?_
    refine J_aload_n C 1 D_HT_leastOutside_23 rfl rfl ?_
    refine J_iload C 4 D_HT_leastOutside_24 rfl ?_
    refine J_aload_n C 0 D_HT_leastOutside_26 rfl rfl ?_
    obtain ⟨c_27, q27, e_27, h⟩ := h
    refine J_getR C fl_HT_32 D_HT_leastOutside_27 c_27 e_27 ?_
    obtain ⟨c_30, h⟩ := h
    refine J_callVv C ml_HT_171 (S_He_load _ _ _ _ _ h) (by rw [hR]; decide) rfl c_30 rfl (Nat.le_of_ble_eq_true rfl) D_HT_leastOutside_30 (fun M30 h => ?_)
    refine J_aload_n C 2 D_HT_leastOutside_33 rfl rfl ?_
    refine J_iload C 5 D_HT_leastOutside_34 rfl ?_
    refine J_aload_n C 0 D_HT_leastOutside_36 rfl rfl ?_
    obtain ⟨c_37, q37, e_37, h⟩ := h
    refine J_getR C fl_HT_32 D_HT_leastOutside_37 c_37 e_37 ?_
    obtain ⟨c_40, h⟩ := h
    refine J_callVv C ml_HT_267 (S_Ba_reduce _ _ _ _ _ h) (by rw [hR]; decide) rfl c_40 rfl (Nat.le_of_ble_eq_true rfl) D_HT_leastOutside_40 (fun M40 h => ?_)
    refine J_iload C 5 D_HT_leastOutside_43 rfl ?_
    refine J_iload_n C 3 D_HT_leastOutside_45 rfl rfl ?_
    refine J_icmp_ge (tgt := 68) C D_HT_leastOutside_46 (by decide) (fun c_46 => ?_) (fun c_46 => ?_)
    · have h := h.1 c_46
      exact J_sub [1, 2, 3, 4, 5] rfl (Z_HT_leastOutside_68 C hR Rt K6 _ _ _ _ _ _ h)
    · have h := h.2 c_46
      refine J_aload_n C 0 D_HT_leastOutside_49 rfl rfl ?_
      obtain ⟨c_50, q50, e_50, h⟩ := h
      refine J_getR C fl_HT_10 D_HT_leastOutside_50 c_50 e_50 ?_
      refine J_iload C 5 D_HT_leastOutside_53 rfl ?_
      refine J_aload_n C 0 D_HT_leastOutside_55 rfl rfl ?_
      obtain ⟨c_56, q56, e_56, h⟩ := h
      refine J_getR C fl_HT_32 D_HT_leastOutside_56 c_56 e_56 ?_
      obtain ⟨c_59, h⟩ := h
      refine J_callVi C ml_HT_186 (S_Pr_isZero _ _ _ _ _ h) (by rw [hR]; decide) rfl c_59 rfl (Nat.le_of_ble_eq_true rfl) D_HT_leastOutside_59 (fun r59 M59 h => ?_)
      refine J_if_ne (tgt := 68) C D_HT_leastOutside_62 (by decide) (fun c_62 => ?_) (fun c_62 => ?_)
      · have h := h.1 c_62
        exact J_sub [1, 2, 3, 4, 5] rfl (Z_HT_leastOutside_68 C hR Rt K6 _ _ _ _ _ _ h)
      · have h := h.2 c_62
        refine J_iload C 5 D_HT_leastOutside_65 rfl ?_
        refine J_istore_n (lv' := [(3, .int r18), (5, .int r18), (0, .ref (xd x a0)), (1, .ref (xd x a1)), (2, .ref (xd x a2)), (4, .int x4)]) C 3 D_HT_leastOutside_67 rfl (by decide) rfl ?_
        exact J_sub [2, 3, 4, 0, 5] rfl (Z_HT_leastOutside_68 C hR Rt K6 _ _ _ _ _ _ h)
def L_HT_leastOutside_6 (post : Int32 → Mem → Prop) : Nat → Nat → Nat → Nat → Int32 → Int32 → Mem → Prop
  | 0, _, _, _, _, _, _ => False
  | n + 1, a0, a1, a2, x3, x4, M => B_HT_leastOutside_6 (L_HT_leastOutside_6 post n) post a0 a1 a2 x3 x4 M
theorem Y_HT_leastOutside_6 {x : Ctx} {post : Int32 → Mem → Prop} (C : Ok x b_HT_leastOutside 6 "HeapTower") (hR : xR x = rm_HT_leastOutside) (Rt : RetI x .int post 0 0) : ∀ (n : Nat) (a0 : Nat) (a1 : Nat) (a2 : Nat) (x3 : Int32) (x4 : Int32) (M : Mem), L_HT_leastOutside_6 post n a0 a1 a2 x3 x4 M → J x 6 6 [(0, .ref (xd x a0)), (1, .ref (xd x a1)), (2, .ref (xd x a2)), (3, .int x3), (4, .int x4)] [] 0 0 M := by
  intro n
  induction n with
  | zero => intro a0 a1 a2 x3 x4 M h; exact h.elim
  | succ n ih => intro a0 a1 a2 x3 x4 M h; exact Z_HT_leastOutside_6 C hR Rt ih _ _ _ _ _ _ h
def T_HT_leastOutside (a0 : Nat) (a1 : Nat) (a2 : Nat) (M : Mem) (post : Int32 → Mem → Prop) : Prop := (∃ n, L_HT_leastOutside_6 post n a0 a1 a2 6 0 M)
set_option maxRecDepth 20000 in
theorem S_HT_leastOutside {l : Launch} {D : va_G} {B t g : Nat} {d : Nat → Nat} {ac : Nat → ClassId}  (a0 : Nat) (a1 : Nat) (a2 : Nat) (M : Mem) (post : Int32 → Mem → Prop) (h : T_HT_leastOutside a0 a1 a2 M post) : Met l y_HT_leastOutside w_HT_leastOutside rm_HT_leastOutside (va_Pc [.ref (d a0), .ref (d a1), .ref (d a2)] (PRE D B d g t ac M)) (QI D B d g ac post) 0 0 (AB B) := by
  refine met_i (by decide +kernel) (Nat.le_of_ble_eq_true rfl) (fun x h1 hR h3 h4 h5 h6 h7 h8 C Rt => ?_)
  subst h3 h4 h5 h6 h7 h8
  unfold T_HT_leastOutside at h
  show J x 6 0 [(0, .ref (xd x a0)), (1, .ref (xd x a1)), (2, .ref (xd x a2))] [] 0 0 M
  refine J_bipush (v := 6) C D_HT_leastOutside_0 rfl ?_
  refine J_istore_n (lv' := [(3, .int 6), (0, .ref (xd x a0)), (1, .ref (xd x a1)), (2, .ref (xd x a2))]) C 3 D_HT_leastOutside_2 rfl (by decide) rfl ?_
  refine J_iconst (v := 0) C D_HT_leastOutside_3 rfl ?_
  refine J_istore (lv' := [(4, .int 0), (3, .int 6), (0, .ref (xd x a0)), (1, .ref (xd x a1)), (2, .ref (xd x a2))]) C 4 D_HT_leastOutside_4 (by decide) rfl ?_
  obtain ⟨n, h⟩ := h
  exact J_sub [2, 3, 4, 1, 0] rfl (Y_HT_leastOutside_6 C hR Rt  n _ _ _ _ _ _ h)
theorem D_HT_parts_0 : decode b_HT_parts 0 = .ok (.aload_n 0, 1) := by decide +kernel
theorem D_HT_parts_1 : decode b_HT_parts 1 = .ok (.aload_n 0, 1) := by decide +kernel
theorem D_HT_parts_2 : decode b_HT_parts 2 = .ok (.getfield 74, 3) := by decide +kernel
theorem D_HT_parts_5 : decode b_HT_parts 5 = .ok (.aload_n 0, 1) := by decide +kernel
theorem D_HT_parts_6 : decode b_HT_parts 6 = .ok (.getfield 78, 3) := by decide +kernel
theorem D_HT_parts_9 : decode b_HT_parts 9 = .ok (.iconst 5, 1) := by decide +kernel
theorem D_HT_parts_10 : decode b_HT_parts 10 = .ok (.invokevirtual 178, 3) := by decide +kernel
theorem D_HT_parts_13 : decode b_HT_parts 13 = .ok (.invokevirtual 236, 3) := by decide +kernel
theorem D_HT_parts_16 : decode b_HT_parts 16 = .ok (.aload_n 0, 1) := by decide +kernel
theorem D_HT_parts_17 : decode b_HT_parts 17 = .ok (.aload_n 0, 1) := by decide +kernel
theorem D_HT_parts_18 : decode b_HT_parts 18 = .ok (.getfield 78, 3) := by decide +kernel
theorem D_HT_parts_21 : decode b_HT_parts 21 = .ok (.aload_n 0, 1) := by decide +kernel
theorem D_HT_parts_22 : decode b_HT_parts 22 = .ok (.getfield 74, 3) := by decide +kernel
theorem D_HT_parts_25 : decode b_HT_parts 25 = .ok (.iconst 5, 1) := by decide +kernel
theorem D_HT_parts_26 : decode b_HT_parts 26 = .ok (.invokevirtual 178, 3) := by decide +kernel
theorem D_HT_parts_29 : decode b_HT_parts 29 = .ok (.invokevirtual 236, 3) := by decide +kernel
theorem D_HT_parts_32 : decode b_HT_parts 32 = .ok (.invokestatic 240, 3) := by decide +kernel
theorem D_HT_parts_35 : decode b_HT_parts 35 = .ok (.istore_n 1, 1) := by decide +kernel
theorem D_HT_parts_36 : decode b_HT_parts 36 = .ok (.iload_n 1, 1) := by decide +kernel
theorem D_HT_parts_37 : decode b_HT_parts 37 = .ok (.iconst 5, 1) := by decide +kernel
theorem D_HT_parts_38 : decode b_HT_parts 38 = .ok (.if_icmp .le 7, 3) := by decide +kernel
theorem D_HT_parts_41 : decode b_HT_parts 41 = .ok (.iconst (-1), 1) := by decide +kernel
theorem D_HT_parts_42 : decode b_HT_parts 42 = .ok (.goto 4, 3) := by decide +kernel
theorem D_HT_parts_45 : decode b_HT_parts 45 = .ok (.iload_n 1, 1) := by decide +kernel
theorem D_HT_parts_46 : decode b_HT_parts 46 = .ok (.ireturn, 1) := by decide +kernel
def B_HT_parts_46 (post : Int32 → Mem → Prop) (s0 : Int32) (M : Mem) : Prop := (post s0 M)
set_option maxRecDepth 20000 in
theorem Z_HT_parts_46 {x : Ctx} {post : Int32 → Mem → Prop} (C : Ok x b_HT_parts 2 "HeapTower") (hR : (xR x).frames = 6 ∧ (xR x).locals = 153) (Bd : Bdg x 0) {z : Nat} (Rt : RetID x .int post z) (s0 : Int32) (M : Mem) (hN : nC M + xg x ≤ 2800) (h : B_HT_parts_46 post s0 M) : J x 2 46 [] [.int s0] (iC x M) (iS 0 x M) M := by
  unfold B_HT_parts_46 at h
  exact JD_iret C Rt hN D_HT_parts_46 rfl h
def T_HT_parts (a0 : Nat) (M : Mem) (post : Int32 → Mem → Prop) : Prop := (isK M a0 6 ∧ ∃ q2, gR M a0 10 = some q2 ∧ isK M a0 6 ∧ ∃ q6, gR M a0 11 = some q6 ∧ isK M q6 1 ∧ isK M a0 6 ∧ isK M q2 1 ∧ T_He_baseUpTo q6 5 M (fun r10 M10 => isK M10 a0 6 ∧ isK M10 q2 1 ∧ isK M10 a0 6 ∧ T_HT_leastOutside a0 q2 r10 M10 (fun r13 M13 => isK M13 a0 6 ∧ ∃ q18, gR M13 a0 11 = some q18 ∧ isK M13 a0 6 ∧ ∃ q22, gR M13 a0 10 = some q22 ∧ isK M13 q22 1 ∧ isK M13 q18 1 ∧ isK M13 a0 6 ∧ T_He_baseUpTo q22 5 M13 (fun r26 M26 => isK M26 q18 1 ∧ isK M26 a0 6 ∧ isK M26 a0 6 ∧ T_HT_leastOutside a0 q18 r26 M26 (fun r29 M29 => T_Ma_min r13 r29 M29 (fun r32 M32 => (r32 ≤ 5 → (B_HT_parts_46 post r32 M32)) ∧ (¬ r32 ≤ 5 → (B_HT_parts_46 post ((-1)) M32))))))))
set_option maxRecDepth 20000 in
theorem S_HT_parts {l : Launch} {D : va_G} {B t g : Nat} {d : Nat → Nat} {ac : Nat → ClassId} (a0 : Nat) (M : Mem) (post : Int32 → Mem → Prop) (hN : nC M + g ≤ 2800) (h : T_HT_parts a0 M post) : Met l y_HT_parts w_HT_parts (rmD 6 153 (nC M + g)) (va_Pc [.ref (d a0)] (PRE D B d g t ac M)) (QID D B ac post) (2800 - (nC M + g)) (2560 * (2800 - (nC M + g))) (AB B) := by
  refine met_iD (by decide +kernel) (Nat.le_of_ble_eq_true rfl) hN (fun x h1 hR h3 h4 h5 h6 h7 h8 C Bd Rt hN => ?_)
  subst h3 h4 h5 h6 h7 h8
  unfold T_HT_parts at h
  show J x 2 0 [(0, .ref (xd x a0))] [] (iC x M) (iS 0 x M) M
  refine J_aload_n C 0 D_HT_parts_0 rfl rfl ?_
  refine J_aload_n C 0 D_HT_parts_1 rfl rfl ?_
  obtain ⟨c_2, q2, e_2, h⟩ := h
  refine J_getR C fl_HT_74 D_HT_parts_2 c_2 e_2 ?_
  refine J_aload_n C 0 D_HT_parts_5 rfl rfl ?_
  obtain ⟨c_6, q6, e_6, h⟩ := h
  refine J_getR C fl_HT_78 D_HT_parts_6 c_6 e_6 ?_
  refine J_iconst (v := 5) C D_HT_parts_9 rfl ?_
  obtain ⟨c_10, h⟩ := h
  refine J_sub [0] rfl ?_
  obtain ⟨i_10_0, h⟩ := h
  obtain ⟨i_10_1, h⟩ := h
  refine JD_callVr C Bd hN ml_HT_178 (S_He_baseUpTo _ _ _ _ hN h) (by rw [hR.1, hR.2]; decide) rfl c_10 rfl (Nat.le_of_ble_eq_true rfl) D_HT_parts_10 (fun x ex r10 M10 hN hq h => ?_)
  have C := ex.ok C
  have hR := ex.fr hR
  have Bd := ex.bd Bd
  have Rt := ex.ri Rt
  obtain ⟨j_10_0, h⟩ := h
  rw [hq a0 6 (by decide) i_10_0 j_10_0]
  obtain ⟨j_10_1, h⟩ := h
  rw [hq q2 1 (by decide) i_10_1 j_10_1]
  obtain ⟨c_13, h⟩ := h
  refine JS_callVi C Bd hN ml_HT_236 (S_HT_leastOutside _ _ _ _ _ h) ⟨rfl, rfl⟩ (by rw [hR.1, hR.2]; decide) rfl c_13 rfl (Nat.le_of_ble_eq_true rfl) D_HT_parts_13 (fun r13 M13 hN h => ?_)
  refine J_aload_n C 0 D_HT_parts_16 rfl rfl ?_
  refine J_aload_n C 0 D_HT_parts_17 rfl rfl ?_
  obtain ⟨c_18, q18, e_18, h⟩ := h
  refine J_getR C fl_HT_78 D_HT_parts_18 c_18 e_18 ?_
  refine J_aload_n C 0 D_HT_parts_21 rfl rfl ?_
  obtain ⟨c_22, q22, e_22, h⟩ := h
  refine J_getR C fl_HT_74 D_HT_parts_22 c_22 e_22 ?_
  refine J_iconst (v := 5) C D_HT_parts_25 rfl ?_
  obtain ⟨c_26, h⟩ := h
  refine J_sub [] rfl ?_
  obtain ⟨i_26_0, h⟩ := h
  obtain ⟨i_26_1, h⟩ := h
  refine JD_callVr C Bd hN ml_HT_178 (S_He_baseUpTo _ _ _ _ hN h) (by rw [hR.1, hR.2]; decide) rfl c_26 rfl (Nat.le_of_ble_eq_true rfl) D_HT_parts_26 (fun x ex r26 M26 hN hq h => ?_)
  have C := ex.ok C
  have hR := ex.fr hR
  have Bd := ex.bd Bd
  have Rt := ex.ri Rt
  obtain ⟨j_26_0, h⟩ := h
  rw [hq q18 1 (by decide) i_26_0 j_26_0]
  obtain ⟨j_26_1, h⟩ := h
  rw [hq a0 6 (by decide) i_26_1 j_26_1]
  obtain ⟨c_29, h⟩ := h
  refine JS_callVi C Bd hN ml_HT_236 (S_HT_leastOutside _ _ _ _ _ h) ⟨rfl, rfl⟩ (by rw [hR.1, hR.2]; decide) rfl c_29 rfl (Nat.le_of_ble_eq_true rfl) D_HT_parts_29 (fun r29 M29 hN h => ?_)
  refine JS_callSi C Bd hN ml_HT_240 (S_Ma_min _ _ _ _ h) ⟨rfl, rfl⟩ (by rw [hR.1, hR.2]; decide) rfl rfl (Nat.le_of_ble_eq_true rfl) D_HT_parts_32 (fun r32 M32 hN h => ?_)
  refine J_istore_n (lv' := [(1, .int r32)]) C 1 D_HT_parts_35 rfl (by decide) rfl ?_
  refine J_iload_n C 1 D_HT_parts_36 rfl rfl ?_
  refine J_iconst (v := 5) C D_HT_parts_37 rfl ?_
  refine J_icmp_le (tgt := 45) C D_HT_parts_38 (by decide) (fun c_38 => ?_) (fun c_38 => ?_)
  · have h := h.1 c_38
    refine J_iload_n C 1 D_HT_parts_45 rfl rfl ?_
    exact J_sub [] rfl (Z_HT_parts_46 C hR Bd Rt  _ _ hN h)
  · have h := h.2 c_38
    refine J_iconst (v := (-1)) C D_HT_parts_41 rfl ?_
    refine J_goto (tgt := 46) C D_HT_parts_42 (by decide) ?_
    exact J_sub [] rfl (Z_HT_parts_46 C hR Bd Rt  _ _ hN h)
theorem D_HT_claim_0 : decode b_HT_claim 0 = .ok (.aload_n 0, 1) := by decide +kernel
theorem D_HT_claim_1 : decode b_HT_claim 1 = .ok (.getfield 74, 3) := by decide +kernel
theorem D_HT_claim_4 : decode b_HT_claim 4 = .ok (.iload_n 1, 1) := by decide +kernel
theorem D_HT_claim_5 : decode b_HT_claim 5 = .ok (.invokevirtual 168, 3) := by decide +kernel
theorem D_HT_claim_8 : decode b_HT_claim 8 = .ok (.ifCond .eq 24, 3) := by decide +kernel
theorem D_HT_claim_11 : decode b_HT_claim 11 = .ok (.aload_n 0, 1) := by decide +kernel
theorem D_HT_claim_12 : decode b_HT_claim 12 = .ok (.getfield 46, 3) := by decide +kernel
theorem D_HT_claim_15 : decode b_HT_claim 15 = .ok (.invokevirtual 138, 3) := by decide +kernel
theorem D_HT_claim_18 : decode b_HT_claim 18 = .ok (.aload_n 0, 1) := by decide +kernel
theorem D_HT_claim_19 : decode b_HT_claim 19 = .ok (.getfield 74, 3) := by decide +kernel
theorem D_HT_claim_22 : decode b_HT_claim 22 = .ok (.iload_n 1, 1) := by decide +kernel
theorem D_HT_claim_23 : decode b_HT_claim 23 = .ok (.invokevirtual 162, 3) := by decide +kernel
theorem D_HT_claim_26 : decode b_HT_claim 26 = .ok (.iadd, 1) := by decide +kernel
theorem D_HT_claim_27 : decode b_HT_claim 27 = .ok (.bipush 10, 2) := by decide +kernel
theorem D_HT_claim_29 : decode b_HT_claim 29 = .ok (.if_icmp .le 6, 3) := by decide +kernel
theorem D_HT_claim_32 : decode b_HT_claim 32 = .ok (.ldc 85, 2) := by decide +kernel
theorem D_HT_claim_34 : decode b_HT_claim 34 = .ok (.ireturn, 1) := by decide +kernel
theorem D_HT_claim_35 : decode b_HT_claim 35 = .ok (.aload_n 0, 1) := by decide +kernel
theorem D_HT_claim_36 : decode b_HT_claim 36 = .ok (.getfield 50, 3) := by decide +kernel
theorem D_HT_claim_39 : decode b_HT_claim 39 = .ok (.iload_n 1, 1) := by decide +kernel
theorem D_HT_claim_40 : decode b_HT_claim 40 = .ok (.aaload, 1) := by decide +kernel
theorem D_HT_claim_41 : decode b_HT_claim 41 = .ok (.aload_n 0, 1) := by decide +kernel
theorem D_HT_claim_42 : decode b_HT_claim 42 = .ok (.getfield 46, 3) := by decide +kernel
theorem D_HT_claim_45 : decode b_HT_claim 45 = .ok (.invokevirtual 245, 3) := by decide +kernel
theorem D_HT_claim_48 : decode b_HT_claim 48 = .ok (.aload_n 0, 1) := by decide +kernel
theorem D_HT_claim_49 : decode b_HT_claim 49 = .ok (.getfield 46, 3) := by decide +kernel
theorem D_HT_claim_52 : decode b_HT_claim 52 = .ok (.invokevirtual 104, 3) := by decide +kernel
theorem D_HT_claim_55 : decode b_HT_claim 55 = .ok (.aload_n 0, 1) := by decide +kernel
theorem D_HT_claim_56 : decode b_HT_claim 56 = .ok (.invokevirtual 132, 3) := by decide +kernel
theorem D_HT_claim_59 : decode b_HT_claim 59 = .ok (.iconst 1, 1) := by decide +kernel
theorem D_HT_claim_60 : decode b_HT_claim 60 = .ok (.ireturn, 1) := by decide +kernel
abbrev rm_HT_claim : Room := { frames := 3, cells := 0, slots := 0, locals := 62 }
def B_HT_claim_32 (post : Int32 → Mem → Prop) (M : Mem) : Prop := (post ((-1000000)) M)
set_option maxRecDepth 20000 in
theorem Z_HT_claim_32 {x : Ctx} {post : Int32 → Mem → Prop} (C : Ok x b_HT_claim 2 "HeapTower") (hR : xR x = rm_HT_claim) (Rt : RetI x .int post 0 0) (M : Mem) (h : B_HT_claim_32 post M) : J x 2 32 [] [] 0 0 M := by
  unfold B_HT_claim_32 at h
  refine J_ldc (v := (-1000000)) C D_HT_claim_32 kw_HT_85 ?_
  exact J_iret C Rt D_HT_claim_34 rfl h
def T_HT_claim (a0 : Nat) (x1 : Int32) (M : Mem) (post : Int32 → Mem → Prop) : Prop := (isK M a0 6 ∧ ∃ q1, gR M a0 10 = some q1 ∧ isK M q1 1 ∧ T_He_has q1 x1 M (fun r5 M5 => (r5 = 0 → (B_HT_claim_32 post M5)) ∧ (¬ r5 = 0 → (isK M5 a0 6 ∧ ∃ q12, gR M5 a0 5 = some q12 ∧ isK M5 q12 3 ∧ T_Po_degree q12 M5 (fun r15 M15 => isK M15 a0 6 ∧ ∃ q19, gR M15 a0 10 = some q19 ∧ isK M15 q19 1 ∧ T_He_degreeOf q19 x1 M15 (fun r23 M23 => ((r15 + r23) ≤ 10 → (isK M23 a0 6 ∧ ∃ q36, gR M23 a0 6 = some q36 ∧ isA M23 q36 10 x1 ∧ ∃ q40, gR M23 q36 (Int32.toNatClampNeg x1) = some q40 ∧ isK M23 a0 6 ∧ ∃ q42, gR M23 a0 5 = some q42 ∧ isK M23 q40 3 ∧ T_Po_become q40 q42 M23 (fun M45 => isK M45 a0 6 ∧ ∃ q49, gR M45 a0 5 = some q49 ∧ isK M45 q49 3 ∧ T_Po_clear q49 M45 (fun M52 => isK M52 a0 6 ∧ T_HT_draftChanged a0 M52 (fun M56 => post 1 M56))))) ∧ (¬ (r15 + r23) ≤ 10 → (B_HT_claim_32 post M23))))))))
set_option maxRecDepth 20000 in
theorem S_HT_claim {l : Launch} {D : va_G} {B t g : Nat} {d : Nat → Nat} {ac : Nat → ClassId}  (a0 : Nat) (x1 : Int32) (M : Mem) (post : Int32 → Mem → Prop) (h : T_HT_claim a0 x1 M post) : Met l y_HT_claim w_HT_claim rm_HT_claim (va_Pc [.ref (d a0), .int x1] (PRE D B d g t ac M)) (QI D B d g ac post) 0 0 (AB B) := by
  refine met_i (by decide +kernel) (Nat.le_of_ble_eq_true rfl) (fun x h1 hR h3 h4 h5 h6 h7 h8 C Rt => ?_)
  subst h3 h4 h5 h6 h7 h8
  unfold T_HT_claim at h
  show J x 2 0 [(0, .ref (xd x a0)), (1, .int x1)] [] 0 0 M
  refine J_aload_n C 0 D_HT_claim_0 rfl rfl ?_
  obtain ⟨c_1, q1, e_1, h⟩ := h
  refine J_getR C fl_HT_74 D_HT_claim_1 c_1 e_1 ?_
  refine J_iload_n C 1 D_HT_claim_4 rfl rfl ?_
  obtain ⟨c_5, h⟩ := h
  refine J_callVi C ml_HT_168 (S_He_has _ _ _ _ h) (by rw [hR]; decide) rfl c_5 rfl (Nat.le_of_ble_eq_true rfl) D_HT_claim_5 (fun r5 M5 h => ?_)
  refine J_if_eq (tgt := 32) C D_HT_claim_8 (by decide) (fun c_8 => ?_) (fun c_8 => ?_)
  · have h := h.1 c_8
    exact J_sub [] rfl (Z_HT_claim_32 C hR Rt  _ h)
  · have h := h.2 c_8
    refine J_aload_n C 0 D_HT_claim_11 rfl rfl ?_
    obtain ⟨c_12, q12, e_12, h⟩ := h
    refine J_getR C fl_HT_46 D_HT_claim_12 c_12 e_12 ?_
    obtain ⟨c_15, h⟩ := h
    refine J_callVi C ml_HT_138 (S_Po_degree _ _ _ h) (by rw [hR]; decide) rfl c_15 rfl (Nat.le_of_ble_eq_true rfl) D_HT_claim_15 (fun r15 M15 h => ?_)
    refine J_aload_n C 0 D_HT_claim_18 rfl rfl ?_
    obtain ⟨c_19, q19, e_19, h⟩ := h
    refine J_getR C fl_HT_74 D_HT_claim_19 c_19 e_19 ?_
    refine J_iload_n C 1 D_HT_claim_22 rfl rfl ?_
    obtain ⟨c_23, h⟩ := h
    refine J_callVi C ml_HT_162 (S_He_degreeOf _ _ _ _ h) (by rw [hR]; decide) rfl c_23 rfl (Nat.le_of_ble_eq_true rfl) D_HT_claim_23 (fun r23 M23 h => ?_)
    refine J_iadd C D_HT_claim_26 ?_
    refine J_bipush (v := 10) C D_HT_claim_27 rfl ?_
    refine J_icmp_le (tgt := 35) C D_HT_claim_29 (by decide) (fun c_29 => ?_) (fun c_29 => ?_)
    · have h := h.1 c_29
      refine J_aload_n C 0 D_HT_claim_35 rfl rfl ?_
      obtain ⟨c_36, q36, e_36, h⟩ := h
      refine J_getR C fl_HT_50 D_HT_claim_36 c_36 e_36 ?_
      refine J_iload_n C 1 D_HT_claim_39 rfl rfl ?_
      obtain ⟨c_40, q40, e_40, h⟩ := h
      refine J_aaldP C D_HT_claim_40 c_40 e_40 ?_
      refine J_aload_n C 0 D_HT_claim_41 rfl rfl ?_
      obtain ⟨c_42, q42, e_42, h⟩ := h
      refine J_getR C fl_HT_46 D_HT_claim_42 c_42 e_42 ?_
      obtain ⟨c_45, h⟩ := h
      refine J_callVv C ml_HT_245 (S_Po_become _ _ _ _ h) (by rw [hR]; decide) rfl c_45 rfl (Nat.le_of_ble_eq_true rfl) D_HT_claim_45 (fun M45 h => ?_)
      refine J_aload_n C 0 D_HT_claim_48 rfl rfl ?_
      obtain ⟨c_49, q49, e_49, h⟩ := h
      refine J_getR C fl_HT_46 D_HT_claim_49 c_49 e_49 ?_
      obtain ⟨c_52, h⟩ := h
      refine J_callVv C ml_HT_104 (S_Po_clear _ _ _ h) (by rw [hR]; decide) rfl c_52 rfl (Nat.le_of_ble_eq_true rfl) D_HT_claim_52 (fun M52 h => ?_)
      refine J_aload_n C 0 D_HT_claim_55 rfl rfl ?_
      obtain ⟨c_56, h⟩ := h
      refine J_callVv C ml_HT_132 (S_HT_draftChanged _ _ _ h) (by rw [hR]; decide) rfl c_56 rfl (Nat.le_of_ble_eq_true rfl) D_HT_claim_56 (fun M56 h => ?_)
      refine J_iconst (v := 1) C D_HT_claim_59 rfl ?_
      exact J_iret C Rt D_HT_claim_60 rfl h
    · have h := h.2 c_29
      exact J_sub [] rfl (Z_HT_claim_32 C hR Rt  _ h)
theorem D_HT_addWorkToDraft_0 : decode b_HT_addWorkToDraft 0 = .ok (.iconst 0, 1) := by decide +kernel
theorem D_HT_addWorkToDraft_1 : decode b_HT_addWorkToDraft 1 = .ok (.istore 5, 2) := by decide +kernel
theorem D_HT_addWorkToDraft_3 : decode b_HT_addWorkToDraft 3 = .ok (.iload 5, 2) := by decide +kernel
theorem D_HT_addWorkToDraft_5 : decode b_HT_addWorkToDraft 5 = .ok (.aload_n 0, 1) := by decide +kernel
theorem D_HT_addWorkToDraft_6 : decode b_HT_addWorkToDraft 6 = .ok (.getfield 10, 3) := by decide +kernel
theorem D_HT_addWorkToDraft_9 : decode b_HT_addWorkToDraft 9 = .ok (.iload_n 1, 1) := by decide +kernel
theorem D_HT_addWorkToDraft_10 : decode b_HT_addWorkToDraft 10 = .ok (.invokevirtual 213, 3) := by decide +kernel
theorem D_HT_addWorkToDraft_13 : decode b_HT_addWorkToDraft 13 = .ok (.if_icmp .ge 89, 3) := by decide +kernel
theorem D_HT_addWorkToDraft_16 : decode b_HT_addWorkToDraft 16 = .ok (.aload_n 0, 1) := by decide +kernel
theorem D_HT_addWorkToDraft_17 : decode b_HT_addWorkToDraft 17 = .ok (.getfield 10, 3) := by decide +kernel
theorem D_HT_addWorkToDraft_20 : decode b_HT_addWorkToDraft 20 = .ok (.iload_n 1, 1) := by decide +kernel
theorem D_HT_addWorkToDraft_21 : decode b_HT_addWorkToDraft 21 = .ok (.iload 5, 2) := by decide +kernel
theorem D_HT_addWorkToDraft_23 : decode b_HT_addWorkToDraft 23 = .ok (.invokevirtual 270, 3) := by decide +kernel
theorem D_HT_addWorkToDraft_26 : decode b_HT_addWorkToDraft 26 = .ok (.istore 6, 2) := by decide +kernel
theorem D_HT_addWorkToDraft_28 : decode b_HT_addWorkToDraft 28 = .ok (.aload_n 0, 1) := by decide +kernel
theorem D_HT_addWorkToDraft_29 : decode b_HT_addWorkToDraft 29 = .ok (.getfield 32, 3) := by decide +kernel
theorem D_HT_addWorkToDraft_32 : decode b_HT_addWorkToDraft 32 = .ok (.iload 6, 2) := by decide +kernel
theorem D_HT_addWorkToDraft_34 : decode b_HT_addWorkToDraft 34 = .ok (.iaload, 1) := by decide +kernel
theorem D_HT_addWorkToDraft_35 : decode b_HT_addWorkToDraft 35 = .ok (.ifCond .eq 61, 3) := by decide +kernel
theorem D_HT_addWorkToDraft_38 : decode b_HT_addWorkToDraft 38 = .ok (.aload_n 0, 1) := by decide +kernel
theorem D_HT_addWorkToDraft_39 : decode b_HT_addWorkToDraft 39 = .ok (.getfield 10, 3) := by decide +kernel
theorem D_HT_addWorkToDraft_42 : decode b_HT_addWorkToDraft 42 = .ok (.iload 6, 2) := by decide +kernel
theorem D_HT_addWorkToDraft_44 : decode b_HT_addWorkToDraft 44 = .ok (.iload_n 3, 1) := by decide +kernel
theorem D_HT_addWorkToDraft_45 : decode b_HT_addWorkToDraft 45 = .ok (.invokevirtual 277, 3) := by decide +kernel
theorem D_HT_addWorkToDraft_48 : decode b_HT_addWorkToDraft 48 = .ok (.istore 7, 2) := by decide +kernel
theorem D_HT_addWorkToDraft_50 : decode b_HT_addWorkToDraft 50 = .ok (.aload_n 0, 1) := by decide +kernel
theorem D_HT_addWorkToDraft_51 : decode b_HT_addWorkToDraft 51 = .ok (.getfield 46, 3) := by decide +kernel
theorem D_HT_addWorkToDraft_54 : decode b_HT_addWorkToDraft 54 = .ok (.iload_n 1, 1) := by decide +kernel
theorem D_HT_addWorkToDraft_55 : decode b_HT_addWorkToDraft 55 = .ok (.iload_n 2, 1) := by decide +kernel
theorem D_HT_addWorkToDraft_56 : decode b_HT_addWorkToDraft 56 = .ok (.iadd, 1) := by decide +kernel
theorem D_HT_addWorkToDraft_57 : decode b_HT_addWorkToDraft 57 = .ok (.iload 7, 2) := by decide +kernel
theorem D_HT_addWorkToDraft_59 : decode b_HT_addWorkToDraft 59 = .ok (.invokevirtual 121, 3) := by decide +kernel
theorem D_HT_addWorkToDraft_62 : decode b_HT_addWorkToDraft 62 = .ok (.istore 8, 2) := by decide +kernel
theorem D_HT_addWorkToDraft_64 : decode b_HT_addWorkToDraft 64 = .ok (.aload_n 0, 1) := by decide +kernel
theorem D_HT_addWorkToDraft_65 : decode b_HT_addWorkToDraft 65 = .ok (.getfield 46, 3) := by decide +kernel
theorem D_HT_addWorkToDraft_68 : decode b_HT_addWorkToDraft 68 = .ok (.iload_n 1, 1) := by decide +kernel
theorem D_HT_addWorkToDraft_69 : decode b_HT_addWorkToDraft 69 = .ok (.iload_n 2, 1) := by decide +kernel
theorem D_HT_addWorkToDraft_70 : decode b_HT_addWorkToDraft 70 = .ok (.iadd, 1) := by decide +kernel
theorem D_HT_addWorkToDraft_71 : decode b_HT_addWorkToDraft 71 = .ok (.iload 7, 2) := by decide +kernel
theorem D_HT_addWorkToDraft_73 : decode b_HT_addWorkToDraft 73 = .ok (.aload_n 0, 1) := by decide +kernel
theorem D_HT_addWorkToDraft_74 : decode b_HT_addWorkToDraft 74 = .ok (.getfield 19, 3) := by decide +kernel
theorem D_HT_addWorkToDraft_77 : decode b_HT_addWorkToDraft 77 = .ok (.iload 8, 2) := by decide +kernel
theorem D_HT_addWorkToDraft_79 : decode b_HT_addWorkToDraft 79 = .ok (.iload 4, 2) := by decide +kernel
theorem D_HT_addWorkToDraft_81 : decode b_HT_addWorkToDraft 81 = .ok (.aload_n 0, 1) := by decide +kernel
theorem D_HT_addWorkToDraft_82 : decode b_HT_addWorkToDraft 82 = .ok (.getfield 32, 3) := by decide +kernel
theorem D_HT_addWorkToDraft_85 : decode b_HT_addWorkToDraft 85 = .ok (.iload 6, 2) := by decide +kernel
theorem D_HT_addWorkToDraft_87 : decode b_HT_addWorkToDraft 87 = .ok (.iaload, 1) := by decide +kernel
theorem D_HT_addWorkToDraft_88 : decode b_HT_addWorkToDraft 88 = .ok (.imul, 1) := by decide +kernel
theorem D_HT_addWorkToDraft_89 : decode b_HT_addWorkToDraft 89 = .ok (.iadd, 1) := by decide +kernel
theorem D_HT_addWorkToDraft_90 : decode b_HT_addWorkToDraft 90 = .ok (.invokevirtual 124, 3) := by decide +kernel
theorem D_HT_addWorkToDraft_93 : decode b_HT_addWorkToDraft 93 = .ok (.invokevirtual 128, 3) := by decide +kernel
theorem D_HT_addWorkToDraft_96 : decode b_HT_addWorkToDraft 96 = .ok (.iinc 5 1, 3) := by decide +kernel
theorem D_HT_addWorkToDraft_99 : decode b_HT_addWorkToDraft 99 = .ok (.goto (-96), 3) := by decide +kernel
theorem D_HT_addWorkToDraft_102 : decode b_HT_addWorkToDraft 102 = .ok (.return_, 1) := by decide +kernel
abbrev rm_HT_addWorkToDraft : Room := { frames := 2, cells := 0, slots := 0, locals := 43 }
def B_HT_addWorkToDraft_96 (k3 : Nat → Int32 → Int32 → Int32 → Int32 → Int32 → Mem → Prop) (post : Mem → Prop) (a0 : Nat) (x1 : Int32) (x2 : Int32) (x3 : Int32) (x4 : Int32) (x5 : Int32) (M : Mem) : Prop := (k3 a0 x1 x2 x3 x4 (x5 + 1) M)
set_option maxRecDepth 20000 in
theorem Z_HT_addWorkToDraft_96 {x : Ctx} {post : Mem → Prop} (C : Ok x b_HT_addWorkToDraft 9 "HeapTower") (hR : xR x = rm_HT_addWorkToDraft) (Rt : RetV x post 0 0) {k3 : Nat → Int32 → Int32 → Int32 → Int32 → Int32 → Mem → Prop} (K3 : ∀ (a0 : Nat) (x1 : Int32) (x2 : Int32) (x3 : Int32) (x4 : Int32) (x5 : Int32) (M : Mem), k3 a0 x1 x2 x3 x4 x5 M → J x 9 3 [(0, .ref (xd x a0)), (1, .int x1), (2, .int x2), (3, .int x3), (4, .int x4), (5, .int x5)] [] 0 0 M) (a0 : Nat) (x1 : Int32) (x2 : Int32) (x3 : Int32) (x4 : Int32) (x5 : Int32) (M : Mem) (h : B_HT_addWorkToDraft_96 k3 post a0 x1 x2 x3 x4 x5 M) : J x 9 96 [(0, .ref (xd x a0)), (1, .int x1), (2, .int x2), (3, .int x3), (4, .int x4), (5, .int x5)] [] 0 0 M := by
  unfold B_HT_addWorkToDraft_96 at h
  refine J_iinc (v := x5 + 1) (lv' := [(5, .int (x5 + 1)), (0, .ref (xd x a0)), (1, .int x1), (2, .int x2), (3, .int x3), (4, .int x4)]) C 5 5 D_HT_addWorkToDraft_96 rfl rfl (by decide) rfl ?_
  refine J_goto (tgt := 3) C D_HT_addWorkToDraft_99 (by decide) ?_
  exact J_sub [1, 2, 3, 4, 5, 0] rfl (K3 _ _ _ _ _ _ _ h)
def B_HT_addWorkToDraft_3 (k3 : Nat → Int32 → Int32 → Int32 → Int32 → Int32 → Mem → Prop) (post : Mem → Prop) (a0 : Nat) (x1 : Int32) (x2 : Int32) (x3 : Int32) (x4 : Int32) (x5 : Int32) (M : Mem) : Prop := (isK M a0 6 ∧ ∃ q6, gR M a0 0 = some q6 ∧ isK M q6 4 ∧ T_Pr_amount q6 x1 M (fun r10 M10 => (r10 ≤ x5 → (post M10)) ∧ (¬ r10 ≤ x5 → (isK M10 a0 6 ∧ ∃ q17, gR M10 a0 0 = some q17 ∧ isK M10 q17 4 ∧ T_Pr_at q17 x1 x5 M10 (fun r23 M23 => isK M23 a0 6 ∧ ∃ q29, gR M23 a0 3 = some q29 ∧ isA M23 q29 8 r23 ∧ ((gI M23 q29 (Int32.toNatClampNeg r23)) = 0 → (B_HT_addWorkToDraft_96 k3 post a0 x1 x2 x3 x4 x5 M23)) ∧ (¬ (gI M23 q29 (Int32.toNatClampNeg r23)) = 0 → (isK M23 a0 6 ∧ ∃ q39, gR M23 a0 0 = some q39 ∧ isK M23 q39 4 ∧ T_Pr_together q39 r23 x3 M23 (fun r45 M45 => isK M45 a0 6 ∧ ∃ q51, gR M45 a0 5 = some q51 ∧ isK M45 q51 3 ∧ T_Po_numberAt q51 (x1 + x2) r45 M45 (fun r59 M59 => isK M59 a0 6 ∧ ∃ q65, gR M59 a0 5 = some q65 ∧ isK M59 a0 6 ∧ ∃ q74, gR M59 a0 1 = some q74 ∧ isK M59 a0 6 ∧ ∃ q82, gR M59 a0 3 = some q82 ∧ isA M59 q82 8 r23 ∧ isK M59 q74 2 ∧ T_Nu_modulo q74 (r59 + (x4 * (gI M59 q82 (Int32.toNatClampNeg r23)))) M59 (fun r90 M90 => isK M90 q65 3 ∧ T_Po_setNumber q65 (x1 + x2) r45 r90 M90 (fun M93 => B_HT_addWorkToDraft_96 k3 post a0 x1 x2 x3 x4 x5 M93)))))))))))
set_option maxRecDepth 20000 in
theorem Z_HT_addWorkToDraft_3 {x : Ctx} {post : Mem → Prop} (C : Ok x b_HT_addWorkToDraft 9 "HeapTower") (hR : xR x = rm_HT_addWorkToDraft) (Rt : RetV x post 0 0) {k3 : Nat → Int32 → Int32 → Int32 → Int32 → Int32 → Mem → Prop} (K3 : ∀ (a0 : Nat) (x1 : Int32) (x2 : Int32) (x3 : Int32) (x4 : Int32) (x5 : Int32) (M : Mem), k3 a0 x1 x2 x3 x4 x5 M → J x 9 3 [(0, .ref (xd x a0)), (1, .int x1), (2, .int x2), (3, .int x3), (4, .int x4), (5, .int x5)] [] 0 0 M) (a0 : Nat) (x1 : Int32) (x2 : Int32) (x3 : Int32) (x4 : Int32) (x5 : Int32) (M : Mem) (h : B_HT_addWorkToDraft_3 k3 post a0 x1 x2 x3 x4 x5 M) : J x 9 3 [(0, .ref (xd x a0)), (1, .int x1), (2, .int x2), (3, .int x3), (4, .int x4), (5, .int x5)] [] 0 0 M := by
  unfold B_HT_addWorkToDraft_3 at h
  refine J_iload C 5 D_HT_addWorkToDraft_3 rfl ?_
  refine J_aload_n C 0 D_HT_addWorkToDraft_5 rfl rfl ?_
  obtain ⟨c_6, q6, e_6, h⟩ := h
  refine J_getR C fl_HT_10 D_HT_addWorkToDraft_6 c_6 e_6 ?_
  refine J_iload_n C 1 D_HT_addWorkToDraft_9 rfl rfl ?_
  obtain ⟨c_10, h⟩ := h
  refine J_callVi C ml_HT_213 (S_Pr_amount _ _ _ _ h) (by rw [hR]; decide) rfl c_10 rfl (Nat.le_of_ble_eq_true rfl) D_HT_addWorkToDraft_10 (fun r10 M10 h => ?_)
  refine J_icmp_ge (tgt := 102) C D_HT_addWorkToDraft_13 (by decide) (fun c_13 => ?_) (fun c_13 => ?_)
  · have h := h.1 c_13
    exact J_vret C Rt D_HT_addWorkToDraft_102 h
  · have h := h.2 c_13
    refine J_aload_n C 0 D_HT_addWorkToDraft_16 rfl rfl ?_
    obtain ⟨c_17, q17, e_17, h⟩ := h
    refine J_getR C fl_HT_10 D_HT_addWorkToDraft_17 c_17 e_17 ?_
    refine J_iload_n C 1 D_HT_addWorkToDraft_20 rfl rfl ?_
    refine J_iload C 5 D_HT_addWorkToDraft_21 rfl ?_
    obtain ⟨c_23, h⟩ := h
    refine J_callVi C ml_HT_270 (S_Pr_at _ _ _ _ _ h) (by rw [hR]; decide) rfl c_23 rfl (Nat.le_of_ble_eq_true rfl) D_HT_addWorkToDraft_23 (fun r23 M23 h => ?_)
    refine J_istore (lv' := [(6, .int r23), (0, .ref (xd x a0)), (1, .int x1), (2, .int x2), (3, .int x3), (4, .int x4), (5, .int x5)]) C 6 D_HT_addWorkToDraft_26 (by decide) rfl ?_
    refine J_aload_n C 0 D_HT_addWorkToDraft_28 rfl rfl ?_
    obtain ⟨c_29, q29, e_29, h⟩ := h
    refine J_getR C fl_HT_32 D_HT_addWorkToDraft_29 c_29 e_29 ?_
    refine J_iload C 6 D_HT_addWorkToDraft_32 rfl ?_
    obtain ⟨c_34, h⟩ := h
    refine J_iald C D_HT_addWorkToDraft_34 c_34 ?_
    refine J_if_eq (tgt := 96) C D_HT_addWorkToDraft_35 (by decide) (fun c_35 => ?_) (fun c_35 => ?_)
    · have h := h.1 c_35
      exact J_sub [1, 2, 3, 4, 5, 6] rfl (Z_HT_addWorkToDraft_96 C hR Rt K3 _ _ _ _ _ _ _ h)
    · have h := h.2 c_35
      refine J_aload_n C 0 D_HT_addWorkToDraft_38 rfl rfl ?_
      obtain ⟨c_39, q39, e_39, h⟩ := h
      refine J_getR C fl_HT_10 D_HT_addWorkToDraft_39 c_39 e_39 ?_
      refine J_iload C 6 D_HT_addWorkToDraft_42 rfl ?_
      refine J_iload_n C 3 D_HT_addWorkToDraft_44 rfl rfl ?_
      obtain ⟨c_45, h⟩ := h
      refine J_callVi C ml_HT_277 (S_Pr_together _ _ _ _ _ h) (by rw [hR]; decide) rfl c_45 rfl (Nat.le_of_ble_eq_true rfl) D_HT_addWorkToDraft_45 (fun r45 M45 h => ?_)
      refine J_istore (lv' := [(7, .int r45), (6, .int r23), (0, .ref (xd x a0)), (1, .int x1), (2, .int x2), (3, .int x3), (4, .int x4), (5, .int x5)]) C 7 D_HT_addWorkToDraft_48 (by decide) rfl ?_
      refine J_aload_n C 0 D_HT_addWorkToDraft_50 rfl rfl ?_
      obtain ⟨c_51, q51, e_51, h⟩ := h
      refine J_getR C fl_HT_46 D_HT_addWorkToDraft_51 c_51 e_51 ?_
      refine J_iload_n C 1 D_HT_addWorkToDraft_54 rfl rfl ?_
      refine J_iload_n C 2 D_HT_addWorkToDraft_55 rfl rfl ?_
      refine J_iadd C D_HT_addWorkToDraft_56 ?_
      refine J_iload C 7 D_HT_addWorkToDraft_57 rfl ?_
      obtain ⟨c_59, h⟩ := h
      refine J_callVi C ml_HT_121 (S_Po_numberAt _ _ _ _ _ h) (by rw [hR]; decide) rfl c_59 rfl (Nat.le_of_ble_eq_true rfl) D_HT_addWorkToDraft_59 (fun r59 M59 h => ?_)
      refine J_istore (lv' := [(8, .int r59), (7, .int r45), (6, .int r23), (0, .ref (xd x a0)), (1, .int x1), (2, .int x2), (3, .int x3), (4, .int x4), (5, .int x5)]) C 8 D_HT_addWorkToDraft_62 (by decide) rfl ?_
      refine J_aload_n C 0 D_HT_addWorkToDraft_64 rfl rfl ?_
      obtain ⟨c_65, q65, e_65, h⟩ := h
      refine J_getR C fl_HT_46 D_HT_addWorkToDraft_65 c_65 e_65 ?_
      refine J_iload_n C 1 D_HT_addWorkToDraft_68 rfl rfl ?_
      refine J_iload_n C 2 D_HT_addWorkToDraft_69 rfl rfl ?_
      refine J_iadd C D_HT_addWorkToDraft_70 ?_
      refine J_iload C 7 D_HT_addWorkToDraft_71 rfl ?_
      refine J_aload_n C 0 D_HT_addWorkToDraft_73 rfl rfl ?_
      obtain ⟨c_74, q74, e_74, h⟩ := h
      refine J_getR C fl_HT_19 D_HT_addWorkToDraft_74 c_74 e_74 ?_
      refine J_iload C 8 D_HT_addWorkToDraft_77 rfl ?_
      refine J_iload C 4 D_HT_addWorkToDraft_79 rfl ?_
      refine J_aload_n C 0 D_HT_addWorkToDraft_81 rfl rfl ?_
      obtain ⟨c_82, q82, e_82, h⟩ := h
      refine J_getR C fl_HT_32 D_HT_addWorkToDraft_82 c_82 e_82 ?_
      refine J_iload C 6 D_HT_addWorkToDraft_85 rfl ?_
      obtain ⟨c_87, h⟩ := h
      refine J_iald C D_HT_addWorkToDraft_87 c_87 ?_
      refine J_imul C D_HT_addWorkToDraft_88 ?_
      refine J_iadd C D_HT_addWorkToDraft_89 ?_
      obtain ⟨c_90, h⟩ := h
      refine J_callVi C ml_HT_124 (S_Nu_modulo _ _ _ _ h) (by rw [hR]; decide) rfl c_90 rfl (Nat.le_of_ble_eq_true rfl) D_HT_addWorkToDraft_90 (fun r90 M90 h => ?_)
      obtain ⟨c_93, h⟩ := h
      refine J_callVv C ml_HT_128 (S_Po_setNumber _ _ _ _ _ _ h) (by rw [hR]; decide) rfl c_93 rfl (Nat.le_of_ble_eq_true rfl) D_HT_addWorkToDraft_93 (fun M93 h => ?_)
      exact J_sub [3, 4, 5, 6, 7, 8] rfl (Z_HT_addWorkToDraft_96 C hR Rt K3 _ _ _ _ _ _ _ h)
def L_HT_addWorkToDraft_3 (post : Mem → Prop) : Nat → Nat → Int32 → Int32 → Int32 → Int32 → Int32 → Mem → Prop
  | 0, _, _, _, _, _, _, _ => False
  | n + 1, a0, x1, x2, x3, x4, x5, M => B_HT_addWorkToDraft_3 (L_HT_addWorkToDraft_3 post n) post a0 x1 x2 x3 x4 x5 M
theorem Y_HT_addWorkToDraft_3 {x : Ctx} {post : Mem → Prop} (C : Ok x b_HT_addWorkToDraft 9 "HeapTower") (hR : xR x = rm_HT_addWorkToDraft) (Rt : RetV x post 0 0) : ∀ (n : Nat) (a0 : Nat) (x1 : Int32) (x2 : Int32) (x3 : Int32) (x4 : Int32) (x5 : Int32) (M : Mem), L_HT_addWorkToDraft_3 post n a0 x1 x2 x3 x4 x5 M → J x 9 3 [(0, .ref (xd x a0)), (1, .int x1), (2, .int x2), (3, .int x3), (4, .int x4), (5, .int x5)] [] 0 0 M := by
  intro n
  induction n with
  | zero => intro a0 x1 x2 x3 x4 x5 M h; exact h.elim
  | succ n ih => intro a0 x1 x2 x3 x4 x5 M h; exact Z_HT_addWorkToDraft_3 C hR Rt ih _ _ _ _ _ _ _ h
def T_HT_addWorkToDraft (a0 : Nat) (x1 : Int32) (x2 : Int32) (x3 : Int32) (x4 : Int32) (M : Mem) (post : Mem → Prop) : Prop := (∃ n, L_HT_addWorkToDraft_3 post n a0 x1 x2 x3 x4 0 M)
set_option maxRecDepth 20000 in
theorem S_HT_addWorkToDraft {l : Launch} {D : va_G} {B t g : Nat} {d : Nat → Nat} {ac : Nat → ClassId}  (a0 : Nat) (x1 : Int32) (x2 : Int32) (x3 : Int32) (x4 : Int32) (M : Mem) (post : Mem → Prop) (h : T_HT_addWorkToDraft a0 x1 x2 x3 x4 M post) : Met l y_HT_addWorkToDraft w_HT_addWorkToDraft rm_HT_addWorkToDraft (va_Pc [.ref (d a0), .int x1, .int x2, .int x3, .int x4] (PRE D B d g t ac M)) (QV D B d g ac post) 0 0 (AB B) := by
  refine met_v (by decide +kernel) (Nat.le_of_ble_eq_true rfl) (fun x h1 hR h3 h4 h5 h6 h7 h8 C Rt Nm => ?_)
  subst h3 h4 h5 h6 h7 h8
  unfold T_HT_addWorkToDraft at h
  show J x 9 0 [(0, .ref (xd x a0)), (1, .int x1), (2, .int x2), (3, .int x3), (4, .int x4)] [] 0 0 M
  refine J_iconst (v := 0) C D_HT_addWorkToDraft_0 rfl ?_
  refine J_istore (lv' := [(5, .int 0), (0, .ref (xd x a0)), (1, .int x1), (2, .int x2), (3, .int x3), (4, .int x4)]) C 5 D_HT_addWorkToDraft_1 (by decide) rfl ?_
  obtain ⟨n, h⟩ := h
  exact J_sub [1, 2, 3, 4, 5, 0] rfl (Y_HT_addWorkToDraft_3 C hR Rt  n _ _ _ _ _ _ _ h)
theorem D_HT_addClaimTimesRow_0 : decode b_HT_addClaimTimesRow 0 = .ok (.aload_n 0, 1) := by decide +kernel
theorem D_HT_addClaimTimesRow_1 : decode b_HT_addClaimTimesRow 1 = .ok (.getfield 74, 3) := by decide +kernel
theorem D_HT_addClaimTimesRow_4 : decode b_HT_addClaimTimesRow 4 = .ok (.iload_n 1, 1) := by decide +kernel
theorem D_HT_addClaimTimesRow_5 : decode b_HT_addClaimTimesRow 5 = .ok (.invokevirtual 162, 3) := by decide +kernel
theorem D_HT_addClaimTimesRow_8 : decode b_HT_addClaimTimesRow 8 = .ok (.istore_n 2, 1) := by decide +kernel
theorem D_HT_addClaimTimesRow_9 : decode b_HT_addClaimTimesRow 9 = .ok (.aload_n 0, 1) := by decide +kernel
theorem D_HT_addClaimTimesRow_10 : decode b_HT_addClaimTimesRow 10 = .ok (.getfield 74, 3) := by decide +kernel
theorem D_HT_addClaimTimesRow_13 : decode b_HT_addClaimTimesRow 13 = .ok (.iload_n 1, 1) := by decide +kernel
theorem D_HT_addClaimTimesRow_14 : decode b_HT_addClaimTimesRow 14 = .ok (.aload_n 0, 1) := by decide +kernel
theorem D_HT_addClaimTimesRow_15 : decode b_HT_addClaimTimesRow 15 = .ok (.getfield 32, 3) := by decide +kernel
theorem D_HT_addClaimTimesRow_18 : decode b_HT_addClaimTimesRow 18 = .ok (.invokevirtual 171, 3) := by decide +kernel
theorem D_HT_addClaimTimesRow_21 : decode b_HT_addClaimTimesRow 21 = .ok (.iconst 0, 1) := by decide +kernel
theorem D_HT_addClaimTimesRow_22 : decode b_HT_addClaimTimesRow 22 = .ok (.istore_n 3, 1) := by decide +kernel
theorem D_HT_addClaimTimesRow_23 : decode b_HT_addClaimTimesRow 23 = .ok (.iload_n 3, 1) := by decide +kernel
theorem D_HT_addClaimTimesRow_24 : decode b_HT_addClaimTimesRow 24 = .ok (.iload_n 2, 1) := by decide +kernel
theorem D_HT_addClaimTimesRow_25 : decode b_HT_addClaimTimesRow 25 = .ok (.iadd, 1) := by decide +kernel
theorem D_HT_addClaimTimesRow_26 : decode b_HT_addClaimTimesRow 26 = .ok (.bipush 10, 2) := by decide +kernel
theorem D_HT_addClaimTimesRow_28 : decode b_HT_addClaimTimesRow 28 = .ok (.if_icmp .gt 72, 3) := by decide +kernel
theorem D_HT_addClaimTimesRow_31 : decode b_HT_addClaimTimesRow 31 = .ok (.iconst 0, 1) := by decide +kernel
theorem D_HT_addClaimTimesRow_32 : decode b_HT_addClaimTimesRow 32 = .ok (.istore 4, 2) := by decide +kernel
theorem D_HT_addClaimTimesRow_34 : decode b_HT_addClaimTimesRow 34 = .ok (.iload 4, 2) := by decide +kernel
theorem D_HT_addClaimTimesRow_36 : decode b_HT_addClaimTimesRow 36 = .ok (.aload_n 0, 1) := by decide +kernel
theorem D_HT_addClaimTimesRow_37 : decode b_HT_addClaimTimesRow 37 = .ok (.getfield 10, 3) := by decide +kernel
theorem D_HT_addClaimTimesRow_40 : decode b_HT_addClaimTimesRow 40 = .ok (.iload_n 3, 1) := by decide +kernel
theorem D_HT_addClaimTimesRow_41 : decode b_HT_addClaimTimesRow 41 = .ok (.invokevirtual 213, 3) := by decide +kernel
theorem D_HT_addClaimTimesRow_44 : decode b_HT_addClaimTimesRow 44 = .ok (.if_icmp .ge 50, 3) := by decide +kernel
theorem D_HT_addClaimTimesRow_47 : decode b_HT_addClaimTimesRow 47 = .ok (.aload_n 0, 1) := by decide +kernel
theorem D_HT_addClaimTimesRow_48 : decode b_HT_addClaimTimesRow 48 = .ok (.getfield 10, 3) := by decide +kernel
theorem D_HT_addClaimTimesRow_51 : decode b_HT_addClaimTimesRow 51 = .ok (.iload_n 3, 1) := by decide +kernel
theorem D_HT_addClaimTimesRow_52 : decode b_HT_addClaimTimesRow 52 = .ok (.iload 4, 2) := by decide +kernel
theorem D_HT_addClaimTimesRow_54 : decode b_HT_addClaimTimesRow 54 = .ok (.invokevirtual 270, 3) := by decide +kernel
theorem D_HT_addClaimTimesRow_57 : decode b_HT_addClaimTimesRow 57 = .ok (.istore 5, 2) := by decide +kernel
theorem D_HT_addClaimTimesRow_59 : decode b_HT_addClaimTimesRow 59 = .ok (.aload_n 0, 1) := by decide +kernel
theorem D_HT_addClaimTimesRow_60 : decode b_HT_addClaimTimesRow 60 = .ok (.getfield 50, 3) := by decide +kernel
theorem D_HT_addClaimTimesRow_63 : decode b_HT_addClaimTimesRow 63 = .ok (.iload_n 1, 1) := by decide +kernel
theorem D_HT_addClaimTimesRow_64 : decode b_HT_addClaimTimesRow 64 = .ok (.aaload, 1) := by decide +kernel
theorem D_HT_addClaimTimesRow_65 : decode b_HT_addClaimTimesRow 65 = .ok (.iload_n 3, 1) := by decide +kernel
theorem D_HT_addClaimTimesRow_66 : decode b_HT_addClaimTimesRow 66 = .ok (.iload 5, 2) := by decide +kernel
theorem D_HT_addClaimTimesRow_68 : decode b_HT_addClaimTimesRow 68 = .ok (.invokevirtual 121, 3) := by decide +kernel
theorem D_HT_addClaimTimesRow_71 : decode b_HT_addClaimTimesRow 71 = .ok (.istore 6, 2) := by decide +kernel
theorem D_HT_addClaimTimesRow_73 : decode b_HT_addClaimTimesRow 73 = .ok (.iload 6, 2) := by decide +kernel
theorem D_HT_addClaimTimesRow_75 : decode b_HT_addClaimTimesRow 75 = .ok (.ifCond .eq 13, 3) := by decide +kernel
theorem D_HT_addClaimTimesRow_78 : decode b_HT_addClaimTimesRow 78 = .ok (.aload_n 0, 1) := by decide +kernel
theorem D_HT_addClaimTimesRow_79 : decode b_HT_addClaimTimesRow 79 = .ok (.iload_n 2, 1) := by decide +kernel
theorem D_HT_addClaimTimesRow_80 : decode b_HT_addClaimTimesRow 80 = .ok (.iload_n 3, 1) := by decide +kernel
theorem D_HT_addClaimTimesRow_81 : decode b_HT_addClaimTimesRow 81 = .ok (.iload 5, 2) := by decide +kernel
theorem D_HT_addClaimTimesRow_83 : decode b_HT_addClaimTimesRow 83 = .ok (.iload 6, 2) := by decide +kernel
theorem D_HT_addClaimTimesRow_85 : decode b_HT_addClaimTimesRow 85 = .ok (.invokevirtual 273, 3) := by decide +kernel
theorem D_HT_addClaimTimesRow_88 : decode b_HT_addClaimTimesRow 88 = .ok (.iinc 4 1, 3) := by decide +kernel
theorem D_HT_addClaimTimesRow_91 : decode b_HT_addClaimTimesRow 91 = .ok (.goto (-57), 3) := by decide +kernel
theorem D_HT_addClaimTimesRow_94 : decode b_HT_addClaimTimesRow 94 = .ok (.iinc 3 1, 3) := by decide +kernel
theorem D_HT_addClaimTimesRow_97 : decode b_HT_addClaimTimesRow 97 = .ok (.goto (-74), 3) := by decide +kernel
theorem D_HT_addClaimTimesRow_100 : decode b_HT_addClaimTimesRow 100 = .ok (.return_, 1) := by decide +kernel
abbrev rm_HT_addClaimTimesRow : Room := { frames := 3, cells := 0, slots := 0, locals := 71 }
def B_HT_addClaimTimesRow_88 (k23 : Nat → Int32 → Int32 → Int32 → Mem → Prop) (k34 : Nat → Int32 → Int32 → Int32 → Int32 → Mem → Prop) (post : Mem → Prop) (a0 : Nat) (x1 : Int32) (x2 : Int32) (x3 : Int32) (x4 : Int32) (M : Mem) : Prop := (k34 a0 x1 x2 x3 (x4 + 1) M)
set_option maxRecDepth 20000 in
theorem Z_HT_addClaimTimesRow_88 {x : Ctx} {post : Mem → Prop} (C : Ok x b_HT_addClaimTimesRow 7 "HeapTower") (hR : xR x = rm_HT_addClaimTimesRow) (Rt : RetV x post 0 0) {k23 : Nat → Int32 → Int32 → Int32 → Mem → Prop} (K23 : ∀ (a0 : Nat) (x1 : Int32) (x2 : Int32) (x3 : Int32) (M : Mem), k23 a0 x1 x2 x3 M → J x 7 23 [(0, .ref (xd x a0)), (1, .int x1), (2, .int x2), (3, .int x3)] [] 0 0 M) {k34 : Nat → Int32 → Int32 → Int32 → Int32 → Mem → Prop} (K34 : ∀ (a0 : Nat) (x1 : Int32) (x2 : Int32) (x3 : Int32) (x4 : Int32) (M : Mem), k34 a0 x1 x2 x3 x4 M → J x 7 34 [(0, .ref (xd x a0)), (1, .int x1), (2, .int x2), (3, .int x3), (4, .int x4)] [] 0 0 M) (a0 : Nat) (x1 : Int32) (x2 : Int32) (x3 : Int32) (x4 : Int32) (M : Mem) (h : B_HT_addClaimTimesRow_88 k23 k34 post a0 x1 x2 x3 x4 M) : J x 7 88 [(0, .ref (xd x a0)), (1, .int x1), (2, .int x2), (3, .int x3), (4, .int x4)] [] 0 0 M := by
  unfold B_HT_addClaimTimesRow_88 at h
  refine J_iinc (v := x4 + 1) (lv' := [(4, .int (x4 + 1)), (0, .ref (xd x a0)), (1, .int x1), (2, .int x2), (3, .int x3)]) C 4 4 D_HT_addClaimTimesRow_88 rfl rfl (by decide) rfl ?_
  refine J_goto (tgt := 34) C D_HT_addClaimTimesRow_91 (by decide) ?_
  exact J_sub [1, 2, 3, 4, 0] rfl (K34 _ _ _ _ _ _ h)
def B_HT_addClaimTimesRow_34 (k23 : Nat → Int32 → Int32 → Int32 → Mem → Prop) (k34 : Nat → Int32 → Int32 → Int32 → Int32 → Mem → Prop) (post : Mem → Prop) (a0 : Nat) (x1 : Int32) (x2 : Int32) (x3 : Int32) (x4 : Int32) (M : Mem) : Prop := (isK M a0 6 ∧ ∃ q37, gR M a0 0 = some q37 ∧ isK M q37 4 ∧ T_Pr_amount q37 x3 M (fun r41 M41 => (r41 ≤ x4 → (k23 a0 x1 x2 (x3 + 1) M41)) ∧ (¬ r41 ≤ x4 → (isK M41 a0 6 ∧ ∃ q48, gR M41 a0 0 = some q48 ∧ isK M41 q48 4 ∧ T_Pr_at q48 x3 x4 M41 (fun r54 M54 => isK M54 a0 6 ∧ ∃ q60, gR M54 a0 6 = some q60 ∧ isA M54 q60 10 x1 ∧ ∃ q64, gR M54 q60 (Int32.toNatClampNeg x1) = some q64 ∧ isK M54 q64 3 ∧ T_Po_numberAt q64 x3 r54 M54 (fun r68 M68 => (r68 = 0 → (B_HT_addClaimTimesRow_88 k23 k34 post a0 x1 x2 x3 x4 M68)) ∧ (¬ r68 = 0 → (isK M68 a0 6 ∧ T_HT_addWorkToDraft a0 x2 x3 r54 r68 M68 (fun M85 => B_HT_addClaimTimesRow_88 k23 k34 post a0 x1 x2 x3 x4 M85)))))))))
set_option maxRecDepth 20000 in
theorem Z_HT_addClaimTimesRow_34 {x : Ctx} {post : Mem → Prop} (C : Ok x b_HT_addClaimTimesRow 7 "HeapTower") (hR : xR x = rm_HT_addClaimTimesRow) (Rt : RetV x post 0 0) {k23 : Nat → Int32 → Int32 → Int32 → Mem → Prop} (K23 : ∀ (a0 : Nat) (x1 : Int32) (x2 : Int32) (x3 : Int32) (M : Mem), k23 a0 x1 x2 x3 M → J x 7 23 [(0, .ref (xd x a0)), (1, .int x1), (2, .int x2), (3, .int x3)] [] 0 0 M) {k34 : Nat → Int32 → Int32 → Int32 → Int32 → Mem → Prop} (K34 : ∀ (a0 : Nat) (x1 : Int32) (x2 : Int32) (x3 : Int32) (x4 : Int32) (M : Mem), k34 a0 x1 x2 x3 x4 M → J x 7 34 [(0, .ref (xd x a0)), (1, .int x1), (2, .int x2), (3, .int x3), (4, .int x4)] [] 0 0 M) (a0 : Nat) (x1 : Int32) (x2 : Int32) (x3 : Int32) (x4 : Int32) (M : Mem) (h : B_HT_addClaimTimesRow_34 k23 k34 post a0 x1 x2 x3 x4 M) : J x 7 34 [(0, .ref (xd x a0)), (1, .int x1), (2, .int x2), (3, .int x3), (4, .int x4)] [] 0 0 M := by
  unfold B_HT_addClaimTimesRow_34 at h
  refine J_iload C 4 D_HT_addClaimTimesRow_34 rfl ?_
  refine J_aload_n C 0 D_HT_addClaimTimesRow_36 rfl rfl ?_
  obtain ⟨c_37, q37, e_37, h⟩ := h
  refine J_getR C fl_HT_10 D_HT_addClaimTimesRow_37 c_37 e_37 ?_
  refine J_iload_n C 3 D_HT_addClaimTimesRow_40 rfl rfl ?_
  obtain ⟨c_41, h⟩ := h
  refine J_callVi C ml_HT_213 (S_Pr_amount _ _ _ _ h) (by rw [hR]; decide) rfl c_41 rfl (Nat.le_of_ble_eq_true rfl) D_HT_addClaimTimesRow_41 (fun r41 M41 h => ?_)
  refine J_icmp_ge (tgt := 94) C D_HT_addClaimTimesRow_44 (by decide) (fun c_44 => ?_) (fun c_44 => ?_)
  · have h := h.1 c_44
    refine J_iinc (v := x3 + 1) (lv' := [(3, .int (x3 + 1)), (0, .ref (xd x a0)), (1, .int x1), (2, .int x2), (4, .int x4)]) C 3 3 D_HT_addClaimTimesRow_94 rfl rfl (by decide) rfl ?_
    refine J_goto (tgt := 23) C D_HT_addClaimTimesRow_97 (by decide) ?_
    exact J_sub [1, 2, 3, 0] rfl (K23 _ _ _ _ _ h)
  · have h := h.2 c_44
    refine J_aload_n C 0 D_HT_addClaimTimesRow_47 rfl rfl ?_
    obtain ⟨c_48, q48, e_48, h⟩ := h
    refine J_getR C fl_HT_10 D_HT_addClaimTimesRow_48 c_48 e_48 ?_
    refine J_iload_n C 3 D_HT_addClaimTimesRow_51 rfl rfl ?_
    refine J_iload C 4 D_HT_addClaimTimesRow_52 rfl ?_
    obtain ⟨c_54, h⟩ := h
    refine J_callVi C ml_HT_270 (S_Pr_at _ _ _ _ _ h) (by rw [hR]; decide) rfl c_54 rfl (Nat.le_of_ble_eq_true rfl) D_HT_addClaimTimesRow_54 (fun r54 M54 h => ?_)
    refine J_istore (lv' := [(5, .int r54), (0, .ref (xd x a0)), (1, .int x1), (2, .int x2), (3, .int x3), (4, .int x4)]) C 5 D_HT_addClaimTimesRow_57 (by decide) rfl ?_
    refine J_aload_n C 0 D_HT_addClaimTimesRow_59 rfl rfl ?_
    obtain ⟨c_60, q60, e_60, h⟩ := h
    refine J_getR C fl_HT_50 D_HT_addClaimTimesRow_60 c_60 e_60 ?_
    refine J_iload_n C 1 D_HT_addClaimTimesRow_63 rfl rfl ?_
    obtain ⟨c_64, q64, e_64, h⟩ := h
    refine J_aaldP C D_HT_addClaimTimesRow_64 c_64 e_64 ?_
    refine J_iload_n C 3 D_HT_addClaimTimesRow_65 rfl rfl ?_
    refine J_iload C 5 D_HT_addClaimTimesRow_66 rfl ?_
    obtain ⟨c_68, h⟩ := h
    refine J_callVi C ml_HT_121 (S_Po_numberAt _ _ _ _ _ h) (by rw [hR]; decide) rfl c_68 rfl (Nat.le_of_ble_eq_true rfl) D_HT_addClaimTimesRow_68 (fun r68 M68 h => ?_)
    refine J_istore (lv' := [(6, .int r68), (5, .int r54), (0, .ref (xd x a0)), (1, .int x1), (2, .int x2), (3, .int x3), (4, .int x4)]) C 6 D_HT_addClaimTimesRow_71 (by decide) rfl ?_
    refine J_iload C 6 D_HT_addClaimTimesRow_73 rfl ?_
    refine J_if_eq (tgt := 88) C D_HT_addClaimTimesRow_75 (by decide) (fun c_75 => ?_) (fun c_75 => ?_)
    · have h := h.1 c_75
      exact J_sub [2, 3, 4, 5, 6] rfl (Z_HT_addClaimTimesRow_88 C hR Rt K23 K34 _ _ _ _ _ _ h)
    · have h := h.2 c_75
      refine J_aload_n C 0 D_HT_addClaimTimesRow_78 rfl rfl ?_
      refine J_iload_n C 2 D_HT_addClaimTimesRow_79 rfl rfl ?_
      refine J_iload_n C 3 D_HT_addClaimTimesRow_80 rfl rfl ?_
      refine J_iload C 5 D_HT_addClaimTimesRow_81 rfl ?_
      refine J_iload C 6 D_HT_addClaimTimesRow_83 rfl ?_
      obtain ⟨c_85, h⟩ := h
      refine J_callVv C ml_HT_273 (S_HT_addWorkToDraft _ _ _ _ _ _ _ h) (by rw [hR]; decide) rfl c_85 rfl (Nat.le_of_ble_eq_true rfl) D_HT_addClaimTimesRow_85 (fun M85 h => ?_)
      exact J_sub [2, 3, 4, 5, 6] rfl (Z_HT_addClaimTimesRow_88 C hR Rt K23 K34 _ _ _ _ _ _ h)
def L_HT_addClaimTimesRow_34 (k23 : Nat → Int32 → Int32 → Int32 → Mem → Prop) (post : Mem → Prop) : Nat → Nat → Int32 → Int32 → Int32 → Int32 → Mem → Prop
  | 0, _, _, _, _, _, _ => False
  | n + 1, a0, x1, x2, x3, x4, M => B_HT_addClaimTimesRow_34 k23 (L_HT_addClaimTimesRow_34 k23 post n) post a0 x1 x2 x3 x4 M
theorem Y_HT_addClaimTimesRow_34 {x : Ctx} {post : Mem → Prop} (C : Ok x b_HT_addClaimTimesRow 7 "HeapTower") (hR : xR x = rm_HT_addClaimTimesRow) (Rt : RetV x post 0 0) {k23 : Nat → Int32 → Int32 → Int32 → Mem → Prop} (K23 : ∀ (a0 : Nat) (x1 : Int32) (x2 : Int32) (x3 : Int32) (M : Mem), k23 a0 x1 x2 x3 M → J x 7 23 [(0, .ref (xd x a0)), (1, .int x1), (2, .int x2), (3, .int x3)] [] 0 0 M) : ∀ (n : Nat) (a0 : Nat) (x1 : Int32) (x2 : Int32) (x3 : Int32) (x4 : Int32) (M : Mem), L_HT_addClaimTimesRow_34 k23 post n a0 x1 x2 x3 x4 M → J x 7 34 [(0, .ref (xd x a0)), (1, .int x1), (2, .int x2), (3, .int x3), (4, .int x4)] [] 0 0 M := by
  intro n
  induction n with
  | zero => intro a0 x1 x2 x3 x4 M h; exact h.elim
  | succ n ih => intro a0 x1 x2 x3 x4 M h; exact Z_HT_addClaimTimesRow_34 C hR Rt K23 ih _ _ _ _ _ _ h
def B_HT_addClaimTimesRow_23 (k23 : Nat → Int32 → Int32 → Int32 → Mem → Prop) (post : Mem → Prop) (a0 : Nat) (x1 : Int32) (x2 : Int32) (x3 : Int32) (M : Mem) : Prop := ((10 < (x3 + x2) → (post M)) ∧ (¬ 10 < (x3 + x2) → (∃ n, L_HT_addClaimTimesRow_34 k23 post n a0 x1 x2 x3 0 M)))
set_option maxRecDepth 20000 in
theorem Z_HT_addClaimTimesRow_23 {x : Ctx} {post : Mem → Prop} (C : Ok x b_HT_addClaimTimesRow 7 "HeapTower") (hR : xR x = rm_HT_addClaimTimesRow) (Rt : RetV x post 0 0) {k23 : Nat → Int32 → Int32 → Int32 → Mem → Prop} (K23 : ∀ (a0 : Nat) (x1 : Int32) (x2 : Int32) (x3 : Int32) (M : Mem), k23 a0 x1 x2 x3 M → J x 7 23 [(0, .ref (xd x a0)), (1, .int x1), (2, .int x2), (3, .int x3)] [] 0 0 M) (a0 : Nat) (x1 : Int32) (x2 : Int32) (x3 : Int32) (M : Mem) (h : B_HT_addClaimTimesRow_23 k23 post a0 x1 x2 x3 M) : J x 7 23 [(0, .ref (xd x a0)), (1, .int x1), (2, .int x2), (3, .int x3)] [] 0 0 M := by
  unfold B_HT_addClaimTimesRow_23 at h
  refine J_iload_n C 3 D_HT_addClaimTimesRow_23 rfl rfl ?_
  refine J_iload_n C 2 D_HT_addClaimTimesRow_24 rfl rfl ?_
  refine J_iadd C D_HT_addClaimTimesRow_25 ?_
  refine J_bipush (v := 10) C D_HT_addClaimTimesRow_26 rfl ?_
  refine J_icmp_gt (tgt := 100) C D_HT_addClaimTimesRow_28 (by decide) (fun c_28 => ?_) (fun c_28 => ?_)
  · have h := h.1 c_28
    exact J_vret C Rt D_HT_addClaimTimesRow_100 h
  · have h := h.2 c_28
    refine J_iconst (v := 0) C D_HT_addClaimTimesRow_31 rfl ?_
    refine J_istore (lv' := [(4, .int 0), (0, .ref (xd x a0)), (1, .int x1), (2, .int x2), (3, .int x3)]) C 4 D_HT_addClaimTimesRow_32 (by decide) rfl ?_
    obtain ⟨n, h⟩ := h
    exact J_sub [1, 2, 3, 4, 0] rfl (Y_HT_addClaimTimesRow_34 C hR Rt K23 n _ _ _ _ _ _ h)
def L_HT_addClaimTimesRow_23 (post : Mem → Prop) : Nat → Nat → Int32 → Int32 → Int32 → Mem → Prop
  | 0, _, _, _, _, _ => False
  | n + 1, a0, x1, x2, x3, M => B_HT_addClaimTimesRow_23 (L_HT_addClaimTimesRow_23 post n) post a0 x1 x2 x3 M
theorem Y_HT_addClaimTimesRow_23 {x : Ctx} {post : Mem → Prop} (C : Ok x b_HT_addClaimTimesRow 7 "HeapTower") (hR : xR x = rm_HT_addClaimTimesRow) (Rt : RetV x post 0 0) : ∀ (n : Nat) (a0 : Nat) (x1 : Int32) (x2 : Int32) (x3 : Int32) (M : Mem), L_HT_addClaimTimesRow_23 post n a0 x1 x2 x3 M → J x 7 23 [(0, .ref (xd x a0)), (1, .int x1), (2, .int x2), (3, .int x3)] [] 0 0 M := by
  intro n
  induction n with
  | zero => intro a0 x1 x2 x3 M h; exact h.elim
  | succ n ih => intro a0 x1 x2 x3 M h; exact Z_HT_addClaimTimesRow_23 C hR Rt ih _ _ _ _ _ h
def T_HT_addClaimTimesRow (a0 : Nat) (x1 : Int32) (M : Mem) (post : Mem → Prop) : Prop := (isK M a0 6 ∧ ∃ q1, gR M a0 10 = some q1 ∧ isK M q1 1 ∧ T_He_degreeOf q1 x1 M (fun r5 M5 => isK M5 a0 6 ∧ ∃ q10, gR M5 a0 10 = some q10 ∧ isK M5 a0 6 ∧ ∃ q15, gR M5 a0 3 = some q15 ∧ isK M5 q10 1 ∧ T_He_load q10 x1 q15 M5 (fun M18 => ∃ n, L_HT_addClaimTimesRow_23 post n a0 x1 r5 0 M18)))
set_option maxRecDepth 20000 in
theorem S_HT_addClaimTimesRow {l : Launch} {D : va_G} {B t g : Nat} {d : Nat → Nat} {ac : Nat → ClassId}  (a0 : Nat) (x1 : Int32) (M : Mem) (post : Mem → Prop) (h : T_HT_addClaimTimesRow a0 x1 M post) : Met l y_HT_addClaimTimesRow w_HT_addClaimTimesRow rm_HT_addClaimTimesRow (va_Pc [.ref (d a0), .int x1] (PRE D B d g t ac M)) (QV D B d g ac post) 0 0 (AB B) := by
  refine met_v (by decide +kernel) (Nat.le_of_ble_eq_true rfl) (fun x h1 hR h3 h4 h5 h6 h7 h8 C Rt Nm => ?_)
  subst h3 h4 h5 h6 h7 h8
  unfold T_HT_addClaimTimesRow at h
  show J x 7 0 [(0, .ref (xd x a0)), (1, .int x1)] [] 0 0 M
  refine J_aload_n C 0 D_HT_addClaimTimesRow_0 rfl rfl ?_
  obtain ⟨c_1, q1, e_1, h⟩ := h
  refine J_getR C fl_HT_74 D_HT_addClaimTimesRow_1 c_1 e_1 ?_
  refine J_iload_n C 1 D_HT_addClaimTimesRow_4 rfl rfl ?_
  obtain ⟨c_5, h⟩ := h
  refine J_callVi C ml_HT_162 (S_He_degreeOf _ _ _ _ h) (by rw [hR]; decide) rfl c_5 rfl (Nat.le_of_ble_eq_true rfl) D_HT_addClaimTimesRow_5 (fun r5 M5 h => ?_)
  refine J_istore_n (lv' := [(2, .int r5), (0, .ref (xd x a0)), (1, .int x1)]) C 2 D_HT_addClaimTimesRow_8 rfl (by decide) rfl ?_
  refine J_aload_n C 0 D_HT_addClaimTimesRow_9 rfl rfl ?_
  obtain ⟨c_10, q10, e_10, h⟩ := h
  refine J_getR C fl_HT_74 D_HT_addClaimTimesRow_10 c_10 e_10 ?_
  refine J_iload_n C 1 D_HT_addClaimTimesRow_13 rfl rfl ?_
  refine J_aload_n C 0 D_HT_addClaimTimesRow_14 rfl rfl ?_
  obtain ⟨c_15, q15, e_15, h⟩ := h
  refine J_getR C fl_HT_32 D_HT_addClaimTimesRow_15 c_15 e_15 ?_
  obtain ⟨c_18, h⟩ := h
  refine J_callVv C ml_HT_171 (S_He_load _ _ _ _ _ h) (by rw [hR]; decide) rfl c_18 rfl (Nat.le_of_ble_eq_true rfl) D_HT_addClaimTimesRow_18 (fun M18 h => ?_)
  refine J_iconst (v := 0) C D_HT_addClaimTimesRow_21 rfl ?_
  refine J_istore_n (lv' := [(3, .int 0), (2, .int r5), (0, .ref (xd x a0)), (1, .int x1)]) C 3 D_HT_addClaimTimesRow_22 rfl (by decide) rfl ?_
  obtain ⟨n, h⟩ := h
  exact J_sub [2, 3, 1, 0] rfl (Y_HT_addClaimTimesRow_23 C hR Rt  n _ _ _ _ _ h)
theorem D_HT_sum_0 : decode b_HT_sum 0 = .ok (.aload_n 0, 1) := by decide +kernel
theorem D_HT_sum_1 : decode b_HT_sum 1 = .ok (.getfield 46, 3) := by decide +kernel
theorem D_HT_sum_4 : decode b_HT_sum 4 = .ok (.invokevirtual 104, 3) := by decide +kernel
theorem D_HT_sum_7 : decode b_HT_sum 7 = .ok (.iconst 0, 1) := by decide +kernel
theorem D_HT_sum_8 : decode b_HT_sum 8 = .ok (.istore_n 1, 1) := by decide +kernel
theorem D_HT_sum_9 : decode b_HT_sum 9 = .ok (.iload_n 1, 1) := by decide +kernel
theorem D_HT_sum_10 : decode b_HT_sum 10 = .ok (.aload_n 0, 1) := by decide +kernel
theorem D_HT_sum_11 : decode b_HT_sum 11 = .ok (.getfield 74, 3) := by decide +kernel
theorem D_HT_sum_14 : decode b_HT_sum 14 = .ok (.invokevirtual 154, 3) := by decide +kernel
theorem D_HT_sum_17 : decode b_HT_sum 17 = .ok (.if_icmp .ge 14, 3) := by decide +kernel
theorem D_HT_sum_20 : decode b_HT_sum 20 = .ok (.aload_n 0, 1) := by decide +kernel
theorem D_HT_sum_21 : decode b_HT_sum 21 = .ok (.iload_n 1, 1) := by decide +kernel
theorem D_HT_sum_22 : decode b_HT_sum 22 = .ok (.invokevirtual 248, 3) := by decide +kernel
theorem D_HT_sum_25 : decode b_HT_sum 25 = .ok (.iinc 1 1, 3) := by decide +kernel
theorem D_HT_sum_28 : decode b_HT_sum 28 = .ok (.goto (-19), 3) := by decide +kernel
theorem D_HT_sum_31 : decode b_HT_sum 31 = .ok (.aload_n 0, 1) := by decide +kernel
theorem D_HT_sum_32 : decode b_HT_sum 32 = .ok (.invokevirtual 132, 3) := by decide +kernel
theorem D_HT_sum_35 : decode b_HT_sum 35 = .ok (.aload_n 0, 1) := by decide +kernel
theorem D_HT_sum_36 : decode b_HT_sum 36 = .ok (.getfield 46, 3) := by decide +kernel
theorem D_HT_sum_39 : decode b_HT_sum 39 = .ok (.invokevirtual 135, 3) := by decide +kernel
theorem D_HT_sum_42 : decode b_HT_sum 42 = .ok (.ireturn, 1) := by decide +kernel
abbrev rm_HT_sum : Room := { frames := 4, cells := 0, slots := 0, locals := 97 }
def B_HT_sum_9 (k9 : Nat → Int32 → Mem → Prop) (post : Int32 → Mem → Prop) (a0 : Nat) (x1 : Int32) (M : Mem) : Prop := (isK M a0 6 ∧ ∃ q11, gR M a0 10 = some q11 ∧ isK M q11 1 ∧ T_He_size q11 M (fun r14 M14 => (r14 ≤ x1 → (isK M14 a0 6 ∧ T_HT_draftChanged a0 M14 (fun M32 => isK M32 a0 6 ∧ ∃ q36, gR M32 a0 5 = some q36 ∧ isK M32 q36 3 ∧ T_Po_size q36 M32 (fun r39 M39 => post r39 M39)))) ∧ (¬ r14 ≤ x1 → (isK M14 a0 6 ∧ T_HT_addClaimTimesRow a0 x1 M14 (fun M22 => k9 a0 (x1 + 1) M22)))))
set_option maxRecDepth 20000 in
theorem Z_HT_sum_9 {x : Ctx} {post : Int32 → Mem → Prop} (C : Ok x b_HT_sum 2 "HeapTower") (hR : xR x = rm_HT_sum) (Rt : RetI x .int post 0 0) {k9 : Nat → Int32 → Mem → Prop} (K9 : ∀ (a0 : Nat) (x1 : Int32) (M : Mem), k9 a0 x1 M → J x 2 9 [(0, .ref (xd x a0)), (1, .int x1)] [] 0 0 M) (a0 : Nat) (x1 : Int32) (M : Mem) (h : B_HT_sum_9 k9 post a0 x1 M) : J x 2 9 [(0, .ref (xd x a0)), (1, .int x1)] [] 0 0 M := by
  unfold B_HT_sum_9 at h
  refine J_iload_n C 1 D_HT_sum_9 rfl rfl ?_
  refine J_aload_n C 0 D_HT_sum_10 rfl rfl ?_
  obtain ⟨c_11, q11, e_11, h⟩ := h
  refine J_getR C fl_HT_74 D_HT_sum_11 c_11 e_11 ?_
  obtain ⟨c_14, h⟩ := h
  refine J_callVi C ml_HT_154 (S_He_size _ _ _ h) (by rw [hR]; decide) rfl c_14 rfl (Nat.le_of_ble_eq_true rfl) D_HT_sum_14 (fun r14 M14 h => ?_)
  refine J_icmp_ge (tgt := 31) C D_HT_sum_17 (by decide) (fun c_17 => ?_) (fun c_17 => ?_)
  · have h := h.1 c_17
    refine J_aload_n C 0 D_HT_sum_31 rfl rfl ?_
    obtain ⟨c_32, h⟩ := h
    refine J_callVv C ml_HT_132 (S_HT_draftChanged _ _ _ h) (by rw [hR]; decide) rfl c_32 rfl (Nat.le_of_ble_eq_true rfl) D_HT_sum_32 (fun M32 h => ?_)
    refine J_aload_n C 0 D_HT_sum_35 rfl rfl ?_
    obtain ⟨c_36, q36, e_36, h⟩ := h
    refine J_getR C fl_HT_46 D_HT_sum_36 c_36 e_36 ?_
    obtain ⟨c_39, h⟩ := h
    refine J_callVi C ml_HT_135 (S_Po_size _ _ _ h) (by rw [hR]; decide) rfl c_39 rfl (Nat.le_of_ble_eq_true rfl) D_HT_sum_39 (fun r39 M39 h => ?_)
    exact J_iret C Rt D_HT_sum_42 rfl h
  · have h := h.2 c_17
    refine J_aload_n C 0 D_HT_sum_20 rfl rfl ?_
    refine J_iload_n C 1 D_HT_sum_21 rfl rfl ?_
    obtain ⟨c_22, h⟩ := h
    refine J_callVv C ml_HT_248 (S_HT_addClaimTimesRow _ _ _ _ h) (by rw [hR]; decide) rfl c_22 rfl (Nat.le_of_ble_eq_true rfl) D_HT_sum_22 (fun M22 h => ?_)
    refine J_iinc (v := x1 + 1) (lv' := [(1, .int (x1 + 1)), (0, .ref (xd x a0))]) C 1 1 D_HT_sum_25 rfl rfl (by decide) rfl ?_
    refine J_goto (tgt := 9) C D_HT_sum_28 (by decide) ?_
    exact J_sub [1, 0] rfl (K9 _ _ _ h)
def L_HT_sum_9 (post : Int32 → Mem → Prop) : Nat → Nat → Int32 → Mem → Prop
  | 0, _, _, _ => False
  | n + 1, a0, x1, M => B_HT_sum_9 (L_HT_sum_9 post n) post a0 x1 M
theorem Y_HT_sum_9 {x : Ctx} {post : Int32 → Mem → Prop} (C : Ok x b_HT_sum 2 "HeapTower") (hR : xR x = rm_HT_sum) (Rt : RetI x .int post 0 0) : ∀ (n : Nat) (a0 : Nat) (x1 : Int32) (M : Mem), L_HT_sum_9 post n a0 x1 M → J x 2 9 [(0, .ref (xd x a0)), (1, .int x1)] [] 0 0 M := by
  intro n
  induction n with
  | zero => intro a0 x1 M h; exact h.elim
  | succ n ih => intro a0 x1 M h; exact Z_HT_sum_9 C hR Rt ih _ _ _ h
def T_HT_sum (a0 : Nat) (M : Mem) (post : Int32 → Mem → Prop) : Prop := (isK M a0 6 ∧ ∃ q1, gR M a0 5 = some q1 ∧ isK M q1 3 ∧ T_Po_clear q1 M (fun M4 => ∃ n, L_HT_sum_9 post n a0 0 M4))
set_option maxRecDepth 20000 in
theorem S_HT_sum {l : Launch} {D : va_G} {B t g : Nat} {d : Nat → Nat} {ac : Nat → ClassId}  (a0 : Nat) (M : Mem) (post : Int32 → Mem → Prop) (h : T_HT_sum a0 M post) : Met l y_HT_sum w_HT_sum rm_HT_sum (va_Pc [.ref (d a0)] (PRE D B d g t ac M)) (QI D B d g ac post) 0 0 (AB B) := by
  refine met_i (by decide +kernel) (Nat.le_of_ble_eq_true rfl) (fun x h1 hR h3 h4 h5 h6 h7 h8 C Rt => ?_)
  subst h3 h4 h5 h6 h7 h8
  unfold T_HT_sum at h
  show J x 2 0 [(0, .ref (xd x a0))] [] 0 0 M
  refine J_aload_n C 0 D_HT_sum_0 rfl rfl ?_
  obtain ⟨c_1, q1, e_1, h⟩ := h
  refine J_getR C fl_HT_46 D_HT_sum_1 c_1 e_1 ?_
  obtain ⟨c_4, h⟩ := h
  refine J_callVv C ml_HT_104 (S_Po_clear _ _ _ h) (by rw [hR]; decide) rfl c_4 rfl (Nat.le_of_ble_eq_true rfl) D_HT_sum_4 (fun M4 h => ?_)
  refine J_iconst (v := 0) C D_HT_sum_7 rfl ?_
  refine J_istore_n (lv' := [(1, .int 0), (0, .ref (xd x a0))]) C 1 D_HT_sum_8 rfl (by decide) rfl ?_
  obtain ⟨n, h⟩ := h
  exact J_sub [1, 0] rfl (Y_HT_sum_9 C hR Rt  n _ _ _ h)
theorem D_HT_told_0 : decode b_HT_told 0 = .ok (.iload_n 1, 1) := by decide +kernel
theorem D_HT_told_1 : decode b_HT_told 1 = .ok (.tableswitch 75 0 4 #[35, 43, 51, 59, 67], 35) := by decide +kernel
theorem D_HT_told_36 : decode b_HT_told 36 = .ok (.aload_n 0, 1) := by decide +kernel
theorem D_HT_told_37 : decode b_HT_told 37 = .ok (.getfield 10, 3) := by decide +kernel
theorem D_HT_told_40 : decode b_HT_told 40 = .ok (.invokevirtual 110, 3) := by decide +kernel
theorem D_HT_told_43 : decode b_HT_told 43 = .ok (.ireturn, 1) := by decide +kernel
theorem D_HT_told_44 : decode b_HT_told 44 = .ok (.aload_n 0, 1) := by decide +kernel
theorem D_HT_told_45 : decode b_HT_told 45 = .ok (.getfield 19, 3) := by decide +kernel
theorem D_HT_told_48 : decode b_HT_told 48 = .ok (.invokevirtual 251, 3) := by decide +kernel
theorem D_HT_told_51 : decode b_HT_told 51 = .ok (.ireturn, 1) := by decide +kernel
theorem D_HT_told_52 : decode b_HT_told 52 = .ok (.aload_n 0, 1) := by decide +kernel
theorem D_HT_told_53 : decode b_HT_told 53 = .ok (.getfield 10, 3) := by decide +kernel
theorem D_HT_told_56 : decode b_HT_told 56 = .ok (.invokevirtual 90, 3) := by decide +kernel
theorem D_HT_told_59 : decode b_HT_told 59 = .ok (.ireturn, 1) := by decide +kernel
theorem D_HT_told_60 : decode b_HT_told 60 = .ok (.aload_n 0, 1) := by decide +kernel
theorem D_HT_told_61 : decode b_HT_told 61 = .ok (.getfield 74, 3) := by decide +kernel
theorem D_HT_told_64 : decode b_HT_told 64 = .ok (.invokevirtual 154, 3) := by decide +kernel
theorem D_HT_told_67 : decode b_HT_told 67 = .ok (.ireturn, 1) := by decide +kernel
theorem D_HT_told_68 : decode b_HT_told 68 = .ok (.aload_n 0, 1) := by decide +kernel
theorem D_HT_told_69 : decode b_HT_told 69 = .ok (.getfield 78, 3) := by decide +kernel
theorem D_HT_told_72 : decode b_HT_told 72 = .ok (.invokevirtual 154, 3) := by decide +kernel
theorem D_HT_told_75 : decode b_HT_told 75 = .ok (.ireturn, 1) := by decide +kernel
theorem D_HT_told_76 : decode b_HT_told 76 = .ok (.ldc 85, 2) := by decide +kernel
theorem D_HT_told_78 : decode b_HT_told 78 = .ok (.ireturn, 1) := by decide +kernel
abbrev rm_HT_told : Room := { frames := 1, cells := 0, slots := 0, locals := 20 }
def T_HT_told (a0 : Nat) (x1 : Int32) (M : Mem) (post : Int32 → Mem → Prop) : Prop := (((Int32.toInt x1 < 0 ∨ 4 < Int32.toInt x1) → (post ((-1000000)) M)) ∧ (Int32.toInt x1 = 0 → (isK M a0 6 ∧ ∃ q37, gR M a0 0 = some q37 ∧ isK M q37 4 ∧ T_Pr_letterCount q37 M (fun r40 M40 => post r40 M40))) ∧ (Int32.toInt x1 = 1 → (isK M a0 6 ∧ ∃ q45, gR M a0 1 = some q45 ∧ isK M q45 2 ∧ T_Nu_prime q45 M (fun r48 M48 => post r48 M48))) ∧ (Int32.toInt x1 = 2 → (isK M a0 6 ∧ ∃ q53, gR M a0 0 = some q53 ∧ isK M q53 4 ∧ T_Pr_orderNow q53 M (fun r56 M56 => post r56 M56))) ∧ (Int32.toInt x1 = 3 → (isK M a0 6 ∧ ∃ q61, gR M a0 10 = some q61 ∧ isK M q61 1 ∧ T_He_size q61 M (fun r64 M64 => post r64 M64))) ∧ (Int32.toInt x1 = 4 → (isK M a0 6 ∧ ∃ q69, gR M a0 11 = some q69 ∧ isK M q69 1 ∧ T_He_size q69 M (fun r72 M72 => post r72 M72))))
set_option maxRecDepth 20000 in
theorem S_HT_told {l : Launch} {D : va_G} {B t g : Nat} {d : Nat → Nat} {ac : Nat → ClassId}  (a0 : Nat) (x1 : Int32) (M : Mem) (post : Int32 → Mem → Prop) (h : T_HT_told a0 x1 M post) : Met l y_HT_told w_HT_told rm_HT_told (va_Pc [.ref (d a0), .int x1] (PRE D B d g t ac M)) (QI D B d g ac post) 0 0 (AB B) := by
  refine met_i (by decide +kernel) (Nat.le_of_ble_eq_true rfl) (fun x h1 hR h3 h4 h5 h6 h7 h8 C Rt => ?_)
  subst h3 h4 h5 h6 h7 h8
  unfold T_HT_told at h
  show J x 2 0 [(0, .ref (xd x a0)), (1, .int x1)] [] 0 0 M
  refine J_iload_n C 1 D_HT_told_0 rfl rfl ?_
  by_cases q_1 : Int32.toInt x1 < 0 ∨ 4 < Int32.toInt x1
  · have h := h.1 q_1
    refine J_tableOut (tgt := 76) C D_HT_told_1 q_1 (by decide) ?_
    refine J_ldc (v := (-1000000)) C D_HT_told_76 kw_HT_85 ?_
    exact J_iret C Rt D_HT_told_78 rfl h
  · have h := h.2
    have r_1 : Int32.toInt x1 = 0 ∨ Int32.toInt x1 = 1 ∨ Int32.toInt x1 = 2 ∨ Int32.toInt x1 = 3 ∨ Int32.toInt x1 = 4 := by omega
    rcases r_1 with r_1 | r_1 | r_1 | r_1 | r_1
    · have h := (h.1) r_1
      refine J_tableIn (tgt := 36) C D_HT_told_1 (by rw [r_1]; decide) (by rw [r_1]; decide) (by rw [r_1]; rfl) (by decide) ?_
      refine J_aload_n C 0 D_HT_told_36 rfl rfl ?_
      obtain ⟨c_37, q37, e_37, h⟩ := h
      refine J_getR C fl_HT_10 D_HT_told_37 c_37 e_37 ?_
      obtain ⟨c_40, h⟩ := h
      refine J_callVi C ml_HT_110 (S_Pr_letterCount _ _ _ h) (by rw [hR]; decide) rfl c_40 rfl (Nat.le_of_ble_eq_true rfl) D_HT_told_40 (fun r40 M40 h => ?_)
      exact J_iret C Rt D_HT_told_43 rfl h
    · have h := (h.2.1) r_1
      refine J_tableIn (tgt := 44) C D_HT_told_1 (by rw [r_1]; decide) (by rw [r_1]; decide) (by rw [r_1]; rfl) (by decide) ?_
      refine J_aload_n C 0 D_HT_told_44 rfl rfl ?_
      obtain ⟨c_45, q45, e_45, h⟩ := h
      refine J_getR C fl_HT_19 D_HT_told_45 c_45 e_45 ?_
      obtain ⟨c_48, h⟩ := h
      refine J_callVi C ml_HT_251 (S_Nu_prime _ _ _ h) (by rw [hR]; decide) rfl c_48 rfl (Nat.le_of_ble_eq_true rfl) D_HT_told_48 (fun r48 M48 h => ?_)
      exact J_iret C Rt D_HT_told_51 rfl h
    · have h := (h.2.2.1) r_1
      refine J_tableIn (tgt := 52) C D_HT_told_1 (by rw [r_1]; decide) (by rw [r_1]; decide) (by rw [r_1]; rfl) (by decide) ?_
      refine J_aload_n C 0 D_HT_told_52 rfl rfl ?_
      obtain ⟨c_53, q53, e_53, h⟩ := h
      refine J_getR C fl_HT_10 D_HT_told_53 c_53 e_53 ?_
      obtain ⟨c_56, h⟩ := h
      refine J_callVi C ml_HT_90 (S_Pr_orderNow _ _ _ h) (by rw [hR]; decide) rfl c_56 rfl (Nat.le_of_ble_eq_true rfl) D_HT_told_56 (fun r56 M56 h => ?_)
      exact J_iret C Rt D_HT_told_59 rfl h
    · have h := (h.2.2.2.1) r_1
      refine J_tableIn (tgt := 60) C D_HT_told_1 (by rw [r_1]; decide) (by rw [r_1]; decide) (by rw [r_1]; rfl) (by decide) ?_
      refine J_aload_n C 0 D_HT_told_60 rfl rfl ?_
      obtain ⟨c_61, q61, e_61, h⟩ := h
      refine J_getR C fl_HT_74 D_HT_told_61 c_61 e_61 ?_
      obtain ⟨c_64, h⟩ := h
      refine J_callVi C ml_HT_154 (S_He_size _ _ _ h) (by rw [hR]; decide) rfl c_64 rfl (Nat.le_of_ble_eq_true rfl) D_HT_told_64 (fun r64 M64 h => ?_)
      exact J_iret C Rt D_HT_told_67 rfl h
    · have h := (h.2.2.2.2) r_1
      refine J_tableIn (tgt := 68) C D_HT_told_1 (by rw [r_1]; decide) (by rw [r_1]; decide) (by rw [r_1]; rfl) (by decide) ?_
      refine J_aload_n C 0 D_HT_told_68 rfl rfl ?_
      obtain ⟨c_69, q69, e_69, h⟩ := h
      refine J_getR C fl_HT_78 D_HT_told_69 c_69 e_69 ?_
      obtain ⟨c_72, h⟩ := h
      refine J_callVi C ml_HT_154 (S_He_size _ _ _ h) (by rw [hR]; decide) rfl c_72 rfl (Nat.le_of_ble_eq_true rfl) D_HT_told_72 (fun r72 M72 h => ?_)
      exact J_iret C Rt D_HT_told_75 rfl h
