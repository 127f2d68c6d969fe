theorem fl_Po_9 : Fld "HeapTower$Polynomial" 9 3 1 false true := ⟨R_Po, F_Po, 2, t_Po, iw_Po, rfl, by decide, rfl, rfl, by decide, rfl, (gw_in (List.mem_of_getElem? (i := 190) (by decide +kernel)) (by decide +kernel)), t_Po_ok, n_Po, rfl, (fun h => by cases h), fun _ => Or.inr ⟨_, rfl⟩⟩
theorem fl_Po_15 : Fld "HeapTower$Polynomial" 15 3 0 false true := ⟨R_Po, F_Po, 2, t_Po, iw_Po, rfl, by decide, rfl, rfl, by decide, rfl, (gw_in (List.mem_of_getElem? (i := 189) (by decide +kernel)) (by decide +kernel)), t_Po_ok, n_Po, rfl, (fun h => by cases h), fun _ => Or.inl ⟨_, rfl⟩⟩
theorem ml_Po_19 : MLS "HeapTower$Polynomial" 19 y_Ar_fill2 b_Ar_fill2 4 none 2 := ⟨List.forall_mem_cons.mpr ⟨(gw_in (List.mem_of_getElem? (i := 340) (by decide +kernel)) (by decide +kernel)), List.forall_mem_cons.mpr ⟨(gw_in (List.mem_of_getElem? (i := 341) (by decide +kernel)) (by decide +kernel)), List.forall_mem_cons.mpr ⟨(gw_in (List.mem_of_getElem? (i := 76) (by decide +kernel)) (by decide +kernel)), List.forall_mem_cons.mpr ⟨(gw_in (List.mem_of_getElem? (i := 342) (by decide +kernel)) (by decide +kernel)), fun _ h => absurd h List.not_mem_nil⟩⟩⟩⟩, by decide⟩
theorem ml_Po_34 : MLV "HeapTower$Polynomial" 34 y_Po_sizeOf b_Po_sizeOf 4 (some .int) 1 3 := ⟨List.forall_mem_cons.mpr ⟨(gw_in (List.mem_of_getElem? (i := 406) (by decide +kernel)) (by decide +kernel)), List.forall_mem_cons.mpr ⟨(gw_in (List.mem_of_getElem? (i := 408) (by decide +kernel)) (by decide +kernel)), List.forall_mem_cons.mpr ⟨(gw_in (List.mem_of_getElem? (i := 6) (by decide +kernel)) (by decide +kernel)), List.forall_mem_cons.mpr ⟨(gw_in (List.mem_of_getElem? (i := 71) (by decide +kernel)) (by decide +kernel)), List.forall_mem_cons.mpr ⟨(gw_in (List.mem_of_getElem? (i := 409) (by decide +kernel)) (by decide +kernel)), fun _ h => absurd h List.not_mem_nil⟩⟩⟩⟩⟩, by decide, F_Po, 2, rfl, by decide⟩
theorem ml_Po_38 : MLV "HeapTower$Polynomial" 38 y_Po_degree b_Po_degree 2 (some .int) 0 3 := ⟨List.forall_mem_cons.mpr ⟨(gw_in (List.mem_of_getElem? (i := 414) (by decide +kernel)) (by decide +kernel)), List.forall_mem_cons.mpr ⟨(gw_in (List.mem_of_getElem? (i := 403) (by decide +kernel)) (by decide +kernel)), List.forall_mem_cons.mpr ⟨(gw_in (List.mem_of_getElem? (i := 404) (by decide +kernel)) (by decide +kernel)), List.forall_mem_cons.mpr ⟨(gw_in (List.mem_of_getElem? (i := 71) (by decide +kernel)) (by decide +kernel)), List.forall_mem_cons.mpr ⟨(gw_in (List.mem_of_getElem? (i := 405) (by decide +kernel)) (by decide +kernel)), fun _ h => absurd h List.not_mem_nil⟩⟩⟩⟩⟩, by decide, F_Po, 2, rfl, by decide⟩
theorem ml_Po_42 : MLV "HeapTower$Polynomial" 42 y_Po_size b_Po_size 3 (some .int) 0 3 := ⟨List.forall_mem_cons.mpr ⟨(gw_in (List.mem_of_getElem? (i := 415) (by decide +kernel)) (by decide +kernel)), List.forall_mem_cons.mpr ⟨(gw_in (List.mem_of_getElem? (i := 395) (by decide +kernel)) (by decide +kernel)), List.forall_mem_cons.mpr ⟨(gw_in (List.mem_of_getElem? (i := 396) (by decide +kernel)) (by decide +kernel)), List.forall_mem_cons.mpr ⟨(gw_in (List.mem_of_getElem? (i := 71) (by decide +kernel)) (by decide +kernel)), List.forall_mem_cons.mpr ⟨(gw_in (List.mem_of_getElem? (i := 397) (by decide +kernel)) (by decide +kernel)), fun _ h => absurd h List.not_mem_nil⟩⟩⟩⟩⟩, by decide, F_Po, 2, rfl, by decide⟩
theorem ml_Po_45 : MLV "HeapTower$Polynomial" 45 y_Pr_amount b_Pr_amount 2 (some .int) 1 4 := ⟨List.forall_mem_cons.mpr ⟨(gw_in (List.mem_of_getElem? (i := 424) (by decide +kernel)) (by decide +kernel)), List.forall_mem_cons.mpr ⟨(gw_in (List.mem_of_getElem? (i := 425) (by decide +kernel)) (by decide +kernel)), List.forall_mem_cons.mpr ⟨(gw_in (List.mem_of_getElem? (i := 426) (by decide +kernel)) (by decide +kernel)), List.forall_mem_cons.mpr ⟨(gw_in (List.mem_of_getElem? (i := 68) (by decide +kernel)) (by decide +kernel)), List.forall_mem_cons.mpr ⟨(gw_in (List.mem_of_getElem? (i := 427) (by decide +kernel)) (by decide +kernel)), fun _ h => absurd h List.not_mem_nil⟩⟩⟩⟩⟩, by decide, F_Pr, 6, rfl, by decide⟩
theorem ml_Po_50 : MLV "HeapTower$Polynomial" 50 y_Pr_at b_Pr_at 3 (some .int) 2 4 := ⟨List.forall_mem_cons.mpr ⟨(gw_in (List.mem_of_getElem? (i := 428) (by decide +kernel)) (by decide +kernel)), List.forall_mem_cons.mpr ⟨(gw_in (List.mem_of_getElem? (i := 429) (by decide +kernel)) (by decide +kernel)), List.forall_mem_cons.mpr ⟨(gw_in (List.mem_of_getElem? (i := 430) (by decide +kernel)) (by decide +kernel)), List.forall_mem_cons.mpr ⟨(gw_in (List.mem_of_getElem? (i := 68) (by decide +kernel)) (by decide +kernel)), List.forall_mem_cons.mpr ⟨(gw_in (List.mem_of_getElem? (i := 431) (by decide +kernel)) (by decide +kernel)), fun _ h => absurd h List.not_mem_nil⟩⟩⟩⟩⟩, by decide, F_Pr, 6, rfl, by decide⟩
theorem ml_Po_54 : MLV "HeapTower$Polynomial" 54 y_Po_numberAt b_Po_numberAt 3 (some .int) 2 3 := ⟨List.forall_mem_cons.mpr ⟨(gw_in (List.mem_of_getElem? (i := 432) (by decide +kernel)) (by decide +kernel)), List.forall_mem_cons.mpr ⟨(gw_in (List.mem_of_getElem? (i := 367) (by decide +kernel)) (by decide +kernel)), List.forall_mem_cons.mpr ⟨(gw_in (List.mem_of_getElem? (i := 368) (by decide +kernel)) (by decide +kernel)), List.forall_mem_cons.mpr ⟨(gw_in (List.mem_of_getElem? (i := 71) (by decide +kernel)) (by decide +kernel)), List.forall_mem_cons.mpr ⟨(gw_in (List.mem_of_getElem? (i := 369) (by decide +kernel)) (by decide +kernel)), fun _ h => absurd h List.not_mem_nil⟩⟩⟩⟩⟩, by decide, F_Po, 2, rfl, by decide⟩
theorem ml_Po_57 : MLS "HeapTower$Polynomial" 57 y_Ar_fill4 b_Ar_fill4 5 none 4 := ⟨List.forall_mem_cons.mpr ⟨(gw_in (List.mem_of_getElem? (i := 445) (by decide +kernel)) (by decide +kernel)), List.forall_mem_cons.mpr ⟨(gw_in (List.mem_of_getElem? (i := 446) (by decide +kernel)) (by decide +kernel)), List.forall_mem_cons.mpr ⟨(gw_in (List.mem_of_getElem? (i := 76) (by decide +kernel)) (by decide +kernel)), List.forall_mem_cons.mpr ⟨(gw_in (List.mem_of_getElem? (i := 447) (by decide +kernel)) (by decide +kernel)), fun _ h => absurd h List.not_mem_nil⟩⟩⟩⟩, by decide⟩
theorem ml_Po_60 : MLV "HeapTower$Polynomial" 60 y_Po_movePartUp b_Po_movePartUp 6 none 3 3 := ⟨List.forall_mem_cons.mpr ⟨(gw_in (List.mem_of_getElem? (i := 451) (by decide +kernel)) (by decide +kernel)), List.forall_mem_cons.mpr ⟨(gw_in (List.mem_of_getElem? (i := 453) (by decide +kernel)) (by decide +kernel)), List.forall_mem_cons.mpr ⟨(gw_in (List.mem_of_getElem? (i := 8) (by decide +kernel)) (by decide +kernel)), List.forall_mem_cons.mpr ⟨(gw_in (List.mem_of_getElem? (i := 71) (by decide +kernel)) (by decide +kernel)), List.forall_mem_cons.mpr ⟨(gw_in (List.mem_of_getElem? (i := 454) (by decide +kernel)) (by decide +kernel)), fun _ h => absurd h List.not_mem_nil⟩⟩⟩⟩⟩, by decide, F_Po, 2, rfl, by decide⟩
theorem ml_Po_64 : MLV "HeapTower$Polynomial" 64 y_Pr_together b_Pr_together 3 (some .int) 2 4 := ⟨List.forall_mem_cons.mpr ⟨(gw_in (List.mem_of_getElem? (i := 455) (by decide +kernel)) (by decide +kernel)), List.forall_mem_cons.mpr ⟨(gw_in (List.mem_of_getElem? (i := 456) (by decide +kernel)) (by decide +kernel)), List.forall_mem_cons.mpr ⟨(gw_in (List.mem_of_getElem? (i := 457) (by decide +kernel)) (by decide +kernel)), List.forall_mem_cons.mpr ⟨(gw_in (List.mem_of_getElem? (i := 68) (by decide +kernel)) (by decide +kernel)), List.forall_mem_cons.mpr ⟨(gw_in (List.mem_of_getElem? (i := 458) (by decide +kernel)) (by decide +kernel)), fun _ h => absurd h List.not_mem_nil⟩⟩⟩⟩⟩, by decide, F_Pr, 6, rfl, by decide⟩
theorem ml_Po_67 : MLV "HeapTower$Polynomial" 67 y_Po_setNumber b_Po_setNumber 4 none 3 3 := ⟨List.forall_mem_cons.mpr ⟨(gw_in (List.mem_of_getElem? (i := 459) (by decide +kernel)) (by decide +kernel)), List.forall_mem_cons.mpr ⟨(gw_in (List.mem_of_getElem? (i := 379) (by decide +kernel)) (by decide +kernel)), List.forall_mem_cons.mpr ⟨(gw_in (List.mem_of_getElem? (i := 380) (by decide +kernel)) (by decide +kernel)), List.forall_mem_cons.mpr ⟨(gw_in (List.mem_of_getElem? (i := 71) (by decide +kernel)) (by decide +kernel)), List.forall_mem_cons.mpr ⟨(gw_in (List.mem_of_getElem? (i := 381) (by decide +kernel)) (by decide +kernel)), fun _ h => absurd h List.not_mem_nil⟩⟩⟩⟩⟩, by decide, F_Po, 2, rfl, by decide⟩
theorem kc_Po_25 : KC "HeapTower$Polynomial" 25 := ⟨⟨(gw_in (List.mem_of_getElem? (i := 480) (by decide +kernel)) (by decide +kernel)), (gw_in (List.mem_of_getElem? (i := 482) (by decide +kernel)) (by decide +kernel))⟩, (gw_in (List.mem_of_getElem? (i := 481) (by decide +kernel)) (by decide +kernel)), (gw_in (List.mem_of_getElem? (i := 77) (by decide +kernel)) (by decide +kernel))⟩
theorem D_Po_clear_0 : decode b_Po_clear 0 = .ok (.aload_n 0, 1) := by decide +kernel
theorem D_Po_clear_1 : decode b_Po_clear 1 = .ok (.getfield 9, 3) := by decide +kernel
theorem D_Po_clear_4 : decode b_Po_clear 4 = .ok (.iconst 0, 1) := by decide +kernel
theorem D_Po_clear_5 : decode b_Po_clear 5 = .ok (.invokestatic 19, 3) := by decide +kernel
theorem D_Po_clear_8 : decode b_Po_clear 8 = .ok (.return_, 1) := by decide +kernel
abbrev rm_Po_clear : Room := { frames := 1, cells := 0, slots := 0, locals := 23 }
def T_Po_clear (a0 : Nat) (M : Mem) (post : Mem → Prop) : Prop := (isK M a0 3 ∧ ∃ q1, gR M a0 1 = some q1 ∧ T_Ar_fill2 q1 0 M (fun M5 => post M5))
set_option maxRecDepth 20000 in
theorem S_Po_clear {l : Launch} {D : va_G} {B t g : Nat} {d : Nat → Nat} {ac : Nat → ClassId}  (a0 : Nat) (M : Mem) (post : Mem → Prop) (h : T_Po_clear a0 M post) : Met l y_Po_clear w_Po_clear rm_Po_clear (va_Pc [.ref (d a0)] (PRE D B d g t ac M)) (QV D B d g ac post) 0 0 (AB B) := by
  refine met_v (by decide +kernel) (Nat.le_of_ble_eq_true rfl) (fun x h1 hR h3 h4 h5 h6 h7 h8 C Rt Nm => ?_)
  subst h3 h4 h5 h6 h7 h8
  unfold T_Po_clear at h
  show J x 1 0 [(0, .ref (xd x a0))] [] 0 0 M
  refine J_aload_n C 0 D_Po_clear_0 rfl rfl ?_
  obtain ⟨c_1, q1, e_1, h⟩ := h
  refine J_getR C fl_Po_9 D_Po_clear_1 c_1 e_1 ?_
  refine J_iconst (v := 0) C D_Po_clear_4 rfl ?_
  refine J_callSv C ml_Po_19 (S_Ar_fill2 _ _ _ _ h) (by rw [hR]; decide) rfl rfl (Nat.le_of_ble_eq_true rfl) D_Po_clear_5 (fun M5 h => ?_)
  exact J_vret C Rt D_Po_clear_8 h
theorem D_Po_numberAt_0 : decode b_Po_numberAt 0 = .ok (.aload_n 0, 1) := by decide +kernel
theorem D_Po_numberAt_1 : decode b_Po_numberAt 1 = .ok (.getfield 9, 3) := by decide +kernel
theorem D_Po_numberAt_4 : decode b_Po_numberAt 4 = .ok (.getstatic 31, 3) := by decide +kernel
theorem D_Po_numberAt_7 : decode b_Po_numberAt 7 = .ok (.iload_n 1, 1) := by decide +kernel
theorem D_Po_numberAt_8 : decode b_Po_numberAt 8 = .ok (.iaload, 1) := by decide +kernel
theorem D_Po_numberAt_9 : decode b_Po_numberAt 9 = .ok (.iload_n 2, 1) := by decide +kernel
theorem D_Po_numberAt_10 : decode b_Po_numberAt 10 = .ok (.iadd, 1) := by decide +kernel
theorem D_Po_numberAt_11 : decode b_Po_numberAt 11 = .ok (.iaload, 1) := by decide +kernel
theorem D_Po_numberAt_12 : decode b_Po_numberAt 12 = .ok (.ireturn, 1) := by decide +kernel
abbrev rm_Po_numberAt : Room := { frames := 0, cells := 0, slots := 0, locals := 0 }
def T_Po_numberAt (a0 : Nat) (x1 : Int32) (x2 : Int32) (M : Mem) (post : Int32 → Mem → Prop) : Prop := (isK M a0 3 ∧ ∃ q1, gR M a0 1 = some q1 ∧ vp_in x1 12 ∧ isA M q1 8 ((fst (Int32.toNatClampNeg x1)) + x2) ∧ post (gI M q1 (Int32.toNatClampNeg ((fst (Int32.toNatClampNeg x1)) + x2))) M)
set_option maxRecDepth 20000 in
theorem S_Po_numberAt {l : Launch} {D : va_G} {B t g : Nat} {d : Nat → Nat} {ac : Nat → ClassId}  (a0 : Nat) (x1 : Int32) (x2 : Int32) (M : Mem) (post : Int32 → Mem → Prop) (h : T_Po_numberAt a0 x1 x2 M post) : Met l y_Po_numberAt w_Po_numberAt rm_Po_numberAt (va_Pc [.ref (d a0), .int x1, .int x2] (PRE D B d g t ac M)) (QI D B d g ac post) 0 0 (AB B) := by
  refine met_i (by decide +kernel) (Nat.le_of_ble_eq_true rfl) (fun x h1 hR h3 h4 h5 h6 h7 h8 C Rt => ?_)
  subst h3 h4 h5 h6 h7 h8
  unfold T_Po_numberAt at h
  show J x 3 0 [(0, .ref (xd x a0)), (1, .int x1), (2, .int x2)] [] 0 0 M
  refine J_aload_n C 0 D_Po_numberAt_0 rfl rfl ?_
  obtain ⟨c_1, q1, e_1, h⟩ := h
  refine J_getR C fl_Po_9 D_Po_numberAt_1 c_1 e_1 ?_
  refine J_first C (by decide) D_Po_numberAt_4 ?_
  refine J_iload_n C 1 D_Po_numberAt_7 rfl rfl ?_
  obtain ⟨c_8, h⟩ := h
  refine J_fald C D_Po_numberAt_8 c_8 ?_
  refine J_iload_n C 2 D_Po_numberAt_9 rfl rfl ?_
  refine J_iadd C D_Po_numberAt_10 ?_
  obtain ⟨c_11, h⟩ := h
  refine J_iald C D_Po_numberAt_11 c_11 ?_
  exact J_iret C Rt D_Po_numberAt_12 rfl h
theorem D_Po_setNumber_0 : decode b_Po_setNumber 0 = .ok (.aload_n 0, 1) := by decide +kernel
theorem D_Po_setNumber_1 : decode b_Po_setNumber 1 = .ok (.getfield 9, 3) := by decide +kernel
theorem D_Po_setNumber_4 : decode b_Po_setNumber 4 = .ok (.getstatic 31, 3) := by decide +kernel
theorem D_Po_setNumber_7 : decode b_Po_setNumber 7 = .ok (.iload_n 1, 1) := by decide +kernel
theorem D_Po_setNumber_8 : decode b_Po_setNumber 8 = .ok (.iaload, 1) := by decide +kernel
theorem D_Po_setNumber_9 : decode b_Po_setNumber 9 = .ok (.iload_n 2, 1) := by decide +kernel
theorem D_Po_setNumber_10 : decode b_Po_setNumber 10 = .ok (.iadd, 1) := by decide +kernel
theorem D_Po_setNumber_11 : decode b_Po_setNumber 11 = .ok (.iload_n 3, 1) := by decide +kernel
theorem D_Po_setNumber_12 : decode b_Po_setNumber 12 = .ok (.iastore, 1) := by decide +kernel
theorem D_Po_setNumber_13 : decode b_Po_setNumber 13 = .ok (.return_, 1) := by decide +kernel
abbrev rm_Po_setNumber : Room := { frames := 0, cells := 0, slots := 0, locals := 0 }
def T_Po_setNumber (a0 : Nat) (x1 : Int32) (x2 : Int32) (x3 : Int32) (M : Mem) (post : Mem → Prop) : Prop := (isK M a0 3 ∧ ∃ q1, gR M a0 1 = some q1 ∧ vp_in x1 12 ∧ isA M q1 8 ((fst (Int32.toNatClampNeg x1)) + x2) ∧ post (sI M q1 (Int32.toNatClampNeg ((fst (Int32.toNatClampNeg x1)) + x2)) x3))
set_option maxRecDepth 20000 in
theorem S_Po_setNumber {l : Launch} {D : va_G} {B t g : Nat} {d : Nat → Nat} {ac : Nat → ClassId}  (a0 : Nat) (x1 : Int32) (x2 : Int32) (x3 : Int32) (M : Mem) (post : Mem → Prop) (h : T_Po_setNumber a0 x1 x2 x3 M post) : Met l y_Po_setNumber w_Po_setNumber rm_Po_setNumber (va_Pc [.ref (d a0), .int x1, .int x2, .int x3] (PRE D B d g t ac M)) (QV D B d g ac post) 0 0 (AB B) := by
  refine met_v (by decide +kernel) (Nat.le_of_ble_eq_true rfl) (fun x h1 hR h3 h4 h5 h6 h7 h8 C Rt Nm => ?_)
  subst h3 h4 h5 h6 h7 h8
  unfold T_Po_setNumber at h
  show J x 4 0 [(0, .ref (xd x a0)), (1, .int x1), (2, .int x2), (3, .int x3)] [] 0 0 M
  refine J_aload_n C 0 D_Po_setNumber_0 rfl rfl ?_
  obtain ⟨c_1, q1, e_1, h⟩ := h
  refine J_getR C fl_Po_9 D_Po_setNumber_1 c_1 e_1 ?_
  refine J_first C (by decide) D_Po_setNumber_4 ?_
  refine J_iload_n C 1 D_Po_setNumber_7 rfl rfl ?_
  obtain ⟨c_8, h⟩ := h
  refine J_fald C D_Po_setNumber_8 c_8 ?_
  refine J_iload_n C 2 D_Po_setNumber_9 rfl rfl ?_
  refine J_iadd C D_Po_setNumber_10 ?_
  refine J_iload_n C 3 D_Po_setNumber_11 rfl rfl ?_
  obtain ⟨c_12, h⟩ := h
  refine J_iast C D_Po_setNumber_12 c_12 ?_
  exact J_vret C Rt D_Po_setNumber_13 h
theorem D_Po_size_0 : decode b_Po_size 0 = .ok (.iconst 0, 1) := by decide +kernel
theorem D_Po_size_1 : decode b_Po_size 1 = .ok (.istore_n 1, 1) := by decide +kernel
theorem D_Po_size_2 : decode b_Po_size 2 = .ok (.iconst 0, 1) := by decide +kernel
theorem D_Po_size_3 : decode b_Po_size 3 = .ok (.istore_n 2, 1) := by decide +kernel
theorem D_Po_size_4 : decode b_Po_size 4 = .ok (.iload_n 2, 1) := by decide +kernel
theorem D_Po_size_5 : decode b_Po_size 5 = .ok (.sipush 286, 3) := by decide +kernel
theorem D_Po_size_8 : decode b_Po_size 8 = .ok (.if_icmp .ge 26, 3) := by decide +kernel
theorem D_Po_size_11 : decode b_Po_size 11 = .ok (.iload_n 1, 1) := by decide +kernel
theorem D_Po_size_12 : decode b_Po_size 12 = .ok (.aload_n 0, 1) := by decide +kernel
theorem D_Po_size_13 : decode b_Po_size 13 = .ok (.getfield 9, 3) := by decide +kernel
theorem D_Po_size_16 : decode b_Po_size 16 = .ok (.iload_n 2, 1) := by decide +kernel
theorem D_Po_size_17 : decode b_Po_size 17 = .ok (.iaload, 1) := by decide +kernel
theorem D_Po_size_18 : decode b_Po_size 18 = .ok (.ifCond .eq 7, 3) := by decide +kernel
theorem D_Po_size_21 : decode b_Po_size 21 = .ok (.iconst 1, 1) := by decide +kernel
theorem D_Po_size_22 : decode b_Po_size 22 = .ok (.goto 4, 3) := by decide +kernel
theorem D_Po_size_25 : decode b_Po_size 25 = .ok (.iconst 0, 1) := by decide +kernel
theorem D_Po_size_26 : decode b_Po_size 26 = .ok (.iadd, 1) := by decide +kernel
theorem D_Po_size_27 : decode b_Po_size 27 = .ok (.istore_n 1, 1) := by decide +kernel
theorem D_Po_size_28 : decode b_Po_size 28 = .ok (.iinc 2 1, 3) := by decide +kernel
theorem D_Po_size_31 : decode b_Po_size 31 = .ok (.goto (-27), 3) := by decide +kernel
theorem D_Po_size_34 : decode b_Po_size 34 = .ok (.iload_n 1, 1) := by decide +kernel
theorem D_Po_size_35 : decode b_Po_size 35 = .ok (.ireturn, 1) := by decide +kernel
abbrev rm_Po_size : Room := { frames := 0, cells := 0, slots := 0, locals := 0 }
def B_Po_size_26 (k4 : Nat → Int32 → Int32 → Mem → Prop) (post : Int32 → Mem → Prop) (a0 : Nat) (x2 : Int32) (s0 : Int32) (s1 : Int32) (M : Mem) : Prop := (k4 a0 (s1 + s0) (x2 + 1) M)
set_option maxRecDepth 20000 in
theorem Z_Po_size_26 {x : Ctx} {post : Int32 → Mem → Prop} (C : Ok x b_Po_size 3 "HeapTower$Polynomial") (hR : xR x = rm_Po_size) (Rt : RetI x .int post 0 0) {k4 : Nat → Int32 → Int32 → Mem → Prop} (K4 : ∀ (a0 : Nat) (x1 : Int32) (x2 : Int32) (M : Mem), k4 a0 x1 x2 M → J x 3 4 [(0, .ref (xd x a0)), (1, .int x1), (2, .int x2)] [] 0 0 M) (a0 : Nat) (x2 : Int32) (s0 : Int32) (s1 : Int32) (M : Mem) (h : B_Po_size_26 k4 post a0 x2 s0 s1 M) : J x 3 26 [(0, .ref (xd x a0)), (2, .int x2)] [.int s0, .int s1] 0 0 M := by
  unfold B_Po_size_26 at h
  refine J_iadd C D_Po_size_26 ?_
  refine J_istore_n (lv' := [(1, .int (s1 + s0)), (0, .ref (xd x a0)), (2, .int x2)]) C 1 D_Po_size_27 rfl (by decide) rfl ?_
  refine J_iinc (v := x2 + 1) (lv' := [(2, .int (x2 + 1)), (1, .int (s1 + s0)), (0, .ref (xd x a0))]) C 2 2 D_Po_size_28 rfl rfl (by decide) rfl ?_
  refine J_goto (tgt := 4) C D_Po_size_31 (by decide) ?_
  exact J_sub [2, 1, 0] rfl (K4 _ _ _ _ h)
def B_Po_size_4 (k4 : Nat → Int32 → Int32 → Mem → Prop) (post : Int32 → Mem → Prop) (a0 : Nat) (x1 : Int32) (x2 : Int32) (M : Mem) : Prop := ((286 ≤ x2 → (post x1 M)) ∧ (¬ 286 ≤ x2 → (isK M a0 3 ∧ ∃ q13, gR M a0 1 = some q13 ∧ isA M q13 8 x2 ∧ ((gI M q13 (Int32.toNatClampNeg x2)) = 0 → (B_Po_size_26 k4 post a0 x2 0 x1 M)) ∧ (¬ (gI M q13 (Int32.toNatClampNeg x2)) = 0 → (B_Po_size_26 k4 post a0 x2 1 x1 M)))))
set_option maxRecDepth 20000 in
theorem Z_Po_size_4 {x : Ctx} {post : Int32 → Mem → Prop} (C : Ok x b_Po_size 3 "HeapTower$Polynomial") (hR : xR x = rm_Po_size) (Rt : RetI x .int post 0 0) {k4 : Nat → Int32 → Int32 → Mem → Prop} (K4 : ∀ (a0 : Nat) (x1 : Int32) (x2 : Int32) (M : Mem), k4 a0 x1 x2 M → J x 3 4 [(0, .ref (xd x a0)), (1, .int x1), (2, .int x2)] [] 0 0 M) (a0 : Nat) (x1 : Int32) (x2 : Int32) (M : Mem) (h : B_Po_size_4 k4 post a0 x1 x2 M) : J x 3 4 [(0, .ref (xd x a0)), (1, .int x1), (2, .int x2)] [] 0 0 M := by
  unfold B_Po_size_4 at h
  refine J_iload_n C 2 D_Po_size_4 rfl rfl ?_
  refine J_sipush (v := 286) C D_Po_size_5 rfl ?_
  refine J_icmp_ge (tgt := 34) C D_Po_size_8 (by decide) (fun c_8 => ?_) (fun c_8 => ?_)
  · have h := h.1 c_8
    refine J_iload_n C 1 D_Po_size_34 rfl rfl ?_
    exact J_iret C Rt D_Po_size_35 rfl h
  · have h := h.2 c_8
    refine J_iload_n C 1 D_Po_size_11 rfl rfl ?_
    refine J_aload_n C 0 D_Po_size_12 rfl rfl ?_
    obtain ⟨c_13, q13, e_13, h⟩ := h
    refine J_getR C fl_Po_9 D_Po_size_13 c_13 e_13 ?_
    refine J_iload_n C 2 D_Po_size_16 rfl rfl ?_
    obtain ⟨c_17, h⟩ := h
    refine J_iald C D_Po_size_17 c_17 ?_
    refine J_if_eq (tgt := 25) C D_Po_size_18 (by decide) (fun c_18 => ?_) (fun c_18 => ?_)
    · have h := h.1 c_18
      refine J_iconst (v := 0) C D_Po_size_25 rfl ?_
      exact J_sub [0, 2] rfl (Z_Po_size_26 C hR Rt K4 _ _ _ _ _ h)
    · have h := h.2 c_18
      refine J_iconst (v := 1) C D_Po_size_21 rfl ?_
      refine J_goto (tgt := 26) C D_Po_size_22 (by decide) ?_
      exact J_sub [0, 2] rfl (Z_Po_size_26 C hR Rt K4 _ _ _ _ _ h)
def L_Po_size_4 (post : Int32 → Mem → Prop) : Nat → Nat → Int32 → Int32 → Mem → Prop
  | 0, _, _, _, _ => False
  | n + 1, a0, x1, x2, M => B_Po_size_4 (L_Po_size_4 post n) post a0 x1 x2 M
theorem Y_Po_size_4 {x : Ctx} {post : Int32 → Mem → Prop} (C : Ok x b_Po_size 3 "HeapTower$Polynomial") (hR : xR x = rm_Po_size) (Rt : RetI x .int post 0 0) : ∀ (n : Nat) (a0 : Nat) (x1 : Int32) (x2 : Int32) (M : Mem), L_Po_size_4 post n a0 x1 x2 M → J x 3 4 [(0, .ref (xd x a0)), (1, .int x1), (2, .int x2)] [] 0 0 M := by
  intro n
  induction n with
  | zero => intro a0 x1 x2 M h; exact h.elim
  | succ n ih => intro a0 x1 x2 M h; exact Z_Po_size_4 C hR Rt ih _ _ _ _ h
def T_Po_size (a0 : Nat) (M : Mem) (post : Int32 → Mem → Prop) : Prop := (∃ n, L_Po_size_4 post n a0 0 0 M)
set_option maxRecDepth 20000 in
theorem S_Po_size {l : Launch} {D : va_G} {B t g : Nat} {d : Nat → Nat} {ac : Nat → ClassId}  (a0 : Nat) (M : Mem) (post : Int32 → Mem → Prop) (h : T_Po_size a0 M post) : Met l y_Po_size w_Po_size rm_Po_size (va_Pc [.ref (d a0)] (PRE D B d g t ac M)) (QI D B d g ac post) 0 0 (AB B) := by
  refine met_i (by decide +kernel) (Nat.le_of_ble_eq_true rfl) (fun x h1 hR h3 h4 h5 h6 h7 h8 C Rt => ?_)
  subst h3 h4 h5 h6 h7 h8
  unfold T_Po_size at h
  show J x 3 0 [(0, .ref (xd x a0))] [] 0 0 M
  refine J_iconst (v := 0) C D_Po_size_0 rfl ?_
  refine J_istore_n (lv' := [(1, .int 0), (0, .ref (xd x a0))]) C 1 D_Po_size_1 rfl (by decide) rfl ?_
  refine J_iconst (v := 0) C D_Po_size_2 rfl ?_
  refine J_istore_n (lv' := [(2, .int 0), (1, .int 0), (0, .ref (xd x a0))]) C 2 D_Po_size_3 rfl (by decide) rfl ?_
  obtain ⟨n, h⟩ := h
  exact J_sub [2, 1, 0] rfl (Y_Po_size_4 C hR Rt  n _ _ _ _ h)
theorem D_Po_sizeOf_0 : decode b_Po_sizeOf 0 = .ok (.iconst 0, 1) := by decide +kernel
theorem D_Po_sizeOf_1 : decode b_Po_sizeOf 1 = .ok (.istore_n 2, 1) := by decide +kernel
theorem D_Po_sizeOf_2 : decode b_Po_sizeOf 2 = .ok (.getstatic 31, 3) := by decide +kernel
theorem D_Po_sizeOf_5 : decode b_Po_sizeOf 5 = .ok (.iload_n 1, 1) := by decide +kernel
theorem D_Po_sizeOf_6 : decode b_Po_sizeOf 6 = .ok (.iaload, 1) := by decide +kernel
theorem D_Po_sizeOf_7 : decode b_Po_sizeOf 7 = .ok (.istore_n 3, 1) := by decide +kernel
theorem D_Po_sizeOf_8 : decode b_Po_sizeOf 8 = .ok (.iload_n 3, 1) := by decide +kernel
theorem D_Po_sizeOf_9 : decode b_Po_sizeOf 9 = .ok (.getstatic 31, 3) := by decide +kernel
theorem D_Po_sizeOf_12 : decode b_Po_sizeOf 12 = .ok (.iload_n 1, 1) := by decide +kernel
theorem D_Po_sizeOf_13 : decode b_Po_sizeOf 13 = .ok (.iconst 1, 1) := by decide +kernel
theorem D_Po_sizeOf_14 : decode b_Po_sizeOf 14 = .ok (.iadd, 1) := by decide +kernel
theorem D_Po_sizeOf_15 : decode b_Po_sizeOf 15 = .ok (.iaload, 1) := by decide +kernel
theorem D_Po_sizeOf_16 : decode b_Po_sizeOf 16 = .ok (.if_icmp .ge 26, 3) := by decide +kernel
theorem D_Po_sizeOf_19 : decode b_Po_sizeOf 19 = .ok (.iload_n 2, 1) := by decide +kernel
theorem D_Po_sizeOf_20 : decode b_Po_sizeOf 20 = .ok (.aload_n 0, 1) := by decide +kernel
theorem D_Po_sizeOf_21 : decode b_Po_sizeOf 21 = .ok (.getfield 9, 3) := by decide +kernel
theorem D_Po_sizeOf_24 : decode b_Po_sizeOf 24 = .ok (.iload_n 3, 1) := by decide +kernel
theorem D_Po_sizeOf_25 : decode b_Po_sizeOf 25 = .ok (.iaload, 1) := by decide +kernel
theorem D_Po_sizeOf_26 : decode b_Po_sizeOf 26 = .ok (.ifCond .eq 7, 3) := by decide +kernel
theorem D_Po_sizeOf_29 : decode b_Po_sizeOf 29 = .ok (.iconst 1, 1) := by decide +kernel
theorem D_Po_sizeOf_30 : decode b_Po_sizeOf 30 = .ok (.goto 4, 3) := by decide +kernel
theorem D_Po_sizeOf_33 : decode b_Po_sizeOf 33 = .ok (.iconst 0, 1) := by decide +kernel
theorem D_Po_sizeOf_34 : decode b_Po_sizeOf 34 = .ok (.iadd, 1) := by decide +kernel
theorem D_Po_sizeOf_35 : decode b_Po_sizeOf 35 = .ok (.istore_n 2, 1) := by decide +kernel
theorem D_Po_sizeOf_36 : decode b_Po_sizeOf 36 = .ok (.iinc 3 1, 3) := by decide +kernel
theorem D_Po_sizeOf_39 : decode b_Po_sizeOf 39 = .ok (.goto (-31), 3) := by decide +kernel
theorem D_Po_sizeOf_42 : decode b_Po_sizeOf 42 = .ok (.iload_n 2, 1) := by decide +kernel
theorem D_Po_sizeOf_43 : decode b_Po_sizeOf 43 = .ok (.ireturn, 1) := by decide +kernel
abbrev rm_Po_sizeOf : Room := { frames := 0, cells := 0, slots := 0, locals := 0 }
def B_Po_sizeOf_34 (k8 : Nat → Int32 → Int32 → Int32 → Mem → Prop) (post : Int32 → Mem → Prop) (a0 : Nat) (x1 : Int32) (x3 : Int32) (s0 : Int32) (s1 : Int32) (M : Mem) : Prop := (k8 a0 x1 (s1 + s0) (x3 + 1) M)
set_option maxRecDepth 20000 in
theorem Z_Po_sizeOf_34 {x : Ctx} {post : Int32 → Mem → Prop} (C : Ok x b_Po_sizeOf 4 "HeapTower$Polynomial") (hR : xR x = rm_Po_sizeOf) (Rt : RetI x .int post 0 0) {k8 : Nat → Int32 → Int32 → Int32 → Mem → Prop} (K8 : ∀ (a0 : Nat) (x1 : Int32) (x2 : Int32) (x3 : Int32) (M : Mem), k8 a0 x1 x2 x3 M → J x 4 8 [(0, .ref (xd x a0)), (1, .int x1), (2, .int x2), (3, .int x3)] [] 0 0 M) (a0 : Nat) (x1 : Int32) (x3 : Int32) (s0 : Int32) (s1 : Int32) (M : Mem) (h : B_Po_sizeOf_34 k8 post a0 x1 x3 s0 s1 M) : J x 4 34 [(0, .ref (xd x a0)), (1, .int x1), (3, .int x3)] [.int s0, .int s1] 0 0 M := by
  unfold B_Po_sizeOf_34 at h
  refine J_iadd C D_Po_sizeOf_34 ?_
  refine J_istore_n (lv' := [(2, .int (s1 + s0)), (0, .ref (xd x a0)), (1, .int x1), (3, .int x3)]) C 2 D_Po_sizeOf_35 rfl (by decide) rfl ?_
  refine J_iinc (v := x3 + 1) (lv' := [(3, .int (x3 + 1)), (2, .int (s1 + s0)), (0, .ref (xd x a0)), (1, .int x1)]) C 3 3 D_Po_sizeOf_36 rfl rfl (by decide) rfl ?_
  refine J_goto (tgt := 8) C D_Po_sizeOf_39 (by decide) ?_
  exact J_sub [2, 3, 1, 0] rfl (K8 _ _ _ _ _ h)
def B_Po_sizeOf_8 (k8 : Nat → Int32 → Int32 → Int32 → Mem → Prop) (post : Int32 → Mem → Prop) (a0 : Nat) (x1 : Int32) (x2 : Int32) (x3 : Int32) (M : Mem) : Prop := (vp_in (x1 + 1) 12 ∧ ((fst (Int32.toNatClampNeg (x1 + 1))) ≤ x3 → (post x2 M)) ∧ (¬ (fst (Int32.toNatClampNeg (x1 + 1))) ≤ x3 → (isK M a0 3 ∧ ∃ q21, gR M a0 1 = some q21 ∧ isA M q21 8 x3 ∧ ((gI M q21 (Int32.toNatClampNeg x3)) = 0 → (B_Po_sizeOf_34 k8 post a0 x1 x3 0 x2 M)) ∧ (¬ (gI M q21 (Int32.toNatClampNeg x3)) = 0 → (B_Po_sizeOf_34 k8 post a0 x1 x3 1 x2 M)))))
set_option maxRecDepth 20000 in
theorem Z_Po_sizeOf_8 {x : Ctx} {post : Int32 → Mem → Prop} (C : Ok x b_Po_sizeOf 4 "HeapTower$Polynomial") (hR : xR x = rm_Po_sizeOf) (Rt : RetI x .int post 0 0) {k8 : Nat → Int32 → Int32 → Int32 → Mem → Prop} (K8 : ∀ (a0 : Nat) (x1 : Int32) (x2 : Int32) (x3 : Int32) (M : Mem), k8 a0 x1 x2 x3 M → J x 4 8 [(0, .ref (xd x a0)), (1, .int x1), (2, .int x2), (3, .int x3)] [] 0 0 M) (a0 : Nat) (x1 : Int32) (x2 : Int32) (x3 : Int32) (M : Mem) (h : B_Po_sizeOf_8 k8 post a0 x1 x2 x3 M) : J x 4 8 [(0, .ref (xd x a0)), (1, .int x1), (2, .int x2), (3, .int x3)] [] 0 0 M := by
  unfold B_Po_sizeOf_8 at h
  refine J_iload_n C 3 D_Po_sizeOf_8 rfl rfl ?_
  refine J_first C (by decide) D_Po_sizeOf_9 ?_
  refine J_iload_n C 1 D_Po_sizeOf_12 rfl rfl ?_
  refine J_iconst (v := 1) C D_Po_sizeOf_13 rfl ?_
  refine J_iadd C D_Po_sizeOf_14 ?_
  obtain ⟨c_15, h⟩ := h
  refine J_fald C D_Po_sizeOf_15 c_15 ?_
  refine J_icmp_ge (tgt := 42) C D_Po_sizeOf_16 (by decide) (fun c_16 => ?_) (fun c_16 => ?_)
  · have h := h.1 c_16
    refine J_iload_n C 2 D_Po_sizeOf_42 rfl rfl ?_
    exact J_iret C Rt D_Po_sizeOf_43 rfl h
  · have h := h.2 c_16
    refine J_iload_n C 2 D_Po_sizeOf_19 rfl rfl ?_
    refine J_aload_n C 0 D_Po_sizeOf_20 rfl rfl ?_
    obtain ⟨c_21, q21, e_21, h⟩ := h
    refine J_getR C fl_Po_9 D_Po_sizeOf_21 c_21 e_21 ?_
    refine J_iload_n C 3 D_Po_sizeOf_24 rfl rfl ?_
    obtain ⟨c_25, h⟩ := h
    refine J_iald C D_Po_sizeOf_25 c_25 ?_
    refine J_if_eq (tgt := 33) C D_Po_sizeOf_26 (by decide) (fun c_26 => ?_) (fun c_26 => ?_)
    · have h := h.1 c_26
      refine J_iconst (v := 0) C D_Po_sizeOf_33 rfl ?_
      exact J_sub [0, 1, 3] rfl (Z_Po_sizeOf_34 C hR Rt K8 _ _ _ _ _ _ h)
    · have h := h.2 c_26
      refine J_iconst (v := 1) C D_Po_sizeOf_29 rfl ?_
      refine J_goto (tgt := 34) C D_Po_sizeOf_30 (by decide) ?_
      exact J_sub [0, 1, 3] rfl (Z_Po_sizeOf_34 C hR Rt K8 _ _ _ _ _ _ h)
def L_Po_sizeOf_8 (post : Int32 → Mem → Prop) : Nat → Nat → Int32 → Int32 → Int32 → Mem → Prop
  | 0, _, _, _, _, _ => False
  | n + 1, a0, x1, x2, x3, M => B_Po_sizeOf_8 (L_Po_sizeOf_8 post n) post a0 x1 x2 x3 M
theorem Y_Po_sizeOf_8 {x : Ctx} {post : Int32 → Mem → Prop} (C : Ok x b_Po_sizeOf 4 "HeapTower$Polynomial") (hR : xR x = rm_Po_sizeOf) (Rt : RetI x .int post 0 0) : ∀ (n : Nat) (a0 : Nat) (x1 : Int32) (x2 : Int32) (x3 : Int32) (M : Mem), L_Po_sizeOf_8 post n a0 x1 x2 x3 M → J x 4 8 [(0, .ref (xd x a0)), (1, .int x1), (2, .int x2), (3, .int x3)] [] 0 0 M := by
  intro n
  induction n with
  | zero => intro a0 x1 x2 x3 M h; exact h.elim
  | succ n ih => intro a0 x1 x2 x3 M h; exact Z_Po_sizeOf_8 C hR Rt ih _ _ _ _ _ h
def T_Po_sizeOf (a0 : Nat) (x1 : Int32) (M : Mem) (post : Int32 → Mem → Prop) : Prop := (vp_in x1 12 ∧ ∃ n, L_Po_sizeOf_8 post n a0 x1 0 (fst (Int32.toNatClampNeg x1)) M)
set_option maxRecDepth 20000 in
theorem S_Po_sizeOf {l : Launch} {D : va_G} {B t g : Nat} {d : Nat → Nat} {ac : Nat → ClassId}  (a0 : Nat) (x1 : Int32) (M : Mem) (post : Int32 → Mem → Prop) (h : T_Po_sizeOf a0 x1 M post) : Met l y_Po_sizeOf w_Po_sizeOf rm_Po_sizeOf (va_Pc [.ref (d a0), .int x1] (PRE D B d g t ac M)) (QI D B d g ac post) 0 0 (AB B) := by
  refine met_i (by decide +kernel) (Nat.le_of_ble_eq_true rfl) (fun x h1 hR h3 h4 h5 h6 h7 h8 C Rt => ?_)
  subst h3 h4 h5 h6 h7 h8
  unfold T_Po_sizeOf at h
  show J x 4 0 [(0, .ref (xd x a0)), (1, .int x1)] [] 0 0 M
  refine J_iconst (v := 0) C D_Po_sizeOf_0 rfl ?_
  refine J_istore_n (lv' := [(2, .int 0), (0, .ref (xd x a0)), (1, .int x1)]) C 2 D_Po_sizeOf_1 rfl (by decide) rfl ?_
  refine J_first C (by decide) D_Po_sizeOf_2 ?_
  refine J_iload_n C 1 D_Po_sizeOf_5 rfl rfl ?_
  obtain ⟨c_6, h⟩ := h
  refine J_fald C D_Po_sizeOf_6 c_6 ?_
  refine J_istore_n (lv' := [(3, .int (fst (Int32.toNatClampNeg x1))), (2, .int 0), (0, .ref (xd x a0)), (1, .int x1)]) C 3 D_Po_sizeOf_7 rfl (by decide) rfl ?_
  obtain ⟨n, h⟩ := h
  exact J_sub [2, 3, 1, 0] rfl (Y_Po_sizeOf_8 C hR Rt  n _ _ _ _ _ h)
theorem D_Po_degree_0 : decode b_Po_degree 0 = .ok (.bipush 10, 2) := by decide +kernel
theorem D_Po_degree_2 : decode b_Po_degree 2 = .ok (.istore_n 1, 1) := by decide +kernel
theorem D_Po_degree_3 : decode b_Po_degree 3 = .ok (.iload_n 1, 1) := by decide +kernel
theorem D_Po_degree_4 : decode b_Po_degree 4 = .ok (.ifCond .lt 17, 3) := by decide +kernel
theorem D_Po_degree_7 : decode b_Po_degree 7 = .ok (.aload_n 0, 1) := by decide +kernel
theorem D_Po_degree_8 : decode b_Po_degree 8 = .ok (.iload_n 1, 1) := by decide +kernel
theorem D_Po_degree_9 : decode b_Po_degree 9 = .ok (.invokevirtual 34, 3) := by decide +kernel
theorem D_Po_degree_12 : decode b_Po_degree 12 = .ok (.ifCond .ne 9, 3) := by decide +kernel
theorem D_Po_degree_15 : decode b_Po_degree 15 = .ok (.iinc 1 (-1), 3) := by decide +kernel
theorem D_Po_degree_18 : decode b_Po_degree 18 = .ok (.goto (-15), 3) := by decide +kernel
theorem D_Po_degree_21 : decode b_Po_degree 21 = .ok (.iload_n 1, 1) := by decide +kernel
theorem D_Po_degree_22 : decode b_Po_degree 22 = .ok (.ireturn, 1) := by decide +kernel
abbrev rm_Po_degree : Room := { frames := 1, cells := 0, slots := 0, locals := 23 }
def B_Po_degree_21 (post : Int32 → Mem → Prop) (x1 : Int32) (M : Mem) : Prop := (post x1 M)
set_option maxRecDepth 20000 in
theorem Z_Po_degree_21 {x : Ctx} {post : Int32 → Mem → Prop} (C : Ok x b_Po_degree 2 "HeapTower$Polynomial") (hR : xR x = rm_Po_degree) (Rt : RetI x .int post 0 0) (x1 : Int32) (M : Mem) (h : B_Po_degree_21 post x1 M) : J x 2 21 [(1, .int x1)] [] 0 0 M := by
  unfold B_Po_degree_21 at h
  refine J_iload_n C 1 D_Po_degree_21 rfl rfl ?_
  exact J_iret C Rt D_Po_degree_22 rfl h
def B_Po_degree_3 (k3 : Nat → Int32 → Mem → Prop) (post : Int32 → Mem → Prop) (a0 : Nat) (x1 : Int32) (M : Mem) : Prop := ((x1 < 0 → (B_Po_degree_21 post x1 M)) ∧ (¬ x1 < 0 → (isK M a0 3 ∧ T_Po_sizeOf a0 x1 M (fun r9 M9 => (¬ r9 = 0 → (B_Po_degree_21 post x1 M9)) ∧ (r9 = 0 → (k3 a0 (x1 + (-1)) M9))))))
set_option maxRecDepth 20000 in
theorem Z_Po_degree_3 {x : Ctx} {post : Int32 → Mem → Prop} (C : Ok x b_Po_degree 2 "HeapTower$Polynomial") (hR : xR x = rm_Po_degree) (Rt : RetI x .int post 0 0) {k3 : Nat → Int32 → Mem → Prop} (K3 : ∀ (a0 : Nat) (x1 : Int32) (M : Mem), k3 a0 x1 M → J x 2 3 [(0, .ref (xd x a0)), (1, .int x1)] [] 0 0 M) (a0 : Nat) (x1 : Int32) (M : Mem) (h : B_Po_degree_3 k3 post a0 x1 M) : J x 2 3 [(0, .ref (xd x a0)), (1, .int x1)] [] 0 0 M := by
  unfold B_Po_degree_3 at h
  refine J_iload_n C 1 D_Po_degree_3 rfl rfl ?_
  refine J_if_lt (tgt := 21) C D_Po_degree_4 (by decide) (fun c_4 => ?_) (fun c_4 => ?_)
  · have h := h.1 c_4
    exact J_sub [1] rfl (Z_Po_degree_21 C hR Rt  _ _ h)
  · have h := h.2 c_4
    refine J_aload_n C 0 D_Po_degree_7 rfl rfl ?_
    refine J_iload_n C 1 D_Po_degree_8 rfl rfl ?_
    obtain ⟨c_9, h⟩ := h
    refine J_callVi C ml_Po_34 (S_Po_sizeOf _ _ _ _ h) (by rw [hR]; decide) rfl c_9 rfl (Nat.le_of_ble_eq_true rfl) D_Po_degree_9 (fun r9 M9 h => ?_)
    refine J_if_ne (tgt := 21) C D_Po_degree_12 (by decide) (fun c_12 => ?_) (fun c_12 => ?_)
    · have h := h.1 c_12
      exact J_sub [1] rfl (Z_Po_degree_21 C hR Rt  _ _ h)
    · have h := h.2 c_12
      refine J_iinc (v := x1 + (-1)) (lv' := [(1, .int (x1 + (-1))), (0, .ref (xd x a0))]) C 1 1 D_Po_degree_15 rfl rfl (by decide) rfl ?_
      refine J_goto (tgt := 3) C D_Po_degree_18 (by decide) ?_
      exact J_sub [1, 0] rfl (K3 _ _ _ h)
def L_Po_degree_3 (post : Int32 → Mem → Prop) : Nat → Nat → Int32 → Mem → Prop
  | 0, _, _, _ => False
  | n + 1, a0, x1, M => B_Po_degree_3 (L_Po_degree_3 post n) post a0 x1 M
theorem Y_Po_degree_3 {x : Ctx} {post : Int32 → Mem → Prop} (C : Ok x b_Po_degree 2 "HeapTower$Polynomial") (hR : xR x = rm_Po_degree) (Rt : RetI x .int post 0 0) : ∀ (n : Nat) (a0 : Nat) (x1 : Int32) (M : Mem), L_Po_degree_3 post n a0 x1 M → J x 2 3 [(0, .ref (xd x a0)), (1, .int x1)] [] 0 0 M := by
  intro n
  induction n with
  | zero => intro a0 x1 M h; exact h.elim
  | succ n ih => intro a0 x1 M h; exact Z_Po_degree_3 C hR Rt ih _ _ _ h
def T_Po_degree (a0 : Nat) (M : Mem) (post : Int32 → Mem → Prop) : Prop := (∃ n, L_Po_degree_3 post n a0 10 M)
set_option maxRecDepth 20000 in
theorem S_Po_degree {l : Launch} {D : va_G} {B t g : Nat} {d : Nat → Nat} {ac : Nat → ClassId}  (a0 : Nat) (M : Mem) (post : Int32 → Mem → Prop) (h : T_Po_degree a0 M post) : Met l y_Po_degree w_Po_degree rm_Po_degree (va_Pc [.ref (d a0)] (PRE D B d g t ac M)) (QI D B d g ac post) 0 0 (AB B) := by
  refine met_i (by decide +kernel) (Nat.le_of_ble_eq_true rfl) (fun x h1 hR h3 h4 h5 h6 h7 h8 C Rt => ?_)
  subst h3 h4 h5 h6 h7 h8
  unfold T_Po_degree at h
  show J x 2 0 [(0, .ref (xd x a0))] [] 0 0 M
  refine J_bipush (v := 10) C D_Po_degree_0 rfl ?_
  refine J_istore_n (lv' := [(1, .int 10), (0, .ref (xd x a0))]) C 1 D_Po_degree_2 rfl (by decide) rfl ?_
  obtain ⟨n, h⟩ := h
  exact J_sub [1, 0] rfl (Y_Po_degree_3 C hR Rt  n _ _ _ h)
theorem D_Po_isEven_0 : decode b_Po_isEven 0 = .ok (.aload_n 0, 1) := by decide +kernel
theorem D_Po_isEven_1 : decode b_Po_isEven 1 = .ok (.invokevirtual 38, 3) := by decide +kernel
theorem D_Po_isEven_4 : decode b_Po_isEven 4 = .ok (.istore_n 1, 1) := by decide +kernel
theorem D_Po_isEven_5 : decode b_Po_isEven 5 = .ok (.iload_n 1, 1) := by decide +kernel
theorem D_Po_isEven_6 : decode b_Po_isEven 6 = .ok (.ifCond .lt 15, 3) := by decide +kernel
theorem D_Po_isEven_9 : decode b_Po_isEven 9 = .ok (.aload_n 0, 1) := by decide +kernel
theorem D_Po_isEven_10 : decode b_Po_isEven 10 = .ok (.iload_n 1, 1) := by decide +kernel
theorem D_Po_isEven_11 : decode b_Po_isEven 11 = .ok (.invokevirtual 34, 3) := by decide +kernel
theorem D_Po_isEven_14 : decode b_Po_isEven 14 = .ok (.aload_n 0, 1) := by decide +kernel
theorem D_Po_isEven_15 : decode b_Po_isEven 15 = .ok (.invokevirtual 42, 3) := by decide +kernel
theorem D_Po_isEven_18 : decode b_Po_isEven 18 = .ok (.if_icmp .ne 7, 3) := by decide +kernel
theorem D_Po_isEven_21 : decode b_Po_isEven 21 = .ok (.iconst 1, 1) := by decide +kernel
theorem D_Po_isEven_22 : decode b_Po_isEven 22 = .ok (.goto 4, 3) := by decide +kernel
theorem D_Po_isEven_25 : decode b_Po_isEven 25 = .ok (.iconst 0, 1) := by decide +kernel
theorem D_Po_isEven_26 : decode b_Po_isEven 26 = .ok (.ireturn, 1) := by decide +kernel
abbrev rm_Po_isEven : Room := { frames := 2, cells := 0, slots := 0, locals := 44 }
def B_Po_isEven_26 (post : Int32 → Mem → Prop) (s0 : Int32) (M : Mem) : Prop := (narrow .boolean (.int s0) = .int s0 ∧ post s0 M)
set_option maxRecDepth 20000 in
theorem Z_Po_isEven_26 {x : Ctx} {post : Int32 → Mem → Prop} (C : Ok x b_Po_isEven 2 "HeapTower$Polynomial") (hR : xR x = rm_Po_isEven) (Rt : RetI x .boolean post 0 0) (s0 : Int32) (M : Mem) (h : B_Po_isEven_26 post s0 M) : J x 2 26 [] [.int s0] 0 0 M := by
  unfold B_Po_isEven_26 at h
  obtain ⟨c_26, h⟩ := h
  exact J_iret C Rt D_Po_isEven_26 c_26 h
def B_Po_isEven_21 (post : Int32 → Mem → Prop) (M : Mem) : Prop := (B_Po_isEven_26 post 1 M)
set_option maxRecDepth 20000 in
theorem Z_Po_isEven_21 {x : Ctx} {post : Int32 → Mem → Prop} (C : Ok x b_Po_isEven 2 "HeapTower$Polynomial") (hR : xR x = rm_Po_isEven) (Rt : RetI x .boolean post 0 0) (M : Mem) (h : B_Po_isEven_21 post M) : J x 2 21 [] [] 0 0 M := by
  unfold B_Po_isEven_21 at h
  refine J_iconst (v := 1) C D_Po_isEven_21 rfl ?_
  refine J_goto (tgt := 26) C D_Po_isEven_22 (by decide) ?_
  exact J_sub [] rfl (Z_Po_isEven_26 C hR Rt  _ _ h)
def T_Po_isEven (a0 : Nat) (M : Mem) (post : Int32 → Mem → Prop) : Prop := (isK M a0 3 ∧ T_Po_degree a0 M (fun r1 M1 => (r1 < 0 → (B_Po_isEven_21 post M1)) ∧ (¬ r1 < 0 → (isK M1 a0 3 ∧ T_Po_sizeOf a0 r1 M1 (fun r11 M11 => isK M11 a0 3 ∧ T_Po_size a0 M11 (fun r15 M15 => (¬ r11 = r15 → (B_Po_isEven_26 post 0 M15)) ∧ (r11 = r15 → (B_Po_isEven_21 post M15))))))))
set_option maxRecDepth 20000 in
theorem S_Po_isEven {l : Launch} {D : va_G} {B t g : Nat} {d : Nat → Nat} {ac : Nat → ClassId}  (a0 : Nat) (M : Mem) (post : Int32 → Mem → Prop) (h : T_Po_isEven a0 M post) : Met l y_Po_isEven w_Po_isEven rm_Po_isEven (va_Pc [.ref (d a0)] (PRE D B d g t ac M)) (QI D B d g ac post) 0 0 (AB B) := by
  refine met_i (by decide +kernel) (Nat.le_of_ble_eq_true rfl) (fun x h1 hR h3 h4 h5 h6 h7 h8 C Rt => ?_)
  subst h3 h4 h5 h6 h7 h8
  unfold T_Po_isEven at h
  show J x 2 0 [(0, .ref (xd x a0))] [] 0 0 M
  refine J_aload_n C 0 D_Po_isEven_0 rfl rfl ?_
  obtain ⟨c_1, h⟩ := h
  refine J_callVi C ml_Po_38 (S_Po_degree _ _ _ h) (by rw [hR]; decide) rfl c_1 rfl (Nat.le_of_ble_eq_true rfl) D_Po_isEven_1 (fun r1 M1 h => ?_)
  refine J_istore_n (lv' := [(1, .int r1), (0, .ref (xd x a0))]) C 1 D_Po_isEven_4 rfl (by decide) rfl ?_
  refine J_iload_n C 1 D_Po_isEven_5 rfl rfl ?_
  refine J_if_lt (tgt := 21) C D_Po_isEven_6 (by decide) (fun c_6 => ?_) (fun c_6 => ?_)
  · have h := h.1 c_6
    exact J_sub [] rfl (Z_Po_isEven_21 C hR Rt  _ h)
  · have h := h.2 c_6
    refine J_aload_n C 0 D_Po_isEven_9 rfl rfl ?_
    refine J_iload_n C 1 D_Po_isEven_10 rfl rfl ?_
    obtain ⟨c_11, h⟩ := h
    refine J_callVi C ml_Po_34 (S_Po_sizeOf _ _ _ _ h) (by rw [hR]; decide) rfl c_11 rfl (Nat.le_of_ble_eq_true rfl) D_Po_isEven_11 (fun r11 M11 h => ?_)
    refine J_aload_n C 0 D_Po_isEven_14 rfl rfl ?_
    obtain ⟨c_15, h⟩ := h
    refine J_callVi C ml_Po_42 (S_Po_size _ _ _ h) (by rw [hR]; decide) rfl c_15 rfl (Nat.le_of_ble_eq_true rfl) D_Po_isEven_15 (fun r15 M15 h => ?_)
    refine J_icmp_ne (tgt := 25) C D_Po_isEven_18 (by decide) (fun c_18 => ?_) (fun c_18 => ?_)
    · have h := h.1 c_18
      refine J_iconst (v := 0) C D_Po_isEven_25 rfl ?_
      exact J_sub [] rfl (Z_Po_isEven_26 C hR Rt  _ _ h)
    · have h := h.2 c_18
      exact J_sub [] rfl (Z_Po_isEven_21 C hR Rt  _ h)
theorem D_Po_headPlace_0 : decode b_Po_headPlace 0 = .ok (.aload_n 0, 1) := by decide +kernel
theorem D_Po_headPlace_1 : decode b_Po_headPlace 1 = .ok (.invokevirtual 38, 3) := by decide +kernel
theorem D_Po_headPlace_4 : decode b_Po_headPlace 4 = .ok (.istore_n 1, 1) := by decide +kernel
theorem D_Po_headPlace_5 : decode b_Po_headPlace 5 = .ok (.iconst 0, 1) := by decide +kernel
theorem D_Po_headPlace_6 : decode b_Po_headPlace 6 = .ok (.istore_n 2, 1) := by decide +kernel
theorem D_Po_headPlace_7 : decode b_Po_headPlace 7 = .ok (.iload_n 1, 1) := by decide +kernel
theorem D_Po_headPlace_8 : decode b_Po_headPlace 8 = .ok (.ifCond .lt 48, 3) := by decide +kernel
theorem D_Po_headPlace_11 : decode b_Po_headPlace 11 = .ok (.iload_n 2, 1) := by decide +kernel
theorem D_Po_headPlace_12 : decode b_Po_headPlace 12 = .ok (.aload_n 0, 1) := by decide +kernel
theorem D_Po_headPlace_13 : decode b_Po_headPlace 13 = .ok (.getfield 15, 3) := by decide +kernel
theorem D_Po_headPlace_16 : decode b_Po_headPlace 16 = .ok (.iload_n 1, 1) := by decide +kernel
theorem D_Po_headPlace_17 : decode b_Po_headPlace 17 = .ok (.invokevirtual 45, 3) := by decide +kernel
theorem D_Po_headPlace_20 : decode b_Po_headPlace 20 = .ok (.if_icmp .ge 36, 3) := by decide +kernel
theorem D_Po_headPlace_23 : decode b_Po_headPlace 23 = .ok (.aload_n 0, 1) := by decide +kernel
theorem D_Po_headPlace_24 : decode b_Po_headPlace 24 = .ok (.iload_n 1, 1) := by decide +kernel
theorem D_Po_headPlace_25 : decode b_Po_headPlace 25 = .ok (.aload_n 0, 1) := by decide +kernel
theorem D_Po_headPlace_26 : decode b_Po_headPlace 26 = .ok (.getfield 15, 3) := by decide +kernel
theorem D_Po_headPlace_29 : decode b_Po_headPlace 29 = .ok (.iload_n 1, 1) := by decide +kernel
theorem D_Po_headPlace_30 : decode b_Po_headPlace 30 = .ok (.iload_n 2, 1) := by decide +kernel
theorem D_Po_headPlace_31 : decode b_Po_headPlace 31 = .ok (.invokevirtual 50, 3) := by decide +kernel
theorem D_Po_headPlace_34 : decode b_Po_headPlace 34 = .ok (.invokevirtual 54, 3) := by decide +kernel
theorem D_Po_headPlace_37 : decode b_Po_headPlace 37 = .ok (.ifCond .eq 13, 3) := by decide +kernel
theorem D_Po_headPlace_40 : decode b_Po_headPlace 40 = .ok (.aload_n 0, 1) := by decide +kernel
theorem D_Po_headPlace_41 : decode b_Po_headPlace 41 = .ok (.getfield 15, 3) := by decide +kernel
theorem D_Po_headPlace_44 : decode b_Po_headPlace 44 = .ok (.iload_n 1, 1) := by decide +kernel
theorem D_Po_headPlace_45 : decode b_Po_headPlace 45 = .ok (.iload_n 2, 1) := by decide +kernel
theorem D_Po_headPlace_46 : decode b_Po_headPlace 46 = .ok (.invokevirtual 50, 3) := by decide +kernel
theorem D_Po_headPlace_49 : decode b_Po_headPlace 49 = .ok (.ireturn, 1) := by decide +kernel
theorem D_Po_headPlace_50 : decode b_Po_headPlace 50 = .ok (.iinc 2 1, 3) := by decide +kernel
theorem D_Po_headPlace_53 : decode b_Po_headPlace 53 = .ok (.goto (-46), 3) := by decide +kernel
theorem D_Po_headPlace_56 : decode b_Po_headPlace 56 = .ok (.iconst (-1), 1) := by decide +kernel
theorem D_Po_headPlace_57 : decode b_Po_headPlace 57 = .ok (.ireturn, 1) := by decide +kernel
abbrev rm_Po_headPlace : Room := { frames := 2, cells := 0, slots := 0, locals := 44 }
def B_Po_headPlace_56 (post : Int32 → Mem → Prop) (M : Mem) : Prop := (post ((-1)) M)
set_option maxRecDepth 20000 in
theorem Z_Po_headPlace_56 {x : Ctx} {post : Int32 → Mem → Prop} (C : Ok x b_Po_headPlace 3 "HeapTower$Polynomial") (hR : xR x = rm_Po_headPlace) (Rt : RetI x .int post 0 0) (M : Mem) (h : B_Po_headPlace_56 post M) : J x 3 56 [] [] 0 0 M := by
  unfold B_Po_headPlace_56 at h
  refine J_iconst (v := (-1)) C D_Po_headPlace_56 rfl ?_
  exact J_iret C Rt D_Po_headPlace_57 rfl h
def B_Po_headPlace_7 (k7 : Nat → Int32 → Int32 → Mem → Prop) (post : Int32 → Mem → Prop) (a0 : Nat) (x1 : Int32) (x2 : Int32) (M : Mem) : Prop := ((x1 < 0 → (B_Po_headPlace_56 post M)) ∧ (¬ x1 < 0 → (isK M a0 3 ∧ ∃ q13, gR M a0 0 = some q13 ∧ isK M q13 4 ∧ T_Pr_amount q13 x1 M (fun r17 M17 => (r17 ≤ x2 → (B_Po_headPlace_56 post M17)) ∧ (¬ r17 ≤ x2 → (isK M17 a0 3 ∧ ∃ q26, gR M17 a0 0 = some q26 ∧ isK M17 q26 4 ∧ T_Pr_at q26 x1 x2 M17 (fun r31 M31 => isK M31 a0 3 ∧ T_Po_numberAt a0 x1 r31 M31 (fun r34 M34 => (r34 = 0 → (k7 a0 x1 (x2 + 1) M34)) ∧ (¬ r34 = 0 → (isK M34 a0 3 ∧ ∃ q41, gR M34 a0 0 = some q41 ∧ isK M34 q41 4 ∧ T_Pr_at q41 x1 x2 M34 (fun r46 M46 => post r46 M46)))))))))))
set_option maxRecDepth 20000 in
theorem Z_Po_headPlace_7 {x : Ctx} {post : Int32 → Mem → Prop} (C : Ok x b_Po_headPlace 3 "HeapTower$Polynomial") (hR : xR x = rm_Po_headPlace) (Rt : RetI x .int post 0 0) {k7 : Nat → Int32 → Int32 → Mem → Prop} (K7 : ∀ (a0 : Nat) (x1 : Int32) (x2 : Int32) (M : Mem), k7 a0 x1 x2 M → J x 3 7 [(0, .ref (xd x a0)), (1, .int x1), (2, .int x2)] [] 0 0 M) (a0 : Nat) (x1 : Int32) (x2 : Int32) (M : Mem) (h : B_Po_headPlace_7 k7 post a0 x1 x2 M) : J x 3 7 [(0, .ref (xd x a0)), (1, .int x1), (2, .int x2)] [] 0 0 M := by
  unfold B_Po_headPlace_7 at h
  refine J_iload_n C 1 D_Po_headPlace_7 rfl rfl ?_
  refine J_if_lt (tgt := 56) C D_Po_headPlace_8 (by decide) (fun c_8 => ?_) (fun c_8 => ?_)
  · have h := h.1 c_8
    exact J_sub [] rfl (Z_Po_headPlace_56 C hR Rt  _ h)
  · have h := h.2 c_8
    refine J_iload_n C 2 D_Po_headPlace_11 rfl rfl ?_
    refine J_aload_n C 0 D_Po_headPlace_12 rfl rfl ?_
    obtain ⟨c_13, q13, e_13, h⟩ := h
    refine J_getR C fl_Po_15 D_Po_headPlace_13 c_13 e_13 ?_
    refine J_iload_n C 1 D_Po_headPlace_16 rfl rfl ?_
    obtain ⟨c_17, h⟩ := h
    refine J_callVi C ml_Po_45 (S_Pr_amount _ _ _ _ h) (by rw [hR]; decide) rfl c_17 rfl (Nat.le_of_ble_eq_true rfl) D_Po_headPlace_17 (fun r17 M17 h => ?_)
    refine J_icmp_ge (tgt := 56) C D_Po_headPlace_20 (by decide) (fun c_20 => ?_) (fun c_20 => ?_)
    · have h := h.1 c_20
      exact J_sub [] rfl (Z_Po_headPlace_56 C hR Rt  _ h)
    · have h := h.2 c_20
      refine J_aload_n C 0 D_Po_headPlace_23 rfl rfl ?_
      refine J_iload_n C 1 D_Po_headPlace_24 rfl rfl ?_
      refine J_aload_n C 0 D_Po_headPlace_25 rfl rfl ?_
      obtain ⟨c_26, q26, e_26, h⟩ := h
      refine J_getR C fl_Po_15 D_Po_headPlace_26 c_26 e_26 ?_
      refine J_iload_n C 1 D_Po_headPlace_29 rfl rfl ?_
      refine J_iload_n C 2 D_Po_headPlace_30 rfl rfl ?_
      obtain ⟨c_31, h⟩ := h
      refine J_callVi C ml_Po_50 (S_Pr_at _ _ _ _ _ h) (by rw [hR]; decide) rfl c_31 rfl (Nat.le_of_ble_eq_true rfl) D_Po_headPlace_31 (fun r31 M31 h => ?_)
      obtain ⟨c_34, h⟩ := h
      refine J_callVi C ml_Po_54 (S_Po_numberAt _ _ _ _ _ h) (by rw [hR]; decide) rfl c_34 rfl (Nat.le_of_ble_eq_true rfl) D_Po_headPlace_34 (fun r34 M34 h => ?_)
      refine J_if_eq (tgt := 50) C D_Po_headPlace_37 (by decide) (fun c_37 => ?_) (fun c_37 => ?_)
      · have h := h.1 c_37
        refine J_iinc (v := x2 + 1) (lv' := [(2, .int (x2 + 1)), (0, .ref (xd x a0)), (1, .int x1)]) C 2 2 D_Po_headPlace_50 rfl rfl (by decide) rfl ?_
        refine J_goto (tgt := 7) C D_Po_headPlace_53 (by decide) ?_
        exact J_sub [1, 2, 0] rfl (K7 _ _ _ _ h)
      · have h := h.2 c_37
        refine J_aload_n C 0 D_Po_headPlace_40 rfl rfl ?_
        obtain ⟨c_41, q41, e_41, h⟩ := h
        refine J_getR C fl_Po_15 D_Po_headPlace_41 c_41 e_41 ?_
        refine J_iload_n C 1 D_Po_headPlace_44 rfl rfl ?_
        refine J_iload_n C 2 D_Po_headPlace_45 rfl rfl ?_
        obtain ⟨c_46, h⟩ := h
        refine J_callVi C ml_Po_50 (S_Pr_at _ _ _ _ _ h) (by rw [hR]; decide) rfl c_46 rfl (Nat.le_of_ble_eq_true rfl) D_Po_headPlace_46 (fun r46 M46 h => ?_)
        exact J_iret C Rt D_Po_headPlace_49 rfl h
def L_Po_headPlace_7 (post : Int32 → Mem → Prop) : Nat → Nat → Int32 → Int32 → Mem → Prop
  | 0, _, _, _, _ => False
  | n + 1, a0, x1, x2, M => B_Po_headPlace_7 (L_Po_headPlace_7 post n) post a0 x1 x2 M
theorem Y_Po_headPlace_7 {x : Ctx} {post : Int32 → Mem → Prop} (C : Ok x b_Po_headPlace 3 "HeapTower$Polynomial") (hR : xR x = rm_Po_headPlace) (Rt : RetI x .int post 0 0) : ∀ (n : Nat) (a0 : Nat) (x1 : Int32) (x2 : Int32) (M : Mem), L_Po_headPlace_7 post n a0 x1 x2 M → J x 3 7 [(0, .ref (xd x a0)), (1, .int x1), (2, .int x2)] [] 0 0 M := by
  intro n
  induction n with
  | zero => intro a0 x1 x2 M h; exact h.elim
  | succ n ih => intro a0 x1 x2 M h; exact Z_Po_headPlace_7 C hR Rt ih _ _ _ _ h
def T_Po_headPlace (a0 : Nat) (M : Mem) (post : Int32 → Mem → Prop) : Prop := (isK M a0 3 ∧ T_Po_degree a0 M (fun r1 M1 => ∃ n, L_Po_headPlace_7 post n a0 r1 0 M1))
set_option maxRecDepth 20000 in
theorem S_Po_headPlace {l : Launch} {D : va_G} {B t g : Nat} {d : Nat → Nat} {ac : Nat → ClassId}  (a0 : Nat) (M : Mem) (post : Int32 → Mem → Prop) (h : T_Po_headPlace a0 M post) : Met l y_Po_headPlace w_Po_headPlace rm_Po_headPlace (va_Pc [.ref (d a0)] (PRE D B d g t ac M)) (QI D B d g ac post) 0 0 (AB B) := by
  refine met_i (by decide +kernel) (Nat.le_of_ble_eq_true rfl) (fun x h1 hR h3 h4 h5 h6 h7 h8 C Rt => ?_)
  subst h3 h4 h5 h6 h7 h8
  unfold T_Po_headPlace at h
  show J x 3 0 [(0, .ref (xd x a0))] [] 0 0 M
  refine J_aload_n C 0 D_Po_headPlace_0 rfl rfl ?_
  obtain ⟨c_1, h⟩ := h
  refine J_callVi C ml_Po_38 (S_Po_degree _ _ _ h) (by rw [hR]; decide) rfl c_1 rfl (Nat.le_of_ble_eq_true rfl) D_Po_headPlace_1 (fun r1 M1 h => ?_)
  refine J_istore_n (lv' := [(1, .int r1), (0, .ref (xd x a0))]) C 1 D_Po_headPlace_4 rfl (by decide) rfl ?_
  refine J_iconst (v := 0) C D_Po_headPlace_5 rfl ?_
  refine J_istore_n (lv' := [(2, .int 0), (1, .int r1), (0, .ref (xd x a0))]) C 2 D_Po_headPlace_6 rfl (by decide) rfl ?_
  obtain ⟨n, h⟩ := h
  exact J_sub [2, 1, 0] rfl (Y_Po_headPlace_7 C hR Rt  n _ _ _ _ h)
theorem D_Po_movePartUp_0 : decode b_Po_movePartUp 0 = .ok (.iconst 0, 1) := by decide +kernel
theorem D_Po_movePartUp_1 : decode b_Po_movePartUp 1 = .ok (.istore 4, 2) := by decide +kernel
theorem D_Po_movePartUp_3 : decode b_Po_movePartUp 3 = .ok (.iload 4, 2) := by decide +kernel
theorem D_Po_movePartUp_5 : decode b_Po_movePartUp 5 = .ok (.aload_n 0, 1) := by decide +kernel
theorem D_Po_movePartUp_6 : decode b_Po_movePartUp 6 = .ok (.getfield 15, 3) := by decide +kernel
theorem D_Po_movePartUp_9 : decode b_Po_movePartUp 9 = .ok (.iload_n 1, 1) := by decide +kernel
theorem D_Po_movePartUp_10 : decode b_Po_movePartUp 10 = .ok (.invokevirtual 45, 3) := by decide +kernel
theorem D_Po_movePartUp_13 : decode b_Po_movePartUp 13 = .ok (.if_icmp .ge 43, 3) := by decide +kernel
theorem D_Po_movePartUp_16 : decode b_Po_movePartUp 16 = .ok (.aload_n 0, 1) := by decide +kernel
theorem D_Po_movePartUp_17 : decode b_Po_movePartUp 17 = .ok (.getfield 15, 3) := by decide +kernel
theorem D_Po_movePartUp_20 : decode b_Po_movePartUp 20 = .ok (.iload_n 1, 1) := by decide +kernel
theorem D_Po_movePartUp_21 : decode b_Po_movePartUp 21 = .ok (.iload 4, 2) := by decide +kernel
theorem D_Po_movePartUp_23 : decode b_Po_movePartUp 23 = .ok (.invokevirtual 50, 3) := by decide +kernel
theorem D_Po_movePartUp_26 : decode b_Po_movePartUp 26 = .ok (.istore 5, 2) := by decide +kernel
theorem D_Po_movePartUp_28 : decode b_Po_movePartUp 28 = .ok (.aload_n 0, 1) := by decide +kernel
theorem D_Po_movePartUp_29 : decode b_Po_movePartUp 29 = .ok (.iload_n 2, 1) := by decide +kernel
theorem D_Po_movePartUp_30 : decode b_Po_movePartUp 30 = .ok (.aload_n 0, 1) := by decide +kernel
theorem D_Po_movePartUp_31 : decode b_Po_movePartUp 31 = .ok (.getfield 15, 3) := by decide +kernel
theorem D_Po_movePartUp_34 : decode b_Po_movePartUp 34 = .ok (.iload 5, 2) := by decide +kernel
theorem D_Po_movePartUp_36 : decode b_Po_movePartUp 36 = .ok (.iload_n 3, 1) := by decide +kernel
theorem D_Po_movePartUp_37 : decode b_Po_movePartUp 37 = .ok (.invokevirtual 64, 3) := by decide +kernel
theorem D_Po_movePartUp_40 : decode b_Po_movePartUp 40 = .ok (.aload_n 0, 1) := by decide +kernel
theorem D_Po_movePartUp_41 : decode b_Po_movePartUp 41 = .ok (.iload_n 1, 1) := by decide +kernel
theorem D_Po_movePartUp_42 : decode b_Po_movePartUp 42 = .ok (.iload 5, 2) := by decide +kernel
theorem D_Po_movePartUp_44 : decode b_Po_movePartUp 44 = .ok (.invokevirtual 54, 3) := by decide +kernel
theorem D_Po_movePartUp_47 : decode b_Po_movePartUp 47 = .ok (.invokevirtual 67, 3) := by decide +kernel
theorem D_Po_movePartUp_50 : decode b_Po_movePartUp 50 = .ok (.iinc 4 1, 3) := by decide +kernel
theorem D_Po_movePartUp_53 : decode b_Po_movePartUp 53 = .ok (.goto (-50), 3) := by decide +kernel
theorem D_Po_movePartUp_56 : decode b_Po_movePartUp 56 = .ok (.return_, 1) := by decide +kernel
abbrev rm_Po_movePartUp : Room := { frames := 2, cells := 0, slots := 0, locals := 43 }
def B_Po_movePartUp_3 (k3 : Nat → Int32 → Int32 → Int32 → Int32 → Mem → Prop) (post : Mem → Prop) (a0 : Nat) (x1 : Int32) (x2 : Int32) (x3 : Int32) (x4 : Int32) (M : Mem) : Prop := (isK M a0 3 ∧ ∃ q6, gR M a0 0 = some q6 ∧ isK M q6 4 ∧ T_Pr_amount q6 x1 M (fun r10 M10 => (r10 ≤ x4 → (post M10)) ∧ (¬ r10 ≤ x4 → (isK M10 a0 3 ∧ ∃ q17, gR M10 a0 0 = some q17 ∧ isK M10 q17 4 ∧ T_Pr_at q17 x1 x4 M10 (fun r23 M23 => isK M23 a0 3 ∧ ∃ q31, gR M23 a0 0 = some q31 ∧ isK M23 q31 4 ∧ T_Pr_together q31 r23 x3 M23 (fun r37 M37 => isK M37 a0 3 ∧ T_Po_numberAt a0 x1 r23 M37 (fun r44 M44 => isK M44 a0 3 ∧ T_Po_setNumber a0 x2 r37 r44 M44 (fun M47 => k3 a0 x1 x2 x3 (x4 + 1) M47))))))))
set_option maxRecDepth 20000 in
theorem Z_Po_movePartUp_3 {x : Ctx} {post : Mem → Prop} (C : Ok x b_Po_movePartUp 6 "HeapTower$Polynomial") (hR : xR x = rm_Po_movePartUp) (Rt : RetV x post 0 0) {k3 : Nat → Int32 → Int32 → Int32 → Int32 → Mem → Prop} (K3 : ∀ (a0 : Nat) (x1 : Int32) (x2 : Int32) (x3 : Int32) (x4 : Int32) (M : Mem), k3 a0 x1 x2 x3 x4 M → J x 6 3 [(0, .ref (xd x a0)), (1, .int x1), (2, .int x2), (3, .int x3), (4, .int x4)] [] 0 0 M) (a0 : Nat) (x1 : Int32) (x2 : Int32) (x3 : Int32) (x4 : Int32) (M : Mem) (h : B_Po_movePartUp_3 k3 post a0 x1 x2 x3 x4 M) : J x 6 3 [(0, .ref (xd x a0)), (1, .int x1), (2, .int x2), (3, .int x3), (4, .int x4)] [] 0 0 M := by
  unfold B_Po_movePartUp_3 at h
  refine J_iload C 4 D_Po_movePartUp_3 rfl ?_
  refine J_aload_n C 0 D_Po_movePartUp_5 rfl rfl ?_
  obtain ⟨c_6, q6, e_6, h⟩ := h
  refine J_getR C fl_Po_15 D_Po_movePartUp_6 c_6 e_6 ?_
  refine J_iload_n C 1 D_Po_movePartUp_9 rfl rfl ?_
  obtain ⟨c_10, h⟩ := h
  refine J_callVi C ml_Po_45 (S_Pr_amount _ _ _ _ h) (by rw [hR]; decide) rfl c_10 rfl (Nat.le_of_ble_eq_true rfl) D_Po_movePartUp_10 (fun r10 M10 h => ?_)
  refine J_icmp_ge (tgt := 56) C D_Po_movePartUp_13 (by decide) (fun c_13 => ?_) (fun c_13 => ?_)
  · have h := h.1 c_13
    exact J_vret C Rt D_Po_movePartUp_56 h
  · have h := h.2 c_13
    refine J_aload_n C 0 D_Po_movePartUp_16 rfl rfl ?_
    obtain ⟨c_17, q17, e_17, h⟩ := h
    refine J_getR C fl_Po_15 D_Po_movePartUp_17 c_17 e_17 ?_
    refine J_iload_n C 1 D_Po_movePartUp_20 rfl rfl ?_
    refine J_iload C 4 D_Po_movePartUp_21 rfl ?_
    obtain ⟨c_23, h⟩ := h
    refine J_callVi C ml_Po_50 (S_Pr_at _ _ _ _ _ h) (by rw [hR]; decide) rfl c_23 rfl (Nat.le_of_ble_eq_true rfl) D_Po_movePartUp_23 (fun r23 M23 h => ?_)
    refine J_istore (lv' := [(5, .int r23), (0, .ref (xd x a0)), (1, .int x1), (2, .int x2), (3, .int x3), (4, .int x4)]) C 5 D_Po_movePartUp_26 (by decide) rfl ?_
    refine J_aload_n C 0 D_Po_movePartUp_28 rfl rfl ?_
    refine J_iload_n C 2 D_Po_movePartUp_29 rfl rfl ?_
    refine J_aload_n C 0 D_Po_movePartUp_30 rfl rfl ?_
    obtain ⟨c_31, q31, e_31, h⟩ := h
    refine J_getR C fl_Po_15 D_Po_movePartUp_31 c_31 e_31 ?_
    refine J_iload C 5 D_Po_movePartUp_34 rfl ?_
    refine J_iload_n C 3 D_Po_movePartUp_36 rfl rfl ?_
    obtain ⟨c_37, h⟩ := h
    refine J_callVi C ml_Po_64 (S_Pr_together _ _ _ _ _ h) (by rw [hR]; decide) rfl c_37 rfl (Nat.le_of_ble_eq_true rfl) D_Po_movePartUp_37 (fun r37 M37 h => ?_)
    refine J_aload_n C 0 D_Po_movePartUp_40 rfl rfl ?_
    refine J_iload_n C 1 D_Po_movePartUp_41 rfl rfl ?_
    refine J_iload C 5 D_Po_movePartUp_42 rfl ?_
    obtain ⟨c_44, h⟩ := h
    refine J_callVi C ml_Po_54 (S_Po_numberAt _ _ _ _ _ h) (by rw [hR]; decide) rfl c_44 rfl (Nat.le_of_ble_eq_true rfl) D_Po_movePartUp_44 (fun r44 M44 h => ?_)
    obtain ⟨c_47, h⟩ := h
    refine J_callVv C ml_Po_67 (S_Po_setNumber _ _ _ _ _ _ h) (by rw [hR]; decide) rfl c_47 rfl (Nat.le_of_ble_eq_true rfl) D_Po_movePartUp_47 (fun M47 h => ?_)
    refine J_iinc (v := x4 + 1) (lv' := [(4, .int (x4 + 1)), (5, .int r23), (0, .ref (xd x a0)), (1, .int x1), (2, .int x2), (3, .int x3)]) C 4 5 D_Po_movePartUp_50 rfl rfl (by decide) rfl ?_
    refine J_goto (tgt := 3) C D_Po_movePartUp_53 (by decide) ?_
    exact J_sub [2, 3, 4, 5, 0] rfl (K3 _ _ _ _ _ _ h)
def L_Po_movePartUp_3 (post : Mem → Prop) : Nat → Nat → Int32 → Int32 → Int32 → Int32 → Mem → Prop
  | 0, _, _, _, _, _, _ => False
  | n + 1, a0, x1, x2, x3, x4, M => B_Po_movePartUp_3 (L_Po_movePartUp_3 post n) post a0 x1 x2 x3 x4 M
theorem Y_Po_movePartUp_3 {x : Ctx} {post : Mem → Prop} (C : Ok x b_Po_movePartUp 6 "HeapTower$Polynomial") (hR : xR x = rm_Po_movePartUp) (Rt : RetV x post 0 0) : ∀ (n : Nat) (a0 : Nat) (x1 : Int32) (x2 : Int32) (x3 : Int32) (x4 : Int32) (M : Mem), L_Po_movePartUp_3 post n a0 x1 x2 x3 x4 M → J x 6 3 [(0, .ref (xd x a0)), (1, .int x1), (2, .int x2), (3, .int x3), (4, .int x4)] [] 0 0 M := by
  intro n
  induction n with
  | zero => intro a0 x1 x2 x3 x4 M h; exact h.elim
  | succ n ih => intro a0 x1 x2 x3 x4 M h; exact Z_Po_movePartUp_3 C hR Rt ih _ _ _ _ _ _ h
def T_Po_movePartUp (a0 : Nat) (x1 : Int32) (x2 : Int32) (x3 : Int32) (M : Mem) (post : Mem → Prop) : Prop := (∃ n, L_Po_movePartUp_3 post n a0 x1 x2 x3 0 M)
set_option maxRecDepth 20000 in
theorem S_Po_movePartUp {l : Launch} {D : va_G} {B t g : Nat} {d : Nat → Nat} {ac : Nat → ClassId}  (a0 : Nat) (x1 : Int32) (x2 : Int32) (x3 : Int32) (M : Mem) (post : Mem → Prop) (h : T_Po_movePartUp a0 x1 x2 x3 M post) : Met l y_Po_movePartUp w_Po_movePartUp rm_Po_movePartUp (va_Pc [.ref (d a0), .int x1, .int x2, .int x3] (PRE D B d g t ac M)) (QV D B d g ac post) 0 0 (AB B) := by
  refine met_v (by decide +kernel) (Nat.le_of_ble_eq_true rfl) (fun x h1 hR h3 h4 h5 h6 h7 h8 C Rt Nm => ?_)
  subst h3 h4 h5 h6 h7 h8
  unfold T_Po_movePartUp at h
  show J x 6 0 [(0, .ref (xd x a0)), (1, .int x1), (2, .int x2), (3, .int x3)] [] 0 0 M
  refine J_iconst (v := 0) C D_Po_movePartUp_0 rfl ?_
  refine J_istore (lv' := [(4, .int 0), (0, .ref (xd x a0)), (1, .int x1), (2, .int x2), (3, .int x3)]) C 4 D_Po_movePartUp_1 (by decide) rfl ?_
  obtain ⟨n, h⟩ := h
  exact J_sub [1, 2, 3, 4, 0] rfl (Y_Po_movePartUp_3 C hR Rt  n _ _ _ _ _ _ h)
theorem D_Po_moveUp_0 : decode b_Po_moveUp 0 = .ok (.bipush 10, 2) := by decide +kernel
theorem D_Po_moveUp_2 : decode b_Po_moveUp 2 = .ok (.istore_n 3, 1) := by decide +kernel
theorem D_Po_moveUp_3 : decode b_Po_moveUp 3 = .ok (.iload_n 1, 1) := by decide +kernel
theorem D_Po_moveUp_4 : decode b_Po_moveUp 4 = .ok (.ifCond .le 47, 3) := by decide +kernel
theorem D_Po_moveUp_7 : decode b_Po_moveUp 7 = .ok (.iload_n 3, 1) := by decide +kernel
theorem D_Po_moveUp_8 : decode b_Po_moveUp 8 = .ok (.ifCond .lt 43, 3) := by decide +kernel
theorem D_Po_moveUp_11 : decode b_Po_moveUp 11 = .ok (.aload_n 0, 1) := by decide +kernel
theorem D_Po_moveUp_12 : decode b_Po_moveUp 12 = .ok (.getfield 9, 3) := by decide +kernel
theorem D_Po_moveUp_15 : decode b_Po_moveUp 15 = .ok (.getstatic 31, 3) := by decide +kernel
theorem D_Po_moveUp_18 : decode b_Po_moveUp 18 = .ok (.iload_n 3, 1) := by decide +kernel
theorem D_Po_moveUp_19 : decode b_Po_moveUp 19 = .ok (.iaload, 1) := by decide +kernel
theorem D_Po_moveUp_20 : decode b_Po_moveUp 20 = .ok (.getstatic 31, 3) := by decide +kernel
theorem D_Po_moveUp_23 : decode b_Po_moveUp 23 = .ok (.iload_n 3, 1) := by decide +kernel
theorem D_Po_moveUp_24 : decode b_Po_moveUp 24 = .ok (.iconst 1, 1) := by decide +kernel
theorem D_Po_moveUp_25 : decode b_Po_moveUp 25 = .ok (.iadd, 1) := by decide +kernel
theorem D_Po_moveUp_26 : decode b_Po_moveUp 26 = .ok (.iaload, 1) := by decide +kernel
theorem D_Po_moveUp_27 : decode b_Po_moveUp 27 = .ok (.iconst 0, 1) := by decide +kernel
theorem D_Po_moveUp_28 : decode b_Po_moveUp 28 = .ok (.invokestatic 57, 3) := by decide +kernel
theorem D_Po_moveUp_31 : decode b_Po_moveUp 31 = .ok (.iload_n 3, 1) := by decide +kernel
theorem D_Po_moveUp_32 : decode b_Po_moveUp 32 = .ok (.iload_n 1, 1) := by decide +kernel
theorem D_Po_moveUp_33 : decode b_Po_moveUp 33 = .ok (.if_icmp .lt 12, 3) := by decide +kernel
theorem D_Po_moveUp_36 : decode b_Po_moveUp 36 = .ok (.aload_n 0, 1) := by decide +kernel
theorem D_Po_moveUp_37 : decode b_Po_moveUp 37 = .ok (.iload_n 3, 1) := by decide +kernel
theorem D_Po_moveUp_38 : decode b_Po_moveUp 38 = .ok (.iload_n 1, 1) := by decide +kernel
theorem D_Po_moveUp_39 : decode b_Po_moveUp 39 = .ok (.isub, 1) := by decide +kernel
theorem D_Po_moveUp_40 : decode b_Po_moveUp 40 = .ok (.iload_n 3, 1) := by decide +kernel
theorem D_Po_moveUp_41 : decode b_Po_moveUp 41 = .ok (.iload_n 2, 1) := by decide +kernel
theorem D_Po_moveUp_42 : decode b_Po_moveUp 42 = .ok (.invokevirtual 60, 3) := by decide +kernel
theorem D_Po_moveUp_45 : decode b_Po_moveUp 45 = .ok (.iinc 3 (-1), 3) := by decide +kernel
theorem D_Po_moveUp_48 : decode b_Po_moveUp 48 = .ok (.goto (-45), 3) := by decide +kernel
theorem D_Po_moveUp_51 : decode b_Po_moveUp 51 = .ok (.return_, 1) := by decide +kernel
abbrev rm_Po_moveUp : Room := { frames := 3, cells := 0, slots := 0, locals := 68 }
def B_Po_moveUp_51 (post : Mem → Prop) (M : Mem) : Prop := (post M)
set_option maxRecDepth 20000 in
theorem Z_Po_moveUp_51 {x : Ctx} {post : Mem → Prop} (C : Ok x b_Po_moveUp 4 "HeapTower$Polynomial") (hR : xR x = rm_Po_moveUp) (Rt : RetV x post 0 0) (M : Mem) (h : B_Po_moveUp_51 post M) : J x 4 51 [] [] 0 0 M := by
  unfold B_Po_moveUp_51 at h
  exact J_vret C Rt D_Po_moveUp_51 h
def B_Po_moveUp_45 (k3 : Nat → Int32 → Int32 → Int32 → Mem → Prop) (post : Mem → Prop) (a0 : Nat) (x1 : Int32) (x2 : Int32) (x3 : Int32) (M : Mem) : Prop := (k3 a0 x1 x2 (x3 + (-1)) M)
set_option maxRecDepth 20000 in
theorem Z_Po_moveUp_45 {x : Ctx} {post : Mem → Prop} (C : Ok x b_Po_moveUp 4 "HeapTower$Polynomial") (hR : xR x = rm_Po_moveUp) (Rt : RetV x post 0 0) {k3 : Nat → Int32 → Int32 → Int32 → Mem → Prop} (K3 : ∀ (a0 : Nat) (x1 : Int32) (x2 : Int32) (x3 : Int32) (M : Mem), k3 a0 x1 x2 x3 M → J x 4 3 [(0, .ref (xd x a0)), (1, .int x1), (2, .int x2), (3, .int x3)] [] 0 0 M) (a0 : Nat) (x1 : Int32) (x2 : Int32) (x3 : Int32) (M : Mem) (h : B_Po_moveUp_45 k3 post a0 x1 x2 x3 M) : J x 4 45 [(0, .ref (xd x a0)), (1, .int x1), (2, .int x2), (3, .int x3)] [] 0 0 M := by
  unfold B_Po_moveUp_45 at h
  refine J_iinc (v := x3 + (-1)) (lv' := [(3, .int (x3 + (-1))), (0, .ref (xd x a0)), (1, .int x1), (2, .int x2)]) C 3 3 D_Po_moveUp_45 rfl rfl (by decide) rfl ?_
  refine J_goto (tgt := 3) C D_Po_moveUp_48 (by decide) ?_
  exact J_sub [1, 2, 3, 0] rfl (K3 _ _ _ _ _ h)
def B_Po_moveUp_3 (k3 : Nat → Int32 → Int32 → Int32 → Mem → Prop) (post : Mem → Prop) (a0 : Nat) (x1 : Int32) (x2 : Int32) (x3 : Int32) (M : Mem) : Prop := ((x1 ≤ 0 → (B_Po_moveUp_51 post M)) ∧ (¬ x1 ≤ 0 → ((x3 < 0 → (B_Po_moveUp_51 post M)) ∧ (¬ x3 < 0 → (isK M a0 3 ∧ ∃ q12, gR M a0 1 = some q12 ∧ vp_in x3 12 ∧ vp_in (x3 + 1) 12 ∧ T_Ar_fill4 q12 (fst (Int32.toNatClampNeg x3)) (fst (Int32.toNatClampNeg (x3 + 1))) 0 M (fun M28 => (x3 < x1 → (B_Po_moveUp_45 k3 post a0 x1 x2 x3 M28)) ∧ (¬ x3 < x1 → (isK M28 a0 3 ∧ T_Po_movePartUp a0 (x3 - x1) x3 x2 M28 (fun M42 => B_Po_moveUp_45 k3 post a0 x1 x2 x3 M42)))))))))
set_option maxRecDepth 20000 in
theorem Z_Po_moveUp_3 {x : Ctx} {post : Mem → Prop} (C : Ok x b_Po_moveUp 4 "HeapTower$Polynomial") (hR : xR x = rm_Po_moveUp) (Rt : RetV x post 0 0) {k3 : Nat → Int32 → Int32 → Int32 → Mem → Prop} (K3 : ∀ (a0 : Nat) (x1 : Int32) (x2 : Int32) (x3 : Int32) (M : Mem), k3 a0 x1 x2 x3 M → J x 4 3 [(0, .ref (xd x a0)), (1, .int x1), (2, .int x2), (3, .int x3)] [] 0 0 M) (a0 : Nat) (x1 : Int32) (x2 : Int32) (x3 : Int32) (M : Mem) (h : B_Po_moveUp_3 k3 post a0 x1 x2 x3 M) : J x 4 3 [(0, .ref (xd x a0)), (1, .int x1), (2, .int x2), (3, .int x3)] [] 0 0 M := by
  unfold B_Po_moveUp_3 at h
  refine J_iload_n C 1 D_Po_moveUp_3 rfl rfl ?_
  refine J_if_le (tgt := 51) C D_Po_moveUp_4 (by decide) (fun c_4 => ?_) (fun c_4 => ?_)
  · have h := h.1 c_4
    exact J_sub [] rfl (Z_Po_moveUp_51 C hR Rt  _ h)
  · have h := h.2 c_4
    refine J_iload_n C 3 D_Po_moveUp_7 rfl rfl ?_
    refine J_if_lt (tgt := 51) C D_Po_moveUp_8 (by decide) (fun c_8 => ?_) (fun c_8 => ?_)
    · have h := h.1 c_8
      exact J_sub [] rfl (Z_Po_moveUp_51 C hR Rt  _ h)
    · have h := h.2 c_8
      refine J_aload_n C 0 D_Po_moveUp_11 rfl rfl ?_
      obtain ⟨c_12, q12, e_12, h⟩ := h
      refine J_getR C fl_Po_9 D_Po_moveUp_12 c_12 e_12 ?_
      refine J_first C (by decide) D_Po_moveUp_15 ?_
      refine J_iload_n C 3 D_Po_moveUp_18 rfl rfl ?_
      obtain ⟨c_19, h⟩ := h
      refine J_fald C D_Po_moveUp_19 c_19 ?_
      refine J_first C (by decide) D_Po_moveUp_20 ?_
      refine J_iload_n C 3 D_Po_moveUp_23 rfl rfl ?_
      refine J_iconst (v := 1) C D_Po_moveUp_24 rfl ?_
      refine J_iadd C D_Po_moveUp_25 ?_
      obtain ⟨c_26, h⟩ := h
      refine J_fald C D_Po_moveUp_26 c_26 ?_
      refine J_iconst (v := 0) C D_Po_moveUp_27 rfl ?_
      refine J_callSv C ml_Po_57 (S_Ar_fill4 _ _ _ _ _ _ h) (by rw [hR]; decide) rfl rfl (Nat.le_of_ble_eq_true rfl) D_Po_moveUp_28 (fun M28 h => ?_)
      refine J_iload_n C 3 D_Po_moveUp_31 rfl rfl ?_
      refine J_iload_n C 1 D_Po_moveUp_32 rfl rfl ?_
      refine J_icmp_lt (tgt := 45) C D_Po_moveUp_33 (by decide) (fun c_33 => ?_) (fun c_33 => ?_)
      · have h := h.1 c_33
        exact J_sub [0, 1, 2, 3] rfl (Z_Po_moveUp_45 C hR Rt K3 _ _ _ _ _ h)
      · have h := h.2 c_33
        refine J_aload_n C 0 D_Po_moveUp_36 rfl rfl ?_
        refine J_iload_n C 3 D_Po_moveUp_37 rfl rfl ?_
        refine J_iload_n C 1 D_Po_moveUp_38 rfl rfl ?_
        refine J_isub C D_Po_moveUp_39 ?_
        refine J_iload_n C 3 D_Po_moveUp_40 rfl rfl ?_
        refine J_iload_n C 2 D_Po_moveUp_41 rfl rfl ?_
        obtain ⟨c_42, h⟩ := h
        refine J_callVv C ml_Po_60 (S_Po_movePartUp _ _ _ _ _ _ h) (by rw [hR]; decide) rfl c_42 rfl (Nat.le_of_ble_eq_true rfl) D_Po_moveUp_42 (fun M42 h => ?_)
        exact J_sub [0, 1, 2, 3] rfl (Z_Po_moveUp_45 C hR Rt K3 _ _ _ _ _ h)
def L_Po_moveUp_3 (post : Mem → Prop) : Nat → Nat → Int32 → Int32 → Int32 → Mem → Prop
  | 0, _, _, _, _, _ => False
  | n + 1, a0, x1, x2, x3, M => B_Po_moveUp_3 (L_Po_moveUp_3 post n) post a0 x1 x2 x3 M
theorem Y_Po_moveUp_3 {x : Ctx} {post : Mem → Prop} (C : Ok x b_Po_moveUp 4 "HeapTower$Polynomial") (hR : xR x = rm_Po_moveUp) (Rt : RetV x post 0 0) : ∀ (n : Nat) (a0 : Nat) (x1 : Int32) (x2 : Int32) (x3 : Int32) (M : Mem), L_Po_moveUp_3 post n a0 x1 x2 x3 M → J x 4 3 [(0, .ref (xd x a0)), (1, .int x1), (2, .int x2), (3, .int x3)] [] 0 0 M := by
  intro n
  induction n with
  | zero => intro a0 x1 x2 x3 M h; exact h.elim
  | succ n ih => intro a0 x1 x2 x3 M h; exact Z_Po_moveUp_3 C hR Rt ih _ _ _ _ _ h
def T_Po_moveUp (a0 : Nat) (x1 : Int32) (x2 : Int32) (M : Mem) (post : Mem → Prop) : Prop := (∃ n, L_Po_moveUp_3 post n a0 x1 x2 10 M)
set_option maxRecDepth 20000 in
theorem S_Po_moveUp {l : Launch} {D : va_G} {B t g : Nat} {d : Nat → Nat} {ac : Nat → ClassId}  (a0 : Nat) (x1 : Int32) (x2 : Int32) (M : Mem) (post : Mem → Prop) (h : T_Po_moveUp a0 x1 x2 M post) : Met l y_Po_moveUp w_Po_moveUp rm_Po_moveUp (va_Pc [.ref (d a0), .int x1, .int x2] (PRE D B d g t ac M)) (QV D B d g ac post) 0 0 (AB B) := by
  refine met_v (by decide +kernel) (Nat.le_of_ble_eq_true rfl) (fun x h1 hR h3 h4 h5 h6 h7 h8 C Rt Nm => ?_)
  subst h3 h4 h5 h6 h7 h8
  unfold T_Po_moveUp at h
  show J x 4 0 [(0, .ref (xd x a0)), (1, .int x1), (2, .int x2)] [] 0 0 M
  refine J_bipush (v := 10) C D_Po_moveUp_0 rfl ?_
  refine J_istore_n (lv' := [(3, .int 10), (0, .ref (xd x a0)), (1, .int x1), (2, .int x2)]) C 3 D_Po_moveUp_2 rfl (by decide) rfl ?_
  obtain ⟨n, h⟩ := h
  exact J_sub [1, 2, 3, 0] rfl (Y_Po_moveUp_3 C hR Rt  n _ _ _ _ _ h)
theorem D_Po_loadPart_0 : decode b_Po_loadPart 0 = .ok (.getstatic 31, 3) := by decide +kernel
theorem D_Po_loadPart_3 : decode b_Po_loadPart 3 = .ok (.iload_n 1, 1) := by decide +kernel
theorem D_Po_loadPart_4 : decode b_Po_loadPart 4 = .ok (.iaload, 1) := by decide +kernel
theorem D_Po_loadPart_5 : decode b_Po_loadPart 5 = .ok (.istore_n 3, 1) := by decide +kernel
theorem D_Po_loadPart_6 : decode b_Po_loadPart 6 = .ok (.aload_n 0, 1) := by decide +kernel
theorem D_Po_loadPart_7 : decode b_Po_loadPart 7 = .ok (.getfield 9, 3) := by decide +kernel
theorem D_Po_loadPart_10 : decode b_Po_loadPart 10 = .ok (.iload_n 3, 1) := by decide +kernel
theorem D_Po_loadPart_11 : decode b_Po_loadPart 11 = .ok (.aload_n 2, 1) := by decide +kernel
theorem D_Po_loadPart_12 : decode b_Po_loadPart 12 = .ok (.iconst 0, 1) := by decide +kernel
theorem D_Po_loadPart_13 : decode b_Po_loadPart 13 = .ok (.getstatic 31, 3) := by decide +kernel
theorem D_Po_loadPart_16 : decode b_Po_loadPart 16 = .ok (.iload_n 1, 1) := by decide +kernel
theorem D_Po_loadPart_17 : decode b_Po_loadPart 17 = .ok (.iconst 1, 1) := by decide +kernel
theorem D_Po_loadPart_18 : decode b_Po_loadPart 18 = .ok (.iadd, 1) := by decide +kernel
theorem D_Po_loadPart_19 : decode b_Po_loadPart 19 = .ok (.iaload, 1) := by decide +kernel
theorem D_Po_loadPart_20 : decode b_Po_loadPart 20 = .ok (.iload_n 3, 1) := by decide +kernel
theorem D_Po_loadPart_21 : decode b_Po_loadPart 21 = .ok (.isub, 1) := by decide +kernel
theorem D_Po_loadPart_22 : decode b_Po_loadPart 22 = .ok (.invokestatic 25, 3) := by decide +kernel
theorem D_Po_loadPart_25 : decode b_Po_loadPart 25 = .ok (.return_, 1) := by decide +kernel
abbrev rm_Po_loadPart : Room := { frames := 1, cells := 0, slots := 0, locals := 40 }
def T_Po_loadPart (a0 : Nat) (x1 : Int32) (a2 : Nat) (M : Mem) (post : Mem → Prop) : Prop := (vp_in x1 12 ∧ isK M a0 3 ∧ ∃ q7, gR M a0 1 = some q7 ∧ vp_in (x1 + 1) 12 ∧ cpOk M q7 (fst (Int32.toNatClampNeg x1)) a2 0 ((fst (Int32.toNatClampNeg (x1 + 1))) - (fst (Int32.toNatClampNeg x1))) ∧ post (cpM M q7 (fst (Int32.toNatClampNeg x1)) a2 0 ((fst (Int32.toNatClampNeg (x1 + 1))) - (fst (Int32.toNatClampNeg x1)))))
set_option maxRecDepth 20000 in
theorem S_Po_loadPart {l : Launch} {D : va_G} {B t g : Nat} {d : Nat → Nat} {ac : Nat → ClassId}  (a0 : Nat) (x1 : Int32) (a2 : Nat) (M : Mem) (post : Mem → Prop) (h : T_Po_loadPart a0 x1 a2 M post) : Met l y_Po_loadPart w_Po_loadPart rm_Po_loadPart (va_Pc [.ref (d a0), .int x1, .ref (d a2)] (PRE D B d g t ac M)) (QV D B d g ac post) 0 0 (AB B) := by
  refine met_v (by decide +kernel) (Nat.le_of_ble_eq_true rfl) (fun x h1 hR h3 h4 h5 h6 h7 h8 C Rt Nm => ?_)
  subst h3 h4 h5 h6 h7 h8
  unfold T_Po_loadPart at h
  show J x 4 0 [(0, .ref (xd x a0)), (1, .int x1), (2, .ref (xd x a2))] [] 0 0 M
  refine J_first C (by decide) D_Po_loadPart_0 ?_
  refine J_iload_n C 1 D_Po_loadPart_3 rfl rfl ?_
  obtain ⟨c_4, h⟩ := h
  refine J_fald C D_Po_loadPart_4 c_4 ?_
  refine J_istore_n (lv' := [(3, .int (fst (Int32.toNatClampNeg x1))), (0, .ref (xd x a0)), (1, .int x1), (2, .ref (xd x a2))]) C 3 D_Po_loadPart_5 rfl (by decide) rfl ?_
  refine J_aload_n C 0 D_Po_loadPart_6 rfl rfl ?_
  obtain ⟨c_7, q7, e_7, h⟩ := h
  refine J_getR C fl_Po_9 D_Po_loadPart_7 c_7 e_7 ?_
  refine J_iload_n C 3 D_Po_loadPart_10 rfl rfl ?_
  refine J_aload_n C 2 D_Po_loadPart_11 rfl rfl ?_
  refine J_iconst (v := 0) C D_Po_loadPart_12 rfl ?_
  refine J_first C (by decide) D_Po_loadPart_13 ?_
  refine J_iload_n C 1 D_Po_loadPart_16 rfl rfl ?_
  refine J_iconst (v := 1) C D_Po_loadPart_17 rfl ?_
  refine J_iadd C D_Po_loadPart_18 ?_
  obtain ⟨c_19, h⟩ := h
  refine J_fald C D_Po_loadPart_19 c_19 ?_
  refine J_iload_n C 3 D_Po_loadPart_20 rfl rfl ?_
  refine J_isub C D_Po_loadPart_21 ?_
  obtain ⟨c_22, h⟩ := h
  refine J_copy C kc_Po_25 D_Po_loadPart_22 (by rw [hR]; decide) (Nat.le_of_ble_eq_true rfl) c_22 ?_
  exact J_vret C Rt D_Po_loadPart_25 h
theorem D_Po_setPart_0 : decode b_Po_setPart 0 = .ok (.getstatic 31, 3) := by decide +kernel
theorem D_Po_setPart_3 : decode b_Po_setPart 3 = .ok (.iload_n 1, 1) := by decide +kernel
theorem D_Po_setPart_4 : decode b_Po_setPart 4 = .ok (.iaload, 1) := by decide +kernel
theorem D_Po_setPart_5 : decode b_Po_setPart 5 = .ok (.istore_n 3, 1) := by decide +kernel
theorem D_Po_setPart_6 : decode b_Po_setPart 6 = .ok (.aload_n 2, 1) := by decide +kernel
theorem D_Po_setPart_7 : decode b_Po_setPart 7 = .ok (.iconst 0, 1) := by decide +kernel
theorem D_Po_setPart_8 : decode b_Po_setPart 8 = .ok (.aload_n 0, 1) := by decide +kernel
theorem D_Po_setPart_9 : decode b_Po_setPart 9 = .ok (.getfield 9, 3) := by decide +kernel
theorem D_Po_setPart_12 : decode b_Po_setPart 12 = .ok (.iload_n 3, 1) := by decide +kernel
theorem D_Po_setPart_13 : decode b_Po_setPart 13 = .ok (.getstatic 31, 3) := by decide +kernel
theorem D_Po_setPart_16 : decode b_Po_setPart 16 = .ok (.iload_n 1, 1) := by decide +kernel
theorem D_Po_setPart_17 : decode b_Po_setPart 17 = .ok (.iconst 1, 1) := by decide +kernel
theorem D_Po_setPart_18 : decode b_Po_setPart 18 = .ok (.iadd, 1) := by decide +kernel
theorem D_Po_setPart_19 : decode b_Po_setPart 19 = .ok (.iaload, 1) := by decide +kernel
theorem D_Po_setPart_20 : decode b_Po_setPart 20 = .ok (.iload_n 3, 1) := by decide +kernel
theorem D_Po_setPart_21 : decode b_Po_setPart 21 = .ok (.isub, 1) := by decide +kernel
theorem D_Po_setPart_22 : decode b_Po_setPart 22 = .ok (.invokestatic 25, 3) := by decide +kernel
theorem D_Po_setPart_25 : decode b_Po_setPart 25 = .ok (.return_, 1) := by decide +kernel
abbrev rm_Po_setPart : Room := { frames := 1, cells := 0, slots := 0, locals := 40 }
def T_Po_setPart (a0 : Nat) (x1 : Int32) (a2 : Nat) (M : Mem) (post : Mem → Prop) : Prop := (vp_in x1 12 ∧ isK M a0 3 ∧ ∃ q9, gR M a0 1 = some q9 ∧ vp_in (x1 + 1) 12 ∧ cpOk M a2 0 q9 (fst (Int32.toNatClampNeg x1)) ((fst (Int32.toNatClampNeg (x1 + 1))) - (fst (Int32.toNatClampNeg x1))) ∧ post (cpM M a2 0 q9 (fst (Int32.toNatClampNeg x1)) ((fst (Int32.toNatClampNeg (x1 + 1))) - (fst (Int32.toNatClampNeg x1)))))
set_option maxRecDepth 20000 in
theorem S_Po_setPart {l : Launch} {D : va_G} {B t g : Nat} {d : Nat → Nat} {ac : Nat → ClassId}  (a0 : Nat) (x1 : Int32) (a2 : Nat) (M : Mem) (post : Mem → Prop) (h : T_Po_setPart a0 x1 a2 M post) : Met l y_Po_setPart w_Po_setPart rm_Po_setPart (va_Pc [.ref (d a0), .int x1, .ref (d a2)] (PRE D B d g t ac M)) (QV D B d g ac post) 0 0 (AB B) := by
  refine met_v (by decide +kernel) (Nat.le_of_ble_eq_true rfl) (fun x h1 hR h3 h4 h5 h6 h7 h8 C Rt Nm => ?_)
  subst h3 h4 h5 h6 h7 h8
  unfold T_Po_setPart at h
  show J x 4 0 [(0, .ref (xd x a0)), (1, .int x1), (2, .ref (xd x a2))] [] 0 0 M
  refine J_first C (by decide) D_Po_setPart_0 ?_
  refine J_iload_n C 1 D_Po_setPart_3 rfl rfl ?_
  obtain ⟨c_4, h⟩ := h
  refine J_fald C D_Po_setPart_4 c_4 ?_
  refine J_istore_n (lv' := [(3, .int (fst (Int32.toNatClampNeg x1))), (0, .ref (xd x a0)), (1, .int x1), (2, .ref (xd x a2))]) C 3 D_Po_setPart_5 rfl (by decide) rfl ?_
  refine J_aload_n C 2 D_Po_setPart_6 rfl rfl ?_
  refine J_iconst (v := 0) C D_Po_setPart_7 rfl ?_
  refine J_aload_n C 0 D_Po_setPart_8 rfl rfl ?_
  obtain ⟨c_9, q9, e_9, h⟩ := h
  refine J_getR C fl_Po_9 D_Po_setPart_9 c_9 e_9 ?_
  refine J_iload_n C 3 D_Po_setPart_12 rfl rfl ?_
  refine J_first C (by decide) D_Po_setPart_13 ?_
  refine J_iload_n C 1 D_Po_setPart_16 rfl rfl ?_
  refine J_iconst (v := 1) C D_Po_setPart_17 rfl ?_
  refine J_iadd C D_Po_setPart_18 ?_
  obtain ⟨c_19, h⟩ := h
  refine J_fald C D_Po_setPart_19 c_19 ?_
  refine J_iload_n C 3 D_Po_setPart_20 rfl rfl ?_
  refine J_isub C D_Po_setPart_21 ?_
  obtain ⟨c_22, h⟩ := h
  refine J_copy C kc_Po_25 D_Po_setPart_22 (by rw [hR]; decide) (Nat.le_of_ble_eq_true rfl) c_22 ?_
  exact J_vret C Rt D_Po_setPart_25 h
theorem D_Po_become_0 : decode b_Po_become 0 = .ok (.aload_n 1, 1) := by decide +kernel
theorem D_Po_become_1 : decode b_Po_become 1 = .ok (.getfield 9, 3) := by decide +kernel
theorem D_Po_become_4 : decode b_Po_become 4 = .ok (.iconst 0, 1) := by decide +kernel
theorem D_Po_become_5 : decode b_Po_become 5 = .ok (.aload_n 0, 1) := by decide +kernel
theorem D_Po_become_6 : decode b_Po_become 6 = .ok (.getfield 9, 3) := by decide +kernel
theorem D_Po_become_9 : decode b_Po_become 9 = .ok (.iconst 0, 1) := by decide +kernel
theorem D_Po_become_10 : decode b_Po_become 10 = .ok (.sipush 286, 3) := by decide +kernel
theorem D_Po_become_13 : decode b_Po_become 13 = .ok (.invokestatic 25, 3) := by decide +kernel
theorem D_Po_become_16 : decode b_Po_become 16 = .ok (.return_, 1) := by decide +kernel
abbrev rm_Po_become : Room := { frames := 1, cells := 0, slots := 0, locals := 40 }
def T_Po_become (a0 : Nat) (a1 : Nat) (M : Mem) (post : Mem → Prop) : Prop := (isK M a1 3 ∧ ∃ q1, gR M a1 1 = some q1 ∧ isK M a0 3 ∧ ∃ q6, gR M a0 1 = some q6 ∧ cpOk M q1 0 q6 0 286 ∧ post (cpM M q1 0 q6 0 286))
set_option maxRecDepth 20000 in
theorem S_Po_become {l : Launch} {D : va_G} {B t g : Nat} {d : Nat → Nat} {ac : Nat → ClassId}  (a0 : Nat) (a1 : Nat) (M : Mem) (post : Mem → Prop) (h : T_Po_become a0 a1 M post) : Met l y_Po_become w_Po_become rm_Po_become (va_Pc [.ref (d a0), .ref (d a1)] (PRE D B d g t ac M)) (QV D B d g ac post) 0 0 (AB B) := by
  refine met_v (by decide +kernel) (Nat.le_of_ble_eq_true rfl) (fun x h1 hR h3 h4 h5 h6 h7 h8 C Rt Nm => ?_)
  subst h3 h4 h5 h6 h7 h8
  unfold T_Po_become at h
  show J x 2 0 [(0, .ref (xd x a0)), (1, .ref (xd x a1))] [] 0 0 M
  refine J_aload_n C 1 D_Po_become_0 rfl rfl ?_
  obtain ⟨c_1, q1, e_1, h⟩ := h
  refine J_getR C fl_Po_9 D_Po_become_1 c_1 e_1 ?_
  refine J_iconst (v := 0) C D_Po_become_4 rfl ?_
  refine J_aload_n C 0 D_Po_become_5 rfl rfl ?_
  obtain ⟨c_6, q6, e_6, h⟩ := h
  refine J_getR C fl_Po_9 D_Po_become_6 c_6 e_6 ?_
  refine J_iconst (v := 0) C D_Po_become_9 rfl ?_
  refine J_sipush (v := 286) C D_Po_become_10 rfl ?_
  obtain ⟨c_13, h⟩ := h
  refine J_copy C kc_Po_25 D_Po_become_13 (by rw [hR]; decide) (Nat.le_of_ble_eq_true rfl) c_13 ?_
  exact J_vret C Rt D_Po_become_16 h
