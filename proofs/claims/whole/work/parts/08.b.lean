theorem fl_Pr_9 : Fld "HeapTower$Products" 9 4 0 false true := ⟨R_Pr, F_Pr, 6, t_Pr, iw_Pr, rfl, by decide, rfl, rfl, by decide, rfl, (gw_in (List.mem_of_getElem? (i := 109) (by decide +kernel)) (by decide +kernel)), t_Pr_ok, n_Pr, rfl, (fun h => by cases h), fun _ => Or.inr ⟨_, rfl⟩⟩
theorem fl_Pr_15 : Fld "HeapTower$Products" 15 4 1 false true := ⟨R_Pr, F_Pr, 6, t_Pr, iw_Pr, rfl, by decide, rfl, rfl, by decide, rfl, (gw_in (List.mem_of_getElem? (i := 111) (by decide +kernel)) (by decide +kernel)), t_Pr_ok, n_Pr, rfl, (fun h => by cases h), fun _ => Or.inr ⟨_, rfl⟩⟩
theorem fl_Pr_18 : Fld "HeapTower$Products" 18 4 2 false true := ⟨R_Pr, F_Pr, 6, t_Pr, iw_Pr, rfl, by decide, rfl, rfl, by decide, rfl, (gw_in (List.mem_of_getElem? (i := 113) (by decide +kernel)) (by decide +kernel)), t_Pr_ok, n_Pr, rfl, (fun h => by cases h), fun _ => Or.inr ⟨_, rfl⟩⟩
theorem fl_Pr_21 : Fld "HeapTower$Products" 21 4 3 false true := ⟨R_Pr, F_Pr, 6, t_Pr, iw_Pr, rfl, by decide, rfl, rfl, by decide, rfl, (gw_in (List.mem_of_getElem? (i := 114) (by decide +kernel)) (by decide +kernel)), t_Pr_ok, n_Pr, rfl, (fun h => by cases h), fun _ => Or.inr ⟨_, rfl⟩⟩
theorem fl_Pr_32 : Fld "HeapTower$Products" 32 4 4 true false := ⟨R_Pr, F_Pr, 6, t_Pr, iw_Pr, rfl, by decide, rfl, rfl, by decide, rfl, (gw_in (List.mem_of_getElem? (i := 115) (by decide +kernel)) (by decide +kernel)), t_Pr_ok, n_Pr, rfl, fun _ => rfl, (fun h => by cases h)⟩
theorem fl_Pr_36 : Fld "HeapTower$Products" 36 4 5 true false := ⟨R_Pr, F_Pr, 6, t_Pr, iw_Pr, rfl, by decide, rfl, rfl, by decide, rfl, (gw_in (List.mem_of_getElem? (i := 116) (by decide +kernel)) (by decide +kernel)), t_Pr_ok, n_Pr, rfl, fun _ => rfl, (fun h => by cases h)⟩
theorem ml_Pr_24 : MLS "HeapTower$Products" 24 y_Pr_place b_Pr_place 2 (some .int) 2 := ⟨List.forall_mem_cons.mpr ⟨(gw_in (List.mem_of_getElem? (i := 92) (by decide +kernel)) (by decide +kernel)), List.forall_mem_cons.mpr ⟨(gw_in (List.mem_of_getElem? (i := 93) (by decide +kernel)) (by decide +kernel)), List.forall_mem_cons.mpr ⟨(gw_in (List.mem_of_getElem? (i := 68) (by decide +kernel)) (by decide +kernel)), List.forall_mem_cons.mpr ⟨(gw_in (List.mem_of_getElem? (i := 94) (by decide +kernel)) (by decide +kernel)), fun _ h => absurd h List.not_mem_nil⟩⟩⟩⟩, by decide⟩
theorem ml_Pr_39 : MLV "HeapTower$Products" 39 y_Pr_lineByLast b_Pr_lineByLast 5 (some .int) 1 4 := ⟨List.forall_mem_cons.mpr ⟨(gw_in (List.mem_of_getElem? (i := 99) (by decide +kernel)) (by decide +kernel)), List.forall_mem_cons.mpr ⟨(gw_in (List.mem_of_getElem? (i := 101) (by decide +kernel)) (by decide +kernel)), List.forall_mem_cons.mpr ⟨(gw_in (List.mem_of_getElem? (i := 0) (by decide +kernel)) (by decide +kernel)), List.forall_mem_cons.mpr ⟨(gw_in (List.mem_of_getElem? (i := 68) (by decide +kernel)) (by decide +kernel)), List.forall_mem_cons.mpr ⟨(gw_in (List.mem_of_getElem? (i := 102) (by decide +kernel)) (by decide +kernel)), fun _ h => absurd h List.not_mem_nil⟩⟩⟩⟩⟩, by decide, F_Pr, 6, rfl, by decide⟩
theorem ml_Pr_43 : MLV "HeapTower$Products" 43 y_Pr_lineByFirst b_Pr_lineByFirst 5 (some .int) 1 4 := ⟨List.forall_mem_cons.mpr ⟨(gw_in (List.mem_of_getElem? (i := 105) (by decide +kernel)) (by decide +kernel)), List.forall_mem_cons.mpr ⟨(gw_in (List.mem_of_getElem? (i := 107) (by decide +kernel)) (by decide +kernel)), List.forall_mem_cons.mpr ⟨(gw_in (List.mem_of_getElem? (i := 1) (by decide +kernel)) (by decide +kernel)), List.forall_mem_cons.mpr ⟨(gw_in (List.mem_of_getElem? (i := 68) (by decide +kernel)) (by decide +kernel)), List.forall_mem_cons.mpr ⟨(gw_in (List.mem_of_getElem? (i := 108) (by decide +kernel)) (by decide +kernel)), fun _ h => absurd h List.not_mem_nil⟩⟩⟩⟩⟩, by decide, F_Pr, 6, rfl, by decide⟩
theorem ml_Pr_49 : MLV "HeapTower$Products" 49 y_Pr_at b_Pr_at 3 (some .int) 2 4 := ⟨List.forall_mem_cons.mpr ⟨(gw_in (List.mem_of_getElem? (i := 638) (by decide +kernel)) (by decide +kernel)), List.forall_mem_cons.mpr ⟨(gw_in (List.mem_of_getElem? (i := 429) (by decide +kernel)) (by decide +kernel)), List.forall_mem_cons.mpr ⟨(gw_in (List.mem_of_getElem? (i := 430) (by decide +kernel)) (by decide +kernel)), List.forall_mem_cons.mpr ⟨(gw_in (List.mem_of_getElem? (i := 68) (by decide +kernel)) (by decide +kernel)), List.forall_mem_cons.mpr ⟨(gw_in (List.mem_of_getElem? (i := 431) (by decide +kernel)) (by decide +kernel)), fun _ h => absurd h List.not_mem_nil⟩⟩⟩⟩⟩, by decide, F_Pr, 6, rfl, by decide⟩
theorem D_Pr_place_0 : decode b_Pr_place 0 = .ok (.iload_n 0, 1) := by decide +kernel
theorem D_Pr_place_1 : decode b_Pr_place 1 = .ok (.iload_n 1, 1) := by decide +kernel
theorem D_Pr_place_2 : decode b_Pr_place 2 = .ok (.iadd, 1) := by decide +kernel
theorem D_Pr_place_3 : decode b_Pr_place 3 = .ok (.iload_n 0, 1) := by decide +kernel
theorem D_Pr_place_4 : decode b_Pr_place 4 = .ok (.iload_n 1, 1) := by decide +kernel
theorem D_Pr_place_5 : decode b_Pr_place 5 = .ok (.iadd, 1) := by decide +kernel
theorem D_Pr_place_6 : decode b_Pr_place 6 = .ok (.iconst 1, 1) := by decide +kernel
theorem D_Pr_place_7 : decode b_Pr_place 7 = .ok (.iadd, 1) := by decide +kernel
theorem D_Pr_place_8 : decode b_Pr_place 8 = .ok (.imul, 1) := by decide +kernel
theorem D_Pr_place_9 : decode b_Pr_place 9 = .ok (.iconst 2, 1) := by decide +kernel
theorem D_Pr_place_10 : decode b_Pr_place 10 = .ok (.idiv, 1) := by decide +kernel
theorem D_Pr_place_11 : decode b_Pr_place 11 = .ok (.iload_n 1, 1) := by decide +kernel
theorem D_Pr_place_12 : decode b_Pr_place 12 = .ok (.iadd, 1) := by decide +kernel
theorem D_Pr_place_13 : decode b_Pr_place 13 = .ok (.ireturn, 1) := by decide +kernel
abbrev rm_Pr_place : Room := { frames := 0, cells := 0, slots := 0, locals := 0 }
def T_Pr_place (x0 : Int32) (x1 : Int32) (M : Mem) (post : Int32 → Mem → Prop) : Prop := (¬ (2 : Int32) = 0 ∧ post ((((x0 + x1) * ((x0 + x1) + 1)) / 2) + x1) M)
set_option maxRecDepth 20000 in
theorem S_Pr_place {l : Launch} {D : va_G} {B t g : Nat} {d : Nat → Nat} {ac : Nat → ClassId}  (x0 : Int32) (x1 : Int32) (M : Mem) (post : Int32 → Mem → Prop) (h : T_Pr_place x0 x1 M post) : Met l y_Pr_place w_Pr_place rm_Pr_place (va_Pc [.int x0, .int x1] (PRE D B d g t ac M)) (QI D B d g ac post) 0 0 (AB B) := by
  refine met_i (by decide +kernel) (Nat.le_of_ble_eq_true rfl) (fun x h1 hR h3 h4 h5 h6 h7 h8 C Rt => ?_)
  subst h3 h4 h5 h6 h7 h8
  unfold T_Pr_place at h
  show J x 2 0 [(0, .int x0), (1, .int x1)] [] 0 0 M
  refine J_iload_n C 0 D_Pr_place_0 rfl rfl ?_
  refine J_iload_n C 1 D_Pr_place_1 rfl rfl ?_
  refine J_iadd C D_Pr_place_2 ?_
  refine J_iload_n C 0 D_Pr_place_3 rfl rfl ?_
  refine J_iload_n C 1 D_Pr_place_4 rfl rfl ?_
  refine J_iadd C D_Pr_place_5 ?_
  refine J_iconst (v := 1) C D_Pr_place_6 rfl ?_
  refine J_iadd C D_Pr_place_7 ?_
  refine J_imul C D_Pr_place_8 ?_
  refine J_iconst (v := 2) C D_Pr_place_9 rfl ?_
  obtain ⟨c_10, h⟩ := h
  refine J_idiv C D_Pr_place_10 c_10 ?_
  refine J_iload_n C 1 D_Pr_place_11 rfl rfl ?_
  refine J_iadd C D_Pr_place_12 ?_
  exact J_iret C Rt D_Pr_place_13 rfl h
theorem D_Pr_lineByLast_0 : decode b_Pr_lineByLast 0 = .ok (.iconst 0, 1) := by decide +kernel
theorem D_Pr_lineByLast_1 : decode b_Pr_lineByLast 1 = .ok (.istore_n 2, 1) := by decide +kernel
theorem D_Pr_lineByLast_2 : decode b_Pr_lineByLast 2 = .ok (.iconst 0, 1) := by decide +kernel
theorem D_Pr_lineByLast_3 : decode b_Pr_lineByLast 3 = .ok (.istore_n 3, 1) := by decide +kernel
theorem D_Pr_lineByLast_4 : decode b_Pr_lineByLast 4 = .ok (.iload_n 3, 1) := by decide +kernel
theorem D_Pr_lineByLast_5 : decode b_Pr_lineByLast 5 = .ok (.aload_n 0, 1) := by decide +kernel
theorem D_Pr_lineByLast_6 : decode b_Pr_lineByLast 6 = .ok (.getfield 32, 3) := by decide +kernel
theorem D_Pr_lineByLast_9 : decode b_Pr_lineByLast 9 = .ok (.iconst 2, 1) := by decide +kernel
theorem D_Pr_lineByLast_10 : decode b_Pr_lineByLast 10 = .ok (.if_icmp .le 7, 3) := by decide +kernel
theorem D_Pr_lineByLast_13 : decode b_Pr_lineByLast 13 = .ok (.iload_n 1, 1) := by decide +kernel
theorem D_Pr_lineByLast_14 : decode b_Pr_lineByLast 14 = .ok (.goto 4, 3) := by decide +kernel
theorem D_Pr_lineByLast_17 : decode b_Pr_lineByLast 17 = .ok (.iconst 0, 1) := by decide +kernel
theorem D_Pr_lineByLast_18 : decode b_Pr_lineByLast 18 = .ok (.if_icmp .gt 59, 3) := by decide +kernel
theorem D_Pr_lineByLast_21 : decode b_Pr_lineByLast 21 = .ok (.iconst 0, 1) := by decide +kernel
theorem D_Pr_lineByLast_22 : decode b_Pr_lineByLast 22 = .ok (.istore 4, 2) := by decide +kernel
theorem D_Pr_lineByLast_24 : decode b_Pr_lineByLast 24 = .ok (.iload 4, 2) := by decide +kernel
theorem D_Pr_lineByLast_26 : decode b_Pr_lineByLast 26 = .ok (.aload_n 0, 1) := by decide +kernel
theorem D_Pr_lineByLast_27 : decode b_Pr_lineByLast 27 = .ok (.getfield 32, 3) := by decide +kernel
theorem D_Pr_lineByLast_30 : decode b_Pr_lineByLast 30 = .ok (.iconst 1, 1) := by decide +kernel
theorem D_Pr_lineByLast_31 : decode b_Pr_lineByLast 31 = .ok (.if_icmp .le 9, 3) := by decide +kernel
theorem D_Pr_lineByLast_34 : decode b_Pr_lineByLast 34 = .ok (.iload_n 1, 1) := by decide +kernel
theorem D_Pr_lineByLast_35 : decode b_Pr_lineByLast 35 = .ok (.iload_n 3, 1) := by decide +kernel
theorem D_Pr_lineByLast_36 : decode b_Pr_lineByLast 36 = .ok (.isub, 1) := by decide +kernel
theorem D_Pr_lineByLast_37 : decode b_Pr_lineByLast 37 = .ok (.goto 4, 3) := by decide +kernel
theorem D_Pr_lineByLast_40 : decode b_Pr_lineByLast 40 = .ok (.iconst 0, 1) := by decide +kernel
theorem D_Pr_lineByLast_41 : decode b_Pr_lineByLast 41 = .ok (.if_icmp .gt 30, 3) := by decide +kernel
theorem D_Pr_lineByLast_44 : decode b_Pr_lineByLast 44 = .ok (.aload_n 0, 1) := by decide +kernel
theorem D_Pr_lineByLast_45 : decode b_Pr_lineByLast 45 = .ok (.getfield 18, 3) := by decide +kernel
theorem D_Pr_lineByLast_48 : decode b_Pr_lineByLast 48 = .ok (.getstatic 46, 3) := by decide +kernel
theorem D_Pr_lineByLast_51 : decode b_Pr_lineByLast 51 = .ok (.iload_n 1, 1) := by decide +kernel
theorem D_Pr_lineByLast_52 : decode b_Pr_lineByLast 52 = .ok (.iaload, 1) := by decide +kernel
theorem D_Pr_lineByLast_53 : decode b_Pr_lineByLast 53 = .ok (.iload_n 2, 1) := by decide +kernel
theorem D_Pr_lineByLast_54 : decode b_Pr_lineByLast 54 = .ok (.iadd, 1) := by decide +kernel
theorem D_Pr_lineByLast_55 : decode b_Pr_lineByLast 55 = .ok (.iload 4, 2) := by decide +kernel
theorem D_Pr_lineByLast_57 : decode b_Pr_lineByLast 57 = .ok (.iload_n 3, 1) := by decide +kernel
theorem D_Pr_lineByLast_58 : decode b_Pr_lineByLast 58 = .ok (.invokestatic 24, 3) := by decide +kernel
theorem D_Pr_lineByLast_61 : decode b_Pr_lineByLast 61 = .ok (.iastore, 1) := by decide +kernel
theorem D_Pr_lineByLast_62 : decode b_Pr_lineByLast 62 = .ok (.iinc 2 1, 3) := by decide +kernel
theorem D_Pr_lineByLast_65 : decode b_Pr_lineByLast 65 = .ok (.iinc 4 1, 3) := by decide +kernel
theorem D_Pr_lineByLast_68 : decode b_Pr_lineByLast 68 = .ok (.goto (-44), 3) := by decide +kernel
theorem D_Pr_lineByLast_71 : decode b_Pr_lineByLast 71 = .ok (.iinc 3 1, 3) := by decide +kernel
theorem D_Pr_lineByLast_74 : decode b_Pr_lineByLast 74 = .ok (.goto (-70), 3) := by decide +kernel
theorem D_Pr_lineByLast_77 : decode b_Pr_lineByLast 77 = .ok (.iload_n 2, 1) := by decide +kernel
theorem D_Pr_lineByLast_78 : decode b_Pr_lineByLast 78 = .ok (.ireturn, 1) := by decide +kernel
abbrev rm_Pr_lineByLast : Room := { frames := 1, cells := 0, slots := 0, locals := 21 }
def B_Pr_lineByLast_41 (k4 : Nat → Int32 → Int32 → Int32 → Mem → Prop) (k24 : Nat → Int32 → Int32 → Int32 → Int32 → Mem → Prop) (post : Int32 → Mem → Prop) (a0 : Nat) (x1 : Int32) (x2 : Int32) (x3 : Int32) (x4 : Int32) (s0 : Int32) (s1 : Int32) (M : Mem) : Prop := ((s0 < s1 → (k4 a0 x1 x2 (x3 + 1) M)) ∧ (¬ s0 < s1 → (isK M a0 4 ∧ ∃ q45, gR M a0 2 = some q45 ∧ vp_in x1 12 ∧ T_Pr_place x4 x3 M (fun r58 M58 => isA M58 q45 8 ((fst (Int32.toNatClampNeg x1)) + x2) ∧ k24 a0 x1 (x2 + 1) x3 (x4 + 1) (sI M58 q45 (Int32.toNatClampNeg ((fst (Int32.toNatClampNeg x1)) + x2)) r58)))))
set_option maxRecDepth 20000 in
theorem Z_Pr_lineByLast_41 {x : Ctx} {post : Int32 → Mem → Prop} (C : Ok x b_Pr_lineByLast 5 "HeapTower$Products") (hR : xR x = rm_Pr_lineByLast) (Rt : RetI x .int post 0 0) {k4 : Nat → Int32 → Int32 → Int32 → Mem → Prop} (K4 : ∀ (a0 : Nat) (x1 : Int32) (x2 : Int32) (x3 : Int32) (M : Mem), k4 a0 x1 x2 x3 M → J x 5 4 [(0, .ref (xd x a0)), (1, .int x1), (2, .int x2), (3, .int x3)] [] 0 0 M) {k24 : Nat → Int32 → Int32 → Int32 → Int32 → Mem → Prop} (K24 : ∀ (a0 : Nat) (x1 : Int32) (x2 : Int32) (x3 : Int32) (x4 : Int32) (M : Mem), k24 a0 x1 x2 x3 x4 M → J x 5 24 [(0, .ref (xd x a0)), (1, .int x1), (2, .int x2), (3, .int x3), (4, .int x4)] [] 0 0 M) (a0 : Nat) (x1 : Int32) (x2 : Int32) (x3 : Int32) (x4 : Int32) (s0 : Int32) (s1 : Int32) (M : Mem) (h : B_Pr_lineByLast_41 k4 k24 post a0 x1 x2 x3 x4 s0 s1 M) : J x 5 41 [(0, .ref (xd x a0)), (1, .int x1), (2, .int x2), (3, .int x3), (4, .int x4)] [.int s0, .int s1] 0 0 M := by
  unfold B_Pr_lineByLast_41 at h
  refine J_icmp_gt (tgt := 71) C D_Pr_lineByLast_41 (by decide) (fun c_41 => ?_) (fun c_41 => ?_)
  · have h := h.1 c_41
    refine J_iinc (v := x3 + 1) (lv' := [(3, .int (x3 + 1)), (0, .ref (xd x a0)), (1, .int x1), (2, .int x2), (4, .int x4)]) C 3 3 D_Pr_lineByLast_71 rfl rfl (by decide) rfl ?_
    refine J_goto (tgt := 4) C D_Pr_lineByLast_74 (by decide) ?_
    exact J_sub [1, 2, 3, 0] rfl (K4 _ _ _ _ _ h)
  · have h := h.2 c_41
    refine J_aload_n C 0 D_Pr_lineByLast_44 rfl rfl ?_
    obtain ⟨c_45, q45, e_45, h⟩ := h
    refine J_getR C fl_Pr_18 D_Pr_lineByLast_45 c_45 e_45 ?_
    refine J_first C (by decide) D_Pr_lineByLast_48 ?_
    refine J_iload_n C 1 D_Pr_lineByLast_51 rfl rfl ?_
    obtain ⟨c_52, h⟩ := h
    refine J_fald C D_Pr_lineByLast_52 c_52 ?_
    refine J_iload_n C 2 D_Pr_lineByLast_53 rfl rfl ?_
    refine J_iadd C D_Pr_lineByLast_54 ?_
    refine J_iload C 4 D_Pr_lineByLast_55 rfl ?_
    refine J_iload_n C 3 D_Pr_lineByLast_57 rfl rfl ?_
    refine J_callSi C ml_Pr_24 (S_Pr_place _ _ _ _ h) (by rw [hR]; decide) rfl rfl (Nat.le_of_ble_eq_true rfl) D_Pr_lineByLast_58 (fun r58 M58 h => ?_)
    obtain ⟨c_61, h⟩ := h
    refine J_iast C D_Pr_lineByLast_61 c_61 ?_
    refine J_iinc (v := x2 + 1) (lv' := [(2, .int (x2 + 1)), (0, .ref (xd x a0)), (1, .int x1), (3, .int x3), (4, .int x4)]) C 2 2 D_Pr_lineByLast_62 rfl rfl (by decide) rfl ?_
    refine J_iinc (v := x4 + 1) (lv' := [(4, .int (x4 + 1)), (2, .int (x2 + 1)), (0, .ref (xd x a0)), (1, .int x1), (3, .int x3)]) C 4 4 D_Pr_lineByLast_65 rfl rfl (by decide) rfl ?_
    refine J_goto (tgt := 24) C D_Pr_lineByLast_68 (by decide) ?_
    exact J_sub [2, 3, 1, 4, 0] rfl (K24 _ _ _ _ _ _ h)
def B_Pr_lineByLast_24 (k4 : Nat → Int32 → Int32 → Int32 → Mem → Prop) (k24 : Nat → Int32 → Int32 → Int32 → Int32 → Mem → Prop) (post : Int32 → Mem → Prop) (a0 : Nat) (x1 : Int32) (x2 : Int32) (x3 : Int32) (x4 : Int32) (M : Mem) : Prop := (isK M a0 4 ∧ ((gI M a0 4) ≤ 1 → (B_Pr_lineByLast_41 k4 k24 post a0 x1 x2 x3 x4 0 x4 M)) ∧ (¬ (gI M a0 4) ≤ 1 → (B_Pr_lineByLast_41 k4 k24 post a0 x1 x2 x3 x4 (x1 - x3) x4 M)))
set_option maxRecDepth 20000 in
theorem Z_Pr_lineByLast_24 {x : Ctx} {post : Int32 → Mem → Prop} (C : Ok x b_Pr_lineByLast 5 "HeapTower$Products") (hR : xR x = rm_Pr_lineByLast) (Rt : RetI x .int post 0 0) {k4 : Nat → Int32 → Int32 → Int32 → Mem → Prop} (K4 : ∀ (a0 : Nat) (x1 : Int32) (x2 : Int32) (x3 : Int32) (M : Mem), k4 a0 x1 x2 x3 M → J x 5 4 [(0, .ref (xd x a0)), (1, .int x1), (2, .int x2), (3, .int x3)] [] 0 0 M) {k24 : Nat → Int32 → Int32 → Int32 → Int32 → Mem → Prop} (K24 : ∀ (a0 : Nat) (x1 : Int32) (x2 : Int32) (x3 : Int32) (x4 : Int32) (M : Mem), k24 a0 x1 x2 x3 x4 M → J x 5 24 [(0, .ref (xd x a0)), (1, .int x1), (2, .int x2), (3, .int x3), (4, .int x4)] [] 0 0 M) (a0 : Nat) (x1 : Int32) (x2 : Int32) (x3 : Int32) (x4 : Int32) (M : Mem) (h : B_Pr_lineByLast_24 k4 k24 post a0 x1 x2 x3 x4 M) : J x 5 24 [(0, .ref (xd x a0)), (1, .int x1), (2, .int x2), (3, .int x3), (4, .int x4)] [] 0 0 M := by
  unfold B_Pr_lineByLast_24 at h
  refine J_iload C 4 D_Pr_lineByLast_24 rfl ?_
  refine J_aload_n C 0 D_Pr_lineByLast_26 rfl rfl ?_
  obtain ⟨c_27, h⟩ := h
  refine J_getI C fl_Pr_32 D_Pr_lineByLast_27 c_27 ?_
  refine J_iconst (v := 1) C D_Pr_lineByLast_30 rfl ?_
  refine J_icmp_le (tgt := 40) C D_Pr_lineByLast_31 (by decide) (fun c_31 => ?_) (fun c_31 => ?_)
  · have h := h.1 c_31
    refine J_iconst (v := 0) C D_Pr_lineByLast_40 rfl ?_
    exact J_sub [0, 1, 2, 3, 4] rfl (Z_Pr_lineByLast_41 C hR Rt K4 K24 _ _ _ _ _ _ _ _ h)
  · have h := h.2 c_31
    refine J_iload_n C 1 D_Pr_lineByLast_34 rfl rfl ?_
    refine J_iload_n C 3 D_Pr_lineByLast_35 rfl rfl ?_
    refine J_isub C D_Pr_lineByLast_36 ?_
    refine J_goto (tgt := 41) C D_Pr_lineByLast_37 (by decide) ?_
    exact J_sub [0, 1, 2, 3, 4] rfl (Z_Pr_lineByLast_41 C hR Rt K4 K24 _ _ _ _ _ _ _ _ h)
def L_Pr_lineByLast_24 (k4 : Nat → Int32 → Int32 → Int32 → Mem → Prop) (post : Int32 → Mem → Prop) : Nat → Nat → Int32 → Int32 → Int32 → Int32 → Mem → Prop
  | 0, _, _, _, _, _, _ => False
  | n + 1, a0, x1, x2, x3, x4, M => B_Pr_lineByLast_24 k4 (L_Pr_lineByLast_24 k4 post n) post a0 x1 x2 x3 x4 M
theorem Y_Pr_lineByLast_24 {x : Ctx} {post : Int32 → Mem → Prop} (C : Ok x b_Pr_lineByLast 5 "HeapTower$Products") (hR : xR x = rm_Pr_lineByLast) (Rt : RetI x .int post 0 0) {k4 : Nat → Int32 → Int32 → Int32 → Mem → Prop} (K4 : ∀ (a0 : Nat) (x1 : Int32) (x2 : Int32) (x3 : Int32) (M : Mem), k4 a0 x1 x2 x3 M → J x 5 4 [(0, .ref (xd x a0)), (1, .int x1), (2, .int x2), (3, .int x3)] [] 0 0 M) : ∀ (n : Nat) (a0 : Nat) (x1 : Int32) (x2 : Int32) (x3 : Int32) (x4 : Int32) (M : Mem), L_Pr_lineByLast_24 k4 post n a0 x1 x2 x3 x4 M → J x 5 24 [(0, .ref (xd x a0)), (1, .int x1), (2, .int x2), (3, .int x3), (4, .int x4)] [] 0 0 M := by
  intro n
  induction n with
  | zero => intro a0 x1 x2 x3 x4 M h; exact h.elim
  | succ n ih => intro a0 x1 x2 x3 x4 M h; exact Z_Pr_lineByLast_24 C hR Rt K4 ih _ _ _ _ _ _ h
def B_Pr_lineByLast_18 (k4 : Nat → Int32 → Int32 → Int32 → Mem → Prop) (post : Int32 → Mem → Prop) (a0 : Nat) (x1 : Int32) (x2 : Int32) (x3 : Int32) (s0 : Int32) (s1 : Int32) (M : Mem) : Prop := ((s0 < s1 → (post x2 M)) ∧ (¬ s0 < s1 → (∃ n, L_Pr_lineByLast_24 k4 post n a0 x1 x2 x3 0 M)))
set_option maxRecDepth 20000 in
theorem Z_Pr_lineByLast_18 {x : Ctx} {post : Int32 → Mem → Prop} (C : Ok x b_Pr_lineByLast 5 "HeapTower$Products") (hR : xR x = rm_Pr_lineByLast) (Rt : RetI x .int post 0 0) {k4 : Nat → Int32 → Int32 → Int32 → Mem → Prop} (K4 : ∀ (a0 : Nat) (x1 : Int32) (x2 : Int32) (x3 : Int32) (M : Mem), k4 a0 x1 x2 x3 M → J x 5 4 [(0, .ref (xd x a0)), (1, .int x1), (2, .int x2), (3, .int x3)] [] 0 0 M) (a0 : Nat) (x1 : Int32) (x2 : Int32) (x3 : Int32) (s0 : Int32) (s1 : Int32) (M : Mem) (h : B_Pr_lineByLast_18 k4 post a0 x1 x2 x3 s0 s1 M) : J x 5 18 [(0, .ref (xd x a0)), (1, .int x1), (2, .int x2), (3, .int x3)] [.int s0, .int s1] 0 0 M := by
  unfold B_Pr_lineByLast_18 at h
  refine J_icmp_gt (tgt := 77) C D_Pr_lineByLast_18 (by decide) (fun c_18 => ?_) (fun c_18 => ?_)
  · have h := h.1 c_18
    refine J_iload_n C 2 D_Pr_lineByLast_77 rfl rfl ?_
    exact J_iret C Rt D_Pr_lineByLast_78 rfl h
  · have h := h.2 c_18
    refine J_iconst (v := 0) C D_Pr_lineByLast_21 rfl ?_
    refine J_istore (lv' := [(4, .int 0), (0, .ref (xd x a0)), (1, .int x1), (2, .int x2), (3, .int x3)]) C 4 D_Pr_lineByLast_22 (by decide) rfl ?_
    obtain ⟨n, h⟩ := h
    exact J_sub [1, 2, 3, 4, 0] rfl (Y_Pr_lineByLast_24 C hR Rt K4 n _ _ _ _ _ _ h)
def B_Pr_lineByLast_4 (k4 : Nat → Int32 → Int32 → Int32 → Mem → Prop) (post : Int32 → Mem → Prop) (a0 : Nat) (x1 : Int32) (x2 : Int32) (x3 : Int32) (M : Mem) : Prop := (isK M a0 4 ∧ ((gI M a0 4) ≤ 2 → (B_Pr_lineByLast_18 k4 post a0 x1 x2 x3 0 x3 M)) ∧ (¬ (gI M a0 4) ≤ 2 → (B_Pr_lineByLast_18 k4 post a0 x1 x2 x3 x1 x3 M)))
set_option maxRecDepth 20000 in
theorem Z_Pr_lineByLast_4 {x : Ctx} {post : Int32 → Mem → Prop} (C : Ok x b_Pr_lineByLast 5 "HeapTower$Products") (hR : xR x = rm_Pr_lineByLast) (Rt : RetI x .int post 0 0) {k4 : Nat → Int32 → Int32 → Int32 → Mem → Prop} (K4 : ∀ (a0 : Nat) (x1 : Int32) (x2 : Int32) (x3 : Int32) (M : Mem), k4 a0 x1 x2 x3 M → J x 5 4 [(0, .ref (xd x a0)), (1, .int x1), (2, .int x2), (3, .int x3)] [] 0 0 M) (a0 : Nat) (x1 : Int32) (x2 : Int32) (x3 : Int32) (M : Mem) (h : B_Pr_lineByLast_4 k4 post a0 x1 x2 x3 M) : J x 5 4 [(0, .ref (xd x a0)), (1, .int x1), (2, .int x2), (3, .int x3)] [] 0 0 M := by
  unfold B_Pr_lineByLast_4 at h
  refine J_iload_n C 3 D_Pr_lineByLast_4 rfl rfl ?_
  refine J_aload_n C 0 D_Pr_lineByLast_5 rfl rfl ?_
  obtain ⟨c_6, h⟩ := h
  refine J_getI C fl_Pr_32 D_Pr_lineByLast_6 c_6 ?_
  refine J_iconst (v := 2) C D_Pr_lineByLast_9 rfl ?_
  refine J_icmp_le (tgt := 17) C D_Pr_lineByLast_10 (by decide) (fun c_10 => ?_) (fun c_10 => ?_)
  · have h := h.1 c_10
    refine J_iconst (v := 0) C D_Pr_lineByLast_17 rfl ?_
    exact J_sub [0, 1, 2, 3] rfl (Z_Pr_lineByLast_18 C hR Rt K4 _ _ _ _ _ _ _ h)
  · have h := h.2 c_10
    refine J_iload_n C 1 D_Pr_lineByLast_13 rfl rfl ?_
    refine J_goto (tgt := 18) C D_Pr_lineByLast_14 (by decide) ?_
    exact J_sub [0, 1, 2, 3] rfl (Z_Pr_lineByLast_18 C hR Rt K4 _ _ _ _ _ _ _ h)
def L_Pr_lineByLast_4 (post : Int32 → Mem → Prop) : Nat → Nat → Int32 → Int32 → Int32 → Mem → Prop
  | 0, _, _, _, _, _ => False
  | n + 1, a0, x1, x2, x3, M => B_Pr_lineByLast_4 (L_Pr_lineByLast_4 post n) post a0 x1 x2 x3 M
theorem Y_Pr_lineByLast_4 {x : Ctx} {post : Int32 → Mem → Prop} (C : Ok x b_Pr_lineByLast 5 "HeapTower$Products") (hR : xR x = rm_Pr_lineByLast) (Rt : RetI x .int post 0 0) : ∀ (n : Nat) (a0 : Nat) (x1 : Int32) (x2 : Int32) (x3 : Int32) (M : Mem), L_Pr_lineByLast_4 post n a0 x1 x2 x3 M → J x 5 4 [(0, .ref (xd x a0)), (1, .int x1), (2, .int x2), (3, .int x3)] [] 0 0 M := by
  intro n
  induction n with
  | zero => intro a0 x1 x2 x3 M h; exact h.elim
  | succ n ih => intro a0 x1 x2 x3 M h; exact Z_Pr_lineByLast_4 C hR Rt ih _ _ _ _ _ h
def T_Pr_lineByLast (a0 : Nat) (x1 : Int32) (M : Mem) (post : Int32 → Mem → Prop) : Prop := (∃ n, L_Pr_lineByLast_4 post n a0 x1 0 0 M)
set_option maxRecDepth 20000 in
theorem S_Pr_lineByLast {l : Launch} {D : va_G} {B t g : Nat} {d : Nat → Nat} {ac : Nat → ClassId}  (a0 : Nat) (x1 : Int32) (M : Mem) (post : Int32 → Mem → Prop) (h : T_Pr_lineByLast a0 x1 M post) : Met l y_Pr_lineByLast w_Pr_lineByLast rm_Pr_lineByLast (va_Pc [.ref (d a0), .int x1] (PRE D B d g t ac M)) (QI D B d g ac post) 0 0 (AB B) := by
  refine met_i (by decide +kernel) (Nat.le_of_ble_eq_true rfl) (fun x h1 hR h3 h4 h5 h6 h7 h8 C Rt => ?_)
  subst h3 h4 h5 h6 h7 h8
  unfold T_Pr_lineByLast at h
  show J x 5 0 [(0, .ref (xd x a0)), (1, .int x1)] [] 0 0 M
  refine J_iconst (v := 0) C D_Pr_lineByLast_0 rfl ?_
  refine J_istore_n (lv' := [(2, .int 0), (0, .ref (xd x a0)), (1, .int x1)]) C 2 D_Pr_lineByLast_1 rfl (by decide) rfl ?_
  refine J_iconst (v := 0) C D_Pr_lineByLast_2 rfl ?_
  refine J_istore_n (lv' := [(3, .int 0), (2, .int 0), (0, .ref (xd x a0)), (1, .int x1)]) C 3 D_Pr_lineByLast_3 rfl (by decide) rfl ?_
  obtain ⟨n, h⟩ := h
  exact J_sub [2, 3, 1, 0] rfl (Y_Pr_lineByLast_4 C hR Rt  n _ _ _ _ _ h)
theorem D_Pr_lineByFirst_0 : decode b_Pr_lineByFirst 0 = .ok (.iconst 0, 1) := by decide +kernel
theorem D_Pr_lineByFirst_1 : decode b_Pr_lineByFirst 1 = .ok (.istore_n 2, 1) := by decide +kernel
theorem D_Pr_lineByFirst_2 : decode b_Pr_lineByFirst 2 = .ok (.iconst 0, 1) := by decide +kernel
theorem D_Pr_lineByFirst_3 : decode b_Pr_lineByFirst 3 = .ok (.istore_n 3, 1) := by decide +kernel
theorem D_Pr_lineByFirst_4 : decode b_Pr_lineByFirst 4 = .ok (.iload_n 3, 1) := by decide +kernel
theorem D_Pr_lineByFirst_5 : decode b_Pr_lineByFirst 5 = .ok (.aload_n 0, 1) := by decide +kernel
theorem D_Pr_lineByFirst_6 : decode b_Pr_lineByFirst 6 = .ok (.getfield 32, 3) := by decide +kernel
theorem D_Pr_lineByFirst_9 : decode b_Pr_lineByFirst 9 = .ok (.iconst 1, 1) := by decide +kernel
theorem D_Pr_lineByFirst_10 : decode b_Pr_lineByFirst 10 = .ok (.if_icmp .le 7, 3) := by decide +kernel
theorem D_Pr_lineByFirst_13 : decode b_Pr_lineByFirst 13 = .ok (.iload_n 1, 1) := by decide +kernel
theorem D_Pr_lineByFirst_14 : decode b_Pr_lineByFirst 14 = .ok (.goto 4, 3) := by decide +kernel
theorem D_Pr_lineByFirst_17 : decode b_Pr_lineByFirst 17 = .ok (.iconst 0, 1) := by decide +kernel
theorem D_Pr_lineByFirst_18 : decode b_Pr_lineByFirst 18 = .ok (.if_icmp .gt 60, 3) := by decide +kernel
theorem D_Pr_lineByFirst_21 : decode b_Pr_lineByFirst 21 = .ok (.iconst 0, 1) := by decide +kernel
theorem D_Pr_lineByFirst_22 : decode b_Pr_lineByFirst 22 = .ok (.istore 4, 2) := by decide +kernel
theorem D_Pr_lineByFirst_24 : decode b_Pr_lineByFirst 24 = .ok (.iload 4, 2) := by decide +kernel
theorem D_Pr_lineByFirst_26 : decode b_Pr_lineByFirst 26 = .ok (.aload_n 0, 1) := by decide +kernel
theorem D_Pr_lineByFirst_27 : decode b_Pr_lineByFirst 27 = .ok (.getfield 32, 3) := by decide +kernel
theorem D_Pr_lineByFirst_30 : decode b_Pr_lineByFirst 30 = .ok (.iconst 2, 1) := by decide +kernel
theorem D_Pr_lineByFirst_31 : decode b_Pr_lineByFirst 31 = .ok (.if_icmp .le 7, 3) := by decide +kernel
theorem D_Pr_lineByFirst_34 : decode b_Pr_lineByFirst 34 = .ok (.iload_n 3, 1) := by decide +kernel
theorem D_Pr_lineByFirst_35 : decode b_Pr_lineByFirst 35 = .ok (.goto 4, 3) := by decide +kernel
theorem D_Pr_lineByFirst_38 : decode b_Pr_lineByFirst 38 = .ok (.iconst 0, 1) := by decide +kernel
theorem D_Pr_lineByFirst_39 : decode b_Pr_lineByFirst 39 = .ok (.if_icmp .gt 33, 3) := by decide +kernel
theorem D_Pr_lineByFirst_42 : decode b_Pr_lineByFirst 42 = .ok (.aload_n 0, 1) := by decide +kernel
theorem D_Pr_lineByFirst_43 : decode b_Pr_lineByFirst 43 = .ok (.getfield 18, 3) := by decide +kernel
theorem D_Pr_lineByFirst_46 : decode b_Pr_lineByFirst 46 = .ok (.getstatic 46, 3) := by decide +kernel
theorem D_Pr_lineByFirst_49 : decode b_Pr_lineByFirst 49 = .ok (.iload_n 1, 1) := by decide +kernel
theorem D_Pr_lineByFirst_50 : decode b_Pr_lineByFirst 50 = .ok (.iaload, 1) := by decide +kernel
theorem D_Pr_lineByFirst_51 : decode b_Pr_lineByFirst 51 = .ok (.iload_n 2, 1) := by decide +kernel
theorem D_Pr_lineByFirst_52 : decode b_Pr_lineByFirst 52 = .ok (.iadd, 1) := by decide +kernel
theorem D_Pr_lineByFirst_53 : decode b_Pr_lineByFirst 53 = .ok (.iload_n 3, 1) := by decide +kernel
theorem D_Pr_lineByFirst_54 : decode b_Pr_lineByFirst 54 = .ok (.iload 4, 2) := by decide +kernel
theorem D_Pr_lineByFirst_56 : decode b_Pr_lineByFirst 56 = .ok (.isub, 1) := by decide +kernel
theorem D_Pr_lineByFirst_57 : decode b_Pr_lineByFirst 57 = .ok (.iload 4, 2) := by decide +kernel
theorem D_Pr_lineByFirst_59 : decode b_Pr_lineByFirst 59 = .ok (.invokestatic 24, 3) := by decide +kernel
theorem D_Pr_lineByFirst_62 : decode b_Pr_lineByFirst 62 = .ok (.iastore, 1) := by decide +kernel
theorem D_Pr_lineByFirst_63 : decode b_Pr_lineByFirst 63 = .ok (.iinc 2 1, 3) := by decide +kernel
theorem D_Pr_lineByFirst_66 : decode b_Pr_lineByFirst 66 = .ok (.iinc 4 1, 3) := by decide +kernel
theorem D_Pr_lineByFirst_69 : decode b_Pr_lineByFirst 69 = .ok (.goto (-45), 3) := by decide +kernel
theorem D_Pr_lineByFirst_72 : decode b_Pr_lineByFirst 72 = .ok (.iinc 3 1, 3) := by decide +kernel
theorem D_Pr_lineByFirst_75 : decode b_Pr_lineByFirst 75 = .ok (.goto (-71), 3) := by decide +kernel
theorem D_Pr_lineByFirst_78 : decode b_Pr_lineByFirst 78 = .ok (.iload_n 2, 1) := by decide +kernel
theorem D_Pr_lineByFirst_79 : decode b_Pr_lineByFirst 79 = .ok (.ireturn, 1) := by decide +kernel
abbrev rm_Pr_lineByFirst : Room := { frames := 1, cells := 0, slots := 0, locals := 21 }
def B_Pr_lineByFirst_39 (k4 : Nat → Int32 → Int32 → Int32 → Mem → Prop) (k24 : Nat → Int32 → Int32 → Int32 → Int32 → Mem → Prop) (post : Int32 → Mem → Prop) (a0 : Nat) (x1 : Int32) (x2 : Int32) (x3 : Int32) (x4 : Int32) (s0 : Int32) (s1 : Int32) (M : Mem) : Prop := ((s0 < s1 → (k4 a0 x1 x2 (x3 + 1) M)) ∧ (¬ s0 < s1 → (isK M a0 4 ∧ ∃ q43, gR M a0 2 = some q43 ∧ vp_in x1 12 ∧ T_Pr_place (x3 - x4) x4 M (fun r59 M59 => isA M59 q43 8 ((fst (Int32.toNatClampNeg x1)) + x2) ∧ k24 a0 x1 (x2 + 1) x3 (x4 + 1) (sI M59 q43 (Int32.toNatClampNeg ((fst (Int32.toNatClampNeg x1)) + x2)) r59)))))
set_option maxRecDepth 20000 in
theorem Z_Pr_lineByFirst_39 {x : Ctx} {post : Int32 → Mem → Prop} (C : Ok x b_Pr_lineByFirst 5 "HeapTower$Products") (hR : xR x = rm_Pr_lineByFirst) (Rt : RetI x .int post 0 0) {k4 : Nat → Int32 → Int32 → Int32 → Mem → Prop} (K4 : ∀ (a0 : Nat) (x1 : Int32) (x2 : Int32) (x3 : Int32) (M : Mem), k4 a0 x1 x2 x3 M → J x 5 4 [(0, .ref (xd x a0)), (1, .int x1), (2, .int x2), (3, .int x3)] [] 0 0 M) {k24 : Nat → Int32 → Int32 → Int32 → Int32 → Mem → Prop} (K24 : ∀ (a0 : Nat) (x1 : Int32) (x2 : Int32) (x3 : Int32) (x4 : Int32) (M : Mem), k24 a0 x1 x2 x3 x4 M → J x 5 24 [(0, .ref (xd x a0)), (1, .int x1), (2, .int x2), (3, .int x3), (4, .int x4)] [] 0 0 M) (a0 : Nat) (x1 : Int32) (x2 : Int32) (x3 : Int32) (x4 : Int32) (s0 : Int32) (s1 : Int32) (M : Mem) (h : B_Pr_lineByFirst_39 k4 k24 post a0 x1 x2 x3 x4 s0 s1 M) : J x 5 39 [(0, .ref (xd x a0)), (1, .int x1), (2, .int x2), (3, .int x3), (4, .int x4)] [.int s0, .int s1] 0 0 M := by
  unfold B_Pr_lineByFirst_39 at h
  refine J_icmp_gt (tgt := 72) C D_Pr_lineByFirst_39 (by decide) (fun c_39 => ?_) (fun c_39 => ?_)
  · have h := h.1 c_39
    refine J_iinc (v := x3 + 1) (lv' := [(3, .int (x3 + 1)), (0, .ref (xd x a0)), (1, .int x1), (2, .int x2), (4, .int x4)]) C 3 3 D_Pr_lineByFirst_72 rfl rfl (by decide) rfl ?_
    refine J_goto (tgt := 4) C D_Pr_lineByFirst_75 (by decide) ?_
    exact J_sub [1, 2, 3, 0] rfl (K4 _ _ _ _ _ h)
  · have h := h.2 c_39
    refine J_aload_n C 0 D_Pr_lineByFirst_42 rfl rfl ?_
    obtain ⟨c_43, q43, e_43, h⟩ := h
    refine J_getR C fl_Pr_18 D_Pr_lineByFirst_43 c_43 e_43 ?_
    refine J_first C (by decide) D_Pr_lineByFirst_46 ?_
    refine J_iload_n C 1 D_Pr_lineByFirst_49 rfl rfl ?_
    obtain ⟨c_50, h⟩ := h
    refine J_fald C D_Pr_lineByFirst_50 c_50 ?_
    refine J_iload_n C 2 D_Pr_lineByFirst_51 rfl rfl ?_
    refine J_iadd C D_Pr_lineByFirst_52 ?_
    refine J_iload_n C 3 D_Pr_lineByFirst_53 rfl rfl ?_
    refine J_iload C 4 D_Pr_lineByFirst_54 rfl ?_
    refine J_isub C D_Pr_lineByFirst_56 ?_
    refine J_iload C 4 D_Pr_lineByFirst_57 rfl ?_
    refine J_callSi C ml_Pr_24 (S_Pr_place _ _ _ _ h) (by rw [hR]; decide) rfl rfl (Nat.le_of_ble_eq_true rfl) D_Pr_lineByFirst_59 (fun r59 M59 h => ?_)
    obtain ⟨c_62, h⟩ := h
    refine J_iast C D_Pr_lineByFirst_62 c_62 ?_
    refine J_iinc (v := x2 + 1) (lv' := [(2, .int (x2 + 1)), (0, .ref (xd x a0)), (1, .int x1), (3, .int x3), (4, .int x4)]) C 2 2 D_Pr_lineByFirst_63 rfl rfl (by decide) rfl ?_
    refine J_iinc (v := x4 + 1) (lv' := [(4, .int (x4 + 1)), (2, .int (x2 + 1)), (0, .ref (xd x a0)), (1, .int x1), (3, .int x3)]) C 4 4 D_Pr_lineByFirst_66 rfl rfl (by decide) rfl ?_
    refine J_goto (tgt := 24) C D_Pr_lineByFirst_69 (by decide) ?_
    exact J_sub [2, 3, 1, 4, 0] rfl (K24 _ _ _ _ _ _ h)
def B_Pr_lineByFirst_24 (k4 : Nat → Int32 → Int32 → Int32 → Mem → Prop) (k24 : Nat → Int32 → Int32 → Int32 → Int32 → Mem → Prop) (post : Int32 → Mem → Prop) (a0 : Nat) (x1 : Int32) (x2 : Int32) (x3 : Int32) (x4 : Int32) (M : Mem) : Prop := (isK M a0 4 ∧ ((gI M a0 4) ≤ 2 → (B_Pr_lineByFirst_39 k4 k24 post a0 x1 x2 x3 x4 0 x4 M)) ∧ (¬ (gI M a0 4) ≤ 2 → (B_Pr_lineByFirst_39 k4 k24 post a0 x1 x2 x3 x4 x3 x4 M)))
set_option maxRecDepth 20000 in
theorem Z_Pr_lineByFirst_24 {x : Ctx} {post : Int32 → Mem → Prop} (C : Ok x b_Pr_lineByFirst 5 "HeapTower$Products") (hR : xR x = rm_Pr_lineByFirst) (Rt : RetI x .int post 0 0) {k4 : Nat → Int32 → Int32 → Int32 → Mem → Prop} (K4 : ∀ (a0 : Nat) (x1 : Int32) (x2 : Int32) (x3 : Int32) (M : Mem), k4 a0 x1 x2 x3 M → J x 5 4 [(0, .ref (xd x a0)), (1, .int x1), (2, .int x2), (3, .int x3)] [] 0 0 M) {k24 : Nat → Int32 → Int32 → Int32 → Int32 → Mem → Prop} (K24 : ∀ (a0 : Nat) (x1 : Int32) (x2 : Int32) (x3 : Int32) (x4 : Int32) (M : Mem), k24 a0 x1 x2 x3 x4 M → J x 5 24 [(0, .ref (xd x a0)), (1, .int x1), (2, .int x2), (3, .int x3), (4, .int x4)] [] 0 0 M) (a0 : Nat) (x1 : Int32) (x2 : Int32) (x3 : Int32) (x4 : Int32) (M : Mem) (h : B_Pr_lineByFirst_24 k4 k24 post a0 x1 x2 x3 x4 M) : J x 5 24 [(0, .ref (xd x a0)), (1, .int x1), (2, .int x2), (3, .int x3), (4, .int x4)] [] 0 0 M := by
  unfold B_Pr_lineByFirst_24 at h
  refine J_iload C 4 D_Pr_lineByFirst_24 rfl ?_
  refine J_aload_n C 0 D_Pr_lineByFirst_26 rfl rfl ?_
  obtain ⟨c_27, h⟩ := h
  refine J_getI C fl_Pr_32 D_Pr_lineByFirst_27 c_27 ?_
  refine J_iconst (v := 2) C D_Pr_lineByFirst_30 rfl ?_
  refine J_icmp_le (tgt := 38) C D_Pr_lineByFirst_31 (by decide) (fun c_31 => ?_) (fun c_31 => ?_)
  · have h := h.1 c_31
    refine J_iconst (v := 0) C D_Pr_lineByFirst_38 rfl ?_
    exact J_sub [0, 1, 2, 3, 4] rfl (Z_Pr_lineByFirst_39 C hR Rt K4 K24 _ _ _ _ _ _ _ _ h)
  · have h := h.2 c_31
    refine J_iload_n C 3 D_Pr_lineByFirst_34 rfl rfl ?_
    refine J_goto (tgt := 39) C D_Pr_lineByFirst_35 (by decide) ?_
    exact J_sub [0, 1, 2, 3, 4] rfl (Z_Pr_lineByFirst_39 C hR Rt K4 K24 _ _ _ _ _ _ _ _ h)
def L_Pr_lineByFirst_24 (k4 : Nat → Int32 → Int32 → Int32 → Mem → Prop) (post : Int32 → Mem → Prop) : Nat → Nat → Int32 → Int32 → Int32 → Int32 → Mem → Prop
  | 0, _, _, _, _, _, _ => False
  | n + 1, a0, x1, x2, x3, x4, M => B_Pr_lineByFirst_24 k4 (L_Pr_lineByFirst_24 k4 post n) post a0 x1 x2 x3 x4 M
theorem Y_Pr_lineByFirst_24 {x : Ctx} {post : Int32 → Mem → Prop} (C : Ok x b_Pr_lineByFirst 5 "HeapTower$Products") (hR : xR x = rm_Pr_lineByFirst) (Rt : RetI x .int post 0 0) {k4 : Nat → Int32 → Int32 → Int32 → Mem → Prop} (K4 : ∀ (a0 : Nat) (x1 : Int32) (x2 : Int32) (x3 : Int32) (M : Mem), k4 a0 x1 x2 x3 M → J x 5 4 [(0, .ref (xd x a0)), (1, .int x1), (2, .int x2), (3, .int x3)] [] 0 0 M) : ∀ (n : Nat) (a0 : Nat) (x1 : Int32) (x2 : Int32) (x3 : Int32) (x4 : Int32) (M : Mem), L_Pr_lineByFirst_24 k4 post n a0 x1 x2 x3 x4 M → J x 5 24 [(0, .ref (xd x a0)), (1, .int x1), (2, .int x2), (3, .int x3), (4, .int x4)] [] 0 0 M := by
  intro n
  induction n with
  | zero => intro a0 x1 x2 x3 x4 M h; exact h.elim
  | succ n ih => intro a0 x1 x2 x3 x4 M h; exact Z_Pr_lineByFirst_24 C hR Rt K4 ih _ _ _ _ _ _ h
def B_Pr_lineByFirst_18 (k4 : Nat → Int32 → Int32 → Int32 → Mem → Prop) (post : Int32 → Mem → Prop) (a0 : Nat) (x1 : Int32) (x2 : Int32) (x3 : Int32) (s0 : Int32) (s1 : Int32) (M : Mem) : Prop := ((s0 < s1 → (post x2 M)) ∧ (¬ s0 < s1 → (∃ n, L_Pr_lineByFirst_24 k4 post n a0 x1 x2 x3 0 M)))
set_option maxRecDepth 20000 in
theorem Z_Pr_lineByFirst_18 {x : Ctx} {post : Int32 → Mem → Prop} (C : Ok x b_Pr_lineByFirst 5 "HeapTower$Products") (hR : xR x = rm_Pr_lineByFirst) (Rt : RetI x .int post 0 0) {k4 : Nat → Int32 → Int32 → Int32 → Mem → Prop} (K4 : ∀ (a0 : Nat) (x1 : Int32) (x2 : Int32) (x3 : Int32) (M : Mem), k4 a0 x1 x2 x3 M → J x 5 4 [(0, .ref (xd x a0)), (1, .int x1), (2, .int x2), (3, .int x3)] [] 0 0 M) (a0 : Nat) (x1 : Int32) (x2 : Int32) (x3 : Int32) (s0 : Int32) (s1 : Int32) (M : Mem) (h : B_Pr_lineByFirst_18 k4 post a0 x1 x2 x3 s0 s1 M) : J x 5 18 [(0, .ref (xd x a0)), (1, .int x1), (2, .int x2), (3, .int x3)] [.int s0, .int s1] 0 0 M := by
  unfold B_Pr_lineByFirst_18 at h
  refine J_icmp_gt (tgt := 78) C D_Pr_lineByFirst_18 (by decide) (fun c_18 => ?_) (fun c_18 => ?_)
  · have h := h.1 c_18
    refine J_iload_n C 2 D_Pr_lineByFirst_78 rfl rfl ?_
    exact J_iret C Rt D_Pr_lineByFirst_79 rfl h
  · have h := h.2 c_18
    refine J_iconst (v := 0) C D_Pr_lineByFirst_21 rfl ?_
    refine J_istore (lv' := [(4, .int 0), (0, .ref (xd x a0)), (1, .int x1), (2, .int x2), (3, .int x3)]) C 4 D_Pr_lineByFirst_22 (by decide) rfl ?_
    obtain ⟨n, h⟩ := h
    exact J_sub [1, 2, 3, 4, 0] rfl (Y_Pr_lineByFirst_24 C hR Rt K4 n _ _ _ _ _ _ h)
def B_Pr_lineByFirst_4 (k4 : Nat → Int32 → Int32 → Int32 → Mem → Prop) (post : Int32 → Mem → Prop) (a0 : Nat) (x1 : Int32) (x2 : Int32) (x3 : Int32) (M : Mem) : Prop := (isK M a0 4 ∧ ((gI M a0 4) ≤ 1 → (B_Pr_lineByFirst_18 k4 post a0 x1 x2 x3 0 x3 M)) ∧ (¬ (gI M a0 4) ≤ 1 → (B_Pr_lineByFirst_18 k4 post a0 x1 x2 x3 x1 x3 M)))
set_option maxRecDepth 20000 in
theorem Z_Pr_lineByFirst_4 {x : Ctx} {post : Int32 → Mem → Prop} (C : Ok x b_Pr_lineByFirst 5 "HeapTower$Products") (hR : xR x = rm_Pr_lineByFirst) (Rt : RetI x .int post 0 0) {k4 : Nat → Int32 → Int32 → Int32 → Mem → Prop} (K4 : ∀ (a0 : Nat) (x1 : Int32) (x2 : Int32) (x3 : Int32) (M : Mem), k4 a0 x1 x2 x3 M → J x 5 4 [(0, .ref (xd x a0)), (1, .int x1), (2, .int x2), (3, .int x3)] [] 0 0 M) (a0 : Nat) (x1 : Int32) (x2 : Int32) (x3 : Int32) (M : Mem) (h : B_Pr_lineByFirst_4 k4 post a0 x1 x2 x3 M) : J x 5 4 [(0, .ref (xd x a0)), (1, .int x1), (2, .int x2), (3, .int x3)] [] 0 0 M := by
  unfold B_Pr_lineByFirst_4 at h
  refine J_iload_n C 3 D_Pr_lineByFirst_4 rfl rfl ?_
  refine J_aload_n C 0 D_Pr_lineByFirst_5 rfl rfl ?_
  obtain ⟨c_6, h⟩ := h
  refine J_getI C fl_Pr_32 D_Pr_lineByFirst_6 c_6 ?_
  refine J_iconst (v := 1) C D_Pr_lineByFirst_9 rfl ?_
  refine J_icmp_le (tgt := 17) C D_Pr_lineByFirst_10 (by decide) (fun c_10 => ?_) (fun c_10 => ?_)
  · have h := h.1 c_10
    refine J_iconst (v := 0) C D_Pr_lineByFirst_17 rfl ?_
    exact J_sub [0, 1, 2, 3] rfl (Z_Pr_lineByFirst_18 C hR Rt K4 _ _ _ _ _ _ _ h)
  · have h := h.2 c_10
    refine J_iload_n C 1 D_Pr_lineByFirst_13 rfl rfl ?_
    refine J_goto (tgt := 18) C D_Pr_lineByFirst_14 (by decide) ?_
    exact J_sub [0, 1, 2, 3] rfl (Z_Pr_lineByFirst_18 C hR Rt K4 _ _ _ _ _ _ _ h)
def L_Pr_lineByFirst_4 (post : Int32 → Mem → Prop) : Nat → Nat → Int32 → Int32 → Int32 → Mem → Prop
  | 0, _, _, _, _, _ => False
  | n + 1, a0, x1, x2, x3, M => B_Pr_lineByFirst_4 (L_Pr_lineByFirst_4 post n) post a0 x1 x2 x3 M
theorem Y_Pr_lineByFirst_4 {x : Ctx} {post : Int32 → Mem → Prop} (C : Ok x b_Pr_lineByFirst 5 "HeapTower$Products") (hR : xR x = rm_Pr_lineByFirst) (Rt : RetI x .int post 0 0) : ∀ (n : Nat) (a0 : Nat) (x1 : Int32) (x2 : Int32) (x3 : Int32) (M : Mem), L_Pr_lineByFirst_4 post n a0 x1 x2 x3 M → J x 5 4 [(0, .ref (xd x a0)), (1, .int x1), (2, .int x2), (3, .int x3)] [] 0 0 M := by
  intro n
  induction n with
  | zero => intro a0 x1 x2 x3 M h; exact h.elim
  | succ n ih => intro a0 x1 x2 x3 M h; exact Z_Pr_lineByFirst_4 C hR Rt ih _ _ _ _ _ h
def T_Pr_lineByFirst (a0 : Nat) (x1 : Int32) (M : Mem) (post : Int32 → Mem → Prop) : Prop := (∃ n, L_Pr_lineByFirst_4 post n a0 x1 0 0 M)
set_option maxRecDepth 20000 in
theorem S_Pr_lineByFirst {l : Launch} {D : va_G} {B t g : Nat} {d : Nat → Nat} {ac : Nat → ClassId}  (a0 : Nat) (x1 : Int32) (M : Mem) (post : Int32 → Mem → Prop) (h : T_Pr_lineByFirst a0 x1 M post) : Met l y_Pr_lineByFirst w_Pr_lineByFirst rm_Pr_lineByFirst (va_Pc [.ref (d a0), .int x1] (PRE D B d g t ac M)) (QI D B d g ac post) 0 0 (AB B) := by
  refine met_i (by decide +kernel) (Nat.le_of_ble_eq_true rfl) (fun x h1 hR h3 h4 h5 h6 h7 h8 C Rt => ?_)
  subst h3 h4 h5 h6 h7 h8
  unfold T_Pr_lineByFirst at h
  show J x 5 0 [(0, .ref (xd x a0)), (1, .int x1)] [] 0 0 M
  refine J_iconst (v := 0) C D_Pr_lineByFirst_0 rfl ?_
  refine J_istore_n (lv' := [(2, .int 0), (0, .ref (xd x a0)), (1, .int x1)]) C 2 D_Pr_lineByFirst_1 rfl (by decide) rfl ?_
  refine J_iconst (v := 0) C D_Pr_lineByFirst_2 rfl ?_
  refine J_istore_n (lv' := [(3, .int 0), (2, .int 0), (0, .ref (xd x a0)), (1, .int x1)]) C 3 D_Pr_lineByFirst_3 rfl (by decide) rfl ?_
  obtain ⟨n, h⟩ := h
  exact J_sub [2, 3, 1, 0] rfl (Y_Pr_lineByFirst_4 C hR Rt  n _ _ _ _ _ h)
theorem D_Pr_arrange_0 : decode b_Pr_arrange 0 = .ok (.aload_n 0, 1) := by decide +kernel
theorem D_Pr_arrange_1 : decode b_Pr_arrange 1 = .ok (.iload_n 1, 1) := by decide +kernel
theorem D_Pr_arrange_2 : decode b_Pr_arrange 2 = .ok (.putfield 32, 3) := by decide +kernel
theorem D_Pr_arrange_5 : decode b_Pr_arrange 5 = .ok (.aload_n 0, 1) := by decide +kernel
theorem D_Pr_arrange_6 : decode b_Pr_arrange 6 = .ok (.iload_n 2, 1) := by decide +kernel
theorem D_Pr_arrange_7 : decode b_Pr_arrange 7 = .ok (.putfield 36, 3) := by decide +kernel
theorem D_Pr_arrange_10 : decode b_Pr_arrange 10 = .ok (.iconst 0, 1) := by decide +kernel
theorem D_Pr_arrange_11 : decode b_Pr_arrange 11 = .ok (.istore_n 3, 1) := by decide +kernel
theorem D_Pr_arrange_12 : decode b_Pr_arrange 12 = .ok (.iload_n 3, 1) := by decide +kernel
theorem D_Pr_arrange_13 : decode b_Pr_arrange 13 = .ok (.bipush 10, 2) := by decide +kernel
theorem D_Pr_arrange_15 : decode b_Pr_arrange 15 = .ok (.if_icmp .gt 32, 3) := by decide +kernel
theorem D_Pr_arrange_18 : decode b_Pr_arrange 18 = .ok (.aload_n 0, 1) := by decide +kernel
theorem D_Pr_arrange_19 : decode b_Pr_arrange 19 = .ok (.getfield 21, 3) := by decide +kernel
theorem D_Pr_arrange_22 : decode b_Pr_arrange 22 = .ok (.iload_n 3, 1) := by decide +kernel
theorem D_Pr_arrange_23 : decode b_Pr_arrange 23 = .ok (.iload_n 2, 1) := by decide +kernel
theorem D_Pr_arrange_24 : decode b_Pr_arrange 24 = .ok (.ifCond .ne 11, 3) := by decide +kernel
theorem D_Pr_arrange_27 : decode b_Pr_arrange 27 = .ok (.aload_n 0, 1) := by decide +kernel
theorem D_Pr_arrange_28 : decode b_Pr_arrange 28 = .ok (.iload_n 3, 1) := by decide +kernel
theorem D_Pr_arrange_29 : decode b_Pr_arrange 29 = .ok (.invokevirtual 39, 3) := by decide +kernel
theorem D_Pr_arrange_32 : decode b_Pr_arrange 32 = .ok (.goto 8, 3) := by decide +kernel
theorem D_Pr_arrange_35 : decode b_Pr_arrange 35 = .ok (.aload_n 0, 1) := by decide +kernel
theorem D_Pr_arrange_36 : decode b_Pr_arrange 36 = .ok (.iload_n 3, 1) := by decide +kernel
theorem D_Pr_arrange_37 : decode b_Pr_arrange 37 = .ok (.invokevirtual 43, 3) := by decide +kernel
theorem D_Pr_arrange_40 : decode b_Pr_arrange 40 = .ok (.iastore, 1) := by decide +kernel
theorem D_Pr_arrange_41 : decode b_Pr_arrange 41 = .ok (.iinc 3 1, 3) := by decide +kernel
theorem D_Pr_arrange_44 : decode b_Pr_arrange 44 = .ok (.goto (-32), 3) := by decide +kernel
theorem D_Pr_arrange_47 : decode b_Pr_arrange 47 = .ok (.return_, 1) := by decide +kernel
abbrev rm_Pr_arrange : Room := { frames := 2, cells := 0, slots := 0, locals := 45 }
def B_Pr_arrange_40 (k12 : Nat → Int32 → Int32 → Mem → Prop) (post : Mem → Prop) (a0 : Nat) (x2 : Int32) (x3 : Int32) (s0 : Int32) (s1 : Int32) (t2 : Nat) (M : Mem) : Prop := (isA M t2 8 s1 ∧ k12 a0 x2 (x3 + 1) (sI M t2 (Int32.toNatClampNeg s1) s0))
set_option maxRecDepth 20000 in
theorem Z_Pr_arrange_40 {x : Ctx} {post : Mem → Prop} (C : Ok x b_Pr_arrange 4 "HeapTower$Products") (hR : xR x = rm_Pr_arrange) (Rt : RetV x post 0 0) {k12 : Nat → Int32 → Int32 → Mem → Prop} (K12 : ∀ (a0 : Nat) (x2 : Int32) (x3 : Int32) (M : Mem), k12 a0 x2 x3 M → J x 4 12 [(0, .ref (xd x a0)), (2, .int x2), (3, .int x3)] [] 0 0 M) (a0 : Nat) (x2 : Int32) (x3 : Int32) (s0 : Int32) (s1 : Int32) (t2 : Nat) (M : Mem) (h : B_Pr_arrange_40 k12 post a0 x2 x3 s0 s1 t2 M) : J x 4 40 [(0, .ref (xd x a0)), (2, .int x2), (3, .int x3)] [.int s0, .int s1, .ref (xd x t2)] 0 0 M := by
  unfold B_Pr_arrange_40 at h
  obtain ⟨c_40, h⟩ := h
  refine J_iast C D_Pr_arrange_40 c_40 ?_
  refine J_iinc (v := x3 + 1) (lv' := [(3, .int (x3 + 1)), (0, .ref (xd x a0)), (2, .int x2)]) C 3 2 D_Pr_arrange_41 rfl rfl (by decide) rfl ?_
  refine J_goto (tgt := 12) C D_Pr_arrange_44 (by decide) ?_
  exact J_sub [1, 2, 0] rfl (K12 _ _ _ _ h)
def B_Pr_arrange_12 (k12 : Nat → Int32 → Int32 → Mem → Prop) (post : Mem → Prop) (a0 : Nat) (x2 : Int32) (x3 : Int32) (M : Mem) : Prop := ((10 < x3 → (post M)) ∧ (¬ 10 < x3 → (isK M a0 4 ∧ ∃ q19, gR M a0 3 = some q19 ∧ (¬ x2 = 0 → (isK M a0 4 ∧ T_Pr_lineByFirst a0 x3 M (fun r37 M37 => B_Pr_arrange_40 k12 post a0 x2 x3 r37 x3 q19 M37))) ∧ (x2 = 0 → (isK M a0 4 ∧ T_Pr_lineByLast a0 x3 M (fun r29 M29 => B_Pr_arrange_40 k12 post a0 x2 x3 r29 x3 q19 M29))))))
set_option maxRecDepth 20000 in
theorem Z_Pr_arrange_12 {x : Ctx} {post : Mem → Prop} (C : Ok x b_Pr_arrange 4 "HeapTower$Products") (hR : xR x = rm_Pr_arrange) (Rt : RetV x post 0 0) {k12 : Nat → Int32 → Int32 → Mem → Prop} (K12 : ∀ (a0 : Nat) (x2 : Int32) (x3 : Int32) (M : Mem), k12 a0 x2 x3 M → J x 4 12 [(0, .ref (xd x a0)), (2, .int x2), (3, .int x3)] [] 0 0 M) (a0 : Nat) (x2 : Int32) (x3 : Int32) (M : Mem) (h : B_Pr_arrange_12 k12 post a0 x2 x3 M) : J x 4 12 [(0, .ref (xd x a0)), (2, .int x2), (3, .int x3)] [] 0 0 M := by
  unfold B_Pr_arrange_12 at h
  refine J_iload_n C 3 D_Pr_arrange_12 rfl rfl ?_
  refine J_bipush (v := 10) C D_Pr_arrange_13 rfl ?_
  refine J_icmp_gt (tgt := 47) C D_Pr_arrange_15 (by decide) (fun c_15 => ?_) (fun c_15 => ?_)
  · have h := h.1 c_15
    exact J_vret C Rt D_Pr_arrange_47 h
  · have h := h.2 c_15
    refine J_aload_n C 0 D_Pr_arrange_18 rfl rfl ?_
    obtain ⟨c_19, q19, e_19, h⟩ := h
    refine J_getR C fl_Pr_21 D_Pr_arrange_19 c_19 e_19 ?_
    refine J_iload_n C 3 D_Pr_arrange_22 rfl rfl ?_
    refine J_iload_n C 2 D_Pr_arrange_23 rfl rfl ?_
    refine J_if_ne (tgt := 35) C D_Pr_arrange_24 (by decide) (fun c_24 => ?_) (fun c_24 => ?_)
    · have h := h.1 c_24
      refine J_aload_n C 0 D_Pr_arrange_35 rfl rfl ?_
      refine J_iload_n C 3 D_Pr_arrange_36 rfl rfl ?_
      obtain ⟨c_37, h⟩ := h
      refine J_callVi C ml_Pr_43 (S_Pr_lineByFirst _ _ _ _ h) (by rw [hR]; decide) rfl c_37 rfl (Nat.le_of_ble_eq_true rfl) D_Pr_arrange_37 (fun r37 M37 h => ?_)
      exact J_sub [0, 1, 2] rfl (Z_Pr_arrange_40 C hR Rt K12 _ _ _ _ _ _ _ h)
    · have h := h.2 c_24
      refine J_aload_n C 0 D_Pr_arrange_27 rfl rfl ?_
      refine J_iload_n C 3 D_Pr_arrange_28 rfl rfl ?_
      obtain ⟨c_29, h⟩ := h
      refine J_callVi C ml_Pr_39 (S_Pr_lineByLast _ _ _ _ h) (by rw [hR]; decide) rfl c_29 rfl (Nat.le_of_ble_eq_true rfl) D_Pr_arrange_29 (fun r29 M29 h => ?_)
      refine J_goto (tgt := 40) C D_Pr_arrange_32 (by decide) ?_
      exact J_sub [0, 1, 2] rfl (Z_Pr_arrange_40 C hR Rt K12 _ _ _ _ _ _ _ h)
def L_Pr_arrange_12 (post : Mem → Prop) : Nat → Nat → Int32 → Int32 → Mem → Prop
  | 0, _, _, _, _ => False
  | n + 1, a0, x2, x3, M => B_Pr_arrange_12 (L_Pr_arrange_12 post n) post a0 x2 x3 M
theorem Y_Pr_arrange_12 {x : Ctx} {post : Mem → Prop} (C : Ok x b_Pr_arrange 4 "HeapTower$Products") (hR : xR x = rm_Pr_arrange) (Rt : RetV x post 0 0) : ∀ (n : Nat) (a0 : Nat) (x2 : Int32) (x3 : Int32) (M : Mem), L_Pr_arrange_12 post n a0 x2 x3 M → J x 4 12 [(0, .ref (xd x a0)), (2, .int x2), (3, .int x3)] [] 0 0 M := by
  intro n
  induction n with
  | zero => intro a0 x2 x3 M h; exact h.elim
  | succ n ih => intro a0 x2 x3 M h; exact Z_Pr_arrange_12 C hR Rt ih _ _ _ _ h
def T_Pr_arrange (a0 : Nat) (x1 : Int32) (x2 : Int32) (M : Mem) (post : Mem → Prop) : Prop := (isK M a0 4 ∧ isK (sI M a0 4 x1) a0 4 ∧ ∃ n, L_Pr_arrange_12 post n a0 x2 0 (sI (sI M a0 4 x1) a0 5 x2))
set_option maxRecDepth 20000 in
theorem S_Pr_arrange {l : Launch} {D : va_G} {B t g : Nat} {d : Nat → Nat} {ac : Nat → ClassId}  (a0 : Nat) (x1 : Int32) (x2 : Int32) (M : Mem) (post : Mem → Prop) (h : T_Pr_arrange a0 x1 x2 M post) : Met l y_Pr_arrange w_Pr_arrange rm_Pr_arrange (va_Pc [.ref (d a0), .int x1, .int x2] (PRE D B d g t ac M)) (QV D B d g ac post) 0 0 (AB B) := by
  refine met_v (by decide +kernel) (Nat.le_of_ble_eq_true rfl) (fun x h1 hR h3 h4 h5 h6 h7 h8 C Rt Nm => ?_)
  subst h3 h4 h5 h6 h7 h8
  unfold T_Pr_arrange at h
  show J x 4 0 [(0, .ref (xd x a0)), (1, .int x1), (2, .int x2)] [] 0 0 M
  refine J_aload_n C 0 D_Pr_arrange_0 rfl rfl ?_
  refine J_iload_n C 1 D_Pr_arrange_1 rfl rfl ?_
  obtain ⟨c_2, h⟩ := h
  refine J_putI C fl_Pr_32 D_Pr_arrange_2 c_2 ?_
  refine J_aload_n C 0 D_Pr_arrange_5 rfl rfl ?_
  refine J_iload_n C 2 D_Pr_arrange_6 rfl rfl ?_
  obtain ⟨c_7, h⟩ := h
  refine J_putI C fl_Pr_36 D_Pr_arrange_7 c_7 ?_
  refine J_iconst (v := 0) C D_Pr_arrange_10 rfl ?_
  refine J_istore_n (lv' := [(3, .int 0), (0, .ref (xd x a0)), (1, .int x1), (2, .int x2)]) C 3 D_Pr_arrange_11 rfl (by decide) rfl ?_
  obtain ⟨n, h⟩ := h
  exact J_sub [1, 3, 0] rfl (Y_Pr_arrange_12 C hR Rt  n _ _ _ _ h)
theorem D_Pr_orderNow_0 : decode b_Pr_orderNow 0 = .ok (.aload_n 0, 1) := by decide +kernel
theorem D_Pr_orderNow_1 : decode b_Pr_orderNow 1 = .ok (.getfield 36, 3) := by decide +kernel
theorem D_Pr_orderNow_4 : decode b_Pr_orderNow 4 = .ok (.ireturn, 1) := by decide +kernel
abbrev rm_Pr_orderNow : Room := { frames := 0, cells := 0, slots := 0, locals := 0 }
def T_Pr_orderNow (a0 : Nat) (M : Mem) (post : Int32 → Mem → Prop) : Prop := (isK M a0 4 ∧ post (gI M a0 5) M)
set_option maxRecDepth 20000 in
theorem S_Pr_orderNow {l : Launch} {D : va_G} {B t g : Nat} {d : Nat → Nat} {ac : Nat → ClassId}  (a0 : Nat) (M : Mem) (post : Int32 → Mem → Prop) (h : T_Pr_orderNow a0 M post) : Met l y_Pr_orderNow w_Pr_orderNow rm_Pr_orderNow (va_Pc [.ref (d a0)] (PRE D B d g t ac M)) (QI D B d g ac post) 0 0 (AB B) := by
  refine met_i (by decide +kernel) (Nat.le_of_ble_eq_true rfl) (fun x h1 hR h3 h4 h5 h6 h7 h8 C Rt => ?_)
  subst h3 h4 h5 h6 h7 h8
  unfold T_Pr_orderNow at h
  show J x 1 0 [(0, .ref (xd x a0))] [] 0 0 M
  refine J_aload_n C 0 D_Pr_orderNow_0 rfl rfl ?_
  obtain ⟨c_1, h⟩ := h
  refine J_getI C fl_Pr_36 D_Pr_orderNow_1 c_1 ?_
  exact J_iret C Rt D_Pr_orderNow_4 rfl h
theorem D_Pr_letterCount_0 : decode b_Pr_letterCount 0 = .ok (.aload_n 0, 1) := by decide +kernel
theorem D_Pr_letterCount_1 : decode b_Pr_letterCount 1 = .ok (.getfield 32, 3) := by decide +kernel
theorem D_Pr_letterCount_4 : decode b_Pr_letterCount 4 = .ok (.ireturn, 1) := by decide +kernel
abbrev rm_Pr_letterCount : Room := { frames := 0, cells := 0, slots := 0, locals := 0 }
def T_Pr_letterCount (a0 : Nat) (M : Mem) (post : Int32 → Mem → Prop) : Prop := (isK M a0 4 ∧ post (gI M a0 4) M)
set_option maxRecDepth 20000 in
theorem S_Pr_letterCount {l : Launch} {D : va_G} {B t g : Nat} {d : Nat → Nat} {ac : Nat → ClassId}  (a0 : Nat) (M : Mem) (post : Int32 → Mem → Prop) (h : T_Pr_letterCount a0 M post) : Met l y_Pr_letterCount w_Pr_letterCount rm_Pr_letterCount (va_Pc [.ref (d a0)] (PRE D B d g t ac M)) (QI D B d g ac post) 0 0 (AB B) := by
  refine met_i (by decide +kernel) (Nat.le_of_ble_eq_true rfl) (fun x h1 hR h3 h4 h5 h6 h7 h8 C Rt => ?_)
  subst h3 h4 h5 h6 h7 h8
  unfold T_Pr_letterCount at h
  show J x 1 0 [(0, .ref (xd x a0))] [] 0 0 M
  refine J_aload_n C 0 D_Pr_letterCount_0 rfl rfl ?_
  obtain ⟨c_1, h⟩ := h
  refine J_getI C fl_Pr_32 D_Pr_letterCount_1 c_1 ?_
  exact J_iret C Rt D_Pr_letterCount_4 rfl h
theorem D_Pr_amount_0 : decode b_Pr_amount 0 = .ok (.aload_n 0, 1) := by decide +kernel
theorem D_Pr_amount_1 : decode b_Pr_amount 1 = .ok (.getfield 21, 3) := by decide +kernel
theorem D_Pr_amount_4 : decode b_Pr_amount 4 = .ok (.iload_n 1, 1) := by decide +kernel
theorem D_Pr_amount_5 : decode b_Pr_amount 5 = .ok (.iaload, 1) := by decide +kernel
theorem D_Pr_amount_6 : decode b_Pr_amount 6 = .ok (.ireturn, 1) := by decide +kernel
abbrev rm_Pr_amount : Room := { frames := 0, cells := 0, slots := 0, locals := 0 }
def T_Pr_amount (a0 : Nat) (x1 : Int32) (M : Mem) (post : Int32 → Mem → Prop) : Prop := (isK M a0 4 ∧ ∃ q1, gR M a0 3 = some q1 ∧ isA M q1 8 x1 ∧ post (gI M q1 (Int32.toNatClampNeg x1)) M)
set_option maxRecDepth 20000 in
theorem S_Pr_amount {l : Launch} {D : va_G} {B t g : Nat} {d : Nat → Nat} {ac : Nat → ClassId}  (a0 : Nat) (x1 : Int32) (M : Mem) (post : Int32 → Mem → Prop) (h : T_Pr_amount a0 x1 M post) : Met l y_Pr_amount w_Pr_amount rm_Pr_amount (va_Pc [.ref (d a0), .int x1] (PRE D B d g t ac M)) (QI D B d g ac post) 0 0 (AB B) := by
  refine met_i (by decide +kernel) (Nat.le_of_ble_eq_true rfl) (fun x h1 hR h3 h4 h5 h6 h7 h8 C Rt => ?_)
  subst h3 h4 h5 h6 h7 h8
  unfold T_Pr_amount at h
  show J x 2 0 [(0, .ref (xd x a0)), (1, .int x1)] [] 0 0 M
  refine J_aload_n C 0 D_Pr_amount_0 rfl rfl ?_
  obtain ⟨c_1, q1, e_1, h⟩ := h
  refine J_getR C fl_Pr_21 D_Pr_amount_1 c_1 e_1 ?_
  refine J_iload_n C 1 D_Pr_amount_4 rfl rfl ?_
  obtain ⟨c_5, h⟩ := h
  refine J_iald C D_Pr_amount_5 c_5 ?_
  exact J_iret C Rt D_Pr_amount_6 rfl h
theorem D_Pr_at_0 : decode b_Pr_at 0 = .ok (.aload_n 0, 1) := by decide +kernel
theorem D_Pr_at_1 : decode b_Pr_at 1 = .ok (.getfield 18, 3) := by decide +kernel
theorem D_Pr_at_4 : decode b_Pr_at 4 = .ok (.getstatic 46, 3) := by decide +kernel
theorem D_Pr_at_7 : decode b_Pr_at 7 = .ok (.iload_n 1, 1) := by decide +kernel
theorem D_Pr_at_8 : decode b_Pr_at 8 = .ok (.iaload, 1) := by decide +kernel
theorem D_Pr_at_9 : decode b_Pr_at 9 = .ok (.iload_n 2, 1) := by decide +kernel
theorem D_Pr_at_10 : decode b_Pr_at 10 = .ok (.iadd, 1) := by decide +kernel
theorem D_Pr_at_11 : decode b_Pr_at 11 = .ok (.iaload, 1) := by decide +kernel
theorem D_Pr_at_12 : decode b_Pr_at 12 = .ok (.ireturn, 1) := by decide +kernel
abbrev rm_Pr_at : Room := { frames := 0, cells := 0, slots := 0, locals := 0 }
def T_Pr_at (a0 : Nat) (x1 : Int32) (x2 : Int32) (M : Mem) (post : Int32 → Mem → Prop) : Prop := (isK M a0 4 ∧ ∃ q1, gR M a0 2 = some q1 ∧ vp_in x1 12 ∧ isA M q1 8 ((fst (Int32.toNatClampNeg x1)) + x2) ∧ post (gI M q1 (Int32.toNatClampNeg ((fst (Int32.toNatClampNeg x1)) + x2))) M)
set_option maxRecDepth 20000 in
theorem S_Pr_at {l : Launch} {D : va_G} {B t g : Nat} {d : Nat → Nat} {ac : Nat → ClassId}  (a0 : Nat) (x1 : Int32) (x2 : Int32) (M : Mem) (post : Int32 → Mem → Prop) (h : T_Pr_at a0 x1 x2 M post) : Met l y_Pr_at w_Pr_at rm_Pr_at (va_Pc [.ref (d a0), .int x1, .int x2] (PRE D B d g t ac M)) (QI D B d g ac post) 0 0 (AB B) := by
  refine met_i (by decide +kernel) (Nat.le_of_ble_eq_true rfl) (fun x h1 hR h3 h4 h5 h6 h7 h8 C Rt => ?_)
  subst h3 h4 h5 h6 h7 h8
  unfold T_Pr_at at h
  show J x 3 0 [(0, .ref (xd x a0)), (1, .int x1), (2, .int x2)] [] 0 0 M
  refine J_aload_n C 0 D_Pr_at_0 rfl rfl ?_
  obtain ⟨c_1, q1, e_1, h⟩ := h
  refine J_getR C fl_Pr_18 D_Pr_at_1 c_1 e_1 ?_
  refine J_first C (by decide) D_Pr_at_4 ?_
  refine J_iload_n C 1 D_Pr_at_7 rfl rfl ?_
  obtain ⟨c_8, h⟩ := h
  refine J_fald C D_Pr_at_8 c_8 ?_
  refine J_iload_n C 2 D_Pr_at_9 rfl rfl ?_
  refine J_iadd C D_Pr_at_10 ?_
  obtain ⟨c_11, h⟩ := h
  refine J_iald C D_Pr_at_11 c_11 ?_
  exact J_iret C Rt D_Pr_at_12 rfl h
theorem D_Pr_power_0 : decode b_Pr_power 0 = .ok (.iload_n 3, 1) := by decide +kernel
theorem D_Pr_power_1 : decode b_Pr_power 1 = .ok (.ifCond .ne 19, 3) := by decide +kernel
theorem D_Pr_power_4 : decode b_Pr_power 4 = .ok (.iload_n 1, 1) := by decide +kernel
theorem D_Pr_power_5 : decode b_Pr_power 5 = .ok (.aload_n 0, 1) := by decide +kernel
theorem D_Pr_power_6 : decode b_Pr_power 6 = .ok (.getfield 9, 3) := by decide +kernel
theorem D_Pr_power_9 : decode b_Pr_power 9 = .ok (.iload_n 2, 1) := by decide +kernel
theorem D_Pr_power_10 : decode b_Pr_power 10 = .ok (.iaload, 1) := by decide +kernel
theorem D_Pr_power_11 : decode b_Pr_power 11 = .ok (.isub, 1) := by decide +kernel
theorem D_Pr_power_12 : decode b_Pr_power 12 = .ok (.aload_n 0, 1) := by decide +kernel
theorem D_Pr_power_13 : decode b_Pr_power 13 = .ok (.getfield 15, 3) := by decide +kernel
theorem D_Pr_power_16 : decode b_Pr_power 16 = .ok (.iload_n 2, 1) := by decide +kernel
theorem D_Pr_power_17 : decode b_Pr_power 17 = .ok (.iaload, 1) := by decide +kernel
theorem D_Pr_power_18 : decode b_Pr_power 18 = .ok (.isub, 1) := by decide +kernel
theorem D_Pr_power_19 : decode b_Pr_power 19 = .ok (.ireturn, 1) := by decide +kernel
theorem D_Pr_power_20 : decode b_Pr_power 20 = .ok (.iload_n 3, 1) := by decide +kernel
theorem D_Pr_power_21 : decode b_Pr_power 21 = .ok (.iconst 1, 1) := by decide +kernel
theorem D_Pr_power_22 : decode b_Pr_power 22 = .ok (.if_icmp .ne 12, 3) := by decide +kernel
theorem D_Pr_power_25 : decode b_Pr_power 25 = .ok (.aload_n 0, 1) := by decide +kernel
theorem D_Pr_power_26 : decode b_Pr_power 26 = .ok (.getfield 9, 3) := by decide +kernel
theorem D_Pr_power_29 : decode b_Pr_power 29 = .ok (.iload_n 2, 1) := by decide +kernel
theorem D_Pr_power_30 : decode b_Pr_power 30 = .ok (.iaload, 1) := by decide +kernel
theorem D_Pr_power_31 : decode b_Pr_power 31 = .ok (.goto 9, 3) := by decide +kernel
theorem D_Pr_power_34 : decode b_Pr_power 34 = .ok (.aload_n 0, 1) := by decide +kernel
theorem D_Pr_power_35 : decode b_Pr_power 35 = .ok (.getfield 15, 3) := by decide +kernel
theorem D_Pr_power_38 : decode b_Pr_power 38 = .ok (.iload_n 2, 1) := by decide +kernel
theorem D_Pr_power_39 : decode b_Pr_power 39 = .ok (.iaload, 1) := by decide +kernel
theorem D_Pr_power_40 : decode b_Pr_power 40 = .ok (.ireturn, 1) := by decide +kernel
abbrev rm_Pr_power : Room := { frames := 0, cells := 0, slots := 0, locals := 0 }
def B_Pr_power_40 (post : Int32 → Mem → Prop) (s0 : Int32) (M : Mem) : Prop := (post s0 M)
set_option maxRecDepth 20000 in
theorem Z_Pr_power_40 {x : Ctx} {post : Int32 → Mem → Prop} (C : Ok x b_Pr_power 4 "HeapTower$Products") (hR : xR x = rm_Pr_power) (Rt : RetI x .int post 0 0) (s0 : Int32) (M : Mem) (h : B_Pr_power_40 post s0 M) : J x 4 40 [] [.int s0] 0 0 M := by
  unfold B_Pr_power_40 at h
  exact J_iret C Rt D_Pr_power_40 rfl h
def T_Pr_power (a0 : Nat) (x1 : Int32) (x2 : Int32) (x3 : Int32) (M : Mem) (post : Int32 → Mem → Prop) : Prop := ((¬ x3 = 0 → ((¬ x3 = 1 → (isK M a0 4 ∧ ∃ q35, gR M a0 1 = some q35 ∧ isA M q35 8 x2 ∧ B_Pr_power_40 post (gI M q35 (Int32.toNatClampNeg x2)) M)) ∧ (x3 = 1 → (isK M a0 4 ∧ ∃ q26, gR M a0 0 = some q26 ∧ isA M q26 8 x2 ∧ B_Pr_power_40 post (gI M q26 (Int32.toNatClampNeg x2)) M)))) ∧ (x3 = 0 → (isK M a0 4 ∧ ∃ q6, gR M a0 0 = some q6 ∧ isA M q6 8 x2 ∧ isK M a0 4 ∧ ∃ q13, gR M a0 1 = some q13 ∧ isA M q13 8 x2 ∧ post ((x1 - (gI M q6 (Int32.toNatClampNeg x2))) - (gI M q13 (Int32.toNatClampNeg x2))) M)))
set_option maxRecDepth 20000 in
theorem S_Pr_power {l : Launch} {D : va_G} {B t g : Nat} {d : Nat → Nat} {ac : Nat → ClassId}  (a0 : Nat) (x1 : Int32) (x2 : Int32) (x3 : Int32) (M : Mem) (post : Int32 → Mem → Prop) (h : T_Pr_power a0 x1 x2 x3 M post) : Met l y_Pr_power w_Pr_power rm_Pr_power (va_Pc [.ref (d a0), .int x1, .int x2, .int x3] (PRE D B d g t ac M)) (QI D B d g ac post) 0 0 (AB B) := by
  refine met_i (by decide +kernel) (Nat.le_of_ble_eq_true rfl) (fun x h1 hR h3 h4 h5 h6 h7 h8 C Rt => ?_)
  subst h3 h4 h5 h6 h7 h8
  unfold T_Pr_power at h
  show J x 4 0 [(0, .ref (xd x a0)), (1, .int x1), (2, .int x2), (3, .int x3)] [] 0 0 M
  refine J_iload_n C 3 D_Pr_power_0 rfl rfl ?_
  refine J_if_ne (tgt := 20) C D_Pr_power_1 (by decide) (fun c_1 => ?_) (fun c_1 => ?_)
  · have h := h.1 c_1
    refine J_iload_n C 3 D_Pr_power_20 rfl rfl ?_
    refine J_iconst (v := 1) C D_Pr_power_21 rfl ?_
    refine J_icmp_ne (tgt := 34) C D_Pr_power_22 (by decide) (fun c_22 => ?_) (fun c_22 => ?_)
    · have h := h.1 c_22
      refine J_aload_n C 0 D_Pr_power_34 rfl rfl ?_
      obtain ⟨c_35, q35, e_35, h⟩ := h
      refine J_getR C fl_Pr_15 D_Pr_power_35 c_35 e_35 ?_
      refine J_iload_n C 2 D_Pr_power_38 rfl rfl ?_
      obtain ⟨c_39, h⟩ := h
      refine J_iald C D_Pr_power_39 c_39 ?_
      exact J_sub [] rfl (Z_Pr_power_40 C hR Rt  _ _ h)
    · have h := h.2 c_22
      refine J_aload_n C 0 D_Pr_power_25 rfl rfl ?_
      obtain ⟨c_26, q26, e_26, h⟩ := h
      refine J_getR C fl_Pr_9 D_Pr_power_26 c_26 e_26 ?_
      refine J_iload_n C 2 D_Pr_power_29 rfl rfl ?_
      obtain ⟨c_30, h⟩ := h
      refine J_iald C D_Pr_power_30 c_30 ?_
      refine J_goto (tgt := 40) C D_Pr_power_31 (by decide) ?_
      exact J_sub [] rfl (Z_Pr_power_40 C hR Rt  _ _ h)
  · have h := h.2 c_1
    refine J_iload_n C 1 D_Pr_power_4 rfl rfl ?_
    refine J_aload_n C 0 D_Pr_power_5 rfl rfl ?_
    obtain ⟨c_6, q6, e_6, h⟩ := h
    refine J_getR C fl_Pr_9 D_Pr_power_6 c_6 e_6 ?_
    refine J_iload_n C 2 D_Pr_power_9 rfl rfl ?_
    obtain ⟨c_10, h⟩ := h
    refine J_iald C D_Pr_power_10 c_10 ?_
    refine J_isub C D_Pr_power_11 ?_
    refine J_aload_n C 0 D_Pr_power_12 rfl rfl ?_
    obtain ⟨c_13, q13, e_13, h⟩ := h
    refine J_getR C fl_Pr_15 D_Pr_power_13 c_13 e_13 ?_
    refine J_iload_n C 2 D_Pr_power_16 rfl rfl ?_
    obtain ⟨c_17, h⟩ := h
    refine J_iald C D_Pr_power_17 c_17 ?_
    refine J_isub C D_Pr_power_18 ?_
    exact J_iret C Rt D_Pr_power_19 rfl h
theorem D_Pr_together_0 : decode b_Pr_together 0 = .ok (.aload_n 0, 1) := by decide +kernel
theorem D_Pr_together_1 : decode b_Pr_together 1 = .ok (.getfield 9, 3) := by decide +kernel
theorem D_Pr_together_4 : decode b_Pr_together 4 = .ok (.iload_n 1, 1) := by decide +kernel
theorem D_Pr_together_5 : decode b_Pr_together 5 = .ok (.iaload, 1) := by decide +kernel
theorem D_Pr_together_6 : decode b_Pr_together 6 = .ok (.aload_n 0, 1) := by decide +kernel
theorem D_Pr_together_7 : decode b_Pr_together 7 = .ok (.getfield 9, 3) := by decide +kernel
theorem D_Pr_together_10 : decode b_Pr_together 10 = .ok (.iload_n 2, 1) := by decide +kernel
theorem D_Pr_together_11 : decode b_Pr_together 11 = .ok (.iaload, 1) := by decide +kernel
theorem D_Pr_together_12 : decode b_Pr_together 12 = .ok (.iadd, 1) := by decide +kernel
theorem D_Pr_together_13 : decode b_Pr_together 13 = .ok (.aload_n 0, 1) := by decide +kernel
theorem D_Pr_together_14 : decode b_Pr_together 14 = .ok (.getfield 15, 3) := by decide +kernel
theorem D_Pr_together_17 : decode b_Pr_together 17 = .ok (.iload_n 1, 1) := by decide +kernel
theorem D_Pr_together_18 : decode b_Pr_together 18 = .ok (.iaload, 1) := by decide +kernel
theorem D_Pr_together_19 : decode b_Pr_together 19 = .ok (.aload_n 0, 1) := by decide +kernel
theorem D_Pr_together_20 : decode b_Pr_together 20 = .ok (.getfield 15, 3) := by decide +kernel
theorem D_Pr_together_23 : decode b_Pr_together 23 = .ok (.iload_n 2, 1) := by decide +kernel
theorem D_Pr_together_24 : decode b_Pr_together 24 = .ok (.iaload, 1) := by decide +kernel
theorem D_Pr_together_25 : decode b_Pr_together 25 = .ok (.iadd, 1) := by decide +kernel
theorem D_Pr_together_26 : decode b_Pr_together 26 = .ok (.invokestatic 24, 3) := by decide +kernel
theorem D_Pr_together_29 : decode b_Pr_together 29 = .ok (.ireturn, 1) := by decide +kernel
abbrev rm_Pr_together : Room := { frames := 1, cells := 0, slots := 0, locals := 21 }
def T_Pr_together (a0 : Nat) (x1 : Int32) (x2 : Int32) (M : Mem) (post : Int32 → Mem → Prop) : Prop := (isK M a0 4 ∧ ∃ q1, gR M a0 0 = some q1 ∧ isA M q1 8 x1 ∧ isK M a0 4 ∧ ∃ q7, gR M a0 0 = some q7 ∧ isA M q7 8 x2 ∧ isK M a0 4 ∧ ∃ q14, gR M a0 1 = some q14 ∧ isA M q14 8 x1 ∧ isK M a0 4 ∧ ∃ q20, gR M a0 1 = some q20 ∧ isA M q20 8 x2 ∧ T_Pr_place ((gI M q1 (Int32.toNatClampNeg x1)) + (gI M q7 (Int32.toNatClampNeg x2))) ((gI M q14 (Int32.toNatClampNeg x1)) + (gI M q20 (Int32.toNatClampNeg x2))) M (fun r26 M26 => post r26 M26))
set_option maxRecDepth 20000 in
theorem S_Pr_together {l : Launch} {D : va_G} {B t g : Nat} {d : Nat → Nat} {ac : Nat → ClassId}  (a0 : Nat) (x1 : Int32) (x2 : Int32) (M : Mem) (post : Int32 → Mem → Prop) (h : T_Pr_together a0 x1 x2 M post) : Met l y_Pr_together w_Pr_together rm_Pr_together (va_Pc [.ref (d a0), .int x1, .int x2] (PRE D B d g t ac M)) (QI D B d g ac post) 0 0 (AB B) := by
  refine met_i (by decide +kernel) (Nat.le_of_ble_eq_true rfl) (fun x h1 hR h3 h4 h5 h6 h7 h8 C Rt => ?_)
  subst h3 h4 h5 h6 h7 h8
  unfold T_Pr_together at h
  show J x 3 0 [(0, .ref (xd x a0)), (1, .int x1), (2, .int x2)] [] 0 0 M
  refine J_aload_n C 0 D_Pr_together_0 rfl rfl ?_
  obtain ⟨c_1, q1, e_1, h⟩ := h
  refine J_getR C fl_Pr_9 D_Pr_together_1 c_1 e_1 ?_
  refine J_iload_n C 1 D_Pr_together_4 rfl rfl ?_
  obtain ⟨c_5, h⟩ := h
  refine J_iald C D_Pr_together_5 c_5 ?_
  refine J_aload_n C 0 D_Pr_together_6 rfl rfl ?_
  obtain ⟨c_7, q7, e_7, h⟩ := h
  refine J_getR C fl_Pr_9 D_Pr_together_7 c_7 e_7 ?_
  refine J_iload_n C 2 D_Pr_together_10 rfl rfl ?_
  obtain ⟨c_11, h⟩ := h
  refine J_iald C D_Pr_together_11 c_11 ?_
  refine J_iadd C D_Pr_together_12 ?_
  refine J_aload_n C 0 D_Pr_together_13 rfl rfl ?_
  obtain ⟨c_14, q14, e_14, h⟩ := h
  refine J_getR C fl_Pr_15 D_Pr_together_14 c_14 e_14 ?_
  refine J_iload_n C 1 D_Pr_together_17 rfl rfl ?_
  obtain ⟨c_18, h⟩ := h
  refine J_iald C D_Pr_together_18 c_18 ?_
  refine J_aload_n C 0 D_Pr_together_19 rfl rfl ?_
  obtain ⟨c_20, q20, e_20, h⟩ := h
  refine J_getR C fl_Pr_15 D_Pr_together_20 c_20 e_20 ?_
  refine J_iload_n C 2 D_Pr_together_23 rfl rfl ?_
  obtain ⟨c_24, h⟩ := h
  refine J_iald C D_Pr_together_24 c_24 ?_
  refine J_iadd C D_Pr_together_25 ?_
  refine J_callSi C ml_Pr_24 (S_Pr_place _ _ _ _ h) (by rw [hR]; decide) rfl rfl (Nat.le_of_ble_eq_true rfl) D_Pr_together_26 (fun r26 M26 h => ?_)
  exact J_iret C Rt D_Pr_together_29 rfl h
theorem D_Pr_lowered_0 : decode b_Pr_lowered 0 = .ok (.aload_n 0, 1) := by decide +kernel
theorem D_Pr_lowered_1 : decode b_Pr_lowered 1 = .ok (.getfield 9, 3) := by decide +kernel
theorem D_Pr_lowered_4 : decode b_Pr_lowered 4 = .ok (.iload_n 1, 1) := by decide +kernel
theorem D_Pr_lowered_5 : decode b_Pr_lowered 5 = .ok (.iaload, 1) := by decide +kernel
theorem D_Pr_lowered_6 : decode b_Pr_lowered 6 = .ok (.iload_n 2, 1) := by decide +kernel
theorem D_Pr_lowered_7 : decode b_Pr_lowered 7 = .ok (.iconst 1, 1) := by decide +kernel
theorem D_Pr_lowered_8 : decode b_Pr_lowered 8 = .ok (.if_icmp .ne 7, 3) := by decide +kernel
theorem D_Pr_lowered_11 : decode b_Pr_lowered 11 = .ok (.iconst 1, 1) := by decide +kernel
theorem D_Pr_lowered_12 : decode b_Pr_lowered 12 = .ok (.goto 4, 3) := by decide +kernel
theorem D_Pr_lowered_15 : decode b_Pr_lowered 15 = .ok (.iconst 0, 1) := by decide +kernel
theorem D_Pr_lowered_16 : decode b_Pr_lowered 16 = .ok (.isub, 1) := by decide +kernel
theorem D_Pr_lowered_17 : decode b_Pr_lowered 17 = .ok (.aload_n 0, 1) := by decide +kernel
theorem D_Pr_lowered_18 : decode b_Pr_lowered 18 = .ok (.getfield 15, 3) := by decide +kernel
theorem D_Pr_lowered_21 : decode b_Pr_lowered 21 = .ok (.iload_n 1, 1) := by decide +kernel
theorem D_Pr_lowered_22 : decode b_Pr_lowered 22 = .ok (.iaload, 1) := by decide +kernel
theorem D_Pr_lowered_23 : decode b_Pr_lowered 23 = .ok (.iload_n 2, 1) := by decide +kernel
theorem D_Pr_lowered_24 : decode b_Pr_lowered 24 = .ok (.iconst 2, 1) := by decide +kernel
theorem D_Pr_lowered_25 : decode b_Pr_lowered 25 = .ok (.if_icmp .ne 7, 3) := by decide +kernel
theorem D_Pr_lowered_28 : decode b_Pr_lowered 28 = .ok (.iconst 1, 1) := by decide +kernel
theorem D_Pr_lowered_29 : decode b_Pr_lowered 29 = .ok (.goto 4, 3) := by decide +kernel
theorem D_Pr_lowered_32 : decode b_Pr_lowered 32 = .ok (.iconst 0, 1) := by decide +kernel
theorem D_Pr_lowered_33 : decode b_Pr_lowered 33 = .ok (.isub, 1) := by decide +kernel
theorem D_Pr_lowered_34 : decode b_Pr_lowered 34 = .ok (.invokestatic 24, 3) := by decide +kernel
theorem D_Pr_lowered_37 : decode b_Pr_lowered 37 = .ok (.ireturn, 1) := by decide +kernel
abbrev rm_Pr_lowered : Room := { frames := 1, cells := 0, slots := 0, locals := 21 }
def B_Pr_lowered_33 (post : Int32 → Mem → Prop) (s0 : Int32) (s1 : Int32) (s2 : Int32) (M : Mem) : Prop := (T_Pr_place s2 (s1 - s0) M (fun r34 M34 => post r34 M34))
set_option maxRecDepth 20000 in
theorem Z_Pr_lowered_33 {x : Ctx} {post : Int32 → Mem → Prop} (C : Ok x b_Pr_lowered 3 "HeapTower$Products") (hR : xR x = rm_Pr_lowered) (Rt : RetI x .int post 0 0) (s0 : Int32) (s1 : Int32) (s2 : Int32) (M : Mem) (h : B_Pr_lowered_33 post s0 s1 s2 M) : J x 3 33 [] [.int s0, .int s1, .int s2] 0 0 M := by
  unfold B_Pr_lowered_33 at h
  refine J_isub C D_Pr_lowered_33 ?_
  refine J_callSi C ml_Pr_24 (S_Pr_place _ _ _ _ h) (by rw [hR]; decide) rfl rfl (Nat.le_of_ble_eq_true rfl) D_Pr_lowered_34 (fun r34 M34 h => ?_)
  exact J_iret C Rt D_Pr_lowered_37 rfl h
def B_Pr_lowered_16 (post : Int32 → Mem → Prop) (a0 : Nat) (x1 : Int32) (x2 : Int32) (s0 : Int32) (s1 : Int32) (M : Mem) : Prop := (isK M a0 4 ∧ ∃ q18, gR M a0 1 = some q18 ∧ isA M q18 8 x1 ∧ (¬ x2 = 2 → (B_Pr_lowered_33 post 0 (gI M q18 (Int32.toNatClampNeg x1)) (s1 - s0) M)) ∧ (x2 = 2 → (B_Pr_lowered_33 post 1 (gI M q18 (Int32.toNatClampNeg x1)) (s1 - s0) M)))
set_option maxRecDepth 20000 in
theorem Z_Pr_lowered_16 {x : Ctx} {post : Int32 → Mem → Prop} (C : Ok x b_Pr_lowered 3 "HeapTower$Products") (hR : xR x = rm_Pr_lowered) (Rt : RetI x .int post 0 0) (a0 : Nat) (x1 : Int32) (x2 : Int32) (s0 : Int32) (s1 : Int32) (M : Mem) (h : B_Pr_lowered_16 post a0 x1 x2 s0 s1 M) : J x 3 16 [(0, .ref (xd x a0)), (1, .int x1), (2, .int x2)] [.int s0, .int s1] 0 0 M := by
  unfold B_Pr_lowered_16 at h
  refine J_isub C D_Pr_lowered_16 ?_
  refine J_aload_n C 0 D_Pr_lowered_17 rfl rfl ?_
  obtain ⟨c_18, q18, e_18, h⟩ := h
  refine J_getR C fl_Pr_15 D_Pr_lowered_18 c_18 e_18 ?_
  refine J_iload_n C 1 D_Pr_lowered_21 rfl rfl ?_
  obtain ⟨c_22, h⟩ := h
  refine J_iald C D_Pr_lowered_22 c_22 ?_
  refine J_iload_n C 2 D_Pr_lowered_23 rfl rfl ?_
  refine J_iconst (v := 2) C D_Pr_lowered_24 rfl ?_
  refine J_icmp_ne (tgt := 32) C D_Pr_lowered_25 (by decide) (fun c_25 => ?_) (fun c_25 => ?_)
  · have h := h.1 c_25
    refine J_iconst (v := 0) C D_Pr_lowered_32 rfl ?_
    exact J_sub [] rfl (Z_Pr_lowered_33 C hR Rt  _ _ _ _ h)
  · have h := h.2 c_25
    refine J_iconst (v := 1) C D_Pr_lowered_28 rfl ?_
    refine J_goto (tgt := 33) C D_Pr_lowered_29 (by decide) ?_
    exact J_sub [] rfl (Z_Pr_lowered_33 C hR Rt  _ _ _ _ h)
def T_Pr_lowered (a0 : Nat) (x1 : Int32) (x2 : Int32) (M : Mem) (post : Int32 → Mem → Prop) : Prop := (isK M a0 4 ∧ ∃ q1, gR M a0 0 = some q1 ∧ isA M q1 8 x1 ∧ (¬ x2 = 1 → (B_Pr_lowered_16 post a0 x1 x2 0 (gI M q1 (Int32.toNatClampNeg x1)) M)) ∧ (x2 = 1 → (B_Pr_lowered_16 post a0 x1 x2 1 (gI M q1 (Int32.toNatClampNeg x1)) M)))
set_option maxRecDepth 20000 in
theorem S_Pr_lowered {l : Launch} {D : va_G} {B t g : Nat} {d : Nat → Nat} {ac : Nat → ClassId}  (a0 : Nat) (x1 : Int32) (x2 : Int32) (M : Mem) (post : Int32 → Mem → Prop) (h : T_Pr_lowered a0 x1 x2 M post) : Met l y_Pr_lowered w_Pr_lowered rm_Pr_lowered (va_Pc [.ref (d a0), .int x1, .int x2] (PRE D B d g t ac M)) (QI D B d g ac post) 0 0 (AB B) := by
  refine met_i (by decide +kernel) (Nat.le_of_ble_eq_true rfl) (fun x h1 hR h3 h4 h5 h6 h7 h8 C Rt => ?_)
  subst h3 h4 h5 h6 h7 h8
  unfold T_Pr_lowered at h
  show J x 3 0 [(0, .ref (xd x a0)), (1, .int x1), (2, .int x2)] [] 0 0 M
  refine J_aload_n C 0 D_Pr_lowered_0 rfl rfl ?_
  obtain ⟨c_1, q1, e_1, h⟩ := h
  refine J_getR C fl_Pr_9 D_Pr_lowered_1 c_1 e_1 ?_
  refine J_iload_n C 1 D_Pr_lowered_4 rfl rfl ?_
  obtain ⟨c_5, h⟩ := h
  refine J_iald C D_Pr_lowered_5 c_5 ?_
  refine J_iload_n C 2 D_Pr_lowered_6 rfl rfl ?_
  refine J_iconst (v := 1) C D_Pr_lowered_7 rfl ?_
  refine J_icmp_ne (tgt := 15) C D_Pr_lowered_8 (by decide) (fun c_8 => ?_) (fun c_8 => ?_)
  · have h := h.1 c_8
    refine J_iconst (v := 0) C D_Pr_lowered_15 rfl ?_
    exact J_sub [0, 1, 2] rfl (Z_Pr_lowered_16 C hR Rt  _ _ _ _ _ _ h)
  · have h := h.2 c_8
    refine J_iconst (v := 1) C D_Pr_lowered_11 rfl ?_
    refine J_goto (tgt := 16) C D_Pr_lowered_12 (by decide) ?_
    exact J_sub [0, 1, 2] rfl (Z_Pr_lowered_16 C hR Rt  _ _ _ _ _ _ h)
theorem D_Pr_isZero_0 : decode b_Pr_isZero 0 = .ok (.iconst 0, 1) := by decide +kernel
theorem D_Pr_isZero_1 : decode b_Pr_isZero 1 = .ok (.istore_n 3, 1) := by decide +kernel
theorem D_Pr_isZero_2 : decode b_Pr_isZero 2 = .ok (.iload_n 3, 1) := by decide +kernel
theorem D_Pr_isZero_3 : decode b_Pr_isZero 3 = .ok (.aload_n 0, 1) := by decide +kernel
theorem D_Pr_isZero_4 : decode b_Pr_isZero 4 = .ok (.getfield 21, 3) := by decide +kernel
theorem D_Pr_isZero_7 : decode b_Pr_isZero 7 = .ok (.iload_n 1, 1) := by decide +kernel
theorem D_Pr_isZero_8 : decode b_Pr_isZero 8 = .ok (.iaload, 1) := by decide +kernel
theorem D_Pr_isZero_9 : decode b_Pr_isZero 9 = .ok (.if_icmp .ge 22, 3) := by decide +kernel
theorem D_Pr_isZero_12 : decode b_Pr_isZero 12 = .ok (.aload_n 2, 1) := by decide +kernel
theorem D_Pr_isZero_13 : decode b_Pr_isZero 13 = .ok (.aload_n 0, 1) := by decide +kernel
theorem D_Pr_isZero_14 : decode b_Pr_isZero 14 = .ok (.iload_n 1, 1) := by decide +kernel
theorem D_Pr_isZero_15 : decode b_Pr_isZero 15 = .ok (.iload_n 3, 1) := by decide +kernel
theorem D_Pr_isZero_16 : decode b_Pr_isZero 16 = .ok (.invokevirtual 49, 3) := by decide +kernel
theorem D_Pr_isZero_19 : decode b_Pr_isZero 19 = .ok (.iaload, 1) := by decide +kernel
theorem D_Pr_isZero_20 : decode b_Pr_isZero 20 = .ok (.ifCond .eq 5, 3) := by decide +kernel
theorem D_Pr_isZero_23 : decode b_Pr_isZero 23 = .ok (.iconst 0, 1) := by decide +kernel
theorem D_Pr_isZero_24 : decode b_Pr_isZero 24 = .ok (.ireturn, 1) := by decide +kernel
theorem D_Pr_isZero_25 : decode b_Pr_isZero 25 = .ok (.iinc 3 1, 3) := by decide +kernel
theorem D_Pr_isZero_28 : decode b_Pr_isZero 28 = .ok (.goto (-26), 3) := by decide +kernel
theorem D_Pr_isZero_31 : decode b_Pr_isZero 31 = .ok (.iconst 1, 1) := by decide +kernel
theorem D_Pr_isZero_32 : decode b_Pr_isZero 32 = .ok (.ireturn, 1) := by decide +kernel
abbrev rm_Pr_isZero : Room := { frames := 1, cells := 0, slots := 0, locals := 22 }
def B_Pr_isZero_2 (k2 : Nat → Int32 → Nat → Int32 → Mem → Prop) (post : Int32 → Mem → Prop) (a0 : Nat) (x1 : Int32) (a2 : Nat) (x3 : Int32) (M : Mem) : Prop := (isK M a0 4 ∧ ∃ q4, gR M a0 3 = some q4 ∧ isA M q4 8 x1 ∧ ((gI M q4 (Int32.toNatClampNeg x1)) ≤ x3 → (narrow .boolean (.int 1) = .int 1 ∧ post 1 M)) ∧ (¬ (gI M q4 (Int32.toNatClampNeg x1)) ≤ x3 → (isK M a0 4 ∧ T_Pr_at a0 x1 x3 M (fun r16 M16 => isA M16 a2 8 r16 ∧ ((gI M16 a2 (Int32.toNatClampNeg r16)) = 0 → (k2 a0 x1 a2 (x3 + 1) M16)) ∧ (¬ (gI M16 a2 (Int32.toNatClampNeg r16)) = 0 → (narrow .boolean (.int 0) = .int 0 ∧ post 0 M16))))))
set_option maxRecDepth 20000 in
theorem Z_Pr_isZero_2 {x : Ctx} {post : Int32 → Mem → Prop} (C : Ok x b_Pr_isZero 4 "HeapTower$Products") (hR : xR x = rm_Pr_isZero) (Rt : RetI x .boolean post 0 0) {k2 : Nat → Int32 → Nat → Int32 → Mem → Prop} (K2 : ∀ (a0 : Nat) (x1 : Int32) (a2 : Nat) (x3 : Int32) (M : Mem), k2 a0 x1 a2 x3 M → J x 4 2 [(0, .ref (xd x a0)), (1, .int x1), (2, .ref (xd x a2)), (3, .int x3)] [] 0 0 M) (a0 : Nat) (x1 : Int32) (a2 : Nat) (x3 : Int32) (M : Mem) (h : B_Pr_isZero_2 k2 post a0 x1 a2 x3 M) : J x 4 2 [(0, .ref (xd x a0)), (1, .int x1), (2, .ref (xd x a2)), (3, .int x3)] [] 0 0 M := by
  unfold B_Pr_isZero_2 at h
  refine J_iload_n C 3 D_Pr_isZero_2 rfl rfl ?_
  refine J_aload_n C 0 D_Pr_isZero_3 rfl rfl ?_
  obtain ⟨c_4, q4, e_4, h⟩ := h
  refine J_getR C fl_Pr_21 D_Pr_isZero_4 c_4 e_4 ?_
  refine J_iload_n C 1 D_Pr_isZero_7 rfl rfl ?_
  obtain ⟨c_8, h⟩ := h
  refine J_iald C D_Pr_isZero_8 c_8 ?_
  refine J_icmp_ge (tgt := 31) C D_Pr_isZero_9 (by decide) (fun c_9 => ?_) (fun c_9 => ?_)
  · have h := h.1 c_9
    refine J_iconst (v := 1) C D_Pr_isZero_31 rfl ?_
    obtain ⟨c_32, h⟩ := h
    exact J_iret C Rt D_Pr_isZero_32 c_32 h
  · have h := h.2 c_9
    refine J_aload_n C 2 D_Pr_isZero_12 rfl rfl ?_
    refine J_aload_n C 0 D_Pr_isZero_13 rfl rfl ?_
    refine J_iload_n C 1 D_Pr_isZero_14 rfl rfl ?_
    refine J_iload_n C 3 D_Pr_isZero_15 rfl rfl ?_
    obtain ⟨c_16, h⟩ := h
    refine J_callVi C ml_Pr_49 (S_Pr_at _ _ _ _ _ h) (by rw [hR]; decide) rfl c_16 rfl (Nat.le_of_ble_eq_true rfl) D_Pr_isZero_16 (fun r16 M16 h => ?_)
    obtain ⟨c_19, h⟩ := h
    refine J_iald C D_Pr_isZero_19 c_19 ?_
    refine J_if_eq (tgt := 25) C D_Pr_isZero_20 (by decide) (fun c_20 => ?_) (fun c_20 => ?_)
    · have h := h.1 c_20
      refine J_iinc (v := x3 + 1) (lv' := [(3, .int (x3 + 1)), (0, .ref (xd x a0)), (1, .int x1), (2, .ref (xd x a2))]) C 3 3 D_Pr_isZero_25 rfl rfl (by decide) rfl ?_
      refine J_goto (tgt := 2) C D_Pr_isZero_28 (by decide) ?_
      exact J_sub [1, 2, 3, 0] rfl (K2 _ _ _ _ _ h)
    · have h := h.2 c_20
      refine J_iconst (v := 0) C D_Pr_isZero_23 rfl ?_
      obtain ⟨c_24, h⟩ := h
      exact J_iret C Rt D_Pr_isZero_24 c_24 h
def L_Pr_isZero_2 (post : Int32 → Mem → Prop) : Nat → Nat → Int32 → Nat → Int32 → Mem → Prop
  | 0, _, _, _, _, _ => False
  | n + 1, a0, x1, a2, x3, M => B_Pr_isZero_2 (L_Pr_isZero_2 post n) post a0 x1 a2 x3 M
theorem Y_Pr_isZero_2 {x : Ctx} {post : Int32 → Mem → Prop} (C : Ok x b_Pr_isZero 4 "HeapTower$Products") (hR : xR x = rm_Pr_isZero) (Rt : RetI x .boolean post 0 0) : ∀ (n : Nat) (a0 : Nat) (x1 : Int32) (a2 : Nat) (x3 : Int32) (M : Mem), L_Pr_isZero_2 post n a0 x1 a2 x3 M → J x 4 2 [(0, .ref (xd x a0)), (1, .int x1), (2, .ref (xd x a2)), (3, .int x3)] [] 0 0 M := by
  intro n
  induction n with
  | zero => intro a0 x1 a2 x3 M h; exact h.elim
  | succ n ih => intro a0 x1 a2 x3 M h; exact Z_Pr_isZero_2 C hR Rt ih _ _ _ _ _ h
def T_Pr_isZero (a0 : Nat) (x1 : Int32) (a2 : Nat) (M : Mem) (post : Int32 → Mem → Prop) : Prop := (∃ n, L_Pr_isZero_2 post n a0 x1 a2 0 M)
set_option maxRecDepth 20000 in
theorem S_Pr_isZero {l : Launch} {D : va_G} {B t g : Nat} {d : Nat → Nat} {ac : Nat → ClassId}  (a0 : Nat) (x1 : Int32) (a2 : Nat) (M : Mem) (post : Int32 → Mem → Prop) (h : T_Pr_isZero a0 x1 a2 M post) : Met l y_Pr_isZero w_Pr_isZero rm_Pr_isZero (va_Pc [.ref (d a0), .int x1, .ref (d a2)] (PRE D B d g t ac M)) (QI D B d g ac post) 0 0 (AB B) := by
  refine met_i (by decide +kernel) (Nat.le_of_ble_eq_true rfl) (fun x h1 hR h3 h4 h5 h6 h7 h8 C Rt => ?_)
  subst h3 h4 h5 h6 h7 h8
  unfold T_Pr_isZero at h
  show J x 4 0 [(0, .ref (xd x a0)), (1, .int x1), (2, .ref (xd x a2))] [] 0 0 M
  refine J_iconst (v := 0) C D_Pr_isZero_0 rfl ?_
  refine J_istore_n (lv' := [(3, .int 0), (0, .ref (xd x a0)), (1, .int x1), (2, .ref (xd x a2))]) C 3 D_Pr_isZero_1 rfl (by decide) rfl ?_
  obtain ⟨n, h⟩ := h
  exact J_sub [1, 2, 3, 0] rfl (Y_Pr_isZero_2 C hR Rt  n _ _ _ _ _ h)
theorem D_Pr_raised_0 : decode b_Pr_raised 0 = .ok (.aload_n 0, 1) := by decide +kernel
theorem D_Pr_raised_1 : decode b_Pr_raised 1 = .ok (.getfield 9, 3) := by decide +kernel
theorem D_Pr_raised_4 : decode b_Pr_raised 4 = .ok (.iload_n 1, 1) := by decide +kernel
theorem D_Pr_raised_5 : decode b_Pr_raised 5 = .ok (.iaload, 1) := by decide +kernel
theorem D_Pr_raised_6 : decode b_Pr_raised 6 = .ok (.iload_n 2, 1) := by decide +kernel
theorem D_Pr_raised_7 : decode b_Pr_raised 7 = .ok (.iconst 1, 1) := by decide +kernel
theorem D_Pr_raised_8 : decode b_Pr_raised 8 = .ok (.if_icmp .ne 7, 3) := by decide +kernel
theorem D_Pr_raised_11 : decode b_Pr_raised 11 = .ok (.iconst 1, 1) := by decide +kernel
theorem D_Pr_raised_12 : decode b_Pr_raised 12 = .ok (.goto 4, 3) := by decide +kernel
theorem D_Pr_raised_15 : decode b_Pr_raised 15 = .ok (.iconst 0, 1) := by decide +kernel
theorem D_Pr_raised_16 : decode b_Pr_raised 16 = .ok (.iadd, 1) := by decide +kernel
theorem D_Pr_raised_17 : decode b_Pr_raised 17 = .ok (.aload_n 0, 1) := by decide +kernel
theorem D_Pr_raised_18 : decode b_Pr_raised 18 = .ok (.getfield 15, 3) := by decide +kernel
theorem D_Pr_raised_21 : decode b_Pr_raised 21 = .ok (.iload_n 1, 1) := by decide +kernel
theorem D_Pr_raised_22 : decode b_Pr_raised 22 = .ok (.iaload, 1) := by decide +kernel
theorem D_Pr_raised_23 : decode b_Pr_raised 23 = .ok (.iload_n 2, 1) := by decide +kernel
theorem D_Pr_raised_24 : decode b_Pr_raised 24 = .ok (.iconst 2, 1) := by decide +kernel
theorem D_Pr_raised_25 : decode b_Pr_raised 25 = .ok (.if_icmp .ne 7, 3) := by decide +kernel
theorem D_Pr_raised_28 : decode b_Pr_raised 28 = .ok (.iconst 1, 1) := by decide +kernel
theorem D_Pr_raised_29 : decode b_Pr_raised 29 = .ok (.goto 4, 3) := by decide +kernel
theorem D_Pr_raised_32 : decode b_Pr_raised 32 = .ok (.iconst 0, 1) := by decide +kernel
theorem D_Pr_raised_33 : decode b_Pr_raised 33 = .ok (.iadd, 1) := by decide +kernel
theorem D_Pr_raised_34 : decode b_Pr_raised 34 = .ok (.invokestatic 24, 3) := by decide +kernel
theorem D_Pr_raised_37 : decode b_Pr_raised 37 = .ok (.ireturn, 1) := by decide +kernel
abbrev rm_Pr_raised : Room := { frames := 1, cells := 0, slots := 0, locals := 21 }
def B_Pr_raised_33 (post : Int32 → Mem → Prop) (s0 : Int32) (s1 : Int32) (s2 : Int32) (M : Mem) : Prop := (T_Pr_place s2 (s1 + s0) M (fun r34 M34 => post r34 M34))
set_option maxRecDepth 20000 in
theorem Z_Pr_raised_33 {x : Ctx} {post : Int32 → Mem → Prop} (C : Ok x b_Pr_raised 3 "HeapTower$Products") (hR : xR x = rm_Pr_raised) (Rt : RetI x .int post 0 0) (s0 : Int32) (s1 : Int32) (s2 : Int32) (M : Mem) (h : B_Pr_raised_33 post s0 s1 s2 M) : J x 3 33 [] [.int s0, .int s1, .int s2] 0 0 M := by
  unfold B_Pr_raised_33 at h
  refine J_iadd C D_Pr_raised_33 ?_
  refine J_callSi C ml_Pr_24 (S_Pr_place _ _ _ _ h) (by rw [hR]; decide) rfl rfl (Nat.le_of_ble_eq_true rfl) D_Pr_raised_34 (fun r34 M34 h => ?_)
  exact J_iret C Rt D_Pr_raised_37 rfl h
def B_Pr_raised_16 (post : Int32 → Mem → Prop) (a0 : Nat) (x1 : Int32) (x2 : Int32) (s0 : Int32) (s1 : Int32) (M : Mem) : Prop := (isK M a0 4 ∧ ∃ q18, gR M a0 1 = some q18 ∧ isA M q18 8 x1 ∧ (¬ x2 = 2 → (B_Pr_raised_33 post 0 (gI M q18 (Int32.toNatClampNeg x1)) (s1 + s0) M)) ∧ (x2 = 2 → (B_Pr_raised_33 post 1 (gI M q18 (Int32.toNatClampNeg x1)) (s1 + s0) M)))
set_option maxRecDepth 20000 in
theorem Z_Pr_raised_16 {x : Ctx} {post : Int32 → Mem → Prop} (C : Ok x b_Pr_raised 3 "HeapTower$Products") (hR : xR x = rm_Pr_raised) (Rt : RetI x .int post 0 0) (a0 : Nat) (x1 : Int32) (x2 : Int32) (s0 : Int32) (s1 : Int32) (M : Mem) (h : B_Pr_raised_16 post a0 x1 x2 s0 s1 M) : J x 3 16 [(0, .ref (xd x a0)), (1, .int x1), (2, .int x2)] [.int s0, .int s1] 0 0 M := by
  unfold B_Pr_raised_16 at h
  refine J_iadd C D_Pr_raised_16 ?_
  refine J_aload_n C 0 D_Pr_raised_17 rfl rfl ?_
  obtain ⟨c_18, q18, e_18, h⟩ := h
  refine J_getR C fl_Pr_15 D_Pr_raised_18 c_18 e_18 ?_
  refine J_iload_n C 1 D_Pr_raised_21 rfl rfl ?_
  obtain ⟨c_22, h⟩ := h
  refine J_iald C D_Pr_raised_22 c_22 ?_
  refine J_iload_n C 2 D_Pr_raised_23 rfl rfl ?_
  refine J_iconst (v := 2) C D_Pr_raised_24 rfl ?_
  refine J_icmp_ne (tgt := 32) C D_Pr_raised_25 (by decide) (fun c_25 => ?_) (fun c_25 => ?_)
  · have h := h.1 c_25
    refine J_iconst (v := 0) C D_Pr_raised_32 rfl ?_
    exact J_sub [] rfl (Z_Pr_raised_33 C hR Rt  _ _ _ _ h)
  · have h := h.2 c_25
    refine J_iconst (v := 1) C D_Pr_raised_28 rfl ?_
    refine J_goto (tgt := 33) C D_Pr_raised_29 (by decide) ?_
    exact J_sub [] rfl (Z_Pr_raised_33 C hR Rt  _ _ _ _ h)
def T_Pr_raised (a0 : Nat) (x1 : Int32) (x2 : Int32) (M : Mem) (post : Int32 → Mem → Prop) : Prop := (isK M a0 4 ∧ ∃ q1, gR M a0 0 = some q1 ∧ isA M q1 8 x1 ∧ (¬ x2 = 1 → (B_Pr_raised_16 post a0 x1 x2 0 (gI M q1 (Int32.toNatClampNeg x1)) M)) ∧ (x2 = 1 → (B_Pr_raised_16 post a0 x1 x2 1 (gI M q1 (Int32.toNatClampNeg x1)) M)))
set_option maxRecDepth 20000 in
theorem S_Pr_raised {l : Launch} {D : va_G} {B t g : Nat} {d : Nat → Nat} {ac : Nat → ClassId}  (a0 : Nat) (x1 : Int32) (x2 : Int32) (M : Mem) (post : Int32 → Mem → Prop) (h : T_Pr_raised a0 x1 x2 M post) : Met l y_Pr_raised w_Pr_raised rm_Pr_raised (va_Pc [.ref (d a0), .int x1, .int x2] (PRE D B d g t ac M)) (QI D B d g ac post) 0 0 (AB B) := by
  refine met_i (by decide +kernel) (Nat.le_of_ble_eq_true rfl) (fun x h1 hR h3 h4 h5 h6 h7 h8 C Rt => ?_)
  subst h3 h4 h5 h6 h7 h8
  unfold T_Pr_raised at h
  show J x 3 0 [(0, .ref (xd x a0)), (1, .int x1), (2, .int x2)] [] 0 0 M
  refine J_aload_n C 0 D_Pr_raised_0 rfl rfl ?_
  obtain ⟨c_1, q1, e_1, h⟩ := h
  refine J_getR C fl_Pr_9 D_Pr_raised_1 c_1 e_1 ?_
  refine J_iload_n C 1 D_Pr_raised_4 rfl rfl ?_
  obtain ⟨c_5, h⟩ := h
  refine J_iald C D_Pr_raised_5 c_5 ?_
  refine J_iload_n C 2 D_Pr_raised_6 rfl rfl ?_
  refine J_iconst (v := 1) C D_Pr_raised_7 rfl ?_
  refine J_icmp_ne (tgt := 15) C D_Pr_raised_8 (by decide) (fun c_8 => ?_) (fun c_8 => ?_)
  · have h := h.1 c_8
    refine J_iconst (v := 0) C D_Pr_raised_15 rfl ?_
    exact J_sub [0, 1, 2] rfl (Z_Pr_raised_16 C hR Rt  _ _ _ _ _ _ h)
  · have h := h.2 c_8
    refine J_iconst (v := 1) C D_Pr_raised_11 rfl ?_
    refine J_goto (tgt := 16) C D_Pr_raised_12 (by decide) ?_
    exact J_sub [0, 1, 2] rfl (Z_Pr_raised_16 C hR Rt  _ _ _ _ _ _ h)
