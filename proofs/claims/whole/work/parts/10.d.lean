theorem fl_Ro_11 : Fld "HeapTower$Rows" 11 5 2 false true := ⟨R_Ro, F_Ro, 8, t_Ro, iw_Ro, rfl, by decide, rfl, rfl, by decide, rfl, (gw_in (List.mem_of_getElem? (i := 159) (by decide +kernel)) (by decide +kernel)), t_Ro_ok, n_Ro, rfl, (fun h => by cases h), fun _ => Or.inr ⟨_, rfl⟩⟩
theorem fl_Ro_16 : Fld "HeapTower$Rows" 16 5 3 false true := ⟨R_Ro, F_Ro, 8, t_Ro, iw_Ro, rfl, by decide, rfl, rfl, by decide, rfl, (gw_in (List.mem_of_getElem? (i := 160) (by decide +kernel)) (by decide +kernel)), t_Ro_ok, n_Ro, rfl, (fun h => by cases h), fun _ => Or.inr ⟨_, rfl⟩⟩
theorem fl_Ro_20 : Fld "HeapTower$Rows" 20 5 4 false true := ⟨R_Ro, F_Ro, 8, t_Ro, iw_Ro, rfl, by decide, rfl, rfl, by decide, rfl, (gw_in (List.mem_of_getElem? (i := 161) (by decide +kernel)) (by decide +kernel)), t_Ro_ok, n_Ro, rfl, (fun h => by cases h), fun _ => Or.inr ⟨_, rfl⟩⟩
theorem fl_Ro_23 : Fld "HeapTower$Rows" 23 5 0 false true := ⟨R_Ro, F_Ro, 8, t_Ro, iw_Ro, rfl, by decide, rfl, rfl, by decide, rfl, (gw_in (List.mem_of_getElem? (i := 157) (by decide +kernel)) (by decide +kernel)), t_Ro_ok, n_Ro, rfl, (fun h => by cases h), fun _ => Or.inl ⟨_, rfl⟩⟩
theorem fl_Ro_27 : Fld "HeapTower$Rows" 27 5 1 false true := ⟨R_Ro, F_Ro, 8, t_Ro, iw_Ro, rfl, by decide, rfl, rfl, by decide, rfl, (gw_in (List.mem_of_getElem? (i := 158) (by decide +kernel)) (by decide +kernel)), t_Ro_ok, n_Ro, rfl, (fun h => by cases h), fun _ => Or.inl ⟨_, rfl⟩⟩
theorem fl_Ro_37 : Fld "HeapTower$Rows" 37 5 5 true false := ⟨R_Ro, F_Ro, 8, t_Ro, iw_Ro, rfl, by decide, rfl, rfl, by decide, rfl, (gw_in (List.mem_of_getElem? (i := 162) (by decide +kernel)) (by decide +kernel)), t_Ro_ok, n_Ro, rfl, fun _ => rfl, (fun h => by cases h)⟩
theorem fl_Ro_50 : Fld "HeapTower$Rows" 50 5 6 true false := ⟨R_Ro, F_Ro, 8, t_Ro, iw_Ro, rfl, by decide, rfl, rfl, by decide, rfl, (gw_in (List.mem_of_getElem? (i := 163) (by decide +kernel)) (by decide +kernel)), t_Ro_ok, n_Ro, rfl, fun _ => rfl, (fun h => by cases h)⟩
theorem fl_Ro_52 : Fld "HeapTower$Rows" 52 5 7 true false := ⟨R_Ro, F_Ro, 8, t_Ro, iw_Ro, rfl, by decide, rfl, rfl, by decide, rfl, (gw_in (List.mem_of_getElem? (i := 164) (by decide +kernel)) (by decide +kernel)), t_Ro_ok, n_Ro, rfl, fun _ => rfl, (fun h => by cases h)⟩
theorem ml_Ro_31 : MLV "HeapTower$Rows" 31 y_Pr_amount b_Pr_amount 2 (some .int) 1 4 := ⟨List.forall_mem_cons.mpr ⟨(gw_in (List.mem_of_getElem? (i := 540) (by decide +kernel)) (by decide +kernel)), List.forall_mem_cons.mpr ⟨(gw_in (List.mem_of_getElem? (i := 425) (by decide +kernel)) (by decide +kernel)), List.forall_mem_cons.mpr ⟨(gw_in (List.mem_of_getElem? (i := 426) (by decide +kernel)) (by decide +kernel)), List.forall_mem_cons.mpr ⟨(gw_in (List.mem_of_getElem? (i := 68) (by decide +kernel)) (by decide +kernel)), List.forall_mem_cons.mpr ⟨(gw_in (List.mem_of_getElem? (i := 427) (by decide +kernel)) (by decide +kernel)), fun _ h => absurd h List.not_mem_nil⟩⟩⟩⟩⟩, by decide, F_Pr, 6, rfl, by decide⟩
theorem ml_Ro_40 : MLV "HeapTower$Rows" 40 y_Pr_at b_Pr_at 3 (some .int) 2 4 := ⟨List.forall_mem_cons.mpr ⟨(gw_in (List.mem_of_getElem? (i := 541) (by decide +kernel)) (by decide +kernel)), List.forall_mem_cons.mpr ⟨(gw_in (List.mem_of_getElem? (i := 429) (by decide +kernel)) (by decide +kernel)), List.forall_mem_cons.mpr ⟨(gw_in (List.mem_of_getElem? (i := 430) (by decide +kernel)) (by decide +kernel)), List.forall_mem_cons.mpr ⟨(gw_in (List.mem_of_getElem? (i := 68) (by decide +kernel)) (by decide +kernel)), List.forall_mem_cons.mpr ⟨(gw_in (List.mem_of_getElem? (i := 431) (by decide +kernel)) (by decide +kernel)), fun _ h => absurd h List.not_mem_nil⟩⟩⟩⟩⟩, by decide, F_Pr, 6, rfl, by decide⟩
theorem ml_Ro_44 : MLV "HeapTower$Rows" 44 y_Nu_prime b_Nu_prime 1 (some .int) 0 2 := ⟨List.forall_mem_cons.mpr ⟨(gw_in (List.mem_of_getElem? (i := 542) (by decide +kernel)) (by decide +kernel)), List.forall_mem_cons.mpr ⟨(gw_in (List.mem_of_getElem? (i := 543) (by decide +kernel)) (by decide +kernel)), List.forall_mem_cons.mpr ⟨(gw_in (List.mem_of_getElem? (i := 544) (by decide +kernel)) (by decide +kernel)), List.forall_mem_cons.mpr ⟨(gw_in (List.mem_of_getElem? (i := 69) (by decide +kernel)) (by decide +kernel)), List.forall_mem_cons.mpr ⟨(gw_in (List.mem_of_getElem? (i := 545) (by decide +kernel)) (by decide +kernel)), fun _ h => absurd h List.not_mem_nil⟩⟩⟩⟩⟩, by decide, F_Nu, 2, rfl, by decide⟩
theorem ml_Ro_55 : MLS "HeapTower$Rows" 55 y_Ar_fill2 b_Ar_fill2 4 none 2 := ⟨List.forall_mem_cons.mpr ⟨(gw_in (List.mem_of_getElem? (i := 546) (by decide +kernel)) (by decide +kernel)), List.forall_mem_cons.mpr ⟨(gw_in (List.mem_of_getElem? (i := 341) (by decide +kernel)) (by decide +kernel)), List.forall_mem_cons.mpr ⟨(gw_in (List.mem_of_getElem? (i := 76) (by decide +kernel)) (by decide +kernel)), List.forall_mem_cons.mpr ⟨(gw_in (List.mem_of_getElem? (i := 342) (by decide +kernel)) (by decide +kernel)), fun _ h => absurd h List.not_mem_nil⟩⟩⟩⟩, by decide⟩
theorem ml_Ro_61 : MLV "HeapTower$Rows" 61 y_Ro_subtract b_Ro_subtract 6 none 3 5 := ⟨List.forall_mem_cons.mpr ⟨(gw_in (List.mem_of_getElem? (i := 592) (by decide +kernel)) (by decide +kernel)), List.forall_mem_cons.mpr ⟨(gw_in (List.mem_of_getElem? (i := 594) (by decide +kernel)) (by decide +kernel)), List.forall_mem_cons.mpr ⟨(gw_in (List.mem_of_getElem? (i := 17) (by decide +kernel)) (by decide +kernel)), List.forall_mem_cons.mpr ⟨(gw_in (List.mem_of_getElem? (i := 70) (by decide +kernel)) (by decide +kernel)), List.forall_mem_cons.mpr ⟨(gw_in (List.mem_of_getElem? (i := 595) (by decide +kernel)) (by decide +kernel)), fun _ h => absurd h List.not_mem_nil⟩⟩⟩⟩⟩, by decide, F_Ro, 8, rfl, by decide⟩
theorem ml_Ro_65 : MLV "HeapTower$Rows" 65 y_Nu_inverse b_Nu_inverse 2 (some .int) 1 2 := ⟨List.forall_mem_cons.mpr ⟨(gw_in (List.mem_of_getElem? (i := 596) (by decide +kernel)) (by decide +kernel)), List.forall_mem_cons.mpr ⟨(gw_in (List.mem_of_getElem? (i := 597) (by decide +kernel)) (by decide +kernel)), List.forall_mem_cons.mpr ⟨(gw_in (List.mem_of_getElem? (i := 598) (by decide +kernel)) (by decide +kernel)), List.forall_mem_cons.mpr ⟨(gw_in (List.mem_of_getElem? (i := 69) (by decide +kernel)) (by decide +kernel)), List.forall_mem_cons.mpr ⟨(gw_in (List.mem_of_getElem? (i := 599) (by decide +kernel)) (by decide +kernel)), fun _ h => absurd h List.not_mem_nil⟩⟩⟩⟩⟩, by decide, F_Nu, 2, rfl, by decide⟩
theorem D_Ro_begin_0 : decode b_Ro_begin 0 = .ok (.aload_n 0, 1) := by decide +kernel
theorem D_Ro_begin_1 : decode b_Ro_begin 1 = .ok (.aload_n 0, 1) := by decide +kernel
theorem D_Ro_begin_2 : decode b_Ro_begin 2 = .ok (.getfield 23, 3) := by decide +kernel
theorem D_Ro_begin_5 : decode b_Ro_begin 5 = .ok (.iload_n 1, 1) := by decide +kernel
theorem D_Ro_begin_6 : decode b_Ro_begin 6 = .ok (.invokevirtual 31, 3) := by decide +kernel
theorem D_Ro_begin_9 : decode b_Ro_begin 9 = .ok (.putfield 37, 3) := by decide +kernel
theorem D_Ro_begin_12 : decode b_Ro_begin 12 = .ok (.iconst 0, 1) := by decide +kernel
theorem D_Ro_begin_13 : decode b_Ro_begin 13 = .ok (.istore_n 2, 1) := by decide +kernel
theorem D_Ro_begin_14 : decode b_Ro_begin 14 = .ok (.iload_n 2, 1) := by decide +kernel
theorem D_Ro_begin_15 : decode b_Ro_begin 15 = .ok (.aload_n 0, 1) := by decide +kernel
theorem D_Ro_begin_16 : decode b_Ro_begin 16 = .ok (.getfield 37, 3) := by decide +kernel
theorem D_Ro_begin_19 : decode b_Ro_begin 19 = .ok (.if_icmp .ge 24, 3) := by decide +kernel
theorem D_Ro_begin_22 : decode b_Ro_begin 22 = .ok (.aload_n 0, 1) := by decide +kernel
theorem D_Ro_begin_23 : decode b_Ro_begin 23 = .ok (.getfield 20, 3) := by decide +kernel
theorem D_Ro_begin_26 : decode b_Ro_begin 26 = .ok (.iload_n 2, 1) := by decide +kernel
theorem D_Ro_begin_27 : decode b_Ro_begin 27 = .ok (.aload_n 0, 1) := by decide +kernel
theorem D_Ro_begin_28 : decode b_Ro_begin 28 = .ok (.getfield 23, 3) := by decide +kernel
theorem D_Ro_begin_31 : decode b_Ro_begin 31 = .ok (.iload_n 1, 1) := by decide +kernel
theorem D_Ro_begin_32 : decode b_Ro_begin 32 = .ok (.iload_n 2, 1) := by decide +kernel
theorem D_Ro_begin_33 : decode b_Ro_begin 33 = .ok (.invokevirtual 40, 3) := by decide +kernel
theorem D_Ro_begin_36 : decode b_Ro_begin 36 = .ok (.iastore, 1) := by decide +kernel
theorem D_Ro_begin_37 : decode b_Ro_begin 37 = .ok (.iinc 2 1, 3) := by decide +kernel
theorem D_Ro_begin_40 : decode b_Ro_begin 40 = .ok (.goto (-26), 3) := by decide +kernel
theorem D_Ro_begin_43 : decode b_Ro_begin 43 = .ok (.aload_n 0, 1) := by decide +kernel
theorem D_Ro_begin_44 : decode b_Ro_begin 44 = .ok (.aload_n 0, 1) := by decide +kernel
theorem D_Ro_begin_45 : decode b_Ro_begin 45 = .ok (.getfield 27, 3) := by decide +kernel
theorem D_Ro_begin_48 : decode b_Ro_begin 48 = .ok (.invokevirtual 44, 3) := by decide +kernel
theorem D_Ro_begin_51 : decode b_Ro_begin 51 = .ok (.putfield 50, 3) := by decide +kernel
theorem D_Ro_begin_54 : decode b_Ro_begin 54 = .ok (.aload_n 0, 1) := by decide +kernel
theorem D_Ro_begin_55 : decode b_Ro_begin 55 = .ok (.iconst 0, 1) := by decide +kernel
theorem D_Ro_begin_56 : decode b_Ro_begin 56 = .ok (.putfield 52, 3) := by decide +kernel
theorem D_Ro_begin_59 : decode b_Ro_begin 59 = .ok (.aload_n 0, 1) := by decide +kernel
theorem D_Ro_begin_60 : decode b_Ro_begin 60 = .ok (.getfield 16, 3) := by decide +kernel
theorem D_Ro_begin_63 : decode b_Ro_begin 63 = .ok (.iconst (-1), 1) := by decide +kernel
theorem D_Ro_begin_64 : decode b_Ro_begin 64 = .ok (.invokestatic 55, 3) := by decide +kernel
theorem D_Ro_begin_67 : decode b_Ro_begin 67 = .ok (.return_, 1) := by decide +kernel
abbrev rm_Ro_begin : Room := { frames := 1, cells := 0, slots := 0, locals := 23 }
def B_Ro_begin_14 (k14 : Nat → Int32 → Int32 → Mem → Prop) (post : Mem → Prop) (a0 : Nat) (x1 : Int32) (x2 : Int32) (M : Mem) : Prop := (isK M a0 5 ∧ ((gI M a0 5) ≤ x2 → (isK M a0 5 ∧ ∃ q45, gR M a0 1 = some q45 ∧ isK M q45 2 ∧ T_Nu_prime q45 M (fun r48 M48 => isK M48 a0 5 ∧ isK (sI M48 a0 6 r48) a0 5 ∧ isK (sI (sI M48 a0 6 r48) a0 7 0) a0 5 ∧ ∃ q60, gR (sI (sI M48 a0 6 r48) a0 7 0) a0 3 = some q60 ∧ T_Ar_fill2 q60 ((-1)) (sI (sI M48 a0 6 r48) a0 7 0) (fun M64 => post M64)))) ∧ (¬ (gI M a0 5) ≤ x2 → (isK M a0 5 ∧ ∃ q23, gR M a0 4 = some q23 ∧ isK M a0 5 ∧ ∃ q28, gR M a0 0 = some q28 ∧ isK M q28 4 ∧ T_Pr_at q28 x1 x2 M (fun r33 M33 => isA M33 q23 8 x2 ∧ k14 a0 x1 (x2 + 1) (sI M33 q23 (Int32.toNatClampNeg x2) r33)))))
set_option maxRecDepth 20000 in
theorem Z_Ro_begin_14 {x : Ctx} {post : Mem → Prop} (C : Ok x b_Ro_begin 3 "HeapTower$Rows") (hR : xR x = rm_Ro_begin) (Rt : RetV x post 0 0) {k14 : Nat → Int32 → Int32 → Mem → Prop} (K14 : ∀ (a0 : Nat) (x1 : Int32) (x2 : Int32) (M : Mem), k14 a0 x1 x2 M → J x 3 14 [(0, .ref (xd x a0)), (1, .int x1), (2, .int x2)] [] 0 0 M) (a0 : Nat) (x1 : Int32) (x2 : Int32) (M : Mem) (h : B_Ro_begin_14 k14 post a0 x1 x2 M) : J x 3 14 [(0, .ref (xd x a0)), (1, .int x1), (2, .int x2)] [] 0 0 M := by
  unfold B_Ro_begin_14 at h
  refine J_iload_n C 2 D_Ro_begin_14 rfl rfl ?_
  refine J_aload_n C 0 D_Ro_begin_15 rfl rfl ?_
  obtain ⟨c_16, h⟩ := h
  refine J_getI C fl_Ro_37 D_Ro_begin_16 c_16 ?_
  refine J_icmp_ge (tgt := 43) C D_Ro_begin_19 (by decide) (fun c_19 => ?_) (fun c_19 => ?_)
  · have h := h.1 c_19
    refine J_aload_n C 0 D_Ro_begin_43 rfl rfl ?_
    refine J_aload_n C 0 D_Ro_begin_44 rfl rfl ?_
    obtain ⟨c_45, q45, e_45, h⟩ := h
    refine J_getR C fl_Ro_27 D_Ro_begin_45 c_45 e_45 ?_
    obtain ⟨c_48, h⟩ := h
    refine J_callVi C ml_Ro_44 (S_Nu_prime _ _ _ h) (by rw [hR]; decide) rfl c_48 rfl (Nat.le_of_ble_eq_true rfl) D_Ro_begin_48 (fun r48 M48 h => ?_)
    obtain ⟨c_51, h⟩ := h
    refine J_putI C fl_Ro_50 D_Ro_begin_51 c_51 ?_
    refine J_aload_n C 0 D_Ro_begin_54 rfl rfl ?_
    refine J_iconst (v := 0) C D_Ro_begin_55 rfl ?_
    obtain ⟨c_56, h⟩ := h
    refine J_putI C fl_Ro_52 D_Ro_begin_56 c_56 ?_
    refine J_aload_n C 0 D_Ro_begin_59 rfl rfl ?_
    obtain ⟨c_60, q60, e_60, h⟩ := h
    refine J_getR C fl_Ro_16 D_Ro_begin_60 c_60 e_60 ?_
    refine J_iconst (v := (-1)) C D_Ro_begin_63 rfl ?_
    refine J_callSv C ml_Ro_55 (S_Ar_fill2 _ _ _ _ h) (by rw [hR]; decide) rfl rfl (Nat.le_of_ble_eq_true rfl) D_Ro_begin_64 (fun M64 h => ?_)
    exact J_vret C Rt D_Ro_begin_67 h
  · have h := h.2 c_19
    refine J_aload_n C 0 D_Ro_begin_22 rfl rfl ?_
    obtain ⟨c_23, q23, e_23, h⟩ := h
    refine J_getR C fl_Ro_20 D_Ro_begin_23 c_23 e_23 ?_
    refine J_iload_n C 2 D_Ro_begin_26 rfl rfl ?_
    refine J_aload_n C 0 D_Ro_begin_27 rfl rfl ?_
    obtain ⟨c_28, q28, e_28, h⟩ := h
    refine J_getR C fl_Ro_23 D_Ro_begin_28 c_28 e_28 ?_
    refine J_iload_n C 1 D_Ro_begin_31 rfl rfl ?_
    refine J_iload_n C 2 D_Ro_begin_32 rfl rfl ?_
    obtain ⟨c_33, h⟩ := h
    refine J_callVi C ml_Ro_40 (S_Pr_at _ _ _ _ _ h) (by rw [hR]; decide) rfl c_33 rfl (Nat.le_of_ble_eq_true rfl) D_Ro_begin_33 (fun r33 M33 h => ?_)
    obtain ⟨c_36, h⟩ := h
    refine J_iast C D_Ro_begin_36 c_36 ?_
    refine J_iinc (v := x2 + 1) (lv' := [(2, .int (x2 + 1)), (0, .ref (xd x a0)), (1, .int x1)]) C 2 2 D_Ro_begin_37 rfl rfl (by decide) rfl ?_
    refine J_goto (tgt := 14) C D_Ro_begin_40 (by decide) ?_
    exact J_sub [1, 2, 0] rfl (K14 _ _ _ _ h)
def L_Ro_begin_14 (post : Mem → Prop) : Nat → Nat → Int32 → Int32 → Mem → Prop
  | 0, _, _, _, _ => False
  | n + 1, a0, x1, x2, M => B_Ro_begin_14 (L_Ro_begin_14 post n) post a0 x1 x2 M
theorem Y_Ro_begin_14 {x : Ctx} {post : Mem → Prop} (C : Ok x b_Ro_begin 3 "HeapTower$Rows") (hR : xR x = rm_Ro_begin) (Rt : RetV x post 0 0) : ∀ (n : Nat) (a0 : Nat) (x1 : Int32) (x2 : Int32) (M : Mem), L_Ro_begin_14 post n a0 x1 x2 M → J x 3 14 [(0, .ref (xd x a0)), (1, .int x1), (2, .int x2)] [] 0 0 M := by
  intro n
  induction n with
  | zero => intro a0 x1 x2 M h; exact h.elim
  | succ n ih => intro a0 x1 x2 M h; exact Z_Ro_begin_14 C hR Rt ih _ _ _ _ h
def T_Ro_begin (a0 : Nat) (x1 : Int32) (M : Mem) (post : Mem → Prop) : Prop := (isK M a0 5 ∧ ∃ q2, gR M a0 0 = some q2 ∧ isK M q2 4 ∧ T_Pr_amount q2 x1 M (fun r6 M6 => isK M6 a0 5 ∧ ∃ n, L_Ro_begin_14 post n a0 x1 0 (sI M6 a0 5 r6)))
set_option maxRecDepth 20000 in
theorem S_Ro_begin {l : Launch} {D : va_G} {B t g : Nat} {d : Nat → Nat} {ac : Nat → ClassId}  (a0 : Nat) (x1 : Int32) (M : Mem) (post : Mem → Prop) (h : T_Ro_begin a0 x1 M post) : Met l y_Ro_begin w_Ro_begin rm_Ro_begin (va_Pc [.ref (d a0), .int x1] (PRE D B d g t ac M)) (QV D B d g ac post) 0 0 (AB B) := by
  refine met_v (by decide +kernel) (Nat.le_of_ble_eq_true rfl) (fun x h1 hR h3 h4 h5 h6 h7 h8 C Rt Nm => ?_)
  subst h3 h4 h5 h6 h7 h8
  unfold T_Ro_begin at h
  show J x 3 0 [(0, .ref (xd x a0)), (1, .int x1)] [] 0 0 M
  refine J_aload_n C 0 D_Ro_begin_0 rfl rfl ?_
  refine J_aload_n C 0 D_Ro_begin_1 rfl rfl ?_
  obtain ⟨c_2, q2, e_2, h⟩ := h
  refine J_getR C fl_Ro_23 D_Ro_begin_2 c_2 e_2 ?_
  refine J_iload_n C 1 D_Ro_begin_5 rfl rfl ?_
  obtain ⟨c_6, h⟩ := h
  refine J_callVi C ml_Ro_31 (S_Pr_amount _ _ _ _ h) (by rw [hR]; decide) rfl c_6 rfl (Nat.le_of_ble_eq_true rfl) D_Ro_begin_6 (fun r6 M6 h => ?_)
  obtain ⟨c_9, h⟩ := h
  refine J_putI C fl_Ro_37 D_Ro_begin_9 c_9 ?_
  refine J_iconst (v := 0) C D_Ro_begin_12 rfl ?_
  refine J_istore_n (lv' := [(2, .int 0), (0, .ref (xd x a0)), (1, .int x1)]) C 2 D_Ro_begin_13 rfl (by decide) rfl ?_
  obtain ⟨n, h⟩ := h
  exact J_sub [1, 2, 0] rfl (Y_Ro_begin_14 C hR Rt  n _ _ _ _ h)
theorem D_Ro_subtract_0 : decode b_Ro_subtract 0 = .ok (.iconst 0, 1) := by decide +kernel
theorem D_Ro_subtract_1 : decode b_Ro_subtract 1 = .ok (.istore 4, 2) := by decide +kernel
theorem D_Ro_subtract_3 : decode b_Ro_subtract 3 = .ok (.iload_n 2, 1) := by decide +kernel
theorem D_Ro_subtract_4 : decode b_Ro_subtract 4 = .ok (.ifCond .eq 59, 3) := by decide +kernel
theorem D_Ro_subtract_7 : decode b_Ro_subtract 7 = .ok (.iload 4, 2) := by decide +kernel
theorem D_Ro_subtract_9 : decode b_Ro_subtract 9 = .ok (.aload_n 0, 1) := by decide +kernel
theorem D_Ro_subtract_10 : decode b_Ro_subtract 10 = .ok (.getfield 37, 3) := by decide +kernel
theorem D_Ro_subtract_13 : decode b_Ro_subtract 13 = .ok (.if_icmp .ge 50, 3) := by decide +kernel
theorem D_Ro_subtract_16 : decode b_Ro_subtract 16 = .ok (.aload_n 0, 1) := by decide +kernel
theorem D_Ro_subtract_17 : decode b_Ro_subtract 17 = .ok (.getfield 20, 3) := by decide +kernel
theorem D_Ro_subtract_20 : decode b_Ro_subtract 20 = .ok (.iload 4, 2) := by decide +kernel
theorem D_Ro_subtract_22 : decode b_Ro_subtract 22 = .ok (.iaload, 1) := by decide +kernel
theorem D_Ro_subtract_23 : decode b_Ro_subtract 23 = .ok (.istore 5, 2) := by decide +kernel
theorem D_Ro_subtract_25 : decode b_Ro_subtract 25 = .ok (.aload_n 3, 1) := by decide +kernel
theorem D_Ro_subtract_26 : decode b_Ro_subtract 26 = .ok (.iload 5, 2) := by decide +kernel
theorem D_Ro_subtract_28 : decode b_Ro_subtract 28 = .ok (.iaload, 1) := by decide +kernel
theorem D_Ro_subtract_29 : decode b_Ro_subtract 29 = .ok (.ifCond .eq 28, 3) := by decide +kernel
theorem D_Ro_subtract_32 : decode b_Ro_subtract 32 = .ok (.aload_n 1, 1) := by decide +kernel
theorem D_Ro_subtract_33 : decode b_Ro_subtract 33 = .ok (.iload 5, 2) := by decide +kernel
theorem D_Ro_subtract_35 : decode b_Ro_subtract 35 = .ok (.aload_n 1, 1) := by decide +kernel
theorem D_Ro_subtract_36 : decode b_Ro_subtract 36 = .ok (.iload 5, 2) := by decide +kernel
theorem D_Ro_subtract_38 : decode b_Ro_subtract 38 = .ok (.iaload, 1) := by decide +kernel
theorem D_Ro_subtract_39 : decode b_Ro_subtract 39 = .ok (.aload_n 0, 1) := by decide +kernel
theorem D_Ro_subtract_40 : decode b_Ro_subtract 40 = .ok (.getfield 50, 3) := by decide +kernel
theorem D_Ro_subtract_43 : decode b_Ro_subtract 43 = .ok (.iload_n 2, 1) := by decide +kernel
theorem D_Ro_subtract_44 : decode b_Ro_subtract 44 = .ok (.isub, 1) := by decide +kernel
theorem D_Ro_subtract_45 : decode b_Ro_subtract 45 = .ok (.aload_n 3, 1) := by decide +kernel
theorem D_Ro_subtract_46 : decode b_Ro_subtract 46 = .ok (.iload 5, 2) := by decide +kernel
theorem D_Ro_subtract_48 : decode b_Ro_subtract 48 = .ok (.iaload, 1) := by decide +kernel
theorem D_Ro_subtract_49 : decode b_Ro_subtract 49 = .ok (.imul, 1) := by decide +kernel
theorem D_Ro_subtract_50 : decode b_Ro_subtract 50 = .ok (.iadd, 1) := by decide +kernel
theorem D_Ro_subtract_51 : decode b_Ro_subtract 51 = .ok (.aload_n 0, 1) := by decide +kernel
theorem D_Ro_subtract_52 : decode b_Ro_subtract 52 = .ok (.getfield 50, 3) := by decide +kernel
theorem D_Ro_subtract_55 : decode b_Ro_subtract 55 = .ok (.irem, 1) := by decide +kernel
theorem D_Ro_subtract_56 : decode b_Ro_subtract 56 = .ok (.iastore, 1) := by decide +kernel
theorem D_Ro_subtract_57 : decode b_Ro_subtract 57 = .ok (.iinc 4 1, 3) := by decide +kernel
theorem D_Ro_subtract_60 : decode b_Ro_subtract 60 = .ok (.goto (-57), 3) := by decide +kernel
theorem D_Ro_subtract_63 : decode b_Ro_subtract 63 = .ok (.return_, 1) := by decide +kernel
abbrev rm_Ro_subtract : Room := { frames := 0, cells := 0, slots := 0, locals := 0 }
def B_Ro_subtract_63 (post : Mem → Prop) (M : Mem) : Prop := (post M)
set_option maxRecDepth 20000 in
theorem Z_Ro_subtract_63 {x : Ctx} {post : Mem → Prop} (C : Ok x b_Ro_subtract 6 "HeapTower$Rows") (hR : xR x = rm_Ro_subtract) (Rt : RetV x post 0 0) (M : Mem) (h : B_Ro_subtract_63 post M) : J x 6 63 [] [] 0 0 M := by
  unfold B_Ro_subtract_63 at h
  exact J_vret C Rt D_Ro_subtract_63 h
def B_Ro_subtract_57 (k3 : Nat → Nat → Int32 → Nat → Int32 → Mem → Prop) (post : Mem → Prop) (a0 : Nat) (a1 : Nat) (x2 : Int32) (a3 : Nat) (x4 : Int32) (M : Mem) : Prop := (k3 a0 a1 x2 a3 (x4 + 1) M)
set_option maxRecDepth 20000 in
theorem Z_Ro_subtract_57 {x : Ctx} {post : Mem → Prop} (C : Ok x b_Ro_subtract 6 "HeapTower$Rows") (hR : xR x = rm_Ro_subtract) (Rt : RetV x post 0 0) {k3 : Nat → Nat → Int32 → Nat → Int32 → Mem → Prop} (K3 : ∀ (a0 : Nat) (a1 : Nat) (x2 : Int32) (a3 : Nat) (x4 : Int32) (M : Mem), k3 a0 a1 x2 a3 x4 M → J x 6 3 [(0, .ref (xd x a0)), (1, .ref (xd x a1)), (2, .int x2), (3, .ref (xd x a3)), (4, .int x4)] [] 0 0 M) (a0 : Nat) (a1 : Nat) (x2 : Int32) (a3 : Nat) (x4 : Int32) (M : Mem) (h : B_Ro_subtract_57 k3 post a0 a1 x2 a3 x4 M) : J x 6 57 [(0, .ref (xd x a0)), (1, .ref (xd x a1)), (2, .int x2), (3, .ref (xd x a3)), (4, .int x4)] [] 0 0 M := by
  unfold B_Ro_subtract_57 at h
  refine J_iinc (v := x4 + 1) (lv' := [(4, .int (x4 + 1)), (0, .ref (xd x a0)), (1, .ref (xd x a1)), (2, .int x2), (3, .ref (xd x a3))]) C 4 4 D_Ro_subtract_57 rfl rfl (by decide) rfl ?_
  refine J_goto (tgt := 3) C D_Ro_subtract_60 (by decide) ?_
  exact J_sub [1, 2, 3, 4, 0] rfl (K3 _ _ _ _ _ _ h)
def B_Ro_subtract_3 (k3 : Nat → Nat → Int32 → Nat → Int32 → Mem → Prop) (post : Mem → Prop) (a0 : Nat) (a1 : Nat) (x2 : Int32) (a3 : Nat) (x4 : Int32) (M : Mem) : Prop := ((x2 = 0 → (B_Ro_subtract_63 post M)) ∧ (¬ x2 = 0 → (isK M a0 5 ∧ ((gI M a0 5) ≤ x4 → (B_Ro_subtract_63 post M)) ∧ (¬ (gI M a0 5) ≤ x4 → (isK M a0 5 ∧ ∃ q17, gR M a0 4 = some q17 ∧ isA M q17 8 x4 ∧ isA M a3 8 (gI M q17 (Int32.toNatClampNeg x4)) ∧ ((gI M a3 (Int32.toNatClampNeg (gI M q17 (Int32.toNatClampNeg x4)))) = 0 → (B_Ro_subtract_57 k3 post a0 a1 x2 a3 x4 M)) ∧ (¬ (gI M a3 (Int32.toNatClampNeg (gI M q17 (Int32.toNatClampNeg x4)))) = 0 → (isA M a1 8 (gI M q17 (Int32.toNatClampNeg x4)) ∧ isK M a0 5 ∧ isA M a3 8 (gI M q17 (Int32.toNatClampNeg x4)) ∧ isK M a0 5 ∧ ¬ ((gI M a0 6) : Int32) = 0 ∧ isA M a1 8 (gI M q17 (Int32.toNatClampNeg x4)) ∧ B_Ro_subtract_57 k3 post a0 a1 x2 a3 x4 (sI M a1 (Int32.toNatClampNeg (gI M q17 (Int32.toNatClampNeg x4))) (((gI M a1 (Int32.toNatClampNeg (gI M q17 (Int32.toNatClampNeg x4)))) + (((gI M a0 6) - x2) * (gI M a3 (Int32.toNatClampNeg (gI M q17 (Int32.toNatClampNeg x4)))))) - ((gI M a1 (Int32.toNatClampNeg (gI M q17 (Int32.toNatClampNeg x4)))) + (((gI M a0 6) - x2) * (gI M a3 (Int32.toNatClampNeg (gI M q17 (Int32.toNatClampNeg x4)))))) / (gI M a0 6) * (gI M a0 6))))))))))
set_option maxRecDepth 20000 in
theorem Z_Ro_subtract_3 {x : Ctx} {post : Mem → Prop} (C : Ok x b_Ro_subtract 6 "HeapTower$Rows") (hR : xR x = rm_Ro_subtract) (Rt : RetV x post 0 0) {k3 : Nat → Nat → Int32 → Nat → Int32 → Mem → Prop} (K3 : ∀ (a0 : Nat) (a1 : Nat) (x2 : Int32) (a3 : Nat) (x4 : Int32) (M : Mem), k3 a0 a1 x2 a3 x4 M → J x 6 3 [(0, .ref (xd x a0)), (1, .ref (xd x a1)), (2, .int x2), (3, .ref (xd x a3)), (4, .int x4)] [] 0 0 M) (a0 : Nat) (a1 : Nat) (x2 : Int32) (a3 : Nat) (x4 : Int32) (M : Mem) (h : B_Ro_subtract_3 k3 post a0 a1 x2 a3 x4 M) : J x 6 3 [(0, .ref (xd x a0)), (1, .ref (xd x a1)), (2, .int x2), (3, .ref (xd x a3)), (4, .int x4)] [] 0 0 M := by
  unfold B_Ro_subtract_3 at h
  refine J_iload_n C 2 D_Ro_subtract_3 rfl rfl ?_
  refine J_if_eq (tgt := 63) C D_Ro_subtract_4 (by decide) (fun c_4 => ?_) (fun c_4 => ?_)
  · have h := h.1 c_4
    exact J_sub [] rfl (Z_Ro_subtract_63 C hR Rt  _ h)
  · have h := h.2 c_4
    refine J_iload C 4 D_Ro_subtract_7 rfl ?_
    refine J_aload_n C 0 D_Ro_subtract_9 rfl rfl ?_
    obtain ⟨c_10, h⟩ := h
    refine J_getI C fl_Ro_37 D_Ro_subtract_10 c_10 ?_
    refine J_icmp_ge (tgt := 63) C D_Ro_subtract_13 (by decide) (fun c_13 => ?_) (fun c_13 => ?_)
    · have h := h.1 c_13
      exact J_sub [] rfl (Z_Ro_subtract_63 C hR Rt  _ h)
    · have h := h.2 c_13
      refine J_aload_n C 0 D_Ro_subtract_16 rfl rfl ?_
      obtain ⟨c_17, q17, e_17, h⟩ := h
      refine J_getR C fl_Ro_20 D_Ro_subtract_17 c_17 e_17 ?_
      refine J_iload C 4 D_Ro_subtract_20 rfl ?_
      obtain ⟨c_22, h⟩ := h
      refine J_iald C D_Ro_subtract_22 c_22 ?_
      refine J_istore (lv' := [(5, .int (gI M q17 (Int32.toNatClampNeg x4))), (0, .ref (xd x a0)), (1, .ref (xd x a1)), (2, .int x2), (3, .ref (xd x a3)), (4, .int x4)]) C 5 D_Ro_subtract_23 (by decide) rfl ?_
      refine J_aload_n C 3 D_Ro_subtract_25 rfl rfl ?_
      refine J_iload C 5 D_Ro_subtract_26 rfl ?_
      obtain ⟨c_28, h⟩ := h
      refine J_iald C D_Ro_subtract_28 c_28 ?_
      refine J_if_eq (tgt := 57) C D_Ro_subtract_29 (by decide) (fun c_29 => ?_) (fun c_29 => ?_)
      · have h := h.1 c_29
        exact J_sub [1, 2, 3, 4, 5] rfl (Z_Ro_subtract_57 C hR Rt K3 _ _ _ _ _ _ h)
      · have h := h.2 c_29
        refine J_aload_n C 1 D_Ro_subtract_32 rfl rfl ?_
        refine J_iload C 5 D_Ro_subtract_33 rfl ?_
        refine J_aload_n C 1 D_Ro_subtract_35 rfl rfl ?_
        refine J_iload C 5 D_Ro_subtract_36 rfl ?_
        obtain ⟨c_38, h⟩ := h
        refine J_iald C D_Ro_subtract_38 c_38 ?_
        refine J_aload_n C 0 D_Ro_subtract_39 rfl rfl ?_
        obtain ⟨c_40, h⟩ := h
        refine J_getI C fl_Ro_50 D_Ro_subtract_40 c_40 ?_
        refine J_iload_n C 2 D_Ro_subtract_43 rfl rfl ?_
        refine J_isub C D_Ro_subtract_44 ?_
        refine J_aload_n C 3 D_Ro_subtract_45 rfl rfl ?_
        refine J_iload C 5 D_Ro_subtract_46 rfl ?_
        obtain ⟨c_48, h⟩ := h
        refine J_iald C D_Ro_subtract_48 c_48 ?_
        refine J_imul C D_Ro_subtract_49 ?_
        refine J_iadd C D_Ro_subtract_50 ?_
        refine J_aload_n C 0 D_Ro_subtract_51 rfl rfl ?_
        obtain ⟨c_52, h⟩ := h
        refine J_getI C fl_Ro_50 D_Ro_subtract_52 c_52 ?_
        obtain ⟨c_55, h⟩ := h
        refine J_irem C D_Ro_subtract_55 c_55 ?_
        obtain ⟨c_56, h⟩ := h
        refine J_iast C D_Ro_subtract_56 c_56 ?_
        exact J_sub [1, 2, 3, 4, 5] rfl (Z_Ro_subtract_57 C hR Rt K3 _ _ _ _ _ _ h)
def L_Ro_subtract_3 (post : Mem → Prop) : Nat → Nat → Nat → Int32 → Nat → Int32 → Mem → Prop
  | 0, _, _, _, _, _, _ => False
  | n + 1, a0, a1, x2, a3, x4, M => B_Ro_subtract_3 (L_Ro_subtract_3 post n) post a0 a1 x2 a3 x4 M
theorem Y_Ro_subtract_3 {x : Ctx} {post : Mem → Prop} (C : Ok x b_Ro_subtract 6 "HeapTower$Rows") (hR : xR x = rm_Ro_subtract) (Rt : RetV x post 0 0) : ∀ (n : Nat) (a0 : Nat) (a1 : Nat) (x2 : Int32) (a3 : Nat) (x4 : Int32) (M : Mem), L_Ro_subtract_3 post n a0 a1 x2 a3 x4 M → J x 6 3 [(0, .ref (xd x a0)), (1, .ref (xd x a1)), (2, .int x2), (3, .ref (xd x a3)), (4, .int x4)] [] 0 0 M := by
  intro n
  induction n with
  | zero => intro a0 a1 x2 a3 x4 M h; exact h.elim
  | succ n ih => intro a0 a1 x2 a3 x4 M h; exact Z_Ro_subtract_3 C hR Rt ih _ _ _ _ _ _ h
def T_Ro_subtract (a0 : Nat) (a1 : Nat) (x2 : Int32) (a3 : Nat) (M : Mem) (post : Mem → Prop) : Prop := (∃ n, L_Ro_subtract_3 post n a0 a1 x2 a3 0 M)
set_option maxRecDepth 20000 in
theorem S_Ro_subtract {l : Launch} {D : va_G} {B t g : Nat} {d : Nat → Nat} {ac : Nat → ClassId}  (a0 : Nat) (a1 : Nat) (x2 : Int32) (a3 : Nat) (M : Mem) (post : Mem → Prop) (h : T_Ro_subtract a0 a1 x2 a3 M post) : Met l y_Ro_subtract w_Ro_subtract rm_Ro_subtract (va_Pc [.ref (d a0), .ref (d a1), .int x2, .ref (d a3)] (PRE D B d g t ac M)) (QV D B d g ac post) 0 0 (AB B) := by
  refine met_v (by decide +kernel) (Nat.le_of_ble_eq_true rfl) (fun x h1 hR h3 h4 h5 h6 h7 h8 C Rt Nm => ?_)
  subst h3 h4 h5 h6 h7 h8
  unfold T_Ro_subtract at h
  show J x 6 0 [(0, .ref (xd x a0)), (1, .ref (xd x a1)), (2, .int x2), (3, .ref (xd x a3))] [] 0 0 M
  refine J_iconst (v := 0) C D_Ro_subtract_0 rfl ?_
  refine J_istore (lv' := [(4, .int 0), (0, .ref (xd x a0)), (1, .ref (xd x a1)), (2, .int x2), (3, .ref (xd x a3))]) C 4 D_Ro_subtract_1 (by decide) rfl ?_
  obtain ⟨n, h⟩ := h
  exact J_sub [1, 2, 3, 4, 0] rfl (Y_Ro_subtract_3 C hR Rt  n _ _ _ _ _ _ h)
theorem D_Ro_add_0 : decode b_Ro_add 0 = .ok (.iconst (-1), 1) := by decide +kernel
theorem D_Ro_add_1 : decode b_Ro_add 1 = .ok (.istore_n 2, 1) := by decide +kernel
theorem D_Ro_add_2 : decode b_Ro_add 2 = .ok (.iconst 0, 1) := by decide +kernel
theorem D_Ro_add_3 : decode b_Ro_add 3 = .ok (.istore_n 3, 1) := by decide +kernel
theorem D_Ro_add_4 : decode b_Ro_add 4 = .ok (.iload_n 3, 1) := by decide +kernel
theorem D_Ro_add_5 : decode b_Ro_add 5 = .ok (.aload_n 0, 1) := by decide +kernel
theorem D_Ro_add_6 : decode b_Ro_add 6 = .ok (.getfield 37, 3) := by decide +kernel
theorem D_Ro_add_9 : decode b_Ro_add 9 = .ok (.if_icmp .ge 72, 3) := by decide +kernel
theorem D_Ro_add_12 : decode b_Ro_add 12 = .ok (.aload_n 0, 1) := by decide +kernel
theorem D_Ro_add_13 : decode b_Ro_add 13 = .ok (.getfield 20, 3) := by decide +kernel
theorem D_Ro_add_16 : decode b_Ro_add 16 = .ok (.iload_n 3, 1) := by decide +kernel
theorem D_Ro_add_17 : decode b_Ro_add 17 = .ok (.iaload, 1) := by decide +kernel
theorem D_Ro_add_18 : decode b_Ro_add 18 = .ok (.istore 4, 2) := by decide +kernel
theorem D_Ro_add_20 : decode b_Ro_add 20 = .ok (.aload_n 1, 1) := by decide +kernel
theorem D_Ro_add_21 : decode b_Ro_add 21 = .ok (.iload 4, 2) := by decide +kernel
theorem D_Ro_add_23 : decode b_Ro_add 23 = .ok (.iaload, 1) := by decide +kernel
theorem D_Ro_add_24 : decode b_Ro_add 24 = .ok (.ifCond .eq 37, 3) := by decide +kernel
theorem D_Ro_add_27 : decode b_Ro_add 27 = .ok (.aload_n 0, 1) := by decide +kernel
theorem D_Ro_add_28 : decode b_Ro_add 28 = .ok (.getfield 16, 3) := by decide +kernel
theorem D_Ro_add_31 : decode b_Ro_add 31 = .ok (.iload 4, 2) := by decide +kernel
theorem D_Ro_add_33 : decode b_Ro_add 33 = .ok (.iaload, 1) := by decide +kernel
theorem D_Ro_add_34 : decode b_Ro_add 34 = .ok (.ifCond .lt 27, 3) := by decide +kernel
theorem D_Ro_add_37 : decode b_Ro_add 37 = .ok (.aload_n 0, 1) := by decide +kernel
theorem D_Ro_add_38 : decode b_Ro_add 38 = .ok (.aload_n 1, 1) := by decide +kernel
theorem D_Ro_add_39 : decode b_Ro_add 39 = .ok (.aload_n 1, 1) := by decide +kernel
theorem D_Ro_add_40 : decode b_Ro_add 40 = .ok (.iload 4, 2) := by decide +kernel
theorem D_Ro_add_42 : decode b_Ro_add 42 = .ok (.iaload, 1) := by decide +kernel
theorem D_Ro_add_43 : decode b_Ro_add 43 = .ok (.aload_n 0, 1) := by decide +kernel
theorem D_Ro_add_44 : decode b_Ro_add 44 = .ok (.getfield 11, 3) := by decide +kernel
theorem D_Ro_add_47 : decode b_Ro_add 47 = .ok (.aload_n 0, 1) := by decide +kernel
theorem D_Ro_add_48 : decode b_Ro_add 48 = .ok (.getfield 16, 3) := by decide +kernel
theorem D_Ro_add_51 : decode b_Ro_add 51 = .ok (.iload 4, 2) := by decide +kernel
theorem D_Ro_add_53 : decode b_Ro_add 53 = .ok (.iaload, 1) := by decide +kernel
theorem D_Ro_add_54 : decode b_Ro_add 54 = .ok (.aaload, 1) := by decide +kernel
theorem D_Ro_add_55 : decode b_Ro_add 55 = .ok (.invokevirtual 61, 3) := by decide +kernel
theorem D_Ro_add_58 : decode b_Ro_add 58 = .ok (.goto 17, 3) := by decide +kernel
theorem D_Ro_add_61 : decode b_Ro_add 61 = .ok (.aload_n 1, 1) := by decide +kernel
theorem D_Ro_add_62 : decode b_Ro_add 62 = .ok (.iload 4, 2) := by decide +kernel
theorem D_Ro_add_64 : decode b_Ro_add 64 = .ok (.iaload, 1) := by decide +kernel
theorem D_Ro_add_65 : decode b_Ro_add 65 = .ok (.ifCond .eq 10, 3) := by decide +kernel
theorem D_Ro_add_68 : decode b_Ro_add 68 = .ok (.iload_n 2, 1) := by decide +kernel
theorem D_Ro_add_69 : decode b_Ro_add 69 = .ok (.ifCond .ge 6, 3) := by decide +kernel
theorem D_Ro_add_72 : decode b_Ro_add 72 = .ok (.iload 4, 2) := by decide +kernel
theorem D_Ro_add_74 : decode b_Ro_add 74 = .ok (.istore_n 2, 1) := by decide +kernel
theorem D_Ro_add_75 : decode b_Ro_add 75 = .ok (.iinc 3 1, 3) := by decide +kernel
theorem D_Ro_add_78 : decode b_Ro_add 78 = .ok (.goto (-74), 3) := by decide +kernel
theorem D_Ro_add_81 : decode b_Ro_add 81 = .ok (.iload_n 2, 1) := by decide +kernel
theorem D_Ro_add_82 : decode b_Ro_add 82 = .ok (.ifCond .lt 12, 3) := by decide +kernel
theorem D_Ro_add_85 : decode b_Ro_add 85 = .ok (.aload_n 0, 1) := by decide +kernel
theorem D_Ro_add_86 : decode b_Ro_add 86 = .ok (.getfield 52, 3) := by decide +kernel
theorem D_Ro_add_89 : decode b_Ro_add 89 = .ok (.bipush 66, 2) := by decide +kernel
theorem D_Ro_add_91 : decode b_Ro_add 91 = .ok (.if_icmp .lt 5, 3) := by decide +kernel
theorem D_Ro_add_94 : decode b_Ro_add 94 = .ok (.iconst 0, 1) := by decide +kernel
theorem D_Ro_add_95 : decode b_Ro_add 95 = .ok (.ireturn, 1) := by decide +kernel
theorem D_Ro_add_96 : decode b_Ro_add 96 = .ok (.aload_n 0, 1) := by decide +kernel
theorem D_Ro_add_97 : decode b_Ro_add 97 = .ok (.getfield 27, 3) := by decide +kernel
theorem D_Ro_add_100 : decode b_Ro_add 100 = .ok (.aload_n 1, 1) := by decide +kernel
theorem D_Ro_add_101 : decode b_Ro_add 101 = .ok (.iload_n 2, 1) := by decide +kernel
theorem D_Ro_add_102 : decode b_Ro_add 102 = .ok (.iaload, 1) := by decide +kernel
theorem D_Ro_add_103 : decode b_Ro_add 103 = .ok (.invokevirtual 65, 3) := by decide +kernel
theorem D_Ro_add_106 : decode b_Ro_add 106 = .ok (.istore_n 3, 1) := by decide +kernel
theorem D_Ro_add_107 : decode b_Ro_add 107 = .ok (.aload_n 0, 1) := by decide +kernel
theorem D_Ro_add_108 : decode b_Ro_add 108 = .ok (.getfield 11, 3) := by decide +kernel
theorem D_Ro_add_111 : decode b_Ro_add 111 = .ok (.aload_n 0, 1) := by decide +kernel
theorem D_Ro_add_112 : decode b_Ro_add 112 = .ok (.getfield 52, 3) := by decide +kernel
theorem D_Ro_add_115 : decode b_Ro_add 115 = .ok (.aaload, 1) := by decide +kernel
theorem D_Ro_add_116 : decode b_Ro_add 116 = .ok (.astore 4, 2) := by decide +kernel
theorem D_Ro_add_118 : decode b_Ro_add 118 = .ok (.iconst 0, 1) := by decide +kernel
theorem D_Ro_add_119 : decode b_Ro_add 119 = .ok (.istore 5, 2) := by decide +kernel
theorem D_Ro_add_121 : decode b_Ro_add 121 = .ok (.iload 5, 2) := by decide +kernel
theorem D_Ro_add_123 : decode b_Ro_add 123 = .ok (.aload_n 0, 1) := by decide +kernel
theorem D_Ro_add_124 : decode b_Ro_add 124 = .ok (.getfield 37, 3) := by decide +kernel
theorem D_Ro_add_127 : decode b_Ro_add 127 = .ok (.if_icmp .ge 35, 3) := by decide +kernel
theorem D_Ro_add_130 : decode b_Ro_add 130 = .ok (.aload 4, 2) := by decide +kernel
theorem D_Ro_add_132 : decode b_Ro_add 132 = .ok (.aload_n 0, 1) := by decide +kernel
theorem D_Ro_add_133 : decode b_Ro_add 133 = .ok (.getfield 20, 3) := by decide +kernel
theorem D_Ro_add_136 : decode b_Ro_add 136 = .ok (.iload 5, 2) := by decide +kernel
theorem D_Ro_add_138 : decode b_Ro_add 138 = .ok (.iaload, 1) := by decide +kernel
theorem D_Ro_add_139 : decode b_Ro_add 139 = .ok (.aload_n 1, 1) := by decide +kernel
theorem D_Ro_add_140 : decode b_Ro_add 140 = .ok (.aload_n 0, 1) := by decide +kernel
theorem D_Ro_add_141 : decode b_Ro_add 141 = .ok (.getfield 20, 3) := by decide +kernel
theorem D_Ro_add_144 : decode b_Ro_add 144 = .ok (.iload 5, 2) := by decide +kernel
theorem D_Ro_add_146 : decode b_Ro_add 146 = .ok (.iaload, 1) := by decide +kernel
theorem D_Ro_add_147 : decode b_Ro_add 147 = .ok (.iaload, 1) := by decide +kernel
theorem D_Ro_add_148 : decode b_Ro_add 148 = .ok (.iload_n 3, 1) := by decide +kernel
theorem D_Ro_add_149 : decode b_Ro_add 149 = .ok (.imul, 1) := by decide +kernel
theorem D_Ro_add_150 : decode b_Ro_add 150 = .ok (.aload_n 0, 1) := by decide +kernel
theorem D_Ro_add_151 : decode b_Ro_add 151 = .ok (.getfield 50, 3) := by decide +kernel
theorem D_Ro_add_154 : decode b_Ro_add 154 = .ok (.irem, 1) := by decide +kernel
theorem D_Ro_add_155 : decode b_Ro_add 155 = .ok (.iastore, 1) := by decide +kernel
theorem D_Ro_add_156 : decode b_Ro_add 156 = .ok (.iinc 5 1, 3) := by decide +kernel
theorem D_Ro_add_159 : decode b_Ro_add 159 = .ok (.goto (-38), 3) := by decide +kernel
theorem D_Ro_add_162 : decode b_Ro_add 162 = .ok (.iconst 0, 1) := by decide +kernel
theorem D_Ro_add_163 : decode b_Ro_add 163 = .ok (.istore 5, 2) := by decide +kernel
theorem D_Ro_add_165 : decode b_Ro_add 165 = .ok (.iload 5, 2) := by decide +kernel
theorem D_Ro_add_167 : decode b_Ro_add 167 = .ok (.aload_n 0, 1) := by decide +kernel
theorem D_Ro_add_168 : decode b_Ro_add 168 = .ok (.getfield 52, 3) := by decide +kernel
theorem D_Ro_add_171 : decode b_Ro_add 171 = .ok (.if_icmp .ge 31, 3) := by decide +kernel
theorem D_Ro_add_174 : decode b_Ro_add 174 = .ok (.aload_n 0, 1) := by decide +kernel
theorem D_Ro_add_175 : decode b_Ro_add 175 = .ok (.aload_n 0, 1) := by decide +kernel
theorem D_Ro_add_176 : decode b_Ro_add 176 = .ok (.getfield 11, 3) := by decide +kernel
theorem D_Ro_add_179 : decode b_Ro_add 179 = .ok (.iload 5, 2) := by decide +kernel
theorem D_Ro_add_181 : decode b_Ro_add 181 = .ok (.aaload, 1) := by decide +kernel
theorem D_Ro_add_182 : decode b_Ro_add 182 = .ok (.aload_n 0, 1) := by decide +kernel
theorem D_Ro_add_183 : decode b_Ro_add 183 = .ok (.getfield 11, 3) := by decide +kernel
theorem D_Ro_add_186 : decode b_Ro_add 186 = .ok (.iload 5, 2) := by decide +kernel
theorem D_Ro_add_188 : decode b_Ro_add 188 = .ok (.aaload, 1) := by decide +kernel
theorem D_Ro_add_189 : decode b_Ro_add 189 = .ok (.iload_n 2, 1) := by decide +kernel
theorem D_Ro_add_190 : decode b_Ro_add 190 = .ok (.iaload, 1) := by decide +kernel
theorem D_Ro_add_191 : decode b_Ro_add 191 = .ok (.aload 4, 2) := by decide +kernel
theorem D_Ro_add_193 : decode b_Ro_add 193 = .ok (.invokevirtual 61, 3) := by decide +kernel
theorem D_Ro_add_196 : decode b_Ro_add 196 = .ok (.iinc 5 1, 3) := by decide +kernel
theorem D_Ro_add_199 : decode b_Ro_add 199 = .ok (.goto (-34), 3) := by decide +kernel
theorem D_Ro_add_202 : decode b_Ro_add 202 = .ok (.aload_n 0, 1) := by decide +kernel
theorem D_Ro_add_203 : decode b_Ro_add 203 = .ok (.getfield 16, 3) := by decide +kernel
theorem D_Ro_add_206 : decode b_Ro_add 206 = .ok (.iload_n 2, 1) := by decide +kernel
theorem D_Ro_add_207 : decode b_Ro_add 207 = .ok (.aload_n 0, 1) := by decide +kernel
theorem D_Ro_add_208 : decode b_Ro_add 208 = .ok (.getfield 52, 3) := by decide +kernel
theorem D_Ro_add_211 : decode b_Ro_add 211 = .ok (.iastore, 1) := by decide +kernel
theorem D_Ro_add_212 : decode b_Ro_add 212 = .ok (.aload_n 0, 1) := by decide +kernel
theorem D_Ro_add_213 : decode b_Ro_add 213 = .ok (.dup, 1) := by decide +kernel
theorem D_Ro_add_214 : decode b_Ro_add 214 = .ok (.getfield 52, 3) := by decide +kernel
theorem D_Ro_add_217 : decode b_Ro_add 217 = .ok (.iconst 1, 1) := by decide +kernel
theorem D_Ro_add_218 : decode b_Ro_add 218 = .ok (.iadd, 1) := by decide +kernel
theorem D_Ro_add_219 : decode b_Ro_add 219 = .ok (.putfield 52, 3) := by decide +kernel
theorem D_Ro_add_222 : decode b_Ro_add 222 = .ok (.iconst 1, 1) := by decide +kernel
theorem D_Ro_add_223 : decode b_Ro_add 223 = .ok (.ireturn, 1) := by decide +kernel
abbrev rm_Ro_add : Room := { frames := 1, cells := 0, slots := 0, locals := 25 }
def B_Ro_add_165 (k165 : Nat → Int32 → Nat → Int32 → Mem → Prop) (post : Int32 → Mem → Prop) (a0 : Nat) (x2 : Int32) (a4 : Nat) (x5 : Int32) (M : Mem) : Prop := (isK M a0 5 ∧ ((gI M a0 7) ≤ x5 → (isK M a0 5 ∧ ∃ q203, gR M a0 3 = some q203 ∧ isK M a0 5 ∧ isA M q203 8 x2 ∧ isK (sI M q203 (Int32.toNatClampNeg x2) (gI M a0 7)) a0 5 ∧ isK (sI M q203 (Int32.toNatClampNeg x2) (gI M a0 7)) a0 5 ∧ narrow .boolean (.int 1) = .int 1 ∧ post 1 (sI (sI M q203 (Int32.toNatClampNeg x2) (gI M a0 7)) a0 7 ((gI (sI M q203 (Int32.toNatClampNeg x2) (gI M a0 7)) a0 7) + 1)))) ∧ (¬ (gI M a0 7) ≤ x5 → (isK M a0 5 ∧ ∃ q176, gR M a0 2 = some q176 ∧ isA M q176 11 x5 ∧ ∃ q181, gR M q176 (Int32.toNatClampNeg x5) = some q181 ∧ isK M a0 5 ∧ ∃ q183, gR M a0 2 = some q183 ∧ isA M q183 11 x5 ∧ ∃ q188, gR M q183 (Int32.toNatClampNeg x5) = some q188 ∧ isA M q188 8 x2 ∧ isK M a0 5 ∧ T_Ro_subtract a0 q181 (gI M q188 (Int32.toNatClampNeg x2)) a4 M (fun M193 => k165 a0 x2 a4 (x5 + 1) M193))))
set_option maxRecDepth 20000 in
theorem Z_Ro_add_165 {x : Ctx} {post : Int32 → Mem → Prop} (C : Ok x b_Ro_add 6 "HeapTower$Rows") (hR : xR x = rm_Ro_add) (Rt : RetI x .boolean post 0 0) {k165 : Nat → Int32 → Nat → Int32 → Mem → Prop} (K165 : ∀ (a0 : Nat) (x2 : Int32) (a4 : Nat) (x5 : Int32) (M : Mem), k165 a0 x2 a4 x5 M → J x 6 165 [(0, .ref (xd x a0)), (2, .int x2), (4, .ref (xd x a4)), (5, .int x5)] [] 0 0 M) (a0 : Nat) (x2 : Int32) (a4 : Nat) (x5 : Int32) (M : Mem) (h : B_Ro_add_165 k165 post a0 x2 a4 x5 M) : J x 6 165 [(0, .ref (xd x a0)), (2, .int x2), (4, .ref (xd x a4)), (5, .int x5)] [] 0 0 M := by
  unfold B_Ro_add_165 at h
  refine J_iload C 5 D_Ro_add_165 rfl ?_
  refine J_aload_n C 0 D_Ro_add_167 rfl rfl ?_
  obtain ⟨c_168, h⟩ := h
  refine J_getI C fl_Ro_52 D_Ro_add_168 c_168 ?_
  refine J_icmp_ge (tgt := 202) C D_Ro_add_171 (by decide) (fun c_171 => ?_) (fun c_171 => ?_)
  · have h := h.1 c_171
    refine J_aload_n C 0 D_Ro_add_202 rfl rfl ?_
    obtain ⟨c_203, q203, e_203, h⟩ := h
    refine J_getR C fl_Ro_16 D_Ro_add_203 c_203 e_203 ?_
    refine J_iload_n C 2 D_Ro_add_206 rfl rfl ?_
    refine J_aload_n C 0 D_Ro_add_207 rfl rfl ?_
    obtain ⟨c_208, h⟩ := h
    refine J_getI C fl_Ro_52 D_Ro_add_208 c_208 ?_
    obtain ⟨c_211, h⟩ := h
    refine J_iast C D_Ro_add_211 c_211 ?_
    refine J_aload_n C 0 D_Ro_add_212 rfl rfl ?_
    refine J_dup C D_Ro_add_213 rfl ?_
    obtain ⟨c_214, h⟩ := h
    refine J_getI C fl_Ro_52 D_Ro_add_214 c_214 ?_
    refine J_iconst (v := 1) C D_Ro_add_217 rfl ?_
    refine J_iadd C D_Ro_add_218 ?_
    obtain ⟨c_219, h⟩ := h
    refine J_putI C fl_Ro_52 D_Ro_add_219 c_219 ?_
    refine J_iconst (v := 1) C D_Ro_add_222 rfl ?_
    obtain ⟨c_223, h⟩ := h
    exact J_iret C Rt D_Ro_add_223 c_223 h
  · have h := h.2 c_171
    refine J_aload_n C 0 D_Ro_add_174 rfl rfl ?_
    refine J_aload_n C 0 D_Ro_add_175 rfl rfl ?_
    obtain ⟨c_176, q176, e_176, h⟩ := h
    refine J_getR C fl_Ro_11 D_Ro_add_176 c_176 e_176 ?_
    refine J_iload C 5 D_Ro_add_179 rfl ?_
    obtain ⟨c_181, q181, e_181, h⟩ := h
    refine J_aaldI C D_Ro_add_181 c_181 e_181 ?_
    refine J_aload_n C 0 D_Ro_add_182 rfl rfl ?_
    obtain ⟨c_183, q183, e_183, h⟩ := h
    refine J_getR C fl_Ro_11 D_Ro_add_183 c_183 e_183 ?_
    refine J_iload C 5 D_Ro_add_186 rfl ?_
    obtain ⟨c_188, q188, e_188, h⟩ := h
    refine J_aaldI C D_Ro_add_188 c_188 e_188 ?_
    refine J_iload_n C 2 D_Ro_add_189 rfl rfl ?_
    obtain ⟨c_190, h⟩ := h
    refine J_iald C D_Ro_add_190 c_190 ?_
    refine J_aload C 4 D_Ro_add_191 rfl ?_
    obtain ⟨c_193, h⟩ := h
    refine J_callVv C ml_Ro_61 (S_Ro_subtract _ _ _ _ _ _ h) (by rw [hR]; decide) rfl c_193 rfl (Nat.le_of_ble_eq_true rfl) D_Ro_add_193 (fun M193 h => ?_)
    refine J_iinc (v := x5 + 1) (lv' := [(5, .int (x5 + 1)), (0, .ref (xd x a0)), (2, .int x2), (4, .ref (xd x a4))]) C 5 3 D_Ro_add_196 rfl rfl (by decide) rfl ?_
    refine J_goto (tgt := 165) C D_Ro_add_199 (by decide) ?_
    exact J_sub [1, 2, 3, 0] rfl (K165 _ _ _ _ _ h)
def L_Ro_add_165 (post : Int32 → Mem → Prop) : Nat → Nat → Int32 → Nat → Int32 → Mem → Prop
  | 0, _, _, _, _, _ => False
  | n + 1, a0, x2, a4, x5, M => B_Ro_add_165 (L_Ro_add_165 post n) post a0 x2 a4 x5 M
theorem Y_Ro_add_165 {x : Ctx} {post : Int32 → Mem → Prop} (C : Ok x b_Ro_add 6 "HeapTower$Rows") (hR : xR x = rm_Ro_add) (Rt : RetI x .boolean post 0 0) : ∀ (n : Nat) (a0 : Nat) (x2 : Int32) (a4 : Nat) (x5 : Int32) (M : Mem), L_Ro_add_165 post n a0 x2 a4 x5 M → J x 6 165 [(0, .ref (xd x a0)), (2, .int x2), (4, .ref (xd x a4)), (5, .int x5)] [] 0 0 M := by
  intro n
  induction n with
  | zero => intro a0 x2 a4 x5 M h; exact h.elim
  | succ n ih => intro a0 x2 a4 x5 M h; exact Z_Ro_add_165 C hR Rt ih _ _ _ _ _ h
def B_Ro_add_121 (k121 : Nat → Nat → Int32 → Int32 → Nat → Int32 → Mem → Prop) (post : Int32 → Mem → Prop) (a0 : Nat) (a1 : Nat) (x2 : Int32) (x3 : Int32) (a4 : Nat) (x5 : Int32) (M : Mem) : Prop := (isK M a0 5 ∧ ((gI M a0 5) ≤ x5 → (∃ n, L_Ro_add_165 post n a0 x2 a4 0 M)) ∧ (¬ (gI M a0 5) ≤ x5 → (isK M a0 5 ∧ ∃ q133, gR M a0 4 = some q133 ∧ isA M q133 8 x5 ∧ isK M a0 5 ∧ ∃ q141, gR M a0 4 = some q141 ∧ isA M q141 8 x5 ∧ isA M a1 8 (gI M q141 (Int32.toNatClampNeg x5)) ∧ isK M a0 5 ∧ ¬ ((gI M a0 6) : Int32) = 0 ∧ isA M a4 8 (gI M q133 (Int32.toNatClampNeg x5)) ∧ k121 a0 a1 x2 x3 a4 (x5 + 1) (sI M a4 (Int32.toNatClampNeg (gI M q133 (Int32.toNatClampNeg x5))) (((gI M a1 (Int32.toNatClampNeg (gI M q141 (Int32.toNatClampNeg x5)))) * x3) - ((gI M a1 (Int32.toNatClampNeg (gI M q141 (Int32.toNatClampNeg x5)))) * x3) / (gI M a0 6) * (gI M a0 6))))))
set_option maxRecDepth 20000 in
theorem Z_Ro_add_121 {x : Ctx} {post : Int32 → Mem → Prop} (C : Ok x b_Ro_add 6 "HeapTower$Rows") (hR : xR x = rm_Ro_add) (Rt : RetI x .boolean post 0 0) {k121 : Nat → Nat → Int32 → Int32 → Nat → Int32 → Mem → Prop} (K121 : ∀ (a0 : Nat) (a1 : Nat) (x2 : Int32) (x3 : Int32) (a4 : Nat) (x5 : Int32) (M : Mem), k121 a0 a1 x2 x3 a4 x5 M → J x 6 121 [(0, .ref (xd x a0)), (1, .ref (xd x a1)), (2, .int x2), (3, .int x3), (4, .ref (xd x a4)), (5, .int x5)] [] 0 0 M) (a0 : Nat) (a1 : Nat) (x2 : Int32) (x3 : Int32) (a4 : Nat) (x5 : Int32) (M : Mem) (h : B_Ro_add_121 k121 post a0 a1 x2 x3 a4 x5 M) : J x 6 121 [(0, .ref (xd x a0)), (1, .ref (xd x a1)), (2, .int x2), (3, .int x3), (4, .ref (xd x a4)), (5, .int x5)] [] 0 0 M := by
  unfold B_Ro_add_121 at h
  refine J_iload C 5 D_Ro_add_121 rfl ?_
  refine J_aload_n C 0 D_Ro_add_123 rfl rfl ?_
  obtain ⟨c_124, h⟩ := h
  refine J_getI C fl_Ro_37 D_Ro_add_124 c_124 ?_
  refine J_icmp_ge (tgt := 162) C D_Ro_add_127 (by decide) (fun c_127 => ?_) (fun c_127 => ?_)
  · have h := h.1 c_127
    refine J_iconst (v := 0) C D_Ro_add_162 rfl ?_
    refine J_istore (lv' := [(5, .int 0), (0, .ref (xd x a0)), (1, .ref (xd x a1)), (2, .int x2), (3, .int x3), (4, .ref (xd x a4))]) C 5 D_Ro_add_163 (by decide) rfl ?_
    obtain ⟨n, h⟩ := h
    exact J_sub [1, 3, 5, 0] rfl (Y_Ro_add_165 C hR Rt  n _ _ _ _ _ h)
  · have h := h.2 c_127
    refine J_aload C 4 D_Ro_add_130 rfl ?_
    refine J_aload_n C 0 D_Ro_add_132 rfl rfl ?_
    obtain ⟨c_133, q133, e_133, h⟩ := h
    refine J_getR C fl_Ro_20 D_Ro_add_133 c_133 e_133 ?_
    refine J_iload C 5 D_Ro_add_136 rfl ?_
    obtain ⟨c_138, h⟩ := h
    refine J_iald C D_Ro_add_138 c_138 ?_
    refine J_aload_n C 1 D_Ro_add_139 rfl rfl ?_
    refine J_aload_n C 0 D_Ro_add_140 rfl rfl ?_
    obtain ⟨c_141, q141, e_141, h⟩ := h
    refine J_getR C fl_Ro_20 D_Ro_add_141 c_141 e_141 ?_
    refine J_iload C 5 D_Ro_add_144 rfl ?_
    obtain ⟨c_146, h⟩ := h
    refine J_iald C D_Ro_add_146 c_146 ?_
    obtain ⟨c_147, h⟩ := h
    refine J_iald C D_Ro_add_147 c_147 ?_
    refine J_iload_n C 3 D_Ro_add_148 rfl rfl ?_
    refine J_imul C D_Ro_add_149 ?_
    refine J_aload_n C 0 D_Ro_add_150 rfl rfl ?_
    obtain ⟨c_151, h⟩ := h
    refine J_getI C fl_Ro_50 D_Ro_add_151 c_151 ?_
    obtain ⟨c_154, h⟩ := h
    refine J_irem C D_Ro_add_154 c_154 ?_
    obtain ⟨c_155, h⟩ := h
    refine J_iast C D_Ro_add_155 c_155 ?_
    refine J_iinc (v := x5 + 1) (lv' := [(5, .int (x5 + 1)), (0, .ref (xd x a0)), (1, .ref (xd x a1)), (2, .int x2), (3, .int x3), (4, .ref (xd x a4))]) C 5 5 D_Ro_add_156 rfl rfl (by decide) rfl ?_
    refine J_goto (tgt := 121) C D_Ro_add_159 (by decide) ?_
    exact J_sub [1, 2, 3, 4, 5, 0] rfl (K121 _ _ _ _ _ _ _ h)
def L_Ro_add_121 (post : Int32 → Mem → Prop) : Nat → Nat → Nat → Int32 → Int32 → Nat → Int32 → Mem → Prop
  | 0, _, _, _, _, _, _, _ => False
  | n + 1, a0, a1, x2, x3, a4, x5, M => B_Ro_add_121 (L_Ro_add_121 post n) post a0 a1 x2 x3 a4 x5 M
theorem Y_Ro_add_121 {x : Ctx} {post : Int32 → Mem → Prop} (C : Ok x b_Ro_add 6 "HeapTower$Rows") (hR : xR x = rm_Ro_add) (Rt : RetI x .boolean post 0 0) : ∀ (n : Nat) (a0 : Nat) (a1 : Nat) (x2 : Int32) (x3 : Int32) (a4 : Nat) (x5 : Int32) (M : Mem), L_Ro_add_121 post n a0 a1 x2 x3 a4 x5 M → J x 6 121 [(0, .ref (xd x a0)), (1, .ref (xd x a1)), (2, .int x2), (3, .int x3), (4, .ref (xd x a4)), (5, .int x5)] [] 0 0 M := by
  intro n
  induction n with
  | zero => intro a0 a1 x2 x3 a4 x5 M h; exact h.elim
  | succ n ih => intro a0 a1 x2 x3 a4 x5 M h; exact Z_Ro_add_121 C hR Rt ih _ _ _ _ _ _ _ h
def B_Ro_add_94 (post : Int32 → Mem → Prop) (M : Mem) : Prop := (narrow .boolean (.int 0) = .int 0 ∧ post 0 M)
set_option maxRecDepth 20000 in
theorem Z_Ro_add_94 {x : Ctx} {post : Int32 → Mem → Prop} (C : Ok x b_Ro_add 6 "HeapTower$Rows") (hR : xR x = rm_Ro_add) (Rt : RetI x .boolean post 0 0) (M : Mem) (h : B_Ro_add_94 post M) : J x 6 94 [] [] 0 0 M := by
  unfold B_Ro_add_94 at h
  refine J_iconst (v := 0) C D_Ro_add_94 rfl ?_
  obtain ⟨c_95, h⟩ := h
  exact J_iret C Rt D_Ro_add_95 c_95 h
def B_Ro_add_75 (k4 : Nat → Nat → Int32 → Int32 → Mem → Prop) (post : Int32 → Mem → Prop) (a0 : Nat) (a1 : Nat) (x2 : Int32) (x3 : Int32) (M : Mem) : Prop := (k4 a0 a1 x2 (x3 + 1) M)
set_option maxRecDepth 20000 in
theorem Z_Ro_add_75 {x : Ctx} {post : Int32 → Mem → Prop} (C : Ok x b_Ro_add 6 "HeapTower$Rows") (hR : xR x = rm_Ro_add) (Rt : RetI x .boolean post 0 0) {k4 : Nat → Nat → Int32 → Int32 → Mem → Prop} (K4 : ∀ (a0 : Nat) (a1 : Nat) (x2 : Int32) (x3 : Int32) (M : Mem), k4 a0 a1 x2 x3 M → J x 6 4 [(0, .ref (xd x a0)), (1, .ref (xd x a1)), (2, .int x2), (3, .int x3)] [] 0 0 M) (a0 : Nat) (a1 : Nat) (x2 : Int32) (x3 : Int32) (M : Mem) (h : B_Ro_add_75 k4 post a0 a1 x2 x3 M) : J x 6 75 [(0, .ref (xd x a0)), (1, .ref (xd x a1)), (2, .int x2), (3, .int x3)] [] 0 0 M := by
  unfold B_Ro_add_75 at h
  refine J_iinc (v := x3 + 1) (lv' := [(3, .int (x3 + 1)), (0, .ref (xd x a0)), (1, .ref (xd x a1)), (2, .int x2)]) C 3 3 D_Ro_add_75 rfl rfl (by decide) rfl ?_
  refine J_goto (tgt := 4) C D_Ro_add_78 (by decide) ?_
  exact J_sub [1, 2, 3, 0] rfl (K4 _ _ _ _ _ h)
def B_Ro_add_61 (k4 : Nat → Nat → Int32 → Int32 → Mem → Prop) (post : Int32 → Mem → Prop) (a0 : Nat) (a1 : Nat) (x2 : Int32) (x3 : Int32) (x4 : Int32) (M : Mem) : Prop := (isA M a1 8 x4 ∧ ((gI M a1 (Int32.toNatClampNeg x4)) = 0 → (B_Ro_add_75 k4 post a0 a1 x2 x3 M)) ∧ (¬ (gI M a1 (Int32.toNatClampNeg x4)) = 0 → ((0 ≤ x2 → (B_Ro_add_75 k4 post a0 a1 x2 x3 M)) ∧ (¬ 0 ≤ x2 → (B_Ro_add_75 k4 post a0 a1 x4 x3 M)))))
set_option maxRecDepth 20000 in
theorem Z_Ro_add_61 {x : Ctx} {post : Int32 → Mem → Prop} (C : Ok x b_Ro_add 6 "HeapTower$Rows") (hR : xR x = rm_Ro_add) (Rt : RetI x .boolean post 0 0) {k4 : Nat → Nat → Int32 → Int32 → Mem → Prop} (K4 : ∀ (a0 : Nat) (a1 : Nat) (x2 : Int32) (x3 : Int32) (M : Mem), k4 a0 a1 x2 x3 M → J x 6 4 [(0, .ref (xd x a0)), (1, .ref (xd x a1)), (2, .int x2), (3, .int x3)] [] 0 0 M) (a0 : Nat) (a1 : Nat) (x2 : Int32) (x3 : Int32) (x4 : Int32) (M : Mem) (h : B_Ro_add_61 k4 post a0 a1 x2 x3 x4 M) : J x 6 61 [(0, .ref (xd x a0)), (1, .ref (xd x a1)), (2, .int x2), (3, .int x3), (4, .int x4)] [] 0 0 M := by
  unfold B_Ro_add_61 at h
  refine J_aload_n C 1 D_Ro_add_61 rfl rfl ?_
  refine J_iload C 4 D_Ro_add_62 rfl ?_
  obtain ⟨c_64, h⟩ := h
  refine J_iald C D_Ro_add_64 c_64 ?_
  refine J_if_eq (tgt := 75) C D_Ro_add_65 (by decide) (fun c_65 => ?_) (fun c_65 => ?_)
  · have h := h.1 c_65
    exact J_sub [0, 1, 2, 3] rfl (Z_Ro_add_75 C hR Rt K4 _ _ _ _ _ h)
  · have h := h.2 c_65
    refine J_iload_n C 2 D_Ro_add_68 rfl rfl ?_
    refine J_if_ge (tgt := 75) C D_Ro_add_69 (by decide) (fun c_69 => ?_) (fun c_69 => ?_)
    · have h := h.1 c_69
      exact J_sub [0, 1, 2, 3] rfl (Z_Ro_add_75 C hR Rt K4 _ _ _ _ _ h)
    · have h := h.2 c_69
      refine J_iload C 4 D_Ro_add_72 rfl ?_
      refine J_istore_n (lv' := [(2, .int x4), (0, .ref (xd x a0)), (1, .ref (xd x a1)), (3, .int x3), (4, .int x4)]) C 2 D_Ro_add_74 rfl (by decide) rfl ?_
      exact J_sub [1, 2, 0, 3] rfl (Z_Ro_add_75 C hR Rt K4 _ _ _ _ _ h)
def B_Ro_add_4 (k4 : Nat → Nat → Int32 → Int32 → Mem → Prop) (post : Int32 → Mem → Prop) (a0 : Nat) (a1 : Nat) (x2 : Int32) (x3 : Int32) (M : Mem) : Prop := (isK M a0 5 ∧ ((gI M a0 5) ≤ x3 → ((x2 < 0 → (B_Ro_add_94 post M)) ∧ (¬ x2 < 0 → (isK M a0 5 ∧ ((gI M a0 7) < 66 → (isK M a0 5 ∧ ∃ q97, gR M a0 1 = some q97 ∧ isA M a1 8 x2 ∧ isK M q97 2 ∧ T_Nu_inverse q97 (gI M a1 (Int32.toNatClampNeg x2)) M (fun r103 M103 => isK M103 a0 5 ∧ ∃ q108, gR M103 a0 2 = some q108 ∧ isK M103 a0 5 ∧ isA M103 q108 11 (gI M103 a0 7) ∧ ∃ q115, gR M103 q108 (Int32.toNatClampNeg (gI M103 a0 7)) = some q115 ∧ ∃ n, L_Ro_add_121 post n a0 a1 x2 r103 q115 0 M103))) ∧ (¬ (gI M a0 7) < 66 → (B_Ro_add_94 post M)))))) ∧ (¬ (gI M a0 5) ≤ x3 → (isK M a0 5 ∧ ∃ q13, gR M a0 4 = some q13 ∧ isA M q13 8 x3 ∧ isA M a1 8 (gI M q13 (Int32.toNatClampNeg x3)) ∧ ((gI M a1 (Int32.toNatClampNeg (gI M q13 (Int32.toNatClampNeg x3)))) = 0 → (B_Ro_add_61 k4 post a0 a1 x2 x3 (gI M q13 (Int32.toNatClampNeg x3)) M)) ∧ (¬ (gI M a1 (Int32.toNatClampNeg (gI M q13 (Int32.toNatClampNeg x3)))) = 0 → (isK M a0 5 ∧ ∃ q28, gR M a0 3 = some q28 ∧ isA M q28 8 (gI M q13 (Int32.toNatClampNeg x3)) ∧ ((gI M q28 (Int32.toNatClampNeg (gI M q13 (Int32.toNatClampNeg x3)))) < 0 → (B_Ro_add_61 k4 post a0 a1 x2 x3 (gI M q13 (Int32.toNatClampNeg x3)) M)) ∧ (¬ (gI M q28 (Int32.toNatClampNeg (gI M q13 (Int32.toNatClampNeg x3)))) < 0 → (isA M a1 8 (gI M q13 (Int32.toNatClampNeg x3)) ∧ isK M a0 5 ∧ ∃ q44, gR M a0 2 = some q44 ∧ isK M a0 5 ∧ ∃ q48, gR M a0 3 = some q48 ∧ isA M q48 8 (gI M q13 (Int32.toNatClampNeg x3)) ∧ isA M q44 11 (gI M q48 (Int32.toNatClampNeg (gI M q13 (Int32.toNatClampNeg x3)))) ∧ ∃ q54, gR M q44 (Int32.toNatClampNeg (gI M q48 (Int32.toNatClampNeg (gI M q13 (Int32.toNatClampNeg x3))))) = some q54 ∧ isK M a0 5 ∧ T_Ro_subtract a0 a1 (gI M a1 (Int32.toNatClampNeg (gI M q13 (Int32.toNatClampNeg x3)))) q54 M (fun M55 => B_Ro_add_75 k4 post a0 a1 x2 x3 M55))))))))
set_option maxRecDepth 20000 in
theorem Z_Ro_add_4 {x : Ctx} {post : Int32 → Mem → Prop} (C : Ok x b_Ro_add 6 "HeapTower$Rows") (hR : xR x = rm_Ro_add) (Rt : RetI x .boolean post 0 0) {k4 : Nat → Nat → Int32 → Int32 → Mem → Prop} (K4 : ∀ (a0 : Nat) (a1 : Nat) (x2 : Int32) (x3 : Int32) (M : Mem), k4 a0 a1 x2 x3 M → J x 6 4 [(0, .ref (xd x a0)), (1, .ref (xd x a1)), (2, .int x2), (3, .int x3)] [] 0 0 M) (a0 : Nat) (a1 : Nat) (x2 : Int32) (x3 : Int32) (M : Mem) (h : B_Ro_add_4 k4 post a0 a1 x2 x3 M) : J x 6 4 [(0, .ref (xd x a0)), (1, .ref (xd x a1)), (2, .int x2), (3, .int x3)] [] 0 0 M := by
  unfold B_Ro_add_4 at h
  refine J_iload_n C 3 D_Ro_add_4 rfl rfl ?_
  refine J_aload_n C 0 D_Ro_add_5 rfl rfl ?_
  obtain ⟨c_6, h⟩ := h
  refine J_getI C fl_Ro_37 D_Ro_add_6 c_6 ?_
  refine J_icmp_ge (tgt := 81) C D_Ro_add_9 (by decide) (fun c_9 => ?_) (fun c_9 => ?_)
  · have h := h.1 c_9
    refine J_iload_n C 2 D_Ro_add_81 rfl rfl ?_
    refine J_if_lt (tgt := 94) C D_Ro_add_82 (by decide) (fun c_82 => ?_) (fun c_82 => ?_)
    · have h := h.1 c_82
      exact J_sub [] rfl (Z_Ro_add_94 C hR Rt  _ h)
    · have h := h.2 c_82
      refine J_aload_n C 0 D_Ro_add_85 rfl rfl ?_
      obtain ⟨c_86, h⟩ := h
      refine J_getI C fl_Ro_52 D_Ro_add_86 c_86 ?_
      refine J_bipush (v := 66) C D_Ro_add_89 rfl ?_
      refine J_icmp_lt (tgt := 96) C D_Ro_add_91 (by decide) (fun c_91 => ?_) (fun c_91 => ?_)
      · have h := h.1 c_91
        refine J_aload_n C 0 D_Ro_add_96 rfl rfl ?_
        obtain ⟨c_97, q97, e_97, h⟩ := h
        refine J_getR C fl_Ro_27 D_Ro_add_97 c_97 e_97 ?_
        refine J_aload_n C 1 D_Ro_add_100 rfl rfl ?_
        refine J_iload_n C 2 D_Ro_add_101 rfl rfl ?_
        obtain ⟨c_102, h⟩ := h
        refine J_iald C D_Ro_add_102 c_102 ?_
        obtain ⟨c_103, h⟩ := h
        refine J_callVi C ml_Ro_65 (S_Nu_inverse _ _ _ _ h) (by rw [hR]; decide) rfl c_103 rfl (Nat.le_of_ble_eq_true rfl) D_Ro_add_103 (fun r103 M103 h => ?_)
        refine J_istore_n (lv' := [(3, .int r103), (0, .ref (xd x a0)), (1, .ref (xd x a1)), (2, .int x2)]) C 3 D_Ro_add_106 rfl (by decide) rfl ?_
        refine J_aload_n C 0 D_Ro_add_107 rfl rfl ?_
        obtain ⟨c_108, q108, e_108, h⟩ := h
        refine J_getR C fl_Ro_11 D_Ro_add_108 c_108 e_108 ?_
        refine J_aload_n C 0 D_Ro_add_111 rfl rfl ?_
        obtain ⟨c_112, h⟩ := h
        refine J_getI C fl_Ro_52 D_Ro_add_112 c_112 ?_
        obtain ⟨c_115, q115, e_115, h⟩ := h
        refine J_aaldI C D_Ro_add_115 c_115 e_115 ?_
        refine J_astore (lv' := [(4, .ref (xd x q115)), (3, .int r103), (0, .ref (xd x a0)), (1, .ref (xd x a1)), (2, .int x2)]) C 4 D_Ro_add_116 (by decide) rfl ?_
        refine J_iconst (v := 0) C D_Ro_add_118 rfl ?_
        refine J_istore (lv' := [(5, .int 0), (4, .ref (xd x q115)), (3, .int r103), (0, .ref (xd x a0)), (1, .ref (xd x a1)), (2, .int x2)]) C 5 D_Ro_add_119 (by decide) rfl ?_
        obtain ⟨n, h⟩ := h
        exact J_sub [3, 4, 5, 2, 1, 0] rfl (Y_Ro_add_121 C hR Rt  n _ _ _ _ _ _ _ h)
      · have h := h.2 c_91
        exact J_sub [] rfl (Z_Ro_add_94 C hR Rt  _ h)
  · have h := h.2 c_9
    refine J_aload_n C 0 D_Ro_add_12 rfl rfl ?_
    obtain ⟨c_13, q13, e_13, h⟩ := h
    refine J_getR C fl_Ro_20 D_Ro_add_13 c_13 e_13 ?_
    refine J_iload_n C 3 D_Ro_add_16 rfl rfl ?_
    obtain ⟨c_17, h⟩ := h
    refine J_iald C D_Ro_add_17 c_17 ?_
    refine J_istore (lv' := [(4, .int (gI M q13 (Int32.toNatClampNeg x3))), (0, .ref (xd x a0)), (1, .ref (xd x a1)), (2, .int x2), (3, .int x3)]) C 4 D_Ro_add_18 (by decide) rfl ?_
    refine J_aload_n C 1 D_Ro_add_20 rfl rfl ?_
    refine J_iload C 4 D_Ro_add_21 rfl ?_
    obtain ⟨c_23, h⟩ := h
    refine J_iald C D_Ro_add_23 c_23 ?_
    refine J_if_eq (tgt := 61) C D_Ro_add_24 (by decide) (fun c_24 => ?_) (fun c_24 => ?_)
    · have h := h.1 c_24
      exact J_sub [1, 2, 3, 4, 0] rfl (Z_Ro_add_61 C hR Rt K4 _ _ _ _ _ _ h)
    · have h := h.2 c_24
      refine J_aload_n C 0 D_Ro_add_27 rfl rfl ?_
      obtain ⟨c_28, q28, e_28, h⟩ := h
      refine J_getR C fl_Ro_16 D_Ro_add_28 c_28 e_28 ?_
      refine J_iload C 4 D_Ro_add_31 rfl ?_
      obtain ⟨c_33, h⟩ := h
      refine J_iald C D_Ro_add_33 c_33 ?_
      refine J_if_lt (tgt := 61) C D_Ro_add_34 (by decide) (fun c_34 => ?_) (fun c_34 => ?_)
      · have h := h.1 c_34
        exact J_sub [1, 2, 3, 4, 0] rfl (Z_Ro_add_61 C hR Rt K4 _ _ _ _ _ _ h)
      · have h := h.2 c_34
        refine J_aload_n C 0 D_Ro_add_37 rfl rfl ?_
        refine J_aload_n C 1 D_Ro_add_38 rfl rfl ?_
        refine J_aload_n C 1 D_Ro_add_39 rfl rfl ?_
        refine J_iload C 4 D_Ro_add_40 rfl ?_
        obtain ⟨c_42, h⟩ := h
        refine J_iald C D_Ro_add_42 c_42 ?_
        refine J_aload_n C 0 D_Ro_add_43 rfl rfl ?_
        obtain ⟨c_44, q44, e_44, h⟩ := h
        refine J_getR C fl_Ro_11 D_Ro_add_44 c_44 e_44 ?_
        refine J_aload_n C 0 D_Ro_add_47 rfl rfl ?_
        obtain ⟨c_48, q48, e_48, h⟩ := h
        refine J_getR C fl_Ro_16 D_Ro_add_48 c_48 e_48 ?_
        refine J_iload C 4 D_Ro_add_51 rfl ?_
        obtain ⟨c_53, h⟩ := h
        refine J_iald C D_Ro_add_53 c_53 ?_
        obtain ⟨c_54, q54, e_54, h⟩ := h
        refine J_aaldI C D_Ro_add_54 c_54 e_54 ?_
        obtain ⟨c_55, h⟩ := h
        refine J_callVv C ml_Ro_61 (S_Ro_subtract _ _ _ _ _ _ h) (by rw [hR]; decide) rfl c_55 rfl (Nat.le_of_ble_eq_true rfl) D_Ro_add_55 (fun M55 h => ?_)
        refine J_goto (tgt := 75) C D_Ro_add_58 (by decide) ?_
        exact J_sub [1, 2, 3, 4] rfl (Z_Ro_add_75 C hR Rt K4 _ _ _ _ _ h)
def L_Ro_add_4 (post : Int32 → Mem → Prop) : Nat → Nat → Nat → Int32 → Int32 → Mem → Prop
  | 0, _, _, _, _, _ => False
  | n + 1, a0, a1, x2, x3, M => B_Ro_add_4 (L_Ro_add_4 post n) post a0 a1 x2 x3 M
theorem Y_Ro_add_4 {x : Ctx} {post : Int32 → Mem → Prop} (C : Ok x b_Ro_add 6 "HeapTower$Rows") (hR : xR x = rm_Ro_add) (Rt : RetI x .boolean post 0 0) : ∀ (n : Nat) (a0 : Nat) (a1 : Nat) (x2 : Int32) (x3 : Int32) (M : Mem), L_Ro_add_4 post n a0 a1 x2 x3 M → J x 6 4 [(0, .ref (xd x a0)), (1, .ref (xd x a1)), (2, .int x2), (3, .int x3)] [] 0 0 M := by
  intro n
  induction n with
  | zero => intro a0 a1 x2 x3 M h; exact h.elim
  | succ n ih => intro a0 a1 x2 x3 M h; exact Z_Ro_add_4 C hR Rt ih _ _ _ _ _ h
def T_Ro_add (a0 : Nat) (a1 : Nat) (M : Mem) (post : Int32 → Mem → Prop) : Prop := (∃ n, L_Ro_add_4 post n a0 a1 ((-1)) 0 M)
set_option maxRecDepth 20000 in
theorem S_Ro_add {l : Launch} {D : va_G} {B t g : Nat} {d : Nat → Nat} {ac : Nat → ClassId}  (a0 : Nat) (a1 : Nat) (M : Mem) (post : Int32 → Mem → Prop) (h : T_Ro_add a0 a1 M post) : Met l y_Ro_add w_Ro_add rm_Ro_add (va_Pc [.ref (d a0), .ref (d a1)] (PRE D B d g t ac M)) (QI D B d g ac post) 0 0 (AB B) := by
  refine met_i (by decide +kernel) (Nat.le_of_ble_eq_true rfl) (fun x h1 hR h3 h4 h5 h6 h7 h8 C Rt => ?_)
  subst h3 h4 h5 h6 h7 h8
  unfold T_Ro_add at h
  show J x 6 0 [(0, .ref (xd x a0)), (1, .ref (xd x a1))] [] 0 0 M
  refine J_iconst (v := (-1)) C D_Ro_add_0 rfl ?_
  refine J_istore_n (lv' := [(2, .int ((-1))), (0, .ref (xd x a0)), (1, .ref (xd x a1))]) C 2 D_Ro_add_1 rfl (by decide) rfl ?_
  refine J_iconst (v := 0) C D_Ro_add_2 rfl ?_
  refine J_istore_n (lv' := [(3, .int 0), (2, .int ((-1))), (0, .ref (xd x a0)), (1, .ref (xd x a1))]) C 3 D_Ro_add_3 rfl (by decide) rfl ?_
  obtain ⟨n, h⟩ := h
  exact J_sub [2, 3, 1, 0] rfl (Y_Ro_add_4 C hR Rt  n _ _ _ _ _ h)
theorem D_Ro_hasHead_0 : decode b_Ro_hasHead 0 = .ok (.aload_n 0, 1) := by decide +kernel
theorem D_Ro_hasHead_1 : decode b_Ro_hasHead 1 = .ok (.getfield 16, 3) := by decide +kernel
theorem D_Ro_hasHead_4 : decode b_Ro_hasHead 4 = .ok (.iload_n 1, 1) := by decide +kernel
theorem D_Ro_hasHead_5 : decode b_Ro_hasHead 5 = .ok (.iaload, 1) := by decide +kernel
theorem D_Ro_hasHead_6 : decode b_Ro_hasHead 6 = .ok (.ifCond .lt 7, 3) := by decide +kernel
theorem D_Ro_hasHead_9 : decode b_Ro_hasHead 9 = .ok (.iconst 1, 1) := by decide +kernel
theorem D_Ro_hasHead_10 : decode b_Ro_hasHead 10 = .ok (.goto 4, 3) := by decide +kernel
theorem D_Ro_hasHead_13 : decode b_Ro_hasHead 13 = .ok (.iconst 0, 1) := by decide +kernel
theorem D_Ro_hasHead_14 : decode b_Ro_hasHead 14 = .ok (.ireturn, 1) := by decide +kernel
abbrev rm_Ro_hasHead : Room := { frames := 0, cells := 0, slots := 0, locals := 0 }
def B_Ro_hasHead_14 (post : Int32 → Mem → Prop) (s0 : Int32) (M : Mem) : Prop := (narrow .boolean (.int s0) = .int s0 ∧ post s0 M)
set_option maxRecDepth 20000 in
theorem Z_Ro_hasHead_14 {x : Ctx} {post : Int32 → Mem → Prop} (C : Ok x b_Ro_hasHead 2 "HeapTower$Rows") (hR : xR x = rm_Ro_hasHead) (Rt : RetI x .boolean post 0 0) (s0 : Int32) (M : Mem) (h : B_Ro_hasHead_14 post s0 M) : J x 2 14 [] [.int s0] 0 0 M := by
  unfold B_Ro_hasHead_14 at h
  obtain ⟨c_14, h⟩ := h
  exact J_iret C Rt D_Ro_hasHead_14 c_14 h
def T_Ro_hasHead (a0 : Nat) (x1 : Int32) (M : Mem) (post : Int32 → Mem → Prop) : Prop := (isK M a0 5 ∧ ∃ q1, gR M a0 3 = some q1 ∧ isA M q1 8 x1 ∧ ((gI M q1 (Int32.toNatClampNeg x1)) < 0 → (B_Ro_hasHead_14 post 0 M)) ∧ (¬ (gI M q1 (Int32.toNatClampNeg x1)) < 0 → (B_Ro_hasHead_14 post 1 M)))
set_option maxRecDepth 20000 in
theorem S_Ro_hasHead {l : Launch} {D : va_G} {B t g : Nat} {d : Nat → Nat} {ac : Nat → ClassId}  (a0 : Nat) (x1 : Int32) (M : Mem) (post : Int32 → Mem → Prop) (h : T_Ro_hasHead a0 x1 M post) : Met l y_Ro_hasHead w_Ro_hasHead rm_Ro_hasHead (va_Pc [.ref (d a0), .int x1] (PRE D B d g t ac M)) (QI D B d g ac post) 0 0 (AB B) := by
  refine met_i (by decide +kernel) (Nat.le_of_ble_eq_true rfl) (fun x h1 hR h3 h4 h5 h6 h7 h8 C Rt => ?_)
  subst h3 h4 h5 h6 h7 h8
  unfold T_Ro_hasHead at h
  show J x 2 0 [(0, .ref (xd x a0)), (1, .int x1)] [] 0 0 M
  refine J_aload_n C 0 D_Ro_hasHead_0 rfl rfl ?_
  obtain ⟨c_1, q1, e_1, h⟩ := h
  refine J_getR C fl_Ro_16 D_Ro_hasHead_1 c_1 e_1 ?_
  refine J_iload_n C 1 D_Ro_hasHead_4 rfl rfl ?_
  obtain ⟨c_5, h⟩ := h
  refine J_iald C D_Ro_hasHead_5 c_5 ?_
  refine J_if_lt (tgt := 13) C D_Ro_hasHead_6 (by decide) (fun c_6 => ?_) (fun c_6 => ?_)
  · have h := h.1 c_6
    refine J_iconst (v := 0) C D_Ro_hasHead_13 rfl ?_
    exact J_sub [] rfl (Z_Ro_hasHead_14 C hR Rt  _ _ h)
  · have h := h.2 c_6
    refine J_iconst (v := 1) C D_Ro_hasHead_9 rfl ?_
    refine J_goto (tgt := 14) C D_Ro_hasHead_10 (by decide) ?_
    exact J_sub [] rfl (Z_Ro_hasHead_14 C hR Rt  _ _ h)
theorem D_Ro_numberAt_0 : decode b_Ro_numberAt 0 = .ok (.aload_n 0, 1) := by decide +kernel
theorem D_Ro_numberAt_1 : decode b_Ro_numberAt 1 = .ok (.getfield 16, 3) := by decide +kernel
theorem D_Ro_numberAt_4 : decode b_Ro_numberAt 4 = .ok (.iload_n 1, 1) := by decide +kernel
theorem D_Ro_numberAt_5 : decode b_Ro_numberAt 5 = .ok (.iaload, 1) := by decide +kernel
theorem D_Ro_numberAt_6 : decode b_Ro_numberAt 6 = .ok (.ifCond .ge 7, 3) := by decide +kernel
theorem D_Ro_numberAt_9 : decode b_Ro_numberAt 9 = .ok (.iconst 0, 1) := by decide +kernel
theorem D_Ro_numberAt_10 : decode b_Ro_numberAt 10 = .ok (.goto 16, 3) := by decide +kernel
theorem D_Ro_numberAt_13 : decode b_Ro_numberAt 13 = .ok (.aload_n 0, 1) := by decide +kernel
theorem D_Ro_numberAt_14 : decode b_Ro_numberAt 14 = .ok (.getfield 11, 3) := by decide +kernel
theorem D_Ro_numberAt_17 : decode b_Ro_numberAt 17 = .ok (.aload_n 0, 1) := by decide +kernel
theorem D_Ro_numberAt_18 : decode b_Ro_numberAt 18 = .ok (.getfield 16, 3) := by decide +kernel
theorem D_Ro_numberAt_21 : decode b_Ro_numberAt 21 = .ok (.iload_n 1, 1) := by decide +kernel
theorem D_Ro_numberAt_22 : decode b_Ro_numberAt 22 = .ok (.iaload, 1) := by decide +kernel
theorem D_Ro_numberAt_23 : decode b_Ro_numberAt 23 = .ok (.aaload, 1) := by decide +kernel
theorem D_Ro_numberAt_24 : decode b_Ro_numberAt 24 = .ok (.iload_n 2, 1) := by decide +kernel
theorem D_Ro_numberAt_25 : decode b_Ro_numberAt 25 = .ok (.iaload, 1) := by decide +kernel
theorem D_Ro_numberAt_26 : decode b_Ro_numberAt 26 = .ok (.ireturn, 1) := by decide +kernel
abbrev rm_Ro_numberAt : Room := { frames := 0, cells := 0, slots := 0, locals := 0 }
def B_Ro_numberAt_26 (post : Int32 → Mem → Prop) (s0 : Int32) (M : Mem) : Prop := (post s0 M)
set_option maxRecDepth 20000 in
theorem Z_Ro_numberAt_26 {x : Ctx} {post : Int32 → Mem → Prop} (C : Ok x b_Ro_numberAt 3 "HeapTower$Rows") (hR : xR x = rm_Ro_numberAt) (Rt : RetI x .int post 0 0) (s0 : Int32) (M : Mem) (h : B_Ro_numberAt_26 post s0 M) : J x 3 26 [] [.int s0] 0 0 M := by
  unfold B_Ro_numberAt_26 at h
  exact J_iret C Rt D_Ro_numberAt_26 rfl h
def T_Ro_numberAt (a0 : Nat) (x1 : Int32) (x2 : Int32) (M : Mem) (post : Int32 → Mem → Prop) : Prop := (isK M a0 5 ∧ ∃ q1, gR M a0 3 = some q1 ∧ isA M q1 8 x1 ∧ (0 ≤ (gI M q1 (Int32.toNatClampNeg x1)) → (isK M a0 5 ∧ ∃ q14, gR M a0 2 = some q14 ∧ isK M a0 5 ∧ ∃ q18, gR M a0 3 = some q18 ∧ isA M q18 8 x1 ∧ isA M q14 11 (gI M q18 (Int32.toNatClampNeg x1)) ∧ ∃ q23, gR M q14 (Int32.toNatClampNeg (gI M q18 (Int32.toNatClampNeg x1))) = some q23 ∧ isA M q23 8 x2 ∧ B_Ro_numberAt_26 post (gI M q23 (Int32.toNatClampNeg x2)) M)) ∧ (¬ 0 ≤ (gI M q1 (Int32.toNatClampNeg x1)) → (B_Ro_numberAt_26 post 0 M)))
set_option maxRecDepth 20000 in
theorem S_Ro_numberAt {l : Launch} {D : va_G} {B t g : Nat} {d : Nat → Nat} {ac : Nat → ClassId}  (a0 : Nat) (x1 : Int32) (x2 : Int32) (M : Mem) (post : Int32 → Mem → Prop) (h : T_Ro_numberAt a0 x1 x2 M post) : Met l y_Ro_numberAt w_Ro_numberAt rm_Ro_numberAt (va_Pc [.ref (d a0), .int x1, .int x2] (PRE D B d g t ac M)) (QI D B d g ac post) 0 0 (AB B) := by
  refine met_i (by decide +kernel) (Nat.le_of_ble_eq_true rfl) (fun x h1 hR h3 h4 h5 h6 h7 h8 C Rt => ?_)
  subst h3 h4 h5 h6 h7 h8
  unfold T_Ro_numberAt at h
  show J x 3 0 [(0, .ref (xd x a0)), (1, .int x1), (2, .int x2)] [] 0 0 M
  refine J_aload_n C 0 D_Ro_numberAt_0 rfl rfl ?_
  obtain ⟨c_1, q1, e_1, h⟩ := h
  refine J_getR C fl_Ro_16 D_Ro_numberAt_1 c_1 e_1 ?_
  refine J_iload_n C 1 D_Ro_numberAt_4 rfl rfl ?_
  obtain ⟨c_5, h⟩ := h
  refine J_iald C D_Ro_numberAt_5 c_5 ?_
  refine J_if_ge (tgt := 13) C D_Ro_numberAt_6 (by decide) (fun c_6 => ?_) (fun c_6 => ?_)
  · have h := h.1 c_6
    refine J_aload_n C 0 D_Ro_numberAt_13 rfl rfl ?_
    obtain ⟨c_14, q14, e_14, h⟩ := h
    refine J_getR C fl_Ro_11 D_Ro_numberAt_14 c_14 e_14 ?_
    refine J_aload_n C 0 D_Ro_numberAt_17 rfl rfl ?_
    obtain ⟨c_18, q18, e_18, h⟩ := h
    refine J_getR C fl_Ro_16 D_Ro_numberAt_18 c_18 e_18 ?_
    refine J_iload_n C 1 D_Ro_numberAt_21 rfl rfl ?_
    obtain ⟨c_22, h⟩ := h
    refine J_iald C D_Ro_numberAt_22 c_22 ?_
    obtain ⟨c_23, q23, e_23, h⟩ := h
    refine J_aaldI C D_Ro_numberAt_23 c_23 e_23 ?_
    refine J_iload_n C 2 D_Ro_numberAt_24 rfl rfl ?_
    obtain ⟨c_25, h⟩ := h
    refine J_iald C D_Ro_numberAt_25 c_25 ?_
    exact J_sub [] rfl (Z_Ro_numberAt_26 C hR Rt  _ _ h)
  · have h := h.2 c_6
    refine J_iconst (v := 0) C D_Ro_numberAt_9 rfl ?_
    refine J_goto (tgt := 26) C D_Ro_numberAt_10 (by decide) ?_
    exact J_sub [] rfl (Z_Ro_numberAt_26 C hR Rt  _ _ h)
theorem D_Ro_size_0 : decode b_Ro_size 0 = .ok (.aload_n 0, 1) := by decide +kernel
theorem D_Ro_size_1 : decode b_Ro_size 1 = .ok (.getfield 52, 3) := by decide +kernel
theorem D_Ro_size_4 : decode b_Ro_size 4 = .ok (.ireturn, 1) := by decide +kernel
abbrev rm_Ro_size : Room := { frames := 0, cells := 0, slots := 0, locals := 0 }
def T_Ro_size (a0 : Nat) (M : Mem) (post : Int32 → Mem → Prop) : Prop := (isK M a0 5 ∧ post (gI M a0 7) M)
set_option maxRecDepth 20000 in
theorem S_Ro_size {l : Launch} {D : va_G} {B t g : Nat} {d : Nat → Nat} {ac : Nat → ClassId}  (a0 : Nat) (M : Mem) (post : Int32 → Mem → Prop) (h : T_Ro_size a0 M post) : Met l y_Ro_size w_Ro_size rm_Ro_size (va_Pc [.ref (d a0)] (PRE D B d g t ac M)) (QI D B d g ac post) 0 0 (AB B) := by
  refine met_i (by decide +kernel) (Nat.le_of_ble_eq_true rfl) (fun x h1 hR h3 h4 h5 h6 h7 h8 C Rt => ?_)
  subst h3 h4 h5 h6 h7 h8
  unfold T_Ro_size at h
  show J x 1 0 [(0, .ref (xd x a0))] [] 0 0 M
  refine J_aload_n C 0 D_Ro_size_0 rfl rfl ?_
  obtain ⟨c_1, h⟩ := h
  refine J_getI C fl_Ro_52 D_Ro_size_1 c_1 ?_
  exact J_iret C Rt D_Ro_size_4 rfl h
