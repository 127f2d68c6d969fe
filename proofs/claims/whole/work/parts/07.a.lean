theorem iw_Ba : ∀ w ∈ u_ws R_Ba F_Ba 13, w ∈ gw := fun w hw => gw_in (i_Ba w hw) (List.all_eq_true.mp (by decide +kernel : (u_ws R_Ba F_Ba 13).all goodWord = true) w hw)
theorem iw_He : ∀ w ∈ u_ws R_He F_He 5, w ∈ gw := fun w hw => gw_in (i_He w hw) (List.all_eq_true.mp (by decide +kernel : (u_ws R_He F_He 5).all goodWord = true) w hw)
theorem iw_Nu : ∀ w ∈ u_ws R_Nu F_Nu 2, w ∈ gw := fun w hw => gw_in (i_Nu w hw) (List.all_eq_true.mp (by decide +kernel : (u_ws R_Nu F_Nu 2).all goodWord = true) w hw)
theorem iw_Po : ∀ w ∈ u_ws R_Po F_Po 2, w ∈ gw := fun w hw => gw_in (i_Po w hw) (List.all_eq_true.mp (by decide +kernel : (u_ws R_Po F_Po 2).all goodWord = true) w hw)
theorem iw_Pr : ∀ w ∈ u_ws R_Pr F_Pr 6, w ∈ gw := fun w hw => gw_in (i_Pr w hw) (List.all_eq_true.mp (by decide +kernel : (u_ws R_Pr F_Pr 6).all goodWord = true) w hw)
theorem iw_Ro : ∀ w ∈ u_ws R_Ro F_Ro 8, w ∈ gw := fun w hw => gw_in (i_Ro w hw) (List.all_eq_true.mp (by decide +kernel : (u_ws R_Ro F_Ro 8).all goodWord = true) w hw)
theorem iw_HT : ∀ w ∈ u_ws R_HT F_HT 12, w ∈ gw := fun w hw => gw_in (i_HT w hw) (List.all_eq_true.mp (by decide +kernel : (u_ws R_HT F_HT 12).all goodWord = true) w hw)
theorem iw_Mo : ∀ w ∈ u_ws R_Mo F_Mo 18, w ∈ gw := fun w hw => gw_in (i_Mo w hw) (List.all_eq_true.mp (by decide +kernel : (u_ws R_Mo F_Mo 18).all goodWord = true) w hw)
theorem fl_Nu_9 : Fld "HeapTower$Numbers" 9 2 0 false true := ⟨R_Nu, F_Nu, 2, t_Nu, iw_Nu, rfl, by decide, rfl, rfl, by decide, rfl, (gw_in (List.mem_of_getElem? (i := 141) (by decide +kernel)) (by decide +kernel)), t_Nu_ok, n_Nu, rfl, (fun h => by cases h), fun _ => Or.inr ⟨_, rfl⟩⟩
theorem fl_Nu_19 : Fld "HeapTower$Numbers" 19 2 1 true false := ⟨R_Nu, F_Nu, 2, t_Nu, iw_Nu, rfl, by decide, rfl, rfl, by decide, rfl, (gw_in (List.mem_of_getElem? (i := 142) (by decide +kernel)) (by decide +kernel)), t_Nu_ok, n_Nu, rfl, fun _ => rfl, (fun h => by cases h)⟩
theorem ml_Nu_23 : MLS "HeapTower$Numbers" 23 y_Ma_floorMod b_Ma_floorMod 3 (some .int) 2 := ⟨List.forall_mem_cons.mpr ⟨(gw_in (List.mem_of_getElem? (i := 375) (by decide +kernel)) (by decide +kernel)), List.forall_mem_cons.mpr ⟨(gw_in (List.mem_of_getElem? (i := 376) (by decide +kernel)) (by decide +kernel)), List.forall_mem_cons.mpr ⟨(gw_in (List.mem_of_getElem? (i := 75) (by decide +kernel)) (by decide +kernel)), List.forall_mem_cons.mpr ⟨(gw_in (List.mem_of_getElem? (i := 377) (by decide +kernel)) (by decide +kernel)), fun _ h => absurd h List.not_mem_nil⟩⟩⟩⟩, by decide⟩
theorem ml_Ar_13 : MLS "java/util/Arrays" 13 y_Ar_rangeCheck b_Ar_rangeCheck 3 none 3 := ⟨List.forall_mem_cons.mpr ⟨(gw_in (List.mem_of_getElem? (i := 448) (by decide +kernel)) (by decide +kernel)), List.forall_mem_cons.mpr ⟨(gw_in (List.mem_of_getElem? (i := 449) (by decide +kernel)) (by decide +kernel)), List.forall_mem_cons.mpr ⟨(gw_in (List.mem_of_getElem? (i := 76) (by decide +kernel)) (by decide +kernel)), List.forall_mem_cons.mpr ⟨(gw_in (List.mem_of_getElem? (i := 450) (by decide +kernel)) (by decide +kernel)), fun _ h => absurd h List.not_mem_nil⟩⟩⟩⟩, by decide⟩
theorem D_Nu_setPrime_0 : decode b_Nu_setPrime 0 = .ok (.aload_n 0, 1) := by decide +kernel
theorem D_Nu_setPrime_1 : decode b_Nu_setPrime 1 = .ok (.iload_n 1, 1) := by decide +kernel
theorem D_Nu_setPrime_2 : decode b_Nu_setPrime 2 = .ok (.putfield 19, 3) := by decide +kernel
theorem D_Nu_setPrime_5 : decode b_Nu_setPrime 5 = .ok (.aload_n 0, 1) := by decide +kernel
theorem D_Nu_setPrime_6 : decode b_Nu_setPrime 6 = .ok (.getfield 9, 3) := by decide +kernel
theorem D_Nu_setPrime_9 : decode b_Nu_setPrime 9 = .ok (.iconst 1, 1) := by decide +kernel
theorem D_Nu_setPrime_10 : decode b_Nu_setPrime 10 = .ok (.iconst 1, 1) := by decide +kernel
theorem D_Nu_setPrime_11 : decode b_Nu_setPrime 11 = .ok (.iastore, 1) := by decide +kernel
theorem D_Nu_setPrime_12 : decode b_Nu_setPrime 12 = .ok (.iconst 2, 1) := by decide +kernel
theorem D_Nu_setPrime_13 : decode b_Nu_setPrime 13 = .ok (.istore_n 2, 1) := by decide +kernel
theorem D_Nu_setPrime_14 : decode b_Nu_setPrime 14 = .ok (.iload_n 2, 1) := by decide +kernel
theorem D_Nu_setPrime_15 : decode b_Nu_setPrime 15 = .ok (.iload_n 1, 1) := by decide +kernel
theorem D_Nu_setPrime_16 : decode b_Nu_setPrime 16 = .ok (.if_icmp .ge 31, 3) := by decide +kernel
theorem D_Nu_setPrime_19 : decode b_Nu_setPrime 19 = .ok (.aload_n 0, 1) := by decide +kernel
theorem D_Nu_setPrime_20 : decode b_Nu_setPrime 20 = .ok (.getfield 9, 3) := by decide +kernel
theorem D_Nu_setPrime_23 : decode b_Nu_setPrime 23 = .ok (.iload_n 2, 1) := by decide +kernel
theorem D_Nu_setPrime_24 : decode b_Nu_setPrime 24 = .ok (.iload_n 1, 1) := by decide +kernel
theorem D_Nu_setPrime_25 : decode b_Nu_setPrime 25 = .ok (.iload_n 1, 1) := by decide +kernel
theorem D_Nu_setPrime_26 : decode b_Nu_setPrime 26 = .ok (.iload_n 2, 1) := by decide +kernel
theorem D_Nu_setPrime_27 : decode b_Nu_setPrime 27 = .ok (.idiv, 1) := by decide +kernel
theorem D_Nu_setPrime_28 : decode b_Nu_setPrime 28 = .ok (.isub, 1) := by decide +kernel
theorem D_Nu_setPrime_29 : decode b_Nu_setPrime 29 = .ok (.aload_n 0, 1) := by decide +kernel
theorem D_Nu_setPrime_30 : decode b_Nu_setPrime 30 = .ok (.getfield 9, 3) := by decide +kernel
theorem D_Nu_setPrime_33 : decode b_Nu_setPrime 33 = .ok (.iload_n 1, 1) := by decide +kernel
theorem D_Nu_setPrime_34 : decode b_Nu_setPrime 34 = .ok (.iload_n 2, 1) := by decide +kernel
theorem D_Nu_setPrime_35 : decode b_Nu_setPrime 35 = .ok (.irem, 1) := by decide +kernel
theorem D_Nu_setPrime_36 : decode b_Nu_setPrime 36 = .ok (.iaload, 1) := by decide +kernel
theorem D_Nu_setPrime_37 : decode b_Nu_setPrime 37 = .ok (.imul, 1) := by decide +kernel
theorem D_Nu_setPrime_38 : decode b_Nu_setPrime 38 = .ok (.iload_n 1, 1) := by decide +kernel
theorem D_Nu_setPrime_39 : decode b_Nu_setPrime 39 = .ok (.irem, 1) := by decide +kernel
theorem D_Nu_setPrime_40 : decode b_Nu_setPrime 40 = .ok (.iastore, 1) := by decide +kernel
theorem D_Nu_setPrime_41 : decode b_Nu_setPrime 41 = .ok (.iinc 2 1, 3) := by decide +kernel
theorem D_Nu_setPrime_44 : decode b_Nu_setPrime 44 = .ok (.goto (-30), 3) := by decide +kernel
theorem D_Nu_setPrime_47 : decode b_Nu_setPrime 47 = .ok (.return_, 1) := by decide +kernel
abbrev rm_Nu_setPrime : Room := { frames := 0, cells := 0, slots := 0, locals := 0 }
def B_Nu_setPrime_14 (k14 : Nat → Int32 → Int32 → Mem → Prop) (post : Mem → Prop) (a0 : Nat) (x1 : Int32) (x2 : Int32) (M : Mem) : Prop := ((x1 ≤ x2 → (post M)) ∧ (¬ x1 ≤ x2 → (isK M a0 2 ∧ ∃ q20, gR M a0 0 = some q20 ∧ ¬ (x2 : Int32) = 0 ∧ isK M a0 2 ∧ ∃ q30, gR M a0 0 = some q30 ∧ ¬ (x2 : Int32) = 0 ∧ isA M q30 8 (x1 - x1 / x2 * x2) ∧ ¬ (x1 : Int32) = 0 ∧ isA M q20 8 x2 ∧ k14 a0 x1 (x2 + 1) (sI M q20 (Int32.toNatClampNeg x2) (((x1 - (x1 / x2)) * (gI M q30 (Int32.toNatClampNeg (x1 - x1 / x2 * x2)))) - ((x1 - (x1 / x2)) * (gI M q30 (Int32.toNatClampNeg (x1 - x1 / x2 * x2)))) / x1 * x1)))))
set_option maxRecDepth 20000 in
theorem Z_Nu_setPrime_14 {x : Ctx} {post : Mem → Prop} (C : Ok x b_Nu_setPrime 3 "HeapTower$Numbers") (hR : xR x = rm_Nu_setPrime) (Rt : RetV x post 0 0) {k14 : Nat → Int32 → Int32 → Mem → Prop} (K14 : ∀ (a0 : Nat) (x1 : Int32) (x2 : Int32) (M : Mem), k14 a0 x1 x2 M → J x 3 14 [(0, .ref (xd x a0)), (1, .int x1), (2, .int x2)] [] 0 0 M) (a0 : Nat) (x1 : Int32) (x2 : Int32) (M : Mem) (h : B_Nu_setPrime_14 k14 post a0 x1 x2 M) : J x 3 14 [(0, .ref (xd x a0)), (1, .int x1), (2, .int x2)] [] 0 0 M := by
  unfold B_Nu_setPrime_14 at h
  refine J_iload_n C 2 D_Nu_setPrime_14 rfl rfl ?_
  refine J_iload_n C 1 D_Nu_setPrime_15 rfl rfl ?_
  refine J_icmp_ge (tgt := 47) C D_Nu_setPrime_16 (by decide) (fun c_16 => ?_) (fun c_16 => ?_)
  · have h := h.1 c_16
    exact J_vret C Rt D_Nu_setPrime_47 h
  · have h := h.2 c_16
    refine J_aload_n C 0 D_Nu_setPrime_19 rfl rfl ?_
    obtain ⟨c_20, q20, e_20, h⟩ := h
    refine J_getR C fl_Nu_9 D_Nu_setPrime_20 c_20 e_20 ?_
    refine J_iload_n C 2 D_Nu_setPrime_23 rfl rfl ?_
    refine J_iload_n C 1 D_Nu_setPrime_24 rfl rfl ?_
    refine J_iload_n C 1 D_Nu_setPrime_25 rfl rfl ?_
    refine J_iload_n C 2 D_Nu_setPrime_26 rfl rfl ?_
    obtain ⟨c_27, h⟩ := h
    refine J_idiv C D_Nu_setPrime_27 c_27 ?_
    refine J_isub C D_Nu_setPrime_28 ?_
    refine J_aload_n C 0 D_Nu_setPrime_29 rfl rfl ?_
    obtain ⟨c_30, q30, e_30, h⟩ := h
    refine J_getR C fl_Nu_9 D_Nu_setPrime_30 c_30 e_30 ?_
    refine J_iload_n C 1 D_Nu_setPrime_33 rfl rfl ?_
    refine J_iload_n C 2 D_Nu_setPrime_34 rfl rfl ?_
    obtain ⟨c_35, h⟩ := h
    refine J_irem C D_Nu_setPrime_35 c_35 ?_
    obtain ⟨c_36, h⟩ := h
    refine J_iald C D_Nu_setPrime_36 c_36 ?_
    refine J_imul C D_Nu_setPrime_37 ?_
    refine J_iload_n C 1 D_Nu_setPrime_38 rfl rfl ?_
    obtain ⟨c_39, h⟩ := h
    refine J_irem C D_Nu_setPrime_39 c_39 ?_
    obtain ⟨c_40, h⟩ := h
    refine J_iast C D_Nu_setPrime_40 c_40 ?_
    refine J_iinc (v := x2 + 1) (lv' := [(2, .int (x2 + 1)), (0, .ref (xd x a0)), (1, .int x1)]) C 2 2 D_Nu_setPrime_41 rfl rfl (by decide) rfl ?_
    refine J_goto (tgt := 14) C D_Nu_setPrime_44 (by decide) ?_
    exact J_sub [1, 2, 0] rfl (K14 _ _ _ _ h)
def L_Nu_setPrime_14 (post : Mem → Prop) : Nat → Nat → Int32 → Int32 → Mem → Prop
  | 0, _, _, _, _ => False
  | n + 1, a0, x1, x2, M => B_Nu_setPrime_14 (L_Nu_setPrime_14 post n) post a0 x1 x2 M
theorem Y_Nu_setPrime_14 {x : Ctx} {post : Mem → Prop} (C : Ok x b_Nu_setPrime 3 "HeapTower$Numbers") (hR : xR x = rm_Nu_setPrime) (Rt : RetV x post 0 0) : ∀ (n : Nat) (a0 : Nat) (x1 : Int32) (x2 : Int32) (M : Mem), L_Nu_setPrime_14 post n a0 x1 x2 M → J x 3 14 [(0, .ref (xd x a0)), (1, .int x1), (2, .int x2)] [] 0 0 M := by
  intro n
  induction n with
  | zero => intro a0 x1 x2 M h; exact h.elim
  | succ n ih => intro a0 x1 x2 M h; exact Z_Nu_setPrime_14 C hR Rt ih _ _ _ _ h
def T_Nu_setPrime (a0 : Nat) (x1 : Int32) (M : Mem) (post : Mem → Prop) : Prop := (isK M a0 2 ∧ isK (sI M a0 1 x1) a0 2 ∧ ∃ q6, gR (sI M a0 1 x1) a0 0 = some q6 ∧ isA (sI M a0 1 x1) q6 8 1 ∧ ∃ n, L_Nu_setPrime_14 post n a0 x1 2 (sI (sI M a0 1 x1) q6 (Int32.toNatClampNeg 1) 1))
set_option maxRecDepth 20000 in
theorem S_Nu_setPrime {l : Launch} {D : va_G} {B t g : Nat} {d : Nat → Nat} {ac : Nat → ClassId}  (a0 : Nat) (x1 : Int32) (M : Mem) (post : Mem → Prop) (h : T_Nu_setPrime a0 x1 M post) : Met l y_Nu_setPrime w_Nu_setPrime rm_Nu_setPrime (va_Pc [.ref (d a0), .int x1] (PRE D B d g t ac M)) (QV D B d g ac post) 0 0 (AB B) := by
  refine met_v (by decide +kernel) (Nat.le_of_ble_eq_true rfl) (fun x h1 hR h3 h4 h5 h6 h7 h8 C Rt Nm => ?_)
  subst h3 h4 h5 h6 h7 h8
  unfold T_Nu_setPrime at h
  show J x 3 0 [(0, .ref (xd x a0)), (1, .int x1)] [] 0 0 M
  refine J_aload_n C 0 D_Nu_setPrime_0 rfl rfl ?_
  refine J_iload_n C 1 D_Nu_setPrime_1 rfl rfl ?_
  obtain ⟨c_2, h⟩ := h
  refine J_putI C fl_Nu_19 D_Nu_setPrime_2 c_2 ?_
  refine J_aload_n C 0 D_Nu_setPrime_5 rfl rfl ?_
  obtain ⟨c_6, q6, e_6, h⟩ := h
  refine J_getR C fl_Nu_9 D_Nu_setPrime_6 c_6 e_6 ?_
  refine J_iconst (v := 1) C D_Nu_setPrime_9 rfl ?_
  refine J_iconst (v := 1) C D_Nu_setPrime_10 rfl ?_
  obtain ⟨c_11, h⟩ := h
  refine J_iast C D_Nu_setPrime_11 c_11 ?_
  refine J_iconst (v := 2) C D_Nu_setPrime_12 rfl ?_
  refine J_istore_n (lv' := [(2, .int 2), (0, .ref (xd x a0)), (1, .int x1)]) C 2 D_Nu_setPrime_13 rfl (by decide) rfl ?_
  obtain ⟨n, h⟩ := h
  exact J_sub [1, 2, 0] rfl (Y_Nu_setPrime_14 C hR Rt  n _ _ _ _ h)
theorem D_Nu_isPrime_0 : decode b_Nu_isPrime 0 = .ok (.iload_n 0, 1) := by decide +kernel
theorem D_Nu_isPrime_1 : decode b_Nu_isPrime 1 = .ok (.iconst 2, 1) := by decide +kernel
theorem D_Nu_isPrime_2 : decode b_Nu_isPrime 2 = .ok (.if_icmp .lt 9, 3) := by decide +kernel
theorem D_Nu_isPrime_5 : decode b_Nu_isPrime 5 = .ok (.iload_n 0, 1) := by decide +kernel
theorem D_Nu_isPrime_6 : decode b_Nu_isPrime 6 = .ok (.bipush 97, 2) := by decide +kernel
theorem D_Nu_isPrime_8 : decode b_Nu_isPrime 8 = .ok (.if_icmp .le 5, 3) := by decide +kernel
theorem D_Nu_isPrime_11 : decode b_Nu_isPrime 11 = .ok (.iconst 0, 1) := by decide +kernel
theorem D_Nu_isPrime_12 : decode b_Nu_isPrime 12 = .ok (.ireturn, 1) := by decide +kernel
theorem D_Nu_isPrime_13 : decode b_Nu_isPrime 13 = .ok (.iconst 2, 1) := by decide +kernel
theorem D_Nu_isPrime_14 : decode b_Nu_isPrime 14 = .ok (.istore_n 1, 1) := by decide +kernel
theorem D_Nu_isPrime_15 : decode b_Nu_isPrime 15 = .ok (.iload_n 1, 1) := by decide +kernel
theorem D_Nu_isPrime_16 : decode b_Nu_isPrime 16 = .ok (.iload_n 1, 1) := by decide +kernel
theorem D_Nu_isPrime_17 : decode b_Nu_isPrime 17 = .ok (.imul, 1) := by decide +kernel
theorem D_Nu_isPrime_18 : decode b_Nu_isPrime 18 = .ok (.iload_n 0, 1) := by decide +kernel
theorem D_Nu_isPrime_19 : decode b_Nu_isPrime 19 = .ok (.if_icmp .gt 17, 3) := by decide +kernel
theorem D_Nu_isPrime_22 : decode b_Nu_isPrime 22 = .ok (.iload_n 0, 1) := by decide +kernel
theorem D_Nu_isPrime_23 : decode b_Nu_isPrime 23 = .ok (.iload_n 1, 1) := by decide +kernel
theorem D_Nu_isPrime_24 : decode b_Nu_isPrime 24 = .ok (.irem, 1) := by decide +kernel
theorem D_Nu_isPrime_25 : decode b_Nu_isPrime 25 = .ok (.ifCond .ne 5, 3) := by decide +kernel
theorem D_Nu_isPrime_28 : decode b_Nu_isPrime 28 = .ok (.iconst 0, 1) := by decide +kernel
theorem D_Nu_isPrime_29 : decode b_Nu_isPrime 29 = .ok (.ireturn, 1) := by decide +kernel
theorem D_Nu_isPrime_30 : decode b_Nu_isPrime 30 = .ok (.iinc 1 1, 3) := by decide +kernel
theorem D_Nu_isPrime_33 : decode b_Nu_isPrime 33 = .ok (.goto (-18), 3) := by decide +kernel
theorem D_Nu_isPrime_36 : decode b_Nu_isPrime 36 = .ok (.iconst 1, 1) := by decide +kernel
theorem D_Nu_isPrime_37 : decode b_Nu_isPrime 37 = .ok (.ireturn, 1) := by decide +kernel
abbrev rm_Nu_isPrime : Room := { frames := 0, cells := 0, slots := 0, locals := 0 }
def B_Nu_isPrime_15 (k15 : Int32 → Int32 → Mem → Prop) (post : Int32 → Mem → Prop) (x0 : Int32) (x1 : Int32) (M : Mem) : Prop := ((x0 < (x1 * x1) → (narrow .boolean (.int 1) = .int 1 ∧ post 1 M)) ∧ (¬ x0 < (x1 * x1) → (¬ (x1 : Int32) = 0 ∧ (¬ (x0 - x0 / x1 * x1) = 0 → (k15 x0 (x1 + 1) M)) ∧ ((x0 - x0 / x1 * x1) = 0 → (narrow .boolean (.int 0) = .int 0 ∧ post 0 M)))))
set_option maxRecDepth 20000 in
theorem Z_Nu_isPrime_15 {x : Ctx} {post : Int32 → Mem → Prop} (C : Ok x b_Nu_isPrime 2 "HeapTower$Numbers") (hR : xR x = rm_Nu_isPrime) (Rt : RetI x .boolean post 0 0) {k15 : Int32 → Int32 → Mem → Prop} (K15 : ∀ (x0 : Int32) (x1 : Int32) (M : Mem), k15 x0 x1 M → J x 2 15 [(0, .int x0), (1, .int x1)] [] 0 0 M) (x0 : Int32) (x1 : Int32) (M : Mem) (h : B_Nu_isPrime_15 k15 post x0 x1 M) : J x 2 15 [(0, .int x0), (1, .int x1)] [] 0 0 M := by
  unfold B_Nu_isPrime_15 at h
  refine J_iload_n C 1 D_Nu_isPrime_15 rfl rfl ?_
  refine J_iload_n C 1 D_Nu_isPrime_16 rfl rfl ?_
  refine J_imul C D_Nu_isPrime_17 ?_
  refine J_iload_n C 0 D_Nu_isPrime_18 rfl rfl ?_
  refine J_icmp_gt (tgt := 36) C D_Nu_isPrime_19 (by decide) (fun c_19 => ?_) (fun c_19 => ?_)
  · have h := h.1 c_19
    refine J_iconst (v := 1) C D_Nu_isPrime_36 rfl ?_
    obtain ⟨c_37, h⟩ := h
    exact J_iret C Rt D_Nu_isPrime_37 c_37 h
  · have h := h.2 c_19
    refine J_iload_n C 0 D_Nu_isPrime_22 rfl rfl ?_
    refine J_iload_n C 1 D_Nu_isPrime_23 rfl rfl ?_
    obtain ⟨c_24, h⟩ := h
    refine J_irem C D_Nu_isPrime_24 c_24 ?_
    refine J_if_ne (tgt := 30) C D_Nu_isPrime_25 (by decide) (fun c_25 => ?_) (fun c_25 => ?_)
    · have h := h.1 c_25
      refine J_iinc (v := x1 + 1) (lv' := [(1, .int (x1 + 1)), (0, .int x0)]) C 1 1 D_Nu_isPrime_30 rfl rfl (by decide) rfl ?_
      refine J_goto (tgt := 15) C D_Nu_isPrime_33 (by decide) ?_
      exact J_sub [1, 0] rfl (K15 _ _ _ h)
    · have h := h.2 c_25
      refine J_iconst (v := 0) C D_Nu_isPrime_28 rfl ?_
      obtain ⟨c_29, h⟩ := h
      exact J_iret C Rt D_Nu_isPrime_29 c_29 h
def L_Nu_isPrime_15 (post : Int32 → Mem → Prop) : Nat → Int32 → Int32 → Mem → Prop
  | 0, _, _, _ => False
  | n + 1, x0, x1, M => B_Nu_isPrime_15 (L_Nu_isPrime_15 post n) post x0 x1 M
theorem Y_Nu_isPrime_15 {x : Ctx} {post : Int32 → Mem → Prop} (C : Ok x b_Nu_isPrime 2 "HeapTower$Numbers") (hR : xR x = rm_Nu_isPrime) (Rt : RetI x .boolean post 0 0) : ∀ (n : Nat) (x0 : Int32) (x1 : Int32) (M : Mem), L_Nu_isPrime_15 post n x0 x1 M → J x 2 15 [(0, .int x0), (1, .int x1)] [] 0 0 M := by
  intro n
  induction n with
  | zero => intro x0 x1 M h; exact h.elim
  | succ n ih => intro x0 x1 M h; exact Z_Nu_isPrime_15 C hR Rt ih _ _ _ h
def B_Nu_isPrime_11 (post : Int32 → Mem → Prop) (M : Mem) : Prop := (narrow .boolean (.int 0) = .int 0 ∧ post 0 M)
set_option maxRecDepth 20000 in
theorem Z_Nu_isPrime_11 {x : Ctx} {post : Int32 → Mem → Prop} (C : Ok x b_Nu_isPrime 2 "HeapTower$Numbers") (hR : xR x = rm_Nu_isPrime) (Rt : RetI x .boolean post 0 0) (M : Mem) (h : B_Nu_isPrime_11 post M) : J x 2 11 [] [] 0 0 M := by
  unfold B_Nu_isPrime_11 at h
  refine J_iconst (v := 0) C D_Nu_isPrime_11 rfl ?_
  obtain ⟨c_12, h⟩ := h
  exact J_iret C Rt D_Nu_isPrime_12 c_12 h
def T_Nu_isPrime (x0 : Int32) (M : Mem) (post : Int32 → Mem → Prop) : Prop := ((x0 < 2 → (B_Nu_isPrime_11 post M)) ∧ (¬ x0 < 2 → ((x0 ≤ 97 → (∃ n, L_Nu_isPrime_15 post n x0 2 M)) ∧ (¬ x0 ≤ 97 → (B_Nu_isPrime_11 post M)))))
set_option maxRecDepth 20000 in
theorem S_Nu_isPrime {l : Launch} {D : va_G} {B t g : Nat} {d : Nat → Nat} {ac : Nat → ClassId}  (x0 : Int32) (M : Mem) (post : Int32 → Mem → Prop) (h : T_Nu_isPrime x0 M post) : Met l y_Nu_isPrime w_Nu_isPrime rm_Nu_isPrime (va_Pc [.int x0] (PRE D B d g t ac M)) (QI D B d g ac post) 0 0 (AB B) := by
  refine met_i (by decide +kernel) (Nat.le_of_ble_eq_true rfl) (fun x h1 hR h3 h4 h5 h6 h7 h8 C Rt => ?_)
  subst h3 h4 h5 h6 h7 h8
  unfold T_Nu_isPrime at h
  show J x 2 0 [(0, .int x0)] [] 0 0 M
  refine J_iload_n C 0 D_Nu_isPrime_0 rfl rfl ?_
  refine J_iconst (v := 2) C D_Nu_isPrime_1 rfl ?_
  refine J_icmp_lt (tgt := 11) C D_Nu_isPrime_2 (by decide) (fun c_2 => ?_) (fun c_2 => ?_)
  · have h := h.1 c_2
    exact J_sub [] rfl (Z_Nu_isPrime_11 C hR Rt  _ h)
  · have h := h.2 c_2
    refine J_iload_n C 0 D_Nu_isPrime_5 rfl rfl ?_
    refine J_bipush (v := 97) C D_Nu_isPrime_6 rfl ?_
    refine J_icmp_le (tgt := 13) C D_Nu_isPrime_8 (by decide) (fun c_8 => ?_) (fun c_8 => ?_)
    · have h := h.1 c_8
      refine J_iconst (v := 2) C D_Nu_isPrime_13 rfl ?_
      refine J_istore_n (lv' := [(1, .int 2), (0, .int x0)]) C 1 D_Nu_isPrime_14 rfl (by decide) rfl ?_
      obtain ⟨n, h⟩ := h
      exact J_sub [1, 0] rfl (Y_Nu_isPrime_15 C hR Rt  n _ _ _ h)
    · have h := h.2 c_8
      exact J_sub [] rfl (Z_Nu_isPrime_11 C hR Rt  _ h)
theorem D_Ma_max_0 : decode b_Ma_max 0 = .ok (.iload_n 0, 1) := by decide +kernel
theorem D_Ma_max_1 : decode b_Ma_max 1 = .ok (.iload_n 1, 1) := by decide +kernel
theorem D_Ma_max_2 : decode b_Ma_max 2 = .ok (.if_icmp .lt 7, 3) := by decide +kernel
theorem D_Ma_max_5 : decode b_Ma_max 5 = .ok (.iload_n 0, 1) := by decide +kernel
theorem D_Ma_max_6 : decode b_Ma_max 6 = .ok (.goto 4, 3) := by decide +kernel
theorem D_Ma_max_9 : decode b_Ma_max 9 = .ok (.iload_n 1, 1) := by decide +kernel
theorem D_Ma_max_10 : decode b_Ma_max 10 = .ok (.ireturn, 1) := by decide +kernel
abbrev rm_Ma_max : Room := { frames := 0, cells := 0, slots := 0, locals := 0 }
def B_Ma_max_10 (post : Int32 → Mem → Prop) (s0 : Int32) (M : Mem) : Prop := (post s0 M)
set_option maxRecDepth 20000 in
theorem Z_Ma_max_10 {x : Ctx} {post : Int32 → Mem → Prop} (C : Ok x b_Ma_max 2 "java/lang/Math") (hR : xR x = rm_Ma_max) (Rt : RetI x .int post 0 0) (s0 : Int32) (M : Mem) (h : B_Ma_max_10 post s0 M) : J x 2 10 [] [.int s0] 0 0 M := by
  unfold B_Ma_max_10 at h
  exact J_iret C Rt D_Ma_max_10 rfl h
def T_Ma_max (x0 : Int32) (x1 : Int32) (M : Mem) (post : Int32 → Mem → Prop) : Prop := ((x0 < x1 → (B_Ma_max_10 post x1 M)) ∧ (¬ x0 < x1 → (B_Ma_max_10 post x0 M)))
set_option maxRecDepth 20000 in
theorem S_Ma_max {l : Launch} {D : va_G} {B t g : Nat} {d : Nat → Nat} {ac : Nat → ClassId}  (x0 : Int32) (x1 : Int32) (M : Mem) (post : Int32 → Mem → Prop) (h : T_Ma_max x0 x1 M post) : Met l y_Ma_max w_Ma_max rm_Ma_max (va_Pc [.int x0, .int x1] (PRE D B d g t ac M)) (QI D B d g ac post) 0 0 (AB B) := by
  refine met_i (by decide +kernel) (Nat.le_of_ble_eq_true rfl) (fun x h1 hR h3 h4 h5 h6 h7 h8 C Rt => ?_)
  subst h3 h4 h5 h6 h7 h8
  unfold T_Ma_max at h
  show J x 2 0 [(0, .int x0), (1, .int x1)] [] 0 0 M
  refine J_iload_n C 0 D_Ma_max_0 rfl rfl ?_
  refine J_iload_n C 1 D_Ma_max_1 rfl rfl ?_
  refine J_icmp_lt (tgt := 9) C D_Ma_max_2 (by decide) (fun c_2 => ?_) (fun c_2 => ?_)
  · have h := h.1 c_2
    refine J_iload_n C 1 D_Ma_max_9 rfl rfl ?_
    exact J_sub [] rfl (Z_Ma_max_10 C hR Rt  _ _ h)
  · have h := h.2 c_2
    refine J_iload_n C 0 D_Ma_max_5 rfl rfl ?_
    refine J_goto (tgt := 10) C D_Ma_max_6 (by decide) ?_
    exact J_sub [] rfl (Z_Ma_max_10 C hR Rt  _ _ h)
theorem D_Ar_fill2_0 : decode b_Ar_fill2 0 = .ok (.iconst 0, 1) := by decide +kernel
theorem D_Ar_fill2_1 : decode b_Ar_fill2 1 = .ok (.istore_n 2, 1) := by decide +kernel
theorem D_Ar_fill2_2 : decode b_Ar_fill2 2 = .ok (.aload_n 0, 1) := by decide +kernel
theorem D_Ar_fill2_3 : decode b_Ar_fill2 3 = .ok (.arraylength, 1) := by decide +kernel
theorem D_Ar_fill2_4 : decode b_Ar_fill2 4 = .ok (.istore_n 3, 1) := by decide +kernel
theorem D_Ar_fill2_5 : decode b_Ar_fill2 5 = .ok (.iload_n 2, 1) := by decide +kernel
theorem D_Ar_fill2_6 : decode b_Ar_fill2 6 = .ok (.iload_n 3, 1) := by decide +kernel
theorem D_Ar_fill2_7 : decode b_Ar_fill2 7 = .ok (.if_icmp .ge 13, 3) := by decide +kernel
theorem D_Ar_fill2_10 : decode b_Ar_fill2 10 = .ok (.aload_n 0, 1) := by decide +kernel
theorem D_Ar_fill2_11 : decode b_Ar_fill2 11 = .ok (.iload_n 2, 1) := by decide +kernel
theorem D_Ar_fill2_12 : decode b_Ar_fill2 12 = .ok (.iload_n 1, 1) := by decide +kernel
theorem D_Ar_fill2_13 : decode b_Ar_fill2 13 = .ok (.iastore, 1) := by decide +kernel
theorem D_Ar_fill2_14 : decode b_Ar_fill2 14 = .ok (.iinc 2 1, 3) := by decide +kernel
theorem D_Ar_fill2_17 : decode b_Ar_fill2 17 = .ok (.goto (-12), 3) := by decide +kernel
theorem D_Ar_fill2_20 : decode b_Ar_fill2 20 = .ok (.return_, 1) := by decide +kernel
abbrev rm_Ar_fill2 : Room := { frames := 0, cells := 0, slots := 0, locals := 0 }
def B_Ar_fill2_5 (k5 : Nat → Int32 → Int32 → Int32 → Mem → Prop) (post : Mem → Prop) (a0 : Nat) (x1 : Int32) (x2 : Int32) (x3 : Int32) (M : Mem) : Prop := ((x3 ≤ x2 → (post M)) ∧ (¬ x3 ≤ x2 → (isA M a0 8 x2 ∧ k5 a0 x1 (x2 + 1) x3 (sI M a0 (Int32.toNatClampNeg x2) x1))))
set_option maxRecDepth 20000 in
theorem Z_Ar_fill2_5 {x : Ctx} {post : Mem → Prop} (C : Ok x b_Ar_fill2 4 "java/util/Arrays") (hR : xR x = rm_Ar_fill2) (Rt : RetV x post 0 0) {k5 : Nat → Int32 → Int32 → Int32 → Mem → Prop} (K5 : ∀ (a0 : Nat) (x1 : Int32) (x2 : Int32) (x3 : Int32) (M : Mem), k5 a0 x1 x2 x3 M → J x 4 5 [(0, .ref (xd x a0)), (1, .int x1), (2, .int x2), (3, .int x3)] [] 0 0 M) (a0 : Nat) (x1 : Int32) (x2 : Int32) (x3 : Int32) (M : Mem) (h : B_Ar_fill2_5 k5 post a0 x1 x2 x3 M) : J x 4 5 [(0, .ref (xd x a0)), (1, .int x1), (2, .int x2), (3, .int x3)] [] 0 0 M := by
  unfold B_Ar_fill2_5 at h
  refine J_iload_n C 2 D_Ar_fill2_5 rfl rfl ?_
  refine J_iload_n C 3 D_Ar_fill2_6 rfl rfl ?_
  refine J_icmp_ge (tgt := 20) C D_Ar_fill2_7 (by decide) (fun c_7 => ?_) (fun c_7 => ?_)
  · have h := h.1 c_7
    exact J_vret C Rt D_Ar_fill2_20 h
  · have h := h.2 c_7
    refine J_aload_n C 0 D_Ar_fill2_10 rfl rfl ?_
    refine J_iload_n C 2 D_Ar_fill2_11 rfl rfl ?_
    refine J_iload_n C 1 D_Ar_fill2_12 rfl rfl ?_
    obtain ⟨c_13, h⟩ := h
    refine J_iast C D_Ar_fill2_13 c_13 ?_
    refine J_iinc (v := x2 + 1) (lv' := [(2, .int (x2 + 1)), (0, .ref (xd x a0)), (1, .int x1), (3, .int x3)]) C 2 2 D_Ar_fill2_14 rfl rfl (by decide) rfl ?_
    refine J_goto (tgt := 5) C D_Ar_fill2_17 (by decide) ?_
    exact J_sub [1, 2, 0, 3] rfl (K5 _ _ _ _ _ h)
def L_Ar_fill2_5 (post : Mem → Prop) : Nat → Nat → Int32 → Int32 → Int32 → Mem → Prop
  | 0, _, _, _, _, _ => False
  | n + 1, a0, x1, x2, x3, M => B_Ar_fill2_5 (L_Ar_fill2_5 post n) post a0 x1 x2 x3 M
theorem Y_Ar_fill2_5 {x : Ctx} {post : Mem → Prop} (C : Ok x b_Ar_fill2 4 "java/util/Arrays") (hR : xR x = rm_Ar_fill2) (Rt : RetV x post 0 0) : ∀ (n : Nat) (a0 : Nat) (x1 : Int32) (x2 : Int32) (x3 : Int32) (M : Mem), L_Ar_fill2_5 post n a0 x1 x2 x3 M → J x 4 5 [(0, .ref (xd x a0)), (1, .int x1), (2, .int x2), (3, .int x3)] [] 0 0 M := by
  intro n
  induction n with
  | zero => intro a0 x1 x2 x3 M h; exact h.elim
  | succ n ih => intro a0 x1 x2 x3 M h; exact Z_Ar_fill2_5 C hR Rt ih _ _ _ _ _ h
def T_Ar_fill2 (a0 : Nat) (x1 : Int32) (M : Mem) (post : Mem → Prop) : Prop := (isK M a0 8 ∧ ∃ n, L_Ar_fill2_5 post n a0 x1 0 (nI (ln M a0)) M)
set_option maxRecDepth 20000 in
theorem S_Ar_fill2 {l : Launch} {D : va_G} {B t g : Nat} {d : Nat → Nat} {ac : Nat → ClassId}  (a0 : Nat) (x1 : Int32) (M : Mem) (post : Mem → Prop) (h : T_Ar_fill2 a0 x1 M post) : Met l y_Ar_fill2 w_Ar_fill2 rm_Ar_fill2 (va_Pc [.ref (d a0), .int x1] (PRE D B d g t ac M)) (QV D B d g ac post) 0 0 (AB B) := by
  refine met_v (by decide +kernel) (Nat.le_of_ble_eq_true rfl) (fun x h1 hR h3 h4 h5 h6 h7 h8 C Rt Nm => ?_)
  subst h3 h4 h5 h6 h7 h8
  unfold T_Ar_fill2 at h
  show J x 4 0 [(0, .ref (xd x a0)), (1, .int x1)] [] 0 0 M
  refine J_iconst (v := 0) C D_Ar_fill2_0 rfl ?_
  refine J_istore_n (lv' := [(2, .int 0), (0, .ref (xd x a0)), (1, .int x1)]) C 2 D_Ar_fill2_1 rfl (by decide) rfl ?_
  refine J_aload_n C 0 D_Ar_fill2_2 rfl rfl ?_
  obtain ⟨c_3, h⟩ := h
  refine J_alen C D_Ar_fill2_3 c_3 ?_
  refine J_istore_n (lv' := [(3, .int (nI (ln M a0))), (2, .int 0), (0, .ref (xd x a0)), (1, .int x1)]) C 3 D_Ar_fill2_4 rfl (by decide) rfl ?_
  obtain ⟨n, h⟩ := h
  exact J_sub [2, 3, 1, 0] rfl (Y_Ar_fill2_5 C hR Rt  n _ _ _ _ _ h)
theorem D_Ma_floorMod_0 : decode b_Ma_floorMod 0 = .ok (.iload_n 0, 1) := by decide +kernel
theorem D_Ma_floorMod_1 : decode b_Ma_floorMod 1 = .ok (.iload_n 1, 1) := by decide +kernel
theorem D_Ma_floorMod_2 : decode b_Ma_floorMod 2 = .ok (.irem, 1) := by decide +kernel
theorem D_Ma_floorMod_3 : decode b_Ma_floorMod 3 = .ok (.istore_n 2, 1) := by decide +kernel
theorem D_Ma_floorMod_4 : decode b_Ma_floorMod 4 = .ok (.iload_n 0, 1) := by decide +kernel
theorem D_Ma_floorMod_5 : decode b_Ma_floorMod 5 = .ok (.iload_n 1, 1) := by decide +kernel
theorem D_Ma_floorMod_6 : decode b_Ma_floorMod 6 = .ok (.ixor, 1) := by decide +kernel
theorem D_Ma_floorMod_7 : decode b_Ma_floorMod 7 = .ok (.ifCond .ge 11, 3) := by decide +kernel
theorem D_Ma_floorMod_10 : decode b_Ma_floorMod 10 = .ok (.iload_n 2, 1) := by decide +kernel
theorem D_Ma_floorMod_11 : decode b_Ma_floorMod 11 = .ok (.ifCond .eq 7, 3) := by decide +kernel
theorem D_Ma_floorMod_14 : decode b_Ma_floorMod 14 = .ok (.iload_n 2, 1) := by decide +kernel
theorem D_Ma_floorMod_15 : decode b_Ma_floorMod 15 = .ok (.iload_n 1, 1) := by decide +kernel
theorem D_Ma_floorMod_16 : decode b_Ma_floorMod 16 = .ok (.iadd, 1) := by decide +kernel
theorem D_Ma_floorMod_17 : decode b_Ma_floorMod 17 = .ok (.ireturn, 1) := by decide +kernel
theorem D_Ma_floorMod_18 : decode b_Ma_floorMod 18 = .ok (.iload_n 2, 1) := by decide +kernel
theorem D_Ma_floorMod_19 : decode b_Ma_floorMod 19 = .ok (.ireturn, 1) := by decide +kernel
abbrev rm_Ma_floorMod : Room := { frames := 0, cells := 0, slots := 0, locals := 0 }
def B_Ma_floorMod_18 (post : Int32 → Mem → Prop) (x2 : Int32) (M : Mem) : Prop := (post x2 M)
set_option maxRecDepth 20000 in
theorem Z_Ma_floorMod_18 {x : Ctx} {post : Int32 → Mem → Prop} (C : Ok x b_Ma_floorMod 3 "java/lang/Math") (hR : xR x = rm_Ma_floorMod) (Rt : RetI x .int post 0 0) (x2 : Int32) (M : Mem) (h : B_Ma_floorMod_18 post x2 M) : J x 3 18 [(2, .int x2)] [] 0 0 M := by
  unfold B_Ma_floorMod_18 at h
  refine J_iload_n C 2 D_Ma_floorMod_18 rfl rfl ?_
  exact J_iret C Rt D_Ma_floorMod_19 rfl h
def T_Ma_floorMod (x0 : Int32) (x1 : Int32) (M : Mem) (post : Int32 → Mem → Prop) : Prop := (¬ (x1 : Int32) = 0 ∧ (0 ≤ (x0 ^^^ x1) → (B_Ma_floorMod_18 post (x0 - x0 / x1 * x1) M)) ∧ (¬ 0 ≤ (x0 ^^^ x1) → (((x0 - x0 / x1 * x1) = 0 → (B_Ma_floorMod_18 post (x0 - x0 / x1 * x1) M)) ∧ (¬ (x0 - x0 / x1 * x1) = 0 → (post ((x0 - x0 / x1 * x1) + x1) M)))))
set_option maxRecDepth 20000 in
theorem S_Ma_floorMod {l : Launch} {D : va_G} {B t g : Nat} {d : Nat → Nat} {ac : Nat → ClassId}  (x0 : Int32) (x1 : Int32) (M : Mem) (post : Int32 → Mem → Prop) (h : T_Ma_floorMod x0 x1 M post) : Met l y_Ma_floorMod w_Ma_floorMod rm_Ma_floorMod (va_Pc [.int x0, .int x1] (PRE D B d g t ac M)) (QI D B d g ac post) 0 0 (AB B) := by
  refine met_i (by decide +kernel) (Nat.le_of_ble_eq_true rfl) (fun x h1 hR h3 h4 h5 h6 h7 h8 C Rt => ?_)
  subst h3 h4 h5 h6 h7 h8
  unfold T_Ma_floorMod at h
  show J x 3 0 [(0, .int x0), (1, .int x1)] [] 0 0 M
  refine J_iload_n C 0 D_Ma_floorMod_0 rfl rfl ?_
  refine J_iload_n C 1 D_Ma_floorMod_1 rfl rfl ?_
  obtain ⟨c_2, h⟩ := h
  refine J_irem C D_Ma_floorMod_2 c_2 ?_
  refine J_istore_n (lv' := [(2, .int (x0 - x0 / x1 * x1)), (0, .int x0), (1, .int x1)]) C 2 D_Ma_floorMod_3 rfl (by decide) rfl ?_
  refine J_iload_n C 0 D_Ma_floorMod_4 rfl rfl ?_
  refine J_iload_n C 1 D_Ma_floorMod_5 rfl rfl ?_
  refine J_ixor C D_Ma_floorMod_6 ?_
  refine J_if_ge (tgt := 18) C D_Ma_floorMod_7 (by decide) (fun c_7 => ?_) (fun c_7 => ?_)
  · have h := h.1 c_7
    exact J_sub [0] rfl (Z_Ma_floorMod_18 C hR Rt  _ _ h)
  · have h := h.2 c_7
    refine J_iload_n C 2 D_Ma_floorMod_10 rfl rfl ?_
    refine J_if_eq (tgt := 18) C D_Ma_floorMod_11 (by decide) (fun c_11 => ?_) (fun c_11 => ?_)
    · have h := h.1 c_11
      exact J_sub [0] rfl (Z_Ma_floorMod_18 C hR Rt  _ _ h)
    · have h := h.2 c_11
      refine J_iload_n C 2 D_Ma_floorMod_14 rfl rfl ?_
      refine J_iload_n C 1 D_Ma_floorMod_15 rfl rfl ?_
      refine J_iadd C D_Ma_floorMod_16 ?_
      exact J_iret C Rt D_Ma_floorMod_17 rfl h
theorem D_Nu_modulo_0 : decode b_Nu_modulo 0 = .ok (.iload_n 1, 1) := by decide +kernel
theorem D_Nu_modulo_1 : decode b_Nu_modulo 1 = .ok (.aload_n 0, 1) := by decide +kernel
theorem D_Nu_modulo_2 : decode b_Nu_modulo 2 = .ok (.getfield 19, 3) := by decide +kernel
theorem D_Nu_modulo_5 : decode b_Nu_modulo 5 = .ok (.invokestatic 23, 3) := by decide +kernel
theorem D_Nu_modulo_8 : decode b_Nu_modulo 8 = .ok (.ireturn, 1) := by decide +kernel
abbrev rm_Nu_modulo : Room := { frames := 1, cells := 0, slots := 0, locals := 22 }
def T_Nu_modulo (a0 : Nat) (x1 : Int32) (M : Mem) (post : Int32 → Mem → Prop) : Prop := (isK M a0 2 ∧ T_Ma_floorMod x1 (gI M a0 1) M (fun r5 M5 => post r5 M5))
set_option maxRecDepth 20000 in
theorem S_Nu_modulo {l : Launch} {D : va_G} {B t g : Nat} {d : Nat → Nat} {ac : Nat → ClassId}  (a0 : Nat) (x1 : Int32) (M : Mem) (post : Int32 → Mem → Prop) (h : T_Nu_modulo a0 x1 M post) : Met l y_Nu_modulo w_Nu_modulo rm_Nu_modulo (va_Pc [.ref (d a0), .int x1] (PRE D B d g t ac M)) (QI D B d g ac post) 0 0 (AB B) := by
  refine met_i (by decide +kernel) (Nat.le_of_ble_eq_true rfl) (fun x h1 hR h3 h4 h5 h6 h7 h8 C Rt => ?_)
  subst h3 h4 h5 h6 h7 h8
  unfold T_Nu_modulo at h
  show J x 2 0 [(0, .ref (xd x a0)), (1, .int x1)] [] 0 0 M
  refine J_iload_n C 1 D_Nu_modulo_0 rfl rfl ?_
  refine J_aload_n C 0 D_Nu_modulo_1 rfl rfl ?_
  obtain ⟨c_2, h⟩ := h
  refine J_getI C fl_Nu_19 D_Nu_modulo_2 c_2 ?_
  refine J_callSi C ml_Nu_23 (S_Ma_floorMod _ _ _ _ h) (by rw [hR]; decide) rfl rfl (Nat.le_of_ble_eq_true rfl) D_Nu_modulo_5 (fun r5 M5 h => ?_)
  exact J_iret C Rt D_Nu_modulo_8 rfl h
theorem D_Ar_rangeCheck_0 : decode b_Ar_rangeCheck 0 = .ok (.iload_n 1, 1) := by decide +kernel
theorem D_Ar_rangeCheck_1 : decode b_Ar_rangeCheck 1 = .ok (.iload_n 2, 1) := by decide +kernel
theorem D_Ar_rangeCheck_2 : decode b_Ar_rangeCheck 2 = .ok (.if_icmp .le 44, 3) := by decide +kernel
theorem D_Ar_rangeCheck_5 : decode b_Ar_rangeCheck 5 = .ok (.new 43, 3) := by decide +kernel
theorem D_Ar_rangeCheck_8 : decode b_Ar_rangeCheck 8 = .ok (.dup, 1) := by decide +kernel
theorem D_Ar_rangeCheck_9 : decode b_Ar_rangeCheck 9 = .ok (.new 45, 3) := by decide +kernel
theorem D_Ar_rangeCheck_12 : decode b_Ar_rangeCheck 12 = .ok (.dup, 1) := by decide +kernel
theorem D_Ar_rangeCheck_13 : decode b_Ar_rangeCheck 13 = .ok (.invokespecial 47, 3) := by decide +kernel
theorem D_Ar_rangeCheck_16 : decode b_Ar_rangeCheck 16 = .ok (.ldc 48, 2) := by decide +kernel
theorem D_Ar_rangeCheck_18 : decode b_Ar_rangeCheck 18 = .ok (.invokevirtual 50, 3) := by decide +kernel
theorem D_Ar_rangeCheck_21 : decode b_Ar_rangeCheck 21 = .ok (.iload_n 1, 1) := by decide +kernel
theorem D_Ar_rangeCheck_22 : decode b_Ar_rangeCheck 22 = .ok (.invokevirtual 54, 3) := by decide +kernel
theorem D_Ar_rangeCheck_25 : decode b_Ar_rangeCheck 25 = .ok (.ldc 57, 2) := by decide +kernel
theorem D_Ar_rangeCheck_27 : decode b_Ar_rangeCheck 27 = .ok (.invokevirtual 50, 3) := by decide +kernel
theorem D_Ar_rangeCheck_30 : decode b_Ar_rangeCheck 30 = .ok (.iload_n 2, 1) := by decide +kernel
theorem D_Ar_rangeCheck_31 : decode b_Ar_rangeCheck 31 = .ok (.invokevirtual 54, 3) := by decide +kernel
theorem D_Ar_rangeCheck_34 : decode b_Ar_rangeCheck 34 = .ok (.ldc 59, 2) := by decide +kernel
theorem D_Ar_rangeCheck_36 : decode b_Ar_rangeCheck 36 = .ok (.invokevirtual 50, 3) := by decide +kernel
theorem D_Ar_rangeCheck_39 : decode b_Ar_rangeCheck 39 = .ok (.invokevirtual 61, 3) := by decide +kernel
theorem D_Ar_rangeCheck_42 : decode b_Ar_rangeCheck 42 = .ok (.invokespecial 65, 3) := by decide +kernel
theorem D_Ar_rangeCheck_45 : decode b_Ar_rangeCheck 45 = .ok (.athrow, 1) := by decide +kernel
theorem D_Ar_rangeCheck_46 : decode b_Ar_rangeCheck 46 = .ok (.iload_n 1, 1) := by decide +kernel
theorem D_Ar_rangeCheck_47 : decode b_Ar_rangeCheck 47 = .ok (.ifCond .ge 12, 3) := by decide +kernel
theorem D_Ar_rangeCheck_50 : decode b_Ar_rangeCheck 50 = .ok (.new 68, 3) := by decide +kernel
theorem D_Ar_rangeCheck_53 : decode b_Ar_rangeCheck 53 = .ok (.dup, 1) := by decide +kernel
theorem D_Ar_rangeCheck_54 : decode b_Ar_rangeCheck 54 = .ok (.iload_n 1, 1) := by decide +kernel
theorem D_Ar_rangeCheck_55 : decode b_Ar_rangeCheck 55 = .ok (.invokespecial 70, 3) := by decide +kernel
theorem D_Ar_rangeCheck_58 : decode b_Ar_rangeCheck 58 = .ok (.athrow, 1) := by decide +kernel
theorem D_Ar_rangeCheck_59 : decode b_Ar_rangeCheck 59 = .ok (.iload_n 2, 1) := by decide +kernel
theorem D_Ar_rangeCheck_60 : decode b_Ar_rangeCheck 60 = .ok (.iload_n 0, 1) := by decide +kernel
theorem D_Ar_rangeCheck_61 : decode b_Ar_rangeCheck 61 = .ok (.if_icmp .le 12, 3) := by decide +kernel
theorem D_Ar_rangeCheck_64 : decode b_Ar_rangeCheck 64 = .ok (.new 68, 3) := by decide +kernel
theorem D_Ar_rangeCheck_67 : decode b_Ar_rangeCheck 67 = .ok (.dup, 1) := by decide +kernel
theorem D_Ar_rangeCheck_68 : decode b_Ar_rangeCheck 68 = .ok (.iload_n 2, 1) := by decide +kernel
theorem D_Ar_rangeCheck_69 : decode b_Ar_rangeCheck 69 = .ok (.invokespecial 70, 3) := by decide +kernel
theorem D_Ar_rangeCheck_72 : decode b_Ar_rangeCheck 72 = .ok (.athrow, 1) := by decide +kernel
theorem D_Ar_rangeCheck_73 : decode b_Ar_rangeCheck 73 = .ok (.return_, 1) := by decide +kernel
abbrev rm_Ar_rangeCheck : Room := { frames := 0, cells := 0, slots := 0, locals := 0 }
def T_Ar_rangeCheck (x0 : Int32) (x1 : Int32) (x2 : Int32) (M : Mem) (post : Mem → Prop) : Prop := ((x1 ≤ x2 → ((0 ≤ x1 → ((x2 ≤ x0 → (post M)) ∧ (¬ x2 ≤ x0 → (False)))) ∧ (¬ 0 ≤ x1 → (False)))) ∧ (¬ x1 ≤ x2 → (False)))
set_option maxRecDepth 20000 in
theorem S_Ar_rangeCheck {l : Launch} {D : va_G} {B t g : Nat} {d : Nat → Nat} {ac : Nat → ClassId}  (x0 : Int32) (x1 : Int32) (x2 : Int32) (M : Mem) (post : Mem → Prop) (h : T_Ar_rangeCheck x0 x1 x2 M post) : Met l y_Ar_rangeCheck w_Ar_rangeCheck rm_Ar_rangeCheck (va_Pc [.int x0, .int x1, .int x2] (PRE D B d g t ac M)) (QV D B d g ac post) 0 0 (AB B) := by
  refine met_v (by decide +kernel) (Nat.le_of_ble_eq_true rfl) (fun x h1 hR h3 h4 h5 h6 h7 h8 C Rt Nm => ?_)
  subst h3 h4 h5 h6 h7 h8
  unfold T_Ar_rangeCheck at h
  show J x 3 0 [(0, .int x0), (1, .int x1), (2, .int x2)] [] 0 0 M
  refine J_iload_n C 1 D_Ar_rangeCheck_0 rfl rfl ?_
  refine J_iload_n C 2 D_Ar_rangeCheck_1 rfl rfl ?_
  refine J_icmp_le (tgt := 46) C D_Ar_rangeCheck_2 (by decide) (fun c_2 => ?_) (fun c_2 => ?_)
  · have h := h.1 c_2
    refine J_iload_n C 1 D_Ar_rangeCheck_46 rfl rfl ?_
    refine J_if_ge (tgt := 59) C D_Ar_rangeCheck_47 (by decide) (fun c_47 => ?_) (fun c_47 => ?_)
    · have h := h.1 c_47
      refine J_iload_n C 2 D_Ar_rangeCheck_59 rfl rfl ?_
      refine J_iload_n C 0 D_Ar_rangeCheck_60 rfl rfl ?_
      refine J_icmp_le (tgt := 73) C D_Ar_rangeCheck_61 (by decide) (fun c_61 => ?_) (fun c_61 => ?_)
      · have h := h.1 c_61
        exact J_vret C Rt D_Ar_rangeCheck_73 h
      · have h := h.2 c_61
        exact h.elim
    · have h := h.2 c_47
      exact h.elim
  · have h := h.2 c_2
    exact h.elim
theorem D_Ar_fill4_0 : decode b_Ar_fill4 0 = .ok (.aload_n 0, 1) := by decide +kernel
theorem D_Ar_fill4_1 : decode b_Ar_fill4 1 = .ok (.arraylength, 1) := by decide +kernel
theorem D_Ar_fill4_2 : decode b_Ar_fill4 2 = .ok (.iload_n 1, 1) := by decide +kernel
theorem D_Ar_fill4_3 : decode b_Ar_fill4 3 = .ok (.iload_n 2, 1) := by decide +kernel
theorem D_Ar_fill4_4 : decode b_Ar_fill4 4 = .ok (.invokestatic 13, 3) := by decide +kernel
theorem D_Ar_fill4_7 : decode b_Ar_fill4 7 = .ok (.iload_n 1, 1) := by decide +kernel
theorem D_Ar_fill4_8 : decode b_Ar_fill4 8 = .ok (.istore 4, 2) := by decide +kernel
theorem D_Ar_fill4_10 : decode b_Ar_fill4 10 = .ok (.iload 4, 2) := by decide +kernel
theorem D_Ar_fill4_12 : decode b_Ar_fill4 12 = .ok (.iload_n 2, 1) := by decide +kernel
theorem D_Ar_fill4_13 : decode b_Ar_fill4 13 = .ok (.if_icmp .ge 14, 3) := by decide +kernel
theorem D_Ar_fill4_16 : decode b_Ar_fill4 16 = .ok (.aload_n 0, 1) := by decide +kernel
theorem D_Ar_fill4_17 : decode b_Ar_fill4 17 = .ok (.iload 4, 2) := by decide +kernel
theorem D_Ar_fill4_19 : decode b_Ar_fill4 19 = .ok (.iload_n 3, 1) := by decide +kernel
theorem D_Ar_fill4_20 : decode b_Ar_fill4 20 = .ok (.iastore, 1) := by decide +kernel
theorem D_Ar_fill4_21 : decode b_Ar_fill4 21 = .ok (.iinc 4 1, 3) := by decide +kernel
theorem D_Ar_fill4_24 : decode b_Ar_fill4 24 = .ok (.goto (-14), 3) := by decide +kernel
theorem D_Ar_fill4_27 : decode b_Ar_fill4 27 = .ok (.return_, 1) := by decide +kernel
abbrev rm_Ar_fill4 : Room := { frames := 1, cells := 0, slots := 0, locals := 22 }
def B_Ar_fill4_10 (k10 : Nat → Int32 → Int32 → Int32 → Mem → Prop) (post : Mem → Prop) (a0 : Nat) (x2 : Int32) (x3 : Int32) (x4 : Int32) (M : Mem) : Prop := ((x2 ≤ x4 → (post M)) ∧ (¬ x2 ≤ x4 → (isA M a0 8 x4 ∧ k10 a0 x2 x3 (x4 + 1) (sI M a0 (Int32.toNatClampNeg x4) x3))))
set_option maxRecDepth 20000 in
theorem Z_Ar_fill4_10 {x : Ctx} {post : Mem → Prop} (C : Ok x b_Ar_fill4 5 "java/util/Arrays") (hR : xR x = rm_Ar_fill4) (Rt : RetV x post 0 0) {k10 : Nat → Int32 → Int32 → Int32 → Mem → Prop} (K10 : ∀ (a0 : Nat) (x2 : Int32) (x3 : Int32) (x4 : Int32) (M : Mem), k10 a0 x2 x3 x4 M → J x 5 10 [(0, .ref (xd x a0)), (2, .int x2), (3, .int x3), (4, .int x4)] [] 0 0 M) (a0 : Nat) (x2 : Int32) (x3 : Int32) (x4 : Int32) (M : Mem) (h : B_Ar_fill4_10 k10 post a0 x2 x3 x4 M) : J x 5 10 [(0, .ref (xd x a0)), (2, .int x2), (3, .int x3), (4, .int x4)] [] 0 0 M := by
  unfold B_Ar_fill4_10 at h
  refine J_iload C 4 D_Ar_fill4_10 rfl ?_
  refine J_iload_n C 2 D_Ar_fill4_12 rfl rfl ?_
  refine J_icmp_ge (tgt := 27) C D_Ar_fill4_13 (by decide) (fun c_13 => ?_) (fun c_13 => ?_)
  · have h := h.1 c_13
    exact J_vret C Rt D_Ar_fill4_27 h
  · have h := h.2 c_13
    refine J_aload_n C 0 D_Ar_fill4_16 rfl rfl ?_
    refine J_iload C 4 D_Ar_fill4_17 rfl ?_
    refine J_iload_n C 3 D_Ar_fill4_19 rfl rfl ?_
    obtain ⟨c_20, h⟩ := h
    refine J_iast C D_Ar_fill4_20 c_20 ?_
    refine J_iinc (v := x4 + 1) (lv' := [(4, .int (x4 + 1)), (0, .ref (xd x a0)), (2, .int x2), (3, .int x3)]) C 4 3 D_Ar_fill4_21 rfl rfl (by decide) rfl ?_
    refine J_goto (tgt := 10) C D_Ar_fill4_24 (by decide) ?_
    exact J_sub [1, 2, 3, 0] rfl (K10 _ _ _ _ _ h)
def L_Ar_fill4_10 (post : Mem → Prop) : Nat → Nat → Int32 → Int32 → Int32 → Mem → Prop
  | 0, _, _, _, _, _ => False
  | n + 1, a0, x2, x3, x4, M => B_Ar_fill4_10 (L_Ar_fill4_10 post n) post a0 x2 x3 x4 M
theorem Y_Ar_fill4_10 {x : Ctx} {post : Mem → Prop} (C : Ok x b_Ar_fill4 5 "java/util/Arrays") (hR : xR x = rm_Ar_fill4) (Rt : RetV x post 0 0) : ∀ (n : Nat) (a0 : Nat) (x2 : Int32) (x3 : Int32) (x4 : Int32) (M : Mem), L_Ar_fill4_10 post n a0 x2 x3 x4 M → J x 5 10 [(0, .ref (xd x a0)), (2, .int x2), (3, .int x3), (4, .int x4)] [] 0 0 M := by
  intro n
  induction n with
  | zero => intro a0 x2 x3 x4 M h; exact h.elim
  | succ n ih => intro a0 x2 x3 x4 M h; exact Z_Ar_fill4_10 C hR Rt ih _ _ _ _ _ h
def T_Ar_fill4 (a0 : Nat) (x1 : Int32) (x2 : Int32) (x3 : Int32) (M : Mem) (post : Mem → Prop) : Prop := (isK M a0 8 ∧ T_Ar_rangeCheck (nI (ln M a0)) x1 x2 M (fun M4 => ∃ n, L_Ar_fill4_10 post n a0 x2 x3 x1 M4))
set_option maxRecDepth 20000 in
theorem S_Ar_fill4 {l : Launch} {D : va_G} {B t g : Nat} {d : Nat → Nat} {ac : Nat → ClassId}  (a0 : Nat) (x1 : Int32) (x2 : Int32) (x3 : Int32) (M : Mem) (post : Mem → Prop) (h : T_Ar_fill4 a0 x1 x2 x3 M post) : Met l y_Ar_fill4 w_Ar_fill4 rm_Ar_fill4 (va_Pc [.ref (d a0), .int x1, .int x2, .int x3] (PRE D B d g t ac M)) (QV D B d g ac post) 0 0 (AB B) := by
  refine met_v (by decide +kernel) (Nat.le_of_ble_eq_true rfl) (fun x h1 hR h3 h4 h5 h6 h7 h8 C Rt Nm => ?_)
  subst h3 h4 h5 h6 h7 h8
  unfold T_Ar_fill4 at h
  show J x 5 0 [(0, .ref (xd x a0)), (1, .int x1), (2, .int x2), (3, .int x3)] [] 0 0 M
  refine J_aload_n C 0 D_Ar_fill4_0 rfl rfl ?_
  obtain ⟨c_1, h⟩ := h
  refine J_alen C D_Ar_fill4_1 c_1 ?_
  refine J_iload_n C 1 D_Ar_fill4_2 rfl rfl ?_
  refine J_iload_n C 2 D_Ar_fill4_3 rfl rfl ?_
  refine J_callSv C ml_Ar_13 (S_Ar_rangeCheck _ _ _ _ _ h) (by rw [hR]; decide) rfl rfl (Nat.le_of_ble_eq_true rfl) D_Ar_fill4_4 (fun M4 h => ?_)
  refine J_iload_n C 1 D_Ar_fill4_7 rfl rfl ?_
  refine J_istore (lv' := [(4, .int x1), (0, .ref (xd x a0)), (1, .int x1), (2, .int x2), (3, .int x3)]) C 4 D_Ar_fill4_8 (by decide) rfl ?_
  obtain ⟨n, h⟩ := h
  exact J_sub [1, 3, 4, 0] rfl (Y_Ar_fill4_10 C hR Rt  n _ _ _ _ _ h)
theorem D_Nu_prime_0 : decode b_Nu_prime 0 = .ok (.aload_n 0, 1) := by decide +kernel
theorem D_Nu_prime_1 : decode b_Nu_prime 1 = .ok (.getfield 19, 3) := by decide +kernel
theorem D_Nu_prime_4 : decode b_Nu_prime 4 = .ok (.ireturn, 1) := by decide +kernel
abbrev rm_Nu_prime : Room := { frames := 0, cells := 0, slots := 0, locals := 0 }
def T_Nu_prime (a0 : Nat) (M : Mem) (post : Int32 → Mem → Prop) : Prop := (isK M a0 2 ∧ post (gI M a0 1) M)
set_option maxRecDepth 20000 in
theorem S_Nu_prime {l : Launch} {D : va_G} {B t g : Nat} {d : Nat → Nat} {ac : Nat → ClassId}  (a0 : Nat) (M : Mem) (post : Int32 → Mem → Prop) (h : T_Nu_prime a0 M post) : Met l y_Nu_prime w_Nu_prime rm_Nu_prime (va_Pc [.ref (d a0)] (PRE D B d g t ac M)) (QI D B d g ac post) 0 0 (AB B) := by
  refine met_i (by decide +kernel) (Nat.le_of_ble_eq_true rfl) (fun x h1 hR h3 h4 h5 h6 h7 h8 C Rt => ?_)
  subst h3 h4 h5 h6 h7 h8
  unfold T_Nu_prime at h
  show J x 1 0 [(0, .ref (xd x a0))] [] 0 0 M
  refine J_aload_n C 0 D_Nu_prime_0 rfl rfl ?_
  obtain ⟨c_1, h⟩ := h
  refine J_getI C fl_Nu_19 D_Nu_prime_1 c_1 ?_
  exact J_iret C Rt D_Nu_prime_4 rfl h
theorem D_Ma_min_0 : decode b_Ma_min 0 = .ok (.iload_n 0, 1) := by decide +kernel
theorem D_Ma_min_1 : decode b_Ma_min 1 = .ok (.iload_n 1, 1) := by decide +kernel
theorem D_Ma_min_2 : decode b_Ma_min 2 = .ok (.if_icmp .gt 7, 3) := by decide +kernel
theorem D_Ma_min_5 : decode b_Ma_min 5 = .ok (.iload_n 0, 1) := by decide +kernel
theorem D_Ma_min_6 : decode b_Ma_min 6 = .ok (.goto 4, 3) := by decide +kernel
theorem D_Ma_min_9 : decode b_Ma_min 9 = .ok (.iload_n 1, 1) := by decide +kernel
theorem D_Ma_min_10 : decode b_Ma_min 10 = .ok (.ireturn, 1) := by decide +kernel
abbrev rm_Ma_min : Room := { frames := 0, cells := 0, slots := 0, locals := 0 }
def B_Ma_min_10 (post : Int32 → Mem → Prop) (s0 : Int32) (M : Mem) : Prop := (post s0 M)
set_option maxRecDepth 20000 in
theorem Z_Ma_min_10 {x : Ctx} {post : Int32 → Mem → Prop} (C : Ok x b_Ma_min 2 "java/lang/Math") (hR : xR x = rm_Ma_min) (Rt : RetI x .int post 0 0) (s0 : Int32) (M : Mem) (h : B_Ma_min_10 post s0 M) : J x 2 10 [] [.int s0] 0 0 M := by
  unfold B_Ma_min_10 at h
  exact J_iret C Rt D_Ma_min_10 rfl h
def T_Ma_min (x0 : Int32) (x1 : Int32) (M : Mem) (post : Int32 → Mem → Prop) : Prop := ((x1 < x0 → (B_Ma_min_10 post x1 M)) ∧ (¬ x1 < x0 → (B_Ma_min_10 post x0 M)))
set_option maxRecDepth 20000 in
theorem S_Ma_min {l : Launch} {D : va_G} {B t g : Nat} {d : Nat → Nat} {ac : Nat → ClassId}  (x0 : Int32) (x1 : Int32) (M : Mem) (post : Int32 → Mem → Prop) (h : T_Ma_min x0 x1 M post) : Met l y_Ma_min w_Ma_min rm_Ma_min (va_Pc [.int x0, .int x1] (PRE D B d g t ac M)) (QI D B d g ac post) 0 0 (AB B) := by
  refine met_i (by decide +kernel) (Nat.le_of_ble_eq_true rfl) (fun x h1 hR h3 h4 h5 h6 h7 h8 C Rt => ?_)
  subst h3 h4 h5 h6 h7 h8
  unfold T_Ma_min at h
  show J x 2 0 [(0, .int x0), (1, .int x1)] [] 0 0 M
  refine J_iload_n C 0 D_Ma_min_0 rfl rfl ?_
  refine J_iload_n C 1 D_Ma_min_1 rfl rfl ?_
  refine J_icmp_gt (tgt := 9) C D_Ma_min_2 (by decide) (fun c_2 => ?_) (fun c_2 => ?_)
  · have h := h.1 c_2
    refine J_iload_n C 1 D_Ma_min_9 rfl rfl ?_
    exact J_sub [] rfl (Z_Ma_min_10 C hR Rt  _ _ h)
  · have h := h.2 c_2
    refine J_iload_n C 0 D_Ma_min_5 rfl rfl ?_
    refine J_goto (tgt := 10) C D_Ma_min_6 (by decide) ?_
    exact J_sub [] rfl (Z_Ma_min_10 C hR Rt  _ _ h)
theorem D_Nu_inverse_0 : decode b_Nu_inverse 0 = .ok (.aload_n 0, 1) := by decide +kernel
theorem D_Nu_inverse_1 : decode b_Nu_inverse 1 = .ok (.getfield 9, 3) := by decide +kernel
theorem D_Nu_inverse_4 : decode b_Nu_inverse 4 = .ok (.iload_n 1, 1) := by decide +kernel
theorem D_Nu_inverse_5 : decode b_Nu_inverse 5 = .ok (.iaload, 1) := by decide +kernel
theorem D_Nu_inverse_6 : decode b_Nu_inverse 6 = .ok (.ireturn, 1) := by decide +kernel
abbrev rm_Nu_inverse : Room := { frames := 0, cells := 0, slots := 0, locals := 0 }
def T_Nu_inverse (a0 : Nat) (x1 : Int32) (M : Mem) (post : Int32 → Mem → Prop) : Prop := (isK M a0 2 ∧ ∃ q1, gR M a0 0 = some q1 ∧ isA M q1 8 x1 ∧ post (gI M q1 (Int32.toNatClampNeg x1)) M)
set_option maxRecDepth 20000 in
theorem S_Nu_inverse {l : Launch} {D : va_G} {B t g : Nat} {d : Nat → Nat} {ac : Nat → ClassId}  (a0 : Nat) (x1 : Int32) (M : Mem) (post : Int32 → Mem → Prop) (h : T_Nu_inverse a0 x1 M post) : Met l y_Nu_inverse w_Nu_inverse rm_Nu_inverse (va_Pc [.ref (d a0), .int x1] (PRE D B d g t ac M)) (QI D B d g ac post) 0 0 (AB B) := by
  refine met_i (by decide +kernel) (Nat.le_of_ble_eq_true rfl) (fun x h1 hR h3 h4 h5 h6 h7 h8 C Rt => ?_)
  subst h3 h4 h5 h6 h7 h8
  unfold T_Nu_inverse at h
  show J x 2 0 [(0, .ref (xd x a0)), (1, .int x1)] [] 0 0 M
  refine J_aload_n C 0 D_Nu_inverse_0 rfl rfl ?_
  obtain ⟨c_1, q1, e_1, h⟩ := h
  refine J_getR C fl_Nu_9 D_Nu_inverse_1 c_1 e_1 ?_
  refine J_iload_n C 1 D_Nu_inverse_4 rfl rfl ?_
  obtain ⟨c_5, h⟩ := h
  refine J_iald C D_Nu_inverse_5 c_5 ?_
  exact J_iret C Rt D_Nu_inverse_6 rfl h
