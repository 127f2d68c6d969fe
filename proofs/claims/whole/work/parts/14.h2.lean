theorem fl_Mo_36 : Fld "HeapTowerModel" 36 7 13 false true := ⟨R_Mo, F_Mo, 18, t_Mo, iw_Mo, rfl, by decide, rfl, rfl, by decide, rfl, (gw_in (List.mem_of_getElem? (i := 825) (by decide +kernel)) (by decide +kernel)), t_Mo_ok, n_Mo, rfl, (fun h => by cases h), fun _ => Or.inr ⟨_, rfl⟩⟩
theorem fl_Mo_39 : Fld "HeapTowerModel" 39 7 14 false true := ⟨R_Mo, F_Mo, 18, t_Mo, iw_Mo, rfl, by decide, rfl, rfl, by decide, rfl, (gw_in (List.mem_of_getElem? (i := 826) (by decide +kernel)) (by decide +kernel)), t_Mo_ok, n_Mo, rfl, (fun h => by cases h), fun _ => Or.inr ⟨_, rfl⟩⟩
theorem fl_Mo_42 : Fld "HeapTowerModel" 42 7 15 false true := ⟨R_Mo, F_Mo, 18, t_Mo, iw_Mo, rfl, by decide, rfl, rfl, by decide, rfl, (gw_in (List.mem_of_getElem? (i := 827) (by decide +kernel)) (by decide +kernel)), t_Mo_ok, n_Mo, rfl, (fun h => by cases h), fun _ => Or.inr ⟨_, rfl⟩⟩
theorem fl_Mo_45 : Fld "HeapTowerModel" 45 7 17 false true := ⟨R_Mo, F_Mo, 18, t_Mo, iw_Mo, rfl, by decide, rfl, rfl, by decide, rfl, (gw_in (List.mem_of_getElem? (i := 829) (by decide +kernel)) (by decide +kernel)), t_Mo_ok, n_Mo, rfl, (fun h => by cases h), fun _ => Or.inr ⟨_, rfl⟩⟩
theorem fl_Mo_148 : Fld "HeapTowerModel" 148 7 16 true false := ⟨R_Mo, F_Mo, 18, t_Mo, iw_Mo, rfl, by decide, rfl, rfl, by decide, rfl, (gw_in (List.mem_of_getElem? (i := 828) (by decide +kernel)) (by decide +kernel)), t_Mo_ok, n_Mo, rfl, fun _ => rfl, (fun h => by cases h)⟩
theorem ml_Mo_139 : MLV "HeapTowerModel" 139 y_Mo_heap b_Mo_heap 3 none 1 7 := ⟨List.forall_mem_cons.mpr ⟨(gw_in (List.mem_of_getElem? (i := 970) (by decide +kernel)) (by decide +kernel)), List.forall_mem_cons.mpr ⟨(gw_in (List.mem_of_getElem? (i := 972) (by decide +kernel)) (by decide +kernel)), List.forall_mem_cons.mpr ⟨(gw_in (List.mem_of_getElem? (i := 44) (by decide +kernel)) (by decide +kernel)), List.forall_mem_cons.mpr ⟨(gw_in (List.mem_of_getElem? (i := 74) (by decide +kernel)) (by decide +kernel)), List.forall_mem_cons.mpr ⟨(gw_in (List.mem_of_getElem? (i := 973) (by decide +kernel)) (by decide +kernel)), fun _ h => absurd h List.not_mem_nil⟩⟩⟩⟩⟩, by decide, F_Mo, 18, rfl, by decide⟩
theorem ml_Mo_142 : MLV "HeapTowerModel" 142 y_Mo_divides b_Mo_divides 3 (some .boolean) 2 7 := ⟨List.forall_mem_cons.mpr ⟨(gw_in (List.mem_of_getElem? (i := 1010) (by decide +kernel)) (by decide +kernel)), List.forall_mem_cons.mpr ⟨(gw_in (List.mem_of_getElem? (i := 1012) (by decide +kernel)) (by decide +kernel)), List.forall_mem_cons.mpr ⟨(gw_in (List.mem_of_getElem? (i := 52) (by decide +kernel)) (by decide +kernel)), List.forall_mem_cons.mpr ⟨(gw_in (List.mem_of_getElem? (i := 74) (by decide +kernel)) (by decide +kernel)), List.forall_mem_cons.mpr ⟨(gw_in (List.mem_of_getElem? (i := 1013) (by decide +kernel)) (by decide +kernel)), fun _ h => absurd h List.not_mem_nil⟩⟩⟩⟩⟩, by decide, F_Mo, 18, rfl, by decide⟩
theorem ml_Mo_145 : MLV "HeapTowerModel" 145 y_Mo_bases b_Mo_bases 8 (some .int) 2 7 := ⟨List.forall_mem_cons.mpr ⟨(gw_in (List.mem_of_getElem? (i := 1006) (by decide +kernel)) (by decide +kernel)), List.forall_mem_cons.mpr ⟨(gw_in (List.mem_of_getElem? (i := 1008) (by decide +kernel)) (by decide +kernel)), List.forall_mem_cons.mpr ⟨(gw_in (List.mem_of_getElem? (i := 51) (by decide +kernel)) (by decide +kernel)), List.forall_mem_cons.mpr ⟨(gw_in (List.mem_of_getElem? (i := 74) (by decide +kernel)) (by decide +kernel)), List.forall_mem_cons.mpr ⟨(gw_in (List.mem_of_getElem? (i := 1009) (by decide +kernel)) (by decide +kernel)), fun _ h => absurd h List.not_mem_nil⟩⟩⟩⟩⟩, by decide, F_Mo, 18, rfl, by decide⟩
theorem ml_Mo_151 : MLS "HeapTowerModel" 151 y_Mo_ones b_Mo_ones 1 (some .int) 1 := ⟨List.forall_mem_cons.mpr ⟨(gw_in (List.mem_of_getElem? (i := 1034) (by decide +kernel)) (by decide +kernel)), List.forall_mem_cons.mpr ⟨(gw_in (List.mem_of_getElem? (i := 1035) (by decide +kernel)) (by decide +kernel)), List.forall_mem_cons.mpr ⟨(gw_in (List.mem_of_getElem? (i := 74) (by decide +kernel)) (by decide +kernel)), List.forall_mem_cons.mpr ⟨(gw_in (List.mem_of_getElem? (i := 1036) (by decide +kernel)) (by decide +kernel)), fun _ h => absurd h List.not_mem_nil⟩⟩⟩⟩, by decide⟩
theorem ml_Mo_154 : MLV "HeapTowerModel" 154 y_Mo_setsOf b_Mo_setsOf 4 (some .int) 1 7 := ⟨List.forall_mem_cons.mpr ⟨(gw_in (List.mem_of_getElem? (i := 1030) (by decide +kernel)) (by decide +kernel)), List.forall_mem_cons.mpr ⟨(gw_in (List.mem_of_getElem? (i := 1032) (by decide +kernel)) (by decide +kernel)), List.forall_mem_cons.mpr ⟨(gw_in (List.mem_of_getElem? (i := 54) (by decide +kernel)) (by decide +kernel)), List.forall_mem_cons.mpr ⟨(gw_in (List.mem_of_getElem? (i := 74) (by decide +kernel)) (by decide +kernel)), List.forall_mem_cons.mpr ⟨(gw_in (List.mem_of_getElem? (i := 1033) (by decide +kernel)) (by decide +kernel)), fun _ h => absurd h List.not_mem_nil⟩⟩⟩⟩⟩, by decide, F_Mo, 18, rfl, by decide⟩
theorem ml_Mo_157 : MLV "HeapTowerModel" 157 y_Mo_takeStandard b_Mo_takeStandard 3 none 1 7 := ⟨List.forall_mem_cons.mpr ⟨(gw_in (List.mem_of_getElem? (i := 1041) (by decide +kernel)) (by decide +kernel)), List.forall_mem_cons.mpr ⟨(gw_in (List.mem_of_getElem? (i := 1043) (by decide +kernel)) (by decide +kernel)), List.forall_mem_cons.mpr ⟨(gw_in (List.mem_of_getElem? (i := 56) (by decide +kernel)) (by decide +kernel)), List.forall_mem_cons.mpr ⟨(gw_in (List.mem_of_getElem? (i := 74) (by decide +kernel)) (by decide +kernel)), List.forall_mem_cons.mpr ⟨(gw_in (List.mem_of_getElem? (i := 1044) (by decide +kernel)) (by decide +kernel)), fun _ h => absurd h List.not_mem_nil⟩⟩⟩⟩⟩, by decide, F_Mo, 18, rfl, by decide⟩
theorem ml_Mo_160 : MLV "HeapTowerModel" 160 y_Mo_place b_Mo_place 4 (some .int) 1 7 := ⟨List.forall_mem_cons.mpr ⟨(gw_in (List.mem_of_getElem? (i := 1045) (by decide +kernel)) (by decide +kernel)), List.forall_mem_cons.mpr ⟨(gw_in (List.mem_of_getElem? (i := 1047) (by decide +kernel)) (by decide +kernel)), List.forall_mem_cons.mpr ⟨(gw_in (List.mem_of_getElem? (i := 57) (by decide +kernel)) (by decide +kernel)), List.forall_mem_cons.mpr ⟨(gw_in (List.mem_of_getElem? (i := 74) (by decide +kernel)) (by decide +kernel)), List.forall_mem_cons.mpr ⟨(gw_in (List.mem_of_getElem? (i := 1048) (by decide +kernel)) (by decide +kernel)), fun _ h => absurd h List.not_mem_nil⟩⟩⟩⟩⟩, by decide, F_Mo, 18, rfl, by decide⟩
theorem ml_Mo_163 : MLV "HeapTowerModel" 163 y_Mo_product b_Mo_product 7 none 3 7 := ⟨List.forall_mem_cons.mpr ⟨(gw_in (List.mem_of_getElem? (i := 1049) (by decide +kernel)) (by decide +kernel)), List.forall_mem_cons.mpr ⟨(gw_in (List.mem_of_getElem? (i := 1051) (by decide +kernel)) (by decide +kernel)), List.forall_mem_cons.mpr ⟨(gw_in (List.mem_of_getElem? (i := 58) (by decide +kernel)) (by decide +kernel)), List.forall_mem_cons.mpr ⟨(gw_in (List.mem_of_getElem? (i := 74) (by decide +kernel)) (by decide +kernel)), List.forall_mem_cons.mpr ⟨(gw_in (List.mem_of_getElem? (i := 1052) (by decide +kernel)) (by decide +kernel)), fun _ h => absurd h List.not_mem_nil⟩⟩⟩⟩⟩, by decide, F_Mo, 18, rfl, by decide⟩
theorem ml_Mo_167 : MLV "HeapTowerModel" 167 y_Mo_rankOf b_Mo_rankOf 10 (some .int) 2 7 := ⟨List.forall_mem_cons.mpr ⟨(gw_in (List.mem_of_getElem? (i := 1053) (by decide +kernel)) (by decide +kernel)), List.forall_mem_cons.mpr ⟨(gw_in (List.mem_of_getElem? (i := 1055) (by decide +kernel)) (by decide +kernel)), List.forall_mem_cons.mpr ⟨(gw_in (List.mem_of_getElem? (i := 59) (by decide +kernel)) (by decide +kernel)), List.forall_mem_cons.mpr ⟨(gw_in (List.mem_of_getElem? (i := 74) (by decide +kernel)) (by decide +kernel)), List.forall_mem_cons.mpr ⟨(gw_in (List.mem_of_getElem? (i := 1056) (by decide +kernel)) (by decide +kernel)), fun _ h => absurd h List.not_mem_nil⟩⟩⟩⟩⟩, by decide, F_Mo, 18, rfl, by decide⟩
theorem D_Mo_addOther_0 : decode b_Mo_addOther 0 = .ok (.iconst 0, 1) := by decide +kernel
theorem D_Mo_addOther_1 : decode b_Mo_addOther 1 = .ok (.istore_n 2, 1) := by decide +kernel
theorem D_Mo_addOther_2 : decode b_Mo_addOther 2 = .ok (.iload_n 2, 1) := by decide +kernel
theorem D_Mo_addOther_3 : decode b_Mo_addOther 3 = .ok (.aload_n 0, 1) := by decide +kernel
theorem D_Mo_addOther_4 : decode b_Mo_addOther 4 = .ok (.getfield 87, 3) := by decide +kernel
theorem D_Mo_addOther_7 : decode b_Mo_addOther 7 = .ok (.if_icmp .ge 30, 3) := by decide +kernel
theorem D_Mo_addOther_10 : decode b_Mo_addOther 10 = .ok (.aload_n 0, 1) := by decide +kernel
theorem D_Mo_addOther_11 : decode b_Mo_addOther 11 = .ok (.bipush 13, 2) := by decide +kernel
theorem D_Mo_addOther_13 : decode b_Mo_addOther 13 = .ok (.iload_n 2, 1) := by decide +kernel
theorem D_Mo_addOther_14 : decode b_Mo_addOther 14 = .ok (.iadd, 1) := by decide +kernel
theorem D_Mo_addOther_15 : decode b_Mo_addOther 15 = .ok (.invokevirtual 72, 3) := by decide +kernel
theorem D_Mo_addOther_18 : decode b_Mo_addOther 18 = .ok (.iload_n 1, 1) := by decide +kernel
theorem D_Mo_addOther_19 : decode b_Mo_addOther 19 = .ok (.if_icmp .gt 12, 3) := by decide +kernel
theorem D_Mo_addOther_22 : decode b_Mo_addOther 22 = .ok (.aload_n 0, 1) := by decide +kernel
theorem D_Mo_addOther_23 : decode b_Mo_addOther 23 = .ok (.bipush 13, 2) := by decide +kernel
theorem D_Mo_addOther_25 : decode b_Mo_addOther 25 = .ok (.iload_n 2, 1) := by decide +kernel
theorem D_Mo_addOther_26 : decode b_Mo_addOther 26 = .ok (.iadd, 1) := by decide +kernel
theorem D_Mo_addOther_27 : decode b_Mo_addOther 27 = .ok (.iload_n 1, 1) := by decide +kernel
theorem D_Mo_addOther_28 : decode b_Mo_addOther 28 = .ok (.invokevirtual 136, 3) := by decide +kernel
theorem D_Mo_addOther_31 : decode b_Mo_addOther 31 = .ok (.iinc 2 1, 3) := by decide +kernel
theorem D_Mo_addOther_34 : decode b_Mo_addOther 34 = .ok (.goto (-32), 3) := by decide +kernel
theorem D_Mo_addOther_37 : decode b_Mo_addOther 37 = .ok (.return_, 1) := by decide +kernel
abbrev rm_Mo_addOther : Room := { frames := 4, cells := 0, slots := 0, locals := 99 }
def B_Mo_addOther_31 (k2 : Nat → Int32 → Int32 → Mem → Prop) (post : Mem → Prop) (a0 : Nat) (x1 : Int32) (x2 : Int32) (M : Mem) : Prop := (k2 a0 x1 (x2 + 1) M)
set_option maxRecDepth 20000 in
theorem Z_Mo_addOther_31 {x : Ctx} {post : Mem → Prop} (C : Ok x b_Mo_addOther 3 "HeapTowerModel") (hR : xR x = rm_Mo_addOther) (Rt : RetV x post 0 0) {k2 : Nat → Int32 → Int32 → Mem → Prop} (K2 : ∀ (a0 : Nat) (x1 : Int32) (x2 : Int32) (M : Mem), k2 a0 x1 x2 M → J x 3 2 [(0, .ref (xd x a0)), (1, .int x1), (2, .int x2)] [] 0 0 M) (a0 : Nat) (x1 : Int32) (x2 : Int32) (M : Mem) (h : B_Mo_addOther_31 k2 post a0 x1 x2 M) : J x 3 31 [(0, .ref (xd x a0)), (1, .int x1), (2, .int x2)] [] 0 0 M := by
  unfold B_Mo_addOther_31 at h
  refine J_iinc (v := x2 + 1) (lv' := [(2, .int (x2 + 1)), (0, .ref (xd x a0)), (1, .int x1)]) C 2 2 D_Mo_addOther_31 rfl rfl (by decide) rfl ?_
  refine J_goto (tgt := 2) C D_Mo_addOther_34 (by decide) ?_
  exact J_sub [1, 2, 0] rfl (K2 _ _ _ _ h)
def B_Mo_addOther_2 (k2 : Nat → Int32 → Int32 → Mem → Prop) (post : Mem → Prop) (a0 : Nat) (x1 : Int32) (x2 : Int32) (M : Mem) : Prop := (isK M a0 7 ∧ ((gI M a0 5) ≤ x2 → (post M)) ∧ (¬ (gI M a0 5) ≤ x2 → (isK M a0 7 ∧ T_Mo_degree a0 (13 + x2) M (fun r15 M15 => (x1 < r15 → (B_Mo_addOther_31 k2 post a0 x1 x2 M15)) ∧ (¬ x1 < r15 → (isK M15 a0 7 ∧ T_Mo_spread a0 (13 + x2) x1 M15 (fun M28 => B_Mo_addOther_31 k2 post a0 x1 x2 M28)))))))
set_option maxRecDepth 20000 in
theorem Z_Mo_addOther_2 {x : Ctx} {post : Mem → Prop} (C : Ok x b_Mo_addOther 3 "HeapTowerModel") (hR : xR x = rm_Mo_addOther) (Rt : RetV x post 0 0) {k2 : Nat → Int32 → Int32 → Mem → Prop} (K2 : ∀ (a0 : Nat) (x1 : Int32) (x2 : Int32) (M : Mem), k2 a0 x1 x2 M → J x 3 2 [(0, .ref (xd x a0)), (1, .int x1), (2, .int x2)] [] 0 0 M) (a0 : Nat) (x1 : Int32) (x2 : Int32) (M : Mem) (h : B_Mo_addOther_2 k2 post a0 x1 x2 M) : J x 3 2 [(0, .ref (xd x a0)), (1, .int x1), (2, .int x2)] [] 0 0 M := by
  unfold B_Mo_addOther_2 at h
  refine J_iload_n C 2 D_Mo_addOther_2 rfl rfl ?_
  refine J_aload_n C 0 D_Mo_addOther_3 rfl rfl ?_
  obtain ⟨c_4, h⟩ := h
  refine J_getI C fl_Mo_87 D_Mo_addOther_4 c_4 ?_
  refine J_icmp_ge (tgt := 37) C D_Mo_addOther_7 (by decide) (fun c_7 => ?_) (fun c_7 => ?_)
  · have h := h.1 c_7
    exact J_vret C Rt D_Mo_addOther_37 h
  · have h := h.2 c_7
    refine J_aload_n C 0 D_Mo_addOther_10 rfl rfl ?_
    refine J_bipush (v := 13) C D_Mo_addOther_11 rfl ?_
    refine J_iload_n C 2 D_Mo_addOther_13 rfl rfl ?_
    refine J_iadd C D_Mo_addOther_14 ?_
    obtain ⟨c_15, h⟩ := h
    refine J_callVi C ml_Mo_72 (S_Mo_degree _ _ _ _ h) (by rw [hR]; decide) rfl c_15 rfl (Nat.le_of_ble_eq_true rfl) D_Mo_addOther_15 (fun r15 M15 h => ?_)
    refine J_iload_n C 1 D_Mo_addOther_18 rfl rfl ?_
    refine J_icmp_gt (tgt := 31) C D_Mo_addOther_19 (by decide) (fun c_19 => ?_) (fun c_19 => ?_)
    · have h := h.1 c_19
      exact J_sub [0, 1, 2] rfl (Z_Mo_addOther_31 C hR Rt K2 _ _ _ _ h)
    · have h := h.2 c_19
      refine J_aload_n C 0 D_Mo_addOther_22 rfl rfl ?_
      refine J_bipush (v := 13) C D_Mo_addOther_23 rfl ?_
      refine J_iload_n C 2 D_Mo_addOther_25 rfl rfl ?_
      refine J_iadd C D_Mo_addOther_26 ?_
      refine J_iload_n C 1 D_Mo_addOther_27 rfl rfl ?_
      obtain ⟨c_28, h⟩ := h
      refine J_callVv C ml_Mo_136 (S_Mo_spread _ _ _ _ _ h) (by rw [hR]; decide) rfl c_28 rfl (Nat.le_of_ble_eq_true rfl) D_Mo_addOther_28 (fun M28 h => ?_)
      exact J_sub [0, 1, 2] rfl (Z_Mo_addOther_31 C hR Rt K2 _ _ _ _ h)
def L_Mo_addOther_2 (post : Mem → Prop) : Nat → Nat → Int32 → Int32 → Mem → Prop
  | 0, _, _, _, _ => False
  | n + 1, a0, x1, x2, M => B_Mo_addOther_2 (L_Mo_addOther_2 post n) post a0 x1 x2 M
theorem Y_Mo_addOther_2 {x : Ctx} {post : Mem → Prop} (C : Ok x b_Mo_addOther 3 "HeapTowerModel") (hR : xR x = rm_Mo_addOther) (Rt : RetV x post 0 0) : ∀ (n : Nat) (a0 : Nat) (x1 : Int32) (x2 : Int32) (M : Mem), L_Mo_addOther_2 post n a0 x1 x2 M → J x 3 2 [(0, .ref (xd x a0)), (1, .int x1), (2, .int x2)] [] 0 0 M := by
  intro n
  induction n with
  | zero => intro a0 x1 x2 M h; exact h.elim
  | succ n ih => intro a0 x1 x2 M h; exact Z_Mo_addOther_2 C hR Rt ih _ _ _ _ h
def T_Mo_addOther (a0 : Nat) (x1 : Int32) (M : Mem) (post : Mem → Prop) : Prop := (∃ n, L_Mo_addOther_2 post n a0 x1 0 M)
set_option maxRecDepth 20000 in
theorem S_Mo_addOther {l : Launch} {D : va_G} {B t g : Nat} {d : Nat → Nat} {ac : Nat → ClassId}  (a0 : Nat) (x1 : Int32) (M : Mem) (post : Mem → Prop) (h : T_Mo_addOther a0 x1 M post) : Met l y_Mo_addOther w_Mo_addOther rm_Mo_addOther (va_Pc [.ref (d a0), .int x1] (PRE D B d g t ac M)) (QV D B d g ac post) 0 0 (AB B) := by
  refine met_v (by decide +kernel) (Nat.le_of_ble_eq_true rfl) (fun x h1 hR h3 h4 h5 h6 h7 h8 C Rt Nm => ?_)
  subst h3 h4 h5 h6 h7 h8
  unfold T_Mo_addOther at h
  show J x 3 0 [(0, .ref (xd x a0)), (1, .int x1)] [] 0 0 M
  refine J_iconst (v := 0) C D_Mo_addOther_0 rfl ?_
  refine J_istore_n (lv' := [(2, .int 0), (0, .ref (xd x a0)), (1, .int x1)]) C 2 D_Mo_addOther_1 rfl (by decide) rfl ?_
  obtain ⟨n, h⟩ := h
  exact J_sub [1, 2, 0] rfl (Y_Mo_addOther_2 C hR Rt  n _ _ _ _ h)
theorem D_Mo_rest_0 : decode b_Mo_rest 0 = .ok (.iconst 0, 1) := by decide +kernel
theorem D_Mo_rest_1 : decode b_Mo_rest 1 = .ok (.istore_n 1, 1) := by decide +kernel
theorem D_Mo_rest_2 : decode b_Mo_rest 2 = .ok (.iload_n 1, 1) := by decide +kernel
theorem D_Mo_rest_3 : decode b_Mo_rest 3 = .ok (.bipush 10, 2) := by decide +kernel
theorem D_Mo_rest_5 : decode b_Mo_rest 5 = .ok (.if_icmp .gt 125, 3) := by decide +kernel
theorem D_Mo_rest_8 : decode b_Mo_rest 8 = .ok (.aload_n 0, 1) := by decide +kernel
theorem D_Mo_rest_9 : decode b_Mo_rest 9 = .ok (.iload_n 1, 1) := by decide +kernel
theorem D_Mo_rest_10 : decode b_Mo_rest 10 = .ok (.invokevirtual 139, 3) := by decide +kernel
theorem D_Mo_rest_13 : decode b_Mo_rest 13 = .ok (.iconst 0, 1) := by decide +kernel
theorem D_Mo_rest_14 : decode b_Mo_rest 14 = .ok (.istore_n 2, 1) := by decide +kernel
theorem D_Mo_rest_15 : decode b_Mo_rest 15 = .ok (.iload_n 2, 1) := by decide +kernel
theorem D_Mo_rest_16 : decode b_Mo_rest 16 = .ok (.aload_n 0, 1) := by decide +kernel
theorem D_Mo_rest_17 : decode b_Mo_rest 17 = .ok (.getfield 115, 3) := by decide +kernel
theorem D_Mo_rest_20 : decode b_Mo_rest 20 = .ok (.if_icmp .ge 26, 3) := by decide +kernel
theorem D_Mo_rest_23 : decode b_Mo_rest 23 = .ok (.aload_n 0, 1) := by decide +kernel
theorem D_Mo_rest_24 : decode b_Mo_rest 24 = .ok (.getfield 29, 3) := by decide +kernel
theorem D_Mo_rest_27 : decode b_Mo_rest 27 = .ok (.iload_n 2, 1) := by decide +kernel
theorem D_Mo_rest_28 : decode b_Mo_rest 28 = .ok (.aload_n 0, 1) := by decide +kernel
theorem D_Mo_rest_29 : decode b_Mo_rest 29 = .ok (.iconst 0, 1) := by decide +kernel
theorem D_Mo_rest_30 : decode b_Mo_rest 30 = .ok (.aload_n 0, 1) := by decide +kernel
theorem D_Mo_rest_31 : decode b_Mo_rest 31 = .ok (.getfield 20, 3) := by decide +kernel
theorem D_Mo_rest_34 : decode b_Mo_rest 34 = .ok (.iload_n 2, 1) := by decide +kernel
theorem D_Mo_rest_35 : decode b_Mo_rest 35 = .ok (.iaload, 1) := by decide +kernel
theorem D_Mo_rest_36 : decode b_Mo_rest 36 = .ok (.invokevirtual 69, 3) := by decide +kernel
theorem D_Mo_rest_39 : decode b_Mo_rest 39 = .ok (.iastore, 1) := by decide +kernel
theorem D_Mo_rest_40 : decode b_Mo_rest 40 = .ok (.iinc 2 1, 3) := by decide +kernel
theorem D_Mo_rest_43 : decode b_Mo_rest 43 = .ok (.goto (-28), 3) := by decide +kernel
theorem D_Mo_rest_46 : decode b_Mo_rest 46 = .ok (.iconst 0, 1) := by decide +kernel
theorem D_Mo_rest_47 : decode b_Mo_rest 47 = .ok (.istore_n 2, 1) := by decide +kernel
theorem D_Mo_rest_48 : decode b_Mo_rest 48 = .ok (.iload_n 2, 1) := by decide +kernel
theorem D_Mo_rest_49 : decode b_Mo_rest 49 = .ok (.aload_n 0, 1) := by decide +kernel
theorem D_Mo_rest_50 : decode b_Mo_rest 50 = .ok (.getfield 115, 3) := by decide +kernel
theorem D_Mo_rest_53 : decode b_Mo_rest 53 = .ok (.if_icmp .ge 38, 3) := by decide +kernel
theorem D_Mo_rest_56 : decode b_Mo_rest 56 = .ok (.aload_n 0, 1) := by decide +kernel
theorem D_Mo_rest_57 : decode b_Mo_rest 57 = .ok (.getfield 32, 3) := by decide +kernel
theorem D_Mo_rest_60 : decode b_Mo_rest 60 = .ok (.iload_n 2, 1) := by decide +kernel
theorem D_Mo_rest_61 : decode b_Mo_rest 61 = .ok (.baload, 1) := by decide +kernel
theorem D_Mo_rest_62 : decode b_Mo_rest 62 = .ok (.ifCond .eq 23, 3) := by decide +kernel
theorem D_Mo_rest_65 : decode b_Mo_rest 65 = .ok (.aload_n 0, 1) := by decide +kernel
theorem D_Mo_rest_66 : decode b_Mo_rest 66 = .ok (.getfield 29, 3) := by decide +kernel
theorem D_Mo_rest_69 : decode b_Mo_rest 69 = .ok (.iload_n 2, 1) := by decide +kernel
theorem D_Mo_rest_70 : decode b_Mo_rest 70 = .ok (.iaload, 1) := by decide +kernel
theorem D_Mo_rest_71 : decode b_Mo_rest 71 = .ok (.ifCond .eq 14, 3) := by decide +kernel
theorem D_Mo_rest_74 : decode b_Mo_rest 74 = .ok (.aload_n 0, 1) := by decide +kernel
theorem D_Mo_rest_75 : decode b_Mo_rest 75 = .ok (.iload_n 2, 1) := by decide +kernel
theorem D_Mo_rest_76 : decode b_Mo_rest 76 = .ok (.aload_n 0, 1) := by decide +kernel
theorem D_Mo_rest_77 : decode b_Mo_rest 77 = .ok (.getfield 29, 3) := by decide +kernel
theorem D_Mo_rest_80 : decode b_Mo_rest 80 = .ok (.iload_n 2, 1) := by decide +kernel
theorem D_Mo_rest_81 : decode b_Mo_rest 81 = .ok (.iaload, 1) := by decide +kernel
theorem D_Mo_rest_82 : decode b_Mo_rest 82 = .ok (.invokevirtual 124, 3) := by decide +kernel
theorem D_Mo_rest_85 : decode b_Mo_rest 85 = .ok (.iinc 2 1, 3) := by decide +kernel
theorem D_Mo_rest_88 : decode b_Mo_rest 88 = .ok (.goto (-40), 3) := by decide +kernel
theorem D_Mo_rest_91 : decode b_Mo_rest 91 = .ok (.iconst 0, 1) := by decide +kernel
theorem D_Mo_rest_92 : decode b_Mo_rest 92 = .ok (.istore_n 2, 1) := by decide +kernel
theorem D_Mo_rest_93 : decode b_Mo_rest 93 = .ok (.iload_n 2, 1) := by decide +kernel
theorem D_Mo_rest_94 : decode b_Mo_rest 94 = .ok (.aload_n 0, 1) := by decide +kernel
theorem D_Mo_rest_95 : decode b_Mo_rest 95 = .ok (.getfield 115, 3) := by decide +kernel
theorem D_Mo_rest_98 : decode b_Mo_rest 98 = .ok (.if_icmp .ge 26, 3) := by decide +kernel
theorem D_Mo_rest_101 : decode b_Mo_rest 101 = .ok (.aload_n 0, 1) := by decide +kernel
theorem D_Mo_rest_102 : decode b_Mo_rest 102 = .ok (.iconst 0, 1) := by decide +kernel
theorem D_Mo_rest_103 : decode b_Mo_rest 103 = .ok (.aload_n 0, 1) := by decide +kernel
theorem D_Mo_rest_104 : decode b_Mo_rest 104 = .ok (.getfield 20, 3) := by decide +kernel
theorem D_Mo_rest_107 : decode b_Mo_rest 107 = .ok (.iload_n 2, 1) := by decide +kernel
theorem D_Mo_rest_108 : decode b_Mo_rest 108 = .ok (.iaload, 1) := by decide +kernel
theorem D_Mo_rest_109 : decode b_Mo_rest 109 = .ok (.aload_n 0, 1) := by decide +kernel
theorem D_Mo_rest_110 : decode b_Mo_rest 110 = .ok (.getfield 29, 3) := by decide +kernel
theorem D_Mo_rest_113 : decode b_Mo_rest 113 = .ok (.iload_n 2, 1) := by decide +kernel
theorem D_Mo_rest_114 : decode b_Mo_rest 114 = .ok (.iaload, 1) := by decide +kernel
theorem D_Mo_rest_115 : decode b_Mo_rest 115 = .ok (.invokevirtual 65, 3) := by decide +kernel
theorem D_Mo_rest_118 : decode b_Mo_rest 118 = .ok (.iinc 2 1, 3) := by decide +kernel
theorem D_Mo_rest_121 : decode b_Mo_rest 121 = .ok (.goto (-28), 3) := by decide +kernel
theorem D_Mo_rest_124 : decode b_Mo_rest 124 = .ok (.iinc 1 1, 3) := by decide +kernel
theorem D_Mo_rest_127 : decode b_Mo_rest 127 = .ok (.goto (-125), 3) := by decide +kernel
theorem D_Mo_rest_130 : decode b_Mo_rest 130 = .ok (.aload_n 0, 1) := by decide +kernel
theorem D_Mo_rest_131 : decode b_Mo_rest 131 = .ok (.iconst 0, 1) := by decide +kernel
theorem D_Mo_rest_132 : decode b_Mo_rest 132 = .ok (.invokevirtual 101, 3) := by decide +kernel
theorem D_Mo_rest_135 : decode b_Mo_rest 135 = .ok (.ireturn, 1) := by decide +kernel
abbrev rm_Mo_rest : Room := { frames := 5, cells := 0, slots := 0, locals := 121 }
def B_Mo_rest_93 (k2 : Nat → Int32 → Mem → Prop) (k93 : Nat → Int32 → Int32 → Mem → Prop) (post : Int32 → Mem → Prop) (a0 : Nat) (x1 : Int32) (x2 : Int32) (M : Mem) : Prop := (isK M a0 7 ∧ ((gI M a0 8) ≤ x2 → (k2 a0 (x1 + 1) M)) ∧ (¬ (gI M a0 8) ≤ x2 → (isK M a0 7 ∧ ∃ q104, gR M a0 6 = some q104 ∧ isA M q104 8 x2 ∧ isK M a0 7 ∧ ∃ q110, gR M a0 10 = some q110 ∧ isA M q110 8 x2 ∧ isK M a0 7 ∧ T_Mo_put a0 0 (gI M q104 (Int32.toNatClampNeg x2)) (gI M q110 (Int32.toNatClampNeg x2)) M (fun M115 => k93 a0 x1 (x2 + 1) M115))))
set_option maxRecDepth 20000 in
theorem Z_Mo_rest_93 {x : Ctx} {post : Int32 → Mem → Prop} (C : Ok x b_Mo_rest 3 "HeapTowerModel") (hR : xR x = rm_Mo_rest) (Rt : RetI x .int post 0 0) {k2 : Nat → Int32 → Mem → Prop} (K2 : ∀ (a0 : Nat) (x1 : Int32) (M : Mem), k2 a0 x1 M → J x 3 2 [(0, .ref (xd x a0)), (1, .int x1)] [] 0 0 M) {k93 : Nat → Int32 → Int32 → Mem → Prop} (K93 : ∀ (a0 : Nat) (x1 : Int32) (x2 : Int32) (M : Mem), k93 a0 x1 x2 M → J x 3 93 [(0, .ref (xd x a0)), (1, .int x1), (2, .int x2)] [] 0 0 M) (a0 : Nat) (x1 : Int32) (x2 : Int32) (M : Mem) (h : B_Mo_rest_93 k2 k93 post a0 x1 x2 M) : J x 3 93 [(0, .ref (xd x a0)), (1, .int x1), (2, .int x2)] [] 0 0 M := by
  unfold B_Mo_rest_93 at h
  refine J_iload_n C 2 D_Mo_rest_93 rfl rfl ?_
  refine J_aload_n C 0 D_Mo_rest_94 rfl rfl ?_
  obtain ⟨c_95, h⟩ := h
  refine J_getI C fl_Mo_115 D_Mo_rest_95 c_95 ?_
  refine J_icmp_ge (tgt := 124) C D_Mo_rest_98 (by decide) (fun c_98 => ?_) (fun c_98 => ?_)
  · have h := h.1 c_98
    refine J_iinc (v := x1 + 1) (lv' := [(1, .int (x1 + 1)), (0, .ref (xd x a0)), (2, .int x2)]) C 1 1 D_Mo_rest_124 rfl rfl (by decide) rfl ?_
    refine J_goto (tgt := 2) C D_Mo_rest_127 (by decide) ?_
    exact J_sub [1, 0] rfl (K2 _ _ _ h)
  · have h := h.2 c_98
    refine J_aload_n C 0 D_Mo_rest_101 rfl rfl ?_
    refine J_iconst (v := 0) C D_Mo_rest_102 rfl ?_
    refine J_aload_n C 0 D_Mo_rest_103 rfl rfl ?_
    obtain ⟨c_104, q104, e_104, h⟩ := h
    refine J_getR C fl_Mo_20 D_Mo_rest_104 c_104 e_104 ?_
    refine J_iload_n C 2 D_Mo_rest_107 rfl rfl ?_
    obtain ⟨c_108, h⟩ := h
    refine J_iald C D_Mo_rest_108 c_108 ?_
    refine J_aload_n C 0 D_Mo_rest_109 rfl rfl ?_
    obtain ⟨c_110, q110, e_110, h⟩ := h
    refine J_getR C fl_Mo_29 D_Mo_rest_110 c_110 e_110 ?_
    refine J_iload_n C 2 D_Mo_rest_113 rfl rfl ?_
    obtain ⟨c_114, h⟩ := h
    refine J_iald C D_Mo_rest_114 c_114 ?_
    obtain ⟨c_115, h⟩ := h
    refine J_callVv C ml_Mo_65 (S_Mo_put _ _ _ _ _ _ h) (by rw [hR]; decide) rfl c_115 rfl (Nat.le_of_ble_eq_true rfl) D_Mo_rest_115 (fun M115 h => ?_)
    refine J_iinc (v := x2 + 1) (lv' := [(2, .int (x2 + 1)), (0, .ref (xd x a0)), (1, .int x1)]) C 2 2 D_Mo_rest_118 rfl rfl (by decide) rfl ?_
    refine J_goto (tgt := 93) C D_Mo_rest_121 (by decide) ?_
    exact J_sub [1, 2, 0] rfl (K93 _ _ _ _ h)
def L_Mo_rest_93 (k2 : Nat → Int32 → Mem → Prop) (post : Int32 → Mem → Prop) : Nat → Nat → Int32 → Int32 → Mem → Prop
  | 0, _, _, _, _ => False
  | n + 1, a0, x1, x2, M => B_Mo_rest_93 k2 (L_Mo_rest_93 k2 post n) post a0 x1 x2 M
theorem Y_Mo_rest_93 {x : Ctx} {post : Int32 → Mem → Prop} (C : Ok x b_Mo_rest 3 "HeapTowerModel") (hR : xR x = rm_Mo_rest) (Rt : RetI x .int post 0 0) {k2 : Nat → Int32 → Mem → Prop} (K2 : ∀ (a0 : Nat) (x1 : Int32) (M : Mem), k2 a0 x1 M → J x 3 2 [(0, .ref (xd x a0)), (1, .int x1)] [] 0 0 M) : ∀ (n : Nat) (a0 : Nat) (x1 : Int32) (x2 : Int32) (M : Mem), L_Mo_rest_93 k2 post n a0 x1 x2 M → J x 3 93 [(0, .ref (xd x a0)), (1, .int x1), (2, .int x2)] [] 0 0 M := by
  intro n
  induction n with
  | zero => intro a0 x1 x2 M h; exact h.elim
  | succ n ih => intro a0 x1 x2 M h; exact Z_Mo_rest_93 C hR Rt K2 ih _ _ _ _ h
def B_Mo_rest_85 (k2 : Nat → Int32 → Mem → Prop) (k48 : Nat → Int32 → Int32 → Mem → Prop) (post : Int32 → Mem → Prop) (a0 : Nat) (x1 : Int32) (x2 : Int32) (M : Mem) : Prop := (k48 a0 x1 (x2 + 1) M)
set_option maxRecDepth 20000 in
theorem Z_Mo_rest_85 {x : Ctx} {post : Int32 → Mem → Prop} (C : Ok x b_Mo_rest 3 "HeapTowerModel") (hR : xR x = rm_Mo_rest) (Rt : RetI x .int post 0 0) {k2 : Nat → Int32 → Mem → Prop} (K2 : ∀ (a0 : Nat) (x1 : Int32) (M : Mem), k2 a0 x1 M → J x 3 2 [(0, .ref (xd x a0)), (1, .int x1)] [] 0 0 M) {k48 : Nat → Int32 → Int32 → Mem → Prop} (K48 : ∀ (a0 : Nat) (x1 : Int32) (x2 : Int32) (M : Mem), k48 a0 x1 x2 M → J x 3 48 [(0, .ref (xd x a0)), (1, .int x1), (2, .int x2)] [] 0 0 M) (a0 : Nat) (x1 : Int32) (x2 : Int32) (M : Mem) (h : B_Mo_rest_85 k2 k48 post a0 x1 x2 M) : J x 3 85 [(0, .ref (xd x a0)), (1, .int x1), (2, .int x2)] [] 0 0 M := by
  unfold B_Mo_rest_85 at h
  refine J_iinc (v := x2 + 1) (lv' := [(2, .int (x2 + 1)), (0, .ref (xd x a0)), (1, .int x1)]) C 2 2 D_Mo_rest_85 rfl rfl (by decide) rfl ?_
  refine J_goto (tgt := 48) C D_Mo_rest_88 (by decide) ?_
  exact J_sub [1, 2, 0] rfl (K48 _ _ _ _ h)
def B_Mo_rest_48 (k2 : Nat → Int32 → Mem → Prop) (k48 : Nat → Int32 → Int32 → Mem → Prop) (post : Int32 → Mem → Prop) (a0 : Nat) (x1 : Int32) (x2 : Int32) (M : Mem) : Prop := (isK M a0 7 ∧ ((gI M a0 8) ≤ x2 → (∃ n, L_Mo_rest_93 k2 post n a0 x1 0 M)) ∧ (¬ (gI M a0 8) ≤ x2 → (isK M a0 7 ∧ ∃ q57, gR M a0 11 = some q57 ∧ isA M q57 9 x2 ∧ ((gI M q57 (Int32.toNatClampNeg x2)) = 0 → (B_Mo_rest_85 k2 k48 post a0 x1 x2 M)) ∧ (¬ (gI M q57 (Int32.toNatClampNeg x2)) = 0 → (isK M a0 7 ∧ ∃ q66, gR M a0 10 = some q66 ∧ isA M q66 8 x2 ∧ ((gI M q66 (Int32.toNatClampNeg x2)) = 0 → (B_Mo_rest_85 k2 k48 post a0 x1 x2 M)) ∧ (¬ (gI M q66 (Int32.toNatClampNeg x2)) = 0 → (isK M a0 7 ∧ ∃ q77, gR M a0 10 = some q77 ∧ isA M q77 8 x2 ∧ isK M a0 7 ∧ T_Mo_less a0 x2 (gI M q77 (Int32.toNatClampNeg x2)) M (fun M82 => B_Mo_rest_85 k2 k48 post a0 x1 x2 M82))))))))
set_option maxRecDepth 20000 in
theorem Z_Mo_rest_48 {x : Ctx} {post : Int32 → Mem → Prop} (C : Ok x b_Mo_rest 3 "HeapTowerModel") (hR : xR x = rm_Mo_rest) (Rt : RetI x .int post 0 0) {k2 : Nat → Int32 → Mem → Prop} (K2 : ∀ (a0 : Nat) (x1 : Int32) (M : Mem), k2 a0 x1 M → J x 3 2 [(0, .ref (xd x a0)), (1, .int x1)] [] 0 0 M) {k48 : Nat → Int32 → Int32 → Mem → Prop} (K48 : ∀ (a0 : Nat) (x1 : Int32) (x2 : Int32) (M : Mem), k48 a0 x1 x2 M → J x 3 48 [(0, .ref (xd x a0)), (1, .int x1), (2, .int x2)] [] 0 0 M) (a0 : Nat) (x1 : Int32) (x2 : Int32) (M : Mem) (h : B_Mo_rest_48 k2 k48 post a0 x1 x2 M) : J x 3 48 [(0, .ref (xd x a0)), (1, .int x1), (2, .int x2)] [] 0 0 M := by
  unfold B_Mo_rest_48 at h
  refine J_iload_n C 2 D_Mo_rest_48 rfl rfl ?_
  refine J_aload_n C 0 D_Mo_rest_49 rfl rfl ?_
  obtain ⟨c_50, h⟩ := h
  refine J_getI C fl_Mo_115 D_Mo_rest_50 c_50 ?_
  refine J_icmp_ge (tgt := 91) C D_Mo_rest_53 (by decide) (fun c_53 => ?_) (fun c_53 => ?_)
  · have h := h.1 c_53
    refine J_iconst (v := 0) C D_Mo_rest_91 rfl ?_
    refine J_istore_n (lv' := [(2, .int 0), (0, .ref (xd x a0)), (1, .int x1)]) C 2 D_Mo_rest_92 rfl (by decide) rfl ?_
    obtain ⟨n, h⟩ := h
    exact J_sub [1, 2, 0] rfl (Y_Mo_rest_93 C hR Rt K2 n _ _ _ _ h)
  · have h := h.2 c_53
    refine J_aload_n C 0 D_Mo_rest_56 rfl rfl ?_
    obtain ⟨c_57, q57, e_57, h⟩ := h
    refine J_getR C fl_Mo_32 D_Mo_rest_57 c_57 e_57 ?_
    refine J_iload_n C 2 D_Mo_rest_60 rfl rfl ?_
    obtain ⟨c_61, h⟩ := h
    refine J_zald C D_Mo_rest_61 c_61 ?_
    refine J_if_eq (tgt := 85) C D_Mo_rest_62 (by decide) (fun c_62 => ?_) (fun c_62 => ?_)
    · have h := h.1 c_62
      exact J_sub [0, 1, 2] rfl (Z_Mo_rest_85 C hR Rt K2 K48 _ _ _ _ h)
    · have h := h.2 c_62
      refine J_aload_n C 0 D_Mo_rest_65 rfl rfl ?_
      obtain ⟨c_66, q66, e_66, h⟩ := h
      refine J_getR C fl_Mo_29 D_Mo_rest_66 c_66 e_66 ?_
      refine J_iload_n C 2 D_Mo_rest_69 rfl rfl ?_
      obtain ⟨c_70, h⟩ := h
      refine J_iald C D_Mo_rest_70 c_70 ?_
      refine J_if_eq (tgt := 85) C D_Mo_rest_71 (by decide) (fun c_71 => ?_) (fun c_71 => ?_)
      · have h := h.1 c_71
        exact J_sub [0, 1, 2] rfl (Z_Mo_rest_85 C hR Rt K2 K48 _ _ _ _ h)
      · have h := h.2 c_71
        refine J_aload_n C 0 D_Mo_rest_74 rfl rfl ?_
        refine J_iload_n C 2 D_Mo_rest_75 rfl rfl ?_
        refine J_aload_n C 0 D_Mo_rest_76 rfl rfl ?_
        obtain ⟨c_77, q77, e_77, h⟩ := h
        refine J_getR C fl_Mo_29 D_Mo_rest_77 c_77 e_77 ?_
        refine J_iload_n C 2 D_Mo_rest_80 rfl rfl ?_
        obtain ⟨c_81, h⟩ := h
        refine J_iald C D_Mo_rest_81 c_81 ?_
        obtain ⟨c_82, h⟩ := h
        refine J_callVv C ml_Mo_124 (S_Mo_less _ _ _ _ _ h) (by rw [hR]; decide) rfl c_82 rfl (Nat.le_of_ble_eq_true rfl) D_Mo_rest_82 (fun M82 h => ?_)
        exact J_sub [0, 1, 2] rfl (Z_Mo_rest_85 C hR Rt K2 K48 _ _ _ _ h)
def L_Mo_rest_48 (k2 : Nat → Int32 → Mem → Prop) (post : Int32 → Mem → Prop) : Nat → Nat → Int32 → Int32 → Mem → Prop
  | 0, _, _, _, _ => False
  | n + 1, a0, x1, x2, M => B_Mo_rest_48 k2 (L_Mo_rest_48 k2 post n) post a0 x1 x2 M
theorem Y_Mo_rest_48 {x : Ctx} {post : Int32 → Mem → Prop} (C : Ok x b_Mo_rest 3 "HeapTowerModel") (hR : xR x = rm_Mo_rest) (Rt : RetI x .int post 0 0) {k2 : Nat → Int32 → Mem → Prop} (K2 : ∀ (a0 : Nat) (x1 : Int32) (M : Mem), k2 a0 x1 M → J x 3 2 [(0, .ref (xd x a0)), (1, .int x1)] [] 0 0 M) : ∀ (n : Nat) (a0 : Nat) (x1 : Int32) (x2 : Int32) (M : Mem), L_Mo_rest_48 k2 post n a0 x1 x2 M → J x 3 48 [(0, .ref (xd x a0)), (1, .int x1), (2, .int x2)] [] 0 0 M := by
  intro n
  induction n with
  | zero => intro a0 x1 x2 M h; exact h.elim
  | succ n ih => intro a0 x1 x2 M h; exact Z_Mo_rest_48 C hR Rt K2 ih _ _ _ _ h
def B_Mo_rest_15 (k2 : Nat → Int32 → Mem → Prop) (k15 : Nat → Int32 → Int32 → Mem → Prop) (post : Int32 → Mem → Prop) (a0 : Nat) (x1 : Int32) (x2 : Int32) (M : Mem) : Prop := (isK M a0 7 ∧ ((gI M a0 8) ≤ x2 → (∃ n, L_Mo_rest_48 k2 post n a0 x1 0 M)) ∧ (¬ (gI M a0 8) ≤ x2 → (isK M a0 7 ∧ ∃ q24, gR M a0 10 = some q24 ∧ isK M a0 7 ∧ ∃ q31, gR M a0 6 = some q31 ∧ isA M q31 8 x2 ∧ isK M a0 7 ∧ T_Mo_get a0 0 (gI M q31 (Int32.toNatClampNeg x2)) M (fun r36 M36 => isA M36 q24 8 x2 ∧ k15 a0 x1 (x2 + 1) (sI M36 q24 (Int32.toNatClampNeg x2) r36)))))
set_option maxRecDepth 20000 in
theorem Z_Mo_rest_15 {x : Ctx} {post : Int32 → Mem → Prop} (C : Ok x b_Mo_rest 3 "HeapTowerModel") (hR : xR x = rm_Mo_rest) (Rt : RetI x .int post 0 0) {k2 : Nat → Int32 → Mem → Prop} (K2 : ∀ (a0 : Nat) (x1 : Int32) (M : Mem), k2 a0 x1 M → J x 3 2 [(0, .ref (xd x a0)), (1, .int x1)] [] 0 0 M) {k15 : Nat → Int32 → Int32 → Mem → Prop} (K15 : ∀ (a0 : Nat) (x1 : Int32) (x2 : Int32) (M : Mem), k15 a0 x1 x2 M → J x 3 15 [(0, .ref (xd x a0)), (1, .int x1), (2, .int x2)] [] 0 0 M) (a0 : Nat) (x1 : Int32) (x2 : Int32) (M : Mem) (h : B_Mo_rest_15 k2 k15 post a0 x1 x2 M) : J x 3 15 [(0, .ref (xd x a0)), (1, .int x1), (2, .int x2)] [] 0 0 M := by
  unfold B_Mo_rest_15 at h
  refine J_iload_n C 2 D_Mo_rest_15 rfl rfl ?_
  refine J_aload_n C 0 D_Mo_rest_16 rfl rfl ?_
  obtain ⟨c_17, h⟩ := h
  refine J_getI C fl_Mo_115 D_Mo_rest_17 c_17 ?_
  refine J_icmp_ge (tgt := 46) C D_Mo_rest_20 (by decide) (fun c_20 => ?_) (fun c_20 => ?_)
  · have h := h.1 c_20
    refine J_iconst (v := 0) C D_Mo_rest_46 rfl ?_
    refine J_istore_n (lv' := [(2, .int 0), (0, .ref (xd x a0)), (1, .int x1)]) C 2 D_Mo_rest_47 rfl (by decide) rfl ?_
    obtain ⟨n, h⟩ := h
    exact J_sub [1, 2, 0] rfl (Y_Mo_rest_48 C hR Rt K2 n _ _ _ _ h)
  · have h := h.2 c_20
    refine J_aload_n C 0 D_Mo_rest_23 rfl rfl ?_
    obtain ⟨c_24, q24, e_24, h⟩ := h
    refine J_getR C fl_Mo_29 D_Mo_rest_24 c_24 e_24 ?_
    refine J_iload_n C 2 D_Mo_rest_27 rfl rfl ?_
    refine J_aload_n C 0 D_Mo_rest_28 rfl rfl ?_
    refine J_iconst (v := 0) C D_Mo_rest_29 rfl ?_
    refine J_aload_n C 0 D_Mo_rest_30 rfl rfl ?_
    obtain ⟨c_31, q31, e_31, h⟩ := h
    refine J_getR C fl_Mo_20 D_Mo_rest_31 c_31 e_31 ?_
    refine J_iload_n C 2 D_Mo_rest_34 rfl rfl ?_
    obtain ⟨c_35, h⟩ := h
    refine J_iald C D_Mo_rest_35 c_35 ?_
    obtain ⟨c_36, h⟩ := h
    refine J_callVi C ml_Mo_69 (S_Mo_get _ _ _ _ _ h) (by rw [hR]; decide) rfl c_36 rfl (Nat.le_of_ble_eq_true rfl) D_Mo_rest_36 (fun r36 M36 h => ?_)
    obtain ⟨c_39, h⟩ := h
    refine J_iast C D_Mo_rest_39 c_39 ?_
    refine J_iinc (v := x2 + 1) (lv' := [(2, .int (x2 + 1)), (0, .ref (xd x a0)), (1, .int x1)]) C 2 2 D_Mo_rest_40 rfl rfl (by decide) rfl ?_
    refine J_goto (tgt := 15) C D_Mo_rest_43 (by decide) ?_
    exact J_sub [1, 2, 0] rfl (K15 _ _ _ _ h)
def L_Mo_rest_15 (k2 : Nat → Int32 → Mem → Prop) (post : Int32 → Mem → Prop) : Nat → Nat → Int32 → Int32 → Mem → Prop
  | 0, _, _, _, _ => False
  | n + 1, a0, x1, x2, M => B_Mo_rest_15 k2 (L_Mo_rest_15 k2 post n) post a0 x1 x2 M
theorem Y_Mo_rest_15 {x : Ctx} {post : Int32 → Mem → Prop} (C : Ok x b_Mo_rest 3 "HeapTowerModel") (hR : xR x = rm_Mo_rest) (Rt : RetI x .int post 0 0) {k2 : Nat → Int32 → Mem → Prop} (K2 : ∀ (a0 : Nat) (x1 : Int32) (M : Mem), k2 a0 x1 M → J x 3 2 [(0, .ref (xd x a0)), (1, .int x1)] [] 0 0 M) : ∀ (n : Nat) (a0 : Nat) (x1 : Int32) (x2 : Int32) (M : Mem), L_Mo_rest_15 k2 post n a0 x1 x2 M → J x 3 15 [(0, .ref (xd x a0)), (1, .int x1), (2, .int x2)] [] 0 0 M := by
  intro n
  induction n with
  | zero => intro a0 x1 x2 M h; exact h.elim
  | succ n ih => intro a0 x1 x2 M h; exact Z_Mo_rest_15 C hR Rt K2 ih _ _ _ _ h
def B_Mo_rest_2 (k2 : Nat → Int32 → Mem → Prop) (post : Int32 → Mem → Prop) (a0 : Nat) (x1 : Int32) (M : Mem) : Prop := ((10 < x1 → (isK M a0 7 ∧ T_Mo_products a0 0 M (fun r132 M132 => post r132 M132))) ∧ (¬ 10 < x1 → (isK M a0 7 ∧ T_Mo_heap a0 x1 M (fun M10 => ∃ n, L_Mo_rest_15 k2 post n a0 x1 0 M10))))
set_option maxRecDepth 20000 in
theorem Z_Mo_rest_2 {x : Ctx} {post : Int32 → Mem → Prop} (C : Ok x b_Mo_rest 3 "HeapTowerModel") (hR : xR x = rm_Mo_rest) (Rt : RetI x .int post 0 0) {k2 : Nat → Int32 → Mem → Prop} (K2 : ∀ (a0 : Nat) (x1 : Int32) (M : Mem), k2 a0 x1 M → J x 3 2 [(0, .ref (xd x a0)), (1, .int x1)] [] 0 0 M) (a0 : Nat) (x1 : Int32) (M : Mem) (h : B_Mo_rest_2 k2 post a0 x1 M) : J x 3 2 [(0, .ref (xd x a0)), (1, .int x1)] [] 0 0 M := by
  unfold B_Mo_rest_2 at h
  refine J_iload_n C 1 D_Mo_rest_2 rfl rfl ?_
  refine J_bipush (v := 10) C D_Mo_rest_3 rfl ?_
  refine J_icmp_gt (tgt := 130) C D_Mo_rest_5 (by decide) (fun c_5 => ?_) (fun c_5 => ?_)
  · have h := h.1 c_5
    refine J_aload_n C 0 D_Mo_rest_130 rfl rfl ?_
    refine J_iconst (v := 0) C D_Mo_rest_131 rfl ?_
    obtain ⟨c_132, h⟩ := h
    refine J_callVi C ml_Mo_101 (S_Mo_products _ _ _ _ h) (by rw [hR]; decide) rfl c_132 rfl (Nat.le_of_ble_eq_true rfl) D_Mo_rest_132 (fun r132 M132 h => ?_)
    exact J_iret C Rt D_Mo_rest_135 rfl h
  · have h := h.2 c_5
    refine J_aload_n C 0 D_Mo_rest_8 rfl rfl ?_
    refine J_iload_n C 1 D_Mo_rest_9 rfl rfl ?_
    obtain ⟨c_10, h⟩ := h
    refine J_callVv C ml_Mo_139 (S_Mo_heap _ _ _ _ h) (by rw [hR]; decide) rfl c_10 rfl (Nat.le_of_ble_eq_true rfl) D_Mo_rest_10 (fun M10 h => ?_)
    refine J_iconst (v := 0) C D_Mo_rest_13 rfl ?_
    refine J_istore_n (lv' := [(2, .int 0), (0, .ref (xd x a0)), (1, .int x1)]) C 2 D_Mo_rest_14 rfl (by decide) rfl ?_
    obtain ⟨n, h⟩ := h
    exact J_sub [1, 2, 0] rfl (Y_Mo_rest_15 C hR Rt K2 n _ _ _ _ h)
def L_Mo_rest_2 (post : Int32 → Mem → Prop) : Nat → Nat → Int32 → Mem → Prop
  | 0, _, _, _ => False
  | n + 1, a0, x1, M => B_Mo_rest_2 (L_Mo_rest_2 post n) post a0 x1 M
theorem Y_Mo_rest_2 {x : Ctx} {post : Int32 → Mem → Prop} (C : Ok x b_Mo_rest 3 "HeapTowerModel") (hR : xR x = rm_Mo_rest) (Rt : RetI x .int post 0 0) : ∀ (n : Nat) (a0 : Nat) (x1 : Int32) (M : Mem), L_Mo_rest_2 post n a0 x1 M → J x 3 2 [(0, .ref (xd x a0)), (1, .int x1)] [] 0 0 M := by
  intro n
  induction n with
  | zero => intro a0 x1 M h; exact h.elim
  | succ n ih => intro a0 x1 M h; exact Z_Mo_rest_2 C hR Rt ih _ _ _ h
def T_Mo_rest (a0 : Nat) (M : Mem) (post : Int32 → Mem → Prop) : Prop := (∃ n, L_Mo_rest_2 post n a0 0 M)
set_option maxRecDepth 20000 in
theorem S_Mo_rest {l : Launch} {D : va_G} {B t g : Nat} {d : Nat → Nat} {ac : Nat → ClassId}  (a0 : Nat) (M : Mem) (post : Int32 → Mem → Prop) (h : T_Mo_rest a0 M post) : Met l y_Mo_rest w_Mo_rest rm_Mo_rest (va_Pc [.ref (d a0)] (PRE D B d g t ac M)) (QI D B d g ac post) 0 0 (AB B) := by
  refine met_i (by decide +kernel) (Nat.le_of_ble_eq_true rfl) (fun x h1 hR h3 h4 h5 h6 h7 h8 C Rt => ?_)
  subst h3 h4 h5 h6 h7 h8
  unfold T_Mo_rest at h
  show J x 3 0 [(0, .ref (xd x a0))] [] 0 0 M
  refine J_iconst (v := 0) C D_Mo_rest_0 rfl ?_
  refine J_istore_n (lv' := [(1, .int 0), (0, .ref (xd x a0))]) C 1 D_Mo_rest_1 rfl (by decide) rfl ?_
  obtain ⟨n, h⟩ := h
  exact J_sub [1, 0] rfl (Y_Mo_rest_2 C hR Rt  n _ _ _ h)
theorem D_Mo_in0_0 : decode b_Mo_in0 0 = .ok (.iconst 0, 1) := by decide +kernel
theorem D_Mo_in0_1 : decode b_Mo_in0 1 = .ok (.istore_n 1, 1) := by decide +kernel
theorem D_Mo_in0_2 : decode b_Mo_in0 2 = .ok (.iload_n 1, 1) := by decide +kernel
theorem D_Mo_in0_3 : decode b_Mo_in0 3 = .ok (.bipush 10, 2) := by decide +kernel
theorem D_Mo_in0_5 : decode b_Mo_in0 5 = .ok (.if_icmp .gt 119, 3) := by decide +kernel
theorem D_Mo_in0_8 : decode b_Mo_in0 8 = .ok (.aload_n 0, 1) := by decide +kernel
theorem D_Mo_in0_9 : decode b_Mo_in0 9 = .ok (.iload_n 1, 1) := by decide +kernel
theorem D_Mo_in0_10 : decode b_Mo_in0 10 = .ok (.invokevirtual 139, 3) := by decide +kernel
theorem D_Mo_in0_13 : decode b_Mo_in0 13 = .ok (.iconst 0, 1) := by decide +kernel
theorem D_Mo_in0_14 : decode b_Mo_in0 14 = .ok (.istore_n 2, 1) := by decide +kernel
theorem D_Mo_in0_15 : decode b_Mo_in0 15 = .ok (.iload_n 2, 1) := by decide +kernel
theorem D_Mo_in0_16 : decode b_Mo_in0 16 = .ok (.aload_n 0, 1) := by decide +kernel
theorem D_Mo_in0_17 : decode b_Mo_in0 17 = .ok (.getfield 115, 3) := by decide +kernel
theorem D_Mo_in0_20 : decode b_Mo_in0 20 = .ok (.if_icmp .ge 26, 3) := by decide +kernel
theorem D_Mo_in0_23 : decode b_Mo_in0 23 = .ok (.aload_n 0, 1) := by decide +kernel
theorem D_Mo_in0_24 : decode b_Mo_in0 24 = .ok (.getfield 29, 3) := by decide +kernel
theorem D_Mo_in0_27 : decode b_Mo_in0 27 = .ok (.iload_n 2, 1) := by decide +kernel
theorem D_Mo_in0_28 : decode b_Mo_in0 28 = .ok (.aload_n 0, 1) := by decide +kernel
theorem D_Mo_in0_29 : decode b_Mo_in0 29 = .ok (.iconst 0, 1) := by decide +kernel
theorem D_Mo_in0_30 : decode b_Mo_in0 30 = .ok (.aload_n 0, 1) := by decide +kernel
theorem D_Mo_in0_31 : decode b_Mo_in0 31 = .ok (.getfield 20, 3) := by decide +kernel
theorem D_Mo_in0_34 : decode b_Mo_in0 34 = .ok (.iload_n 2, 1) := by decide +kernel
theorem D_Mo_in0_35 : decode b_Mo_in0 35 = .ok (.iaload, 1) := by decide +kernel
theorem D_Mo_in0_36 : decode b_Mo_in0 36 = .ok (.invokevirtual 69, 3) := by decide +kernel
theorem D_Mo_in0_39 : decode b_Mo_in0 39 = .ok (.iastore, 1) := by decide +kernel
theorem D_Mo_in0_40 : decode b_Mo_in0 40 = .ok (.iinc 2 1, 3) := by decide +kernel
theorem D_Mo_in0_43 : decode b_Mo_in0 43 = .ok (.goto (-28), 3) := by decide +kernel
theorem D_Mo_in0_46 : decode b_Mo_in0 46 = .ok (.iconst 0, 1) := by decide +kernel
theorem D_Mo_in0_47 : decode b_Mo_in0 47 = .ok (.istore_n 2, 1) := by decide +kernel
theorem D_Mo_in0_48 : decode b_Mo_in0 48 = .ok (.iload_n 2, 1) := by decide +kernel
theorem D_Mo_in0_49 : decode b_Mo_in0 49 = .ok (.aload_n 0, 1) := by decide +kernel
theorem D_Mo_in0_50 : decode b_Mo_in0 50 = .ok (.getfield 115, 3) := by decide +kernel
theorem D_Mo_in0_53 : decode b_Mo_in0 53 = .ok (.if_icmp .ge 38, 3) := by decide +kernel
theorem D_Mo_in0_56 : decode b_Mo_in0 56 = .ok (.aload_n 0, 1) := by decide +kernel
theorem D_Mo_in0_57 : decode b_Mo_in0 57 = .ok (.getfield 32, 3) := by decide +kernel
theorem D_Mo_in0_60 : decode b_Mo_in0 60 = .ok (.iload_n 2, 1) := by decide +kernel
theorem D_Mo_in0_61 : decode b_Mo_in0 61 = .ok (.baload, 1) := by decide +kernel
theorem D_Mo_in0_62 : decode b_Mo_in0 62 = .ok (.ifCond .eq 23, 3) := by decide +kernel
theorem D_Mo_in0_65 : decode b_Mo_in0 65 = .ok (.aload_n 0, 1) := by decide +kernel
theorem D_Mo_in0_66 : decode b_Mo_in0 66 = .ok (.getfield 29, 3) := by decide +kernel
theorem D_Mo_in0_69 : decode b_Mo_in0 69 = .ok (.iload_n 2, 1) := by decide +kernel
theorem D_Mo_in0_70 : decode b_Mo_in0 70 = .ok (.iaload, 1) := by decide +kernel
theorem D_Mo_in0_71 : decode b_Mo_in0 71 = .ok (.ifCond .eq 14, 3) := by decide +kernel
theorem D_Mo_in0_74 : decode b_Mo_in0 74 = .ok (.aload_n 0, 1) := by decide +kernel
theorem D_Mo_in0_75 : decode b_Mo_in0 75 = .ok (.iload_n 2, 1) := by decide +kernel
theorem D_Mo_in0_76 : decode b_Mo_in0 76 = .ok (.aload_n 0, 1) := by decide +kernel
theorem D_Mo_in0_77 : decode b_Mo_in0 77 = .ok (.getfield 29, 3) := by decide +kernel
theorem D_Mo_in0_80 : decode b_Mo_in0 80 = .ok (.iload_n 2, 1) := by decide +kernel
theorem D_Mo_in0_81 : decode b_Mo_in0 81 = .ok (.iaload, 1) := by decide +kernel
theorem D_Mo_in0_82 : decode b_Mo_in0 82 = .ok (.invokevirtual 124, 3) := by decide +kernel
theorem D_Mo_in0_85 : decode b_Mo_in0 85 = .ok (.iinc 2 1, 3) := by decide +kernel
theorem D_Mo_in0_88 : decode b_Mo_in0 88 = .ok (.goto (-40), 3) := by decide +kernel
theorem D_Mo_in0_91 : decode b_Mo_in0 91 = .ok (.iconst 0, 1) := by decide +kernel
theorem D_Mo_in0_92 : decode b_Mo_in0 92 = .ok (.istore_n 2, 1) := by decide +kernel
theorem D_Mo_in0_93 : decode b_Mo_in0 93 = .ok (.iload_n 2, 1) := by decide +kernel
theorem D_Mo_in0_94 : decode b_Mo_in0 94 = .ok (.aload_n 0, 1) := by decide +kernel
theorem D_Mo_in0_95 : decode b_Mo_in0 95 = .ok (.getfield 115, 3) := by decide +kernel
theorem D_Mo_in0_98 : decode b_Mo_in0 98 = .ok (.if_icmp .ge 20, 3) := by decide +kernel
theorem D_Mo_in0_101 : decode b_Mo_in0 101 = .ok (.aload_n 0, 1) := by decide +kernel
theorem D_Mo_in0_102 : decode b_Mo_in0 102 = .ok (.getfield 29, 3) := by decide +kernel
theorem D_Mo_in0_105 : decode b_Mo_in0 105 = .ok (.iload_n 2, 1) := by decide +kernel
theorem D_Mo_in0_106 : decode b_Mo_in0 106 = .ok (.iaload, 1) := by decide +kernel
theorem D_Mo_in0_107 : decode b_Mo_in0 107 = .ok (.ifCond .eq 5, 3) := by decide +kernel
theorem D_Mo_in0_110 : decode b_Mo_in0 110 = .ok (.iconst 0, 1) := by decide +kernel
theorem D_Mo_in0_111 : decode b_Mo_in0 111 = .ok (.ireturn, 1) := by decide +kernel
theorem D_Mo_in0_112 : decode b_Mo_in0 112 = .ok (.iinc 2 1, 3) := by decide +kernel
theorem D_Mo_in0_115 : decode b_Mo_in0 115 = .ok (.goto (-22), 3) := by decide +kernel
theorem D_Mo_in0_118 : decode b_Mo_in0 118 = .ok (.iinc 1 1, 3) := by decide +kernel
theorem D_Mo_in0_121 : decode b_Mo_in0 121 = .ok (.goto (-119), 3) := by decide +kernel
theorem D_Mo_in0_124 : decode b_Mo_in0 124 = .ok (.iconst 1, 1) := by decide +kernel
theorem D_Mo_in0_125 : decode b_Mo_in0 125 = .ok (.ireturn, 1) := by decide +kernel
abbrev rm_Mo_in0 : Room := { frames := 5, cells := 0, slots := 0, locals := 121 }
def B_Mo_in0_93 (k2 : Nat → Int32 → Mem → Prop) (k93 : Nat → Int32 → Int32 → Mem → Prop) (post : Int32 → Mem → Prop) (a0 : Nat) (x1 : Int32) (x2 : Int32) (M : Mem) : Prop := (isK M a0 7 ∧ ((gI M a0 8) ≤ x2 → (k2 a0 (x1 + 1) M)) ∧ (¬ (gI M a0 8) ≤ x2 → (isK M a0 7 ∧ ∃ q102, gR M a0 10 = some q102 ∧ isA M q102 8 x2 ∧ ((gI M q102 (Int32.toNatClampNeg x2)) = 0 → (k93 a0 x1 (x2 + 1) M)) ∧ (¬ (gI M q102 (Int32.toNatClampNeg x2)) = 0 → (post 0 M)))))
set_option maxRecDepth 20000 in
theorem Z_Mo_in0_93 {x : Ctx} {post : Int32 → Mem → Prop} (C : Ok x b_Mo_in0 3 "HeapTowerModel") (hR : xR x = rm_Mo_in0) (Rt : RetI x .int post 0 0) {k2 : Nat → Int32 → Mem → Prop} (K2 : ∀ (a0 : Nat) (x1 : Int32) (M : Mem), k2 a0 x1 M → J x 3 2 [(0, .ref (xd x a0)), (1, .int x1)] [] 0 0 M) {k93 : Nat → Int32 → Int32 → Mem → Prop} (K93 : ∀ (a0 : Nat) (x1 : Int32) (x2 : Int32) (M : Mem), k93 a0 x1 x2 M → J x 3 93 [(0, .ref (xd x a0)), (1, .int x1), (2, .int x2)] [] 0 0 M) (a0 : Nat) (x1 : Int32) (x2 : Int32) (M : Mem) (h : B_Mo_in0_93 k2 k93 post a0 x1 x2 M) : J x 3 93 [(0, .ref (xd x a0)), (1, .int x1), (2, .int x2)] [] 0 0 M := by
  unfold B_Mo_in0_93 at h
  refine J_iload_n C 2 D_Mo_in0_93 rfl rfl ?_
  refine J_aload_n C 0 D_Mo_in0_94 rfl rfl ?_
  obtain ⟨c_95, h⟩ := h
  refine J_getI C fl_Mo_115 D_Mo_in0_95 c_95 ?_
  refine J_icmp_ge (tgt := 118) C D_Mo_in0_98 (by decide) (fun c_98 => ?_) (fun c_98 => ?_)
  · have h := h.1 c_98
    refine J_iinc (v := x1 + 1) (lv' := [(1, .int (x1 + 1)), (0, .ref (xd x a0)), (2, .int x2)]) C 1 1 D_Mo_in0_118 rfl rfl (by decide) rfl ?_
    refine J_goto (tgt := 2) C D_Mo_in0_121 (by decide) ?_
    exact J_sub [1, 0] rfl (K2 _ _ _ h)
  · have h := h.2 c_98
    refine J_aload_n C 0 D_Mo_in0_101 rfl rfl ?_
    obtain ⟨c_102, q102, e_102, h⟩ := h
    refine J_getR C fl_Mo_29 D_Mo_in0_102 c_102 e_102 ?_
    refine J_iload_n C 2 D_Mo_in0_105 rfl rfl ?_
    obtain ⟨c_106, h⟩ := h
    refine J_iald C D_Mo_in0_106 c_106 ?_
    refine J_if_eq (tgt := 112) C D_Mo_in0_107 (by decide) (fun c_107 => ?_) (fun c_107 => ?_)
    · have h := h.1 c_107
      refine J_iinc (v := x2 + 1) (lv' := [(2, .int (x2 + 1)), (0, .ref (xd x a0)), (1, .int x1)]) C 2 2 D_Mo_in0_112 rfl rfl (by decide) rfl ?_
      refine J_goto (tgt := 93) C D_Mo_in0_115 (by decide) ?_
      exact J_sub [1, 2, 0] rfl (K93 _ _ _ _ h)
    · have h := h.2 c_107
      refine J_iconst (v := 0) C D_Mo_in0_110 rfl ?_
      exact J_iret C Rt D_Mo_in0_111 rfl h
def L_Mo_in0_93 (k2 : Nat → Int32 → Mem → Prop) (post : Int32 → Mem → Prop) : Nat → Nat → Int32 → Int32 → Mem → Prop
  | 0, _, _, _, _ => False
  | n + 1, a0, x1, x2, M => B_Mo_in0_93 k2 (L_Mo_in0_93 k2 post n) post a0 x1 x2 M
theorem Y_Mo_in0_93 {x : Ctx} {post : Int32 → Mem → Prop} (C : Ok x b_Mo_in0 3 "HeapTowerModel") (hR : xR x = rm_Mo_in0) (Rt : RetI x .int post 0 0) {k2 : Nat → Int32 → Mem → Prop} (K2 : ∀ (a0 : Nat) (x1 : Int32) (M : Mem), k2 a0 x1 M → J x 3 2 [(0, .ref (xd x a0)), (1, .int x1)] [] 0 0 M) : ∀ (n : Nat) (a0 : Nat) (x1 : Int32) (x2 : Int32) (M : Mem), L_Mo_in0_93 k2 post n a0 x1 x2 M → J x 3 93 [(0, .ref (xd x a0)), (1, .int x1), (2, .int x2)] [] 0 0 M := by
  intro n
  induction n with
  | zero => intro a0 x1 x2 M h; exact h.elim
  | succ n ih => intro a0 x1 x2 M h; exact Z_Mo_in0_93 C hR Rt K2 ih _ _ _ _ h
def B_Mo_in0_85 (k2 : Nat → Int32 → Mem → Prop) (k48 : Nat → Int32 → Int32 → Mem → Prop) (post : Int32 → Mem → Prop) (a0 : Nat) (x1 : Int32) (x2 : Int32) (M : Mem) : Prop := (k48 a0 x1 (x2 + 1) M)
set_option maxRecDepth 20000 in
theorem Z_Mo_in0_85 {x : Ctx} {post : Int32 → Mem → Prop} (C : Ok x b_Mo_in0 3 "HeapTowerModel") (hR : xR x = rm_Mo_in0) (Rt : RetI x .int post 0 0) {k2 : Nat → Int32 → Mem → Prop} (K2 : ∀ (a0 : Nat) (x1 : Int32) (M : Mem), k2 a0 x1 M → J x 3 2 [(0, .ref (xd x a0)), (1, .int x1)] [] 0 0 M) {k48 : Nat → Int32 → Int32 → Mem → Prop} (K48 : ∀ (a0 : Nat) (x1 : Int32) (x2 : Int32) (M : Mem), k48 a0 x1 x2 M → J x 3 48 [(0, .ref (xd x a0)), (1, .int x1), (2, .int x2)] [] 0 0 M) (a0 : Nat) (x1 : Int32) (x2 : Int32) (M : Mem) (h : B_Mo_in0_85 k2 k48 post a0 x1 x2 M) : J x 3 85 [(0, .ref (xd x a0)), (1, .int x1), (2, .int x2)] [] 0 0 M := by
  unfold B_Mo_in0_85 at h
  refine J_iinc (v := x2 + 1) (lv' := [(2, .int (x2 + 1)), (0, .ref (xd x a0)), (1, .int x1)]) C 2 2 D_Mo_in0_85 rfl rfl (by decide) rfl ?_
  refine J_goto (tgt := 48) C D_Mo_in0_88 (by decide) ?_
  exact J_sub [1, 2, 0] rfl (K48 _ _ _ _ h)
def B_Mo_in0_48 (k2 : Nat → Int32 → Mem → Prop) (k48 : Nat → Int32 → Int32 → Mem → Prop) (post : Int32 → Mem → Prop) (a0 : Nat) (x1 : Int32) (x2 : Int32) (M : Mem) : Prop := (isK M a0 7 ∧ ((gI M a0 8) ≤ x2 → (∃ n, L_Mo_in0_93 k2 post n a0 x1 0 M)) ∧ (¬ (gI M a0 8) ≤ x2 → (isK M a0 7 ∧ ∃ q57, gR M a0 11 = some q57 ∧ isA M q57 9 x2 ∧ ((gI M q57 (Int32.toNatClampNeg x2)) = 0 → (B_Mo_in0_85 k2 k48 post a0 x1 x2 M)) ∧ (¬ (gI M q57 (Int32.toNatClampNeg x2)) = 0 → (isK M a0 7 ∧ ∃ q66, gR M a0 10 = some q66 ∧ isA M q66 8 x2 ∧ ((gI M q66 (Int32.toNatClampNeg x2)) = 0 → (B_Mo_in0_85 k2 k48 post a0 x1 x2 M)) ∧ (¬ (gI M q66 (Int32.toNatClampNeg x2)) = 0 → (isK M a0 7 ∧ ∃ q77, gR M a0 10 = some q77 ∧ isA M q77 8 x2 ∧ isK M a0 7 ∧ T_Mo_less a0 x2 (gI M q77 (Int32.toNatClampNeg x2)) M (fun M82 => B_Mo_in0_85 k2 k48 post a0 x1 x2 M82))))))))
set_option maxRecDepth 20000 in
theorem Z_Mo_in0_48 {x : Ctx} {post : Int32 → Mem → Prop} (C : Ok x b_Mo_in0 3 "HeapTowerModel") (hR : xR x = rm_Mo_in0) (Rt : RetI x .int post 0 0) {k2 : Nat → Int32 → Mem → Prop} (K2 : ∀ (a0 : Nat) (x1 : Int32) (M : Mem), k2 a0 x1 M → J x 3 2 [(0, .ref (xd x a0)), (1, .int x1)] [] 0 0 M) {k48 : Nat → Int32 → Int32 → Mem → Prop} (K48 : ∀ (a0 : Nat) (x1 : Int32) (x2 : Int32) (M : Mem), k48 a0 x1 x2 M → J x 3 48 [(0, .ref (xd x a0)), (1, .int x1), (2, .int x2)] [] 0 0 M) (a0 : Nat) (x1 : Int32) (x2 : Int32) (M : Mem) (h : B_Mo_in0_48 k2 k48 post a0 x1 x2 M) : J x 3 48 [(0, .ref (xd x a0)), (1, .int x1), (2, .int x2)] [] 0 0 M := by
  unfold B_Mo_in0_48 at h
  refine J_iload_n C 2 D_Mo_in0_48 rfl rfl ?_
  refine J_aload_n C 0 D_Mo_in0_49 rfl rfl ?_
  obtain ⟨c_50, h⟩ := h
  refine J_getI C fl_Mo_115 D_Mo_in0_50 c_50 ?_
  refine J_icmp_ge (tgt := 91) C D_Mo_in0_53 (by decide) (fun c_53 => ?_) (fun c_53 => ?_)
  · have h := h.1 c_53
    refine J_iconst (v := 0) C D_Mo_in0_91 rfl ?_
    refine J_istore_n (lv' := [(2, .int 0), (0, .ref (xd x a0)), (1, .int x1)]) C 2 D_Mo_in0_92 rfl (by decide) rfl ?_
    obtain ⟨n, h⟩ := h
    exact J_sub [1, 2, 0] rfl (Y_Mo_in0_93 C hR Rt K2 n _ _ _ _ h)
  · have h := h.2 c_53
    refine J_aload_n C 0 D_Mo_in0_56 rfl rfl ?_
    obtain ⟨c_57, q57, e_57, h⟩ := h
    refine J_getR C fl_Mo_32 D_Mo_in0_57 c_57 e_57 ?_
    refine J_iload_n C 2 D_Mo_in0_60 rfl rfl ?_
    obtain ⟨c_61, h⟩ := h
    refine J_zald C D_Mo_in0_61 c_61 ?_
    refine J_if_eq (tgt := 85) C D_Mo_in0_62 (by decide) (fun c_62 => ?_) (fun c_62 => ?_)
    · have h := h.1 c_62
      exact J_sub [0, 1, 2] rfl (Z_Mo_in0_85 C hR Rt K2 K48 _ _ _ _ h)
    · have h := h.2 c_62
      refine J_aload_n C 0 D_Mo_in0_65 rfl rfl ?_
      obtain ⟨c_66, q66, e_66, h⟩ := h
      refine J_getR C fl_Mo_29 D_Mo_in0_66 c_66 e_66 ?_
      refine J_iload_n C 2 D_Mo_in0_69 rfl rfl ?_
      obtain ⟨c_70, h⟩ := h
      refine J_iald C D_Mo_in0_70 c_70 ?_
      refine J_if_eq (tgt := 85) C D_Mo_in0_71 (by decide) (fun c_71 => ?_) (fun c_71 => ?_)
      · have h := h.1 c_71
        exact J_sub [0, 1, 2] rfl (Z_Mo_in0_85 C hR Rt K2 K48 _ _ _ _ h)
      · have h := h.2 c_71
        refine J_aload_n C 0 D_Mo_in0_74 rfl rfl ?_
        refine J_iload_n C 2 D_Mo_in0_75 rfl rfl ?_
        refine J_aload_n C 0 D_Mo_in0_76 rfl rfl ?_
        obtain ⟨c_77, q77, e_77, h⟩ := h
        refine J_getR C fl_Mo_29 D_Mo_in0_77 c_77 e_77 ?_
        refine J_iload_n C 2 D_Mo_in0_80 rfl rfl ?_
        obtain ⟨c_81, h⟩ := h
        refine J_iald C D_Mo_in0_81 c_81 ?_
        obtain ⟨c_82, h⟩ := h
        refine J_callVv C ml_Mo_124 (S_Mo_less _ _ _ _ _ h) (by rw [hR]; decide) rfl c_82 rfl (Nat.le_of_ble_eq_true rfl) D_Mo_in0_82 (fun M82 h => ?_)
        exact J_sub [0, 1, 2] rfl (Z_Mo_in0_85 C hR Rt K2 K48 _ _ _ _ h)
def L_Mo_in0_48 (k2 : Nat → Int32 → Mem → Prop) (post : Int32 → Mem → Prop) : Nat → Nat → Int32 → Int32 → Mem → Prop
  | 0, _, _, _, _ => False
  | n + 1, a0, x1, x2, M => B_Mo_in0_48 k2 (L_Mo_in0_48 k2 post n) post a0 x1 x2 M
theorem Y_Mo_in0_48 {x : Ctx} {post : Int32 → Mem → Prop} (C : Ok x b_Mo_in0 3 "HeapTowerModel") (hR : xR x = rm_Mo_in0) (Rt : RetI x .int post 0 0) {k2 : Nat → Int32 → Mem → Prop} (K2 : ∀ (a0 : Nat) (x1 : Int32) (M : Mem), k2 a0 x1 M → J x 3 2 [(0, .ref (xd x a0)), (1, .int x1)] [] 0 0 M) : ∀ (n : Nat) (a0 : Nat) (x1 : Int32) (x2 : Int32) (M : Mem), L_Mo_in0_48 k2 post n a0 x1 x2 M → J x 3 48 [(0, .ref (xd x a0)), (1, .int x1), (2, .int x2)] [] 0 0 M := by
  intro n
  induction n with
  | zero => intro a0 x1 x2 M h; exact h.elim
  | succ n ih => intro a0 x1 x2 M h; exact Z_Mo_in0_48 C hR Rt K2 ih _ _ _ _ h
def B_Mo_in0_15 (k2 : Nat → Int32 → Mem → Prop) (k15 : Nat → Int32 → Int32 → Mem → Prop) (post : Int32 → Mem → Prop) (a0 : Nat) (x1 : Int32) (x2 : Int32) (M : Mem) : Prop := (isK M a0 7 ∧ ((gI M a0 8) ≤ x2 → (∃ n, L_Mo_in0_48 k2 post n a0 x1 0 M)) ∧ (¬ (gI M a0 8) ≤ x2 → (isK M a0 7 ∧ ∃ q24, gR M a0 10 = some q24 ∧ isK M a0 7 ∧ ∃ q31, gR M a0 6 = some q31 ∧ isA M q31 8 x2 ∧ isK M a0 7 ∧ T_Mo_get a0 0 (gI M q31 (Int32.toNatClampNeg x2)) M (fun r36 M36 => isA M36 q24 8 x2 ∧ k15 a0 x1 (x2 + 1) (sI M36 q24 (Int32.toNatClampNeg x2) r36)))))
set_option maxRecDepth 20000 in
theorem Z_Mo_in0_15 {x : Ctx} {post : Int32 → Mem → Prop} (C : Ok x b_Mo_in0 3 "HeapTowerModel") (hR : xR x = rm_Mo_in0) (Rt : RetI x .int post 0 0) {k2 : Nat → Int32 → Mem → Prop} (K2 : ∀ (a0 : Nat) (x1 : Int32) (M : Mem), k2 a0 x1 M → J x 3 2 [(0, .ref (xd x a0)), (1, .int x1)] [] 0 0 M) {k15 : Nat → Int32 → Int32 → Mem → Prop} (K15 : ∀ (a0 : Nat) (x1 : Int32) (x2 : Int32) (M : Mem), k15 a0 x1 x2 M → J x 3 15 [(0, .ref (xd x a0)), (1, .int x1), (2, .int x2)] [] 0 0 M) (a0 : Nat) (x1 : Int32) (x2 : Int32) (M : Mem) (h : B_Mo_in0_15 k2 k15 post a0 x1 x2 M) : J x 3 15 [(0, .ref (xd x a0)), (1, .int x1), (2, .int x2)] [] 0 0 M := by
  unfold B_Mo_in0_15 at h
  refine J_iload_n C 2 D_Mo_in0_15 rfl rfl ?_
  refine J_aload_n C 0 D_Mo_in0_16 rfl rfl ?_
  obtain ⟨c_17, h⟩ := h
  refine J_getI C fl_Mo_115 D_Mo_in0_17 c_17 ?_
  refine J_icmp_ge (tgt := 46) C D_Mo_in0_20 (by decide) (fun c_20 => ?_) (fun c_20 => ?_)
  · have h := h.1 c_20
    refine J_iconst (v := 0) C D_Mo_in0_46 rfl ?_
    refine J_istore_n (lv' := [(2, .int 0), (0, .ref (xd x a0)), (1, .int x1)]) C 2 D_Mo_in0_47 rfl (by decide) rfl ?_
    obtain ⟨n, h⟩ := h
    exact J_sub [1, 2, 0] rfl (Y_Mo_in0_48 C hR Rt K2 n _ _ _ _ h)
  · have h := h.2 c_20
    refine J_aload_n C 0 D_Mo_in0_23 rfl rfl ?_
    obtain ⟨c_24, q24, e_24, h⟩ := h
    refine J_getR C fl_Mo_29 D_Mo_in0_24 c_24 e_24 ?_
    refine J_iload_n C 2 D_Mo_in0_27 rfl rfl ?_
    refine J_aload_n C 0 D_Mo_in0_28 rfl rfl ?_
    refine J_iconst (v := 0) C D_Mo_in0_29 rfl ?_
    refine J_aload_n C 0 D_Mo_in0_30 rfl rfl ?_
    obtain ⟨c_31, q31, e_31, h⟩ := h
    refine J_getR C fl_Mo_20 D_Mo_in0_31 c_31 e_31 ?_
    refine J_iload_n C 2 D_Mo_in0_34 rfl rfl ?_
    obtain ⟨c_35, h⟩ := h
    refine J_iald C D_Mo_in0_35 c_35 ?_
    obtain ⟨c_36, h⟩ := h
    refine J_callVi C ml_Mo_69 (S_Mo_get _ _ _ _ _ h) (by rw [hR]; decide) rfl c_36 rfl (Nat.le_of_ble_eq_true rfl) D_Mo_in0_36 (fun r36 M36 h => ?_)
    obtain ⟨c_39, h⟩ := h
    refine J_iast C D_Mo_in0_39 c_39 ?_
    refine J_iinc (v := x2 + 1) (lv' := [(2, .int (x2 + 1)), (0, .ref (xd x a0)), (1, .int x1)]) C 2 2 D_Mo_in0_40 rfl rfl (by decide) rfl ?_
    refine J_goto (tgt := 15) C D_Mo_in0_43 (by decide) ?_
    exact J_sub [1, 2, 0] rfl (K15 _ _ _ _ h)
def L_Mo_in0_15 (k2 : Nat → Int32 → Mem → Prop) (post : Int32 → Mem → Prop) : Nat → Nat → Int32 → Int32 → Mem → Prop
  | 0, _, _, _, _ => False
  | n + 1, a0, x1, x2, M => B_Mo_in0_15 k2 (L_Mo_in0_15 k2 post n) post a0 x1 x2 M
theorem Y_Mo_in0_15 {x : Ctx} {post : Int32 → Mem → Prop} (C : Ok x b_Mo_in0 3 "HeapTowerModel") (hR : xR x = rm_Mo_in0) (Rt : RetI x .int post 0 0) {k2 : Nat → Int32 → Mem → Prop} (K2 : ∀ (a0 : Nat) (x1 : Int32) (M : Mem), k2 a0 x1 M → J x 3 2 [(0, .ref (xd x a0)), (1, .int x1)] [] 0 0 M) : ∀ (n : Nat) (a0 : Nat) (x1 : Int32) (x2 : Int32) (M : Mem), L_Mo_in0_15 k2 post n a0 x1 x2 M → J x 3 15 [(0, .ref (xd x a0)), (1, .int x1), (2, .int x2)] [] 0 0 M := by
  intro n
  induction n with
  | zero => intro a0 x1 x2 M h; exact h.elim
  | succ n ih => intro a0 x1 x2 M h; exact Z_Mo_in0_15 C hR Rt K2 ih _ _ _ _ h
def B_Mo_in0_2 (k2 : Nat → Int32 → Mem → Prop) (post : Int32 → Mem → Prop) (a0 : Nat) (x1 : Int32) (M : Mem) : Prop := ((10 < x1 → (post 1 M)) ∧ (¬ 10 < x1 → (isK M a0 7 ∧ T_Mo_heap a0 x1 M (fun M10 => ∃ n, L_Mo_in0_15 k2 post n a0 x1 0 M10))))
set_option maxRecDepth 20000 in
theorem Z_Mo_in0_2 {x : Ctx} {post : Int32 → Mem → Prop} (C : Ok x b_Mo_in0 3 "HeapTowerModel") (hR : xR x = rm_Mo_in0) (Rt : RetI x .int post 0 0) {k2 : Nat → Int32 → Mem → Prop} (K2 : ∀ (a0 : Nat) (x1 : Int32) (M : Mem), k2 a0 x1 M → J x 3 2 [(0, .ref (xd x a0)), (1, .int x1)] [] 0 0 M) (a0 : Nat) (x1 : Int32) (M : Mem) (h : B_Mo_in0_2 k2 post a0 x1 M) : J x 3 2 [(0, .ref (xd x a0)), (1, .int x1)] [] 0 0 M := by
  unfold B_Mo_in0_2 at h
  refine J_iload_n C 1 D_Mo_in0_2 rfl rfl ?_
  refine J_bipush (v := 10) C D_Mo_in0_3 rfl ?_
  refine J_icmp_gt (tgt := 124) C D_Mo_in0_5 (by decide) (fun c_5 => ?_) (fun c_5 => ?_)
  · have h := h.1 c_5
    refine J_iconst (v := 1) C D_Mo_in0_124 rfl ?_
    exact J_iret C Rt D_Mo_in0_125 rfl h
  · have h := h.2 c_5
    refine J_aload_n C 0 D_Mo_in0_8 rfl rfl ?_
    refine J_iload_n C 1 D_Mo_in0_9 rfl rfl ?_
    obtain ⟨c_10, h⟩ := h
    refine J_callVv C ml_Mo_139 (S_Mo_heap _ _ _ _ h) (by rw [hR]; decide) rfl c_10 rfl (Nat.le_of_ble_eq_true rfl) D_Mo_in0_10 (fun M10 h => ?_)
    refine J_iconst (v := 0) C D_Mo_in0_13 rfl ?_
    refine J_istore_n (lv' := [(2, .int 0), (0, .ref (xd x a0)), (1, .int x1)]) C 2 D_Mo_in0_14 rfl (by decide) rfl ?_
    obtain ⟨n, h⟩ := h
    exact J_sub [1, 2, 0] rfl (Y_Mo_in0_15 C hR Rt K2 n _ _ _ _ h)
def L_Mo_in0_2 (post : Int32 → Mem → Prop) : Nat → Nat → Int32 → Mem → Prop
  | 0, _, _, _ => False
  | n + 1, a0, x1, M => B_Mo_in0_2 (L_Mo_in0_2 post n) post a0 x1 M
theorem Y_Mo_in0_2 {x : Ctx} {post : Int32 → Mem → Prop} (C : Ok x b_Mo_in0 3 "HeapTowerModel") (hR : xR x = rm_Mo_in0) (Rt : RetI x .int post 0 0) : ∀ (n : Nat) (a0 : Nat) (x1 : Int32) (M : Mem), L_Mo_in0_2 post n a0 x1 M → J x 3 2 [(0, .ref (xd x a0)), (1, .int x1)] [] 0 0 M := by
  intro n
  induction n with
  | zero => intro a0 x1 M h; exact h.elim
  | succ n ih => intro a0 x1 M h; exact Z_Mo_in0_2 C hR Rt ih _ _ _ h
def T_Mo_in0 (a0 : Nat) (M : Mem) (post : Int32 → Mem → Prop) : Prop := (∃ n, L_Mo_in0_2 post n a0 0 M)
set_option maxRecDepth 20000 in
theorem S_Mo_in0 {l : Launch} {D : va_G} {B t g : Nat} {d : Nat → Nat} {ac : Nat → ClassId}  (a0 : Nat) (M : Mem) (post : Int32 → Mem → Prop) (h : T_Mo_in0 a0 M post) : Met l y_Mo_in0 w_Mo_in0 rm_Mo_in0 (va_Pc [.ref (d a0)] (PRE D B d g t ac M)) (QI D B d g ac post) 0 0 (AB B) := by
  refine met_i (by decide +kernel) (Nat.le_of_ble_eq_true rfl) (fun x h1 hR h3 h4 h5 h6 h7 h8 C Rt => ?_)
  subst h3 h4 h5 h6 h7 h8
  unfold T_Mo_in0 at h
  show J x 3 0 [(0, .ref (xd x a0))] [] 0 0 M
  refine J_iconst (v := 0) C D_Mo_in0_0 rfl ?_
  refine J_istore_n (lv' := [(1, .int 0), (0, .ref (xd x a0))]) C 1 D_Mo_in0_1 rfl (by decide) rfl ?_
  obtain ⟨n, h⟩ := h
  exact J_sub [1, 0] rfl (Y_Mo_in0_2 C hR Rt  n _ _ _ h)
theorem D_Mo_divides_0 : decode b_Mo_divides 0 = .ok (.aload_n 0, 1) := by decide +kernel
theorem D_Mo_divides_1 : decode b_Mo_divides 1 = .ok (.iload_n 1, 1) := by decide +kernel
theorem D_Mo_divides_2 : decode b_Mo_divides 2 = .ok (.iconst 0, 1) := by decide +kernel
theorem D_Mo_divides_3 : decode b_Mo_divides 3 = .ok (.invokevirtual 61, 3) := by decide +kernel
theorem D_Mo_divides_6 : decode b_Mo_divides 6 = .ok (.aload_n 0, 1) := by decide +kernel
theorem D_Mo_divides_7 : decode b_Mo_divides 7 = .ok (.iload_n 2, 1) := by decide +kernel
theorem D_Mo_divides_8 : decode b_Mo_divides 8 = .ok (.iconst 0, 1) := by decide +kernel
theorem D_Mo_divides_9 : decode b_Mo_divides 9 = .ok (.invokevirtual 61, 3) := by decide +kernel
theorem D_Mo_divides_12 : decode b_Mo_divides 12 = .ok (.if_icmp .gt 37, 3) := by decide +kernel
theorem D_Mo_divides_15 : decode b_Mo_divides 15 = .ok (.aload_n 0, 1) := by decide +kernel
theorem D_Mo_divides_16 : decode b_Mo_divides 16 = .ok (.iload_n 1, 1) := by decide +kernel
theorem D_Mo_divides_17 : decode b_Mo_divides 17 = .ok (.iconst 1, 1) := by decide +kernel
theorem D_Mo_divides_18 : decode b_Mo_divides 18 = .ok (.invokevirtual 61, 3) := by decide +kernel
theorem D_Mo_divides_21 : decode b_Mo_divides 21 = .ok (.aload_n 0, 1) := by decide +kernel
theorem D_Mo_divides_22 : decode b_Mo_divides 22 = .ok (.iload_n 2, 1) := by decide +kernel
theorem D_Mo_divides_23 : decode b_Mo_divides 23 = .ok (.iconst 1, 1) := by decide +kernel
theorem D_Mo_divides_24 : decode b_Mo_divides 24 = .ok (.invokevirtual 61, 3) := by decide +kernel
theorem D_Mo_divides_27 : decode b_Mo_divides 27 = .ok (.if_icmp .gt 22, 3) := by decide +kernel
theorem D_Mo_divides_30 : decode b_Mo_divides 30 = .ok (.aload_n 0, 1) := by decide +kernel
theorem D_Mo_divides_31 : decode b_Mo_divides 31 = .ok (.iload_n 1, 1) := by decide +kernel
theorem D_Mo_divides_32 : decode b_Mo_divides 32 = .ok (.iconst 2, 1) := by decide +kernel
theorem D_Mo_divides_33 : decode b_Mo_divides 33 = .ok (.invokevirtual 61, 3) := by decide +kernel
theorem D_Mo_divides_36 : decode b_Mo_divides 36 = .ok (.aload_n 0, 1) := by decide +kernel
theorem D_Mo_divides_37 : decode b_Mo_divides 37 = .ok (.iload_n 2, 1) := by decide +kernel
theorem D_Mo_divides_38 : decode b_Mo_divides 38 = .ok (.iconst 2, 1) := by decide +kernel
theorem D_Mo_divides_39 : decode b_Mo_divides 39 = .ok (.invokevirtual 61, 3) := by decide +kernel
theorem D_Mo_divides_42 : decode b_Mo_divides 42 = .ok (.if_icmp .gt 7, 3) := by decide +kernel
theorem D_Mo_divides_45 : decode b_Mo_divides 45 = .ok (.iconst 1, 1) := by decide +kernel
theorem D_Mo_divides_46 : decode b_Mo_divides 46 = .ok (.goto 4, 3) := by decide +kernel
theorem D_Mo_divides_49 : decode b_Mo_divides 49 = .ok (.iconst 0, 1) := by decide +kernel
theorem D_Mo_divides_50 : decode b_Mo_divides 50 = .ok (.ireturn, 1) := by decide +kernel
abbrev rm_Mo_divides : Room := { frames := 1, cells := 0, slots := 0, locals := 22 }
def B_Mo_divides_50 (post : Int32 → Mem → Prop) (s0 : Int32) (M : Mem) : Prop := (narrow .boolean (.int s0) = .int s0 ∧ post s0 M)
set_option maxRecDepth 20000 in
theorem Z_Mo_divides_50 {x : Ctx} {post : Int32 → Mem → Prop} (C : Ok x b_Mo_divides 3 "HeapTowerModel") (hR : xR x = rm_Mo_divides) (Rt : RetI x .boolean post 0 0) (s0 : Int32) (M : Mem) (h : B_Mo_divides_50 post s0 M) : J x 3 50 [] [.int s0] 0 0 M := by
  unfold B_Mo_divides_50 at h
  obtain ⟨c_50, h⟩ := h
  exact J_iret C Rt D_Mo_divides_50 c_50 h
def B_Mo_divides_49 (post : Int32 → Mem → Prop) (M : Mem) : Prop := (B_Mo_divides_50 post 0 M)
set_option maxRecDepth 20000 in
theorem Z_Mo_divides_49 {x : Ctx} {post : Int32 → Mem → Prop} (C : Ok x b_Mo_divides 3 "HeapTowerModel") (hR : xR x = rm_Mo_divides) (Rt : RetI x .boolean post 0 0) (M : Mem) (h : B_Mo_divides_49 post M) : J x 3 49 [] [] 0 0 M := by
  unfold B_Mo_divides_49 at h
  refine J_iconst (v := 0) C D_Mo_divides_49 rfl ?_
  exact J_sub [] rfl (Z_Mo_divides_50 C hR Rt  _ _ h)
def T_Mo_divides (a0 : Nat) (x1 : Int32) (x2 : Int32) (M : Mem) (post : Int32 → Mem → Prop) : Prop := (isK M a0 7 ∧ T_Mo_power a0 x1 0 M (fun r3 M3 => isK M3 a0 7 ∧ T_Mo_power a0 x2 0 M3 (fun r9 M9 => (r9 < r3 → (B_Mo_divides_49 post M9)) ∧ (¬ r9 < r3 → (isK M9 a0 7 ∧ T_Mo_power a0 x1 1 M9 (fun r18 M18 => isK M18 a0 7 ∧ T_Mo_power a0 x2 1 M18 (fun r24 M24 => (r24 < r18 → (B_Mo_divides_49 post M24)) ∧ (¬ r24 < r18 → (isK M24 a0 7 ∧ T_Mo_power a0 x1 2 M24 (fun r33 M33 => isK M33 a0 7 ∧ T_Mo_power a0 x2 2 M33 (fun r39 M39 => (r39 < r33 → (B_Mo_divides_49 post M39)) ∧ (¬ r39 < r33 → (B_Mo_divides_50 post 1 M39)))))))))))))
set_option maxRecDepth 20000 in
theorem S_Mo_divides {l : Launch} {D : va_G} {B t g : Nat} {d : Nat → Nat} {ac : Nat → ClassId}  (a0 : Nat) (x1 : Int32) (x2 : Int32) (M : Mem) (post : Int32 → Mem → Prop) (h : T_Mo_divides a0 x1 x2 M post) : Met l y_Mo_divides w_Mo_divides rm_Mo_divides (va_Pc [.ref (d a0), .int x1, .int x2] (PRE D B d g t ac M)) (QI D B d g ac post) 0 0 (AB B) := by
  refine met_i (by decide +kernel) (Nat.le_of_ble_eq_true rfl) (fun x h1 hR h3 h4 h5 h6 h7 h8 C Rt => ?_)
  subst h3 h4 h5 h6 h7 h8
  unfold T_Mo_divides at h
  show J x 3 0 [(0, .ref (xd x a0)), (1, .int x1), (2, .int x2)] [] 0 0 M
  refine J_aload_n C 0 D_Mo_divides_0 rfl rfl ?_
  refine J_iload_n C 1 D_Mo_divides_1 rfl rfl ?_
  refine J_iconst (v := 0) C D_Mo_divides_2 rfl ?_
  obtain ⟨c_3, h⟩ := h
  refine J_callVi C ml_Mo_61 (S_Mo_power _ _ _ _ _ h) (by rw [hR]; decide) rfl c_3 rfl (Nat.le_of_ble_eq_true rfl) D_Mo_divides_3 (fun r3 M3 h => ?_)
  refine J_aload_n C 0 D_Mo_divides_6 rfl rfl ?_
  refine J_iload_n C 2 D_Mo_divides_7 rfl rfl ?_
  refine J_iconst (v := 0) C D_Mo_divides_8 rfl ?_
  obtain ⟨c_9, h⟩ := h
  refine J_callVi C ml_Mo_61 (S_Mo_power _ _ _ _ _ h) (by rw [hR]; decide) rfl c_9 rfl (Nat.le_of_ble_eq_true rfl) D_Mo_divides_9 (fun r9 M9 h => ?_)
  refine J_icmp_gt (tgt := 49) C D_Mo_divides_12 (by decide) (fun c_12 => ?_) (fun c_12 => ?_)
  · have h := h.1 c_12
    exact J_sub [] rfl (Z_Mo_divides_49 C hR Rt  _ h)
  · have h := h.2 c_12
    refine J_aload_n C 0 D_Mo_divides_15 rfl rfl ?_
    refine J_iload_n C 1 D_Mo_divides_16 rfl rfl ?_
    refine J_iconst (v := 1) C D_Mo_divides_17 rfl ?_
    obtain ⟨c_18, h⟩ := h
    refine J_callVi C ml_Mo_61 (S_Mo_power _ _ _ _ _ h) (by rw [hR]; decide) rfl c_18 rfl (Nat.le_of_ble_eq_true rfl) D_Mo_divides_18 (fun r18 M18 h => ?_)
    refine J_aload_n C 0 D_Mo_divides_21 rfl rfl ?_
    refine J_iload_n C 2 D_Mo_divides_22 rfl rfl ?_
    refine J_iconst (v := 1) C D_Mo_divides_23 rfl ?_
    obtain ⟨c_24, h⟩ := h
    refine J_callVi C ml_Mo_61 (S_Mo_power _ _ _ _ _ h) (by rw [hR]; decide) rfl c_24 rfl (Nat.le_of_ble_eq_true rfl) D_Mo_divides_24 (fun r24 M24 h => ?_)
    refine J_icmp_gt (tgt := 49) C D_Mo_divides_27 (by decide) (fun c_27 => ?_) (fun c_27 => ?_)
    · have h := h.1 c_27
      exact J_sub [] rfl (Z_Mo_divides_49 C hR Rt  _ h)
    · have h := h.2 c_27
      refine J_aload_n C 0 D_Mo_divides_30 rfl rfl ?_
      refine J_iload_n C 1 D_Mo_divides_31 rfl rfl ?_
      refine J_iconst (v := 2) C D_Mo_divides_32 rfl ?_
      obtain ⟨c_33, h⟩ := h
      refine J_callVi C ml_Mo_61 (S_Mo_power _ _ _ _ _ h) (by rw [hR]; decide) rfl c_33 rfl (Nat.le_of_ble_eq_true rfl) D_Mo_divides_33 (fun r33 M33 h => ?_)
      refine J_aload_n C 0 D_Mo_divides_36 rfl rfl ?_
      refine J_iload_n C 2 D_Mo_divides_37 rfl rfl ?_
      refine J_iconst (v := 2) C D_Mo_divides_38 rfl ?_
      obtain ⟨c_39, h⟩ := h
      refine J_callVi C ml_Mo_61 (S_Mo_power _ _ _ _ _ h) (by rw [hR]; decide) rfl c_39 rfl (Nat.le_of_ble_eq_true rfl) D_Mo_divides_39 (fun r39 M39 h => ?_)
      refine J_icmp_gt (tgt := 49) C D_Mo_divides_42 (by decide) (fun c_42 => ?_) (fun c_42 => ?_)
      · have h := h.1 c_42
        exact J_sub [] rfl (Z_Mo_divides_49 C hR Rt  _ h)
      · have h := h.2 c_42
        refine J_iconst (v := 1) C D_Mo_divides_45 rfl ?_
        refine J_goto (tgt := 50) C D_Mo_divides_46 (by decide) ?_
        exact J_sub [] rfl (Z_Mo_divides_50 C hR Rt  _ _ h)
theorem D_Mo_bases_0 : decode b_Mo_bases 0 = .ok (.iconst 0, 1) := by decide +kernel
theorem D_Mo_bases_1 : decode b_Mo_bases 1 = .ok (.istore_n 3, 1) := by decide +kernel
theorem D_Mo_bases_2 : decode b_Mo_bases 2 = .ok (.iconst 0, 1) := by decide +kernel
theorem D_Mo_bases_3 : decode b_Mo_bases 3 = .ok (.istore 4, 2) := by decide +kernel
theorem D_Mo_bases_5 : decode b_Mo_bases 5 = .ok (.iload 4, 2) := by decide +kernel
theorem D_Mo_bases_7 : decode b_Mo_bases 7 = .ok (.sipush 1331, 3) := by decide +kernel
theorem D_Mo_bases_10 : decode b_Mo_bases 10 = .ok (.if_icmp .ge 17, 3) := by decide +kernel
theorem D_Mo_bases_13 : decode b_Mo_bases 13 = .ok (.aload_n 0, 1) := by decide +kernel
theorem D_Mo_bases_14 : decode b_Mo_bases 14 = .ok (.getfield 36, 3) := by decide +kernel
theorem D_Mo_bases_17 : decode b_Mo_bases 17 = .ok (.iload 4, 2) := by decide +kernel
theorem D_Mo_bases_19 : decode b_Mo_bases 19 = .ok (.iconst 0, 1) := by decide +kernel
theorem D_Mo_bases_20 : decode b_Mo_bases 20 = .ok (.bastore, 1) := by decide +kernel
theorem D_Mo_bases_21 : decode b_Mo_bases 21 = .ok (.iinc 4 1, 3) := by decide +kernel
theorem D_Mo_bases_24 : decode b_Mo_bases 24 = .ok (.goto (-19), 3) := by decide +kernel
theorem D_Mo_bases_27 : decode b_Mo_bases 27 = .ok (.iconst 0, 1) := by decide +kernel
theorem D_Mo_bases_28 : decode b_Mo_bases 28 = .ok (.istore 4, 2) := by decide +kernel
theorem D_Mo_bases_30 : decode b_Mo_bases 30 = .ok (.iload 4, 2) := by decide +kernel
theorem D_Mo_bases_32 : decode b_Mo_bases 32 = .ok (.iload_n 1, 1) := by decide +kernel
theorem D_Mo_bases_33 : decode b_Mo_bases 33 = .ok (.if_icmp .gt 192, 3) := by decide +kernel
theorem D_Mo_bases_36 : decode b_Mo_bases 36 = .ok (.aload_n 0, 1) := by decide +kernel
theorem D_Mo_bases_37 : decode b_Mo_bases 37 = .ok (.iload 4, 2) := by decide +kernel
theorem D_Mo_bases_39 : decode b_Mo_bases 39 = .ok (.invokevirtual 139, 3) := by decide +kernel
theorem D_Mo_bases_42 : decode b_Mo_bases 42 = .ok (.aload_n 0, 1) := by decide +kernel
theorem D_Mo_bases_43 : decode b_Mo_bases 43 = .ok (.getfield 115, 3) := by decide +kernel
theorem D_Mo_bases_46 : decode b_Mo_bases 46 = .ok (.iconst 1, 1) := by decide +kernel
theorem D_Mo_bases_47 : decode b_Mo_bases 47 = .ok (.isub, 1) := by decide +kernel
theorem D_Mo_bases_48 : decode b_Mo_bases 48 = .ok (.istore 5, 2) := by decide +kernel
theorem D_Mo_bases_50 : decode b_Mo_bases 50 = .ok (.iload 5, 2) := by decide +kernel
theorem D_Mo_bases_52 : decode b_Mo_bases 52 = .ok (.ifCond .lt 167, 3) := by decide +kernel
theorem D_Mo_bases_55 : decode b_Mo_bases 55 = .ok (.aload_n 0, 1) := by decide +kernel
theorem D_Mo_bases_56 : decode b_Mo_bases 56 = .ok (.getfield 32, 3) := by decide +kernel
theorem D_Mo_bases_59 : decode b_Mo_bases 59 = .ok (.iload 5, 2) := by decide +kernel
theorem D_Mo_bases_61 : decode b_Mo_bases 61 = .ok (.baload, 1) := by decide +kernel
theorem D_Mo_bases_62 : decode b_Mo_bases 62 = .ok (.ifCond .ne 6, 3) := by decide +kernel
theorem D_Mo_bases_65 : decode b_Mo_bases 65 = .ok (.goto 148, 3) := by decide +kernel
theorem D_Mo_bases_68 : decode b_Mo_bases 68 = .ok (.iconst 1, 1) := by decide +kernel
theorem D_Mo_bases_69 : decode b_Mo_bases 69 = .ok (.istore 6, 2) := by decide +kernel
theorem D_Mo_bases_71 : decode b_Mo_bases 71 = .ok (.iconst 0, 1) := by decide +kernel
theorem D_Mo_bases_72 : decode b_Mo_bases 72 = .ok (.istore 7, 2) := by decide +kernel
theorem D_Mo_bases_74 : decode b_Mo_bases 74 = .ok (.iload 7, 2) := by decide +kernel
theorem D_Mo_bases_76 : decode b_Mo_bases 76 = .ok (.sipush 1331, 3) := by decide +kernel
theorem D_Mo_bases_79 : decode b_Mo_bases 79 = .ok (.if_icmp .ge 57, 3) := by decide +kernel
theorem D_Mo_bases_82 : decode b_Mo_bases 82 = .ok (.iload 6, 2) := by decide +kernel
theorem D_Mo_bases_84 : decode b_Mo_bases 84 = .ok (.ifCond .eq 52, 3) := by decide +kernel
theorem D_Mo_bases_87 : decode b_Mo_bases 87 = .ok (.aload_n 0, 1) := by decide +kernel
theorem D_Mo_bases_88 : decode b_Mo_bases 88 = .ok (.getfield 36, 3) := by decide +kernel
theorem D_Mo_bases_91 : decode b_Mo_bases 91 = .ok (.iload 7, 2) := by decide +kernel
theorem D_Mo_bases_93 : decode b_Mo_bases 93 = .ok (.baload, 1) := by decide +kernel
theorem D_Mo_bases_94 : decode b_Mo_bases 94 = .ok (.ifCond .eq 29, 3) := by decide +kernel
theorem D_Mo_bases_97 : decode b_Mo_bases 97 = .ok (.iload 7, 2) := by decide +kernel
theorem D_Mo_bases_99 : decode b_Mo_bases 99 = .ok (.invokestatic 54, 3) := by decide +kernel
theorem D_Mo_bases_102 : decode b_Mo_bases 102 = .ok (.iload 4, 2) := by decide +kernel
theorem D_Mo_bases_104 : decode b_Mo_bases 104 = .ok (.if_icmp .eq 19, 3) := by decide +kernel
theorem D_Mo_bases_107 : decode b_Mo_bases 107 = .ok (.aload_n 0, 1) := by decide +kernel
theorem D_Mo_bases_108 : decode b_Mo_bases 108 = .ok (.iload 7, 2) := by decide +kernel
theorem D_Mo_bases_110 : decode b_Mo_bases 110 = .ok (.aload_n 0, 1) := by decide +kernel
theorem D_Mo_bases_111 : decode b_Mo_bases 111 = .ok (.getfield 20, 3) := by decide +kernel
theorem D_Mo_bases_114 : decode b_Mo_bases 114 = .ok (.iload 5, 2) := by decide +kernel
theorem D_Mo_bases_116 : decode b_Mo_bases 116 = .ok (.iaload, 1) := by decide +kernel
theorem D_Mo_bases_117 : decode b_Mo_bases 117 = .ok (.invokevirtual 142, 3) := by decide +kernel
theorem D_Mo_bases_120 : decode b_Mo_bases 120 = .ok (.ifCond .ne 7, 3) := by decide +kernel
theorem D_Mo_bases_123 : decode b_Mo_bases 123 = .ok (.iconst 1, 1) := by decide +kernel
theorem D_Mo_bases_124 : decode b_Mo_bases 124 = .ok (.goto 4, 3) := by decide +kernel
theorem D_Mo_bases_127 : decode b_Mo_bases 127 = .ok (.iconst 0, 1) := by decide +kernel
theorem D_Mo_bases_128 : decode b_Mo_bases 128 = .ok (.istore 6, 2) := by decide +kernel
theorem D_Mo_bases_130 : decode b_Mo_bases 130 = .ok (.iinc 7 1, 3) := by decide +kernel
theorem D_Mo_bases_133 : decode b_Mo_bases 133 = .ok (.goto (-59), 3) := by decide +kernel
theorem D_Mo_bases_136 : decode b_Mo_bases 136 = .ok (.aload_n 0, 1) := by decide +kernel
theorem D_Mo_bases_137 : decode b_Mo_bases 137 = .ok (.getfield 36, 3) := by decide +kernel
theorem D_Mo_bases_140 : decode b_Mo_bases 140 = .ok (.aload_n 0, 1) := by decide +kernel
theorem D_Mo_bases_141 : decode b_Mo_bases 141 = .ok (.getfield 20, 3) := by decide +kernel
theorem D_Mo_bases_144 : decode b_Mo_bases 144 = .ok (.iload 5, 2) := by decide +kernel
theorem D_Mo_bases_146 : decode b_Mo_bases 146 = .ok (.iaload, 1) := by decide +kernel
theorem D_Mo_bases_147 : decode b_Mo_bases 147 = .ok (.iconst 1, 1) := by decide +kernel
theorem D_Mo_bases_148 : decode b_Mo_bases 148 = .ok (.bastore, 1) := by decide +kernel
theorem D_Mo_bases_149 : decode b_Mo_bases 149 = .ok (.iload 6, 2) := by decide +kernel
theorem D_Mo_bases_151 : decode b_Mo_bases 151 = .ok (.ifCond .ne 6, 3) := by decide +kernel
theorem D_Mo_bases_154 : decode b_Mo_bases 154 = .ok (.goto 59, 3) := by decide +kernel
theorem D_Mo_bases_157 : decode b_Mo_bases 157 = .ok (.iload_n 3, 1) := by decide +kernel
theorem D_Mo_bases_158 : decode b_Mo_bases 158 = .ok (.iload_n 2, 1) := by decide +kernel
theorem D_Mo_bases_159 : decode b_Mo_bases 159 = .ok (.if_icmp .ne 51, 3) := by decide +kernel
theorem D_Mo_bases_162 : decode b_Mo_bases 162 = .ok (.aload_n 0, 1) := by decide +kernel
theorem D_Mo_bases_163 : decode b_Mo_bases 163 = .ok (.iconst 0, 1) := by decide +kernel
theorem D_Mo_bases_164 : decode b_Mo_bases 164 = .ok (.invokevirtual 90, 3) := by decide +kernel
theorem D_Mo_bases_167 : decode b_Mo_bases 167 = .ok (.iconst 0, 1) := by decide +kernel
theorem D_Mo_bases_168 : decode b_Mo_bases 168 = .ok (.istore 7, 2) := by decide +kernel
theorem D_Mo_bases_170 : decode b_Mo_bases 170 = .ok (.iload 7, 2) := by decide +kernel
theorem D_Mo_bases_172 : decode b_Mo_bases 172 = .ok (.aload_n 0, 1) := by decide +kernel
theorem D_Mo_bases_173 : decode b_Mo_bases 173 = .ok (.getfield 115, 3) := by decide +kernel
theorem D_Mo_bases_176 : decode b_Mo_bases 176 = .ok (.if_icmp .ge 34, 3) := by decide +kernel
theorem D_Mo_bases_179 : decode b_Mo_bases 179 = .ok (.aload_n 0, 1) := by decide +kernel
theorem D_Mo_bases_180 : decode b_Mo_bases 180 = .ok (.iconst 0, 1) := by decide +kernel
theorem D_Mo_bases_181 : decode b_Mo_bases 181 = .ok (.aload_n 0, 1) := by decide +kernel
theorem D_Mo_bases_182 : decode b_Mo_bases 182 = .ok (.getfield 20, 3) := by decide +kernel
theorem D_Mo_bases_185 : decode b_Mo_bases 185 = .ok (.iload 7, 2) := by decide +kernel
theorem D_Mo_bases_187 : decode b_Mo_bases 187 = .ok (.iaload, 1) := by decide +kernel
theorem D_Mo_bases_188 : decode b_Mo_bases 188 = .ok (.aload_n 0, 1) := by decide +kernel
theorem D_Mo_bases_189 : decode b_Mo_bases 189 = .ok (.getfield 26, 3) := by decide +kernel
theorem D_Mo_bases_192 : decode b_Mo_bases 192 = .ok (.bipush 66, 2) := by decide +kernel
theorem D_Mo_bases_194 : decode b_Mo_bases 194 = .ok (.iload 5, 2) := by decide +kernel
theorem D_Mo_bases_196 : decode b_Mo_bases 196 = .ok (.imul, 1) := by decide +kernel
theorem D_Mo_bases_197 : decode b_Mo_bases 197 = .ok (.iload 7, 2) := by decide +kernel
theorem D_Mo_bases_199 : decode b_Mo_bases 199 = .ok (.iadd, 1) := by decide +kernel
theorem D_Mo_bases_200 : decode b_Mo_bases 200 = .ok (.iaload, 1) := by decide +kernel
theorem D_Mo_bases_201 : decode b_Mo_bases 201 = .ok (.invokevirtual 65, 3) := by decide +kernel
theorem D_Mo_bases_204 : decode b_Mo_bases 204 = .ok (.iinc 7 1, 3) := by decide +kernel
theorem D_Mo_bases_207 : decode b_Mo_bases 207 = .ok (.goto (-37), 3) := by decide +kernel
theorem D_Mo_bases_210 : decode b_Mo_bases 210 = .ok (.iinc 3 1, 3) := by decide +kernel
theorem D_Mo_bases_213 : decode b_Mo_bases 213 = .ok (.iinc 5 (-1), 3) := by decide +kernel
theorem D_Mo_bases_216 : decode b_Mo_bases 216 = .ok (.goto (-166), 3) := by decide +kernel
theorem D_Mo_bases_219 : decode b_Mo_bases 219 = .ok (.iinc 4 1, 3) := by decide +kernel
theorem D_Mo_bases_222 : decode b_Mo_bases 222 = .ok (.goto (-192), 3) := by decide +kernel
theorem D_Mo_bases_225 : decode b_Mo_bases 225 = .ok (.iload_n 3, 1) := by decide +kernel
theorem D_Mo_bases_226 : decode b_Mo_bases 226 = .ok (.ireturn, 1) := by decide +kernel
abbrev rm_Mo_bases : Room := { frames := 5, cells := 0, slots := 0, locals := 121 }
def B_Mo_bases_213 (k30 : Nat → Int32 → Int32 → Int32 → Int32 → Mem → Prop) (k50 : Nat → Int32 → Int32 → Int32 → Int32 → Int32 → Mem → Prop) (post : Int32 → Mem → Prop) (a0 : Nat) (x1 : Int32) (x2 : Int32) (x3 : Int32) (x4 : Int32) (x5 : Int32) (M : Mem) : Prop := (k50 a0 x1 x2 x3 x4 (x5 + (-1)) M)
set_option maxRecDepth 20000 in
theorem Z_Mo_bases_213 {x : Ctx} {post : Int32 → Mem → Prop} (C : Ok x b_Mo_bases 8 "HeapTowerModel") (hR : xR x = rm_Mo_bases) (Rt : RetI x .int post 0 0) {k30 : Nat → Int32 → Int32 → Int32 → Int32 → Mem → Prop} (K30 : ∀ (a0 : Nat) (x1 : Int32) (x2 : Int32) (x3 : Int32) (x4 : Int32) (M : Mem), k30 a0 x1 x2 x3 x4 M → J x 8 30 [(0, .ref (xd x a0)), (1, .int x1), (2, .int x2), (3, .int x3), (4, .int x4)] [] 0 0 M) {k50 : Nat → Int32 → Int32 → Int32 → Int32 → Int32 → Mem → Prop} (K50 : ∀ (a0 : Nat) (x1 : Int32) (x2 : Int32) (x3 : Int32) (x4 : Int32) (x5 : Int32) (M : Mem), k50 a0 x1 x2 x3 x4 x5 M → J x 8 50 [(0, .ref (xd x a0)), (1, .int x1), (2, .int x2), (3, .int x3), (4, .int x4), (5, .int x5)] [] 0 0 M) (a0 : Nat) (x1 : Int32) (x2 : Int32) (x3 : Int32) (x4 : Int32) (x5 : Int32) (M : Mem) (h : B_Mo_bases_213 k30 k50 post a0 x1 x2 x3 x4 x5 M) : J x 8 213 [(0, .ref (xd x a0)), (1, .int x1), (2, .int x2), (3, .int x3), (4, .int x4), (5, .int x5)] [] 0 0 M := by
  unfold B_Mo_bases_213 at h
  refine J_iinc (v := x5 + (-1)) (lv' := [(5, .int (x5 + (-1))), (0, .ref (xd x a0)), (1, .int x1), (2, .int x2), (3, .int x3), (4, .int x4)]) C 5 5 D_Mo_bases_213 rfl rfl (by decide) rfl ?_
  refine J_goto (tgt := 50) C D_Mo_bases_216 (by decide) ?_
  exact J_sub [1, 2, 3, 4, 5, 0] rfl (K50 _ _ _ _ _ _ _ h)
def B_Mo_bases_210 (k30 : Nat → Int32 → Int32 → Int32 → Int32 → Mem → Prop) (k50 : Nat → Int32 → Int32 → Int32 → Int32 → Int32 → Mem → Prop) (post : Int32 → Mem → Prop) (a0 : Nat) (x1 : Int32) (x2 : Int32) (x3 : Int32) (x4 : Int32) (x5 : Int32) (M : Mem) : Prop := (B_Mo_bases_213 k30 k50 post a0 x1 x2 (x3 + 1) x4 x5 M)
set_option maxRecDepth 20000 in
theorem Z_Mo_bases_210 {x : Ctx} {post : Int32 → Mem → Prop} (C : Ok x b_Mo_bases 8 "HeapTowerModel") (hR : xR x = rm_Mo_bases) (Rt : RetI x .int post 0 0) {k30 : Nat → Int32 → Int32 → Int32 → Int32 → Mem → Prop} (K30 : ∀ (a0 : Nat) (x1 : Int32) (x2 : Int32) (x3 : Int32) (x4 : Int32) (M : Mem), k30 a0 x1 x2 x3 x4 M → J x 8 30 [(0, .ref (xd x a0)), (1, .int x1), (2, .int x2), (3, .int x3), (4, .int x4)] [] 0 0 M) {k50 : Nat → Int32 → Int32 → Int32 → Int32 → Int32 → Mem → Prop} (K50 : ∀ (a0 : Nat) (x1 : Int32) (x2 : Int32) (x3 : Int32) (x4 : Int32) (x5 : Int32) (M : Mem), k50 a0 x1 x2 x3 x4 x5 M → J x 8 50 [(0, .ref (xd x a0)), (1, .int x1), (2, .int x2), (3, .int x3), (4, .int x4), (5, .int x5)] [] 0 0 M) (a0 : Nat) (x1 : Int32) (x2 : Int32) (x3 : Int32) (x4 : Int32) (x5 : Int32) (M : Mem) (h : B_Mo_bases_210 k30 k50 post a0 x1 x2 x3 x4 x5 M) : J x 8 210 [(0, .ref (xd x a0)), (1, .int x1), (2, .int x2), (3, .int x3), (4, .int x4), (5, .int x5)] [] 0 0 M := by
  unfold B_Mo_bases_210 at h
  refine J_iinc (v := x3 + 1) (lv' := [(3, .int (x3 + 1)), (0, .ref (xd x a0)), (1, .int x1), (2, .int x2), (4, .int x4), (5, .int x5)]) C 3 3 D_Mo_bases_210 rfl rfl (by decide) rfl ?_
  exact J_sub [1, 2, 3, 0, 4, 5] rfl (Z_Mo_bases_213 C hR Rt K30 K50 _ _ _ _ _ _ _ h)
def B_Mo_bases_170 (k30 : Nat → Int32 → Int32 → Int32 → Int32 → Mem → Prop) (k50 : Nat → Int32 → Int32 → Int32 → Int32 → Int32 → Mem → Prop) (k170 : Nat → Int32 → Int32 → Int32 → Int32 → Int32 → Int32 → Mem → Prop) (post : Int32 → Mem → Prop) (a0 : Nat) (x1 : Int32) (x2 : Int32) (x3 : Int32) (x4 : Int32) (x5 : Int32) (x7 : Int32) (M : Mem) : Prop := (isK M a0 7 ∧ ((gI M a0 8) ≤ x7 → (B_Mo_bases_210 k30 k50 post a0 x1 x2 x3 x4 x5 M)) ∧ (¬ (gI M a0 8) ≤ x7 → (isK M a0 7 ∧ ∃ q182, gR M a0 6 = some q182 ∧ isA M q182 8 x7 ∧ isK M a0 7 ∧ ∃ q189, gR M a0 9 = some q189 ∧ isA M q189 8 ((66 * x5) + x7) ∧ isK M a0 7 ∧ T_Mo_put a0 0 (gI M q182 (Int32.toNatClampNeg x7)) (gI M q189 (Int32.toNatClampNeg ((66 * x5) + x7))) M (fun M201 => k170 a0 x1 x2 x3 x4 x5 (x7 + 1) M201))))
set_option maxRecDepth 20000 in
theorem Z_Mo_bases_170 {x : Ctx} {post : Int32 → Mem → Prop} (C : Ok x b_Mo_bases 8 "HeapTowerModel") (hR : xR x = rm_Mo_bases) (Rt : RetI x .int post 0 0) {k30 : Nat → Int32 → Int32 → Int32 → Int32 → Mem → Prop} (K30 : ∀ (a0 : Nat) (x1 : Int32) (x2 : Int32) (x3 : Int32) (x4 : Int32) (M : Mem), k30 a0 x1 x2 x3 x4 M → J x 8 30 [(0, .ref (xd x a0)), (1, .int x1), (2, .int x2), (3, .int x3), (4, .int x4)] [] 0 0 M) {k50 : Nat → Int32 → Int32 → Int32 → Int32 → Int32 → Mem → Prop} (K50 : ∀ (a0 : Nat) (x1 : Int32) (x2 : Int32) (x3 : Int32) (x4 : Int32) (x5 : Int32) (M : Mem), k50 a0 x1 x2 x3 x4 x5 M → J x 8 50 [(0, .ref (xd x a0)), (1, .int x1), (2, .int x2), (3, .int x3), (4, .int x4), (5, .int x5)] [] 0 0 M) {k170 : Nat → Int32 → Int32 → Int32 → Int32 → Int32 → Int32 → Mem → Prop} (K170 : ∀ (a0 : Nat) (x1 : Int32) (x2 : Int32) (x3 : Int32) (x4 : Int32) (x5 : Int32) (x7 : Int32) (M : Mem), k170 a0 x1 x2 x3 x4 x5 x7 M → J x 8 170 [(0, .ref (xd x a0)), (1, .int x1), (2, .int x2), (3, .int x3), (4, .int x4), (5, .int x5), (7, .int x7)] [] 0 0 M) (a0 : Nat) (x1 : Int32) (x2 : Int32) (x3 : Int32) (x4 : Int32) (x5 : Int32) (x7 : Int32) (M : Mem) (h : B_Mo_bases_170 k30 k50 k170 post a0 x1 x2 x3 x4 x5 x7 M) : J x 8 170 [(0, .ref (xd x a0)), (1, .int x1), (2, .int x2), (3, .int x3), (4, .int x4), (5, .int x5), (7, .int x7)] [] 0 0 M := by
  unfold B_Mo_bases_170 at h
  refine J_iload C 7 D_Mo_bases_170 rfl ?_
  refine J_aload_n C 0 D_Mo_bases_172 rfl rfl ?_
  obtain ⟨c_173, h⟩ := h
  refine J_getI C fl_Mo_115 D_Mo_bases_173 c_173 ?_
  refine J_icmp_ge (tgt := 210) C D_Mo_bases_176 (by decide) (fun c_176 => ?_) (fun c_176 => ?_)
  · have h := h.1 c_176
    exact J_sub [0, 1, 2, 3, 4, 5] rfl (Z_Mo_bases_210 C hR Rt K30 K50 _ _ _ _ _ _ _ h)
  · have h := h.2 c_176
    refine J_aload_n C 0 D_Mo_bases_179 rfl rfl ?_
    refine J_iconst (v := 0) C D_Mo_bases_180 rfl ?_
    refine J_aload_n C 0 D_Mo_bases_181 rfl rfl ?_
    obtain ⟨c_182, q182, e_182, h⟩ := h
    refine J_getR C fl_Mo_20 D_Mo_bases_182 c_182 e_182 ?_
    refine J_iload C 7 D_Mo_bases_185 rfl ?_
    obtain ⟨c_187, h⟩ := h
    refine J_iald C D_Mo_bases_187 c_187 ?_
    refine J_aload_n C 0 D_Mo_bases_188 rfl rfl ?_
    obtain ⟨c_189, q189, e_189, h⟩ := h
    refine J_getR C fl_Mo_26 D_Mo_bases_189 c_189 e_189 ?_
    refine J_bipush (v := 66) C D_Mo_bases_192 rfl ?_
    refine J_iload C 5 D_Mo_bases_194 rfl ?_
    refine J_imul C D_Mo_bases_196 ?_
    refine J_iload C 7 D_Mo_bases_197 rfl ?_
    refine J_iadd C D_Mo_bases_199 ?_
    obtain ⟨c_200, h⟩ := h
    refine J_iald C D_Mo_bases_200 c_200 ?_
    obtain ⟨c_201, h⟩ := h
    refine J_callVv C ml_Mo_65 (S_Mo_put _ _ _ _ _ _ h) (by rw [hR]; decide) rfl c_201 rfl (Nat.le_of_ble_eq_true rfl) D_Mo_bases_201 (fun M201 h => ?_)
    refine J_iinc (v := x7 + 1) (lv' := [(7, .int (x7 + 1)), (0, .ref (xd x a0)), (1, .int x1), (2, .int x2), (3, .int x3), (4, .int x4), (5, .int x5)]) C 7 6 D_Mo_bases_204 rfl rfl (by decide) rfl ?_
    refine J_goto (tgt := 170) C D_Mo_bases_207 (by decide) ?_
    exact J_sub [1, 2, 3, 4, 5, 6, 0] rfl (K170 _ _ _ _ _ _ _ _ h)
def L_Mo_bases_170 (k30 : Nat → Int32 → Int32 → Int32 → Int32 → Mem → Prop) (k50 : Nat → Int32 → Int32 → Int32 → Int32 → Int32 → Mem → Prop) (post : Int32 → Mem → Prop) : Nat → Nat → Int32 → Int32 → Int32 → Int32 → Int32 → Int32 → Mem → Prop
  | 0, _, _, _, _, _, _, _, _ => False
  | n + 1, a0, x1, x2, x3, x4, x5, x7, M => B_Mo_bases_170 k30 k50 (L_Mo_bases_170 k30 k50 post n) post a0 x1 x2 x3 x4 x5 x7 M
theorem Y_Mo_bases_170 {x : Ctx} {post : Int32 → Mem → Prop} (C : Ok x b_Mo_bases 8 "HeapTowerModel") (hR : xR x = rm_Mo_bases) (Rt : RetI x .int post 0 0) {k30 : Nat → Int32 → Int32 → Int32 → Int32 → Mem → Prop} (K30 : ∀ (a0 : Nat) (x1 : Int32) (x2 : Int32) (x3 : Int32) (x4 : Int32) (M : Mem), k30 a0 x1 x2 x3 x4 M → J x 8 30 [(0, .ref (xd x a0)), (1, .int x1), (2, .int x2), (3, .int x3), (4, .int x4)] [] 0 0 M) {k50 : Nat → Int32 → Int32 → Int32 → Int32 → Int32 → Mem → Prop} (K50 : ∀ (a0 : Nat) (x1 : Int32) (x2 : Int32) (x3 : Int32) (x4 : Int32) (x5 : Int32) (M : Mem), k50 a0 x1 x2 x3 x4 x5 M → J x 8 50 [(0, .ref (xd x a0)), (1, .int x1), (2, .int x2), (3, .int x3), (4, .int x4), (5, .int x5)] [] 0 0 M) : ∀ (n : Nat) (a0 : Nat) (x1 : Int32) (x2 : Int32) (x3 : Int32) (x4 : Int32) (x5 : Int32) (x7 : Int32) (M : Mem), L_Mo_bases_170 k30 k50 post n a0 x1 x2 x3 x4 x5 x7 M → J x 8 170 [(0, .ref (xd x a0)), (1, .int x1), (2, .int x2), (3, .int x3), (4, .int x4), (5, .int x5), (7, .int x7)] [] 0 0 M := by
  intro n
  induction n with
  | zero => intro a0 x1 x2 x3 x4 x5 x7 M h; exact h.elim
  | succ n ih => intro a0 x1 x2 x3 x4 x5 x7 M h; exact Z_Mo_bases_170 C hR Rt K30 K50 ih _ _ _ _ _ _ _ _ h
def B_Mo_bases_136 (k30 : Nat → Int32 → Int32 → Int32 → Int32 → Mem → Prop) (k50 : Nat → Int32 → Int32 → Int32 → Int32 → Int32 → Mem → Prop) (post : Int32 → Mem → Prop) (a0 : Nat) (x1 : Int32) (x2 : Int32) (x3 : Int32) (x4 : Int32) (x5 : Int32) (x6 : Int32) (M : Mem) : Prop := (isK M a0 7 ∧ ∃ q137, gR M a0 13 = some q137 ∧ isK M a0 7 ∧ ∃ q141, gR M a0 6 = some q141 ∧ isA M q141 8 x5 ∧ isA M q137 9 (gI M q141 (Int32.toNatClampNeg x5)) ∧ (¬ x6 = 0 → ((¬ x3 = x2 → (B_Mo_bases_210 k30 k50 post a0 x1 x2 x3 x4 x5 (sI M q137 (Int32.toNatClampNeg (gI M q141 (Int32.toNatClampNeg x5))) (vp_nar .boolean 1)))) ∧ (x3 = x2 → (isK (sI M q137 (Int32.toNatClampNeg (gI M q141 (Int32.toNatClampNeg x5))) (vp_nar .boolean 1)) a0 7 ∧ T_Mo_clear a0 0 (sI M q137 (Int32.toNatClampNeg (gI M q141 (Int32.toNatClampNeg x5))) (vp_nar .boolean 1)) (fun M164 => ∃ n, L_Mo_bases_170 k30 k50 post n a0 x1 x2 x3 x4 x5 0 M164))))) ∧ (x6 = 0 → (B_Mo_bases_213 k30 k50 post a0 x1 x2 x3 x4 x5 (sI M q137 (Int32.toNatClampNeg (gI M q141 (Int32.toNatClampNeg x5))) (vp_nar .boolean 1)))))
set_option maxRecDepth 20000 in
theorem Z_Mo_bases_136 {x : Ctx} {post : Int32 → Mem → Prop} (C : Ok x b_Mo_bases 8 "HeapTowerModel") (hR : xR x = rm_Mo_bases) (Rt : RetI x .int post 0 0) {k30 : Nat → Int32 → Int32 → Int32 → Int32 → Mem → Prop} (K30 : ∀ (a0 : Nat) (x1 : Int32) (x2 : Int32) (x3 : Int32) (x4 : Int32) (M : Mem), k30 a0 x1 x2 x3 x4 M → J x 8 30 [(0, .ref (xd x a0)), (1, .int x1), (2, .int x2), (3, .int x3), (4, .int x4)] [] 0 0 M) {k50 : Nat → Int32 → Int32 → Int32 → Int32 → Int32 → Mem → Prop} (K50 : ∀ (a0 : Nat) (x1 : Int32) (x2 : Int32) (x3 : Int32) (x4 : Int32) (x5 : Int32) (M : Mem), k50 a0 x1 x2 x3 x4 x5 M → J x 8 50 [(0, .ref (xd x a0)), (1, .int x1), (2, .int x2), (3, .int x3), (4, .int x4), (5, .int x5)] [] 0 0 M) (a0 : Nat) (x1 : Int32) (x2 : Int32) (x3 : Int32) (x4 : Int32) (x5 : Int32) (x6 : Int32) (M : Mem) (h : B_Mo_bases_136 k30 k50 post a0 x1 x2 x3 x4 x5 x6 M) : J x 8 136 [(0, .ref (xd x a0)), (1, .int x1), (2, .int x2), (3, .int x3), (4, .int x4), (5, .int x5), (6, .int x6)] [] 0 0 M := by
  unfold B_Mo_bases_136 at h
  refine J_aload_n C 0 D_Mo_bases_136 rfl rfl ?_
  obtain ⟨c_137, q137, e_137, h⟩ := h
  refine J_getR C fl_Mo_36 D_Mo_bases_137 c_137 e_137 ?_
  refine J_aload_n C 0 D_Mo_bases_140 rfl rfl ?_
  obtain ⟨c_141, q141, e_141, h⟩ := h
  refine J_getR C fl_Mo_20 D_Mo_bases_141 c_141 e_141 ?_
  refine J_iload C 5 D_Mo_bases_144 rfl ?_
  obtain ⟨c_146, h⟩ := h
  refine J_iald C D_Mo_bases_146 c_146 ?_
  refine J_iconst (v := 1) C D_Mo_bases_147 rfl ?_
  obtain ⟨c_148, h⟩ := h
  refine J_zast C D_Mo_bases_148 c_148 ?_
  refine J_iload C 6 D_Mo_bases_149 rfl ?_
  refine J_if_ne (tgt := 157) C D_Mo_bases_151 (by decide) (fun c_151 => ?_) (fun c_151 => ?_)
  · have h := h.1 c_151
    refine J_iload_n C 3 D_Mo_bases_157 rfl rfl ?_
    refine J_iload_n C 2 D_Mo_bases_158 rfl rfl ?_
    refine J_icmp_ne (tgt := 210) C D_Mo_bases_159 (by decide) (fun c_159 => ?_) (fun c_159 => ?_)
    · have h := h.1 c_159
      exact J_sub [0, 1, 2, 3, 4, 5] rfl (Z_Mo_bases_210 C hR Rt K30 K50 _ _ _ _ _ _ _ h)
    · have h := h.2 c_159
      refine J_aload_n C 0 D_Mo_bases_162 rfl rfl ?_
      refine J_iconst (v := 0) C D_Mo_bases_163 rfl ?_
      obtain ⟨c_164, h⟩ := h
      refine J_callVv C ml_Mo_90 (S_Mo_clear _ _ _ _ h) (by rw [hR]; decide) rfl c_164 rfl (Nat.le_of_ble_eq_true rfl) D_Mo_bases_164 (fun M164 h => ?_)
      refine J_iconst (v := 0) C D_Mo_bases_167 rfl ?_
      refine J_istore (lv' := [(7, .int 0), (0, .ref (xd x a0)), (1, .int x1), (2, .int x2), (3, .int x3), (4, .int x4), (5, .int x5), (6, .int x6)]) C 7 D_Mo_bases_168 (by decide) rfl ?_
      obtain ⟨n, h⟩ := h
      exact J_sub [1, 2, 3, 4, 5, 6, 0] rfl (Y_Mo_bases_170 C hR Rt K30 K50 n _ _ _ _ _ _ _ _ h)
  · have h := h.2 c_151
    refine J_goto (tgt := 213) C D_Mo_bases_154 (by decide) ?_
    exact J_sub [0, 1, 2, 3, 4, 5] rfl (Z_Mo_bases_213 C hR Rt K30 K50 _ _ _ _ _ _ _ h)
def B_Mo_bases_128 (k30 : Nat → Int32 → Int32 → Int32 → Int32 → Mem → Prop) (k50 : Nat → Int32 → Int32 → Int32 → Int32 → Int32 → Mem → Prop) (k74 : Nat → Int32 → Int32 → Int32 → Int32 → Int32 → Int32 → Int32 → Mem → Prop) (post : Int32 → Mem → Prop) (a0 : Nat) (x1 : Int32) (x2 : Int32) (x3 : Int32) (x4 : Int32) (x5 : Int32) (x7 : Int32) (s0 : Int32) (M : Mem) : Prop := (k74 a0 x1 x2 x3 x4 x5 s0 (x7 + 1) M)
set_option maxRecDepth 20000 in
theorem Z_Mo_bases_128 {x : Ctx} {post : Int32 → Mem → Prop} (C : Ok x b_Mo_bases 8 "HeapTowerModel") (hR : xR x = rm_Mo_bases) (Rt : RetI x .int post 0 0) {k30 : Nat → Int32 → Int32 → Int32 → Int32 → Mem → Prop} (K30 : ∀ (a0 : Nat) (x1 : Int32) (x2 : Int32) (x3 : Int32) (x4 : Int32) (M : Mem), k30 a0 x1 x2 x3 x4 M → J x 8 30 [(0, .ref (xd x a0)), (1, .int x1), (2, .int x2), (3, .int x3), (4, .int x4)] [] 0 0 M) {k50 : Nat → Int32 → Int32 → Int32 → Int32 → Int32 → Mem → Prop} (K50 : ∀ (a0 : Nat) (x1 : Int32) (x2 : Int32) (x3 : Int32) (x4 : Int32) (x5 : Int32) (M : Mem), k50 a0 x1 x2 x3 x4 x5 M → J x 8 50 [(0, .ref (xd x a0)), (1, .int x1), (2, .int x2), (3, .int x3), (4, .int x4), (5, .int x5)] [] 0 0 M) {k74 : Nat → Int32 → Int32 → Int32 → Int32 → Int32 → Int32 → Int32 → Mem → Prop} (K74 : ∀ (a0 : Nat) (x1 : Int32) (x2 : Int32) (x3 : Int32) (x4 : Int32) (x5 : Int32) (x6 : Int32) (x7 : Int32) (M : Mem), k74 a0 x1 x2 x3 x4 x5 x6 x7 M → J x 8 74 [(0, .ref (xd x a0)), (1, .int x1), (2, .int x2), (3, .int x3), (4, .int x4), (5, .int x5), (6, .int x6), (7, .int x7)] [] 0 0 M) (a0 : Nat) (x1 : Int32) (x2 : Int32) (x3 : Int32) (x4 : Int32) (x5 : Int32) (x7 : Int32) (s0 : Int32) (M : Mem) (h : B_Mo_bases_128 k30 k50 k74 post a0 x1 x2 x3 x4 x5 x7 s0 M) : J x 8 128 [(0, .ref (xd x a0)), (1, .int x1), (2, .int x2), (3, .int x3), (4, .int x4), (5, .int x5), (7, .int x7)] [.int s0] 0 0 M := by
  unfold B_Mo_bases_128 at h
  refine J_istore (lv' := [(6, .int s0), (0, .ref (xd x a0)), (1, .int x1), (2, .int x2), (3, .int x3), (4, .int x4), (5, .int x5), (7, .int x7)]) C 6 D_Mo_bases_128 (by decide) rfl ?_
  refine J_iinc (v := x7 + 1) (lv' := [(7, .int (x7 + 1)), (6, .int s0), (0, .ref (xd x a0)), (1, .int x1), (2, .int x2), (3, .int x3), (4, .int x4), (5, .int x5)]) C 7 7 D_Mo_bases_130 rfl rfl (by decide) rfl ?_
  refine J_goto (tgt := 74) C D_Mo_bases_133 (by decide) ?_
  exact J_sub [2, 3, 4, 5, 6, 7, 1, 0] rfl (K74 _ _ _ _ _ _ _ _ _ h)
def B_Mo_bases_123 (k30 : Nat → Int32 → Int32 → Int32 → Int32 → Mem → Prop) (k50 : Nat → Int32 → Int32 → Int32 → Int32 → Int32 → Mem → Prop) (k74 : Nat → Int32 → Int32 → Int32 → Int32 → Int32 → Int32 → Int32 → Mem → Prop) (post : Int32 → Mem → Prop) (a0 : Nat) (x1 : Int32) (x2 : Int32) (x3 : Int32) (x4 : Int32) (x5 : Int32) (x7 : Int32) (M : Mem) : Prop := (B_Mo_bases_128 k30 k50 k74 post a0 x1 x2 x3 x4 x5 x7 1 M)
set_option maxRecDepth 20000 in
theorem Z_Mo_bases_123 {x : Ctx} {post : Int32 → Mem → Prop} (C : Ok x b_Mo_bases 8 "HeapTowerModel") (hR : xR x = rm_Mo_bases) (Rt : RetI x .int post 0 0) {k30 : Nat → Int32 → Int32 → Int32 → Int32 → Mem → Prop} (K30 : ∀ (a0 : Nat) (x1 : Int32) (x2 : Int32) (x3 : Int32) (x4 : Int32) (M : Mem), k30 a0 x1 x2 x3 x4 M → J x 8 30 [(0, .ref (xd x a0)), (1, .int x1), (2, .int x2), (3, .int x3), (4, .int x4)] [] 0 0 M) {k50 : Nat → Int32 → Int32 → Int32 → Int32 → Int32 → Mem → Prop} (K50 : ∀ (a0 : Nat) (x1 : Int32) (x2 : Int32) (x3 : Int32) (x4 : Int32) (x5 : Int32) (M : Mem), k50 a0 x1 x2 x3 x4 x5 M → J x 8 50 [(0, .ref (xd x a0)), (1, .int x1), (2, .int x2), (3, .int x3), (4, .int x4), (5, .int x5)] [] 0 0 M) {k74 : Nat → Int32 → Int32 → Int32 → Int32 → Int32 → Int32 → Int32 → Mem → Prop} (K74 : ∀ (a0 : Nat) (x1 : Int32) (x2 : Int32) (x3 : Int32) (x4 : Int32) (x5 : Int32) (x6 : Int32) (x7 : Int32) (M : Mem), k74 a0 x1 x2 x3 x4 x5 x6 x7 M → J x 8 74 [(0, .ref (xd x a0)), (1, .int x1), (2, .int x2), (3, .int x3), (4, .int x4), (5, .int x5), (6, .int x6), (7, .int x7)] [] 0 0 M) (a0 : Nat) (x1 : Int32) (x2 : Int32) (x3 : Int32) (x4 : Int32) (x5 : Int32) (x7 : Int32) (M : Mem) (h : B_Mo_bases_123 k30 k50 k74 post a0 x1 x2 x3 x4 x5 x7 M) : J x 8 123 [(0, .ref (xd x a0)), (1, .int x1), (2, .int x2), (3, .int x3), (4, .int x4), (5, .int x5), (7, .int x7)] [] 0 0 M := by
  unfold B_Mo_bases_123 at h
  refine J_iconst (v := 1) C D_Mo_bases_123 rfl ?_
  refine J_goto (tgt := 128) C D_Mo_bases_124 (by decide) ?_
  exact J_sub [0, 1, 2, 3, 4, 5, 6] rfl (Z_Mo_bases_128 C hR Rt K30 K50 K74 _ _ _ _ _ _ _ _ _ h)
def B_Mo_bases_74 (k30 : Nat → Int32 → Int32 → Int32 → Int32 → Mem → Prop) (k50 : Nat → Int32 → Int32 → Int32 → Int32 → Int32 → Mem → Prop) (k74 : Nat → Int32 → Int32 → Int32 → Int32 → Int32 → Int32 → Int32 → Mem → Prop) (post : Int32 → Mem → Prop) (a0 : Nat) (x1 : Int32) (x2 : Int32) (x3 : Int32) (x4 : Int32) (x5 : Int32) (x6 : Int32) (x7 : Int32) (M : Mem) : Prop := ((1331 ≤ x7 → (B_Mo_bases_136 k30 k50 post a0 x1 x2 x3 x4 x5 x6 M)) ∧ (¬ 1331 ≤ x7 → ((x6 = 0 → (B_Mo_bases_136 k30 k50 post a0 x1 x2 x3 x4 x5 x6 M)) ∧ (¬ x6 = 0 → (isK M a0 7 ∧ ∃ q88, gR M a0 13 = some q88 ∧ isA M q88 9 x7 ∧ ((gI M q88 (Int32.toNatClampNeg x7)) = 0 → (B_Mo_bases_123 k30 k50 k74 post a0 x1 x2 x3 x4 x5 x7 M)) ∧ (¬ (gI M q88 (Int32.toNatClampNeg x7)) = 0 → (T_Mo_degreeOf x7 M (fun r99 M99 => (r99 = x4 → (B_Mo_bases_123 k30 k50 k74 post a0 x1 x2 x3 x4 x5 x7 M99)) ∧ (¬ r99 = x4 → (isK M99 a0 7 ∧ ∃ q111, gR M99 a0 6 = some q111 ∧ isA M99 q111 8 x5 ∧ isK M99 a0 7 ∧ T_Mo_divides a0 x7 (gI M99 q111 (Int32.toNatClampNeg x5)) M99 (fun r117 M117 => (¬ r117 = 0 → (B_Mo_bases_128 k30 k50 k74 post a0 x1 x2 x3 x4 x5 x7 0 M117)) ∧ (r117 = 0 → (B_Mo_bases_123 k30 k50 k74 post a0 x1 x2 x3 x4 x5 x7 M117)))))))))))))
set_option maxRecDepth 20000 in
theorem Z_Mo_bases_74 {x : Ctx} {post : Int32 → Mem → Prop} (C : Ok x b_Mo_bases 8 "HeapTowerModel") (hR : xR x = rm_Mo_bases) (Rt : RetI x .int post 0 0) {k30 : Nat → Int32 → Int32 → Int32 → Int32 → Mem → Prop} (K30 : ∀ (a0 : Nat) (x1 : Int32) (x2 : Int32) (x3 : Int32) (x4 : Int32) (M : Mem), k30 a0 x1 x2 x3 x4 M → J x 8 30 [(0, .ref (xd x a0)), (1, .int x1), (2, .int x2), (3, .int x3), (4, .int x4)] [] 0 0 M) {k50 : Nat → Int32 → Int32 → Int32 → Int32 → Int32 → Mem → Prop} (K50 : ∀ (a0 : Nat) (x1 : Int32) (x2 : Int32) (x3 : Int32) (x4 : Int32) (x5 : Int32) (M : Mem), k50 a0 x1 x2 x3 x4 x5 M → J x 8 50 [(0, .ref (xd x a0)), (1, .int x1), (2, .int x2), (3, .int x3), (4, .int x4), (5, .int x5)] [] 0 0 M) {k74 : Nat → Int32 → Int32 → Int32 → Int32 → Int32 → Int32 → Int32 → Mem → Prop} (K74 : ∀ (a0 : Nat) (x1 : Int32) (x2 : Int32) (x3 : Int32) (x4 : Int32) (x5 : Int32) (x6 : Int32) (x7 : Int32) (M : Mem), k74 a0 x1 x2 x3 x4 x5 x6 x7 M → J x 8 74 [(0, .ref (xd x a0)), (1, .int x1), (2, .int x2), (3, .int x3), (4, .int x4), (5, .int x5), (6, .int x6), (7, .int x7)] [] 0 0 M) (a0 : Nat) (x1 : Int32) (x2 : Int32) (x3 : Int32) (x4 : Int32) (x5 : Int32) (x6 : Int32) (x7 : Int32) (M : Mem) (h : B_Mo_bases_74 k30 k50 k74 post a0 x1 x2 x3 x4 x5 x6 x7 M) : J x 8 74 [(0, .ref (xd x a0)), (1, .int x1), (2, .int x2), (3, .int x3), (4, .int x4), (5, .int x5), (6, .int x6), (7, .int x7)] [] 0 0 M := by
  unfold B_Mo_bases_74 at h
  refine J_iload C 7 D_Mo_bases_74 rfl ?_
  refine J_sipush (v := 1331) C D_Mo_bases_76 rfl ?_
  refine J_icmp_ge (tgt := 136) C D_Mo_bases_79 (by decide) (fun c_79 => ?_) (fun c_79 => ?_)
  · have h := h.1 c_79
    exact J_sub [0, 1, 2, 3, 4, 5, 6] rfl (Z_Mo_bases_136 C hR Rt K30 K50 _ _ _ _ _ _ _ _ h)
  · have h := h.2 c_79
    refine J_iload C 6 D_Mo_bases_82 rfl ?_
    refine J_if_eq (tgt := 136) C D_Mo_bases_84 (by decide) (fun c_84 => ?_) (fun c_84 => ?_)
    · have h := h.1 c_84
      exact J_sub [0, 1, 2, 3, 4, 5, 6] rfl (Z_Mo_bases_136 C hR Rt K30 K50 _ _ _ _ _ _ _ _ h)
    · have h := h.2 c_84
      refine J_aload_n C 0 D_Mo_bases_87 rfl rfl ?_
      obtain ⟨c_88, q88, e_88, h⟩ := h
      refine J_getR C fl_Mo_36 D_Mo_bases_88 c_88 e_88 ?_
      refine J_iload C 7 D_Mo_bases_91 rfl ?_
      obtain ⟨c_93, h⟩ := h
      refine J_zald C D_Mo_bases_93 c_93 ?_
      refine J_if_eq (tgt := 123) C D_Mo_bases_94 (by decide) (fun c_94 => ?_) (fun c_94 => ?_)
      · have h := h.1 c_94
        exact J_sub [0, 1, 2, 3, 4, 5, 7] rfl (Z_Mo_bases_123 C hR Rt K30 K50 K74 _ _ _ _ _ _ _ _ h)
      · have h := h.2 c_94
        refine J_iload C 7 D_Mo_bases_97 rfl ?_
        refine J_callSi C ml_Mo_54 (S_Mo_degreeOf _ _ _ h) (by rw [hR]; decide) rfl rfl (Nat.le_of_ble_eq_true rfl) D_Mo_bases_99 (fun r99 M99 h => ?_)
        refine J_iload C 4 D_Mo_bases_102 rfl ?_
        refine J_icmp_eq (tgt := 123) C D_Mo_bases_104 (by decide) (fun c_104 => ?_) (fun c_104 => ?_)
        · have h := h.1 c_104
          exact J_sub [0, 1, 2, 3, 4, 5, 7] rfl (Z_Mo_bases_123 C hR Rt K30 K50 K74 _ _ _ _ _ _ _ _ h)
        · have h := h.2 c_104
          refine J_aload_n C 0 D_Mo_bases_107 rfl rfl ?_
          refine J_iload C 7 D_Mo_bases_108 rfl ?_
          refine J_aload_n C 0 D_Mo_bases_110 rfl rfl ?_
          obtain ⟨c_111, q111, e_111, h⟩ := h
          refine J_getR C fl_Mo_20 D_Mo_bases_111 c_111 e_111 ?_
          refine J_iload C 5 D_Mo_bases_114 rfl ?_
          obtain ⟨c_116, h⟩ := h
          refine J_iald C D_Mo_bases_116 c_116 ?_
          obtain ⟨c_117, h⟩ := h
          refine J_callVi C ml_Mo_142 (S_Mo_divides _ _ _ _ _ h) (by rw [hR]; decide) rfl c_117 rfl (Nat.le_of_ble_eq_true rfl) D_Mo_bases_117 (fun r117 M117 h => ?_)
          refine J_if_ne (tgt := 127) C D_Mo_bases_120 (by decide) (fun c_120 => ?_) (fun c_120 => ?_)
          · have h := h.1 c_120
            refine J_iconst (v := 0) C D_Mo_bases_127 rfl ?_
            exact J_sub [0, 1, 2, 3, 4, 5, 7] rfl (Z_Mo_bases_128 C hR Rt K30 K50 K74 _ _ _ _ _ _ _ _ _ h)
          · have h := h.2 c_120
            exact J_sub [0, 1, 2, 3, 4, 5, 7] rfl (Z_Mo_bases_123 C hR Rt K30 K50 K74 _ _ _ _ _ _ _ _ h)
def L_Mo_bases_74 (k30 : Nat → Int32 → Int32 → Int32 → Int32 → Mem → Prop) (k50 : Nat → Int32 → Int32 → Int32 → Int32 → Int32 → Mem → Prop) (post : Int32 → Mem → Prop) : Nat → Nat → Int32 → Int32 → Int32 → Int32 → Int32 → Int32 → Int32 → Mem → Prop
  | 0, _, _, _, _, _, _, _, _, _ => False
  | n + 1, a0, x1, x2, x3, x4, x5, x6, x7, M => B_Mo_bases_74 k30 k50 (L_Mo_bases_74 k30 k50 post n) post a0 x1 x2 x3 x4 x5 x6 x7 M
theorem Y_Mo_bases_74 {x : Ctx} {post : Int32 → Mem → Prop} (C : Ok x b_Mo_bases 8 "HeapTowerModel") (hR : xR x = rm_Mo_bases) (Rt : RetI x .int post 0 0) {k30 : Nat → Int32 → Int32 → Int32 → Int32 → Mem → Prop} (K30 : ∀ (a0 : Nat) (x1 : Int32) (x2 : Int32) (x3 : Int32) (x4 : Int32) (M : Mem), k30 a0 x1 x2 x3 x4 M → J x 8 30 [(0, .ref (xd x a0)), (1, .int x1), (2, .int x2), (3, .int x3), (4, .int x4)] [] 0 0 M) {k50 : Nat → Int32 → Int32 → Int32 → Int32 → Int32 → Mem → Prop} (K50 : ∀ (a0 : Nat) (x1 : Int32) (x2 : Int32) (x3 : Int32) (x4 : Int32) (x5 : Int32) (M : Mem), k50 a0 x1 x2 x3 x4 x5 M → J x 8 50 [(0, .ref (xd x a0)), (1, .int x1), (2, .int x2), (3, .int x3), (4, .int x4), (5, .int x5)] [] 0 0 M) : ∀ (n : Nat) (a0 : Nat) (x1 : Int32) (x2 : Int32) (x3 : Int32) (x4 : Int32) (x5 : Int32) (x6 : Int32) (x7 : Int32) (M : Mem), L_Mo_bases_74 k30 k50 post n a0 x1 x2 x3 x4 x5 x6 x7 M → J x 8 74 [(0, .ref (xd x a0)), (1, .int x1), (2, .int x2), (3, .int x3), (4, .int x4), (5, .int x5), (6, .int x6), (7, .int x7)] [] 0 0 M := by
  intro n
  induction n with
  | zero => intro a0 x1 x2 x3 x4 x5 x6 x7 M h; exact h.elim
  | succ n ih => intro a0 x1 x2 x3 x4 x5 x6 x7 M h; exact Z_Mo_bases_74 C hR Rt K30 K50 ih _ _ _ _ _ _ _ _ _ h
def B_Mo_bases_50 (k30 : Nat → Int32 → Int32 → Int32 → Int32 → Mem → Prop) (k50 : Nat → Int32 → Int32 → Int32 → Int32 → Int32 → Mem → Prop) (post : Int32 → Mem → Prop) (a0 : Nat) (x1 : Int32) (x2 : Int32) (x3 : Int32) (x4 : Int32) (x5 : Int32) (M : Mem) : Prop := ((x5 < 0 → (k30 a0 x1 x2 x3 (x4 + 1) M)) ∧ (¬ x5 < 0 → (isK M a0 7 ∧ ∃ q56, gR M a0 11 = some q56 ∧ isA M q56 9 x5 ∧ (¬ (gI M q56 (Int32.toNatClampNeg x5)) = 0 → (∃ n, L_Mo_bases_74 k30 k50 post n a0 x1 x2 x3 x4 x5 1 0 M)) ∧ ((gI M q56 (Int32.toNatClampNeg x5)) = 0 → (B_Mo_bases_213 k30 k50 post a0 x1 x2 x3 x4 x5 M)))))
set_option maxRecDepth 20000 in
theorem Z_Mo_bases_50 {x : Ctx} {post : Int32 → Mem → Prop} (C : Ok x b_Mo_bases 8 "HeapTowerModel") (hR : xR x = rm_Mo_bases) (Rt : RetI x .int post 0 0) {k30 : Nat → Int32 → Int32 → Int32 → Int32 → Mem → Prop} (K30 : ∀ (a0 : Nat) (x1 : Int32) (x2 : Int32) (x3 : Int32) (x4 : Int32) (M : Mem), k30 a0 x1 x2 x3 x4 M → J x 8 30 [(0, .ref (xd x a0)), (1, .int x1), (2, .int x2), (3, .int x3), (4, .int x4)] [] 0 0 M) {k50 : Nat → Int32 → Int32 → Int32 → Int32 → Int32 → Mem → Prop} (K50 : ∀ (a0 : Nat) (x1 : Int32) (x2 : Int32) (x3 : Int32) (x4 : Int32) (x5 : Int32) (M : Mem), k50 a0 x1 x2 x3 x4 x5 M → J x 8 50 [(0, .ref (xd x a0)), (1, .int x1), (2, .int x2), (3, .int x3), (4, .int x4), (5, .int x5)] [] 0 0 M) (a0 : Nat) (x1 : Int32) (x2 : Int32) (x3 : Int32) (x4 : Int32) (x5 : Int32) (M : Mem) (h : B_Mo_bases_50 k30 k50 post a0 x1 x2 x3 x4 x5 M) : J x 8 50 [(0, .ref (xd x a0)), (1, .int x1), (2, .int x2), (3, .int x3), (4, .int x4), (5, .int x5)] [] 0 0 M := by
  unfold B_Mo_bases_50 at h
  refine J_iload C 5 D_Mo_bases_50 rfl ?_
  refine J_if_lt (tgt := 219) C D_Mo_bases_52 (by decide) (fun c_52 => ?_) (fun c_52 => ?_)
  · have h := h.1 c_52
    refine J_iinc (v := x4 + 1) (lv' := [(4, .int (x4 + 1)), (0, .ref (xd x a0)), (1, .int x1), (2, .int x2), (3, .int x3), (5, .int x5)]) C 4 4 D_Mo_bases_219 rfl rfl (by decide) rfl ?_
    refine J_goto (tgt := 30) C D_Mo_bases_222 (by decide) ?_
    exact J_sub [1, 2, 3, 4, 0] rfl (K30 _ _ _ _ _ _ h)
  · have h := h.2 c_52
    refine J_aload_n C 0 D_Mo_bases_55 rfl rfl ?_
    obtain ⟨c_56, q56, e_56, h⟩ := h
    refine J_getR C fl_Mo_32 D_Mo_bases_56 c_56 e_56 ?_
    refine J_iload C 5 D_Mo_bases_59 rfl ?_
    obtain ⟨c_61, h⟩ := h
    refine J_zald C D_Mo_bases_61 c_61 ?_
    refine J_if_ne (tgt := 68) C D_Mo_bases_62 (by decide) (fun c_62 => ?_) (fun c_62 => ?_)
    · have h := h.1 c_62
      refine J_iconst (v := 1) C D_Mo_bases_68 rfl ?_
      refine J_istore (lv' := [(6, .int 1), (0, .ref (xd x a0)), (1, .int x1), (2, .int x2), (3, .int x3), (4, .int x4), (5, .int x5)]) C 6 D_Mo_bases_69 (by decide) rfl ?_
      refine J_iconst (v := 0) C D_Mo_bases_71 rfl ?_
      refine J_istore (lv' := [(7, .int 0), (6, .int 1), (0, .ref (xd x a0)), (1, .int x1), (2, .int x2), (3, .int x3), (4, .int x4), (5, .int x5)]) C 7 D_Mo_bases_72 (by decide) rfl ?_
      obtain ⟨n, h⟩ := h
      exact J_sub [2, 3, 4, 5, 6, 7, 1, 0] rfl (Y_Mo_bases_74 C hR Rt K30 K50 n _ _ _ _ _ _ _ _ _ h)
    · have h := h.2 c_62
      refine J_goto (tgt := 213) C D_Mo_bases_65 (by decide) ?_
      exact J_sub [0, 1, 2, 3, 4, 5] rfl (Z_Mo_bases_213 C hR Rt K30 K50 _ _ _ _ _ _ _ h)
def L_Mo_bases_50 (k30 : Nat → Int32 → Int32 → Int32 → Int32 → Mem → Prop) (post : Int32 → Mem → Prop) : Nat → Nat → Int32 → Int32 → Int32 → Int32 → Int32 → Mem → Prop
  | 0, _, _, _, _, _, _, _ => False
  | n + 1, a0, x1, x2, x3, x4, x5, M => B_Mo_bases_50 k30 (L_Mo_bases_50 k30 post n) post a0 x1 x2 x3 x4 x5 M
theorem Y_Mo_bases_50 {x : Ctx} {post : Int32 → Mem → Prop} (C : Ok x b_Mo_bases 8 "HeapTowerModel") (hR : xR x = rm_Mo_bases) (Rt : RetI x .int post 0 0) {k30 : Nat → Int32 → Int32 → Int32 → Int32 → Mem → Prop} (K30 : ∀ (a0 : Nat) (x1 : Int32) (x2 : Int32) (x3 : Int32) (x4 : Int32) (M : Mem), k30 a0 x1 x2 x3 x4 M → J x 8 30 [(0, .ref (xd x a0)), (1, .int x1), (2, .int x2), (3, .int x3), (4, .int x4)] [] 0 0 M) : ∀ (n : Nat) (a0 : Nat) (x1 : Int32) (x2 : Int32) (x3 : Int32) (x4 : Int32) (x5 : Int32) (M : Mem), L_Mo_bases_50 k30 post n a0 x1 x2 x3 x4 x5 M → J x 8 50 [(0, .ref (xd x a0)), (1, .int x1), (2, .int x2), (3, .int x3), (4, .int x4), (5, .int x5)] [] 0 0 M := by
  intro n
  induction n with
  | zero => intro a0 x1 x2 x3 x4 x5 M h; exact h.elim
  | succ n ih => intro a0 x1 x2 x3 x4 x5 M h; exact Z_Mo_bases_50 C hR Rt K30 ih _ _ _ _ _ _ _ h
def B_Mo_bases_30 (k30 : Nat → Int32 → Int32 → Int32 → Int32 → Mem → Prop) (post : Int32 → Mem → Prop) (a0 : Nat) (x1 : Int32) (x2 : Int32) (x3 : Int32) (x4 : Int32) (M : Mem) : Prop := ((x1 < x4 → (post x3 M)) ∧ (¬ x1 < x4 → (isK M a0 7 ∧ T_Mo_heap a0 x4 M (fun M39 => isK M39 a0 7 ∧ ∃ n, L_Mo_bases_50 k30 post n a0 x1 x2 x3 x4 ((gI M39 a0 8) - 1) M39))))
set_option maxRecDepth 20000 in
theorem Z_Mo_bases_30 {x : Ctx} {post : Int32 → Mem → Prop} (C : Ok x b_Mo_bases 8 "HeapTowerModel") (hR : xR x = rm_Mo_bases) (Rt : RetI x .int post 0 0) {k30 : Nat → Int32 → Int32 → Int32 → Int32 → Mem → Prop} (K30 : ∀ (a0 : Nat) (x1 : Int32) (x2 : Int32) (x3 : Int32) (x4 : Int32) (M : Mem), k30 a0 x1 x2 x3 x4 M → J x 8 30 [(0, .ref (xd x a0)), (1, .int x1), (2, .int x2), (3, .int x3), (4, .int x4)] [] 0 0 M) (a0 : Nat) (x1 : Int32) (x2 : Int32) (x3 : Int32) (x4 : Int32) (M : Mem) (h : B_Mo_bases_30 k30 post a0 x1 x2 x3 x4 M) : J x 8 30 [(0, .ref (xd x a0)), (1, .int x1), (2, .int x2), (3, .int x3), (4, .int x4)] [] 0 0 M := by
  unfold B_Mo_bases_30 at h
  refine J_iload C 4 D_Mo_bases_30 rfl ?_
  refine J_iload_n C 1 D_Mo_bases_32 rfl rfl ?_
  refine J_icmp_gt (tgt := 225) C D_Mo_bases_33 (by decide) (fun c_33 => ?_) (fun c_33 => ?_)
  · have h := h.1 c_33
    refine J_iload_n C 3 D_Mo_bases_225 rfl rfl ?_
    exact J_iret C Rt D_Mo_bases_226 rfl h
  · have h := h.2 c_33
    refine J_aload_n C 0 D_Mo_bases_36 rfl rfl ?_
    refine J_iload C 4 D_Mo_bases_37 rfl ?_
    obtain ⟨c_39, h⟩ := h
    refine J_callVv C ml_Mo_139 (S_Mo_heap _ _ _ _ h) (by rw [hR]; decide) rfl c_39 rfl (Nat.le_of_ble_eq_true rfl) D_Mo_bases_39 (fun M39 h => ?_)
    refine J_aload_n C 0 D_Mo_bases_42 rfl rfl ?_
    obtain ⟨c_43, h⟩ := h
    refine J_getI C fl_Mo_115 D_Mo_bases_43 c_43 ?_
    refine J_iconst (v := 1) C D_Mo_bases_46 rfl ?_
    refine J_isub C D_Mo_bases_47 ?_
    refine J_istore (lv' := [(5, .int ((gI M39 a0 8) - 1)), (0, .ref (xd x a0)), (1, .int x1), (2, .int x2), (3, .int x3), (4, .int x4)]) C 5 D_Mo_bases_48 (by decide) rfl ?_
    obtain ⟨n, h⟩ := h
    exact J_sub [1, 2, 3, 4, 5, 0] rfl (Y_Mo_bases_50 C hR Rt K30 n _ _ _ _ _ _ _ h)
def L_Mo_bases_30 (post : Int32 → Mem → Prop) : Nat → Nat → Int32 → Int32 → Int32 → Int32 → Mem → Prop
  | 0, _, _, _, _, _, _ => False
  | n + 1, a0, x1, x2, x3, x4, M => B_Mo_bases_30 (L_Mo_bases_30 post n) post a0 x1 x2 x3 x4 M
theorem Y_Mo_bases_30 {x : Ctx} {post : Int32 → Mem → Prop} (C : Ok x b_Mo_bases 8 "HeapTowerModel") (hR : xR x = rm_Mo_bases) (Rt : RetI x .int post 0 0) : ∀ (n : Nat) (a0 : Nat) (x1 : Int32) (x2 : Int32) (x3 : Int32) (x4 : Int32) (M : Mem), L_Mo_bases_30 post n a0 x1 x2 x3 x4 M → J x 8 30 [(0, .ref (xd x a0)), (1, .int x1), (2, .int x2), (3, .int x3), (4, .int x4)] [] 0 0 M := by
  intro n
  induction n with
  | zero => intro a0 x1 x2 x3 x4 M h; exact h.elim
  | succ n ih => intro a0 x1 x2 x3 x4 M h; exact Z_Mo_bases_30 C hR Rt ih _ _ _ _ _ _ h
def B_Mo_bases_5 (k5 : Nat → Int32 → Int32 → Int32 → Int32 → Mem → Prop) (post : Int32 → Mem → Prop) (a0 : Nat) (x1 : Int32) (x2 : Int32) (x3 : Int32) (x4 : Int32) (M : Mem) : Prop := ((1331 ≤ x4 → (∃ n, L_Mo_bases_30 post n a0 x1 x2 x3 0 M)) ∧ (¬ 1331 ≤ x4 → (isK M a0 7 ∧ ∃ q14, gR M a0 13 = some q14 ∧ isA M q14 9 x4 ∧ k5 a0 x1 x2 x3 (x4 + 1) (sI M q14 (Int32.toNatClampNeg x4) (vp_nar .boolean 0)))))
set_option maxRecDepth 20000 in
theorem Z_Mo_bases_5 {x : Ctx} {post : Int32 → Mem → Prop} (C : Ok x b_Mo_bases 8 "HeapTowerModel") (hR : xR x = rm_Mo_bases) (Rt : RetI x .int post 0 0) {k5 : Nat → Int32 → Int32 → Int32 → Int32 → Mem → Prop} (K5 : ∀ (a0 : Nat) (x1 : Int32) (x2 : Int32) (x3 : Int32) (x4 : Int32) (M : Mem), k5 a0 x1 x2 x3 x4 M → J x 8 5 [(0, .ref (xd x a0)), (1, .int x1), (2, .int x2), (3, .int x3), (4, .int x4)] [] 0 0 M) (a0 : Nat) (x1 : Int32) (x2 : Int32) (x3 : Int32) (x4 : Int32) (M : Mem) (h : B_Mo_bases_5 k5 post a0 x1 x2 x3 x4 M) : J x 8 5 [(0, .ref (xd x a0)), (1, .int x1), (2, .int x2), (3, .int x3), (4, .int x4)] [] 0 0 M := by
  unfold B_Mo_bases_5 at h
  refine J_iload C 4 D_Mo_bases_5 rfl ?_
  refine J_sipush (v := 1331) C D_Mo_bases_7 rfl ?_
  refine J_icmp_ge (tgt := 27) C D_Mo_bases_10 (by decide) (fun c_10 => ?_) (fun c_10 => ?_)
  · have h := h.1 c_10
    refine J_iconst (v := 0) C D_Mo_bases_27 rfl ?_
    refine J_istore (lv' := [(4, .int 0), (0, .ref (xd x a0)), (1, .int x1), (2, .int x2), (3, .int x3)]) C 4 D_Mo_bases_28 (by decide) rfl ?_
    obtain ⟨n, h⟩ := h
    exact J_sub [1, 2, 3, 4, 0] rfl (Y_Mo_bases_30 C hR Rt  n _ _ _ _ _ _ h)
  · have h := h.2 c_10
    refine J_aload_n C 0 D_Mo_bases_13 rfl rfl ?_
    obtain ⟨c_14, q14, e_14, h⟩ := h
    refine J_getR C fl_Mo_36 D_Mo_bases_14 c_14 e_14 ?_
    refine J_iload C 4 D_Mo_bases_17 rfl ?_
    refine J_iconst (v := 0) C D_Mo_bases_19 rfl ?_
    obtain ⟨c_20, h⟩ := h
    refine J_zast C D_Mo_bases_20 c_20 ?_
    refine J_iinc (v := x4 + 1) (lv' := [(4, .int (x4 + 1)), (0, .ref (xd x a0)), (1, .int x1), (2, .int x2), (3, .int x3)]) C 4 4 D_Mo_bases_21 rfl rfl (by decide) rfl ?_
    refine J_goto (tgt := 5) C D_Mo_bases_24 (by decide) ?_
    exact J_sub [1, 2, 3, 4, 0] rfl (K5 _ _ _ _ _ _ h)
def L_Mo_bases_5 (post : Int32 → Mem → Prop) : Nat → Nat → Int32 → Int32 → Int32 → Int32 → Mem → Prop
  | 0, _, _, _, _, _, _ => False
  | n + 1, a0, x1, x2, x3, x4, M => B_Mo_bases_5 (L_Mo_bases_5 post n) post a0 x1 x2 x3 x4 M
theorem Y_Mo_bases_5 {x : Ctx} {post : Int32 → Mem → Prop} (C : Ok x b_Mo_bases 8 "HeapTowerModel") (hR : xR x = rm_Mo_bases) (Rt : RetI x .int post 0 0) : ∀ (n : Nat) (a0 : Nat) (x1 : Int32) (x2 : Int32) (x3 : Int32) (x4 : Int32) (M : Mem), L_Mo_bases_5 post n a0 x1 x2 x3 x4 M → J x 8 5 [(0, .ref (xd x a0)), (1, .int x1), (2, .int x2), (3, .int x3), (4, .int x4)] [] 0 0 M := by
  intro n
  induction n with
  | zero => intro a0 x1 x2 x3 x4 M h; exact h.elim
  | succ n ih => intro a0 x1 x2 x3 x4 M h; exact Z_Mo_bases_5 C hR Rt ih _ _ _ _ _ _ h
def T_Mo_bases (a0 : Nat) (x1 : Int32) (x2 : Int32) (M : Mem) (post : Int32 → Mem → Prop) : Prop := (∃ n, L_Mo_bases_5 post n a0 x1 x2 0 0 M)
set_option maxRecDepth 20000 in
theorem S_Mo_bases {l : Launch} {D : va_G} {B t g : Nat} {d : Nat → Nat} {ac : Nat → ClassId}  (a0 : Nat) (x1 : Int32) (x2 : Int32) (M : Mem) (post : Int32 → Mem → Prop) (h : T_Mo_bases a0 x1 x2 M post) : Met l y_Mo_bases w_Mo_bases rm_Mo_bases (va_Pc [.ref (d a0), .int x1, .int x2] (PRE D B d g t ac M)) (QI D B d g ac post) 0 0 (AB B) := by
  refine met_i (by decide +kernel) (Nat.le_of_ble_eq_true rfl) (fun x h1 hR h3 h4 h5 h6 h7 h8 C Rt => ?_)
  subst h3 h4 h5 h6 h7 h8
  unfold T_Mo_bases at h
  show J x 8 0 [(0, .ref (xd x a0)), (1, .int x1), (2, .int x2)] [] 0 0 M
  refine J_iconst (v := 0) C D_Mo_bases_0 rfl ?_
  refine J_istore_n (lv' := [(3, .int 0), (0, .ref (xd x a0)), (1, .int x1), (2, .int x2)]) C 3 D_Mo_bases_1 rfl (by decide) rfl ?_
  refine J_iconst (v := 0) C D_Mo_bases_2 rfl ?_
  refine J_istore (lv' := [(4, .int 0), (3, .int 0), (0, .ref (xd x a0)), (1, .int x1), (2, .int x2)]) C 4 D_Mo_bases_3 (by decide) rfl ?_
  obtain ⟨n, h⟩ := h
  exact J_sub [2, 3, 4, 1, 0] rfl (Y_Mo_bases_5 C hR Rt  n _ _ _ _ _ _ h)
theorem D_Mo_base_0 : decode b_Mo_base 0 = .ok (.iload_n 1, 1) := by decide +kernel
theorem D_Mo_base_1 : decode b_Mo_base 1 = .ok (.iconst 1, 1) := by decide +kernel
theorem D_Mo_base_2 : decode b_Mo_base 2 = .ok (.bipush 10, 2) := by decide +kernel
theorem D_Mo_base_4 : decode b_Mo_base 4 = .ok (.invokestatic 75, 3) := by decide +kernel
theorem D_Mo_base_7 : decode b_Mo_base 7 = .ok (.ifCond .eq 12, 3) := by decide +kernel
theorem D_Mo_base_10 : decode b_Mo_base 10 = .ok (.aload_n 0, 1) := by decide +kernel
theorem D_Mo_base_11 : decode b_Mo_base 11 = .ok (.iload_n 1, 1) := by decide +kernel
theorem D_Mo_base_12 : decode b_Mo_base 12 = .ok (.iconst (-1), 1) := by decide +kernel
theorem D_Mo_base_13 : decode b_Mo_base 13 = .ok (.invokevirtual 145, 3) := by decide +kernel
theorem D_Mo_base_16 : decode b_Mo_base 16 = .ok (.goto 5, 3) := by decide +kernel
theorem D_Mo_base_19 : decode b_Mo_base 19 = .ok (.ldc 83, 2) := by decide +kernel
theorem D_Mo_base_21 : decode b_Mo_base 21 = .ok (.ireturn, 1) := by decide +kernel
abbrev rm_Mo_base : Room := { frames := 6, cells := 0, slots := 0, locals := 148 }
def B_Mo_base_21 (post : Int32 → Mem → Prop) (s0 : Int32) (M : Mem) : Prop := (post s0 M)
set_option maxRecDepth 20000 in
theorem Z_Mo_base_21 {x : Ctx} {post : Int32 → Mem → Prop} (C : Ok x b_Mo_base 2 "HeapTowerModel") (hR : xR x = rm_Mo_base) (Rt : RetI x .int post 0 0) (s0 : Int32) (M : Mem) (h : B_Mo_base_21 post s0 M) : J x 2 21 [] [.int s0] 0 0 M := by
  unfold B_Mo_base_21 at h
  exact J_iret C Rt D_Mo_base_21 rfl h
def T_Mo_base (a0 : Nat) (x1 : Int32) (M : Mem) (post : Int32 → Mem → Prop) : Prop := (T_Mo_in3 x1 1 10 M (fun r4 M4 => (r4 = 0 → (B_Mo_base_21 post ((-1000000)) M4)) ∧ (¬ r4 = 0 → (isK M4 a0 7 ∧ T_Mo_bases a0 x1 ((-1)) M4 (fun r13 M13 => B_Mo_base_21 post r13 M13)))))
set_option maxRecDepth 20000 in
theorem S_Mo_base {l : Launch} {D : va_G} {B t g : Nat} {d : Nat → Nat} {ac : Nat → ClassId}  (a0 : Nat) (x1 : Int32) (M : Mem) (post : Int32 → Mem → Prop) (h : T_Mo_base a0 x1 M post) : Met l y_Mo_base w_Mo_base rm_Mo_base (va_Pc [.ref (d a0), .int x1] (PRE D B d g t ac M)) (QI D B d g ac post) 0 0 (AB B) := by
  refine met_i (by decide +kernel) (Nat.le_of_ble_eq_true rfl) (fun x h1 hR h3 h4 h5 h6 h7 h8 C Rt => ?_)
  subst h3 h4 h5 h6 h7 h8
  unfold T_Mo_base at h
  show J x 2 0 [(0, .ref (xd x a0)), (1, .int x1)] [] 0 0 M
  refine J_iload_n C 1 D_Mo_base_0 rfl rfl ?_
  refine J_iconst (v := 1) C D_Mo_base_1 rfl ?_
  refine J_bipush (v := 10) C D_Mo_base_2 rfl ?_
  refine J_callSi C ml_Mo_75 (S_Mo_in3 _ _ _ _ _ h) (by rw [hR]; decide) rfl rfl (Nat.le_of_ble_eq_true rfl) D_Mo_base_4 (fun r4 M4 h => ?_)
  refine J_if_eq (tgt := 19) C D_Mo_base_7 (by decide) (fun c_7 => ?_) (fun c_7 => ?_)
  · have h := h.1 c_7
    refine J_ldc (v := (-1000000)) C D_Mo_base_19 kw_Mo_83 ?_
    exact J_sub [] rfl (Z_Mo_base_21 C hR Rt  _ _ h)
  · have h := h.2 c_7
    refine J_aload_n C 0 D_Mo_base_10 rfl rfl ?_
    refine J_iload_n C 1 D_Mo_base_11 rfl rfl ?_
    refine J_iconst (v := (-1)) C D_Mo_base_12 rfl ?_
    obtain ⟨c_13, h⟩ := h
    refine J_callVi C ml_Mo_145 (S_Mo_bases _ _ _ _ _ h) (by rw [hR]; decide) rfl c_13 rfl (Nat.le_of_ble_eq_true rfl) D_Mo_base_13 (fun r13 M13 h => ?_)
    refine J_goto (tgt := 21) C D_Mo_base_16 (by decide) ?_
    exact J_sub [] rfl (Z_Mo_base_21 C hR Rt  _ _ h)
theorem D_Mo_element_0 : decode b_Mo_element 0 = .ok (.iload_n 1, 1) := by decide +kernel
theorem D_Mo_element_1 : decode b_Mo_element 1 = .ok (.ifCond .lt 14, 3) := by decide +kernel
theorem D_Mo_element_4 : decode b_Mo_element 4 = .ok (.iload_n 1, 1) := by decide +kernel
theorem D_Mo_element_5 : decode b_Mo_element 5 = .ok (.aload_n 0, 1) := by decide +kernel
theorem D_Mo_element_6 : decode b_Mo_element 6 = .ok (.bipush 10, 2) := by decide +kernel
theorem D_Mo_element_8 : decode b_Mo_element 8 = .ok (.iconst (-1), 1) := by decide +kernel
theorem D_Mo_element_9 : decode b_Mo_element 9 = .ok (.invokevirtual 145, 3) := by decide +kernel
theorem D_Mo_element_12 : decode b_Mo_element 12 = .ok (.if_icmp .lt 6, 3) := by decide +kernel
theorem D_Mo_element_15 : decode b_Mo_element 15 = .ok (.ldc 83, 2) := by decide +kernel
theorem D_Mo_element_17 : decode b_Mo_element 17 = .ok (.ireturn, 1) := by decide +kernel
theorem D_Mo_element_18 : decode b_Mo_element 18 = .ok (.aload_n 0, 1) := by decide +kernel
theorem D_Mo_element_19 : decode b_Mo_element 19 = .ok (.bipush 10, 2) := by decide +kernel
theorem D_Mo_element_21 : decode b_Mo_element 21 = .ok (.iload_n 1, 1) := by decide +kernel
theorem D_Mo_element_22 : decode b_Mo_element 22 = .ok (.invokevirtual 145, 3) := by decide +kernel
theorem D_Mo_element_25 : decode b_Mo_element 25 = .ok (.istore_n 2, 1) := by decide +kernel
theorem D_Mo_element_26 : decode b_Mo_element 26 = .ok (.aload_n 0, 1) := by decide +kernel
theorem D_Mo_element_27 : decode b_Mo_element 27 = .ok (.iconst 0, 1) := by decide +kernel
theorem D_Mo_element_28 : decode b_Mo_element 28 = .ok (.invokevirtual 101, 3) := by decide +kernel
theorem D_Mo_element_31 : decode b_Mo_element 31 = .ok (.ireturn, 1) := by decide +kernel
abbrev rm_Mo_element : Room := { frames := 6, cells := 0, slots := 0, locals := 148 }
def B_Mo_element_15 (post : Int32 → Mem → Prop) (M : Mem) : Prop := (post ((-1000000)) M)
set_option maxRecDepth 20000 in
theorem Z_Mo_element_15 {x : Ctx} {post : Int32 → Mem → Prop} (C : Ok x b_Mo_element 3 "HeapTowerModel") (hR : xR x = rm_Mo_element) (Rt : RetI x .int post 0 0) (M : Mem) (h : B_Mo_element_15 post M) : J x 3 15 [] [] 0 0 M := by
  unfold B_Mo_element_15 at h
  refine J_ldc (v := (-1000000)) C D_Mo_element_15 kw_Mo_83 ?_
  exact J_iret C Rt D_Mo_element_17 rfl h
def T_Mo_element (a0 : Nat) (x1 : Int32) (M : Mem) (post : Int32 → Mem → Prop) : Prop := ((x1 < 0 → (B_Mo_element_15 post M)) ∧ (¬ x1 < 0 → (isK M a0 7 ∧ T_Mo_bases a0 10 ((-1)) M (fun r9 M9 => (x1 < r9 → (isK M9 a0 7 ∧ T_Mo_bases a0 10 x1 M9 (fun r22 M22 => isK M22 a0 7 ∧ T_Mo_products a0 0 M22 (fun r28 M28 => post r28 M28)))) ∧ (¬ x1 < r9 → (B_Mo_element_15 post M9))))))
set_option maxRecDepth 20000 in
theorem S_Mo_element {l : Launch} {D : va_G} {B t g : Nat} {d : Nat → Nat} {ac : Nat → ClassId}  (a0 : Nat) (x1 : Int32) (M : Mem) (post : Int32 → Mem → Prop) (h : T_Mo_element a0 x1 M post) : Met l y_Mo_element w_Mo_element rm_Mo_element (va_Pc [.ref (d a0), .int x1] (PRE D B d g t ac M)) (QI D B d g ac post) 0 0 (AB B) := by
  refine met_i (by decide +kernel) (Nat.le_of_ble_eq_true rfl) (fun x h1 hR h3 h4 h5 h6 h7 h8 C Rt => ?_)
  subst h3 h4 h5 h6 h7 h8
  unfold T_Mo_element at h
  show J x 3 0 [(0, .ref (xd x a0)), (1, .int x1)] [] 0 0 M
  refine J_iload_n C 1 D_Mo_element_0 rfl rfl ?_
  refine J_if_lt (tgt := 15) C D_Mo_element_1 (by decide) (fun c_1 => ?_) (fun c_1 => ?_)
  · have h := h.1 c_1
    exact J_sub [] rfl (Z_Mo_element_15 C hR Rt  _ h)
  · have h := h.2 c_1
    refine J_iload_n C 1 D_Mo_element_4 rfl rfl ?_
    refine J_aload_n C 0 D_Mo_element_5 rfl rfl ?_
    refine J_bipush (v := 10) C D_Mo_element_6 rfl ?_
    refine J_iconst (v := (-1)) C D_Mo_element_8 rfl ?_
    obtain ⟨c_9, h⟩ := h
    refine J_callVi C ml_Mo_145 (S_Mo_bases _ _ _ _ _ h) (by rw [hR]; decide) rfl c_9 rfl (Nat.le_of_ble_eq_true rfl) D_Mo_element_9 (fun r9 M9 h => ?_)
    refine J_icmp_lt (tgt := 18) C D_Mo_element_12 (by decide) (fun c_12 => ?_) (fun c_12 => ?_)
    · have h := h.1 c_12
      refine J_aload_n C 0 D_Mo_element_18 rfl rfl ?_
      refine J_bipush (v := 10) C D_Mo_element_19 rfl ?_
      refine J_iload_n C 1 D_Mo_element_21 rfl rfl ?_
      obtain ⟨c_22, h⟩ := h
      refine J_callVi C ml_Mo_145 (S_Mo_bases _ _ _ _ _ h) (by rw [hR]; decide) rfl c_22 rfl (Nat.le_of_ble_eq_true rfl) D_Mo_element_22 (fun r22 M22 h => ?_)
      refine J_istore_n (lv' := [(2, .int r22), (0, .ref (xd x a0)), (1, .int x1)]) C 2 D_Mo_element_25 rfl (by decide) rfl ?_
      refine J_aload_n C 0 D_Mo_element_26 rfl rfl ?_
      refine J_iconst (v := 0) C D_Mo_element_27 rfl ?_
      obtain ⟨c_28, h⟩ := h
      refine J_callVi C ml_Mo_101 (S_Mo_products _ _ _ _ h) (by rw [hR]; decide) rfl c_28 rfl (Nat.le_of_ble_eq_true rfl) D_Mo_element_28 (fun r28 M28 h => ?_)
      exact J_iret C Rt D_Mo_element_31 rfl h
    · have h := h.2 c_12
      exact J_sub [] rfl (Z_Mo_element_15 C hR Rt  _ h)
theorem D_Mo_count_0 : decode b_Mo_count 0 = .ok (.iload_n 1, 1) := by decide +kernel
theorem D_Mo_count_1 : decode b_Mo_count 1 = .ok (.iconst 0, 1) := by decide +kernel
theorem D_Mo_count_2 : decode b_Mo_count 2 = .ok (.bipush 10, 2) := by decide +kernel
theorem D_Mo_count_4 : decode b_Mo_count 4 = .ok (.invokestatic 75, 3) := by decide +kernel
theorem D_Mo_count_7 : decode b_Mo_count 7 = .ok (.ifCond .ne 6, 3) := by decide +kernel
theorem D_Mo_count_10 : decode b_Mo_count 10 = .ok (.ldc 83, 2) := by decide +kernel
theorem D_Mo_count_12 : decode b_Mo_count 12 = .ok (.ireturn, 1) := by decide +kernel
theorem D_Mo_count_13 : decode b_Mo_count 13 = .ok (.aload_n 0, 1) := by decide +kernel
theorem D_Mo_count_14 : decode b_Mo_count 14 = .ok (.iload_n 1, 1) := by decide +kernel
theorem D_Mo_count_15 : decode b_Mo_count 15 = .ok (.invokevirtual 139, 3) := by decide +kernel
theorem D_Mo_count_18 : decode b_Mo_count 18 = .ok (.aload_n 0, 1) := by decide +kernel
theorem D_Mo_count_19 : decode b_Mo_count 19 = .ok (.getfield 115, 3) := by decide +kernel
theorem D_Mo_count_22 : decode b_Mo_count 22 = .ok (.aload_n 0, 1) := by decide +kernel
theorem D_Mo_count_23 : decode b_Mo_count 23 = .ok (.getfield 121, 3) := by decide +kernel
theorem D_Mo_count_26 : decode b_Mo_count 26 = .ok (.isub, 1) := by decide +kernel
theorem D_Mo_count_27 : decode b_Mo_count 27 = .ok (.ireturn, 1) := by decide +kernel
abbrev rm_Mo_count : Room := { frames := 5, cells := 0, slots := 0, locals := 121 }
def T_Mo_count (a0 : Nat) (x1 : Int32) (M : Mem) (post : Int32 → Mem → Prop) : Prop := (T_Mo_in3 x1 0 10 M (fun r4 M4 => (¬ r4 = 0 → (isK M4 a0 7 ∧ T_Mo_heap a0 x1 M4 (fun M15 => isK M15 a0 7 ∧ isK M15 a0 7 ∧ post ((gI M15 a0 8) - (gI M15 a0 12)) M15))) ∧ (r4 = 0 → (post ((-1000000)) M4))))
set_option maxRecDepth 20000 in
theorem S_Mo_count {l : Launch} {D : va_G} {B t g : Nat} {d : Nat → Nat} {ac : Nat → ClassId}  (a0 : Nat) (x1 : Int32) (M : Mem) (post : Int32 → Mem → Prop) (h : T_Mo_count a0 x1 M post) : Met l y_Mo_count w_Mo_count rm_Mo_count (va_Pc [.ref (d a0), .int x1] (PRE D B d g t ac M)) (QI D B d g ac post) 0 0 (AB B) := by
  refine met_i (by decide +kernel) (Nat.le_of_ble_eq_true rfl) (fun x h1 hR h3 h4 h5 h6 h7 h8 C Rt => ?_)
  subst h3 h4 h5 h6 h7 h8
  unfold T_Mo_count at h
  show J x 2 0 [(0, .ref (xd x a0)), (1, .int x1)] [] 0 0 M
  refine J_iload_n C 1 D_Mo_count_0 rfl rfl ?_
  refine J_iconst (v := 0) C D_Mo_count_1 rfl ?_
  refine J_bipush (v := 10) C D_Mo_count_2 rfl ?_
  refine J_callSi C ml_Mo_75 (S_Mo_in3 _ _ _ _ _ h) (by rw [hR]; decide) rfl rfl (Nat.le_of_ble_eq_true rfl) D_Mo_count_4 (fun r4 M4 h => ?_)
  refine J_if_ne (tgt := 13) C D_Mo_count_7 (by decide) (fun c_7 => ?_) (fun c_7 => ?_)
  · have h := h.1 c_7
    refine J_aload_n C 0 D_Mo_count_13 rfl rfl ?_
    refine J_iload_n C 1 D_Mo_count_14 rfl rfl ?_
    obtain ⟨c_15, h⟩ := h
    refine J_callVv C ml_Mo_139 (S_Mo_heap _ _ _ _ h) (by rw [hR]; decide) rfl c_15 rfl (Nat.le_of_ble_eq_true rfl) D_Mo_count_15 (fun M15 h => ?_)
    refine J_aload_n C 0 D_Mo_count_18 rfl rfl ?_
    obtain ⟨c_19, h⟩ := h
    refine J_getI C fl_Mo_115 D_Mo_count_19 c_19 ?_
    refine J_aload_n C 0 D_Mo_count_22 rfl rfl ?_
    obtain ⟨c_23, h⟩ := h
    refine J_getI C fl_Mo_121 D_Mo_count_23 c_23 ?_
    refine J_isub C D_Mo_count_26 ?_
    exact J_iret C Rt D_Mo_count_27 rfl h
  · have h := h.2 c_7
    refine J_ldc (v := (-1000000)) C D_Mo_count_10 kw_Mo_83 ?_
    exact J_iret C Rt D_Mo_count_12 rfl h
theorem D_Mo_rankOf_0 : decode b_Mo_rankOf 0 = .ok (.iconst 0, 1) := by decide +kernel
theorem D_Mo_rankOf_1 : decode b_Mo_rankOf 1 = .ok (.istore_n 3, 1) := by decide +kernel
theorem D_Mo_rankOf_2 : decode b_Mo_rankOf 2 = .ok (.iconst 0, 1) := by decide +kernel
theorem D_Mo_rankOf_3 : decode b_Mo_rankOf 3 = .ok (.istore 4, 2) := by decide +kernel
theorem D_Mo_rankOf_5 : decode b_Mo_rankOf 5 = .ok (.iload 4, 2) := by decide +kernel
theorem D_Mo_rankOf_7 : decode b_Mo_rankOf 7 = .ok (.iload_n 2, 1) := by decide +kernel
theorem D_Mo_rankOf_8 : decode b_Mo_rankOf 8 = .ok (.if_icmp .ge 244, 3) := by decide +kernel
theorem D_Mo_rankOf_11 : decode b_Mo_rankOf 11 = .ok (.iload_n 3, 1) := by decide +kernel
theorem D_Mo_rankOf_12 : decode b_Mo_rankOf 12 = .ok (.iload_n 1, 1) := by decide +kernel
theorem D_Mo_rankOf_13 : decode b_Mo_rankOf 13 = .ok (.if_icmp .ge 239, 3) := by decide +kernel
theorem D_Mo_rankOf_16 : decode b_Mo_rankOf 16 = .ok (.iload_n 3, 1) := by decide +kernel
theorem D_Mo_rankOf_17 : decode b_Mo_rankOf 17 = .ok (.istore 5, 2) := by decide +kernel
theorem D_Mo_rankOf_19 : decode b_Mo_rankOf 19 = .ok (.iload 5, 2) := by decide +kernel
theorem D_Mo_rankOf_21 : decode b_Mo_rankOf 21 = .ok (.iload_n 1, 1) := by decide +kernel
theorem D_Mo_rankOf_22 : decode b_Mo_rankOf 22 = .ok (.if_icmp .ge 24, 3) := by decide +kernel
theorem D_Mo_rankOf_25 : decode b_Mo_rankOf 25 = .ok (.aload_n 0, 1) := by decide +kernel
theorem D_Mo_rankOf_26 : decode b_Mo_rankOf 26 = .ok (.getfield 39, 3) := by decide +kernel
theorem D_Mo_rankOf_29 : decode b_Mo_rankOf 29 = .ok (.iload_n 2, 1) := by decide +kernel
theorem D_Mo_rankOf_30 : decode b_Mo_rankOf 30 = .ok (.iload 5, 2) := by decide +kernel
theorem D_Mo_rankOf_32 : decode b_Mo_rankOf 32 = .ok (.imul, 1) := by decide +kernel
theorem D_Mo_rankOf_33 : decode b_Mo_rankOf 33 = .ok (.iload 4, 2) := by decide +kernel
theorem D_Mo_rankOf_35 : decode b_Mo_rankOf 35 = .ok (.iadd, 1) := by decide +kernel
theorem D_Mo_rankOf_36 : decode b_Mo_rankOf 36 = .ok (.iaload, 1) := by decide +kernel
theorem D_Mo_rankOf_37 : decode b_Mo_rankOf 37 = .ok (.ifCond .ne 9, 3) := by decide +kernel
theorem D_Mo_rankOf_40 : decode b_Mo_rankOf 40 = .ok (.iinc 5 1, 3) := by decide +kernel
theorem D_Mo_rankOf_43 : decode b_Mo_rankOf 43 = .ok (.goto (-24), 3) := by decide +kernel
theorem D_Mo_rankOf_46 : decode b_Mo_rankOf 46 = .ok (.iload 5, 2) := by decide +kernel
theorem D_Mo_rankOf_48 : decode b_Mo_rankOf 48 = .ok (.iload_n 1, 1) := by decide +kernel
theorem D_Mo_rankOf_49 : decode b_Mo_rankOf 49 = .ok (.if_icmp .ne 6, 3) := by decide +kernel
theorem D_Mo_rankOf_52 : decode b_Mo_rankOf 52 = .ok (.goto 194, 3) := by decide +kernel
theorem D_Mo_rankOf_55 : decode b_Mo_rankOf 55 = .ok (.iconst 0, 1) := by decide +kernel
theorem D_Mo_rankOf_56 : decode b_Mo_rankOf 56 = .ok (.istore 6, 2) := by decide +kernel
theorem D_Mo_rankOf_58 : decode b_Mo_rankOf 58 = .ok (.iload 6, 2) := by decide +kernel
theorem D_Mo_rankOf_60 : decode b_Mo_rankOf 60 = .ok (.iload_n 2, 1) := by decide +kernel
theorem D_Mo_rankOf_61 : decode b_Mo_rankOf 61 = .ok (.if_icmp .ge 59, 3) := by decide +kernel
theorem D_Mo_rankOf_64 : decode b_Mo_rankOf 64 = .ok (.aload_n 0, 1) := by decide +kernel
theorem D_Mo_rankOf_65 : decode b_Mo_rankOf 65 = .ok (.getfield 39, 3) := by decide +kernel
theorem D_Mo_rankOf_68 : decode b_Mo_rankOf 68 = .ok (.iload_n 2, 1) := by decide +kernel
theorem D_Mo_rankOf_69 : decode b_Mo_rankOf 69 = .ok (.iload 5, 2) := by decide +kernel
theorem D_Mo_rankOf_71 : decode b_Mo_rankOf 71 = .ok (.imul, 1) := by decide +kernel
theorem D_Mo_rankOf_72 : decode b_Mo_rankOf 72 = .ok (.iload 6, 2) := by decide +kernel
theorem D_Mo_rankOf_74 : decode b_Mo_rankOf 74 = .ok (.iadd, 1) := by decide +kernel
theorem D_Mo_rankOf_75 : decode b_Mo_rankOf 75 = .ok (.iaload, 1) := by decide +kernel
theorem D_Mo_rankOf_76 : decode b_Mo_rankOf 76 = .ok (.istore 7, 2) := by decide +kernel
theorem D_Mo_rankOf_78 : decode b_Mo_rankOf 78 = .ok (.aload_n 0, 1) := by decide +kernel
theorem D_Mo_rankOf_79 : decode b_Mo_rankOf 79 = .ok (.getfield 39, 3) := by decide +kernel
theorem D_Mo_rankOf_82 : decode b_Mo_rankOf 82 = .ok (.iload_n 2, 1) := by decide +kernel
theorem D_Mo_rankOf_83 : decode b_Mo_rankOf 83 = .ok (.iload 5, 2) := by decide +kernel
theorem D_Mo_rankOf_85 : decode b_Mo_rankOf 85 = .ok (.imul, 1) := by decide +kernel
theorem D_Mo_rankOf_86 : decode b_Mo_rankOf 86 = .ok (.iload 6, 2) := by decide +kernel
theorem D_Mo_rankOf_88 : decode b_Mo_rankOf 88 = .ok (.iadd, 1) := by decide +kernel
theorem D_Mo_rankOf_89 : decode b_Mo_rankOf 89 = .ok (.aload_n 0, 1) := by decide +kernel
theorem D_Mo_rankOf_90 : decode b_Mo_rankOf 90 = .ok (.getfield 39, 3) := by decide +kernel
theorem D_Mo_rankOf_93 : decode b_Mo_rankOf 93 = .ok (.iload_n 2, 1) := by decide +kernel
theorem D_Mo_rankOf_94 : decode b_Mo_rankOf 94 = .ok (.iload_n 3, 1) := by decide +kernel
theorem D_Mo_rankOf_95 : decode b_Mo_rankOf 95 = .ok (.imul, 1) := by decide +kernel
theorem D_Mo_rankOf_96 : decode b_Mo_rankOf 96 = .ok (.iload 6, 2) := by decide +kernel
theorem D_Mo_rankOf_98 : decode b_Mo_rankOf 98 = .ok (.iadd, 1) := by decide +kernel
theorem D_Mo_rankOf_99 : decode b_Mo_rankOf 99 = .ok (.iaload, 1) := by decide +kernel
theorem D_Mo_rankOf_100 : decode b_Mo_rankOf 100 = .ok (.iastore, 1) := by decide +kernel
theorem D_Mo_rankOf_101 : decode b_Mo_rankOf 101 = .ok (.aload_n 0, 1) := by decide +kernel
theorem D_Mo_rankOf_102 : decode b_Mo_rankOf 102 = .ok (.getfield 39, 3) := by decide +kernel
theorem D_Mo_rankOf_105 : decode b_Mo_rankOf 105 = .ok (.iload_n 2, 1) := by decide +kernel
theorem D_Mo_rankOf_106 : decode b_Mo_rankOf 106 = .ok (.iload_n 3, 1) := by decide +kernel
theorem D_Mo_rankOf_107 : decode b_Mo_rankOf 107 = .ok (.imul, 1) := by decide +kernel
theorem D_Mo_rankOf_108 : decode b_Mo_rankOf 108 = .ok (.iload 6, 2) := by decide +kernel
theorem D_Mo_rankOf_110 : decode b_Mo_rankOf 110 = .ok (.iadd, 1) := by decide +kernel
theorem D_Mo_rankOf_111 : decode b_Mo_rankOf 111 = .ok (.iload 7, 2) := by decide +kernel
theorem D_Mo_rankOf_113 : decode b_Mo_rankOf 113 = .ok (.iastore, 1) := by decide +kernel
theorem D_Mo_rankOf_114 : decode b_Mo_rankOf 114 = .ok (.iinc 6 1, 3) := by decide +kernel
theorem D_Mo_rankOf_117 : decode b_Mo_rankOf 117 = .ok (.goto (-59), 3) := by decide +kernel
theorem D_Mo_rankOf_120 : decode b_Mo_rankOf 120 = .ok (.aload_n 0, 1) := by decide +kernel
theorem D_Mo_rankOf_121 : decode b_Mo_rankOf 121 = .ok (.aload_n 0, 1) := by decide +kernel
theorem D_Mo_rankOf_122 : decode b_Mo_rankOf 122 = .ok (.getfield 39, 3) := by decide +kernel
theorem D_Mo_rankOf_125 : decode b_Mo_rankOf 125 = .ok (.iload_n 2, 1) := by decide +kernel
theorem D_Mo_rankOf_126 : decode b_Mo_rankOf 126 = .ok (.iload_n 3, 1) := by decide +kernel
theorem D_Mo_rankOf_127 : decode b_Mo_rankOf 127 = .ok (.imul, 1) := by decide +kernel
theorem D_Mo_rankOf_128 : decode b_Mo_rankOf 128 = .ok (.iload 4, 2) := by decide +kernel
theorem D_Mo_rankOf_130 : decode b_Mo_rankOf 130 = .ok (.iadd, 1) := by decide +kernel
theorem D_Mo_rankOf_131 : decode b_Mo_rankOf 131 = .ok (.iaload, 1) := by decide +kernel
theorem D_Mo_rankOf_132 : decode b_Mo_rankOf 132 = .ok (.invokevirtual 127, 3) := by decide +kernel
theorem D_Mo_rankOf_135 : decode b_Mo_rankOf 135 = .ok (.istore 6, 2) := by decide +kernel
theorem D_Mo_rankOf_137 : decode b_Mo_rankOf 137 = .ok (.iload_n 3, 1) := by decide +kernel
theorem D_Mo_rankOf_138 : decode b_Mo_rankOf 138 = .ok (.iconst 1, 1) := by decide +kernel
theorem D_Mo_rankOf_139 : decode b_Mo_rankOf 139 = .ok (.iadd, 1) := by decide +kernel
theorem D_Mo_rankOf_140 : decode b_Mo_rankOf 140 = .ok (.istore 7, 2) := by decide +kernel
theorem D_Mo_rankOf_142 : decode b_Mo_rankOf 142 = .ok (.iload 7, 2) := by decide +kernel
theorem D_Mo_rankOf_144 : decode b_Mo_rankOf 144 = .ok (.iload_n 1, 1) := by decide +kernel
theorem D_Mo_rankOf_145 : decode b_Mo_rankOf 145 = .ok (.if_icmp .ge 98, 3) := by decide +kernel
theorem D_Mo_rankOf_148 : decode b_Mo_rankOf 148 = .ok (.aload_n 0, 1) := by decide +kernel
theorem D_Mo_rankOf_149 : decode b_Mo_rankOf 149 = .ok (.iload 6, 2) := by decide +kernel
theorem D_Mo_rankOf_151 : decode b_Mo_rankOf 151 = .ok (.i2l, 1) := by decide +kernel
theorem D_Mo_rankOf_152 : decode b_Mo_rankOf 152 = .ok (.aload_n 0, 1) := by decide +kernel
theorem D_Mo_rankOf_153 : decode b_Mo_rankOf 153 = .ok (.getfield 39, 3) := by decide +kernel
theorem D_Mo_rankOf_156 : decode b_Mo_rankOf 156 = .ok (.iload_n 2, 1) := by decide +kernel
theorem D_Mo_rankOf_157 : decode b_Mo_rankOf 157 = .ok (.iload 7, 2) := by decide +kernel
theorem D_Mo_rankOf_159 : decode b_Mo_rankOf 159 = .ok (.imul, 1) := by decide +kernel
theorem D_Mo_rankOf_160 : decode b_Mo_rankOf 160 = .ok (.iload 4, 2) := by decide +kernel
theorem D_Mo_rankOf_162 : decode b_Mo_rankOf 162 = .ok (.iadd, 1) := by decide +kernel
theorem D_Mo_rankOf_163 : decode b_Mo_rankOf 163 = .ok (.iaload, 1) := by decide +kernel
theorem D_Mo_rankOf_164 : decode b_Mo_rankOf 164 = .ok (.i2l, 1) := by decide +kernel
theorem D_Mo_rankOf_165 : decode b_Mo_rankOf 165 = .ok (.lmul, 1) := by decide +kernel
theorem D_Mo_rankOf_166 : decode b_Mo_rankOf 166 = .ok (.invokevirtual 48, 3) := by decide +kernel
theorem D_Mo_rankOf_169 : decode b_Mo_rankOf 169 = .ok (.istore 8, 2) := by decide +kernel
theorem D_Mo_rankOf_171 : decode b_Mo_rankOf 171 = .ok (.iconst 0, 1) := by decide +kernel
theorem D_Mo_rankOf_172 : decode b_Mo_rankOf 172 = .ok (.istore 9, 2) := by decide +kernel
theorem D_Mo_rankOf_174 : decode b_Mo_rankOf 174 = .ok (.iload 9, 2) := by decide +kernel
theorem D_Mo_rankOf_176 : decode b_Mo_rankOf 176 = .ok (.iload_n 2, 1) := by decide +kernel
theorem D_Mo_rankOf_177 : decode b_Mo_rankOf 177 = .ok (.if_icmp .ge 60, 3) := by decide +kernel
theorem D_Mo_rankOf_180 : decode b_Mo_rankOf 180 = .ok (.iload 8, 2) := by decide +kernel
theorem D_Mo_rankOf_182 : decode b_Mo_rankOf 182 = .ok (.ifCond .eq 55, 3) := by decide +kernel
theorem D_Mo_rankOf_185 : decode b_Mo_rankOf 185 = .ok (.aload_n 0, 1) := by decide +kernel
theorem D_Mo_rankOf_186 : decode b_Mo_rankOf 186 = .ok (.getfield 39, 3) := by decide +kernel
theorem D_Mo_rankOf_189 : decode b_Mo_rankOf 189 = .ok (.iload_n 2, 1) := by decide +kernel
theorem D_Mo_rankOf_190 : decode b_Mo_rankOf 190 = .ok (.iload 7, 2) := by decide +kernel
theorem D_Mo_rankOf_192 : decode b_Mo_rankOf 192 = .ok (.imul, 1) := by decide +kernel
theorem D_Mo_rankOf_193 : decode b_Mo_rankOf 193 = .ok (.iload 9, 2) := by decide +kernel
theorem D_Mo_rankOf_195 : decode b_Mo_rankOf 195 = .ok (.iadd, 1) := by decide +kernel
theorem D_Mo_rankOf_196 : decode b_Mo_rankOf 196 = .ok (.aload_n 0, 1) := by decide +kernel
theorem D_Mo_rankOf_197 : decode b_Mo_rankOf 197 = .ok (.aload_n 0, 1) := by decide +kernel
theorem D_Mo_rankOf_198 : decode b_Mo_rankOf 198 = .ok (.getfield 39, 3) := by decide +kernel
theorem D_Mo_rankOf_201 : decode b_Mo_rankOf 201 = .ok (.iload_n 2, 1) := by decide +kernel
theorem D_Mo_rankOf_202 : decode b_Mo_rankOf 202 = .ok (.iload 7, 2) := by decide +kernel
theorem D_Mo_rankOf_204 : decode b_Mo_rankOf 204 = .ok (.imul, 1) := by decide +kernel
theorem D_Mo_rankOf_205 : decode b_Mo_rankOf 205 = .ok (.iload 9, 2) := by decide +kernel
theorem D_Mo_rankOf_207 : decode b_Mo_rankOf 207 = .ok (.iadd, 1) := by decide +kernel
theorem D_Mo_rankOf_208 : decode b_Mo_rankOf 208 = .ok (.iaload, 1) := by decide +kernel
theorem D_Mo_rankOf_209 : decode b_Mo_rankOf 209 = .ok (.i2l, 1) := by decide +kernel
theorem D_Mo_rankOf_210 : decode b_Mo_rankOf 210 = .ok (.iload 8, 2) := by decide +kernel
theorem D_Mo_rankOf_212 : decode b_Mo_rankOf 212 = .ok (.i2l, 1) := by decide +kernel
theorem D_Mo_rankOf_213 : decode b_Mo_rankOf 213 = .ok (.aload_n 0, 1) := by decide +kernel
theorem D_Mo_rankOf_214 : decode b_Mo_rankOf 214 = .ok (.getfield 39, 3) := by decide +kernel
theorem D_Mo_rankOf_217 : decode b_Mo_rankOf 217 = .ok (.iload_n 2, 1) := by decide +kernel
theorem D_Mo_rankOf_218 : decode b_Mo_rankOf 218 = .ok (.iload_n 3, 1) := by decide +kernel
theorem D_Mo_rankOf_219 : decode b_Mo_rankOf 219 = .ok (.imul, 1) := by decide +kernel
theorem D_Mo_rankOf_220 : decode b_Mo_rankOf 220 = .ok (.iload 9, 2) := by decide +kernel
theorem D_Mo_rankOf_222 : decode b_Mo_rankOf 222 = .ok (.iadd, 1) := by decide +kernel
theorem D_Mo_rankOf_223 : decode b_Mo_rankOf 223 = .ok (.iaload, 1) := by decide +kernel
theorem D_Mo_rankOf_224 : decode b_Mo_rankOf 224 = .ok (.i2l, 1) := by decide +kernel
theorem D_Mo_rankOf_225 : decode b_Mo_rankOf 225 = .ok (.lmul, 1) := by decide +kernel
theorem D_Mo_rankOf_226 : decode b_Mo_rankOf 226 = .ok (.lsub, 1) := by decide +kernel
theorem D_Mo_rankOf_227 : decode b_Mo_rankOf 227 = .ok (.invokevirtual 48, 3) := by decide +kernel
theorem D_Mo_rankOf_230 : decode b_Mo_rankOf 230 = .ok (.iastore, 1) := by decide +kernel
theorem D_Mo_rankOf_231 : decode b_Mo_rankOf 231 = .ok (.iinc 9 1, 3) := by decide +kernel
theorem D_Mo_rankOf_234 : decode b_Mo_rankOf 234 = .ok (.goto (-60), 3) := by decide +kernel
theorem D_Mo_rankOf_237 : decode b_Mo_rankOf 237 = .ok (.iinc 7 1, 3) := by decide +kernel
theorem D_Mo_rankOf_240 : decode b_Mo_rankOf 240 = .ok (.goto (-98), 3) := by decide +kernel
theorem D_Mo_rankOf_243 : decode b_Mo_rankOf 243 = .ok (.iinc 3 1, 3) := by decide +kernel
theorem D_Mo_rankOf_246 : decode b_Mo_rankOf 246 = .ok (.iinc 4 1, 3) := by decide +kernel
theorem D_Mo_rankOf_249 : decode b_Mo_rankOf 249 = .ok (.goto (-244), 3) := by decide +kernel
theorem D_Mo_rankOf_252 : decode b_Mo_rankOf 252 = .ok (.iload_n 3, 1) := by decide +kernel
theorem D_Mo_rankOf_253 : decode b_Mo_rankOf 253 = .ok (.ireturn, 1) := by decide +kernel
abbrev rm_Mo_rankOf : Room := { frames := 2, cells := 0, slots := 0, locals := 46 }
def B_Mo_rankOf_252 (post : Int32 → Mem → Prop) (x3 : Int32) (M : Mem) : Prop := (post x3 M)
set_option maxRecDepth 20000 in
theorem Z_Mo_rankOf_252 {x : Ctx} {post : Int32 → Mem → Prop} (C : Ok x b_Mo_rankOf 10 "HeapTowerModel") (hR : xR x = rm_Mo_rankOf) (Rt : RetI x .int post 0 0) (x3 : Int32) (M : Mem) (h : B_Mo_rankOf_252 post x3 M) : J x 10 252 [(3, .int x3)] [] 0 0 M := by
  unfold B_Mo_rankOf_252 at h
  refine J_iload_n C 3 D_Mo_rankOf_252 rfl rfl ?_
  exact J_iret C Rt D_Mo_rankOf_253 rfl h
def B_Mo_rankOf_246 (k5 : Nat → Int32 → Int32 → Int32 → Int32 → Mem → Prop) (post : Int32 → Mem → Prop) (a0 : Nat) (x1 : Int32) (x2 : Int32) (x3 : Int32) (x4 : Int32) (M : Mem) : Prop := (k5 a0 x1 x2 x3 (x4 + 1) M)
set_option maxRecDepth 20000 in
theorem Z_Mo_rankOf_246 {x : Ctx} {post : Int32 → Mem → Prop} (C : Ok x b_Mo_rankOf 10 "HeapTowerModel") (hR : xR x = rm_Mo_rankOf) (Rt : RetI x .int post 0 0) {k5 : Nat → Int32 → Int32 → Int32 → Int32 → Mem → Prop} (K5 : ∀ (a0 : Nat) (x1 : Int32) (x2 : Int32) (x3 : Int32) (x4 : Int32) (M : Mem), k5 a0 x1 x2 x3 x4 M → J x 10 5 [(0, .ref (xd x a0)), (1, .int x1), (2, .int x2), (3, .int x3), (4, .int x4)] [] 0 0 M) (a0 : Nat) (x1 : Int32) (x2 : Int32) (x3 : Int32) (x4 : Int32) (M : Mem) (h : B_Mo_rankOf_246 k5 post a0 x1 x2 x3 x4 M) : J x 10 246 [(0, .ref (xd x a0)), (1, .int x1), (2, .int x2), (3, .int x3), (4, .int x4)] [] 0 0 M := by
  unfold B_Mo_rankOf_246 at h
  refine J_iinc (v := x4 + 1) (lv' := [(4, .int (x4 + 1)), (0, .ref (xd x a0)), (1, .int x1), (2, .int x2), (3, .int x3)]) C 4 4 D_Mo_rankOf_246 rfl rfl (by decide) rfl ?_
  refine J_goto (tgt := 5) C D_Mo_rankOf_249 (by decide) ?_
  exact J_sub [1, 2, 3, 4, 0] rfl (K5 _ _ _ _ _ _ h)
def B_Mo_rankOf_237 (k5 : Nat → Int32 → Int32 → Int32 → Int32 → Mem → Prop) (k142 : Nat → Int32 → Int32 → Int32 → Int32 → Int32 → Int32 → Mem → Prop) (post : Int32 → Mem → Prop) (a0 : Nat) (x1 : Int32) (x2 : Int32) (x3 : Int32) (x4 : Int32) (x6 : Int32) (x7 : Int32) (M : Mem) : Prop := (k142 a0 x1 x2 x3 x4 x6 (x7 + 1) M)
set_option maxRecDepth 20000 in
theorem Z_Mo_rankOf_237 {x : Ctx} {post : Int32 → Mem → Prop} (C : Ok x b_Mo_rankOf 10 "HeapTowerModel") (hR : xR x = rm_Mo_rankOf) (Rt : RetI x .int post 0 0) {k5 : Nat → Int32 → Int32 → Int32 → Int32 → Mem → Prop} (K5 : ∀ (a0 : Nat) (x1 : Int32) (x2 : Int32) (x3 : Int32) (x4 : Int32) (M : Mem), k5 a0 x1 x2 x3 x4 M → J x 10 5 [(0, .ref (xd x a0)), (1, .int x1), (2, .int x2), (3, .int x3), (4, .int x4)] [] 0 0 M) {k142 : Nat → Int32 → Int32 → Int32 → Int32 → Int32 → Int32 → Mem → Prop} (K142 : ∀ (a0 : Nat) (x1 : Int32) (x2 : Int32) (x3 : Int32) (x4 : Int32) (x6 : Int32) (x7 : Int32) (M : Mem), k142 a0 x1 x2 x3 x4 x6 x7 M → J x 10 142 [(0, .ref (xd x a0)), (1, .int x1), (2, .int x2), (3, .int x3), (4, .int x4), (6, .int x6), (7, .int x7)] [] 0 0 M) (a0 : Nat) (x1 : Int32) (x2 : Int32) (x3 : Int32) (x4 : Int32) (x6 : Int32) (x7 : Int32) (M : Mem) (h : B_Mo_rankOf_237 k5 k142 post a0 x1 x2 x3 x4 x6 x7 M) : J x 10 237 [(0, .ref (xd x a0)), (1, .int x1), (2, .int x2), (3, .int x3), (4, .int x4), (6, .int x6), (7, .int x7)] [] 0 0 M := by
  unfold B_Mo_rankOf_237 at h
  refine J_iinc (v := x7 + 1) (lv' := [(7, .int (x7 + 1)), (0, .ref (xd x a0)), (1, .int x1), (2, .int x2), (3, .int x3), (4, .int x4), (6, .int x6)]) C 7 6 D_Mo_rankOf_237 rfl rfl (by decide) rfl ?_
  refine J_goto (tgt := 142) C D_Mo_rankOf_240 (by decide) ?_
  exact J_sub [1, 2, 3, 4, 5, 6, 0] rfl (K142 _ _ _ _ _ _ _ _ h)
def B_Mo_rankOf_174 (k5 : Nat → Int32 → Int32 → Int32 → Int32 → Mem → Prop) (k142 : Nat → Int32 → Int32 → Int32 → Int32 → Int32 → Int32 → Mem → Prop) (k174 : Nat → Int32 → Int32 → Int32 → Int32 → Int32 → Int32 → Int32 → Int32 → Mem → Prop) (post : Int32 → Mem → Prop) (a0 : Nat) (x1 : Int32) (x2 : Int32) (x3 : Int32) (x4 : Int32) (x6 : Int32) (x7 : Int32) (x8 : Int32) (x9 : Int32) (M : Mem) : Prop := ((x2 ≤ x9 → (B_Mo_rankOf_237 k5 k142 post a0 x1 x2 x3 x4 x6 x7 M)) ∧ (¬ x2 ≤ x9 → ((x8 = 0 → (B_Mo_rankOf_237 k5 k142 post a0 x1 x2 x3 x4 x6 x7 M)) ∧ (¬ x8 = 0 → (isK M a0 7 ∧ ∃ q186, gR M a0 14 = some q186 ∧ isK M a0 7 ∧ ∃ q198, gR M a0 14 = some q198 ∧ isA M q198 8 ((x2 * x7) + x9) ∧ isK M a0 7 ∧ ∃ q214, gR M a0 14 = some q214 ∧ isA M q214 8 ((x2 * x3) + x9) ∧ isK M a0 7 ∧ T_Mo_mod a0 ((Int32.toInt64 (gI M q198 (Int32.toNatClampNeg ((x2 * x7) + x9)))) - ((Int32.toInt64 x8) * (Int32.toInt64 (gI M q214 (Int32.toNatClampNeg ((x2 * x3) + x9)))))) M (fun r227 M227 => isA M227 q186 8 ((x2 * x7) + x9) ∧ k174 a0 x1 x2 x3 x4 x6 x7 x8 (x9 + 1) (sI M227 q186 (Int32.toNatClampNeg ((x2 * x7) + x9)) r227)))))))
set_option maxRecDepth 20000 in
theorem Z_Mo_rankOf_174 {x : Ctx} {post : Int32 → Mem → Prop} (C : Ok x b_Mo_rankOf 10 "HeapTowerModel") (hR : xR x = rm_Mo_rankOf) (Rt : RetI x .int post 0 0) {k5 : Nat → Int32 → Int32 → Int32 → Int32 → Mem → Prop} (K5 : ∀ (a0 : Nat) (x1 : Int32) (x2 : Int32) (x3 : Int32) (x4 : Int32) (M : Mem), k5 a0 x1 x2 x3 x4 M → J x 10 5 [(0, .ref (xd x a0)), (1, .int x1), (2, .int x2), (3, .int x3), (4, .int x4)] [] 0 0 M) {k142 : Nat → Int32 → Int32 → Int32 → Int32 → Int32 → Int32 → Mem → Prop} (K142 : ∀ (a0 : Nat) (x1 : Int32) (x2 : Int32) (x3 : Int32) (x4 : Int32) (x6 : Int32) (x7 : Int32) (M : Mem), k142 a0 x1 x2 x3 x4 x6 x7 M → J x 10 142 [(0, .ref (xd x a0)), (1, .int x1), (2, .int x2), (3, .int x3), (4, .int x4), (6, .int x6), (7, .int x7)] [] 0 0 M) {k174 : Nat → Int32 → Int32 → Int32 → Int32 → Int32 → Int32 → Int32 → Int32 → Mem → Prop} (K174 : ∀ (a0 : Nat) (x1 : Int32) (x2 : Int32) (x3 : Int32) (x4 : Int32) (x6 : Int32) (x7 : Int32) (x8 : Int32) (x9 : Int32) (M : Mem), k174 a0 x1 x2 x3 x4 x6 x7 x8 x9 M → J x 10 174 [(0, .ref (xd x a0)), (1, .int x1), (2, .int x2), (3, .int x3), (4, .int x4), (6, .int x6), (7, .int x7), (8, .int x8), (9, .int x9)] [] 0 0 M) (a0 : Nat) (x1 : Int32) (x2 : Int32) (x3 : Int32) (x4 : Int32) (x6 : Int32) (x7 : Int32) (x8 : Int32) (x9 : Int32) (M : Mem) (h : B_Mo_rankOf_174 k5 k142 k174 post a0 x1 x2 x3 x4 x6 x7 x8 x9 M) : J x 10 174 [(0, .ref (xd x a0)), (1, .int x1), (2, .int x2), (3, .int x3), (4, .int x4), (6, .int x6), (7, .int x7), (8, .int x8), (9, .int x9)] [] 0 0 M := by
  unfold B_Mo_rankOf_174 at h
  refine J_iload C 9 D_Mo_rankOf_174 rfl ?_
  refine J_iload_n C 2 D_Mo_rankOf_176 rfl rfl ?_
  refine J_icmp_ge (tgt := 237) C D_Mo_rankOf_177 (by decide) (fun c_177 => ?_) (fun c_177 => ?_)
  · have h := h.1 c_177
    exact J_sub [0, 1, 2, 3, 4, 5, 6] rfl (Z_Mo_rankOf_237 C hR Rt K5 K142 _ _ _ _ _ _ _ _ h)
  · have h := h.2 c_177
    refine J_iload C 8 D_Mo_rankOf_180 rfl ?_
    refine J_if_eq (tgt := 237) C D_Mo_rankOf_182 (by decide) (fun c_182 => ?_) (fun c_182 => ?_)
    · have h := h.1 c_182
      exact J_sub [0, 1, 2, 3, 4, 5, 6] rfl (Z_Mo_rankOf_237 C hR Rt K5 K142 _ _ _ _ _ _ _ _ h)
    · have h := h.2 c_182
      refine J_aload_n C 0 D_Mo_rankOf_185 rfl rfl ?_
      obtain ⟨c_186, q186, e_186, h⟩ := h
      refine J_getR C fl_Mo_39 D_Mo_rankOf_186 c_186 e_186 ?_
      refine J_iload_n C 2 D_Mo_rankOf_189 rfl rfl ?_
      refine J_iload C 7 D_Mo_rankOf_190 rfl ?_
      refine J_imul C D_Mo_rankOf_192 ?_
      refine J_iload C 9 D_Mo_rankOf_193 rfl ?_
      refine J_iadd C D_Mo_rankOf_195 ?_
      refine J_aload_n C 0 D_Mo_rankOf_196 rfl rfl ?_
      refine J_aload_n C 0 D_Mo_rankOf_197 rfl rfl ?_
      obtain ⟨c_198, q198, e_198, h⟩ := h
      refine J_getR C fl_Mo_39 D_Mo_rankOf_198 c_198 e_198 ?_
      refine J_iload_n C 2 D_Mo_rankOf_201 rfl rfl ?_
      refine J_iload C 7 D_Mo_rankOf_202 rfl ?_
      refine J_imul C D_Mo_rankOf_204 ?_
      refine J_iload C 9 D_Mo_rankOf_205 rfl ?_
      refine J_iadd C D_Mo_rankOf_207 ?_
      obtain ⟨c_208, h⟩ := h
      refine J_iald C D_Mo_rankOf_208 c_208 ?_
      refine J_i2l C D_Mo_rankOf_209 ?_
      refine J_iload C 8 D_Mo_rankOf_210 rfl ?_
      refine J_i2l C D_Mo_rankOf_212 ?_
      refine J_aload_n C 0 D_Mo_rankOf_213 rfl rfl ?_
      obtain ⟨c_214, q214, e_214, h⟩ := h
      refine J_getR C fl_Mo_39 D_Mo_rankOf_214 c_214 e_214 ?_
      refine J_iload_n C 2 D_Mo_rankOf_217 rfl rfl ?_
      refine J_iload_n C 3 D_Mo_rankOf_218 rfl rfl ?_
      refine J_imul C D_Mo_rankOf_219 ?_
      refine J_iload C 9 D_Mo_rankOf_220 rfl ?_
      refine J_iadd C D_Mo_rankOf_222 ?_
      obtain ⟨c_223, h⟩ := h
      refine J_iald C D_Mo_rankOf_223 c_223 ?_
      refine J_i2l C D_Mo_rankOf_224 ?_
      refine J_lmul C D_Mo_rankOf_225 ?_
      refine J_lsub C D_Mo_rankOf_226 ?_
      obtain ⟨c_227, h⟩ := h
      refine J_callVi C ml_Mo_48 (S_Mo_mod _ _ _ _ h) (by rw [hR]; decide) rfl c_227 rfl (Nat.le_of_ble_eq_true rfl) D_Mo_rankOf_227 (fun r227 M227 h => ?_)
      obtain ⟨c_230, h⟩ := h
      refine J_iast C D_Mo_rankOf_230 c_230 ?_
      refine J_iinc (v := x9 + 1) (lv' := [(9, .int (x9 + 1)), (0, .ref (xd x a0)), (1, .int x1), (2, .int x2), (3, .int x3), (4, .int x4), (6, .int x6), (7, .int x7), (8, .int x8)]) C 9 8 D_Mo_rankOf_231 rfl rfl (by decide) rfl ?_
      refine J_goto (tgt := 174) C D_Mo_rankOf_234 (by decide) ?_
      exact J_sub [1, 2, 3, 4, 5, 6, 7, 8, 0] rfl (K174 _ _ _ _ _ _ _ _ _ _ h)
def L_Mo_rankOf_174 (k5 : Nat → Int32 → Int32 → Int32 → Int32 → Mem → Prop) (k142 : Nat → Int32 → Int32 → Int32 → Int32 → Int32 → Int32 → Mem → Prop) (post : Int32 → Mem → Prop) : Nat → Nat → Int32 → Int32 → Int32 → Int32 → Int32 → Int32 → Int32 → Int32 → Mem → Prop
  | 0, _, _, _, _, _, _, _, _, _, _ => False
  | n + 1, a0, x1, x2, x3, x4, x6, x7, x8, x9, M => B_Mo_rankOf_174 k5 k142 (L_Mo_rankOf_174 k5 k142 post n) post a0 x1 x2 x3 x4 x6 x7 x8 x9 M
theorem Y_Mo_rankOf_174 {x : Ctx} {post : Int32 → Mem → Prop} (C : Ok x b_Mo_rankOf 10 "HeapTowerModel") (hR : xR x = rm_Mo_rankOf) (Rt : RetI x .int post 0 0) {k5 : Nat → Int32 → Int32 → Int32 → Int32 → Mem → Prop} (K5 : ∀ (a0 : Nat) (x1 : Int32) (x2 : Int32) (x3 : Int32) (x4 : Int32) (M : Mem), k5 a0 x1 x2 x3 x4 M → J x 10 5 [(0, .ref (xd x a0)), (1, .int x1), (2, .int x2), (3, .int x3), (4, .int x4)] [] 0 0 M) {k142 : Nat → Int32 → Int32 → Int32 → Int32 → Int32 → Int32 → Mem → Prop} (K142 : ∀ (a0 : Nat) (x1 : Int32) (x2 : Int32) (x3 : Int32) (x4 : Int32) (x6 : Int32) (x7 : Int32) (M : Mem), k142 a0 x1 x2 x3 x4 x6 x7 M → J x 10 142 [(0, .ref (xd x a0)), (1, .int x1), (2, .int x2), (3, .int x3), (4, .int x4), (6, .int x6), (7, .int x7)] [] 0 0 M) : ∀ (n : Nat) (a0 : Nat) (x1 : Int32) (x2 : Int32) (x3 : Int32) (x4 : Int32) (x6 : Int32) (x7 : Int32) (x8 : Int32) (x9 : Int32) (M : Mem), L_Mo_rankOf_174 k5 k142 post n a0 x1 x2 x3 x4 x6 x7 x8 x9 M → J x 10 174 [(0, .ref (xd x a0)), (1, .int x1), (2, .int x2), (3, .int x3), (4, .int x4), (6, .int x6), (7, .int x7), (8, .int x8), (9, .int x9)] [] 0 0 M := by
  intro n
  induction n with
  | zero => intro a0 x1 x2 x3 x4 x6 x7 x8 x9 M h; exact h.elim
  | succ n ih => intro a0 x1 x2 x3 x4 x6 x7 x8 x9 M h; exact Z_Mo_rankOf_174 C hR Rt K5 K142 ih _ _ _ _ _ _ _ _ _ _ h
def B_Mo_rankOf_142 (k5 : Nat → Int32 → Int32 → Int32 → Int32 → Mem → Prop) (k142 : Nat → Int32 → Int32 → Int32 → Int32 → Int32 → Int32 → Mem → Prop) (post : Int32 → Mem → Prop) (a0 : Nat) (x1 : Int32) (x2 : Int32) (x3 : Int32) (x4 : Int32) (x6 : Int32) (x7 : Int32) (M : Mem) : Prop := ((x1 ≤ x7 → (B_Mo_rankOf_246 k5 post a0 x1 x2 (x3 + 1) x4 M)) ∧ (¬ x1 ≤ x7 → (isK M a0 7 ∧ ∃ q153, gR M a0 14 = some q153 ∧ isA M q153 8 ((x2 * x7) + x4) ∧ isK M a0 7 ∧ T_Mo_mod a0 ((Int32.toInt64 x6) * (Int32.toInt64 (gI M q153 (Int32.toNatClampNeg ((x2 * x7) + x4))))) M (fun r166 M166 => ∃ n, L_Mo_rankOf_174 k5 k142 post n a0 x1 x2 x3 x4 x6 x7 r166 0 M166))))
set_option maxRecDepth 20000 in
theorem Z_Mo_rankOf_142 {x : Ctx} {post : Int32 → Mem → Prop} (C : Ok x b_Mo_rankOf 10 "HeapTowerModel") (hR : xR x = rm_Mo_rankOf) (Rt : RetI x .int post 0 0) {k5 : Nat → Int32 → Int32 → Int32 → Int32 → Mem → Prop} (K5 : ∀ (a0 : Nat) (x1 : Int32) (x2 : Int32) (x3 : Int32) (x4 : Int32) (M : Mem), k5 a0 x1 x2 x3 x4 M → J x 10 5 [(0, .ref (xd x a0)), (1, .int x1), (2, .int x2), (3, .int x3), (4, .int x4)] [] 0 0 M) {k142 : Nat → Int32 → Int32 → Int32 → Int32 → Int32 → Int32 → Mem → Prop} (K142 : ∀ (a0 : Nat) (x1 : Int32) (x2 : Int32) (x3 : Int32) (x4 : Int32) (x6 : Int32) (x7 : Int32) (M : Mem), k142 a0 x1 x2 x3 x4 x6 x7 M → J x 10 142 [(0, .ref (xd x a0)), (1, .int x1), (2, .int x2), (3, .int x3), (4, .int x4), (6, .int x6), (7, .int x7)] [] 0 0 M) (a0 : Nat) (x1 : Int32) (x2 : Int32) (x3 : Int32) (x4 : Int32) (x6 : Int32) (x7 : Int32) (M : Mem) (h : B_Mo_rankOf_142 k5 k142 post a0 x1 x2 x3 x4 x6 x7 M) : J x 10 142 [(0, .ref (xd x a0)), (1, .int x1), (2, .int x2), (3, .int x3), (4, .int x4), (6, .int x6), (7, .int x7)] [] 0 0 M := by
  unfold B_Mo_rankOf_142 at h
  refine J_iload C 7 D_Mo_rankOf_142 rfl ?_
  refine J_iload_n C 1 D_Mo_rankOf_144 rfl rfl ?_
  refine J_icmp_ge (tgt := 243) C D_Mo_rankOf_145 (by decide) (fun c_145 => ?_) (fun c_145 => ?_)
  · have h := h.1 c_145
    refine J_iinc (v := x3 + 1) (lv' := [(3, .int (x3 + 1)), (0, .ref (xd x a0)), (1, .int x1), (2, .int x2), (4, .int x4), (6, .int x6), (7, .int x7)]) C 3 3 D_Mo_rankOf_243 rfl rfl (by decide) rfl ?_
    exact J_sub [1, 2, 3, 0, 4] rfl (Z_Mo_rankOf_246 C hR Rt K5 _ _ _ _ _ _ h)
  · have h := h.2 c_145
    refine J_aload_n C 0 D_Mo_rankOf_148 rfl rfl ?_
    refine J_iload C 6 D_Mo_rankOf_149 rfl ?_
    refine J_i2l C D_Mo_rankOf_151 ?_
    refine J_aload_n C 0 D_Mo_rankOf_152 rfl rfl ?_
    obtain ⟨c_153, q153, e_153, h⟩ := h
    refine J_getR C fl_Mo_39 D_Mo_rankOf_153 c_153 e_153 ?_
    refine J_iload_n C 2 D_Mo_rankOf_156 rfl rfl ?_
    refine J_iload C 7 D_Mo_rankOf_157 rfl ?_
    refine J_imul C D_Mo_rankOf_159 ?_
    refine J_iload C 4 D_Mo_rankOf_160 rfl ?_
    refine J_iadd C D_Mo_rankOf_162 ?_
    obtain ⟨c_163, h⟩ := h
    refine J_iald C D_Mo_rankOf_163 c_163 ?_
    refine J_i2l C D_Mo_rankOf_164 ?_
    refine J_lmul C D_Mo_rankOf_165 ?_
    obtain ⟨c_166, h⟩ := h
    refine J_callVi C ml_Mo_48 (S_Mo_mod _ _ _ _ h) (by rw [hR]; decide) rfl c_166 rfl (Nat.le_of_ble_eq_true rfl) D_Mo_rankOf_166 (fun r166 M166 h => ?_)
    refine J_istore (lv' := [(8, .int r166), (0, .ref (xd x a0)), (1, .int x1), (2, .int x2), (3, .int x3), (4, .int x4), (6, .int x6), (7, .int x7)]) C 8 D_Mo_rankOf_169 (by decide) rfl ?_
    refine J_iconst (v := 0) C D_Mo_rankOf_171 rfl ?_
    refine J_istore (lv' := [(9, .int 0), (8, .int r166), (0, .ref (xd x a0)), (1, .int x1), (2, .int x2), (3, .int x3), (4, .int x4), (6, .int x6), (7, .int x7)]) C 9 D_Mo_rankOf_172 (by decide) rfl ?_
    obtain ⟨n, h⟩ := h
    exact J_sub [2, 3, 4, 5, 6, 7, 8, 1, 0] rfl (Y_Mo_rankOf_174 C hR Rt K5 K142 n _ _ _ _ _ _ _ _ _ _ h)
def L_Mo_rankOf_142 (k5 : Nat → Int32 → Int32 → Int32 → Int32 → Mem → Prop) (post : Int32 → Mem → Prop) : Nat → Nat → Int32 → Int32 → Int32 → Int32 → Int32 → Int32 → Mem → Prop
  | 0, _, _, _, _, _, _, _, _ => False
  | n + 1, a0, x1, x2, x3, x4, x6, x7, M => B_Mo_rankOf_142 k5 (L_Mo_rankOf_142 k5 post n) post a0 x1 x2 x3 x4 x6 x7 M
theorem Y_Mo_rankOf_142 {x : Ctx} {post : Int32 → Mem → Prop} (C : Ok x b_Mo_rankOf 10 "HeapTowerModel") (hR : xR x = rm_Mo_rankOf) (Rt : RetI x .int post 0 0) {k5 : Nat → Int32 → Int32 → Int32 → Int32 → Mem → Prop} (K5 : ∀ (a0 : Nat) (x1 : Int32) (x2 : Int32) (x3 : Int32) (x4 : Int32) (M : Mem), k5 a0 x1 x2 x3 x4 M → J x 10 5 [(0, .ref (xd x a0)), (1, .int x1), (2, .int x2), (3, .int x3), (4, .int x4)] [] 0 0 M) : ∀ (n : Nat) (a0 : Nat) (x1 : Int32) (x2 : Int32) (x3 : Int32) (x4 : Int32) (x6 : Int32) (x7 : Int32) (M : Mem), L_Mo_rankOf_142 k5 post n a0 x1 x2 x3 x4 x6 x7 M → J x 10 142 [(0, .ref (xd x a0)), (1, .int x1), (2, .int x2), (3, .int x3), (4, .int x4), (6, .int x6), (7, .int x7)] [] 0 0 M := by
  intro n
  induction n with
  | zero => intro a0 x1 x2 x3 x4 x6 x7 M h; exact h.elim
  | succ n ih => intro a0 x1 x2 x3 x4 x6 x7 M h; exact Z_Mo_rankOf_142 C hR Rt K5 ih _ _ _ _ _ _ _ _ h
def B_Mo_rankOf_58 (k5 : Nat → Int32 → Int32 → Int32 → Int32 → Mem → Prop) (k58 : Nat → Int32 → Int32 → Int32 → Int32 → Int32 → Int32 → Mem → Prop) (post : Int32 → Mem → Prop) (a0 : Nat) (x1 : Int32) (x2 : Int32) (x3 : Int32) (x4 : Int32) (x5 : Int32) (x6 : Int32) (M : Mem) : Prop := ((x2 ≤ x6 → (isK M a0 7 ∧ ∃ q122, gR M a0 14 = some q122 ∧ isA M q122 8 ((x2 * x3) + x4) ∧ isK M a0 7 ∧ T_Mo_inverse a0 (gI M q122 (Int32.toNatClampNeg ((x2 * x3) + x4))) M (fun r132 M132 => ∃ n, L_Mo_rankOf_142 k5 post n a0 x1 x2 x3 x4 r132 (x3 + 1) M132))) ∧ (¬ x2 ≤ x6 → (isK M a0 7 ∧ ∃ q65, gR M a0 14 = some q65 ∧ isA M q65 8 ((x2 * x5) + x6) ∧ isK M a0 7 ∧ ∃ q79, gR M a0 14 = some q79 ∧ isK M a0 7 ∧ ∃ q90, gR M a0 14 = some q90 ∧ isA M q90 8 ((x2 * x3) + x6) ∧ isA M q79 8 ((x2 * x5) + x6) ∧ isK (sI M q79 (Int32.toNatClampNeg ((x2 * x5) + x6)) (gI M q90 (Int32.toNatClampNeg ((x2 * x3) + x6)))) a0 7 ∧ ∃ q102, gR (sI M q79 (Int32.toNatClampNeg ((x2 * x5) + x6)) (gI M q90 (Int32.toNatClampNeg ((x2 * x3) + x6)))) a0 14 = some q102 ∧ isA (sI M q79 (Int32.toNatClampNeg ((x2 * x5) + x6)) (gI M q90 (Int32.toNatClampNeg ((x2 * x3) + x6)))) q102 8 ((x2 * x3) + x6) ∧ k58 a0 x1 x2 x3 x4 x5 (x6 + 1) (sI (sI M q79 (Int32.toNatClampNeg ((x2 * x5) + x6)) (gI M q90 (Int32.toNatClampNeg ((x2 * x3) + x6)))) q102 (Int32.toNatClampNeg ((x2 * x3) + x6)) (gI M q65 (Int32.toNatClampNeg ((x2 * x5) + x6)))))))
set_option maxRecDepth 20000 in
theorem Z_Mo_rankOf_58 {x : Ctx} {post : Int32 → Mem → Prop} (C : Ok x b_Mo_rankOf 10 "HeapTowerModel") (hR : xR x = rm_Mo_rankOf) (Rt : RetI x .int post 0 0) {k5 : Nat → Int32 → Int32 → Int32 → Int32 → Mem → Prop} (K5 : ∀ (a0 : Nat) (x1 : Int32) (x2 : Int32) (x3 : Int32) (x4 : Int32) (M : Mem), k5 a0 x1 x2 x3 x4 M → J x 10 5 [(0, .ref (xd x a0)), (1, .int x1), (2, .int x2), (3, .int x3), (4, .int x4)] [] 0 0 M) {k58 : Nat → Int32 → Int32 → Int32 → Int32 → Int32 → Int32 → Mem → Prop} (K58 : ∀ (a0 : Nat) (x1 : Int32) (x2 : Int32) (x3 : Int32) (x4 : Int32) (x5 : Int32) (x6 : Int32) (M : Mem), k58 a0 x1 x2 x3 x4 x5 x6 M → J x 10 58 [(0, .ref (xd x a0)), (1, .int x1), (2, .int x2), (3, .int x3), (4, .int x4), (5, .int x5), (6, .int x6)] [] 0 0 M) (a0 : Nat) (x1 : Int32) (x2 : Int32) (x3 : Int32) (x4 : Int32) (x5 : Int32) (x6 : Int32) (M : Mem) (h : B_Mo_rankOf_58 k5 k58 post a0 x1 x2 x3 x4 x5 x6 M) : J x 10 58 [(0, .ref (xd x a0)), (1, .int x1), (2, .int x2), (3, .int x3), (4, .int x4), (5, .int x5), (6, .int x6)] [] 0 0 M := by
  unfold B_Mo_rankOf_58 at h
  refine J_iload C 6 D_Mo_rankOf_58 rfl ?_
  refine J_iload_n C 2 D_Mo_rankOf_60 rfl rfl ?_
  refine J_icmp_ge (tgt := 120) C D_Mo_rankOf_61 (by decide) (fun c_61 => ?_) (fun c_61 => ?_)
  · have h := h.1 c_61
    refine J_aload_n C 0 D_Mo_rankOf_120 rfl rfl ?_
    refine J_aload_n C 0 D_Mo_rankOf_121 rfl rfl ?_
    obtain ⟨c_122, q122, e_122, h⟩ := h
    refine J_getR C fl_Mo_39 D_Mo_rankOf_122 c_122 e_122 ?_
    refine J_iload_n C 2 D_Mo_rankOf_125 rfl rfl ?_
    refine J_iload_n C 3 D_Mo_rankOf_126 rfl rfl ?_
    refine J_imul C D_Mo_rankOf_127 ?_
    refine J_iload C 4 D_Mo_rankOf_128 rfl ?_
    refine J_iadd C D_Mo_rankOf_130 ?_
    obtain ⟨c_131, h⟩ := h
    refine J_iald C D_Mo_rankOf_131 c_131 ?_
    obtain ⟨c_132, h⟩ := h
    refine J_callVi C ml_Mo_127 (S_Mo_inverse _ _ _ _ h) (by rw [hR]; decide) rfl c_132 rfl (Nat.le_of_ble_eq_true rfl) D_Mo_rankOf_132 (fun r132 M132 h => ?_)
    refine J_istore (lv' := [(6, .int r132), (0, .ref (xd x a0)), (1, .int x1), (2, .int x2), (3, .int x3), (4, .int x4), (5, .int x5)]) C 6 D_Mo_rankOf_135 (by decide) rfl ?_
    refine J_iload_n C 3 D_Mo_rankOf_137 rfl rfl ?_
    refine J_iconst (v := 1) C D_Mo_rankOf_138 rfl ?_
    refine J_iadd C D_Mo_rankOf_139 ?_
    refine J_istore (lv' := [(7, .int (x3 + 1)), (6, .int r132), (0, .ref (xd x a0)), (1, .int x1), (2, .int x2), (3, .int x3), (4, .int x4), (5, .int x5)]) C 7 D_Mo_rankOf_140 (by decide) rfl ?_
    obtain ⟨n, h⟩ := h
    exact J_sub [2, 3, 4, 5, 6, 1, 0] rfl (Y_Mo_rankOf_142 C hR Rt K5 n _ _ _ _ _ _ _ _ h)
  · have h := h.2 c_61
    refine J_aload_n C 0 D_Mo_rankOf_64 rfl rfl ?_
    obtain ⟨c_65, q65, e_65, h⟩ := h
    refine J_getR C fl_Mo_39 D_Mo_rankOf_65 c_65 e_65 ?_
    refine J_iload_n C 2 D_Mo_rankOf_68 rfl rfl ?_
    refine J_iload C 5 D_Mo_rankOf_69 rfl ?_
    refine J_imul C D_Mo_rankOf_71 ?_
    refine J_iload C 6 D_Mo_rankOf_72 rfl ?_
    refine J_iadd C D_Mo_rankOf_74 ?_
    obtain ⟨c_75, h⟩ := h
    refine J_iald C D_Mo_rankOf_75 c_75 ?_
    refine J_istore (lv' := [(7, .int (gI M q65 (Int32.toNatClampNeg ((x2 * x5) + x6)))), (0, .ref (xd x a0)), (1, .int x1), (2, .int x2), (3, .int x3), (4, .int x4), (5, .int x5), (6, .int x6)]) C 7 D_Mo_rankOf_76 (by decide) rfl ?_
    refine J_aload_n C 0 D_Mo_rankOf_78 rfl rfl ?_
    obtain ⟨c_79, q79, e_79, h⟩ := h
    refine J_getR C fl_Mo_39 D_Mo_rankOf_79 c_79 e_79 ?_
    refine J_iload_n C 2 D_Mo_rankOf_82 rfl rfl ?_
    refine J_iload C 5 D_Mo_rankOf_83 rfl ?_
    refine J_imul C D_Mo_rankOf_85 ?_
    refine J_iload C 6 D_Mo_rankOf_86 rfl ?_
    refine J_iadd C D_Mo_rankOf_88 ?_
    refine J_aload_n C 0 D_Mo_rankOf_89 rfl rfl ?_
    obtain ⟨c_90, q90, e_90, h⟩ := h
    refine J_getR C fl_Mo_39 D_Mo_rankOf_90 c_90 e_90 ?_
    refine J_iload_n C 2 D_Mo_rankOf_93 rfl rfl ?_
    refine J_iload_n C 3 D_Mo_rankOf_94 rfl rfl ?_
    refine J_imul C D_Mo_rankOf_95 ?_
    refine J_iload C 6 D_Mo_rankOf_96 rfl ?_
    refine J_iadd C D_Mo_rankOf_98 ?_
    obtain ⟨c_99, h⟩ := h
    refine J_iald C D_Mo_rankOf_99 c_99 ?_
    obtain ⟨c_100, h⟩ := h
    refine J_iast C D_Mo_rankOf_100 c_100 ?_
    refine J_aload_n C 0 D_Mo_rankOf_101 rfl rfl ?_
    obtain ⟨c_102, q102, e_102, h⟩ := h
    refine J_getR C fl_Mo_39 D_Mo_rankOf_102 c_102 e_102 ?_
    refine J_iload_n C 2 D_Mo_rankOf_105 rfl rfl ?_
    refine J_iload_n C 3 D_Mo_rankOf_106 rfl rfl ?_
    refine J_imul C D_Mo_rankOf_107 ?_
    refine J_iload C 6 D_Mo_rankOf_108 rfl ?_
    refine J_iadd C D_Mo_rankOf_110 ?_
    refine J_iload C 7 D_Mo_rankOf_111 rfl ?_
    obtain ⟨c_113, h⟩ := h
    refine J_iast C D_Mo_rankOf_113 c_113 ?_
    refine J_iinc (v := x6 + 1) (lv' := [(6, .int (x6 + 1)), (7, .int (gI M q65 (Int32.toNatClampNeg ((x2 * x5) + x6)))), (0, .ref (xd x a0)), (1, .int x1), (2, .int x2), (3, .int x3), (4, .int x4), (5, .int x5)]) C 6 7 D_Mo_rankOf_114 rfl rfl (by decide) rfl ?_
    refine J_goto (tgt := 58) C D_Mo_rankOf_117 (by decide) ?_
    exact J_sub [2, 3, 4, 5, 6, 7, 0] rfl (K58 _ _ _ _ _ _ _ _ h)
def L_Mo_rankOf_58 (k5 : Nat → Int32 → Int32 → Int32 → Int32 → Mem → Prop) (post : Int32 → Mem → Prop) : Nat → Nat → Int32 → Int32 → Int32 → Int32 → Int32 → Int32 → Mem → Prop
  | 0, _, _, _, _, _, _, _, _ => False
  | n + 1, a0, x1, x2, x3, x4, x5, x6, M => B_Mo_rankOf_58 k5 (L_Mo_rankOf_58 k5 post n) post a0 x1 x2 x3 x4 x5 x6 M
theorem Y_Mo_rankOf_58 {x : Ctx} {post : Int32 → Mem → Prop} (C : Ok x b_Mo_rankOf 10 "HeapTowerModel") (hR : xR x = rm_Mo_rankOf) (Rt : RetI x .int post 0 0) {k5 : Nat → Int32 → Int32 → Int32 → Int32 → Mem → Prop} (K5 : ∀ (a0 : Nat) (x1 : Int32) (x2 : Int32) (x3 : Int32) (x4 : Int32) (M : Mem), k5 a0 x1 x2 x3 x4 M → J x 10 5 [(0, .ref (xd x a0)), (1, .int x1), (2, .int x2), (3, .int x3), (4, .int x4)] [] 0 0 M) : ∀ (n : Nat) (a0 : Nat) (x1 : Int32) (x2 : Int32) (x3 : Int32) (x4 : Int32) (x5 : Int32) (x6 : Int32) (M : Mem), L_Mo_rankOf_58 k5 post n a0 x1 x2 x3 x4 x5 x6 M → J x 10 58 [(0, .ref (xd x a0)), (1, .int x1), (2, .int x2), (3, .int x3), (4, .int x4), (5, .int x5), (6, .int x6)] [] 0 0 M := by
  intro n
  induction n with
  | zero => intro a0 x1 x2 x3 x4 x5 x6 M h; exact h.elim
  | succ n ih => intro a0 x1 x2 x3 x4 x5 x6 M h; exact Z_Mo_rankOf_58 C hR Rt K5 ih _ _ _ _ _ _ _ _ h
def B_Mo_rankOf_46 (k5 : Nat → Int32 → Int32 → Int32 → Int32 → Mem → Prop) (post : Int32 → Mem → Prop) (a0 : Nat) (x1 : Int32) (x2 : Int32) (x3 : Int32) (x4 : Int32) (x5 : Int32) (M : Mem) : Prop := ((¬ x5 = x1 → (∃ n, L_Mo_rankOf_58 k5 post n a0 x1 x2 x3 x4 x5 0 M)) ∧ (x5 = x1 → (B_Mo_rankOf_246 k5 post a0 x1 x2 x3 x4 M)))
set_option maxRecDepth 20000 in
theorem Z_Mo_rankOf_46 {x : Ctx} {post : Int32 → Mem → Prop} (C : Ok x b_Mo_rankOf 10 "HeapTowerModel") (hR : xR x = rm_Mo_rankOf) (Rt : RetI x .int post 0 0) {k5 : Nat → Int32 → Int32 → Int32 → Int32 → Mem → Prop} (K5 : ∀ (a0 : Nat) (x1 : Int32) (x2 : Int32) (x3 : Int32) (x4 : Int32) (M : Mem), k5 a0 x1 x2 x3 x4 M → J x 10 5 [(0, .ref (xd x a0)), (1, .int x1), (2, .int x2), (3, .int x3), (4, .int x4)] [] 0 0 M) (a0 : Nat) (x1 : Int32) (x2 : Int32) (x3 : Int32) (x4 : Int32) (x5 : Int32) (M : Mem) (h : B_Mo_rankOf_46 k5 post a0 x1 x2 x3 x4 x5 M) : J x 10 46 [(0, .ref (xd x a0)), (1, .int x1), (2, .int x2), (3, .int x3), (4, .int x4), (5, .int x5)] [] 0 0 M := by
  unfold B_Mo_rankOf_46 at h
  refine J_iload C 5 D_Mo_rankOf_46 rfl ?_
  refine J_iload_n C 1 D_Mo_rankOf_48 rfl rfl ?_
  refine J_icmp_ne (tgt := 55) C D_Mo_rankOf_49 (by decide) (fun c_49 => ?_) (fun c_49 => ?_)
  · have h := h.1 c_49
    refine J_iconst (v := 0) C D_Mo_rankOf_55 rfl ?_
    refine J_istore (lv' := [(6, .int 0), (0, .ref (xd x a0)), (1, .int x1), (2, .int x2), (3, .int x3), (4, .int x4), (5, .int x5)]) C 6 D_Mo_rankOf_56 (by decide) rfl ?_
    obtain ⟨n, h⟩ := h
    exact J_sub [1, 2, 3, 4, 5, 6, 0] rfl (Y_Mo_rankOf_58 C hR Rt K5 n _ _ _ _ _ _ _ _ h)
  · have h := h.2 c_49
    refine J_goto (tgt := 246) C D_Mo_rankOf_52 (by decide) ?_
    exact J_sub [0, 1, 2, 3, 4] rfl (Z_Mo_rankOf_246 C hR Rt K5 _ _ _ _ _ _ h)
def B_Mo_rankOf_19 (k5 : Nat → Int32 → Int32 → Int32 → Int32 → Mem → Prop) (k19 : Nat → Int32 → Int32 → Int32 → Int32 → Int32 → Mem → Prop) (post : Int32 → Mem → Prop) (a0 : Nat) (x1 : Int32) (x2 : Int32) (x3 : Int32) (x4 : Int32) (x5 : Int32) (M : Mem) : Prop := ((x1 ≤ x5 → (B_Mo_rankOf_46 k5 post a0 x1 x2 x3 x4 x5 M)) ∧ (¬ x1 ≤ x5 → (isK M a0 7 ∧ ∃ q26, gR M a0 14 = some q26 ∧ isA M q26 8 ((x2 * x5) + x4) ∧ (¬ (gI M q26 (Int32.toNatClampNeg ((x2 * x5) + x4))) = 0 → (B_Mo_rankOf_46 k5 post a0 x1 x2 x3 x4 x5 M)) ∧ ((gI M q26 (Int32.toNatClampNeg ((x2 * x5) + x4))) = 0 → (k19 a0 x1 x2 x3 x4 (x5 + 1) M)))))
set_option maxRecDepth 20000 in
theorem Z_Mo_rankOf_19 {x : Ctx} {post : Int32 → Mem → Prop} (C : Ok x b_Mo_rankOf 10 "HeapTowerModel") (hR : xR x = rm_Mo_rankOf) (Rt : RetI x .int post 0 0) {k5 : Nat → Int32 → Int32 → Int32 → Int32 → Mem → Prop} (K5 : ∀ (a0 : Nat) (x1 : Int32) (x2 : Int32) (x3 : Int32) (x4 : Int32) (M : Mem), k5 a0 x1 x2 x3 x4 M → J x 10 5 [(0, .ref (xd x a0)), (1, .int x1), (2, .int x2), (3, .int x3), (4, .int x4)] [] 0 0 M) {k19 : Nat → Int32 → Int32 → Int32 → Int32 → Int32 → Mem → Prop} (K19 : ∀ (a0 : Nat) (x1 : Int32) (x2 : Int32) (x3 : Int32) (x4 : Int32) (x5 : Int32) (M : Mem), k19 a0 x1 x2 x3 x4 x5 M → J x 10 19 [(0, .ref (xd x a0)), (1, .int x1), (2, .int x2), (3, .int x3), (4, .int x4), (5, .int x5)] [] 0 0 M) (a0 : Nat) (x1 : Int32) (x2 : Int32) (x3 : Int32) (x4 : Int32) (x5 : Int32) (M : Mem) (h : B_Mo_rankOf_19 k5 k19 post a0 x1 x2 x3 x4 x5 M) : J x 10 19 [(0, .ref (xd x a0)), (1, .int x1), (2, .int x2), (3, .int x3), (4, .int x4), (5, .int x5)] [] 0 0 M := by
  unfold B_Mo_rankOf_19 at h
  refine J_iload C 5 D_Mo_rankOf_19 rfl ?_
  refine J_iload_n C 1 D_Mo_rankOf_21 rfl rfl ?_
  refine J_icmp_ge (tgt := 46) C D_Mo_rankOf_22 (by decide) (fun c_22 => ?_) (fun c_22 => ?_)
  · have h := h.1 c_22
    exact J_sub [0, 1, 2, 3, 4, 5] rfl (Z_Mo_rankOf_46 C hR Rt K5 _ _ _ _ _ _ _ h)
  · have h := h.2 c_22
    refine J_aload_n C 0 D_Mo_rankOf_25 rfl rfl ?_
    obtain ⟨c_26, q26, e_26, h⟩ := h
    refine J_getR C fl_Mo_39 D_Mo_rankOf_26 c_26 e_26 ?_
    refine J_iload_n C 2 D_Mo_rankOf_29 rfl rfl ?_
    refine J_iload C 5 D_Mo_rankOf_30 rfl ?_
    refine J_imul C D_Mo_rankOf_32 ?_
    refine J_iload C 4 D_Mo_rankOf_33 rfl ?_
    refine J_iadd C D_Mo_rankOf_35 ?_
    obtain ⟨c_36, h⟩ := h
    refine J_iald C D_Mo_rankOf_36 c_36 ?_
    refine J_if_ne (tgt := 46) C D_Mo_rankOf_37 (by decide) (fun c_37 => ?_) (fun c_37 => ?_)
    · have h := h.1 c_37
      exact J_sub [0, 1, 2, 3, 4, 5] rfl (Z_Mo_rankOf_46 C hR Rt K5 _ _ _ _ _ _ _ h)
    · have h := h.2 c_37
      refine J_iinc (v := x5 + 1) (lv' := [(5, .int (x5 + 1)), (0, .ref (xd x a0)), (1, .int x1), (2, .int x2), (3, .int x3), (4, .int x4)]) C 5 5 D_Mo_rankOf_40 rfl rfl (by decide) rfl ?_
      refine J_goto (tgt := 19) C D_Mo_rankOf_43 (by decide) ?_
      exact J_sub [1, 2, 3, 4, 5, 0] rfl (K19 _ _ _ _ _ _ _ h)
def L_Mo_rankOf_19 (k5 : Nat → Int32 → Int32 → Int32 → Int32 → Mem → Prop) (post : Int32 → Mem → Prop) : Nat → Nat → Int32 → Int32 → Int32 → Int32 → Int32 → Mem → Prop
  | 0, _, _, _, _, _, _, _ => False
  | n + 1, a0, x1, x2, x3, x4, x5, M => B_Mo_rankOf_19 k5 (L_Mo_rankOf_19 k5 post n) post a0 x1 x2 x3 x4 x5 M
theorem Y_Mo_rankOf_19 {x : Ctx} {post : Int32 → Mem → Prop} (C : Ok x b_Mo_rankOf 10 "HeapTowerModel") (hR : xR x = rm_Mo_rankOf) (Rt : RetI x .int post 0 0) {k5 : Nat → Int32 → Int32 → Int32 → Int32 → Mem → Prop} (K5 : ∀ (a0 : Nat) (x1 : Int32) (x2 : Int32) (x3 : Int32) (x4 : Int32) (M : Mem), k5 a0 x1 x2 x3 x4 M → J x 10 5 [(0, .ref (xd x a0)), (1, .int x1), (2, .int x2), (3, .int x3), (4, .int x4)] [] 0 0 M) : ∀ (n : Nat) (a0 : Nat) (x1 : Int32) (x2 : Int32) (x3 : Int32) (x4 : Int32) (x5 : Int32) (M : Mem), L_Mo_rankOf_19 k5 post n a0 x1 x2 x3 x4 x5 M → J x 10 19 [(0, .ref (xd x a0)), (1, .int x1), (2, .int x2), (3, .int x3), (4, .int x4), (5, .int x5)] [] 0 0 M := by
  intro n
  induction n with
  | zero => intro a0 x1 x2 x3 x4 x5 M h; exact h.elim
  | succ n ih => intro a0 x1 x2 x3 x4 x5 M h; exact Z_Mo_rankOf_19 C hR Rt K5 ih _ _ _ _ _ _ _ h
def B_Mo_rankOf_5 (k5 : Nat → Int32 → Int32 → Int32 → Int32 → Mem → Prop) (post : Int32 → Mem → Prop) (a0 : Nat) (x1 : Int32) (x2 : Int32) (x3 : Int32) (x4 : Int32) (M : Mem) : Prop := ((x2 ≤ x4 → (B_Mo_rankOf_252 post x3 M)) ∧ (¬ x2 ≤ x4 → ((x1 ≤ x3 → (B_Mo_rankOf_252 post x3 M)) ∧ (¬ x1 ≤ x3 → (∃ n, L_Mo_rankOf_19 k5 post n a0 x1 x2 x3 x4 x3 M)))))
set_option maxRecDepth 20000 in
theorem Z_Mo_rankOf_5 {x : Ctx} {post : Int32 → Mem → Prop} (C : Ok x b_Mo_rankOf 10 "HeapTowerModel") (hR : xR x = rm_Mo_rankOf) (Rt : RetI x .int post 0 0) {k5 : Nat → Int32 → Int32 → Int32 → Int32 → Mem → Prop} (K5 : ∀ (a0 : Nat) (x1 : Int32) (x2 : Int32) (x3 : Int32) (x4 : Int32) (M : Mem), k5 a0 x1 x2 x3 x4 M → J x 10 5 [(0, .ref (xd x a0)), (1, .int x1), (2, .int x2), (3, .int x3), (4, .int x4)] [] 0 0 M) (a0 : Nat) (x1 : Int32) (x2 : Int32) (x3 : Int32) (x4 : Int32) (M : Mem) (h : B_Mo_rankOf_5 k5 post a0 x1 x2 x3 x4 M) : J x 10 5 [(0, .ref (xd x a0)), (1, .int x1), (2, .int x2), (3, .int x3), (4, .int x4)] [] 0 0 M := by
  unfold B_Mo_rankOf_5 at h
  refine J_iload C 4 D_Mo_rankOf_5 rfl ?_
  refine J_iload_n C 2 D_Mo_rankOf_7 rfl rfl ?_
  refine J_icmp_ge (tgt := 252) C D_Mo_rankOf_8 (by decide) (fun c_8 => ?_) (fun c_8 => ?_)
  · have h := h.1 c_8
    exact J_sub [3] rfl (Z_Mo_rankOf_252 C hR Rt  _ _ h)
  · have h := h.2 c_8
    refine J_iload_n C 3 D_Mo_rankOf_11 rfl rfl ?_
    refine J_iload_n C 1 D_Mo_rankOf_12 rfl rfl ?_
    refine J_icmp_ge (tgt := 252) C D_Mo_rankOf_13 (by decide) (fun c_13 => ?_) (fun c_13 => ?_)
    · have h := h.1 c_13
      exact J_sub [3] rfl (Z_Mo_rankOf_252 C hR Rt  _ _ h)
    · have h := h.2 c_13
      refine J_iload_n C 3 D_Mo_rankOf_16 rfl rfl ?_
      refine J_istore (lv' := [(5, .int x3), (0, .ref (xd x a0)), (1, .int x1), (2, .int x2), (3, .int x3), (4, .int x4)]) C 5 D_Mo_rankOf_17 (by decide) rfl ?_
      obtain ⟨n, h⟩ := h
      exact J_sub [1, 2, 3, 4, 5, 0] rfl (Y_Mo_rankOf_19 C hR Rt K5 n _ _ _ _ _ _ _ h)
def L_Mo_rankOf_5 (post : Int32 → Mem → Prop) : Nat → Nat → Int32 → Int32 → Int32 → Int32 → Mem → Prop
  | 0, _, _, _, _, _, _ => False
  | n + 1, a0, x1, x2, x3, x4, M => B_Mo_rankOf_5 (L_Mo_rankOf_5 post n) post a0 x1 x2 x3 x4 M
theorem Y_Mo_rankOf_5 {x : Ctx} {post : Int32 → Mem → Prop} (C : Ok x b_Mo_rankOf 10 "HeapTowerModel") (hR : xR x = rm_Mo_rankOf) (Rt : RetI x .int post 0 0) : ∀ (n : Nat) (a0 : Nat) (x1 : Int32) (x2 : Int32) (x3 : Int32) (x4 : Int32) (M : Mem), L_Mo_rankOf_5 post n a0 x1 x2 x3 x4 M → J x 10 5 [(0, .ref (xd x a0)), (1, .int x1), (2, .int x2), (3, .int x3), (4, .int x4)] [] 0 0 M := by
  intro n
  induction n with
  | zero => intro a0 x1 x2 x3 x4 M h; exact h.elim
  | succ n ih => intro a0 x1 x2 x3 x4 M h; exact Z_Mo_rankOf_5 C hR Rt ih _ _ _ _ _ _ h
def T_Mo_rankOf (a0 : Nat) (x1 : Int32) (x2 : Int32) (M : Mem) (post : Int32 → Mem → Prop) : Prop := (∃ n, L_Mo_rankOf_5 post n a0 x1 x2 0 0 M)
set_option maxRecDepth 20000 in
theorem S_Mo_rankOf {l : Launch} {D : va_G} {B t g : Nat} {d : Nat → Nat} {ac : Nat → ClassId}  (a0 : Nat) (x1 : Int32) (x2 : Int32) (M : Mem) (post : Int32 → Mem → Prop) (h : T_Mo_rankOf a0 x1 x2 M post) : Met l y_Mo_rankOf w_Mo_rankOf rm_Mo_rankOf (va_Pc [.ref (d a0), .int x1, .int x2] (PRE D B d g t ac M)) (QI D B d g ac post) 0 0 (AB B) := by
  refine met_i (by decide +kernel) (Nat.le_of_ble_eq_true rfl) (fun x h1 hR h3 h4 h5 h6 h7 h8 C Rt => ?_)
  subst h3 h4 h5 h6 h7 h8
  unfold T_Mo_rankOf at h
  show J x 10 0 [(0, .ref (xd x a0)), (1, .int x1), (2, .int x2)] [] 0 0 M
  refine J_iconst (v := 0) C D_Mo_rankOf_0 rfl ?_
  refine J_istore_n (lv' := [(3, .int 0), (0, .ref (xd x a0)), (1, .int x1), (2, .int x2)]) C 3 D_Mo_rankOf_1 rfl (by decide) rfl ?_
  refine J_iconst (v := 0) C D_Mo_rankOf_2 rfl ?_
  refine J_istore (lv' := [(4, .int 0), (3, .int 0), (0, .ref (xd x a0)), (1, .int x1), (2, .int x2)]) C 4 D_Mo_rankOf_3 (by decide) rfl ?_
  obtain ⟨n, h⟩ := h
  exact J_sub [2, 3, 4, 1, 0] rfl (Y_Mo_rankOf_5 C hR Rt  n _ _ _ _ _ _ h)
theorem D_Mo_takeStandard_0 : decode b_Mo_takeStandard 0 = .ok (.aload_n 0, 1) := by decide +kernel
theorem D_Mo_takeStandard_1 : decode b_Mo_takeStandard 1 = .ok (.iload_n 1, 1) := by decide +kernel
theorem D_Mo_takeStandard_2 : decode b_Mo_takeStandard 2 = .ok (.invokevirtual 139, 3) := by decide +kernel
theorem D_Mo_takeStandard_5 : decode b_Mo_takeStandard 5 = .ok (.aload_n 0, 1) := by decide +kernel
theorem D_Mo_takeStandard_6 : decode b_Mo_takeStandard 6 = .ok (.iconst 0, 1) := by decide +kernel
theorem D_Mo_takeStandard_7 : decode b_Mo_takeStandard 7 = .ok (.putfield 148, 3) := by decide +kernel
theorem D_Mo_takeStandard_10 : decode b_Mo_takeStandard 10 = .ok (.iconst 0, 1) := by decide +kernel
theorem D_Mo_takeStandard_11 : decode b_Mo_takeStandard 11 = .ok (.istore_n 2, 1) := by decide +kernel
theorem D_Mo_takeStandard_12 : decode b_Mo_takeStandard 12 = .ok (.iload_n 2, 1) := by decide +kernel
theorem D_Mo_takeStandard_13 : decode b_Mo_takeStandard 13 = .ok (.aload_n 0, 1) := by decide +kernel
theorem D_Mo_takeStandard_14 : decode b_Mo_takeStandard 14 = .ok (.getfield 115, 3) := by decide +kernel
theorem D_Mo_takeStandard_17 : decode b_Mo_takeStandard 17 = .ok (.if_icmp .ge 46, 3) := by decide +kernel
theorem D_Mo_takeStandard_20 : decode b_Mo_takeStandard 20 = .ok (.aload_n 0, 1) := by decide +kernel
theorem D_Mo_takeStandard_21 : decode b_Mo_takeStandard 21 = .ok (.getfield 32, 3) := by decide +kernel
theorem D_Mo_takeStandard_24 : decode b_Mo_takeStandard 24 = .ok (.iload_n 2, 1) := by decide +kernel
theorem D_Mo_takeStandard_25 : decode b_Mo_takeStandard 25 = .ok (.baload, 1) := by decide +kernel
theorem D_Mo_takeStandard_26 : decode b_Mo_takeStandard 26 = .ok (.ifCond .eq 6, 3) := by decide +kernel
theorem D_Mo_takeStandard_29 : decode b_Mo_takeStandard 29 = .ok (.goto 28, 3) := by decide +kernel
theorem D_Mo_takeStandard_32 : decode b_Mo_takeStandard 32 = .ok (.aload_n 0, 1) := by decide +kernel
theorem D_Mo_takeStandard_33 : decode b_Mo_takeStandard 33 = .ok (.getfield 42, 3) := by decide +kernel
theorem D_Mo_takeStandard_36 : decode b_Mo_takeStandard 36 = .ok (.aload_n 0, 1) := by decide +kernel
theorem D_Mo_takeStandard_37 : decode b_Mo_takeStandard 37 = .ok (.getfield 148, 3) := by decide +kernel
theorem D_Mo_takeStandard_40 : decode b_Mo_takeStandard 40 = .ok (.aload_n 0, 1) := by decide +kernel
theorem D_Mo_takeStandard_41 : decode b_Mo_takeStandard 41 = .ok (.getfield 20, 3) := by decide +kernel
theorem D_Mo_takeStandard_44 : decode b_Mo_takeStandard 44 = .ok (.iload_n 2, 1) := by decide +kernel
theorem D_Mo_takeStandard_45 : decode b_Mo_takeStandard 45 = .ok (.iaload, 1) := by decide +kernel
theorem D_Mo_takeStandard_46 : decode b_Mo_takeStandard 46 = .ok (.iastore, 1) := by decide +kernel
theorem D_Mo_takeStandard_47 : decode b_Mo_takeStandard 47 = .ok (.aload_n 0, 1) := by decide +kernel
theorem D_Mo_takeStandard_48 : decode b_Mo_takeStandard 48 = .ok (.dup, 1) := by decide +kernel
theorem D_Mo_takeStandard_49 : decode b_Mo_takeStandard 49 = .ok (.getfield 148, 3) := by decide +kernel
theorem D_Mo_takeStandard_52 : decode b_Mo_takeStandard 52 = .ok (.iconst 1, 1) := by decide +kernel
theorem D_Mo_takeStandard_53 : decode b_Mo_takeStandard 53 = .ok (.iadd, 1) := by decide +kernel
theorem D_Mo_takeStandard_54 : decode b_Mo_takeStandard 54 = .ok (.putfield 148, 3) := by decide +kernel
theorem D_Mo_takeStandard_57 : decode b_Mo_takeStandard 57 = .ok (.iinc 2 1, 3) := by decide +kernel
theorem D_Mo_takeStandard_60 : decode b_Mo_takeStandard 60 = .ok (.goto (-48), 3) := by decide +kernel
theorem D_Mo_takeStandard_63 : decode b_Mo_takeStandard 63 = .ok (.return_, 1) := by decide +kernel
abbrev rm_Mo_takeStandard : Room := { frames := 5, cells := 0, slots := 0, locals := 121 }
def B_Mo_takeStandard_57 (k12 : Nat → Int32 → Mem → Prop) (post : Mem → Prop) (a0 : Nat) (x2 : Int32) (M : Mem) : Prop := (k12 a0 (x2 + 1) M)
set_option maxRecDepth 20000 in
theorem Z_Mo_takeStandard_57 {x : Ctx} {post : Mem → Prop} (C : Ok x b_Mo_takeStandard 3 "HeapTowerModel") (hR : xR x = rm_Mo_takeStandard) (Rt : RetV x post 0 0) {k12 : Nat → Int32 → Mem → Prop} (K12 : ∀ (a0 : Nat) (x2 : Int32) (M : Mem), k12 a0 x2 M → J x 3 12 [(0, .ref (xd x a0)), (2, .int x2)] [] 0 0 M) (a0 : Nat) (x2 : Int32) (M : Mem) (h : B_Mo_takeStandard_57 k12 post a0 x2 M) : J x 3 57 [(0, .ref (xd x a0)), (2, .int x2)] [] 0 0 M := by
  unfold B_Mo_takeStandard_57 at h
  refine J_iinc (v := x2 + 1) (lv' := [(2, .int (x2 + 1)), (0, .ref (xd x a0))]) C 2 1 D_Mo_takeStandard_57 rfl rfl (by decide) rfl ?_
  refine J_goto (tgt := 12) C D_Mo_takeStandard_60 (by decide) ?_
  exact J_sub [1, 0] rfl (K12 _ _ _ h)
def B_Mo_takeStandard_12 (k12 : Nat → Int32 → Mem → Prop) (post : Mem → Prop) (a0 : Nat) (x2 : Int32) (M : Mem) : Prop := (isK M a0 7 ∧ ((gI M a0 8) ≤ x2 → (post M)) ∧ (¬ (gI M a0 8) ≤ x2 → (isK M a0 7 ∧ ∃ q21, gR M a0 11 = some q21 ∧ isA M q21 9 x2 ∧ ((gI M q21 (Int32.toNatClampNeg x2)) = 0 → (isK M a0 7 ∧ ∃ q33, gR M a0 15 = some q33 ∧ isK M a0 7 ∧ isK M a0 7 ∧ ∃ q41, gR M a0 6 = some q41 ∧ isA M q41 8 x2 ∧ isA M q33 8 (gI M a0 16) ∧ isK (sI M q33 (Int32.toNatClampNeg (gI M a0 16)) (gI M q41 (Int32.toNatClampNeg x2))) a0 7 ∧ isK (sI M q33 (Int32.toNatClampNeg (gI M a0 16)) (gI M q41 (Int32.toNatClampNeg x2))) a0 7 ∧ B_Mo_takeStandard_57 k12 post a0 x2 (sI (sI M q33 (Int32.toNatClampNeg (gI M a0 16)) (gI M q41 (Int32.toNatClampNeg x2))) a0 16 ((gI (sI M q33 (Int32.toNatClampNeg (gI M a0 16)) (gI M q41 (Int32.toNatClampNeg x2))) a0 16) + 1)))) ∧ (¬ (gI M q21 (Int32.toNatClampNeg x2)) = 0 → (B_Mo_takeStandard_57 k12 post a0 x2 M)))))
set_option maxRecDepth 20000 in
theorem Z_Mo_takeStandard_12 {x : Ctx} {post : Mem → Prop} (C : Ok x b_Mo_takeStandard 3 "HeapTowerModel") (hR : xR x = rm_Mo_takeStandard) (Rt : RetV x post 0 0) {k12 : Nat → Int32 → Mem → Prop} (K12 : ∀ (a0 : Nat) (x2 : Int32) (M : Mem), k12 a0 x2 M → J x 3 12 [(0, .ref (xd x a0)), (2, .int x2)] [] 0 0 M) (a0 : Nat) (x2 : Int32) (M : Mem) (h : B_Mo_takeStandard_12 k12 post a0 x2 M) : J x 3 12 [(0, .ref (xd x a0)), (2, .int x2)] [] 0 0 M := by
  unfold B_Mo_takeStandard_12 at h
  refine J_iload_n C 2 D_Mo_takeStandard_12 rfl rfl ?_
  refine J_aload_n C 0 D_Mo_takeStandard_13 rfl rfl ?_
  obtain ⟨c_14, h⟩ := h
  refine J_getI C fl_Mo_115 D_Mo_takeStandard_14 c_14 ?_
  refine J_icmp_ge (tgt := 63) C D_Mo_takeStandard_17 (by decide) (fun c_17 => ?_) (fun c_17 => ?_)
  · have h := h.1 c_17
    exact J_vret C Rt D_Mo_takeStandard_63 h
  · have h := h.2 c_17
    refine J_aload_n C 0 D_Mo_takeStandard_20 rfl rfl ?_
    obtain ⟨c_21, q21, e_21, h⟩ := h
    refine J_getR C fl_Mo_32 D_Mo_takeStandard_21 c_21 e_21 ?_
    refine J_iload_n C 2 D_Mo_takeStandard_24 rfl rfl ?_
    obtain ⟨c_25, h⟩ := h
    refine J_zald C D_Mo_takeStandard_25 c_25 ?_
    refine J_if_eq (tgt := 32) C D_Mo_takeStandard_26 (by decide) (fun c_26 => ?_) (fun c_26 => ?_)
    · have h := h.1 c_26
      refine J_aload_n C 0 D_Mo_takeStandard_32 rfl rfl ?_
      obtain ⟨c_33, q33, e_33, h⟩ := h
      refine J_getR C fl_Mo_42 D_Mo_takeStandard_33 c_33 e_33 ?_
      refine J_aload_n C 0 D_Mo_takeStandard_36 rfl rfl ?_
      obtain ⟨c_37, h⟩ := h
      refine J_getI C fl_Mo_148 D_Mo_takeStandard_37 c_37 ?_
      refine J_aload_n C 0 D_Mo_takeStandard_40 rfl rfl ?_
      obtain ⟨c_41, q41, e_41, h⟩ := h
      refine J_getR C fl_Mo_20 D_Mo_takeStandard_41 c_41 e_41 ?_
      refine J_iload_n C 2 D_Mo_takeStandard_44 rfl rfl ?_
      obtain ⟨c_45, h⟩ := h
      refine J_iald C D_Mo_takeStandard_45 c_45 ?_
      obtain ⟨c_46, h⟩ := h
      refine J_iast C D_Mo_takeStandard_46 c_46 ?_
      refine J_aload_n C 0 D_Mo_takeStandard_47 rfl rfl ?_
      refine J_dup C D_Mo_takeStandard_48 rfl ?_
      obtain ⟨c_49, h⟩ := h
      refine J_getI C fl_Mo_148 D_Mo_takeStandard_49 c_49 ?_
      refine J_iconst (v := 1) C D_Mo_takeStandard_52 rfl ?_
      refine J_iadd C D_Mo_takeStandard_53 ?_
      obtain ⟨c_54, h⟩ := h
      refine J_putI C fl_Mo_148 D_Mo_takeStandard_54 c_54 ?_
      exact J_sub [0, 1] rfl (Z_Mo_takeStandard_57 C hR Rt K12 _ _ _ h)
    · have h := h.2 c_26
      refine J_goto (tgt := 57) C D_Mo_takeStandard_29 (by decide) ?_
      exact J_sub [0, 1] rfl (Z_Mo_takeStandard_57 C hR Rt K12 _ _ _ h)
def L_Mo_takeStandard_12 (post : Mem → Prop) : Nat → Nat → Int32 → Mem → Prop
  | 0, _, _, _ => False
  | n + 1, a0, x2, M => B_Mo_takeStandard_12 (L_Mo_takeStandard_12 post n) post a0 x2 M
theorem Y_Mo_takeStandard_12 {x : Ctx} {post : Mem → Prop} (C : Ok x b_Mo_takeStandard 3 "HeapTowerModel") (hR : xR x = rm_Mo_takeStandard) (Rt : RetV x post 0 0) : ∀ (n : Nat) (a0 : Nat) (x2 : Int32) (M : Mem), L_Mo_takeStandard_12 post n a0 x2 M → J x 3 12 [(0, .ref (xd x a0)), (2, .int x2)] [] 0 0 M := by
  intro n
  induction n with
  | zero => intro a0 x2 M h; exact h.elim
  | succ n ih => intro a0 x2 M h; exact Z_Mo_takeStandard_12 C hR Rt ih _ _ _ h
def T_Mo_takeStandard (a0 : Nat) (x1 : Int32) (M : Mem) (post : Mem → Prop) : Prop := (isK M a0 7 ∧ T_Mo_heap a0 x1 M (fun M2 => isK M2 a0 7 ∧ ∃ n, L_Mo_takeStandard_12 post n a0 0 (sI M2 a0 16 0)))
set_option maxRecDepth 20000 in
theorem S_Mo_takeStandard {l : Launch} {D : va_G} {B t g : Nat} {d : Nat → Nat} {ac : Nat → ClassId}  (a0 : Nat) (x1 : Int32) (M : Mem) (post : Mem → Prop) (h : T_Mo_takeStandard a0 x1 M post) : Met l y_Mo_takeStandard w_Mo_takeStandard rm_Mo_takeStandard (va_Pc [.ref (d a0), .int x1] (PRE D B d g t ac M)) (QV D B d g ac post) 0 0 (AB B) := by
  refine met_v (by decide +kernel) (Nat.le_of_ble_eq_true rfl) (fun x h1 hR h3 h4 h5 h6 h7 h8 C Rt Nm => ?_)
  subst h3 h4 h5 h6 h7 h8
  unfold T_Mo_takeStandard at h
  show J x 3 0 [(0, .ref (xd x a0)), (1, .int x1)] [] 0 0 M
  refine J_aload_n C 0 D_Mo_takeStandard_0 rfl rfl ?_
  refine J_iload_n C 1 D_Mo_takeStandard_1 rfl rfl ?_
  obtain ⟨c_2, h⟩ := h
  refine J_callVv C ml_Mo_139 (S_Mo_heap _ _ _ _ h) (by rw [hR]; decide) rfl c_2 rfl (Nat.le_of_ble_eq_true rfl) D_Mo_takeStandard_2 (fun M2 h => ?_)
  refine J_aload_n C 0 D_Mo_takeStandard_5 rfl rfl ?_
  refine J_iconst (v := 0) C D_Mo_takeStandard_6 rfl ?_
  obtain ⟨c_7, h⟩ := h
  refine J_putI C fl_Mo_148 D_Mo_takeStandard_7 c_7 ?_
  refine J_iconst (v := 0) C D_Mo_takeStandard_10 rfl ?_
  refine J_istore_n (lv' := [(2, .int 0), (0, .ref (xd x a0)), (1, .int x1)]) C 2 D_Mo_takeStandard_11 rfl (by decide) rfl ?_
  obtain ⟨n, h⟩ := h
  exact J_sub [1, 0] rfl (Y_Mo_takeStandard_12 C hR Rt  n _ _ _ h)
theorem D_Mo_ones_0 : decode b_Mo_ones 0 = .ok (.iload_n 0, 1) := by decide +kernel
theorem D_Mo_ones_1 : decode b_Mo_ones 1 = .ok (.iconst 1, 1) := by decide +kernel
theorem D_Mo_ones_2 : decode b_Mo_ones 2 = .ok (.iand, 1) := by decide +kernel
theorem D_Mo_ones_3 : decode b_Mo_ones 3 = .ok (.iload_n 0, 1) := by decide +kernel
theorem D_Mo_ones_4 : decode b_Mo_ones 4 = .ok (.iconst 1, 1) := by decide +kernel
theorem D_Mo_ones_5 : decode b_Mo_ones 5 = .ok (.ishr, 1) := by decide +kernel
theorem D_Mo_ones_6 : decode b_Mo_ones 6 = .ok (.iconst 1, 1) := by decide +kernel
theorem D_Mo_ones_7 : decode b_Mo_ones 7 = .ok (.iand, 1) := by decide +kernel
theorem D_Mo_ones_8 : decode b_Mo_ones 8 = .ok (.iadd, 1) := by decide +kernel
theorem D_Mo_ones_9 : decode b_Mo_ones 9 = .ok (.iload_n 0, 1) := by decide +kernel
theorem D_Mo_ones_10 : decode b_Mo_ones 10 = .ok (.iconst 2, 1) := by decide +kernel
theorem D_Mo_ones_11 : decode b_Mo_ones 11 = .ok (.ishr, 1) := by decide +kernel
theorem D_Mo_ones_12 : decode b_Mo_ones 12 = .ok (.iconst 1, 1) := by decide +kernel
theorem D_Mo_ones_13 : decode b_Mo_ones 13 = .ok (.iand, 1) := by decide +kernel
theorem D_Mo_ones_14 : decode b_Mo_ones 14 = .ok (.iadd, 1) := by decide +kernel
theorem D_Mo_ones_15 : decode b_Mo_ones 15 = .ok (.ireturn, 1) := by decide +kernel
abbrev rm_Mo_ones : Room := { frames := 0, cells := 0, slots := 0, locals := 0 }
def T_Mo_ones (x0 : Int32) (M : Mem) (post : Int32 → Mem → Prop) : Prop := (post (((x0 &&& 1) + (((x0 : Int32) >>> ((1 : Int32) &&& 31)) &&& 1)) + (((x0 : Int32) >>> ((2 : Int32) &&& 31)) &&& 1)) M)
set_option maxRecDepth 20000 in
theorem S_Mo_ones {l : Launch} {D : va_G} {B t g : Nat} {d : Nat → Nat} {ac : Nat → ClassId}  (x0 : Int32) (M : Mem) (post : Int32 → Mem → Prop) (h : T_Mo_ones x0 M post) : Met l y_Mo_ones w_Mo_ones rm_Mo_ones (va_Pc [.int x0] (PRE D B d g t ac M)) (QI D B d g ac post) 0 0 (AB B) := by
  refine met_i (by decide +kernel) (Nat.le_of_ble_eq_true rfl) (fun x h1 hR h3 h4 h5 h6 h7 h8 C Rt => ?_)
  subst h3 h4 h5 h6 h7 h8
  unfold T_Mo_ones at h
  show J x 1 0 [(0, .int x0)] [] 0 0 M
  refine J_iload_n C 0 D_Mo_ones_0 rfl rfl ?_
  refine J_iconst (v := 1) C D_Mo_ones_1 rfl ?_
  refine J_iand C D_Mo_ones_2 ?_
  refine J_iload_n C 0 D_Mo_ones_3 rfl rfl ?_
  refine J_iconst (v := 1) C D_Mo_ones_4 rfl ?_
  refine J_ishr C D_Mo_ones_5 ?_
  refine J_iconst (v := 1) C D_Mo_ones_6 rfl ?_
  refine J_iand C D_Mo_ones_7 ?_
  refine J_iadd C D_Mo_ones_8 ?_
  refine J_iload_n C 0 D_Mo_ones_9 rfl rfl ?_
  refine J_iconst (v := 2) C D_Mo_ones_10 rfl ?_
  refine J_ishr C D_Mo_ones_11 ?_
  refine J_iconst (v := 1) C D_Mo_ones_12 rfl ?_
  refine J_iand C D_Mo_ones_13 ?_
  refine J_iadd C D_Mo_ones_14 ?_
  exact J_iret C Rt D_Mo_ones_15 rfl h
theorem D_Mo_setsOf_0 : decode b_Mo_setsOf 0 = .ok (.iconst 0, 1) := by decide +kernel
theorem D_Mo_setsOf_1 : decode b_Mo_setsOf 1 = .ok (.istore_n 2, 1) := by decide +kernel
theorem D_Mo_setsOf_2 : decode b_Mo_setsOf 2 = .ok (.iconst 0, 1) := by decide +kernel
theorem D_Mo_setsOf_3 : decode b_Mo_setsOf 3 = .ok (.istore_n 3, 1) := by decide +kernel
theorem D_Mo_setsOf_4 : decode b_Mo_setsOf 4 = .ok (.iload_n 3, 1) := by decide +kernel
theorem D_Mo_setsOf_5 : decode b_Mo_setsOf 5 = .ok (.iconst 1, 1) := by decide +kernel
theorem D_Mo_setsOf_6 : decode b_Mo_setsOf 6 = .ok (.aload_n 0, 1) := by decide +kernel
theorem D_Mo_setsOf_7 : decode b_Mo_setsOf 7 = .ok (.getfield 13, 3) := by decide +kernel
theorem D_Mo_setsOf_10 : decode b_Mo_setsOf 10 = .ok (.ishl, 1) := by decide +kernel
theorem D_Mo_setsOf_11 : decode b_Mo_setsOf 11 = .ok (.if_icmp .ge 25, 3) := by decide +kernel
theorem D_Mo_setsOf_14 : decode b_Mo_setsOf 14 = .ok (.iload_n 2, 1) := by decide +kernel
theorem D_Mo_setsOf_15 : decode b_Mo_setsOf 15 = .ok (.iload_n 3, 1) := by decide +kernel
theorem D_Mo_setsOf_16 : decode b_Mo_setsOf 16 = .ok (.invokestatic 151, 3) := by decide +kernel
theorem D_Mo_setsOf_19 : decode b_Mo_setsOf 19 = .ok (.iload_n 1, 1) := by decide +kernel
theorem D_Mo_setsOf_20 : decode b_Mo_setsOf 20 = .ok (.if_icmp .ne 7, 3) := by decide +kernel
theorem D_Mo_setsOf_23 : decode b_Mo_setsOf 23 = .ok (.iconst 1, 1) := by decide +kernel
theorem D_Mo_setsOf_24 : decode b_Mo_setsOf 24 = .ok (.goto 4, 3) := by decide +kernel
theorem D_Mo_setsOf_27 : decode b_Mo_setsOf 27 = .ok (.iconst 0, 1) := by decide +kernel
theorem D_Mo_setsOf_28 : decode b_Mo_setsOf 28 = .ok (.iadd, 1) := by decide +kernel
theorem D_Mo_setsOf_29 : decode b_Mo_setsOf 29 = .ok (.istore_n 2, 1) := by decide +kernel
theorem D_Mo_setsOf_30 : decode b_Mo_setsOf 30 = .ok (.iinc 3 1, 3) := by decide +kernel
theorem D_Mo_setsOf_33 : decode b_Mo_setsOf 33 = .ok (.goto (-29), 3) := by decide +kernel
theorem D_Mo_setsOf_36 : decode b_Mo_setsOf 36 = .ok (.iload_n 2, 1) := by decide +kernel
theorem D_Mo_setsOf_37 : decode b_Mo_setsOf 37 = .ok (.ireturn, 1) := by decide +kernel
abbrev rm_Mo_setsOf : Room := { frames := 1, cells := 0, slots := 0, locals := 20 }
def B_Mo_setsOf_28 (k4 : Nat → Int32 → Int32 → Int32 → Mem → Prop) (post : Int32 → Mem → Prop) (a0 : Nat) (x1 : Int32) (x3 : Int32) (s0 : Int32) (s1 : Int32) (M : Mem) : Prop := (k4 a0 x1 (s1 + s0) (x3 + 1) M)
set_option maxRecDepth 20000 in
theorem Z_Mo_setsOf_28 {x : Ctx} {post : Int32 → Mem → Prop} (C : Ok x b_Mo_setsOf 4 "HeapTowerModel") (hR : xR x = rm_Mo_setsOf) (Rt : RetI x .int post 0 0) {k4 : Nat → Int32 → Int32 → Int32 → Mem → Prop} (K4 : ∀ (a0 : Nat) (x1 : Int32) (x2 : Int32) (x3 : Int32) (M : Mem), k4 a0 x1 x2 x3 M → J x 4 4 [(0, .ref (xd x a0)), (1, .int x1), (2, .int x2), (3, .int x3)] [] 0 0 M) (a0 : Nat) (x1 : Int32) (x3 : Int32) (s0 : Int32) (s1 : Int32) (M : Mem) (h : B_Mo_setsOf_28 k4 post a0 x1 x3 s0 s1 M) : J x 4 28 [(0, .ref (xd x a0)), (1, .int x1), (3, .int x3)] [.int s0, .int s1] 0 0 M := by
  unfold B_Mo_setsOf_28 at h
  refine J_iadd C D_Mo_setsOf_28 ?_
  refine J_istore_n (lv' := [(2, .int (s1 + s0)), (0, .ref (xd x a0)), (1, .int x1), (3, .int x3)]) C 2 D_Mo_setsOf_29 rfl (by decide) rfl ?_
  refine J_iinc (v := x3 + 1) (lv' := [(3, .int (x3 + 1)), (2, .int (s1 + s0)), (0, .ref (xd x a0)), (1, .int x1)]) C 3 3 D_Mo_setsOf_30 rfl rfl (by decide) rfl ?_
  refine J_goto (tgt := 4) C D_Mo_setsOf_33 (by decide) ?_
  exact J_sub [2, 3, 1, 0] rfl (K4 _ _ _ _ _ h)
def B_Mo_setsOf_4 (k4 : Nat → Int32 → Int32 → Int32 → Mem → Prop) (post : Int32 → Mem → Prop) (a0 : Nat) (x1 : Int32) (x2 : Int32) (x3 : Int32) (M : Mem) : Prop := (isK M a0 7 ∧ (((1 : Int32) <<< (((gI M a0 1) : Int32) &&& 31)) ≤ x3 → (post x2 M)) ∧ (¬ ((1 : Int32) <<< (((gI M a0 1) : Int32) &&& 31)) ≤ x3 → (T_Mo_ones x3 M (fun r16 M16 => (¬ r16 = x1 → (B_Mo_setsOf_28 k4 post a0 x1 x3 0 x2 M16)) ∧ (r16 = x1 → (B_Mo_setsOf_28 k4 post a0 x1 x3 1 x2 M16))))))
set_option maxRecDepth 20000 in
theorem Z_Mo_setsOf_4 {x : Ctx} {post : Int32 → Mem → Prop} (C : Ok x b_Mo_setsOf 4 "HeapTowerModel") (hR : xR x = rm_Mo_setsOf) (Rt : RetI x .int post 0 0) {k4 : Nat → Int32 → Int32 → Int32 → Mem → Prop} (K4 : ∀ (a0 : Nat) (x1 : Int32) (x2 : Int32) (x3 : Int32) (M : Mem), k4 a0 x1 x2 x3 M → J x 4 4 [(0, .ref (xd x a0)), (1, .int x1), (2, .int x2), (3, .int x3)] [] 0 0 M) (a0 : Nat) (x1 : Int32) (x2 : Int32) (x3 : Int32) (M : Mem) (h : B_Mo_setsOf_4 k4 post a0 x1 x2 x3 M) : J x 4 4 [(0, .ref (xd x a0)), (1, .int x1), (2, .int x2), (3, .int x3)] [] 0 0 M := by
  unfold B_Mo_setsOf_4 at h
  refine J_iload_n C 3 D_Mo_setsOf_4 rfl rfl ?_
  refine J_iconst (v := 1) C D_Mo_setsOf_5 rfl ?_
  refine J_aload_n C 0 D_Mo_setsOf_6 rfl rfl ?_
  obtain ⟨c_7, h⟩ := h
  refine J_getI C fl_Mo_13 D_Mo_setsOf_7 c_7 ?_
  refine J_ishl C D_Mo_setsOf_10 ?_
  refine J_icmp_ge (tgt := 36) C D_Mo_setsOf_11 (by decide) (fun c_11 => ?_) (fun c_11 => ?_)
  · have h := h.1 c_11
    refine J_iload_n C 2 D_Mo_setsOf_36 rfl rfl ?_
    exact J_iret C Rt D_Mo_setsOf_37 rfl h
  · have h := h.2 c_11
    refine J_iload_n C 2 D_Mo_setsOf_14 rfl rfl ?_
    refine J_iload_n C 3 D_Mo_setsOf_15 rfl rfl ?_
    refine J_callSi C ml_Mo_151 (S_Mo_ones _ _ _ h) (by rw [hR]; decide) rfl rfl (Nat.le_of_ble_eq_true rfl) D_Mo_setsOf_16 (fun r16 M16 h => ?_)
    refine J_iload_n C 1 D_Mo_setsOf_19 rfl rfl ?_
    refine J_icmp_ne (tgt := 27) C D_Mo_setsOf_20 (by decide) (fun c_20 => ?_) (fun c_20 => ?_)
    · have h := h.1 c_20
      refine J_iconst (v := 0) C D_Mo_setsOf_27 rfl ?_
      exact J_sub [0, 1, 3] rfl (Z_Mo_setsOf_28 C hR Rt K4 _ _ _ _ _ _ h)
    · have h := h.2 c_20
      refine J_iconst (v := 1) C D_Mo_setsOf_23 rfl ?_
      refine J_goto (tgt := 28) C D_Mo_setsOf_24 (by decide) ?_
      exact J_sub [0, 1, 3] rfl (Z_Mo_setsOf_28 C hR Rt K4 _ _ _ _ _ _ h)
def L_Mo_setsOf_4 (post : Int32 → Mem → Prop) : Nat → Nat → Int32 → Int32 → Int32 → Mem → Prop
  | 0, _, _, _, _, _ => False
  | n + 1, a0, x1, x2, x3, M => B_Mo_setsOf_4 (L_Mo_setsOf_4 post n) post a0 x1 x2 x3 M
theorem Y_Mo_setsOf_4 {x : Ctx} {post : Int32 → Mem → Prop} (C : Ok x b_Mo_setsOf 4 "HeapTowerModel") (hR : xR x = rm_Mo_setsOf) (Rt : RetI x .int post 0 0) : ∀ (n : Nat) (a0 : Nat) (x1 : Int32) (x2 : Int32) (x3 : Int32) (M : Mem), L_Mo_setsOf_4 post n a0 x1 x2 x3 M → J x 4 4 [(0, .ref (xd x a0)), (1, .int x1), (2, .int x2), (3, .int x3)] [] 0 0 M := by
  intro n
  induction n with
  | zero => intro a0 x1 x2 x3 M h; exact h.elim
  | succ n ih => intro a0 x1 x2 x3 M h; exact Z_Mo_setsOf_4 C hR Rt ih _ _ _ _ _ h
def T_Mo_setsOf (a0 : Nat) (x1 : Int32) (M : Mem) (post : Int32 → Mem → Prop) : Prop := (∃ n, L_Mo_setsOf_4 post n a0 x1 0 0 M)
set_option maxRecDepth 20000 in
theorem S_Mo_setsOf {l : Launch} {D : va_G} {B t g : Nat} {d : Nat → Nat} {ac : Nat → ClassId}  (a0 : Nat) (x1 : Int32) (M : Mem) (post : Int32 → Mem → Prop) (h : T_Mo_setsOf a0 x1 M post) : Met l y_Mo_setsOf w_Mo_setsOf rm_Mo_setsOf (va_Pc [.ref (d a0), .int x1] (PRE D B d g t ac M)) (QI D B d g ac post) 0 0 (AB B) := by
  refine met_i (by decide +kernel) (Nat.le_of_ble_eq_true rfl) (fun x h1 hR h3 h4 h5 h6 h7 h8 C Rt => ?_)
  subst h3 h4 h5 h6 h7 h8
  unfold T_Mo_setsOf at h
  show J x 4 0 [(0, .ref (xd x a0)), (1, .int x1)] [] 0 0 M
  refine J_iconst (v := 0) C D_Mo_setsOf_0 rfl ?_
  refine J_istore_n (lv' := [(2, .int 0), (0, .ref (xd x a0)), (1, .int x1)]) C 2 D_Mo_setsOf_1 rfl (by decide) rfl ?_
  refine J_iconst (v := 0) C D_Mo_setsOf_2 rfl ?_
  refine J_istore_n (lv' := [(3, .int 0), (2, .int 0), (0, .ref (xd x a0)), (1, .int x1)]) C 3 D_Mo_setsOf_3 rfl (by decide) rfl ?_
  obtain ⟨n, h⟩ := h
  exact J_sub [2, 3, 1, 0] rfl (Y_Mo_setsOf_4 C hR Rt  n _ _ _ _ _ h)
theorem D_Mo_place_0 : decode b_Mo_place 0 = .ok (.iconst 0, 1) := by decide +kernel
theorem D_Mo_place_1 : decode b_Mo_place 1 = .ok (.istore_n 2, 1) := by decide +kernel
theorem D_Mo_place_2 : decode b_Mo_place 2 = .ok (.iconst 0, 1) := by decide +kernel
theorem D_Mo_place_3 : decode b_Mo_place 3 = .ok (.istore_n 3, 1) := by decide +kernel
theorem D_Mo_place_4 : decode b_Mo_place 4 = .ok (.iload_n 3, 1) := by decide +kernel
theorem D_Mo_place_5 : decode b_Mo_place 5 = .ok (.iload_n 1, 1) := by decide +kernel
theorem D_Mo_place_6 : decode b_Mo_place 6 = .ok (.if_icmp .ge 28, 3) := by decide +kernel
theorem D_Mo_place_9 : decode b_Mo_place 9 = .ok (.iload_n 2, 1) := by decide +kernel
theorem D_Mo_place_10 : decode b_Mo_place 10 = .ok (.iload_n 3, 1) := by decide +kernel
theorem D_Mo_place_11 : decode b_Mo_place 11 = .ok (.invokestatic 151, 3) := by decide +kernel
theorem D_Mo_place_14 : decode b_Mo_place 14 = .ok (.iload_n 1, 1) := by decide +kernel
theorem D_Mo_place_15 : decode b_Mo_place 15 = .ok (.invokestatic 151, 3) := by decide +kernel
theorem D_Mo_place_18 : decode b_Mo_place 18 = .ok (.if_icmp .ne 7, 3) := by decide +kernel
theorem D_Mo_place_21 : decode b_Mo_place 21 = .ok (.iconst 1, 1) := by decide +kernel
theorem D_Mo_place_22 : decode b_Mo_place 22 = .ok (.goto 4, 3) := by decide +kernel
theorem D_Mo_place_25 : decode b_Mo_place 25 = .ok (.iconst 0, 1) := by decide +kernel
theorem D_Mo_place_26 : decode b_Mo_place 26 = .ok (.iadd, 1) := by decide +kernel
theorem D_Mo_place_27 : decode b_Mo_place 27 = .ok (.istore_n 2, 1) := by decide +kernel
theorem D_Mo_place_28 : decode b_Mo_place 28 = .ok (.iinc 3 1, 3) := by decide +kernel
theorem D_Mo_place_31 : decode b_Mo_place 31 = .ok (.goto (-27), 3) := by decide +kernel
theorem D_Mo_place_34 : decode b_Mo_place 34 = .ok (.iload_n 2, 1) := by decide +kernel
theorem D_Mo_place_35 : decode b_Mo_place 35 = .ok (.ireturn, 1) := by decide +kernel
abbrev rm_Mo_place : Room := { frames := 1, cells := 0, slots := 0, locals := 20 }
def B_Mo_place_26 (k4 : Int32 → Int32 → Int32 → Mem → Prop) (post : Int32 → Mem → Prop) (x1 : Int32) (x3 : Int32) (s0 : Int32) (s1 : Int32) (M : Mem) : Prop := (k4 x1 (s1 + s0) (x3 + 1) M)
set_option maxRecDepth 20000 in
theorem Z_Mo_place_26 {x : Ctx} {post : Int32 → Mem → Prop} (C : Ok x b_Mo_place 4 "HeapTowerModel") (hR : xR x = rm_Mo_place) (Rt : RetI x .int post 0 0) {k4 : Int32 → Int32 → Int32 → Mem → Prop} (K4 : ∀ (x1 : Int32) (x2 : Int32) (x3 : Int32) (M : Mem), k4 x1 x2 x3 M → J x 4 4 [(1, .int x1), (2, .int x2), (3, .int x3)] [] 0 0 M) (x1 : Int32) (x3 : Int32) (s0 : Int32) (s1 : Int32) (M : Mem) (h : B_Mo_place_26 k4 post x1 x3 s0 s1 M) : J x 4 26 [(1, .int x1), (3, .int x3)] [.int s0, .int s1] 0 0 M := by
  unfold B_Mo_place_26 at h
  refine J_iadd C D_Mo_place_26 ?_
  refine J_istore_n (lv' := [(2, .int (s1 + s0)), (1, .int x1), (3, .int x3)]) C 2 D_Mo_place_27 rfl (by decide) rfl ?_
  refine J_iinc (v := x3 + 1) (lv' := [(3, .int (x3 + 1)), (2, .int (s1 + s0)), (1, .int x1)]) C 3 2 D_Mo_place_28 rfl rfl (by decide) rfl ?_
  refine J_goto (tgt := 4) C D_Mo_place_31 (by decide) ?_
  exact J_sub [2, 1, 0] rfl (K4 _ _ _ _ h)
def B_Mo_place_4 (k4 : Int32 → Int32 → Int32 → Mem → Prop) (post : Int32 → Mem → Prop) (x1 : Int32) (x2 : Int32) (x3 : Int32) (M : Mem) : Prop := ((x1 ≤ x3 → (post x2 M)) ∧ (¬ x1 ≤ x3 → (T_Mo_ones x3 M (fun r11 M11 => T_Mo_ones x1 M11 (fun r15 M15 => (¬ r11 = r15 → (B_Mo_place_26 k4 post x1 x3 0 x2 M15)) ∧ (r11 = r15 → (B_Mo_place_26 k4 post x1 x3 1 x2 M15)))))))
set_option maxRecDepth 20000 in
theorem Z_Mo_place_4 {x : Ctx} {post : Int32 → Mem → Prop} (C : Ok x b_Mo_place 4 "HeapTowerModel") (hR : xR x = rm_Mo_place) (Rt : RetI x .int post 0 0) {k4 : Int32 → Int32 → Int32 → Mem → Prop} (K4 : ∀ (x1 : Int32) (x2 : Int32) (x3 : Int32) (M : Mem), k4 x1 x2 x3 M → J x 4 4 [(1, .int x1), (2, .int x2), (3, .int x3)] [] 0 0 M) (x1 : Int32) (x2 : Int32) (x3 : Int32) (M : Mem) (h : B_Mo_place_4 k4 post x1 x2 x3 M) : J x 4 4 [(1, .int x1), (2, .int x2), (3, .int x3)] [] 0 0 M := by
  unfold B_Mo_place_4 at h
  refine J_iload_n C 3 D_Mo_place_4 rfl rfl ?_
  refine J_iload_n C 1 D_Mo_place_5 rfl rfl ?_
  refine J_icmp_ge (tgt := 34) C D_Mo_place_6 (by decide) (fun c_6 => ?_) (fun c_6 => ?_)
  · have h := h.1 c_6
    refine J_iload_n C 2 D_Mo_place_34 rfl rfl ?_
    exact J_iret C Rt D_Mo_place_35 rfl h
  · have h := h.2 c_6
    refine J_iload_n C 2 D_Mo_place_9 rfl rfl ?_
    refine J_iload_n C 3 D_Mo_place_10 rfl rfl ?_
    refine J_callSi C ml_Mo_151 (S_Mo_ones _ _ _ h) (by rw [hR]; decide) rfl rfl (Nat.le_of_ble_eq_true rfl) D_Mo_place_11 (fun r11 M11 h => ?_)
    refine J_iload_n C 1 D_Mo_place_14 rfl rfl ?_
    refine J_callSi C ml_Mo_151 (S_Mo_ones _ _ _ h) (by rw [hR]; decide) rfl rfl (Nat.le_of_ble_eq_true rfl) D_Mo_place_15 (fun r15 M15 h => ?_)
    refine J_icmp_ne (tgt := 25) C D_Mo_place_18 (by decide) (fun c_18 => ?_) (fun c_18 => ?_)
    · have h := h.1 c_18
      refine J_iconst (v := 0) C D_Mo_place_25 rfl ?_
      exact J_sub [0, 2] rfl (Z_Mo_place_26 C hR Rt K4 _ _ _ _ _ h)
    · have h := h.2 c_18
      refine J_iconst (v := 1) C D_Mo_place_21 rfl ?_
      refine J_goto (tgt := 26) C D_Mo_place_22 (by decide) ?_
      exact J_sub [0, 2] rfl (Z_Mo_place_26 C hR Rt K4 _ _ _ _ _ h)
def L_Mo_place_4 (post : Int32 → Mem → Prop) : Nat → Int32 → Int32 → Int32 → Mem → Prop
  | 0, _, _, _, _ => False
  | n + 1, x1, x2, x3, M => B_Mo_place_4 (L_Mo_place_4 post n) post x1 x2 x3 M
theorem Y_Mo_place_4 {x : Ctx} {post : Int32 → Mem → Prop} (C : Ok x b_Mo_place 4 "HeapTowerModel") (hR : xR x = rm_Mo_place) (Rt : RetI x .int post 0 0) : ∀ (n : Nat) (x1 : Int32) (x2 : Int32) (x3 : Int32) (M : Mem), L_Mo_place_4 post n x1 x2 x3 M → J x 4 4 [(1, .int x1), (2, .int x2), (3, .int x3)] [] 0 0 M := by
  intro n
  induction n with
  | zero => intro x1 x2 x3 M h; exact h.elim
  | succ n ih => intro x1 x2 x3 M h; exact Z_Mo_place_4 C hR Rt ih _ _ _ _ h
def T_Mo_place (a0 : Nat) (x1 : Int32) (M : Mem) (post : Int32 → Mem → Prop) : Prop := (∃ n, L_Mo_place_4 post n x1 0 0 M)
set_option maxRecDepth 20000 in
theorem S_Mo_place {l : Launch} {D : va_G} {B t g : Nat} {d : Nat → Nat} {ac : Nat → ClassId}  (a0 : Nat) (x1 : Int32) (M : Mem) (post : Int32 → Mem → Prop) (h : T_Mo_place a0 x1 M post) : Met l y_Mo_place w_Mo_place rm_Mo_place (va_Pc [.ref (d a0), .int x1] (PRE D B d g t ac M)) (QI D B d g ac post) 0 0 (AB B) := by
  refine met_i (by decide +kernel) (Nat.le_of_ble_eq_true rfl) (fun x h1 hR h3 h4 h5 h6 h7 h8 C Rt => ?_)
  subst h3 h4 h5 h6 h7 h8
  unfold T_Mo_place at h
  show J x 4 0 [(0, .ref (xd x a0)), (1, .int x1)] [] 0 0 M
  refine J_iconst (v := 0) C D_Mo_place_0 rfl ?_
  refine J_istore_n (lv' := [(2, .int 0), (0, .ref (xd x a0)), (1, .int x1)]) C 2 D_Mo_place_1 rfl (by decide) rfl ?_
  refine J_iconst (v := 0) C D_Mo_place_2 rfl ?_
  refine J_istore_n (lv' := [(3, .int 0), (2, .int 0), (0, .ref (xd x a0)), (1, .int x1)]) C 3 D_Mo_place_3 rfl (by decide) rfl ?_
  obtain ⟨n, h⟩ := h
  exact J_sub [3, 1, 0] rfl (Y_Mo_place_4 C hR Rt  n _ _ _ _ h)
theorem D_Mo_chains_0 : decode b_Mo_chains 0 = .ok (.iload_n 1, 1) := by decide +kernel
theorem D_Mo_chains_1 : decode b_Mo_chains 1 = .ok (.aload_n 0, 1) := by decide +kernel
theorem D_Mo_chains_2 : decode b_Mo_chains 2 = .ok (.getfield 13, 3) := by decide +kernel
theorem D_Mo_chains_5 : decode b_Mo_chains 5 = .ok (.if_icmp .gt 8, 3) := by decide +kernel
theorem D_Mo_chains_8 : decode b_Mo_chains 8 = .ok (.iload_n 2, 1) := by decide +kernel
theorem D_Mo_chains_9 : decode b_Mo_chains 9 = .ok (.iload_n 1, 1) := by decide +kernel
theorem D_Mo_chains_10 : decode b_Mo_chains 10 = .ok (.if_icmp .ge 5, 3) := by decide +kernel
theorem D_Mo_chains_13 : decode b_Mo_chains 13 = .ok (.iconst 0, 1) := by decide +kernel
theorem D_Mo_chains_14 : decode b_Mo_chains 14 = .ok (.ireturn, 1) := by decide +kernel
theorem D_Mo_chains_15 : decode b_Mo_chains 15 = .ok (.aload_n 0, 1) := by decide +kernel
theorem D_Mo_chains_16 : decode b_Mo_chains 16 = .ok (.iload_n 2, 1) := by decide +kernel
theorem D_Mo_chains_17 : decode b_Mo_chains 17 = .ok (.iload_n 1, 1) := by decide +kernel
theorem D_Mo_chains_18 : decode b_Mo_chains 18 = .ok (.isub, 1) := by decide +kernel
theorem D_Mo_chains_19 : decode b_Mo_chains 19 = .ok (.invokevirtual 139, 3) := by decide +kernel
theorem D_Mo_chains_22 : decode b_Mo_chains 22 = .ok (.aload_n 0, 1) := by decide +kernel
theorem D_Mo_chains_23 : decode b_Mo_chains 23 = .ok (.iload_n 1, 1) := by decide +kernel
theorem D_Mo_chains_24 : decode b_Mo_chains 24 = .ok (.invokevirtual 154, 3) := by decide +kernel
theorem D_Mo_chains_27 : decode b_Mo_chains 27 = .ok (.aload_n 0, 1) := by decide +kernel
theorem D_Mo_chains_28 : decode b_Mo_chains 28 = .ok (.getfield 115, 3) := by decide +kernel
theorem D_Mo_chains_31 : decode b_Mo_chains 31 = .ok (.aload_n 0, 1) := by decide +kernel
theorem D_Mo_chains_32 : decode b_Mo_chains 32 = .ok (.getfield 121, 3) := by decide +kernel
theorem D_Mo_chains_35 : decode b_Mo_chains 35 = .ok (.isub, 1) := by decide +kernel
theorem D_Mo_chains_36 : decode b_Mo_chains 36 = .ok (.imul, 1) := by decide +kernel
theorem D_Mo_chains_37 : decode b_Mo_chains 37 = .ok (.ireturn, 1) := by decide +kernel
abbrev rm_Mo_chains : Room := { frames := 5, cells := 0, slots := 0, locals := 121 }
def B_Mo_chains_13 (post : Int32 → Mem → Prop) (M : Mem) : Prop := (post 0 M)
set_option maxRecDepth 20000 in
theorem Z_Mo_chains_13 {x : Ctx} {post : Int32 → Mem → Prop} (C : Ok x b_Mo_chains 3 "HeapTowerModel") (hR : xR x = rm_Mo_chains) (Rt : RetI x .int post 0 0) (M : Mem) (h : B_Mo_chains_13 post M) : J x 3 13 [] [] 0 0 M := by
  unfold B_Mo_chains_13 at h
  refine J_iconst (v := 0) C D_Mo_chains_13 rfl ?_
  exact J_iret C Rt D_Mo_chains_14 rfl h
def T_Mo_chains (a0 : Nat) (x1 : Int32) (x2 : Int32) (M : Mem) (post : Int32 → Mem → Prop) : Prop := (isK M a0 7 ∧ ((gI M a0 1) < x1 → (B_Mo_chains_13 post M)) ∧ (¬ (gI M a0 1) < x1 → ((x1 ≤ x2 → (isK M a0 7 ∧ T_Mo_heap a0 (x2 - x1) M (fun M19 => isK M19 a0 7 ∧ T_Mo_setsOf a0 x1 M19 (fun r24 M24 => isK M24 a0 7 ∧ isK M24 a0 7 ∧ post (r24 * ((gI M24 a0 8) - (gI M24 a0 12))) M24)))) ∧ (¬ x1 ≤ x2 → (B_Mo_chains_13 post M)))))
set_option maxRecDepth 20000 in
theorem S_Mo_chains {l : Launch} {D : va_G} {B t g : Nat} {d : Nat → Nat} {ac : Nat → ClassId}  (a0 : Nat) (x1 : Int32) (x2 : Int32) (M : Mem) (post : Int32 → Mem → Prop) (h : T_Mo_chains a0 x1 x2 M post) : Met l y_Mo_chains w_Mo_chains rm_Mo_chains (va_Pc [.ref (d a0), .int x1, .int x2] (PRE D B d g t ac M)) (QI D B d g ac post) 0 0 (AB B) := by
  refine met_i (by decide +kernel) (Nat.le_of_ble_eq_true rfl) (fun x h1 hR h3 h4 h5 h6 h7 h8 C Rt => ?_)
  subst h3 h4 h5 h6 h7 h8
  unfold T_Mo_chains at h
  show J x 3 0 [(0, .ref (xd x a0)), (1, .int x1), (2, .int x2)] [] 0 0 M
  refine J_iload_n C 1 D_Mo_chains_0 rfl rfl ?_
  refine J_aload_n C 0 D_Mo_chains_1 rfl rfl ?_
  obtain ⟨c_2, h⟩ := h
  refine J_getI C fl_Mo_13 D_Mo_chains_2 c_2 ?_
  refine J_icmp_gt (tgt := 13) C D_Mo_chains_5 (by decide) (fun c_5 => ?_) (fun c_5 => ?_)
  · have h := h.1 c_5
    exact J_sub [] rfl (Z_Mo_chains_13 C hR Rt  _ h)
  · have h := h.2 c_5
    refine J_iload_n C 2 D_Mo_chains_8 rfl rfl ?_
    refine J_iload_n C 1 D_Mo_chains_9 rfl rfl ?_
    refine J_icmp_ge (tgt := 15) C D_Mo_chains_10 (by decide) (fun c_10 => ?_) (fun c_10 => ?_)
    · have h := h.1 c_10
      refine J_aload_n C 0 D_Mo_chains_15 rfl rfl ?_
      refine J_iload_n C 2 D_Mo_chains_16 rfl rfl ?_
      refine J_iload_n C 1 D_Mo_chains_17 rfl rfl ?_
      refine J_isub C D_Mo_chains_18 ?_
      obtain ⟨c_19, h⟩ := h
      refine J_callVv C ml_Mo_139 (S_Mo_heap _ _ _ _ h) (by rw [hR]; decide) rfl c_19 rfl (Nat.le_of_ble_eq_true rfl) D_Mo_chains_19 (fun M19 h => ?_)
      refine J_aload_n C 0 D_Mo_chains_22 rfl rfl ?_
      refine J_iload_n C 1 D_Mo_chains_23 rfl rfl ?_
      obtain ⟨c_24, h⟩ := h
      refine J_callVi C ml_Mo_154 (S_Mo_setsOf _ _ _ _ h) (by rw [hR]; decide) rfl c_24 rfl (Nat.le_of_ble_eq_true rfl) D_Mo_chains_24 (fun r24 M24 h => ?_)
      refine J_aload_n C 0 D_Mo_chains_27 rfl rfl ?_
      obtain ⟨c_28, h⟩ := h
      refine J_getI C fl_Mo_115 D_Mo_chains_28 c_28 ?_
      refine J_aload_n C 0 D_Mo_chains_31 rfl rfl ?_
      obtain ⟨c_32, h⟩ := h
      refine J_getI C fl_Mo_121 D_Mo_chains_32 c_32 ?_
      refine J_isub C D_Mo_chains_35 ?_
      refine J_imul C D_Mo_chains_36 ?_
      exact J_iret C Rt D_Mo_chains_37 rfl h
    · have h := h.2 c_10
      exact J_sub [] rfl (Z_Mo_chains_13 C hR Rt  _ h)
theorem D_Mo_product_0 : decode b_Mo_product 0 = .ok (.aload_n 0, 1) := by decide +kernel
theorem D_Mo_product_1 : decode b_Mo_product 1 = .ok (.getfield 23, 3) := by decide +kernel
theorem D_Mo_product_4 : decode b_Mo_product 4 = .ok (.iload_n 1, 1) := by decide +kernel
theorem D_Mo_product_5 : decode b_Mo_product 5 = .ok (.iaload, 1) := by decide +kernel
theorem D_Mo_product_6 : decode b_Mo_product 6 = .ok (.istore 4, 2) := by decide +kernel
theorem D_Mo_product_8 : decode b_Mo_product 8 = .ok (.iconst 0, 1) := by decide +kernel
theorem D_Mo_product_9 : decode b_Mo_product 9 = .ok (.istore 5, 2) := by decide +kernel
theorem D_Mo_product_11 : decode b_Mo_product 11 = .ok (.iload 5, 2) := by decide +kernel
theorem D_Mo_product_13 : decode b_Mo_product 13 = .ok (.aload_n 0, 1) := by decide +kernel
theorem D_Mo_product_14 : decode b_Mo_product 14 = .ok (.getfield 115, 3) := by decide +kernel
theorem D_Mo_product_17 : decode b_Mo_product 17 = .ok (.if_icmp .ge 109, 3) := by decide +kernel
theorem D_Mo_product_20 : decode b_Mo_product 20 = .ok (.aload_n 0, 1) := by decide +kernel
theorem D_Mo_product_21 : decode b_Mo_product 21 = .ok (.getfield 32, 3) := by decide +kernel
theorem D_Mo_product_24 : decode b_Mo_product 24 = .ok (.iload 5, 2) := by decide +kernel
theorem D_Mo_product_26 : decode b_Mo_product 26 = .ok (.baload, 1) := by decide +kernel
theorem D_Mo_product_27 : decode b_Mo_product 27 = .ok (.ifCond .eq 6, 3) := by decide +kernel
theorem D_Mo_product_30 : decode b_Mo_product 30 = .ok (.goto 90, 3) := by decide +kernel
theorem D_Mo_product_33 : decode b_Mo_product 33 = .ok (.aload_n 0, 1) := by decide +kernel
theorem D_Mo_product_34 : decode b_Mo_product 34 = .ok (.getfield 32, 3) := by decide +kernel
theorem D_Mo_product_37 : decode b_Mo_product 37 = .ok (.iload 4, 2) := by decide +kernel
theorem D_Mo_product_39 : decode b_Mo_product 39 = .ok (.baload, 1) := by decide +kernel
theorem D_Mo_product_40 : decode b_Mo_product 40 = .ok (.ifCond .eq 20, 3) := by decide +kernel
theorem D_Mo_product_43 : decode b_Mo_product 43 = .ok (.aload_n 0, 1) := by decide +kernel
theorem D_Mo_product_44 : decode b_Mo_product 44 = .ok (.getfield 26, 3) := by decide +kernel
theorem D_Mo_product_47 : decode b_Mo_product 47 = .ok (.bipush 66, 2) := by decide +kernel
theorem D_Mo_product_49 : decode b_Mo_product 49 = .ok (.iload 4, 2) := by decide +kernel
theorem D_Mo_product_51 : decode b_Mo_product 51 = .ok (.imul, 1) := by decide +kernel
theorem D_Mo_product_52 : decode b_Mo_product 52 = .ok (.iload 5, 2) := by decide +kernel
theorem D_Mo_product_54 : decode b_Mo_product 54 = .ok (.iadd, 1) := by decide +kernel
theorem D_Mo_product_55 : decode b_Mo_product 55 = .ok (.iaload, 1) := by decide +kernel
theorem D_Mo_product_56 : decode b_Mo_product 56 = .ok (.ineg, 1) := by decide +kernel
theorem D_Mo_product_57 : decode b_Mo_product 57 = .ok (.goto 15, 3) := by decide +kernel
theorem D_Mo_product_60 : decode b_Mo_product 60 = .ok (.iload 5, 2) := by decide +kernel
theorem D_Mo_product_62 : decode b_Mo_product 62 = .ok (.iload 4, 2) := by decide +kernel
theorem D_Mo_product_64 : decode b_Mo_product 64 = .ok (.if_icmp .ne 7, 3) := by decide +kernel
theorem D_Mo_product_67 : decode b_Mo_product 67 = .ok (.iconst 1, 1) := by decide +kernel
theorem D_Mo_product_68 : decode b_Mo_product 68 = .ok (.goto 4, 3) := by decide +kernel
theorem D_Mo_product_71 : decode b_Mo_product 71 = .ok (.iconst 0, 1) := by decide +kernel
theorem D_Mo_product_72 : decode b_Mo_product 72 = .ok (.istore 6, 2) := by decide +kernel
theorem D_Mo_product_74 : decode b_Mo_product 74 = .ok (.aload_n 0, 1) := by decide +kernel
theorem D_Mo_product_75 : decode b_Mo_product 75 = .ok (.getfield 39, 3) := by decide +kernel
theorem D_Mo_product_78 : decode b_Mo_product 78 = .ok (.iload_n 2, 1) := by decide +kernel
theorem D_Mo_product_79 : decode b_Mo_product 79 = .ok (.aload_n 0, 1) := by decide +kernel
theorem D_Mo_product_80 : decode b_Mo_product 80 = .ok (.getfield 45, 3) := by decide +kernel
theorem D_Mo_product_83 : decode b_Mo_product 83 = .ok (.iload 5, 2) := by decide +kernel
theorem D_Mo_product_85 : decode b_Mo_product 85 = .ok (.iaload, 1) := by decide +kernel
theorem D_Mo_product_86 : decode b_Mo_product 86 = .ok (.iadd, 1) := by decide +kernel
theorem D_Mo_product_87 : decode b_Mo_product 87 = .ok (.aload_n 0, 1) := by decide +kernel
theorem D_Mo_product_88 : decode b_Mo_product 88 = .ok (.aload_n 0, 1) := by decide +kernel
theorem D_Mo_product_89 : decode b_Mo_product 89 = .ok (.getfield 39, 3) := by decide +kernel
theorem D_Mo_product_92 : decode b_Mo_product 92 = .ok (.iload_n 2, 1) := by decide +kernel
theorem D_Mo_product_93 : decode b_Mo_product 93 = .ok (.aload_n 0, 1) := by decide +kernel
theorem D_Mo_product_94 : decode b_Mo_product 94 = .ok (.getfield 45, 3) := by decide +kernel
theorem D_Mo_product_97 : decode b_Mo_product 97 = .ok (.iload 5, 2) := by decide +kernel
theorem D_Mo_product_99 : decode b_Mo_product 99 = .ok (.iaload, 1) := by decide +kernel
theorem D_Mo_product_100 : decode b_Mo_product 100 = .ok (.iadd, 1) := by decide +kernel
theorem D_Mo_product_101 : decode b_Mo_product 101 = .ok (.iaload, 1) := by decide +kernel
theorem D_Mo_product_102 : decode b_Mo_product 102 = .ok (.iload_n 3, 1) := by decide +kernel
theorem D_Mo_product_103 : decode b_Mo_product 103 = .ok (.ifCond .eq 9, 3) := by decide +kernel
theorem D_Mo_product_106 : decode b_Mo_product 106 = .ok (.iload 6, 2) := by decide +kernel
theorem D_Mo_product_108 : decode b_Mo_product 108 = .ok (.ineg, 1) := by decide +kernel
theorem D_Mo_product_109 : decode b_Mo_product 109 = .ok (.goto 5, 3) := by decide +kernel
theorem D_Mo_product_112 : decode b_Mo_product 112 = .ok (.iload 6, 2) := by decide +kernel
theorem D_Mo_product_114 : decode b_Mo_product 114 = .ok (.iadd, 1) := by decide +kernel
theorem D_Mo_product_115 : decode b_Mo_product 115 = .ok (.i2l, 1) := by decide +kernel
theorem D_Mo_product_116 : decode b_Mo_product 116 = .ok (.invokevirtual 48, 3) := by decide +kernel
theorem D_Mo_product_119 : decode b_Mo_product 119 = .ok (.iastore, 1) := by decide +kernel
theorem D_Mo_product_120 : decode b_Mo_product 120 = .ok (.iinc 5 1, 3) := by decide +kernel
theorem D_Mo_product_123 : decode b_Mo_product 123 = .ok (.goto (-112), 3) := by decide +kernel
theorem D_Mo_product_126 : decode b_Mo_product 126 = .ok (.return_, 1) := by decide +kernel
abbrev rm_Mo_product : Room := { frames := 1, cells := 0, slots := 0, locals := 24 }
def B_Mo_product_120 (k11 : Nat → Int32 → Int32 → Int32 → Int32 → Mem → Prop) (post : Mem → Prop) (a0 : Nat) (x2 : Int32) (x3 : Int32) (x4 : Int32) (x5 : Int32) (M : Mem) : Prop := (k11 a0 x2 x3 x4 (x5 + 1) M)
set_option maxRecDepth 20000 in
theorem Z_Mo_product_120 {x : Ctx} {post : Mem → Prop} (C : Ok x b_Mo_product 7 "HeapTowerModel") (hR : xR x = rm_Mo_product) (Rt : RetV x post 0 0) {k11 : Nat → Int32 → Int32 → Int32 → Int32 → Mem → Prop} (K11 : ∀ (a0 : Nat) (x2 : Int32) (x3 : Int32) (x4 : Int32) (x5 : Int32) (M : Mem), k11 a0 x2 x3 x4 x5 M → J x 7 11 [(0, .ref (xd x a0)), (2, .int x2), (3, .int x3), (4, .int x4), (5, .int x5)] [] 0 0 M) (a0 : Nat) (x2 : Int32) (x3 : Int32) (x4 : Int32) (x5 : Int32) (M : Mem) (h : B_Mo_product_120 k11 post a0 x2 x3 x4 x5 M) : J x 7 120 [(0, .ref (xd x a0)), (2, .int x2), (3, .int x3), (4, .int x4), (5, .int x5)] [] 0 0 M := by
  unfold B_Mo_product_120 at h
  refine J_iinc (v := x5 + 1) (lv' := [(5, .int (x5 + 1)), (0, .ref (xd x a0)), (2, .int x2), (3, .int x3), (4, .int x4)]) C 5 4 D_Mo_product_120 rfl rfl (by decide) rfl ?_
  refine J_goto (tgt := 11) C D_Mo_product_123 (by decide) ?_
  exact J_sub [1, 2, 3, 4, 0] rfl (K11 _ _ _ _ _ _ h)
def B_Mo_product_114 (k11 : Nat → Int32 → Int32 → Int32 → Int32 → Mem → Prop) (post : Mem → Prop) (a0 : Nat) (x2 : Int32) (x3 : Int32) (x4 : Int32) (x5 : Int32) (s0 : Int32) (s1 : Int32) (t2 : Nat) (s3 : Int32) (t4 : Nat) (M : Mem) : Prop := (isK M t2 7 ∧ T_Mo_mod t2 (Int32.toInt64 (s1 + s0)) M (fun r116 M116 => isA M116 t4 8 s3 ∧ B_Mo_product_120 k11 post a0 x2 x3 x4 x5 (sI M116 t4 (Int32.toNatClampNeg s3) r116)))
set_option maxRecDepth 20000 in
theorem Z_Mo_product_114 {x : Ctx} {post : Mem → Prop} (C : Ok x b_Mo_product 7 "HeapTowerModel") (hR : xR x = rm_Mo_product) (Rt : RetV x post 0 0) {k11 : Nat → Int32 → Int32 → Int32 → Int32 → Mem → Prop} (K11 : ∀ (a0 : Nat) (x2 : Int32) (x3 : Int32) (x4 : Int32) (x5 : Int32) (M : Mem), k11 a0 x2 x3 x4 x5 M → J x 7 11 [(0, .ref (xd x a0)), (2, .int x2), (3, .int x3), (4, .int x4), (5, .int x5)] [] 0 0 M) (a0 : Nat) (x2 : Int32) (x3 : Int32) (x4 : Int32) (x5 : Int32) (s0 : Int32) (s1 : Int32) (t2 : Nat) (s3 : Int32) (t4 : Nat) (M : Mem) (h : B_Mo_product_114 k11 post a0 x2 x3 x4 x5 s0 s1 t2 s3 t4 M) : J x 7 114 [(0, .ref (xd x a0)), (2, .int x2), (3, .int x3), (4, .int x4), (5, .int x5)] [.int s0, .int s1, .ref (xd x t2), .int s3, .ref (xd x t4)] 0 0 M := by
  unfold B_Mo_product_114 at h
  refine J_iadd C D_Mo_product_114 ?_
  refine J_i2l C D_Mo_product_115 ?_
  obtain ⟨c_116, h⟩ := h
  refine J_callVi C ml_Mo_48 (S_Mo_mod _ _ _ _ h) (by rw [hR]; decide) rfl c_116 rfl (Nat.le_of_ble_eq_true rfl) D_Mo_product_116 (fun r116 M116 h => ?_)
  obtain ⟨c_119, h⟩ := h
  refine J_iast C D_Mo_product_119 c_119 ?_
  exact J_sub [0, 1, 2, 3, 4] rfl (Z_Mo_product_120 C hR Rt K11 _ _ _ _ _ _ h)
def B_Mo_product_72 (k11 : Nat → Int32 → Int32 → Int32 → Int32 → Mem → Prop) (post : Mem → Prop) (a0 : Nat) (x2 : Int32) (x3 : Int32) (x4 : Int32) (x5 : Int32) (s0 : Int32) (M : Mem) : Prop := (isK M a0 7 ∧ ∃ q75, gR M a0 14 = some q75 ∧ isK M a0 7 ∧ ∃ q80, gR M a0 17 = some q80 ∧ isA M q80 8 x5 ∧ isK M a0 7 ∧ ∃ q89, gR M a0 14 = some q89 ∧ isK M a0 7 ∧ ∃ q94, gR M a0 17 = some q94 ∧ isA M q94 8 x5 ∧ isA M q89 8 (x2 + (gI M q94 (Int32.toNatClampNeg x5))) ∧ (x3 = 0 → (B_Mo_product_114 k11 post a0 x2 x3 x4 x5 s0 (gI M q89 (Int32.toNatClampNeg (x2 + (gI M q94 (Int32.toNatClampNeg x5))))) a0 (x2 + (gI M q80 (Int32.toNatClampNeg x5))) q75 M)) ∧ (¬ x3 = 0 → (B_Mo_product_114 k11 post a0 x2 x3 x4 x5 (-s0) (gI M q89 (Int32.toNatClampNeg (x2 + (gI M q94 (Int32.toNatClampNeg x5))))) a0 (x2 + (gI M q80 (Int32.toNatClampNeg x5))) q75 M)))
set_option maxRecDepth 20000 in
theorem Z_Mo_product_72 {x : Ctx} {post : Mem → Prop} (C : Ok x b_Mo_product 7 "HeapTowerModel") (hR : xR x = rm_Mo_product) (Rt : RetV x post 0 0) {k11 : Nat → Int32 → Int32 → Int32 → Int32 → Mem → Prop} (K11 : ∀ (a0 : Nat) (x2 : Int32) (x3 : Int32) (x4 : Int32) (x5 : Int32) (M : Mem), k11 a0 x2 x3 x4 x5 M → J x 7 11 [(0, .ref (xd x a0)), (2, .int x2), (3, .int x3), (4, .int x4), (5, .int x5)] [] 0 0 M) (a0 : Nat) (x2 : Int32) (x3 : Int32) (x4 : Int32) (x5 : Int32) (s0 : Int32) (M : Mem) (h : B_Mo_product_72 k11 post a0 x2 x3 x4 x5 s0 M) : J x 7 72 [(0, .ref (xd x a0)), (2, .int x2), (3, .int x3), (4, .int x4), (5, .int x5)] [.int s0] 0 0 M := by
  unfold B_Mo_product_72 at h
  refine J_istore (lv' := [(6, .int s0), (0, .ref (xd x a0)), (2, .int x2), (3, .int x3), (4, .int x4), (5, .int x5)]) C 6 D_Mo_product_72 (by decide) rfl ?_
  refine J_aload_n C 0 D_Mo_product_74 rfl rfl ?_
  obtain ⟨c_75, q75, e_75, h⟩ := h
  refine J_getR C fl_Mo_39 D_Mo_product_75 c_75 e_75 ?_
  refine J_iload_n C 2 D_Mo_product_78 rfl rfl ?_
  refine J_aload_n C 0 D_Mo_product_79 rfl rfl ?_
  obtain ⟨c_80, q80, e_80, h⟩ := h
  refine J_getR C fl_Mo_45 D_Mo_product_80 c_80 e_80 ?_
  refine J_iload C 5 D_Mo_product_83 rfl ?_
  obtain ⟨c_85, h⟩ := h
  refine J_iald C D_Mo_product_85 c_85 ?_
  refine J_iadd C D_Mo_product_86 ?_
  refine J_aload_n C 0 D_Mo_product_87 rfl rfl ?_
  refine J_aload_n C 0 D_Mo_product_88 rfl rfl ?_
  obtain ⟨c_89, q89, e_89, h⟩ := h
  refine J_getR C fl_Mo_39 D_Mo_product_89 c_89 e_89 ?_
  refine J_iload_n C 2 D_Mo_product_92 rfl rfl ?_
  refine J_aload_n C 0 D_Mo_product_93 rfl rfl ?_
  obtain ⟨c_94, q94, e_94, h⟩ := h
  refine J_getR C fl_Mo_45 D_Mo_product_94 c_94 e_94 ?_
  refine J_iload C 5 D_Mo_product_97 rfl ?_
  obtain ⟨c_99, h⟩ := h
  refine J_iald C D_Mo_product_99 c_99 ?_
  refine J_iadd C D_Mo_product_100 ?_
  obtain ⟨c_101, h⟩ := h
  refine J_iald C D_Mo_product_101 c_101 ?_
  refine J_iload_n C 3 D_Mo_product_102 rfl rfl ?_
  refine J_if_eq (tgt := 112) C D_Mo_product_103 (by decide) (fun c_103 => ?_) (fun c_103 => ?_)
  · have h := h.1 c_103
    refine J_iload C 6 D_Mo_product_112 rfl ?_
    exact J_sub [1, 2, 3, 4, 5] rfl (Z_Mo_product_114 C hR Rt K11 _ _ _ _ _ _ _ _ _ _ _ h)
  · have h := h.2 c_103
    refine J_iload C 6 D_Mo_product_106 rfl ?_
    refine J_ineg C D_Mo_product_108 ?_
    refine J_goto (tgt := 114) C D_Mo_product_109 (by decide) ?_
    exact J_sub [1, 2, 3, 4, 5] rfl (Z_Mo_product_114 C hR Rt K11 _ _ _ _ _ _ _ _ _ _ _ h)
def B_Mo_product_11 (k11 : Nat → Int32 → Int32 → Int32 → Int32 → Mem → Prop) (post : Mem → Prop) (a0 : Nat) (x2 : Int32) (x3 : Int32) (x4 : Int32) (x5 : Int32) (M : Mem) : Prop := (isK M a0 7 ∧ ((gI M a0 8) ≤ x5 → (post M)) ∧ (¬ (gI M a0 8) ≤ x5 → (isK M a0 7 ∧ ∃ q21, gR M a0 11 = some q21 ∧ isA M q21 9 x5 ∧ ((gI M q21 (Int32.toNatClampNeg x5)) = 0 → (isK M a0 7 ∧ ∃ q34, gR M a0 11 = some q34 ∧ isA M q34 9 x4 ∧ ((gI M q34 (Int32.toNatClampNeg x4)) = 0 → ((¬ x5 = x4 → (B_Mo_product_72 k11 post a0 x2 x3 x4 x5 0 M)) ∧ (x5 = x4 → (B_Mo_product_72 k11 post a0 x2 x3 x4 x5 1 M)))) ∧ (¬ (gI M q34 (Int32.toNatClampNeg x4)) = 0 → (isK M a0 7 ∧ ∃ q44, gR M a0 9 = some q44 ∧ isA M q44 8 ((66 * x4) + x5) ∧ B_Mo_product_72 k11 post a0 x2 x3 x4 x5 (-(gI M q44 (Int32.toNatClampNeg ((66 * x4) + x5)))) M)))) ∧ (¬ (gI M q21 (Int32.toNatClampNeg x5)) = 0 → (B_Mo_product_120 k11 post a0 x2 x3 x4 x5 M)))))
set_option maxRecDepth 20000 in
theorem Z_Mo_product_11 {x : Ctx} {post : Mem → Prop} (C : Ok x b_Mo_product 7 "HeapTowerModel") (hR : xR x = rm_Mo_product) (Rt : RetV x post 0 0) {k11 : Nat → Int32 → Int32 → Int32 → Int32 → Mem → Prop} (K11 : ∀ (a0 : Nat) (x2 : Int32) (x3 : Int32) (x4 : Int32) (x5 : Int32) (M : Mem), k11 a0 x2 x3 x4 x5 M → J x 7 11 [(0, .ref (xd x a0)), (2, .int x2), (3, .int x3), (4, .int x4), (5, .int x5)] [] 0 0 M) (a0 : Nat) (x2 : Int32) (x3 : Int32) (x4 : Int32) (x5 : Int32) (M : Mem) (h : B_Mo_product_11 k11 post a0 x2 x3 x4 x5 M) : J x 7 11 [(0, .ref (xd x a0)), (2, .int x2), (3, .int x3), (4, .int x4), (5, .int x5)] [] 0 0 M := by
  unfold B_Mo_product_11 at h
  refine J_iload C 5 D_Mo_product_11 rfl ?_
  refine J_aload_n C 0 D_Mo_product_13 rfl rfl ?_
  obtain ⟨c_14, h⟩ := h
  refine J_getI C fl_Mo_115 D_Mo_product_14 c_14 ?_
  refine J_icmp_ge (tgt := 126) C D_Mo_product_17 (by decide) (fun c_17 => ?_) (fun c_17 => ?_)
  · have h := h.1 c_17
    exact J_vret C Rt D_Mo_product_126 h
  · have h := h.2 c_17
    refine J_aload_n C 0 D_Mo_product_20 rfl rfl ?_
    obtain ⟨c_21, q21, e_21, h⟩ := h
    refine J_getR C fl_Mo_32 D_Mo_product_21 c_21 e_21 ?_
    refine J_iload C 5 D_Mo_product_24 rfl ?_
    obtain ⟨c_26, h⟩ := h
    refine J_zald C D_Mo_product_26 c_26 ?_
    refine J_if_eq (tgt := 33) C D_Mo_product_27 (by decide) (fun c_27 => ?_) (fun c_27 => ?_)
    · have h := h.1 c_27
      refine J_aload_n C 0 D_Mo_product_33 rfl rfl ?_
      obtain ⟨c_34, q34, e_34, h⟩ := h
      refine J_getR C fl_Mo_32 D_Mo_product_34 c_34 e_34 ?_
      refine J_iload C 4 D_Mo_product_37 rfl ?_
      obtain ⟨c_39, h⟩ := h
      refine J_zald C D_Mo_product_39 c_39 ?_
      refine J_if_eq (tgt := 60) C D_Mo_product_40 (by decide) (fun c_40 => ?_) (fun c_40 => ?_)
      · have h := h.1 c_40
        refine J_iload C 5 D_Mo_product_60 rfl ?_
        refine J_iload C 4 D_Mo_product_62 rfl ?_
        refine J_icmp_ne (tgt := 71) C D_Mo_product_64 (by decide) (fun c_64 => ?_) (fun c_64 => ?_)
        · have h := h.1 c_64
          refine J_iconst (v := 0) C D_Mo_product_71 rfl ?_
          exact J_sub [0, 1, 2, 3, 4] rfl (Z_Mo_product_72 C hR Rt K11 _ _ _ _ _ _ _ h)
        · have h := h.2 c_64
          refine J_iconst (v := 1) C D_Mo_product_67 rfl ?_
          refine J_goto (tgt := 72) C D_Mo_product_68 (by decide) ?_
          exact J_sub [0, 1, 2, 3, 4] rfl (Z_Mo_product_72 C hR Rt K11 _ _ _ _ _ _ _ h)
      · have h := h.2 c_40
        refine J_aload_n C 0 D_Mo_product_43 rfl rfl ?_
        obtain ⟨c_44, q44, e_44, h⟩ := h
        refine J_getR C fl_Mo_26 D_Mo_product_44 c_44 e_44 ?_
        refine J_bipush (v := 66) C D_Mo_product_47 rfl ?_
        refine J_iload C 4 D_Mo_product_49 rfl ?_
        refine J_imul C D_Mo_product_51 ?_
        refine J_iload C 5 D_Mo_product_52 rfl ?_
        refine J_iadd C D_Mo_product_54 ?_
        obtain ⟨c_55, h⟩ := h
        refine J_iald C D_Mo_product_55 c_55 ?_
        refine J_ineg C D_Mo_product_56 ?_
        refine J_goto (tgt := 72) C D_Mo_product_57 (by decide) ?_
        exact J_sub [0, 1, 2, 3, 4] rfl (Z_Mo_product_72 C hR Rt K11 _ _ _ _ _ _ _ h)
    · have h := h.2 c_27
      refine J_goto (tgt := 120) C D_Mo_product_30 (by decide) ?_
      exact J_sub [0, 1, 2, 3, 4] rfl (Z_Mo_product_120 C hR Rt K11 _ _ _ _ _ _ h)
def L_Mo_product_11 (post : Mem → Prop) : Nat → Nat → Int32 → Int32 → Int32 → Int32 → Mem → Prop
  | 0, _, _, _, _, _, _ => False
  | n + 1, a0, x2, x3, x4, x5, M => B_Mo_product_11 (L_Mo_product_11 post n) post a0 x2 x3 x4 x5 M
theorem Y_Mo_product_11 {x : Ctx} {post : Mem → Prop} (C : Ok x b_Mo_product 7 "HeapTowerModel") (hR : xR x = rm_Mo_product) (Rt : RetV x post 0 0) : ∀ (n : Nat) (a0 : Nat) (x2 : Int32) (x3 : Int32) (x4 : Int32) (x5 : Int32) (M : Mem), L_Mo_product_11 post n a0 x2 x3 x4 x5 M → J x 7 11 [(0, .ref (xd x a0)), (2, .int x2), (3, .int x3), (4, .int x4), (5, .int x5)] [] 0 0 M := by
  intro n
  induction n with
  | zero => intro a0 x2 x3 x4 x5 M h; exact h.elim
  | succ n ih => intro a0 x2 x3 x4 x5 M h; exact Z_Mo_product_11 C hR Rt ih _ _ _ _ _ _ h
def T_Mo_product (a0 : Nat) (x1 : Int32) (x2 : Int32) (x3 : Int32) (M : Mem) (post : Mem → Prop) : Prop := (isK M a0 7 ∧ ∃ q1, gR M a0 7 = some q1 ∧ isA M q1 8 x1 ∧ ∃ n, L_Mo_product_11 post n a0 x2 x3 (gI M q1 (Int32.toNatClampNeg x1)) 0 M)
set_option maxRecDepth 20000 in
theorem S_Mo_product {l : Launch} {D : va_G} {B t g : Nat} {d : Nat → Nat} {ac : Nat → ClassId}  (a0 : Nat) (x1 : Int32) (x2 : Int32) (x3 : Int32) (M : Mem) (post : Mem → Prop) (h : T_Mo_product a0 x1 x2 x3 M post) : Met l y_Mo_product w_Mo_product rm_Mo_product (va_Pc [.ref (d a0), .int x1, .int x2, .int x3] (PRE D B d g t ac M)) (QV D B d g ac post) 0 0 (AB B) := by
  refine met_v (by decide +kernel) (Nat.le_of_ble_eq_true rfl) (fun x h1 hR h3 h4 h5 h6 h7 h8 C Rt Nm => ?_)
  subst h3 h4 h5 h6 h7 h8
  unfold T_Mo_product at h
  show J x 7 0 [(0, .ref (xd x a0)), (1, .int x1), (2, .int x2), (3, .int x3)] [] 0 0 M
  refine J_aload_n C 0 D_Mo_product_0 rfl rfl ?_
  obtain ⟨c_1, q1, e_1, h⟩ := h
  refine J_getR C fl_Mo_23 D_Mo_product_1 c_1 e_1 ?_
  refine J_iload_n C 1 D_Mo_product_4 rfl rfl ?_
  obtain ⟨c_5, h⟩ := h
  refine J_iald C D_Mo_product_5 c_5 ?_
  refine J_istore (lv' := [(4, .int (gI M q1 (Int32.toNatClampNeg x1))), (0, .ref (xd x a0)), (1, .int x1), (2, .int x2), (3, .int x3)]) C 4 D_Mo_product_6 (by decide) rfl ?_
  refine J_iconst (v := 0) C D_Mo_product_8 rfl ?_
  refine J_istore (lv' := [(5, .int 0), (4, .int (gI M q1 (Int32.toNatClampNeg x1))), (0, .ref (xd x a0)), (1, .int x1), (2, .int x2), (3, .int x3)]) C 5 D_Mo_product_9 (by decide) rfl ?_
  obtain ⟨n, h⟩ := h
  exact J_sub [2, 4, 5, 1, 0] rfl (Y_Mo_product_11 C hR Rt  n _ _ _ _ _ _ h)
theorem D_Mo_steps_0 : decode b_Mo_steps 0 = .ok (.iload_n 1, 1) := by decide +kernel
theorem D_Mo_steps_1 : decode b_Mo_steps 1 = .ok (.ifCond .eq 16, 3) := by decide +kernel
theorem D_Mo_steps_4 : decode b_Mo_steps 4 = .ok (.iload_n 1, 1) := by decide +kernel
theorem D_Mo_steps_5 : decode b_Mo_steps 5 = .ok (.aload_n 0, 1) := by decide +kernel
theorem D_Mo_steps_6 : decode b_Mo_steps 6 = .ok (.getfield 13, 3) := by decide +kernel
theorem D_Mo_steps_9 : decode b_Mo_steps 9 = .ok (.if_icmp .gt 8, 3) := by decide +kernel
theorem D_Mo_steps_12 : decode b_Mo_steps 12 = .ok (.iload_n 2, 1) := by decide +kernel
theorem D_Mo_steps_13 : decode b_Mo_steps 13 = .ok (.iload_n 1, 1) := by decide +kernel
theorem D_Mo_steps_14 : decode b_Mo_steps 14 = .ok (.if_icmp .ge 5, 3) := by decide +kernel
theorem D_Mo_steps_17 : decode b_Mo_steps 17 = .ok (.iconst 0, 1) := by decide +kernel
theorem D_Mo_steps_18 : decode b_Mo_steps 18 = .ok (.ireturn, 1) := by decide +kernel
theorem D_Mo_steps_19 : decode b_Mo_steps 19 = .ok (.aload_n 0, 1) := by decide +kernel
theorem D_Mo_steps_20 : decode b_Mo_steps 20 = .ok (.iload_n 2, 1) := by decide +kernel
theorem D_Mo_steps_21 : decode b_Mo_steps 21 = .ok (.iload_n 1, 1) := by decide +kernel
theorem D_Mo_steps_22 : decode b_Mo_steps 22 = .ok (.isub, 1) := by decide +kernel
theorem D_Mo_steps_23 : decode b_Mo_steps 23 = .ok (.invokevirtual 157, 3) := by decide +kernel
theorem D_Mo_steps_26 : decode b_Mo_steps 26 = .ok (.aload_n 0, 1) := by decide +kernel
theorem D_Mo_steps_27 : decode b_Mo_steps 27 = .ok (.getfield 148, 3) := by decide +kernel
theorem D_Mo_steps_30 : decode b_Mo_steps 30 = .ok (.istore_n 3, 1) := by decide +kernel
theorem D_Mo_steps_31 : decode b_Mo_steps 31 = .ok (.aload_n 0, 1) := by decide +kernel
theorem D_Mo_steps_32 : decode b_Mo_steps 32 = .ok (.iload_n 2, 1) := by decide +kernel
theorem D_Mo_steps_33 : decode b_Mo_steps 33 = .ok (.iload_n 1, 1) := by decide +kernel
theorem D_Mo_steps_34 : decode b_Mo_steps 34 = .ok (.isub, 1) := by decide +kernel
theorem D_Mo_steps_35 : decode b_Mo_steps 35 = .ok (.iconst 1, 1) := by decide +kernel
theorem D_Mo_steps_36 : decode b_Mo_steps 36 = .ok (.iadd, 1) := by decide +kernel
theorem D_Mo_steps_37 : decode b_Mo_steps 37 = .ok (.invokevirtual 139, 3) := by decide +kernel
theorem D_Mo_steps_40 : decode b_Mo_steps 40 = .ok (.iconst 0, 1) := by decide +kernel
theorem D_Mo_steps_41 : decode b_Mo_steps 41 = .ok (.istore 4, 2) := by decide +kernel
theorem D_Mo_steps_43 : decode b_Mo_steps 43 = .ok (.iconst 0, 1) := by decide +kernel
theorem D_Mo_steps_44 : decode b_Mo_steps 44 = .ok (.istore 5, 2) := by decide +kernel
theorem D_Mo_steps_46 : decode b_Mo_steps 46 = .ok (.iload 5, 2) := by decide +kernel
theorem D_Mo_steps_48 : decode b_Mo_steps 48 = .ok (.aload_n 0, 1) := by decide +kernel
theorem D_Mo_steps_49 : decode b_Mo_steps 49 = .ok (.getfield 115, 3) := by decide +kernel
theorem D_Mo_steps_52 : decode b_Mo_steps 52 = .ok (.if_icmp .ge 34, 3) := by decide +kernel
theorem D_Mo_steps_55 : decode b_Mo_steps 55 = .ok (.aload_n 0, 1) := by decide +kernel
theorem D_Mo_steps_56 : decode b_Mo_steps 56 = .ok (.getfield 32, 3) := by decide +kernel
theorem D_Mo_steps_59 : decode b_Mo_steps 59 = .ok (.iload 5, 2) := by decide +kernel
theorem D_Mo_steps_61 : decode b_Mo_steps 61 = .ok (.baload, 1) := by decide +kernel
theorem D_Mo_steps_62 : decode b_Mo_steps 62 = .ok (.ifCond .eq 6, 3) := by decide +kernel
theorem D_Mo_steps_65 : decode b_Mo_steps 65 = .ok (.goto 15, 3) := by decide +kernel
theorem D_Mo_steps_68 : decode b_Mo_steps 68 = .ok (.aload_n 0, 1) := by decide +kernel
theorem D_Mo_steps_69 : decode b_Mo_steps 69 = .ok (.getfield 45, 3) := by decide +kernel
theorem D_Mo_steps_72 : decode b_Mo_steps 72 = .ok (.iload 5, 2) := by decide +kernel
theorem D_Mo_steps_74 : decode b_Mo_steps 74 = .ok (.iload 4, 2) := by decide +kernel
theorem D_Mo_steps_76 : decode b_Mo_steps 76 = .ok (.iastore, 1) := by decide +kernel
theorem D_Mo_steps_77 : decode b_Mo_steps 77 = .ok (.iinc 4 1, 3) := by decide +kernel
theorem D_Mo_steps_80 : decode b_Mo_steps 80 = .ok (.iinc 5 1, 3) := by decide +kernel
theorem D_Mo_steps_83 : decode b_Mo_steps 83 = .ok (.goto (-37), 3) := by decide +kernel
theorem D_Mo_steps_86 : decode b_Mo_steps 86 = .ok (.aload_n 0, 1) := by decide +kernel
theorem D_Mo_steps_87 : decode b_Mo_steps 87 = .ok (.iload_n 1, 1) := by decide +kernel
theorem D_Mo_steps_88 : decode b_Mo_steps 88 = .ok (.iconst 1, 1) := by decide +kernel
theorem D_Mo_steps_89 : decode b_Mo_steps 89 = .ok (.isub, 1) := by decide +kernel
theorem D_Mo_steps_90 : decode b_Mo_steps 90 = .ok (.invokevirtual 154, 3) := by decide +kernel
theorem D_Mo_steps_93 : decode b_Mo_steps 93 = .ok (.iload 4, 2) := by decide +kernel
theorem D_Mo_steps_95 : decode b_Mo_steps 95 = .ok (.imul, 1) := by decide +kernel
theorem D_Mo_steps_96 : decode b_Mo_steps 96 = .ok (.istore 5, 2) := by decide +kernel
theorem D_Mo_steps_98 : decode b_Mo_steps 98 = .ok (.aload_n 0, 1) := by decide +kernel
theorem D_Mo_steps_99 : decode b_Mo_steps 99 = .ok (.iload_n 1, 1) := by decide +kernel
theorem D_Mo_steps_100 : decode b_Mo_steps 100 = .ok (.invokevirtual 154, 3) := by decide +kernel
theorem D_Mo_steps_103 : decode b_Mo_steps 103 = .ok (.iload_n 3, 1) := by decide +kernel
theorem D_Mo_steps_104 : decode b_Mo_steps 104 = .ok (.imul, 1) := by decide +kernel
theorem D_Mo_steps_105 : decode b_Mo_steps 105 = .ok (.istore 6, 2) := by decide +kernel
theorem D_Mo_steps_107 : decode b_Mo_steps 107 = .ok (.iload 5, 2) := by decide +kernel
theorem D_Mo_steps_109 : decode b_Mo_steps 109 = .ok (.ifCond .eq 8, 3) := by decide +kernel
theorem D_Mo_steps_112 : decode b_Mo_steps 112 = .ok (.iload 6, 2) := by decide +kernel
theorem D_Mo_steps_114 : decode b_Mo_steps 114 = .ok (.ifCond .ne 5, 3) := by decide +kernel
theorem D_Mo_steps_117 : decode b_Mo_steps 117 = .ok (.iconst 0, 1) := by decide +kernel
theorem D_Mo_steps_118 : decode b_Mo_steps 118 = .ok (.ireturn, 1) := by decide +kernel
theorem D_Mo_steps_119 : decode b_Mo_steps 119 = .ok (.iconst 0, 1) := by decide +kernel
theorem D_Mo_steps_120 : decode b_Mo_steps 120 = .ok (.istore 7, 2) := by decide +kernel
theorem D_Mo_steps_122 : decode b_Mo_steps 122 = .ok (.iload 7, 2) := by decide +kernel
theorem D_Mo_steps_124 : decode b_Mo_steps 124 = .ok (.iload 5, 2) := by decide +kernel
theorem D_Mo_steps_126 : decode b_Mo_steps 126 = .ok (.iload 6, 2) := by decide +kernel
theorem D_Mo_steps_128 : decode b_Mo_steps 128 = .ok (.imul, 1) := by decide +kernel
theorem D_Mo_steps_129 : decode b_Mo_steps 129 = .ok (.if_icmp .ge 17, 3) := by decide +kernel
theorem D_Mo_steps_132 : decode b_Mo_steps 132 = .ok (.aload_n 0, 1) := by decide +kernel
theorem D_Mo_steps_133 : decode b_Mo_steps 133 = .ok (.getfield 39, 3) := by decide +kernel
theorem D_Mo_steps_136 : decode b_Mo_steps 136 = .ok (.iload 7, 2) := by decide +kernel
theorem D_Mo_steps_138 : decode b_Mo_steps 138 = .ok (.iconst 0, 1) := by decide +kernel
theorem D_Mo_steps_139 : decode b_Mo_steps 139 = .ok (.iastore, 1) := by decide +kernel
theorem D_Mo_steps_140 : decode b_Mo_steps 140 = .ok (.iinc 7 1, 3) := by decide +kernel
theorem D_Mo_steps_143 : decode b_Mo_steps 143 = .ok (.goto (-21), 3) := by decide +kernel
theorem D_Mo_steps_146 : decode b_Mo_steps 146 = .ok (.iconst 0, 1) := by decide +kernel
theorem D_Mo_steps_147 : decode b_Mo_steps 147 = .ok (.istore 7, 2) := by decide +kernel
theorem D_Mo_steps_149 : decode b_Mo_steps 149 = .ok (.iload 7, 2) := by decide +kernel
theorem D_Mo_steps_151 : decode b_Mo_steps 151 = .ok (.iconst 1, 1) := by decide +kernel
theorem D_Mo_steps_152 : decode b_Mo_steps 152 = .ok (.aload_n 0, 1) := by decide +kernel
theorem D_Mo_steps_153 : decode b_Mo_steps 153 = .ok (.getfield 13, 3) := by decide +kernel
theorem D_Mo_steps_156 : decode b_Mo_steps 156 = .ok (.ishl, 1) := by decide +kernel
theorem D_Mo_steps_157 : decode b_Mo_steps 157 = .ok (.if_icmp .ge 184, 3) := by decide +kernel
theorem D_Mo_steps_160 : decode b_Mo_steps 160 = .ok (.iload 7, 2) := by decide +kernel
theorem D_Mo_steps_162 : decode b_Mo_steps 162 = .ok (.invokestatic 151, 3) := by decide +kernel
theorem D_Mo_steps_165 : decode b_Mo_steps 165 = .ok (.iload_n 1, 1) := by decide +kernel
theorem D_Mo_steps_166 : decode b_Mo_steps 166 = .ok (.if_icmp .eq 6, 3) := by decide +kernel
theorem D_Mo_steps_169 : decode b_Mo_steps 169 = .ok (.goto 166, 3) := by decide +kernel
theorem D_Mo_steps_172 : decode b_Mo_steps 172 = .ok (.iconst 0, 1) := by decide +kernel
theorem D_Mo_steps_173 : decode b_Mo_steps 173 = .ok (.istore 8, 2) := by decide +kernel
theorem D_Mo_steps_175 : decode b_Mo_steps 175 = .ok (.iload 8, 2) := by decide +kernel
theorem D_Mo_steps_177 : decode b_Mo_steps 177 = .ok (.iload_n 3, 1) := by decide +kernel
theorem D_Mo_steps_178 : decode b_Mo_steps 178 = .ok (.if_icmp .ge 157, 3) := by decide +kernel
theorem D_Mo_steps_181 : decode b_Mo_steps 181 = .ok (.aload_n 0, 1) := by decide +kernel
theorem D_Mo_steps_182 : decode b_Mo_steps 182 = .ok (.iload 7, 2) := by decide +kernel
theorem D_Mo_steps_184 : decode b_Mo_steps 184 = .ok (.invokevirtual 160, 3) := by decide +kernel
theorem D_Mo_steps_187 : decode b_Mo_steps 187 = .ok (.iload_n 3, 1) := by decide +kernel
theorem D_Mo_steps_188 : decode b_Mo_steps 188 = .ok (.imul, 1) := by decide +kernel
theorem D_Mo_steps_189 : decode b_Mo_steps 189 = .ok (.iload 8, 2) := by decide +kernel
theorem D_Mo_steps_191 : decode b_Mo_steps 191 = .ok (.iadd, 1) := by decide +kernel
theorem D_Mo_steps_192 : decode b_Mo_steps 192 = .ok (.istore 9, 2) := by decide +kernel
theorem D_Mo_steps_194 : decode b_Mo_steps 194 = .ok (.iconst 0, 1) := by decide +kernel
theorem D_Mo_steps_195 : decode b_Mo_steps 195 = .ok (.istore 10, 2) := by decide +kernel
theorem D_Mo_steps_197 : decode b_Mo_steps 197 = .ok (.iload 10, 2) := by decide +kernel
theorem D_Mo_steps_199 : decode b_Mo_steps 199 = .ok (.aload_n 0, 1) := by decide +kernel
theorem D_Mo_steps_200 : decode b_Mo_steps 200 = .ok (.getfield 13, 3) := by decide +kernel
theorem D_Mo_steps_203 : decode b_Mo_steps 203 = .ok (.if_icmp .ge 126, 3) := by decide +kernel
theorem D_Mo_steps_206 : decode b_Mo_steps 206 = .ok (.iload 7, 2) := by decide +kernel
theorem D_Mo_steps_208 : decode b_Mo_steps 208 = .ok (.iload 10, 2) := by decide +kernel
theorem D_Mo_steps_210 : decode b_Mo_steps 210 = .ok (.ishr, 1) := by decide +kernel
theorem D_Mo_steps_211 : decode b_Mo_steps 211 = .ok (.iconst 1, 1) := by decide +kernel
theorem D_Mo_steps_212 : decode b_Mo_steps 212 = .ok (.iand, 1) := by decide +kernel
theorem D_Mo_steps_213 : decode b_Mo_steps 213 = .ok (.ifCond .ne 6, 3) := by decide +kernel
theorem D_Mo_steps_216 : decode b_Mo_steps 216 = .ok (.goto 107, 3) := by decide +kernel
theorem D_Mo_steps_219 : decode b_Mo_steps 219 = .ok (.iload 7, 2) := by decide +kernel
theorem D_Mo_steps_221 : decode b_Mo_steps 221 = .ok (.iconst 1, 1) := by decide +kernel
theorem D_Mo_steps_222 : decode b_Mo_steps 222 = .ok (.iload 10, 2) := by decide +kernel
theorem D_Mo_steps_224 : decode b_Mo_steps 224 = .ok (.ishl, 1) := by decide +kernel
theorem D_Mo_steps_225 : decode b_Mo_steps 225 = .ok (.iconst (-1), 1) := by decide +kernel
theorem D_Mo_steps_226 : decode b_Mo_steps 226 = .ok (.ixor, 1) := by decide +kernel
theorem D_Mo_steps_227 : decode b_Mo_steps 227 = .ok (.iand, 1) := by decide +kernel
theorem D_Mo_steps_228 : decode b_Mo_steps 228 = .ok (.istore 11, 2) := by decide +kernel
theorem D_Mo_steps_230 : decode b_Mo_steps 230 = .ok (.iload 11, 2) := by decide +kernel
theorem D_Mo_steps_232 : decode b_Mo_steps 232 = .ok (.iconst 1, 1) := by decide +kernel
theorem D_Mo_steps_233 : decode b_Mo_steps 233 = .ok (.iload 10, 2) := by decide +kernel
theorem D_Mo_steps_235 : decode b_Mo_steps 235 = .ok (.ishl, 1) := by decide +kernel
theorem D_Mo_steps_236 : decode b_Mo_steps 236 = .ok (.iconst 1, 1) := by decide +kernel
theorem D_Mo_steps_237 : decode b_Mo_steps 237 = .ok (.isub, 1) := by decide +kernel
theorem D_Mo_steps_238 : decode b_Mo_steps 238 = .ok (.iand, 1) := by decide +kernel
theorem D_Mo_steps_239 : decode b_Mo_steps 239 = .ok (.invokestatic 151, 3) := by decide +kernel
theorem D_Mo_steps_242 : decode b_Mo_steps 242 = .ok (.iconst 2, 1) := by decide +kernel
theorem D_Mo_steps_243 : decode b_Mo_steps 243 = .ok (.irem, 1) := by decide +kernel
theorem D_Mo_steps_244 : decode b_Mo_steps 244 = .ok (.iconst 1, 1) := by decide +kernel
theorem D_Mo_steps_245 : decode b_Mo_steps 245 = .ok (.if_icmp .ne 7, 3) := by decide +kernel
theorem D_Mo_steps_248 : decode b_Mo_steps 248 = .ok (.iconst 1, 1) := by decide +kernel
theorem D_Mo_steps_249 : decode b_Mo_steps 249 = .ok (.goto 4, 3) := by decide +kernel
theorem D_Mo_steps_252 : decode b_Mo_steps 252 = .ok (.iconst 0, 1) := by decide +kernel
theorem D_Mo_steps_253 : decode b_Mo_steps 253 = .ok (.istore 12, 2) := by decide +kernel
theorem D_Mo_steps_255 : decode b_Mo_steps 255 = .ok (.iload 5, 2) := by decide +kernel
theorem D_Mo_steps_257 : decode b_Mo_steps 257 = .ok (.iload 9, 2) := by decide +kernel
theorem D_Mo_steps_259 : decode b_Mo_steps 259 = .ok (.imul, 1) := by decide +kernel
theorem D_Mo_steps_260 : decode b_Mo_steps 260 = .ok (.aload_n 0, 1) := by decide +kernel
theorem D_Mo_steps_261 : decode b_Mo_steps 261 = .ok (.iload 11, 2) := by decide +kernel
theorem D_Mo_steps_263 : decode b_Mo_steps 263 = .ok (.invokevirtual 160, 3) := by decide +kernel
theorem D_Mo_steps_266 : decode b_Mo_steps 266 = .ok (.iload 4, 2) := by decide +kernel
theorem D_Mo_steps_268 : decode b_Mo_steps 268 = .ok (.imul, 1) := by decide +kernel
theorem D_Mo_steps_269 : decode b_Mo_steps 269 = .ok (.iadd, 1) := by decide +kernel
theorem D_Mo_steps_270 : decode b_Mo_steps 270 = .ok (.istore 13, 2) := by decide +kernel
theorem D_Mo_steps_272 : decode b_Mo_steps 272 = .ok (.aload_n 0, 1) := by decide +kernel
theorem D_Mo_steps_273 : decode b_Mo_steps 273 = .ok (.aload_n 0, 1) := by decide +kernel
theorem D_Mo_steps_274 : decode b_Mo_steps 274 = .ok (.getfield 42, 3) := by decide +kernel
theorem D_Mo_steps_277 : decode b_Mo_steps 277 = .ok (.iload 8, 2) := by decide +kernel
theorem D_Mo_steps_279 : decode b_Mo_steps 279 = .ok (.iaload, 1) := by decide +kernel
theorem D_Mo_steps_280 : decode b_Mo_steps 280 = .ok (.iload 10, 2) := by decide +kernel
theorem D_Mo_steps_282 : decode b_Mo_steps 282 = .ok (.ifCond .ne 7, 3) := by decide +kernel
theorem D_Mo_steps_285 : decode b_Mo_steps 285 = .ok (.iconst 1, 1) := by decide +kernel
theorem D_Mo_steps_286 : decode b_Mo_steps 286 = .ok (.goto 4, 3) := by decide +kernel
theorem D_Mo_steps_289 : decode b_Mo_steps 289 = .ok (.iconst 0, 1) := by decide +kernel
theorem D_Mo_steps_290 : decode b_Mo_steps 290 = .ok (.iload 10, 2) := by decide +kernel
theorem D_Mo_steps_292 : decode b_Mo_steps 292 = .ok (.iconst 1, 1) := by decide +kernel
theorem D_Mo_steps_293 : decode b_Mo_steps 293 = .ok (.if_icmp .ne 7, 3) := by decide +kernel
theorem D_Mo_steps_296 : decode b_Mo_steps 296 = .ok (.iconst 1, 1) := by decide +kernel
theorem D_Mo_steps_297 : decode b_Mo_steps 297 = .ok (.goto 4, 3) := by decide +kernel
theorem D_Mo_steps_300 : decode b_Mo_steps 300 = .ok (.iconst 0, 1) := by decide +kernel
theorem D_Mo_steps_301 : decode b_Mo_steps 301 = .ok (.iload 10, 2) := by decide +kernel
theorem D_Mo_steps_303 : decode b_Mo_steps 303 = .ok (.iconst 2, 1) := by decide +kernel
theorem D_Mo_steps_304 : decode b_Mo_steps 304 = .ok (.if_icmp .ne 7, 3) := by decide +kernel
theorem D_Mo_steps_307 : decode b_Mo_steps 307 = .ok (.iconst 1, 1) := by decide +kernel
theorem D_Mo_steps_308 : decode b_Mo_steps 308 = .ok (.goto 4, 3) := by decide +kernel
theorem D_Mo_steps_311 : decode b_Mo_steps 311 = .ok (.iconst 0, 1) := by decide +kernel
theorem D_Mo_steps_312 : decode b_Mo_steps 312 = .ok (.invokestatic 97, 3) := by decide +kernel
theorem D_Mo_steps_315 : decode b_Mo_steps 315 = .ok (.iadd, 1) := by decide +kernel
theorem D_Mo_steps_316 : decode b_Mo_steps 316 = .ok (.iload 13, 2) := by decide +kernel
theorem D_Mo_steps_318 : decode b_Mo_steps 318 = .ok (.iload 12, 2) := by decide +kernel
theorem D_Mo_steps_320 : decode b_Mo_steps 320 = .ok (.invokevirtual 163, 3) := by decide +kernel
theorem D_Mo_steps_323 : decode b_Mo_steps 323 = .ok (.iinc 10 1, 3) := by decide +kernel
theorem D_Mo_steps_326 : decode b_Mo_steps 326 = .ok (.goto (-129), 3) := by decide +kernel
theorem D_Mo_steps_329 : decode b_Mo_steps 329 = .ok (.iinc 8 1, 3) := by decide +kernel
theorem D_Mo_steps_332 : decode b_Mo_steps 332 = .ok (.goto (-157), 3) := by decide +kernel
theorem D_Mo_steps_335 : decode b_Mo_steps 335 = .ok (.iinc 7 1, 3) := by decide +kernel
theorem D_Mo_steps_338 : decode b_Mo_steps 338 = .ok (.goto (-189), 3) := by decide +kernel
theorem D_Mo_steps_341 : decode b_Mo_steps 341 = .ok (.aload_n 0, 1) := by decide +kernel
theorem D_Mo_steps_342 : decode b_Mo_steps 342 = .ok (.iload 6, 2) := by decide +kernel
theorem D_Mo_steps_344 : decode b_Mo_steps 344 = .ok (.iload 5, 2) := by decide +kernel
theorem D_Mo_steps_346 : decode b_Mo_steps 346 = .ok (.invokevirtual 167, 3) := by decide +kernel
theorem D_Mo_steps_349 : decode b_Mo_steps 349 = .ok (.ireturn, 1) := by decide +kernel
abbrev rm_Mo_steps : Room := { frames := 6, cells := 0, slots := 0, locals := 143 }
def B_Mo_steps_335 (k149 : Nat → Int32 → Int32 → Int32 → Int32 → Int32 → Int32 → Mem → Prop) (post : Int32 → Mem → Prop) (a0 : Nat) (x1 : Int32) (x3 : Int32) (x4 : Int32) (x5 : Int32) (x6 : Int32) (x7 : Int32) (M : Mem) : Prop := (k149 a0 x1 x3 x4 x5 x6 (x7 + 1) M)
set_option maxRecDepth 20000 in
theorem Z_Mo_steps_335 {x : Ctx} {post : Int32 → Mem → Prop} (C : Ok x b_Mo_steps 14 "HeapTowerModel") (hR : xR x = rm_Mo_steps) (Rt : RetI x .int post 0 0) {k149 : Nat → Int32 → Int32 → Int32 → Int32 → Int32 → Int32 → Mem → Prop} (K149 : ∀ (a0 : Nat) (x1 : Int32) (x3 : Int32) (x4 : Int32) (x5 : Int32) (x6 : Int32) (x7 : Int32) (M : Mem), k149 a0 x1 x3 x4 x5 x6 x7 M → J x 14 149 [(0, .ref (xd x a0)), (1, .int x1), (3, .int x3), (4, .int x4), (5, .int x5), (6, .int x6), (7, .int x7)] [] 0 0 M) (a0 : Nat) (x1 : Int32) (x3 : Int32) (x4 : Int32) (x5 : Int32) (x6 : Int32) (x7 : Int32) (M : Mem) (h : B_Mo_steps_335 k149 post a0 x1 x3 x4 x5 x6 x7 M) : J x 14 335 [(0, .ref (xd x a0)), (1, .int x1), (3, .int x3), (4, .int x4), (5, .int x5), (6, .int x6), (7, .int x7)] [] 0 0 M := by
  unfold B_Mo_steps_335 at h
  refine J_iinc (v := x7 + 1) (lv' := [(7, .int (x7 + 1)), (0, .ref (xd x a0)), (1, .int x1), (3, .int x3), (4, .int x4), (5, .int x5), (6, .int x6)]) C 7 6 D_Mo_steps_335 rfl rfl (by decide) rfl ?_
  refine J_goto (tgt := 149) C D_Mo_steps_338 (by decide) ?_
  exact J_sub [1, 2, 3, 4, 5, 6, 0] rfl (K149 _ _ _ _ _ _ _ _ h)
def B_Mo_steps_323 (k149 : Nat → Int32 → Int32 → Int32 → Int32 → Int32 → Int32 → Mem → Prop) (k175 : Nat → Int32 → Int32 → Int32 → Int32 → Int32 → Int32 → Int32 → Mem → Prop) (k197 : Nat → Int32 → Int32 → Int32 → Int32 → Int32 → Int32 → Int32 → Int32 → Int32 → Mem → Prop) (post : Int32 → Mem → Prop) (a0 : Nat) (x1 : Int32) (x3 : Int32) (x4 : Int32) (x5 : Int32) (x6 : Int32) (x7 : Int32) (x8 : Int32) (x9 : Int32) (x10 : Int32) (M : Mem) : Prop := (k197 a0 x1 x3 x4 x5 x6 x7 x8 x9 (x10 + 1) M)
set_option maxRecDepth 20000 in
theorem Z_Mo_steps_323 {x : Ctx} {post : Int32 → Mem → Prop} (C : Ok x b_Mo_steps 14 "HeapTowerModel") (hR : xR x = rm_Mo_steps) (Rt : RetI x .int post 0 0) {k149 : Nat → Int32 → Int32 → Int32 → Int32 → Int32 → Int32 → Mem → Prop} (K149 : ∀ (a0 : Nat) (x1 : Int32) (x3 : Int32) (x4 : Int32) (x5 : Int32) (x6 : Int32) (x7 : Int32) (M : Mem), k149 a0 x1 x3 x4 x5 x6 x7 M → J x 14 149 [(0, .ref (xd x a0)), (1, .int x1), (3, .int x3), (4, .int x4), (5, .int x5), (6, .int x6), (7, .int x7)] [] 0 0 M) {k175 : Nat → Int32 → Int32 → Int32 → Int32 → Int32 → Int32 → Int32 → Mem → Prop} (K175 : ∀ (a0 : Nat) (x1 : Int32) (x3 : Int32) (x4 : Int32) (x5 : Int32) (x6 : Int32) (x7 : Int32) (x8 : Int32) (M : Mem), k175 a0 x1 x3 x4 x5 x6 x7 x8 M → J x 14 175 [(0, .ref (xd x a0)), (1, .int x1), (3, .int x3), (4, .int x4), (5, .int x5), (6, .int x6), (7, .int x7), (8, .int x8)] [] 0 0 M) {k197 : Nat → Int32 → Int32 → Int32 → Int32 → Int32 → Int32 → Int32 → Int32 → Int32 → Mem → Prop} (K197 : ∀ (a0 : Nat) (x1 : Int32) (x3 : Int32) (x4 : Int32) (x5 : Int32) (x6 : Int32) (x7 : Int32) (x8 : Int32) (x9 : Int32) (x10 : Int32) (M : Mem), k197 a0 x1 x3 x4 x5 x6 x7 x8 x9 x10 M → J x 14 197 [(0, .ref (xd x a0)), (1, .int x1), (3, .int x3), (4, .int x4), (5, .int x5), (6, .int x6), (7, .int x7), (8, .int x8), (9, .int x9), (10, .int x10)] [] 0 0 M) (a0 : Nat) (x1 : Int32) (x3 : Int32) (x4 : Int32) (x5 : Int32) (x6 : Int32) (x7 : Int32) (x8 : Int32) (x9 : Int32) (x10 : Int32) (M : Mem) (h : B_Mo_steps_323 k149 k175 k197 post a0 x1 x3 x4 x5 x6 x7 x8 x9 x10 M) : J x 14 323 [(0, .ref (xd x a0)), (1, .int x1), (3, .int x3), (4, .int x4), (5, .int x5), (6, .int x6), (7, .int x7), (8, .int x8), (9, .int x9), (10, .int x10)] [] 0 0 M := by
  unfold B_Mo_steps_323 at h
  refine J_iinc (v := x10 + 1) (lv' := [(10, .int (x10 + 1)), (0, .ref (xd x a0)), (1, .int x1), (3, .int x3), (4, .int x4), (5, .int x5), (6, .int x6), (7, .int x7), (8, .int x8), (9, .int x9)]) C 10 9 D_Mo_steps_323 rfl rfl (by decide) rfl ?_
  refine J_goto (tgt := 197) C D_Mo_steps_326 (by decide) ?_
  exact J_sub [1, 2, 3, 4, 5, 6, 7, 8, 9, 0] rfl (K197 _ _ _ _ _ _ _ _ _ _ _ h)
def B_Mo_steps_312 (k149 : Nat → Int32 → Int32 → Int32 → Int32 → Int32 → Int32 → Mem → Prop) (k175 : Nat → Int32 → Int32 → Int32 → Int32 → Int32 → Int32 → Int32 → Mem → Prop) (k197 : Nat → Int32 → Int32 → Int32 → Int32 → Int32 → Int32 → Int32 → Int32 → Int32 → Mem → Prop) (post : Int32 → Mem → Prop) (a0 : Nat) (x1 : Int32) (x3 : Int32) (x4 : Int32) (x5 : Int32) (x6 : Int32) (x7 : Int32) (x8 : Int32) (x9 : Int32) (x10 : Int32) (x12 : Int32) (x13 : Int32) (s0 : Int32) (s1 : Int32) (s2 : Int32) (s3 : Int32) (t4 : Nat) (M : Mem) : Prop := (T_Mo_powers s2 s1 s0 M (fun r312 M312 => isK M312 t4 7 ∧ T_Mo_product t4 (s3 + r312) x13 x12 M312 (fun M320 => B_Mo_steps_323 k149 k175 k197 post a0 x1 x3 x4 x5 x6 x7 x8 x9 x10 M320)))
set_option maxRecDepth 20000 in
theorem Z_Mo_steps_312 {x : Ctx} {post : Int32 → Mem → Prop} (C : Ok x b_Mo_steps 14 "HeapTowerModel") (hR : xR x = rm_Mo_steps) (Rt : RetI x .int post 0 0) {k149 : Nat → Int32 → Int32 → Int32 → Int32 → Int32 → Int32 → Mem → Prop} (K149 : ∀ (a0 : Nat) (x1 : Int32) (x3 : Int32) (x4 : Int32) (x5 : Int32) (x6 : Int32) (x7 : Int32) (M : Mem), k149 a0 x1 x3 x4 x5 x6 x7 M → J x 14 149 [(0, .ref (xd x a0)), (1, .int x1), (3, .int x3), (4, .int x4), (5, .int x5), (6, .int x6), (7, .int x7)] [] 0 0 M) {k175 : Nat → Int32 → Int32 → Int32 → Int32 → Int32 → Int32 → Int32 → Mem → Prop} (K175 : ∀ (a0 : Nat) (x1 : Int32) (x3 : Int32) (x4 : Int32) (x5 : Int32) (x6 : Int32) (x7 : Int32) (x8 : Int32) (M : Mem), k175 a0 x1 x3 x4 x5 x6 x7 x8 M → J x 14 175 [(0, .ref (xd x a0)), (1, .int x1), (3, .int x3), (4, .int x4), (5, .int x5), (6, .int x6), (7, .int x7), (8, .int x8)] [] 0 0 M) {k197 : Nat → Int32 → Int32 → Int32 → Int32 → Int32 → Int32 → Int32 → Int32 → Int32 → Mem → Prop} (K197 : ∀ (a0 : Nat) (x1 : Int32) (x3 : Int32) (x4 : Int32) (x5 : Int32) (x6 : Int32) (x7 : Int32) (x8 : Int32) (x9 : Int32) (x10 : Int32) (M : Mem), k197 a0 x1 x3 x4 x5 x6 x7 x8 x9 x10 M → J x 14 197 [(0, .ref (xd x a0)), (1, .int x1), (3, .int x3), (4, .int x4), (5, .int x5), (6, .int x6), (7, .int x7), (8, .int x8), (9, .int x9), (10, .int x10)] [] 0 0 M) (a0 : Nat) (x1 : Int32) (x3 : Int32) (x4 : Int32) (x5 : Int32) (x6 : Int32) (x7 : Int32) (x8 : Int32) (x9 : Int32) (x10 : Int32) (x12 : Int32) (x13 : Int32) (s0 : Int32) (s1 : Int32) (s2 : Int32) (s3 : Int32) (t4 : Nat) (M : Mem) (h : B_Mo_steps_312 k149 k175 k197 post a0 x1 x3 x4 x5 x6 x7 x8 x9 x10 x12 x13 s0 s1 s2 s3 t4 M) : J x 14 312 [(0, .ref (xd x a0)), (1, .int x1), (3, .int x3), (4, .int x4), (5, .int x5), (6, .int x6), (7, .int x7), (8, .int x8), (9, .int x9), (10, .int x10), (12, .int x12), (13, .int x13)] [.int s0, .int s1, .int s2, .int s3, .ref (xd x t4)] 0 0 M := by
  unfold B_Mo_steps_312 at h
  refine J_callSi C ml_Mo_97 (S_Mo_powers _ _ _ _ _ h) (by rw [hR]; decide) rfl rfl (Nat.le_of_ble_eq_true rfl) D_Mo_steps_312 (fun r312 M312 h => ?_)
  refine J_iadd C D_Mo_steps_315 ?_
  refine J_iload C 13 D_Mo_steps_316 rfl ?_
  refine J_iload C 12 D_Mo_steps_318 rfl ?_
  obtain ⟨c_320, h⟩ := h
  refine J_callVv C ml_Mo_163 (S_Mo_product _ _ _ _ _ _ h) (by rw [hR]; decide) rfl c_320 rfl (Nat.le_of_ble_eq_true rfl) D_Mo_steps_320 (fun M320 h => ?_)
  exact J_sub [0, 1, 2, 3, 4, 5, 6, 7, 8, 9] rfl (Z_Mo_steps_323 C hR Rt K149 K175 K197 _ _ _ _ _ _ _ _ _ _ _ h)
def B_Mo_steps_301 (k149 : Nat → Int32 → Int32 → Int32 → Int32 → Int32 → Int32 → Mem → Prop) (k175 : Nat → Int32 → Int32 → Int32 → Int32 → Int32 → Int32 → Int32 → Mem → Prop) (k197 : Nat → Int32 → Int32 → Int32 → Int32 → Int32 → Int32 → Int32 → Int32 → Int32 → Mem → Prop) (post : Int32 → Mem → Prop) (a0 : Nat) (x1 : Int32) (x3 : Int32) (x4 : Int32) (x5 : Int32) (x6 : Int32) (x7 : Int32) (x8 : Int32) (x9 : Int32) (x10 : Int32) (x12 : Int32) (x13 : Int32) (s0 : Int32) (s1 : Int32) (s2 : Int32) (t3 : Nat) (M : Mem) : Prop := ((¬ x10 = 2 → (B_Mo_steps_312 k149 k175 k197 post a0 x1 x3 x4 x5 x6 x7 x8 x9 x10 x12 x13 0 s0 s1 s2 t3 M)) ∧ (x10 = 2 → (B_Mo_steps_312 k149 k175 k197 post a0 x1 x3 x4 x5 x6 x7 x8 x9 x10 x12 x13 1 s0 s1 s2 t3 M)))
set_option maxRecDepth 20000 in
theorem Z_Mo_steps_301 {x : Ctx} {post : Int32 → Mem → Prop} (C : Ok x b_Mo_steps 14 "HeapTowerModel") (hR : xR x = rm_Mo_steps) (Rt : RetI x .int post 0 0) {k149 : Nat → Int32 → Int32 → Int32 → Int32 → Int32 → Int32 → Mem → Prop} (K149 : ∀ (a0 : Nat) (x1 : Int32) (x3 : Int32) (x4 : Int32) (x5 : Int32) (x6 : Int32) (x7 : Int32) (M : Mem), k149 a0 x1 x3 x4 x5 x6 x7 M → J x 14 149 [(0, .ref (xd x a0)), (1, .int x1), (3, .int x3), (4, .int x4), (5, .int x5), (6, .int x6), (7, .int x7)] [] 0 0 M) {k175 : Nat → Int32 → Int32 → Int32 → Int32 → Int32 → Int32 → Int32 → Mem → Prop} (K175 : ∀ (a0 : Nat) (x1 : Int32) (x3 : Int32) (x4 : Int32) (x5 : Int32) (x6 : Int32) (x7 : Int32) (x8 : Int32) (M : Mem), k175 a0 x1 x3 x4 x5 x6 x7 x8 M → J x 14 175 [(0, .ref (xd x a0)), (1, .int x1), (3, .int x3), (4, .int x4), (5, .int x5), (6, .int x6), (7, .int x7), (8, .int x8)] [] 0 0 M) {k197 : Nat → Int32 → Int32 → Int32 → Int32 → Int32 → Int32 → Int32 → Int32 → Int32 → Mem → Prop} (K197 : ∀ (a0 : Nat) (x1 : Int32) (x3 : Int32) (x4 : Int32) (x5 : Int32) (x6 : Int32) (x7 : Int32) (x8 : Int32) (x9 : Int32) (x10 : Int32) (M : Mem), k197 a0 x1 x3 x4 x5 x6 x7 x8 x9 x10 M → J x 14 197 [(0, .ref (xd x a0)), (1, .int x1), (3, .int x3), (4, .int x4), (5, .int x5), (6, .int x6), (7, .int x7), (8, .int x8), (9, .int x9), (10, .int x10)] [] 0 0 M) (a0 : Nat) (x1 : Int32) (x3 : Int32) (x4 : Int32) (x5 : Int32) (x6 : Int32) (x7 : Int32) (x8 : Int32) (x9 : Int32) (x10 : Int32) (x12 : Int32) (x13 : Int32) (s0 : Int32) (s1 : Int32) (s2 : Int32) (t3 : Nat) (M : Mem) (h : B_Mo_steps_301 k149 k175 k197 post a0 x1 x3 x4 x5 x6 x7 x8 x9 x10 x12 x13 s0 s1 s2 t3 M) : J x 14 301 [(0, .ref (xd x a0)), (1, .int x1), (3, .int x3), (4, .int x4), (5, .int x5), (6, .int x6), (7, .int x7), (8, .int x8), (9, .int x9), (10, .int x10), (12, .int x12), (13, .int x13)] [.int s0, .int s1, .int s2, .ref (xd x t3)] 0 0 M := by
  unfold B_Mo_steps_301 at h
  refine J_iload C 10 D_Mo_steps_301 rfl ?_
  refine J_iconst (v := 2) C D_Mo_steps_303 rfl ?_
  refine J_icmp_ne (tgt := 311) C D_Mo_steps_304 (by decide) (fun c_304 => ?_) (fun c_304 => ?_)
  · have h := h.1 c_304
    refine J_iconst (v := 0) C D_Mo_steps_311 rfl ?_
    exact J_sub [0, 1, 2, 3, 4, 5, 6, 7, 8, 9, 10, 11] rfl (Z_Mo_steps_312 C hR Rt K149 K175 K197 _ _ _ _ _ _ _ _ _ _ _ _ _ _ _ _ _ _ h)
  · have h := h.2 c_304
    refine J_iconst (v := 1) C D_Mo_steps_307 rfl ?_
    refine J_goto (tgt := 312) C D_Mo_steps_308 (by decide) ?_
    exact J_sub [0, 1, 2, 3, 4, 5, 6, 7, 8, 9, 10, 11] rfl (Z_Mo_steps_312 C hR Rt K149 K175 K197 _ _ _ _ _ _ _ _ _ _ _ _ _ _ _ _ _ _ h)
def B_Mo_steps_290 (k149 : Nat → Int32 → Int32 → Int32 → Int32 → Int32 → Int32 → Mem → Prop) (k175 : Nat → Int32 → Int32 → Int32 → Int32 → Int32 → Int32 → Int32 → Mem → Prop) (k197 : Nat → Int32 → Int32 → Int32 → Int32 → Int32 → Int32 → Int32 → Int32 → Int32 → Mem → Prop) (post : Int32 → Mem → Prop) (a0 : Nat) (x1 : Int32) (x3 : Int32) (x4 : Int32) (x5 : Int32) (x6 : Int32) (x7 : Int32) (x8 : Int32) (x9 : Int32) (x10 : Int32) (x12 : Int32) (x13 : Int32) (s0 : Int32) (s1 : Int32) (t2 : Nat) (M : Mem) : Prop := ((¬ x10 = 1 → (B_Mo_steps_301 k149 k175 k197 post a0 x1 x3 x4 x5 x6 x7 x8 x9 x10 x12 x13 0 s0 s1 t2 M)) ∧ (x10 = 1 → (B_Mo_steps_301 k149 k175 k197 post a0 x1 x3 x4 x5 x6 x7 x8 x9 x10 x12 x13 1 s0 s1 t2 M)))
set_option maxRecDepth 20000 in
theorem Z_Mo_steps_290 {x : Ctx} {post : Int32 → Mem → Prop} (C : Ok x b_Mo_steps 14 "HeapTowerModel") (hR : xR x = rm_Mo_steps) (Rt : RetI x .int post 0 0) {k149 : Nat → Int32 → Int32 → Int32 → Int32 → Int32 → Int32 → Mem → Prop} (K149 : ∀ (a0 : Nat) (x1 : Int32) (x3 : Int32) (x4 : Int32) (x5 : Int32) (x6 : Int32) (x7 : Int32) (M : Mem), k149 a0 x1 x3 x4 x5 x6 x7 M → J x 14 149 [(0, .ref (xd x a0)), (1, .int x1), (3, .int x3), (4, .int x4), (5, .int x5), (6, .int x6), (7, .int x7)] [] 0 0 M) {k175 : Nat → Int32 → Int32 → Int32 → Int32 → Int32 → Int32 → Int32 → Mem → Prop} (K175 : ∀ (a0 : Nat) (x1 : Int32) (x3 : Int32) (x4 : Int32) (x5 : Int32) (x6 : Int32) (x7 : Int32) (x8 : Int32) (M : Mem), k175 a0 x1 x3 x4 x5 x6 x7 x8 M → J x 14 175 [(0, .ref (xd x a0)), (1, .int x1), (3, .int x3), (4, .int x4), (5, .int x5), (6, .int x6), (7, .int x7), (8, .int x8)] [] 0 0 M) {k197 : Nat → Int32 → Int32 → Int32 → Int32 → Int32 → Int32 → Int32 → Int32 → Int32 → Mem → Prop} (K197 : ∀ (a0 : Nat) (x1 : Int32) (x3 : Int32) (x4 : Int32) (x5 : Int32) (x6 : Int32) (x7 : Int32) (x8 : Int32) (x9 : Int32) (x10 : Int32) (M : Mem), k197 a0 x1 x3 x4 x5 x6 x7 x8 x9 x10 M → J x 14 197 [(0, .ref (xd x a0)), (1, .int x1), (3, .int x3), (4, .int x4), (5, .int x5), (6, .int x6), (7, .int x7), (8, .int x8), (9, .int x9), (10, .int x10)] [] 0 0 M) (a0 : Nat) (x1 : Int32) (x3 : Int32) (x4 : Int32) (x5 : Int32) (x6 : Int32) (x7 : Int32) (x8 : Int32) (x9 : Int32) (x10 : Int32) (x12 : Int32) (x13 : Int32) (s0 : Int32) (s1 : Int32) (t2 : Nat) (M : Mem) (h : B_Mo_steps_290 k149 k175 k197 post a0 x1 x3 x4 x5 x6 x7 x8 x9 x10 x12 x13 s0 s1 t2 M) : J x 14 290 [(0, .ref (xd x a0)), (1, .int x1), (3, .int x3), (4, .int x4), (5, .int x5), (6, .int x6), (7, .int x7), (8, .int x8), (9, .int x9), (10, .int x10), (12, .int x12), (13, .int x13)] [.int s0, .int s1, .ref (xd x t2)] 0 0 M := by
  unfold B_Mo_steps_290 at h
  refine J_iload C 10 D_Mo_steps_290 rfl ?_
  refine J_iconst (v := 1) C D_Mo_steps_292 rfl ?_
  refine J_icmp_ne (tgt := 300) C D_Mo_steps_293 (by decide) (fun c_293 => ?_) (fun c_293 => ?_)
  · have h := h.1 c_293
    refine J_iconst (v := 0) C D_Mo_steps_300 rfl ?_
    exact J_sub [0, 1, 2, 3, 4, 5, 6, 7, 8, 9, 10, 11] rfl (Z_Mo_steps_301 C hR Rt K149 K175 K197 _ _ _ _ _ _ _ _ _ _ _ _ _ _ _ _ _ h)
  · have h := h.2 c_293
    refine J_iconst (v := 1) C D_Mo_steps_296 rfl ?_
    refine J_goto (tgt := 301) C D_Mo_steps_297 (by decide) ?_
    exact J_sub [0, 1, 2, 3, 4, 5, 6, 7, 8, 9, 10, 11] rfl (Z_Mo_steps_301 C hR Rt K149 K175 K197 _ _ _ _ _ _ _ _ _ _ _ _ _ _ _ _ _ h)
def B_Mo_steps_253 (k149 : Nat → Int32 → Int32 → Int32 → Int32 → Int32 → Int32 → Mem → Prop) (k175 : Nat → Int32 → Int32 → Int32 → Int32 → Int32 → Int32 → Int32 → Mem → Prop) (k197 : Nat → Int32 → Int32 → Int32 → Int32 → Int32 → Int32 → Int32 → Int32 → Int32 → Mem → Prop) (post : Int32 → Mem → Prop) (a0 : Nat) (x1 : Int32) (x3 : Int32) (x4 : Int32) (x5 : Int32) (x6 : Int32) (x7 : Int32) (x8 : Int32) (x9 : Int32) (x10 : Int32) (x11 : Int32) (s0 : Int32) (M : Mem) : Prop := (isK M a0 7 ∧ T_Mo_place a0 x11 M (fun r263 M263 => isK M263 a0 7 ∧ ∃ q274, gR M263 a0 15 = some q274 ∧ isA M263 q274 8 x8 ∧ (¬ x10 = 0 → (B_Mo_steps_290 k149 k175 k197 post a0 x1 x3 x4 x5 x6 x7 x8 x9 x10 s0 ((x5 * x9) + (r263 * x4)) 0 (gI M263 q274 (Int32.toNatClampNeg x8)) a0 M263)) ∧ (x10 = 0 → (B_Mo_steps_290 k149 k175 k197 post a0 x1 x3 x4 x5 x6 x7 x8 x9 x10 s0 ((x5 * x9) + (r263 * x4)) 1 (gI M263 q274 (Int32.toNatClampNeg x8)) a0 M263))))
set_option maxRecDepth 20000 in
theorem Z_Mo_steps_253 {x : Ctx} {post : Int32 → Mem → Prop} (C : Ok x b_Mo_steps 14 "HeapTowerModel") (hR : xR x = rm_Mo_steps) (Rt : RetI x .int post 0 0) {k149 : Nat → Int32 → Int32 → Int32 → Int32 → Int32 → Int32 → Mem → Prop} (K149 : ∀ (a0 : Nat) (x1 : Int32) (x3 : Int32) (x4 : Int32) (x5 : Int32) (x6 : Int32) (x7 : Int32) (M : Mem), k149 a0 x1 x3 x4 x5 x6 x7 M → J x 14 149 [(0, .ref (xd x a0)), (1, .int x1), (3, .int x3), (4, .int x4), (5, .int x5), (6, .int x6), (7, .int x7)] [] 0 0 M) {k175 : Nat → Int32 → Int32 → Int32 → Int32 → Int32 → Int32 → Int32 → Mem → Prop} (K175 : ∀ (a0 : Nat) (x1 : Int32) (x3 : Int32) (x4 : Int32) (x5 : Int32) (x6 : Int32) (x7 : Int32) (x8 : Int32) (M : Mem), k175 a0 x1 x3 x4 x5 x6 x7 x8 M → J x 14 175 [(0, .ref (xd x a0)), (1, .int x1), (3, .int x3), (4, .int x4), (5, .int x5), (6, .int x6), (7, .int x7), (8, .int x8)] [] 0 0 M) {k197 : Nat → Int32 → Int32 → Int32 → Int32 → Int32 → Int32 → Int32 → Int32 → Int32 → Mem → Prop} (K197 : ∀ (a0 : Nat) (x1 : Int32) (x3 : Int32) (x4 : Int32) (x5 : Int32) (x6 : Int32) (x7 : Int32) (x8 : Int32) (x9 : Int32) (x10 : Int32) (M : Mem), k197 a0 x1 x3 x4 x5 x6 x7 x8 x9 x10 M → J x 14 197 [(0, .ref (xd x a0)), (1, .int x1), (3, .int x3), (4, .int x4), (5, .int x5), (6, .int x6), (7, .int x7), (8, .int x8), (9, .int x9), (10, .int x10)] [] 0 0 M) (a0 : Nat) (x1 : Int32) (x3 : Int32) (x4 : Int32) (x5 : Int32) (x6 : Int32) (x7 : Int32) (x8 : Int32) (x9 : Int32) (x10 : Int32) (x11 : Int32) (s0 : Int32) (M : Mem) (h : B_Mo_steps_253 k149 k175 k197 post a0 x1 x3 x4 x5 x6 x7 x8 x9 x10 x11 s0 M) : J x 14 253 [(0, .ref (xd x a0)), (1, .int x1), (3, .int x3), (4, .int x4), (5, .int x5), (6, .int x6), (7, .int x7), (8, .int x8), (9, .int x9), (10, .int x10), (11, .int x11)] [.int s0] 0 0 M := by
  unfold B_Mo_steps_253 at h
  refine J_istore (lv' := [(12, .int s0), (0, .ref (xd x a0)), (1, .int x1), (3, .int x3), (4, .int x4), (5, .int x5), (6, .int x6), (7, .int x7), (8, .int x8), (9, .int x9), (10, .int x10), (11, .int x11)]) C 12 D_Mo_steps_253 (by decide) rfl ?_
  refine J_iload C 5 D_Mo_steps_255 rfl ?_
  refine J_iload C 9 D_Mo_steps_257 rfl ?_
  refine J_imul C D_Mo_steps_259 ?_
  refine J_aload_n C 0 D_Mo_steps_260 rfl rfl ?_
  refine J_iload C 11 D_Mo_steps_261 rfl ?_
  obtain ⟨c_263, h⟩ := h
  refine J_callVi C ml_Mo_160 (S_Mo_place _ _ _ _ h) (by rw [hR]; decide) rfl c_263 rfl (Nat.le_of_ble_eq_true rfl) D_Mo_steps_263 (fun r263 M263 h => ?_)
  refine J_iload C 4 D_Mo_steps_266 rfl ?_
  refine J_imul C D_Mo_steps_268 ?_
  refine J_iadd C D_Mo_steps_269 ?_
  refine J_istore (lv' := [(13, .int ((x5 * x9) + (r263 * x4))), (12, .int s0), (0, .ref (xd x a0)), (1, .int x1), (3, .int x3), (4, .int x4), (5, .int x5), (6, .int x6), (7, .int x7), (8, .int x8), (9, .int x9), (10, .int x10), (11, .int x11)]) C 13 D_Mo_steps_270 (by decide) rfl ?_
  refine J_aload_n C 0 D_Mo_steps_272 rfl rfl ?_
  refine J_aload_n C 0 D_Mo_steps_273 rfl rfl ?_
  obtain ⟨c_274, q274, e_274, h⟩ := h
  refine J_getR C fl_Mo_42 D_Mo_steps_274 c_274 e_274 ?_
  refine J_iload C 8 D_Mo_steps_277 rfl ?_
  obtain ⟨c_279, h⟩ := h
  refine J_iald C D_Mo_steps_279 c_279 ?_
  refine J_iload C 10 D_Mo_steps_280 rfl ?_
  refine J_if_ne (tgt := 289) C D_Mo_steps_282 (by decide) (fun c_282 => ?_) (fun c_282 => ?_)
  · have h := h.1 c_282
    refine J_iconst (v := 0) C D_Mo_steps_289 rfl ?_
    exact J_sub [2, 3, 4, 5, 6, 7, 8, 9, 10, 11, 1, 0] rfl (Z_Mo_steps_290 C hR Rt K149 K175 K197 _ _ _ _ _ _ _ _ _ _ _ _ _ _ _ _ h)
  · have h := h.2 c_282
    refine J_iconst (v := 1) C D_Mo_steps_285 rfl ?_
    refine J_goto (tgt := 290) C D_Mo_steps_286 (by decide) ?_
    exact J_sub [2, 3, 4, 5, 6, 7, 8, 9, 10, 11, 1, 0] rfl (Z_Mo_steps_290 C hR Rt K149 K175 K197 _ _ _ _ _ _ _ _ _ _ _ _ _ _ _ _ h)
def B_Mo_steps_197 (k149 : Nat → Int32 → Int32 → Int32 → Int32 → Int32 → Int32 → Mem → Prop) (k175 : Nat → Int32 → Int32 → Int32 → Int32 → Int32 → Int32 → Int32 → Mem → Prop) (k197 : Nat → Int32 → Int32 → Int32 → Int32 → Int32 → Int32 → Int32 → Int32 → Int32 → Mem → Prop) (post : Int32 → Mem → Prop) (a0 : Nat) (x1 : Int32) (x3 : Int32) (x4 : Int32) (x5 : Int32) (x6 : Int32) (x7 : Int32) (x8 : Int32) (x9 : Int32) (x10 : Int32) (M : Mem) : Prop := (isK M a0 7 ∧ ((gI M a0 1) ≤ x10 → (k175 a0 x1 x3 x4 x5 x6 x7 (x8 + 1) M)) ∧ (¬ (gI M a0 1) ≤ x10 → ((¬ (((x7 : Int32) >>> ((x10 : Int32) &&& 31)) &&& 1) = 0 → (T_Mo_ones ((x7 &&& (((1 : Int32) <<< ((x10 : Int32) &&& 31)) ^^^ ((-1)))) &&& (((1 : Int32) <<< ((x10 : Int32) &&& 31)) - 1)) M (fun r239 M239 => ¬ (2 : Int32) = 0 ∧ (¬ (r239 - r239 / 2 * 2) = 1 → (B_Mo_steps_253 k149 k175 k197 post a0 x1 x3 x4 x5 x6 x7 x8 x9 x10 (x7 &&& (((1 : Int32) <<< ((x10 : Int32) &&& 31)) ^^^ ((-1)))) 0 M239)) ∧ ((r239 - r239 / 2 * 2) = 1 → (B_Mo_steps_253 k149 k175 k197 post a0 x1 x3 x4 x5 x6 x7 x8 x9 x10 (x7 &&& (((1 : Int32) <<< ((x10 : Int32) &&& 31)) ^^^ ((-1)))) 1 M239))))) ∧ ((((x7 : Int32) >>> ((x10 : Int32) &&& 31)) &&& 1) = 0 → (B_Mo_steps_323 k149 k175 k197 post a0 x1 x3 x4 x5 x6 x7 x8 x9 x10 M)))))
set_option maxRecDepth 20000 in
theorem Z_Mo_steps_197 {x : Ctx} {post : Int32 → Mem → Prop} (C : Ok x b_Mo_steps 14 "HeapTowerModel") (hR : xR x = rm_Mo_steps) (Rt : RetI x .int post 0 0) {k149 : Nat → Int32 → Int32 → Int32 → Int32 → Int32 → Int32 → Mem → Prop} (K149 : ∀ (a0 : Nat) (x1 : Int32) (x3 : Int32) (x4 : Int32) (x5 : Int32) (x6 : Int32) (x7 : Int32) (M : Mem), k149 a0 x1 x3 x4 x5 x6 x7 M → J x 14 149 [(0, .ref (xd x a0)), (1, .int x1), (3, .int x3), (4, .int x4), (5, .int x5), (6, .int x6), (7, .int x7)] [] 0 0 M) {k175 : Nat → Int32 → Int32 → Int32 → Int32 → Int32 → Int32 → Int32 → Mem → Prop} (K175 : ∀ (a0 : Nat) (x1 : Int32) (x3 : Int32) (x4 : Int32) (x5 : Int32) (x6 : Int32) (x7 : Int32) (x8 : Int32) (M : Mem), k175 a0 x1 x3 x4 x5 x6 x7 x8 M → J x 14 175 [(0, .ref (xd x a0)), (1, .int x1), (3, .int x3), (4, .int x4), (5, .int x5), (6, .int x6), (7, .int x7), (8, .int x8)] [] 0 0 M) {k197 : Nat → Int32 → Int32 → Int32 → Int32 → Int32 → Int32 → Int32 → Int32 → Int32 → Mem → Prop} (K197 : ∀ (a0 : Nat) (x1 : Int32) (x3 : Int32) (x4 : Int32) (x5 : Int32) (x6 : Int32) (x7 : Int32) (x8 : Int32) (x9 : Int32) (x10 : Int32) (M : Mem), k197 a0 x1 x3 x4 x5 x6 x7 x8 x9 x10 M → J x 14 197 [(0, .ref (xd x a0)), (1, .int x1), (3, .int x3), (4, .int x4), (5, .int x5), (6, .int x6), (7, .int x7), (8, .int x8), (9, .int x9), (10, .int x10)] [] 0 0 M) (a0 : Nat) (x1 : Int32) (x3 : Int32) (x4 : Int32) (x5 : Int32) (x6 : Int32) (x7 : Int32) (x8 : Int32) (x9 : Int32) (x10 : Int32) (M : Mem) (h : B_Mo_steps_197 k149 k175 k197 post a0 x1 x3 x4 x5 x6 x7 x8 x9 x10 M) : J x 14 197 [(0, .ref (xd x a0)), (1, .int x1), (3, .int x3), (4, .int x4), (5, .int x5), (6, .int x6), (7, .int x7), (8, .int x8), (9, .int x9), (10, .int x10)] [] 0 0 M := by
  unfold B_Mo_steps_197 at h
  refine J_iload C 10 D_Mo_steps_197 rfl ?_
  refine J_aload_n C 0 D_Mo_steps_199 rfl rfl ?_
  obtain ⟨c_200, h⟩ := h
  refine J_getI C fl_Mo_13 D_Mo_steps_200 c_200 ?_
  refine J_icmp_ge (tgt := 329) C D_Mo_steps_203 (by decide) (fun c_203 => ?_) (fun c_203 => ?_)
  · have h := h.1 c_203
    refine J_iinc (v := x8 + 1) (lv' := [(8, .int (x8 + 1)), (0, .ref (xd x a0)), (1, .int x1), (3, .int x3), (4, .int x4), (5, .int x5), (6, .int x6), (7, .int x7), (9, .int x9), (10, .int x10)]) C 8 7 D_Mo_steps_329 rfl rfl (by decide) rfl ?_
    refine J_goto (tgt := 175) C D_Mo_steps_332 (by decide) ?_
    exact J_sub [1, 2, 3, 4, 5, 6, 7, 0] rfl (K175 _ _ _ _ _ _ _ _ _ h)
  · have h := h.2 c_203
    refine J_iload C 7 D_Mo_steps_206 rfl ?_
    refine J_iload C 10 D_Mo_steps_208 rfl ?_
    refine J_ishr C D_Mo_steps_210 ?_
    refine J_iconst (v := 1) C D_Mo_steps_211 rfl ?_
    refine J_iand C D_Mo_steps_212 ?_
    refine J_if_ne (tgt := 219) C D_Mo_steps_213 (by decide) (fun c_213 => ?_) (fun c_213 => ?_)
    · have h := h.1 c_213
      refine J_iload C 7 D_Mo_steps_219 rfl ?_
      refine J_iconst (v := 1) C D_Mo_steps_221 rfl ?_
      refine J_iload C 10 D_Mo_steps_222 rfl ?_
      refine J_ishl C D_Mo_steps_224 ?_
      refine J_iconst (v := (-1)) C D_Mo_steps_225 rfl ?_
      refine J_ixor C D_Mo_steps_226 ?_
      refine J_iand C D_Mo_steps_227 ?_
      refine J_istore (lv' := [(11, .int (x7 &&& (((1 : Int32) <<< ((x10 : Int32) &&& 31)) ^^^ ((-1))))), (0, .ref (xd x a0)), (1, .int x1), (3, .int x3), (4, .int x4), (5, .int x5), (6, .int x6), (7, .int x7), (8, .int x8), (9, .int x9), (10, .int x10)]) C 11 D_Mo_steps_228 (by decide) rfl ?_
      refine J_iload C 11 D_Mo_steps_230 rfl ?_
      refine J_iconst (v := 1) C D_Mo_steps_232 rfl ?_
      refine J_iload C 10 D_Mo_steps_233 rfl ?_
      refine J_ishl C D_Mo_steps_235 ?_
      refine J_iconst (v := 1) C D_Mo_steps_236 rfl ?_
      refine J_isub C D_Mo_steps_237 ?_
      refine J_iand C D_Mo_steps_238 ?_
      refine J_callSi C ml_Mo_151 (S_Mo_ones _ _ _ h) (by rw [hR]; decide) rfl rfl (Nat.le_of_ble_eq_true rfl) D_Mo_steps_239 (fun r239 M239 h => ?_)
      refine J_iconst (v := 2) C D_Mo_steps_242 rfl ?_
      obtain ⟨c_243, h⟩ := h
      refine J_irem C D_Mo_steps_243 c_243 ?_
      refine J_iconst (v := 1) C D_Mo_steps_244 rfl ?_
      refine J_icmp_ne (tgt := 252) C D_Mo_steps_245 (by decide) (fun c_245 => ?_) (fun c_245 => ?_)
      · have h := h.1 c_245
        refine J_iconst (v := 0) C D_Mo_steps_252 rfl ?_
        exact J_sub [1, 2, 3, 4, 5, 6, 7, 8, 9, 10, 0] rfl (Z_Mo_steps_253 C hR Rt K149 K175 K197 _ _ _ _ _ _ _ _ _ _ _ _ _ h)
      · have h := h.2 c_245
        refine J_iconst (v := 1) C D_Mo_steps_248 rfl ?_
        refine J_goto (tgt := 253) C D_Mo_steps_249 (by decide) ?_
        exact J_sub [1, 2, 3, 4, 5, 6, 7, 8, 9, 10, 0] rfl (Z_Mo_steps_253 C hR Rt K149 K175 K197 _ _ _ _ _ _ _ _ _ _ _ _ _ h)
    · have h := h.2 c_213
      refine J_goto (tgt := 323) C D_Mo_steps_216 (by decide) ?_
      exact J_sub [0, 1, 2, 3, 4, 5, 6, 7, 8, 9] rfl (Z_Mo_steps_323 C hR Rt K149 K175 K197 _ _ _ _ _ _ _ _ _ _ _ h)
def L_Mo_steps_197 (k149 : Nat → Int32 → Int32 → Int32 → Int32 → Int32 → Int32 → Mem → Prop) (k175 : Nat → Int32 → Int32 → Int32 → Int32 → Int32 → Int32 → Int32 → Mem → Prop) (post : Int32 → Mem → Prop) : Nat → Nat → Int32 → Int32 → Int32 → Int32 → Int32 → Int32 → Int32 → Int32 → Int32 → Mem → Prop
  | 0, _, _, _, _, _, _, _, _, _, _, _ => False
  | n + 1, a0, x1, x3, x4, x5, x6, x7, x8, x9, x10, M => B_Mo_steps_197 k149 k175 (L_Mo_steps_197 k149 k175 post n) post a0 x1 x3 x4 x5 x6 x7 x8 x9 x10 M
theorem Y_Mo_steps_197 {x : Ctx} {post : Int32 → Mem → Prop} (C : Ok x b_Mo_steps 14 "HeapTowerModel") (hR : xR x = rm_Mo_steps) (Rt : RetI x .int post 0 0) {k149 : Nat → Int32 → Int32 → Int32 → Int32 → Int32 → Int32 → Mem → Prop} (K149 : ∀ (a0 : Nat) (x1 : Int32) (x3 : Int32) (x4 : Int32) (x5 : Int32) (x6 : Int32) (x7 : Int32) (M : Mem), k149 a0 x1 x3 x4 x5 x6 x7 M → J x 14 149 [(0, .ref (xd x a0)), (1, .int x1), (3, .int x3), (4, .int x4), (5, .int x5), (6, .int x6), (7, .int x7)] [] 0 0 M) {k175 : Nat → Int32 → Int32 → Int32 → Int32 → Int32 → Int32 → Int32 → Mem → Prop} (K175 : ∀ (a0 : Nat) (x1 : Int32) (x3 : Int32) (x4 : Int32) (x5 : Int32) (x6 : Int32) (x7 : Int32) (x8 : Int32) (M : Mem), k175 a0 x1 x3 x4 x5 x6 x7 x8 M → J x 14 175 [(0, .ref (xd x a0)), (1, .int x1), (3, .int x3), (4, .int x4), (5, .int x5), (6, .int x6), (7, .int x7), (8, .int x8)] [] 0 0 M) : ∀ (n : Nat) (a0 : Nat) (x1 : Int32) (x3 : Int32) (x4 : Int32) (x5 : Int32) (x6 : Int32) (x7 : Int32) (x8 : Int32) (x9 : Int32) (x10 : Int32) (M : Mem), L_Mo_steps_197 k149 k175 post n a0 x1 x3 x4 x5 x6 x7 x8 x9 x10 M → J x 14 197 [(0, .ref (xd x a0)), (1, .int x1), (3, .int x3), (4, .int x4), (5, .int x5), (6, .int x6), (7, .int x7), (8, .int x8), (9, .int x9), (10, .int x10)] [] 0 0 M := by
  intro n
  induction n with
  | zero => intro a0 x1 x3 x4 x5 x6 x7 x8 x9 x10 M h; exact h.elim
  | succ n ih => intro a0 x1 x3 x4 x5 x6 x7 x8 x9 x10 M h; exact Z_Mo_steps_197 C hR Rt K149 K175 ih _ _ _ _ _ _ _ _ _ _ _ h
def B_Mo_steps_175 (k149 : Nat → Int32 → Int32 → Int32 → Int32 → Int32 → Int32 → Mem → Prop) (k175 : Nat → Int32 → Int32 → Int32 → Int32 → Int32 → Int32 → Int32 → Mem → Prop) (post : Int32 → Mem → Prop) (a0 : Nat) (x1 : Int32) (x3 : Int32) (x4 : Int32) (x5 : Int32) (x6 : Int32) (x7 : Int32) (x8 : Int32) (M : Mem) : Prop := ((x3 ≤ x8 → (B_Mo_steps_335 k149 post a0 x1 x3 x4 x5 x6 x7 M)) ∧ (¬ x3 ≤ x8 → (isK M a0 7 ∧ T_Mo_place a0 x7 M (fun r184 M184 => ∃ n, L_Mo_steps_197 k149 k175 post n a0 x1 x3 x4 x5 x6 x7 x8 ((r184 * x3) + x8) 0 M184))))
set_option maxRecDepth 20000 in
theorem Z_Mo_steps_175 {x : Ctx} {post : Int32 → Mem → Prop} (C : Ok x b_Mo_steps 14 "HeapTowerModel") (hR : xR x = rm_Mo_steps) (Rt : RetI x .int post 0 0) {k149 : Nat → Int32 → Int32 → Int32 → Int32 → Int32 → Int32 → Mem → Prop} (K149 : ∀ (a0 : Nat) (x1 : Int32) (x3 : Int32) (x4 : Int32) (x5 : Int32) (x6 : Int32) (x7 : Int32) (M : Mem), k149 a0 x1 x3 x4 x5 x6 x7 M → J x 14 149 [(0, .ref (xd x a0)), (1, .int x1), (3, .int x3), (4, .int x4), (5, .int x5), (6, .int x6), (7, .int x7)] [] 0 0 M) {k175 : Nat → Int32 → Int32 → Int32 → Int32 → Int32 → Int32 → Int32 → Mem → Prop} (K175 : ∀ (a0 : Nat) (x1 : Int32) (x3 : Int32) (x4 : Int32) (x5 : Int32) (x6 : Int32) (x7 : Int32) (x8 : Int32) (M : Mem), k175 a0 x1 x3 x4 x5 x6 x7 x8 M → J x 14 175 [(0, .ref (xd x a0)), (1, .int x1), (3, .int x3), (4, .int x4), (5, .int x5), (6, .int x6), (7, .int x7), (8, .int x8)] [] 0 0 M) (a0 : Nat) (x1 : Int32) (x3 : Int32) (x4 : Int32) (x5 : Int32) (x6 : Int32) (x7 : Int32) (x8 : Int32) (M : Mem) (h : B_Mo_steps_175 k149 k175 post a0 x1 x3 x4 x5 x6 x7 x8 M) : J x 14 175 [(0, .ref (xd x a0)), (1, .int x1), (3, .int x3), (4, .int x4), (5, .int x5), (6, .int x6), (7, .int x7), (8, .int x8)] [] 0 0 M := by
  unfold B_Mo_steps_175 at h
  refine J_iload C 8 D_Mo_steps_175 rfl ?_
  refine J_iload_n C 3 D_Mo_steps_177 rfl rfl ?_
  refine J_icmp_ge (tgt := 335) C D_Mo_steps_178 (by decide) (fun c_178 => ?_) (fun c_178 => ?_)
  · have h := h.1 c_178
    exact J_sub [0, 1, 2, 3, 4, 5, 6] rfl (Z_Mo_steps_335 C hR Rt K149 _ _ _ _ _ _ _ _ h)
  · have h := h.2 c_178
    refine J_aload_n C 0 D_Mo_steps_181 rfl rfl ?_
    refine J_iload C 7 D_Mo_steps_182 rfl ?_
    obtain ⟨c_184, h⟩ := h
    refine J_callVi C ml_Mo_160 (S_Mo_place _ _ _ _ h) (by rw [hR]; decide) rfl c_184 rfl (Nat.le_of_ble_eq_true rfl) D_Mo_steps_184 (fun r184 M184 h => ?_)
    refine J_iload_n C 3 D_Mo_steps_187 rfl rfl ?_
    refine J_imul C D_Mo_steps_188 ?_
    refine J_iload C 8 D_Mo_steps_189 rfl ?_
    refine J_iadd C D_Mo_steps_191 ?_
    refine J_istore (lv' := [(9, .int ((r184 * x3) + x8)), (0, .ref (xd x a0)), (1, .int x1), (3, .int x3), (4, .int x4), (5, .int x5), (6, .int x6), (7, .int x7), (8, .int x8)]) C 9 D_Mo_steps_192 (by decide) rfl ?_
    refine J_iconst (v := 0) C D_Mo_steps_194 rfl ?_
    refine J_istore (lv' := [(10, .int 0), (9, .int ((r184 * x3) + x8)), (0, .ref (xd x a0)), (1, .int x1), (3, .int x3), (4, .int x4), (5, .int x5), (6, .int x6), (7, .int x7), (8, .int x8)]) C 10 D_Mo_steps_195 (by decide) rfl ?_
    obtain ⟨n, h⟩ := h
    exact J_sub [2, 3, 4, 5, 6, 7, 8, 9, 1, 0] rfl (Y_Mo_steps_197 C hR Rt K149 K175 n _ _ _ _ _ _ _ _ _ _ _ h)
def L_Mo_steps_175 (k149 : Nat → Int32 → Int32 → Int32 → Int32 → Int32 → Int32 → Mem → Prop) (post : Int32 → Mem → Prop) : Nat → Nat → Int32 → Int32 → Int32 → Int32 → Int32 → Int32 → Int32 → Mem → Prop
  | 0, _, _, _, _, _, _, _, _, _ => False
  | n + 1, a0, x1, x3, x4, x5, x6, x7, x8, M => B_Mo_steps_175 k149 (L_Mo_steps_175 k149 post n) post a0 x1 x3 x4 x5 x6 x7 x8 M
theorem Y_Mo_steps_175 {x : Ctx} {post : Int32 → Mem → Prop} (C : Ok x b_Mo_steps 14 "HeapTowerModel") (hR : xR x = rm_Mo_steps) (Rt : RetI x .int post 0 0) {k149 : Nat → Int32 → Int32 → Int32 → Int32 → Int32 → Int32 → Mem → Prop} (K149 : ∀ (a0 : Nat) (x1 : Int32) (x3 : Int32) (x4 : Int32) (x5 : Int32) (x6 : Int32) (x7 : Int32) (M : Mem), k149 a0 x1 x3 x4 x5 x6 x7 M → J x 14 149 [(0, .ref (xd x a0)), (1, .int x1), (3, .int x3), (4, .int x4), (5, .int x5), (6, .int x6), (7, .int x7)] [] 0 0 M) : ∀ (n : Nat) (a0 : Nat) (x1 : Int32) (x3 : Int32) (x4 : Int32) (x5 : Int32) (x6 : Int32) (x7 : Int32) (x8 : Int32) (M : Mem), L_Mo_steps_175 k149 post n a0 x1 x3 x4 x5 x6 x7 x8 M → J x 14 175 [(0, .ref (xd x a0)), (1, .int x1), (3, .int x3), (4, .int x4), (5, .int x5), (6, .int x6), (7, .int x7), (8, .int x8)] [] 0 0 M := by
  intro n
  induction n with
  | zero => intro a0 x1 x3 x4 x5 x6 x7 x8 M h; exact h.elim
  | succ n ih => intro a0 x1 x3 x4 x5 x6 x7 x8 M h; exact Z_Mo_steps_175 C hR Rt K149 ih _ _ _ _ _ _ _ _ _ h
def B_Mo_steps_149 (k149 : Nat → Int32 → Int32 → Int32 → Int32 → Int32 → Int32 → Mem → Prop) (post : Int32 → Mem → Prop) (a0 : Nat) (x1 : Int32) (x3 : Int32) (x4 : Int32) (x5 : Int32) (x6 : Int32) (x7 : Int32) (M : Mem) : Prop := (isK M a0 7 ∧ (((1 : Int32) <<< (((gI M a0 1) : Int32) &&& 31)) ≤ x7 → (isK M a0 7 ∧ T_Mo_rankOf a0 x6 x5 M (fun r346 M346 => post r346 M346))) ∧ (¬ ((1 : Int32) <<< (((gI M a0 1) : Int32) &&& 31)) ≤ x7 → (T_Mo_ones x7 M (fun r162 M162 => (r162 = x1 → (∃ n, L_Mo_steps_175 k149 post n a0 x1 x3 x4 x5 x6 x7 0 M162)) ∧ (¬ r162 = x1 → (B_Mo_steps_335 k149 post a0 x1 x3 x4 x5 x6 x7 M162))))))
set_option maxRecDepth 20000 in
theorem Z_Mo_steps_149 {x : Ctx} {post : Int32 → Mem → Prop} (C : Ok x b_Mo_steps 14 "HeapTowerModel") (hR : xR x = rm_Mo_steps) (Rt : RetI x .int post 0 0) {k149 : Nat → Int32 → Int32 → Int32 → Int32 → Int32 → Int32 → Mem → Prop} (K149 : ∀ (a0 : Nat) (x1 : Int32) (x3 : Int32) (x4 : Int32) (x5 : Int32) (x6 : Int32) (x7 : Int32) (M : Mem), k149 a0 x1 x3 x4 x5 x6 x7 M → J x 14 149 [(0, .ref (xd x a0)), (1, .int x1), (3, .int x3), (4, .int x4), (5, .int x5), (6, .int x6), (7, .int x7)] [] 0 0 M) (a0 : Nat) (x1 : Int32) (x3 : Int32) (x4 : Int32) (x5 : Int32) (x6 : Int32) (x7 : Int32) (M : Mem) (h : B_Mo_steps_149 k149 post a0 x1 x3 x4 x5 x6 x7 M) : J x 14 149 [(0, .ref (xd x a0)), (1, .int x1), (3, .int x3), (4, .int x4), (5, .int x5), (6, .int x6), (7, .int x7)] [] 0 0 M := by
  unfold B_Mo_steps_149 at h
  refine J_iload C 7 D_Mo_steps_149 rfl ?_
  refine J_iconst (v := 1) C D_Mo_steps_151 rfl ?_
  refine J_aload_n C 0 D_Mo_steps_152 rfl rfl ?_
  obtain ⟨c_153, h⟩ := h
  refine J_getI C fl_Mo_13 D_Mo_steps_153 c_153 ?_
  refine J_ishl C D_Mo_steps_156 ?_
  refine J_icmp_ge (tgt := 341) C D_Mo_steps_157 (by decide) (fun c_157 => ?_) (fun c_157 => ?_)
  · have h := h.1 c_157
    refine J_aload_n C 0 D_Mo_steps_341 rfl rfl ?_
    refine J_iload C 6 D_Mo_steps_342 rfl ?_
    refine J_iload C 5 D_Mo_steps_344 rfl ?_
    obtain ⟨c_346, h⟩ := h
    refine J_callVi C ml_Mo_167 (S_Mo_rankOf _ _ _ _ _ h) (by rw [hR]; decide) rfl c_346 rfl (Nat.le_of_ble_eq_true rfl) D_Mo_steps_346 (fun r346 M346 h => ?_)
    exact J_iret C Rt D_Mo_steps_349 rfl h
  · have h := h.2 c_157
    refine J_iload C 7 D_Mo_steps_160 rfl ?_
    refine J_callSi C ml_Mo_151 (S_Mo_ones _ _ _ h) (by rw [hR]; decide) rfl rfl (Nat.le_of_ble_eq_true rfl) D_Mo_steps_162 (fun r162 M162 h => ?_)
    refine J_iload_n C 1 D_Mo_steps_165 rfl rfl ?_
    refine J_icmp_eq (tgt := 172) C D_Mo_steps_166 (by decide) (fun c_166 => ?_) (fun c_166 => ?_)
    · have h := h.1 c_166
      refine J_iconst (v := 0) C D_Mo_steps_172 rfl ?_
      refine J_istore (lv' := [(8, .int 0), (0, .ref (xd x a0)), (1, .int x1), (3, .int x3), (4, .int x4), (5, .int x5), (6, .int x6), (7, .int x7)]) C 8 D_Mo_steps_173 (by decide) rfl ?_
      obtain ⟨n, h⟩ := h
      exact J_sub [1, 2, 3, 4, 5, 6, 7, 0] rfl (Y_Mo_steps_175 C hR Rt K149 n _ _ _ _ _ _ _ _ _ h)
    · have h := h.2 c_166
      refine J_goto (tgt := 335) C D_Mo_steps_169 (by decide) ?_
      exact J_sub [0, 1, 2, 3, 4, 5, 6] rfl (Z_Mo_steps_335 C hR Rt K149 _ _ _ _ _ _ _ _ h)
def L_Mo_steps_149 (post : Int32 → Mem → Prop) : Nat → Nat → Int32 → Int32 → Int32 → Int32 → Int32 → Int32 → Mem → Prop
  | 0, _, _, _, _, _, _, _, _ => False
  | n + 1, a0, x1, x3, x4, x5, x6, x7, M => B_Mo_steps_149 (L_Mo_steps_149 post n) post a0 x1 x3 x4 x5 x6 x7 M
theorem Y_Mo_steps_149 {x : Ctx} {post : Int32 → Mem → Prop} (C : Ok x b_Mo_steps 14 "HeapTowerModel") (hR : xR x = rm_Mo_steps) (Rt : RetI x .int post 0 0) : ∀ (n : Nat) (a0 : Nat) (x1 : Int32) (x3 : Int32) (x4 : Int32) (x5 : Int32) (x6 : Int32) (x7 : Int32) (M : Mem), L_Mo_steps_149 post n a0 x1 x3 x4 x5 x6 x7 M → J x 14 149 [(0, .ref (xd x a0)), (1, .int x1), (3, .int x3), (4, .int x4), (5, .int x5), (6, .int x6), (7, .int x7)] [] 0 0 M := by
  intro n
  induction n with
  | zero => intro a0 x1 x3 x4 x5 x6 x7 M h; exact h.elim
  | succ n ih => intro a0 x1 x3 x4 x5 x6 x7 M h; exact Z_Mo_steps_149 C hR Rt ih _ _ _ _ _ _ _ _ h
def B_Mo_steps_122 (k122 : Nat → Int32 → Int32 → Int32 → Int32 → Int32 → Int32 → Mem → Prop) (post : Int32 → Mem → Prop) (a0 : Nat) (x1 : Int32) (x3 : Int32) (x4 : Int32) (x5 : Int32) (x6 : Int32) (x7 : Int32) (M : Mem) : Prop := (((x5 * x6) ≤ x7 → (∃ n, L_Mo_steps_149 post n a0 x1 x3 x4 x5 x6 0 M)) ∧ (¬ (x5 * x6) ≤ x7 → (isK M a0 7 ∧ ∃ q133, gR M a0 14 = some q133 ∧ isA M q133 8 x7 ∧ k122 a0 x1 x3 x4 x5 x6 (x7 + 1) (sI M q133 (Int32.toNatClampNeg x7) 0))))
set_option maxRecDepth 20000 in
theorem Z_Mo_steps_122 {x : Ctx} {post : Int32 → Mem → Prop} (C : Ok x b_Mo_steps 14 "HeapTowerModel") (hR : xR x = rm_Mo_steps) (Rt : RetI x .int post 0 0) {k122 : Nat → Int32 → Int32 → Int32 → Int32 → Int32 → Int32 → Mem → Prop} (K122 : ∀ (a0 : Nat) (x1 : Int32) (x3 : Int32) (x4 : Int32) (x5 : Int32) (x6 : Int32) (x7 : Int32) (M : Mem), k122 a0 x1 x3 x4 x5 x6 x7 M → J x 14 122 [(0, .ref (xd x a0)), (1, .int x1), (3, .int x3), (4, .int x4), (5, .int x5), (6, .int x6), (7, .int x7)] [] 0 0 M) (a0 : Nat) (x1 : Int32) (x3 : Int32) (x4 : Int32) (x5 : Int32) (x6 : Int32) (x7 : Int32) (M : Mem) (h : B_Mo_steps_122 k122 post a0 x1 x3 x4 x5 x6 x7 M) : J x 14 122 [(0, .ref (xd x a0)), (1, .int x1), (3, .int x3), (4, .int x4), (5, .int x5), (6, .int x6), (7, .int x7)] [] 0 0 M := by
  unfold B_Mo_steps_122 at h
  refine J_iload C 7 D_Mo_steps_122 rfl ?_
  refine J_iload C 5 D_Mo_steps_124 rfl ?_
  refine J_iload C 6 D_Mo_steps_126 rfl ?_
  refine J_imul C D_Mo_steps_128 ?_
  refine J_icmp_ge (tgt := 146) C D_Mo_steps_129 (by decide) (fun c_129 => ?_) (fun c_129 => ?_)
  · have h := h.1 c_129
    refine J_iconst (v := 0) C D_Mo_steps_146 rfl ?_
    refine J_istore (lv' := [(7, .int 0), (0, .ref (xd x a0)), (1, .int x1), (3, .int x3), (4, .int x4), (5, .int x5), (6, .int x6)]) C 7 D_Mo_steps_147 (by decide) rfl ?_
    obtain ⟨n, h⟩ := h
    exact J_sub [1, 2, 3, 4, 5, 6, 0] rfl (Y_Mo_steps_149 C hR Rt  n _ _ _ _ _ _ _ _ h)
  · have h := h.2 c_129
    refine J_aload_n C 0 D_Mo_steps_132 rfl rfl ?_
    obtain ⟨c_133, q133, e_133, h⟩ := h
    refine J_getR C fl_Mo_39 D_Mo_steps_133 c_133 e_133 ?_
    refine J_iload C 7 D_Mo_steps_136 rfl ?_
    refine J_iconst (v := 0) C D_Mo_steps_138 rfl ?_
    obtain ⟨c_139, h⟩ := h
    refine J_iast C D_Mo_steps_139 c_139 ?_
    refine J_iinc (v := x7 + 1) (lv' := [(7, .int (x7 + 1)), (0, .ref (xd x a0)), (1, .int x1), (3, .int x3), (4, .int x4), (5, .int x5), (6, .int x6)]) C 7 6 D_Mo_steps_140 rfl rfl (by decide) rfl ?_
    refine J_goto (tgt := 122) C D_Mo_steps_143 (by decide) ?_
    exact J_sub [1, 2, 3, 4, 5, 6, 0] rfl (K122 _ _ _ _ _ _ _ _ h)
def L_Mo_steps_122 (post : Int32 → Mem → Prop) : Nat → Nat → Int32 → Int32 → Int32 → Int32 → Int32 → Int32 → Mem → Prop
  | 0, _, _, _, _, _, _, _, _ => False
  | n + 1, a0, x1, x3, x4, x5, x6, x7, M => B_Mo_steps_122 (L_Mo_steps_122 post n) post a0 x1 x3 x4 x5 x6 x7 M
theorem Y_Mo_steps_122 {x : Ctx} {post : Int32 → Mem → Prop} (C : Ok x b_Mo_steps 14 "HeapTowerModel") (hR : xR x = rm_Mo_steps) (Rt : RetI x .int post 0 0) : ∀ (n : Nat) (a0 : Nat) (x1 : Int32) (x3 : Int32) (x4 : Int32) (x5 : Int32) (x6 : Int32) (x7 : Int32) (M : Mem), L_Mo_steps_122 post n a0 x1 x3 x4 x5 x6 x7 M → J x 14 122 [(0, .ref (xd x a0)), (1, .int x1), (3, .int x3), (4, .int x4), (5, .int x5), (6, .int x6), (7, .int x7)] [] 0 0 M := by
  intro n
  induction n with
  | zero => intro a0 x1 x3 x4 x5 x6 x7 M h; exact h.elim
  | succ n ih => intro a0 x1 x3 x4 x5 x6 x7 M h; exact Z_Mo_steps_122 C hR Rt ih _ _ _ _ _ _ _ _ h
def B_Mo_steps_117 (post : Int32 → Mem → Prop) (M : Mem) : Prop := (post 0 M)
set_option maxRecDepth 20000 in
theorem Z_Mo_steps_117 {x : Ctx} {post : Int32 → Mem → Prop} (C : Ok x b_Mo_steps 14 "HeapTowerModel") (hR : xR x = rm_Mo_steps) (Rt : RetI x .int post 0 0) (M : Mem) (h : B_Mo_steps_117 post M) : J x 14 117 [] [] 0 0 M := by
  unfold B_Mo_steps_117 at h
  refine J_iconst (v := 0) C D_Mo_steps_117 rfl ?_
  exact J_iret C Rt D_Mo_steps_118 rfl h
def B_Mo_steps_80 (k46 : Nat → Int32 → Int32 → Int32 → Int32 → Mem → Prop) (post : Int32 → Mem → Prop) (a0 : Nat) (x1 : Int32) (x3 : Int32) (x4 : Int32) (x5 : Int32) (M : Mem) : Prop := (k46 a0 x1 x3 x4 (x5 + 1) M)
set_option maxRecDepth 20000 in
theorem Z_Mo_steps_80 {x : Ctx} {post : Int32 → Mem → Prop} (C : Ok x b_Mo_steps 14 "HeapTowerModel") (hR : xR x = rm_Mo_steps) (Rt : RetI x .int post 0 0) {k46 : Nat → Int32 → Int32 → Int32 → Int32 → Mem → Prop} (K46 : ∀ (a0 : Nat) (x1 : Int32) (x3 : Int32) (x4 : Int32) (x5 : Int32) (M : Mem), k46 a0 x1 x3 x4 x5 M → J x 14 46 [(0, .ref (xd x a0)), (1, .int x1), (3, .int x3), (4, .int x4), (5, .int x5)] [] 0 0 M) (a0 : Nat) (x1 : Int32) (x3 : Int32) (x4 : Int32) (x5 : Int32) (M : Mem) (h : B_Mo_steps_80 k46 post a0 x1 x3 x4 x5 M) : J x 14 80 [(0, .ref (xd x a0)), (1, .int x1), (3, .int x3), (4, .int x4), (5, .int x5)] [] 0 0 M := by
  unfold B_Mo_steps_80 at h
  refine J_iinc (v := x5 + 1) (lv' := [(5, .int (x5 + 1)), (0, .ref (xd x a0)), (1, .int x1), (3, .int x3), (4, .int x4)]) C 5 4 D_Mo_steps_80 rfl rfl (by decide) rfl ?_
  refine J_goto (tgt := 46) C D_Mo_steps_83 (by decide) ?_
  exact J_sub [1, 2, 3, 4, 0] rfl (K46 _ _ _ _ _ _ h)
def B_Mo_steps_46 (k46 : Nat → Int32 → Int32 → Int32 → Int32 → Mem → Prop) (post : Int32 → Mem → Prop) (a0 : Nat) (x1 : Int32) (x3 : Int32) (x4 : Int32) (x5 : Int32) (M : Mem) : Prop := (isK M a0 7 ∧ ((gI M a0 8) ≤ x5 → (isK M a0 7 ∧ T_Mo_setsOf a0 (x1 - 1) M (fun r90 M90 => isK M90 a0 7 ∧ T_Mo_setsOf a0 x1 M90 (fun r100 M100 => ((r90 * x4) = 0 → (B_Mo_steps_117 post M100)) ∧ (¬ (r90 * x4) = 0 → ((¬ (r100 * x3) = 0 → (∃ n, L_Mo_steps_122 post n a0 x1 x3 x4 (r90 * x4) (r100 * x3) 0 M100)) ∧ ((r100 * x3) = 0 → (B_Mo_steps_117 post M100)))))))) ∧ (¬ (gI M a0 8) ≤ x5 → (isK M a0 7 ∧ ∃ q56, gR M a0 11 = some q56 ∧ isA M q56 9 x5 ∧ ((gI M q56 (Int32.toNatClampNeg x5)) = 0 → (isK M a0 7 ∧ ∃ q69, gR M a0 17 = some q69 ∧ isA M q69 8 x5 ∧ B_Mo_steps_80 k46 post a0 x1 x3 (x4 + 1) x5 (sI M q69 (Int32.toNatClampNeg x5) x4))) ∧ (¬ (gI M q56 (Int32.toNatClampNeg x5)) = 0 → (B_Mo_steps_80 k46 post a0 x1 x3 x4 x5 M)))))
set_option maxRecDepth 20000 in
theorem Z_Mo_steps_46 {x : Ctx} {post : Int32 → Mem → Prop} (C : Ok x b_Mo_steps 14 "HeapTowerModel") (hR : xR x = rm_Mo_steps) (Rt : RetI x .int post 0 0) {k46 : Nat → Int32 → Int32 → Int32 → Int32 → Mem → Prop} (K46 : ∀ (a0 : Nat) (x1 : Int32) (x3 : Int32) (x4 : Int32) (x5 : Int32) (M : Mem), k46 a0 x1 x3 x4 x5 M → J x 14 46 [(0, .ref (xd x a0)), (1, .int x1), (3, .int x3), (4, .int x4), (5, .int x5)] [] 0 0 M) (a0 : Nat) (x1 : Int32) (x3 : Int32) (x4 : Int32) (x5 : Int32) (M : Mem) (h : B_Mo_steps_46 k46 post a0 x1 x3 x4 x5 M) : J x 14 46 [(0, .ref (xd x a0)), (1, .int x1), (3, .int x3), (4, .int x4), (5, .int x5)] [] 0 0 M := by
  unfold B_Mo_steps_46 at h
  refine J_iload C 5 D_Mo_steps_46 rfl ?_
  refine J_aload_n C 0 D_Mo_steps_48 rfl rfl ?_
  obtain ⟨c_49, h⟩ := h
  refine J_getI C fl_Mo_115 D_Mo_steps_49 c_49 ?_
  refine J_icmp_ge (tgt := 86) C D_Mo_steps_52 (by decide) (fun c_52 => ?_) (fun c_52 => ?_)
  · have h := h.1 c_52
    refine J_aload_n C 0 D_Mo_steps_86 rfl rfl ?_
    refine J_iload_n C 1 D_Mo_steps_87 rfl rfl ?_
    refine J_iconst (v := 1) C D_Mo_steps_88 rfl ?_
    refine J_isub C D_Mo_steps_89 ?_
    obtain ⟨c_90, h⟩ := h
    refine J_callVi C ml_Mo_154 (S_Mo_setsOf _ _ _ _ h) (by rw [hR]; decide) rfl c_90 rfl (Nat.le_of_ble_eq_true rfl) D_Mo_steps_90 (fun r90 M90 h => ?_)
    refine J_iload C 4 D_Mo_steps_93 rfl ?_
    refine J_imul C D_Mo_steps_95 ?_
    refine J_istore (lv' := [(5, .int (r90 * x4)), (0, .ref (xd x a0)), (1, .int x1), (3, .int x3), (4, .int x4)]) C 5 D_Mo_steps_96 (by decide) rfl ?_
    refine J_aload_n C 0 D_Mo_steps_98 rfl rfl ?_
    refine J_iload_n C 1 D_Mo_steps_99 rfl rfl ?_
    obtain ⟨c_100, h⟩ := h
    refine J_callVi C ml_Mo_154 (S_Mo_setsOf _ _ _ _ h) (by rw [hR]; decide) rfl c_100 rfl (Nat.le_of_ble_eq_true rfl) D_Mo_steps_100 (fun r100 M100 h => ?_)
    refine J_iload_n C 3 D_Mo_steps_103 rfl rfl ?_
    refine J_imul C D_Mo_steps_104 ?_
    refine J_istore (lv' := [(6, .int (r100 * x3)), (5, .int (r90 * x4)), (0, .ref (xd x a0)), (1, .int x1), (3, .int x3), (4, .int x4)]) C 6 D_Mo_steps_105 (by decide) rfl ?_
    refine J_iload C 5 D_Mo_steps_107 rfl ?_
    refine J_if_eq (tgt := 117) C D_Mo_steps_109 (by decide) (fun c_109 => ?_) (fun c_109 => ?_)
    · have h := h.1 c_109
      exact J_sub [] rfl (Z_Mo_steps_117 C hR Rt  _ h)
    · have h := h.2 c_109
      refine J_iload C 6 D_Mo_steps_112 rfl ?_
      refine J_if_ne (tgt := 119) C D_Mo_steps_114 (by decide) (fun c_114 => ?_) (fun c_114 => ?_)
      · have h := h.1 c_114
        refine J_iconst (v := 0) C D_Mo_steps_119 rfl ?_
        refine J_istore (lv' := [(7, .int 0), (6, .int (r100 * x3)), (5, .int (r90 * x4)), (0, .ref (xd x a0)), (1, .int x1), (3, .int x3), (4, .int x4)]) C 7 D_Mo_steps_120 (by decide) rfl ?_
        obtain ⟨n, h⟩ := h
        exact J_sub [3, 4, 5, 6, 2, 1, 0] rfl (Y_Mo_steps_122 C hR Rt  n _ _ _ _ _ _ _ _ h)
      · have h := h.2 c_114
        exact J_sub [] rfl (Z_Mo_steps_117 C hR Rt  _ h)
  · have h := h.2 c_52
    refine J_aload_n C 0 D_Mo_steps_55 rfl rfl ?_
    obtain ⟨c_56, q56, e_56, h⟩ := h
    refine J_getR C fl_Mo_32 D_Mo_steps_56 c_56 e_56 ?_
    refine J_iload C 5 D_Mo_steps_59 rfl ?_
    obtain ⟨c_61, h⟩ := h
    refine J_zald C D_Mo_steps_61 c_61 ?_
    refine J_if_eq (tgt := 68) C D_Mo_steps_62 (by decide) (fun c_62 => ?_) (fun c_62 => ?_)
    · have h := h.1 c_62
      refine J_aload_n C 0 D_Mo_steps_68 rfl rfl ?_
      obtain ⟨c_69, q69, e_69, h⟩ := h
      refine J_getR C fl_Mo_45 D_Mo_steps_69 c_69 e_69 ?_
      refine J_iload C 5 D_Mo_steps_72 rfl ?_
      refine J_iload C 4 D_Mo_steps_74 rfl ?_
      obtain ⟨c_76, h⟩ := h
      refine J_iast C D_Mo_steps_76 c_76 ?_
      refine J_iinc (v := x4 + 1) (lv' := [(4, .int (x4 + 1)), (0, .ref (xd x a0)), (1, .int x1), (3, .int x3), (5, .int x5)]) C 4 3 D_Mo_steps_77 rfl rfl (by decide) rfl ?_
      exact J_sub [1, 2, 3, 0, 4] rfl (Z_Mo_steps_80 C hR Rt K46 _ _ _ _ _ _ h)
    · have h := h.2 c_62
      refine J_goto (tgt := 80) C D_Mo_steps_65 (by decide) ?_
      exact J_sub [0, 1, 2, 3, 4] rfl (Z_Mo_steps_80 C hR Rt K46 _ _ _ _ _ _ h)
def L_Mo_steps_46 (post : Int32 → Mem → Prop) : Nat → Nat → Int32 → Int32 → Int32 → Int32 → Mem → Prop
  | 0, _, _, _, _, _, _ => False
  | n + 1, a0, x1, x3, x4, x5, M => B_Mo_steps_46 (L_Mo_steps_46 post n) post a0 x1 x3 x4 x5 M
theorem Y_Mo_steps_46 {x : Ctx} {post : Int32 → Mem → Prop} (C : Ok x b_Mo_steps 14 "HeapTowerModel") (hR : xR x = rm_Mo_steps) (Rt : RetI x .int post 0 0) : ∀ (n : Nat) (a0 : Nat) (x1 : Int32) (x3 : Int32) (x4 : Int32) (x5 : Int32) (M : Mem), L_Mo_steps_46 post n a0 x1 x3 x4 x5 M → J x 14 46 [(0, .ref (xd x a0)), (1, .int x1), (3, .int x3), (4, .int x4), (5, .int x5)] [] 0 0 M := by
  intro n
  induction n with
  | zero => intro a0 x1 x3 x4 x5 M h; exact h.elim
  | succ n ih => intro a0 x1 x3 x4 x5 M h; exact Z_Mo_steps_46 C hR Rt ih _ _ _ _ _ _ h
def B_Mo_steps_17 (post : Int32 → Mem → Prop) (M : Mem) : Prop := (post 0 M)
set_option maxRecDepth 20000 in
theorem Z_Mo_steps_17 {x : Ctx} {post : Int32 → Mem → Prop} (C : Ok x b_Mo_steps 14 "HeapTowerModel") (hR : xR x = rm_Mo_steps) (Rt : RetI x .int post 0 0) (M : Mem) (h : B_Mo_steps_17 post M) : J x 14 17 [] [] 0 0 M := by
  unfold B_Mo_steps_17 at h
  refine J_iconst (v := 0) C D_Mo_steps_17 rfl ?_
  exact J_iret C Rt D_Mo_steps_18 rfl h
def T_Mo_steps (a0 : Nat) (x1 : Int32) (x2 : Int32) (M : Mem) (post : Int32 → Mem → Prop) : Prop := ((x1 = 0 → (B_Mo_steps_17 post M)) ∧ (¬ x1 = 0 → (isK M a0 7 ∧ ((gI M a0 1) < x1 → (B_Mo_steps_17 post M)) ∧ (¬ (gI M a0 1) < x1 → ((x1 ≤ x2 → (isK M a0 7 ∧ T_Mo_takeStandard a0 (x2 - x1) M (fun M23 => isK M23 a0 7 ∧ isK M23 a0 7 ∧ T_Mo_heap a0 ((x2 - x1) + 1) M23 (fun M37 => ∃ n, L_Mo_steps_46 post n a0 x1 (gI M23 a0 16) 0 0 M37)))) ∧ (¬ x1 ≤ x2 → (B_Mo_steps_17 post M)))))))
set_option maxRecDepth 20000 in
theorem S_Mo_steps {l : Launch} {D : va_G} {B t g : Nat} {d : Nat → Nat} {ac : Nat → ClassId}  (a0 : Nat) (x1 : Int32) (x2 : Int32) (M : Mem) (post : Int32 → Mem → Prop) (h : T_Mo_steps a0 x1 x2 M post) : Met l y_Mo_steps w_Mo_steps rm_Mo_steps (va_Pc [.ref (d a0), .int x1, .int x2] (PRE D B d g t ac M)) (QI D B d g ac post) 0 0 (AB B) := by
  refine met_i (by decide +kernel) (Nat.le_of_ble_eq_true rfl) (fun x h1 hR h3 h4 h5 h6 h7 h8 C Rt => ?_)
  subst h3 h4 h5 h6 h7 h8
  unfold T_Mo_steps at h
  show J x 14 0 [(0, .ref (xd x a0)), (1, .int x1), (2, .int x2)] [] 0 0 M
  refine J_iload_n C 1 D_Mo_steps_0 rfl rfl ?_
  refine J_if_eq (tgt := 17) C D_Mo_steps_1 (by decide) (fun c_1 => ?_) (fun c_1 => ?_)
  · have h := h.1 c_1
    exact J_sub [] rfl (Z_Mo_steps_17 C hR Rt  _ h)
  · have h := h.2 c_1
    refine J_iload_n C 1 D_Mo_steps_4 rfl rfl ?_
    refine J_aload_n C 0 D_Mo_steps_5 rfl rfl ?_
    obtain ⟨c_6, h⟩ := h
    refine J_getI C fl_Mo_13 D_Mo_steps_6 c_6 ?_
    refine J_icmp_gt (tgt := 17) C D_Mo_steps_9 (by decide) (fun c_9 => ?_) (fun c_9 => ?_)
    · have h := h.1 c_9
      exact J_sub [] rfl (Z_Mo_steps_17 C hR Rt  _ h)
    · have h := h.2 c_9
      refine J_iload_n C 2 D_Mo_steps_12 rfl rfl ?_
      refine J_iload_n C 1 D_Mo_steps_13 rfl rfl ?_
      refine J_icmp_ge (tgt := 19) C D_Mo_steps_14 (by decide) (fun c_14 => ?_) (fun c_14 => ?_)
      · have h := h.1 c_14
        refine J_aload_n C 0 D_Mo_steps_19 rfl rfl ?_
        refine J_iload_n C 2 D_Mo_steps_20 rfl rfl ?_
        refine J_iload_n C 1 D_Mo_steps_21 rfl rfl ?_
        refine J_isub C D_Mo_steps_22 ?_
        obtain ⟨c_23, h⟩ := h
        refine J_callVv C ml_Mo_157 (S_Mo_takeStandard _ _ _ _ h) (by rw [hR]; decide) rfl c_23 rfl (Nat.le_of_ble_eq_true rfl) D_Mo_steps_23 (fun M23 h => ?_)
        refine J_aload_n C 0 D_Mo_steps_26 rfl rfl ?_
        obtain ⟨c_27, h⟩ := h
        refine J_getI C fl_Mo_148 D_Mo_steps_27 c_27 ?_
        refine J_istore_n (lv' := [(3, .int (gI M23 a0 16)), (0, .ref (xd x a0)), (1, .int x1), (2, .int x2)]) C 3 D_Mo_steps_30 rfl (by decide) rfl ?_
        refine J_aload_n C 0 D_Mo_steps_31 rfl rfl ?_
        refine J_iload_n C 2 D_Mo_steps_32 rfl rfl ?_
        refine J_iload_n C 1 D_Mo_steps_33 rfl rfl ?_
        refine J_isub C D_Mo_steps_34 ?_
        refine J_iconst (v := 1) C D_Mo_steps_35 rfl ?_
        refine J_iadd C D_Mo_steps_36 ?_
        obtain ⟨c_37, h⟩ := h
        refine J_callVv C ml_Mo_139 (S_Mo_heap _ _ _ _ h) (by rw [hR]; decide) rfl c_37 rfl (Nat.le_of_ble_eq_true rfl) D_Mo_steps_37 (fun M37 h => ?_)
        refine J_iconst (v := 0) C D_Mo_steps_40 rfl ?_
        refine J_istore (lv' := [(4, .int 0), (3, .int (gI M23 a0 16)), (0, .ref (xd x a0)), (1, .int x1), (2, .int x2)]) C 4 D_Mo_steps_41 (by decide) rfl ?_
        refine J_iconst (v := 0) C D_Mo_steps_43 rfl ?_
        refine J_istore (lv' := [(5, .int 0), (4, .int 0), (3, .int (gI M23 a0 16)), (0, .ref (xd x a0)), (1, .int x1), (2, .int x2)]) C 5 D_Mo_steps_44 (by decide) rfl ?_
        obtain ⟨n, h⟩ := h
        exact J_sub [3, 4, 2, 1, 0] rfl (Y_Mo_steps_46 C hR Rt  n _ _ _ _ _ _ h)
      · have h := h.2 c_14
        exact J_sub [] rfl (Z_Mo_steps_17 C hR Rt  _ h)
