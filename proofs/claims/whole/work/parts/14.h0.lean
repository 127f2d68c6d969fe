theorem fl_Mo_7 : Fld "HeapTowerModel" 7 7 0 false true := ⟨R_Mo, F_Mo, 18, t_Mo, iw_Mo, rfl, by decide, rfl, rfl, by decide, rfl, (gw_in (List.mem_of_getElem? (i := 812) (by decide +kernel)) (by decide +kernel)), t_Mo_ok, n_Mo, rfl, (fun h => by cases h), fun _ => Or.inr ⟨_, rfl⟩⟩
theorem fl_Mo_13 : Fld "HeapTowerModel" 13 7 1 true false := ⟨R_Mo, F_Mo, 18, t_Mo, iw_Mo, rfl, by decide, rfl, rfl, by decide, rfl, (gw_in (List.mem_of_getElem? (i := 813) (by decide +kernel)) (by decide +kernel)), t_Mo_ok, n_Mo, rfl, fun _ => rfl, (fun h => by cases h)⟩
theorem fl_Mo_17 : Fld "HeapTowerModel" 17 7 2 true false := ⟨R_Mo, F_Mo, 18, t_Mo, iw_Mo, rfl, by decide, rfl, rfl, by decide, rfl, (gw_in (List.mem_of_getElem? (i := 814) (by decide +kernel)) (by decide +kernel)), t_Mo_ok, n_Mo, rfl, fun _ => rfl, (fun h => by cases h)⟩
theorem fl_Mo_58 : Fld "HeapTowerModel" 58 7 3 true false := ⟨R_Mo, F_Mo, 18, t_Mo, iw_Mo, rfl, by decide, rfl, rfl, by decide, rfl, (gw_in (List.mem_of_getElem? (i := 815) (by decide +kernel)) (by decide +kernel)), t_Mo_ok, n_Mo, rfl, fun _ => rfl, (fun h => by cases h)⟩
theorem ml_Mo_48 : MLV "HeapTowerModel" 48 y_Mo_mod b_Mo_mod 5 (some .int) 1 7 := ⟨List.forall_mem_cons.mpr ⟨(gw_in (List.mem_of_getElem? (i := 907) (by decide +kernel)) (by decide +kernel)), List.forall_mem_cons.mpr ⟨(gw_in (List.mem_of_getElem? (i := 909) (by decide +kernel)) (by decide +kernel)), List.forall_mem_cons.mpr ⟨(gw_in (List.mem_of_getElem? (i := 37) (by decide +kernel)) (by decide +kernel)), List.forall_mem_cons.mpr ⟨(gw_in (List.mem_of_getElem? (i := 74) (by decide +kernel)) (by decide +kernel)), List.forall_mem_cons.mpr ⟨(gw_in (List.mem_of_getElem? (i := 910) (by decide +kernel)) (by decide +kernel)), fun _ h => absurd h List.not_mem_nil⟩⟩⟩⟩⟩, by decide, F_Mo, 18, rfl, by decide⟩
theorem ml_Mo_54 : MLS "HeapTowerModel" 54 y_Mo_degreeOf b_Mo_degreeOf 1 (some .int) 1 := ⟨List.forall_mem_cons.mpr ⟨(gw_in (List.mem_of_getElem? (i := 931) (by decide +kernel)) (by decide +kernel)), List.forall_mem_cons.mpr ⟨(gw_in (List.mem_of_getElem? (i := 932) (by decide +kernel)) (by decide +kernel)), List.forall_mem_cons.mpr ⟨(gw_in (List.mem_of_getElem? (i := 74) (by decide +kernel)) (by decide +kernel)), List.forall_mem_cons.mpr ⟨(gw_in (List.mem_of_getElem? (i := 933) (by decide +kernel)) (by decide +kernel)), fun _ h => absurd h List.not_mem_nil⟩⟩⟩⟩, by decide⟩
theorem ml_Mo_61 : MLV "HeapTowerModel" 61 y_Mo_power b_Mo_power 3 (some .int) 2 7 := ⟨List.forall_mem_cons.mpr ⟨(gw_in (List.mem_of_getElem? (i := 942) (by decide +kernel)) (by decide +kernel)), List.forall_mem_cons.mpr ⟨(gw_in (List.mem_of_getElem? (i := 944) (by decide +kernel)) (by decide +kernel)), List.forall_mem_cons.mpr ⟨(gw_in (List.mem_of_getElem? (i := 42) (by decide +kernel)) (by decide +kernel)), List.forall_mem_cons.mpr ⟨(gw_in (List.mem_of_getElem? (i := 74) (by decide +kernel)) (by decide +kernel)), List.forall_mem_cons.mpr ⟨(gw_in (List.mem_of_getElem? (i := 945) (by decide +kernel)) (by decide +kernel)), fun _ h => absurd h List.not_mem_nil⟩⟩⟩⟩⟩, by decide, F_Mo, 18, rfl, by decide⟩
theorem ml_Mo_65 : MLV "HeapTowerModel" 65 y_Mo_put b_Mo_put 4 none 3 7 := ⟨List.forall_mem_cons.mpr ⟨(gw_in (List.mem_of_getElem? (i := 883) (by decide +kernel)) (by decide +kernel)), List.forall_mem_cons.mpr ⟨(gw_in (List.mem_of_getElem? (i := 885) (by decide +kernel)) (by decide +kernel)), List.forall_mem_cons.mpr ⟨(gw_in (List.mem_of_getElem? (i := 34) (by decide +kernel)) (by decide +kernel)), List.forall_mem_cons.mpr ⟨(gw_in (List.mem_of_getElem? (i := 74) (by decide +kernel)) (by decide +kernel)), List.forall_mem_cons.mpr ⟨(gw_in (List.mem_of_getElem? (i := 886) (by decide +kernel)) (by decide +kernel)), fun _ h => absurd h List.not_mem_nil⟩⟩⟩⟩⟩, by decide, F_Mo, 18, rfl, by decide⟩
theorem ml_Mo_69 : MLV "HeapTowerModel" 69 y_Mo_get b_Mo_get 3 (some .int) 2 7 := ⟨List.forall_mem_cons.mpr ⟨(gw_in (List.mem_of_getElem? (i := 903) (by decide +kernel)) (by decide +kernel)), List.forall_mem_cons.mpr ⟨(gw_in (List.mem_of_getElem? (i := 905) (by decide +kernel)) (by decide +kernel)), List.forall_mem_cons.mpr ⟨(gw_in (List.mem_of_getElem? (i := 36) (by decide +kernel)) (by decide +kernel)), List.forall_mem_cons.mpr ⟨(gw_in (List.mem_of_getElem? (i := 74) (by decide +kernel)) (by decide +kernel)), List.forall_mem_cons.mpr ⟨(gw_in (List.mem_of_getElem? (i := 906) (by decide +kernel)) (by decide +kernel)), fun _ h => absurd h List.not_mem_nil⟩⟩⟩⟩⟩, by decide, F_Mo, 18, rfl, by decide⟩
theorem ml_Mo_72 : MLV "HeapTowerModel" 72 y_Mo_degree b_Mo_degree 4 (some .int) 1 7 := ⟨List.forall_mem_cons.mpr ⟨(gw_in (List.mem_of_getElem? (i := 927) (by decide +kernel)) (by decide +kernel)), List.forall_mem_cons.mpr ⟨(gw_in (List.mem_of_getElem? (i := 929) (by decide +kernel)) (by decide +kernel)), List.forall_mem_cons.mpr ⟨(gw_in (List.mem_of_getElem? (i := 39) (by decide +kernel)) (by decide +kernel)), List.forall_mem_cons.mpr ⟨(gw_in (List.mem_of_getElem? (i := 74) (by decide +kernel)) (by decide +kernel)), List.forall_mem_cons.mpr ⟨(gw_in (List.mem_of_getElem? (i := 930) (by decide +kernel)) (by decide +kernel)), fun _ h => absurd h List.not_mem_nil⟩⟩⟩⟩⟩, by decide, F_Mo, 18, rfl, by decide⟩
theorem kw_Mo_52 : Cond.constantLong "HeapTowerModel" 52 10 ∈ gw := (gw_in (List.mem_of_getElem? (i := 899) (by decide +kernel)) (by decide +kernel))
theorem D_Mo_in3_0 : decode b_Mo_in3 0 = .ok (.iload_n 0, 1) := by decide +kernel
theorem D_Mo_in3_1 : decode b_Mo_in3 1 = .ok (.iload_n 1, 1) := by decide +kernel
theorem D_Mo_in3_2 : decode b_Mo_in3 2 = .ok (.if_icmp .lt 12, 3) := by decide +kernel
theorem D_Mo_in3_5 : decode b_Mo_in3 5 = .ok (.iload_n 0, 1) := by decide +kernel
theorem D_Mo_in3_6 : decode b_Mo_in3 6 = .ok (.iload_n 2, 1) := by decide +kernel
theorem D_Mo_in3_7 : decode b_Mo_in3 7 = .ok (.if_icmp .gt 7, 3) := by decide +kernel
theorem D_Mo_in3_10 : decode b_Mo_in3 10 = .ok (.iconst 1, 1) := by decide +kernel
theorem D_Mo_in3_11 : decode b_Mo_in3 11 = .ok (.goto 4, 3) := by decide +kernel
theorem D_Mo_in3_14 : decode b_Mo_in3 14 = .ok (.iconst 0, 1) := by decide +kernel
theorem D_Mo_in3_15 : decode b_Mo_in3 15 = .ok (.ireturn, 1) := by decide +kernel
abbrev rm_Mo_in3 : Room := { frames := 0, cells := 0, slots := 0, locals := 0 }
def B_Mo_in3_15 (post : Int32 → Mem → Prop) (s0 : Int32) (M : Mem) : Prop := (narrow .boolean (.int s0) = .int s0 ∧ post s0 M)
set_option maxRecDepth 20000 in
theorem Z_Mo_in3_15 {x : Ctx} {post : Int32 → Mem → Prop} (C : Ok x b_Mo_in3 3 "HeapTowerModel") (hR : xR x = rm_Mo_in3) (Rt : RetI x .boolean post 0 0) (s0 : Int32) (M : Mem) (h : B_Mo_in3_15 post s0 M) : J x 3 15 [] [.int s0] 0 0 M := by
  unfold B_Mo_in3_15 at h
  obtain ⟨c_15, h⟩ := h
  exact J_iret C Rt D_Mo_in3_15 c_15 h
def B_Mo_in3_14 (post : Int32 → Mem → Prop) (M : Mem) : Prop := (B_Mo_in3_15 post 0 M)
set_option maxRecDepth 20000 in
theorem Z_Mo_in3_14 {x : Ctx} {post : Int32 → Mem → Prop} (C : Ok x b_Mo_in3 3 "HeapTowerModel") (hR : xR x = rm_Mo_in3) (Rt : RetI x .boolean post 0 0) (M : Mem) (h : B_Mo_in3_14 post M) : J x 3 14 [] [] 0 0 M := by
  unfold B_Mo_in3_14 at h
  refine J_iconst (v := 0) C D_Mo_in3_14 rfl ?_
  exact J_sub [] rfl (Z_Mo_in3_15 C hR Rt  _ _ h)
def T_Mo_in3 (x0 : Int32) (x1 : Int32) (x2 : Int32) (M : Mem) (post : Int32 → Mem → Prop) : Prop := ((x0 < x1 → (B_Mo_in3_14 post M)) ∧ (¬ x0 < x1 → ((x2 < x0 → (B_Mo_in3_14 post M)) ∧ (¬ x2 < x0 → (B_Mo_in3_15 post 1 M)))))
set_option maxRecDepth 20000 in
theorem S_Mo_in3 {l : Launch} {D : va_G} {B t g : Nat} {d : Nat → Nat} {ac : Nat → ClassId}  (x0 : Int32) (x1 : Int32) (x2 : Int32) (M : Mem) (post : Int32 → Mem → Prop) (h : T_Mo_in3 x0 x1 x2 M post) : Met l y_Mo_in3 w_Mo_in3 rm_Mo_in3 (va_Pc [.int x0, .int x1, .int x2] (PRE D B d g t ac M)) (QI D B d g ac post) 0 0 (AB B) := by
  refine met_i (by decide +kernel) (Nat.le_of_ble_eq_true rfl) (fun x h1 hR h3 h4 h5 h6 h7 h8 C Rt => ?_)
  subst h3 h4 h5 h6 h7 h8
  unfold T_Mo_in3 at h
  show J x 3 0 [(0, .int x0), (1, .int x1), (2, .int x2)] [] 0 0 M
  refine J_iload_n C 0 D_Mo_in3_0 rfl rfl ?_
  refine J_iload_n C 1 D_Mo_in3_1 rfl rfl ?_
  refine J_icmp_lt (tgt := 14) C D_Mo_in3_2 (by decide) (fun c_2 => ?_) (fun c_2 => ?_)
  · have h := h.1 c_2
    exact J_sub [] rfl (Z_Mo_in3_14 C hR Rt  _ h)
  · have h := h.2 c_2
    refine J_iload_n C 0 D_Mo_in3_5 rfl rfl ?_
    refine J_iload_n C 2 D_Mo_in3_6 rfl rfl ?_
    refine J_icmp_gt (tgt := 14) C D_Mo_in3_7 (by decide) (fun c_7 => ?_) (fun c_7 => ?_)
    · have h := h.1 c_7
      exact J_sub [] rfl (Z_Mo_in3_14 C hR Rt  _ h)
    · have h := h.2 c_7
      refine J_iconst (v := 1) C D_Mo_in3_10 rfl ?_
      refine J_goto (tgt := 15) C D_Mo_in3_11 (by decide) ?_
      exact J_sub [] rfl (Z_Mo_in3_15 C hR Rt  _ _ h)
theorem D_Mo_mod_0 : decode b_Mo_mod 0 = .ok (.lload_n 1, 1) := by decide +kernel
theorem D_Mo_mod_1 : decode b_Mo_mod 1 = .ok (.aload_n 0, 1) := by decide +kernel
theorem D_Mo_mod_2 : decode b_Mo_mod 2 = .ok (.getfield 17, 3) := by decide +kernel
theorem D_Mo_mod_5 : decode b_Mo_mod 5 = .ok (.i2l, 1) := by decide +kernel
theorem D_Mo_mod_6 : decode b_Mo_mod 6 = .ok (.lrem, 1) := by decide +kernel
theorem D_Mo_mod_7 : decode b_Mo_mod 7 = .ok (.lstore_n 3, 1) := by decide +kernel
theorem D_Mo_mod_8 : decode b_Mo_mod 8 = .ok (.lload_n 3, 1) := by decide +kernel
theorem D_Mo_mod_9 : decode b_Mo_mod 9 = .ok (.lconst 0, 1) := by decide +kernel
theorem D_Mo_mod_10 : decode b_Mo_mod 10 = .ok (.lcmp, 1) := by decide +kernel
theorem D_Mo_mod_11 : decode b_Mo_mod 11 = .ok (.ifCond .ge 13, 3) := by decide +kernel
theorem D_Mo_mod_14 : decode b_Mo_mod 14 = .ok (.lload_n 3, 1) := by decide +kernel
theorem D_Mo_mod_15 : decode b_Mo_mod 15 = .ok (.aload_n 0, 1) := by decide +kernel
theorem D_Mo_mod_16 : decode b_Mo_mod 16 = .ok (.getfield 17, 3) := by decide +kernel
theorem D_Mo_mod_19 : decode b_Mo_mod 19 = .ok (.i2l, 1) := by decide +kernel
theorem D_Mo_mod_20 : decode b_Mo_mod 20 = .ok (.ladd, 1) := by decide +kernel
theorem D_Mo_mod_21 : decode b_Mo_mod 21 = .ok (.goto 4, 3) := by decide +kernel
theorem D_Mo_mod_24 : decode b_Mo_mod 24 = .ok (.lload_n 3, 1) := by decide +kernel
theorem D_Mo_mod_25 : decode b_Mo_mod 25 = .ok (.l2i, 1) := by decide +kernel
theorem D_Mo_mod_26 : decode b_Mo_mod 26 = .ok (.ireturn, 1) := by decide +kernel
abbrev rm_Mo_mod : Room := { frames := 0, cells := 0, slots := 0, locals := 0 }
def B_Mo_mod_25 (post : Int32 → Mem → Prop) (z0 : Int64) (M : Mem) : Prop := (post (Int64.toInt32 z0) M)
set_option maxRecDepth 20000 in
theorem Z_Mo_mod_25 {x : Ctx} {post : Int32 → Mem → Prop} (C : Ok x b_Mo_mod 5 "HeapTowerModel") (hR : xR x = rm_Mo_mod) (Rt : RetI x .int post 0 0) (z0 : Int64) (M : Mem) (h : B_Mo_mod_25 post z0 M) : J x 5 25 [] [.long z0] 0 0 M := by
  unfold B_Mo_mod_25 at h
  refine J_l2i C D_Mo_mod_25 ?_
  exact J_iret C Rt D_Mo_mod_26 rfl h
def T_Mo_mod (a0 : Nat) (l1 : Int64) (M : Mem) (post : Int32 → Mem → Prop) : Prop := (isK M a0 7 ∧ ¬ ((Int32.toInt64 (gI M a0 2)) : Int64) = 0 ∧ ((0 ≤ (l1 - l1 / (Int32.toInt64 (gI M a0 2)) * (Int32.toInt64 (gI M a0 2)))) → (B_Mo_mod_25 post (l1 - l1 / (Int32.toInt64 (gI M a0 2)) * (Int32.toInt64 (gI M a0 2))) M)) ∧ (¬ 0 ≤ (l1 - l1 / (Int32.toInt64 (gI M a0 2)) * (Int32.toInt64 (gI M a0 2))) → (isK M a0 7 ∧ B_Mo_mod_25 post ((l1 - l1 / (Int32.toInt64 (gI M a0 2)) * (Int32.toInt64 (gI M a0 2))) + (Int32.toInt64 (gI M a0 2))) M)))
set_option maxRecDepth 20000 in
theorem S_Mo_mod {l : Launch} {D : va_G} {B t g : Nat} {d : Nat → Nat} {ac : Nat → ClassId}  (a0 : Nat) (l1 : Int64) (M : Mem) (post : Int32 → Mem → Prop) (h : T_Mo_mod a0 l1 M post) : Met l y_Mo_mod w_Mo_mod rm_Mo_mod (va_Pc [.ref (d a0), .long l1] (PRE D B d g t ac M)) (QI D B d g ac post) 0 0 (AB B) := by
  refine met_i (by decide +kernel) (Nat.le_of_ble_eq_true rfl) (fun x h1 hR h3 h4 h5 h6 h7 h8 C Rt => ?_)
  subst h3 h4 h5 h6 h7 h8
  unfold T_Mo_mod at h
  show J x 5 0 [(0, .ref (xd x a0)), (1, .long l1)] [] 0 0 M
  refine J_lload_n C 1 D_Mo_mod_0 rfl rfl ?_
  refine J_aload_n C 0 D_Mo_mod_1 rfl rfl ?_
  obtain ⟨c_2, h⟩ := h
  refine J_getI C fl_Mo_17 D_Mo_mod_2 c_2 ?_
  refine J_i2l C D_Mo_mod_5 ?_
  obtain ⟨c_6, h⟩ := h
  refine J_lrem C D_Mo_mod_6 c_6 ?_
  refine J_lstore_n (lv' := [(3, .long (l1 - l1 / (Int32.toInt64 (gI M a0 2)) * (Int32.toInt64 (gI M a0 2)))), (0, .ref (xd x a0)), (1, .long l1)]) C 3 D_Mo_mod_7 rfl (by decide) rfl ?_
  refine J_lload_n C 3 D_Mo_mod_8 rfl rfl ?_
  refine J_lconst (v := 0) C D_Mo_mod_9 rfl ?_
  refine J_lcmp_ge (tgt := 24) C D_Mo_mod_10 D_Mo_mod_11 (by decide) (fun c_10 => ?_) (fun c_10 => ?_)
  · have h := h.1 c_10
    refine J_lload_n C 3 D_Mo_mod_24 rfl rfl ?_
    exact J_sub [] rfl (Z_Mo_mod_25 C hR Rt  _ _ h)
  · have h := h.2 c_10
    refine J_lload_n C 3 D_Mo_mod_14 rfl rfl ?_
    refine J_aload_n C 0 D_Mo_mod_15 rfl rfl ?_
    obtain ⟨c_16, h⟩ := h
    refine J_getI C fl_Mo_17 D_Mo_mod_16 c_16 ?_
    refine J_i2l C D_Mo_mod_19 ?_
    refine J_ladd C D_Mo_mod_20 ?_
    refine J_goto (tgt := 25) C D_Mo_mod_21 (by decide) ?_
    exact J_sub [] rfl (Z_Mo_mod_25 C hR Rt  _ _ h)
theorem D_Mo_inverse_0 : decode b_Mo_inverse 0 = .ok (.iconst 1, 1) := by decide +kernel
theorem D_Mo_inverse_1 : decode b_Mo_inverse 1 = .ok (.istore_n 2, 1) := by decide +kernel
theorem D_Mo_inverse_2 : decode b_Mo_inverse 2 = .ok (.aload_n 0, 1) := by decide +kernel
theorem D_Mo_inverse_3 : decode b_Mo_inverse 3 = .ok (.iload_n 2, 1) := by decide +kernel
theorem D_Mo_inverse_4 : decode b_Mo_inverse 4 = .ok (.i2l, 1) := by decide +kernel
theorem D_Mo_inverse_5 : decode b_Mo_inverse 5 = .ok (.iload_n 1, 1) := by decide +kernel
theorem D_Mo_inverse_6 : decode b_Mo_inverse 6 = .ok (.i2l, 1) := by decide +kernel
theorem D_Mo_inverse_7 : decode b_Mo_inverse 7 = .ok (.lmul, 1) := by decide +kernel
theorem D_Mo_inverse_8 : decode b_Mo_inverse 8 = .ok (.invokevirtual 48, 3) := by decide +kernel
theorem D_Mo_inverse_11 : decode b_Mo_inverse 11 = .ok (.iconst 1, 1) := by decide +kernel
theorem D_Mo_inverse_12 : decode b_Mo_inverse 12 = .ok (.if_icmp .eq 9, 3) := by decide +kernel
theorem D_Mo_inverse_15 : decode b_Mo_inverse 15 = .ok (.iinc 2 1, 3) := by decide +kernel
theorem D_Mo_inverse_18 : decode b_Mo_inverse 18 = .ok (.goto (-16), 3) := by decide +kernel
theorem D_Mo_inverse_21 : decode b_Mo_inverse 21 = .ok (.iload_n 2, 1) := by decide +kernel
theorem D_Mo_inverse_22 : decode b_Mo_inverse 22 = .ok (.ireturn, 1) := by decide +kernel
abbrev rm_Mo_inverse : Room := { frames := 1, cells := 0, slots := 0, locals := 24 }
def B_Mo_inverse_2 (k2 : Nat → Int32 → Int32 → Mem → Prop) (post : Int32 → Mem → Prop) (a0 : Nat) (x1 : Int32) (x2 : Int32) (M : Mem) : Prop := (isK M a0 7 ∧ T_Mo_mod a0 ((Int32.toInt64 x2) * (Int32.toInt64 x1)) M (fun r8 M8 => (r8 = 1 → (post x2 M8)) ∧ (¬ r8 = 1 → (k2 a0 x1 (x2 + 1) M8))))
set_option maxRecDepth 20000 in
theorem Z_Mo_inverse_2 {x : Ctx} {post : Int32 → Mem → Prop} (C : Ok x b_Mo_inverse 3 "HeapTowerModel") (hR : xR x = rm_Mo_inverse) (Rt : RetI x .int post 0 0) {k2 : Nat → Int32 → Int32 → Mem → Prop} (K2 : ∀ (a0 : Nat) (x1 : Int32) (x2 : Int32) (M : Mem), k2 a0 x1 x2 M → J x 3 2 [(0, .ref (xd x a0)), (1, .int x1), (2, .int x2)] [] 0 0 M) (a0 : Nat) (x1 : Int32) (x2 : Int32) (M : Mem) (h : B_Mo_inverse_2 k2 post a0 x1 x2 M) : J x 3 2 [(0, .ref (xd x a0)), (1, .int x1), (2, .int x2)] [] 0 0 M := by
  unfold B_Mo_inverse_2 at h
  refine J_aload_n C 0 D_Mo_inverse_2 rfl rfl ?_
  refine J_iload_n C 2 D_Mo_inverse_3 rfl rfl ?_
  refine J_i2l C D_Mo_inverse_4 ?_
  refine J_iload_n C 1 D_Mo_inverse_5 rfl rfl ?_
  refine J_i2l C D_Mo_inverse_6 ?_
  refine J_lmul C D_Mo_inverse_7 ?_
  obtain ⟨c_8, h⟩ := h
  refine J_callVi C ml_Mo_48 (S_Mo_mod _ _ _ _ h) (by rw [hR]; decide) rfl c_8 rfl (Nat.le_of_ble_eq_true rfl) D_Mo_inverse_8 (fun r8 M8 h => ?_)
  refine J_iconst (v := 1) C D_Mo_inverse_11 rfl ?_
  refine J_icmp_eq (tgt := 21) C D_Mo_inverse_12 (by decide) (fun c_12 => ?_) (fun c_12 => ?_)
  · have h := h.1 c_12
    refine J_iload_n C 2 D_Mo_inverse_21 rfl rfl ?_
    exact J_iret C Rt D_Mo_inverse_22 rfl h
  · have h := h.2 c_12
    refine J_iinc (v := x2 + 1) (lv' := [(2, .int (x2 + 1)), (0, .ref (xd x a0)), (1, .int x1)]) C 2 2 D_Mo_inverse_15 rfl rfl (by decide) rfl ?_
    refine J_goto (tgt := 2) C D_Mo_inverse_18 (by decide) ?_
    exact J_sub [1, 2, 0] rfl (K2 _ _ _ _ h)
def L_Mo_inverse_2 (post : Int32 → Mem → Prop) : Nat → Nat → Int32 → Int32 → Mem → Prop
  | 0, _, _, _, _ => False
  | n + 1, a0, x1, x2, M => B_Mo_inverse_2 (L_Mo_inverse_2 post n) post a0 x1 x2 M
theorem Y_Mo_inverse_2 {x : Ctx} {post : Int32 → Mem → Prop} (C : Ok x b_Mo_inverse 3 "HeapTowerModel") (hR : xR x = rm_Mo_inverse) (Rt : RetI x .int post 0 0) : ∀ (n : Nat) (a0 : Nat) (x1 : Int32) (x2 : Int32) (M : Mem), L_Mo_inverse_2 post n a0 x1 x2 M → J x 3 2 [(0, .ref (xd x a0)), (1, .int x1), (2, .int x2)] [] 0 0 M := by
  intro n
  induction n with
  | zero => intro a0 x1 x2 M h; exact h.elim
  | succ n ih => intro a0 x1 x2 M h; exact Z_Mo_inverse_2 C hR Rt ih _ _ _ _ h
def T_Mo_inverse (a0 : Nat) (x1 : Int32) (M : Mem) (post : Int32 → Mem → Prop) : Prop := (∃ n, L_Mo_inverse_2 post n a0 x1 1 M)
set_option maxRecDepth 20000 in
theorem S_Mo_inverse {l : Launch} {D : va_G} {B t g : Nat} {d : Nat → Nat} {ac : Nat → ClassId}  (a0 : Nat) (x1 : Int32) (M : Mem) (post : Int32 → Mem → Prop) (h : T_Mo_inverse a0 x1 M post) : Met l y_Mo_inverse w_Mo_inverse rm_Mo_inverse (va_Pc [.ref (d a0), .int x1] (PRE D B d g t ac M)) (QI D B d g ac post) 0 0 (AB B) := by
  refine met_i (by decide +kernel) (Nat.le_of_ble_eq_true rfl) (fun x h1 hR h3 h4 h5 h6 h7 h8 C Rt => ?_)
  subst h3 h4 h5 h6 h7 h8
  unfold T_Mo_inverse at h
  show J x 3 0 [(0, .ref (xd x a0)), (1, .int x1)] [] 0 0 M
  refine J_iconst (v := 1) C D_Mo_inverse_0 rfl ?_
  refine J_istore_n (lv' := [(2, .int 1), (0, .ref (xd x a0)), (1, .int x1)]) C 2 D_Mo_inverse_1 rfl (by decide) rfl ?_
  obtain ⟨n, h⟩ := h
  exact J_sub [1, 2, 0] rfl (Y_Mo_inverse_2 C hR Rt  n _ _ _ _ h)
theorem D_Mo_powers_0 : decode b_Mo_powers 0 = .ok (.bipush 121, 2) := by decide +kernel
theorem D_Mo_powers_2 : decode b_Mo_powers 2 = .ok (.iload_n 0, 1) := by decide +kernel
theorem D_Mo_powers_3 : decode b_Mo_powers 3 = .ok (.imul, 1) := by decide +kernel
theorem D_Mo_powers_4 : decode b_Mo_powers 4 = .ok (.bipush 11, 2) := by decide +kernel
theorem D_Mo_powers_6 : decode b_Mo_powers 6 = .ok (.iload_n 1, 1) := by decide +kernel
theorem D_Mo_powers_7 : decode b_Mo_powers 7 = .ok (.imul, 1) := by decide +kernel
theorem D_Mo_powers_8 : decode b_Mo_powers 8 = .ok (.iadd, 1) := by decide +kernel
theorem D_Mo_powers_9 : decode b_Mo_powers 9 = .ok (.iload_n 2, 1) := by decide +kernel
theorem D_Mo_powers_10 : decode b_Mo_powers 10 = .ok (.iadd, 1) := by decide +kernel
theorem D_Mo_powers_11 : decode b_Mo_powers 11 = .ok (.ireturn, 1) := by decide +kernel
abbrev rm_Mo_powers : Room := { frames := 0, cells := 0, slots := 0, locals := 0 }
def T_Mo_powers (x0 : Int32) (x1 : Int32) (x2 : Int32) (M : Mem) (post : Int32 → Mem → Prop) : Prop := (post (((121 * x0) + (11 * x1)) + x2) M)
set_option maxRecDepth 20000 in
theorem S_Mo_powers {l : Launch} {D : va_G} {B t g : Nat} {d : Nat → Nat} {ac : Nat → ClassId}  (x0 : Int32) (x1 : Int32) (x2 : Int32) (M : Mem) (post : Int32 → Mem → Prop) (h : T_Mo_powers x0 x1 x2 M post) : Met l y_Mo_powers w_Mo_powers rm_Mo_powers (va_Pc [.int x0, .int x1, .int x2] (PRE D B d g t ac M)) (QI D B d g ac post) 0 0 (AB B) := by
  refine met_i (by decide +kernel) (Nat.le_of_ble_eq_true rfl) (fun x h1 hR h3 h4 h5 h6 h7 h8 C Rt => ?_)
  subst h3 h4 h5 h6 h7 h8
  unfold T_Mo_powers at h
  show J x 3 0 [(0, .int x0), (1, .int x1), (2, .int x2)] [] 0 0 M
  refine J_bipush (v := 121) C D_Mo_powers_0 rfl ?_
  refine J_iload_n C 0 D_Mo_powers_2 rfl rfl ?_
  refine J_imul C D_Mo_powers_3 ?_
  refine J_bipush (v := 11) C D_Mo_powers_4 rfl ?_
  refine J_iload_n C 1 D_Mo_powers_6 rfl rfl ?_
  refine J_imul C D_Mo_powers_7 ?_
  refine J_iadd C D_Mo_powers_8 ?_
  refine J_iload_n C 2 D_Mo_powers_9 rfl rfl ?_
  refine J_iadd C D_Mo_powers_10 ?_
  exact J_iret C Rt D_Mo_powers_11 rfl h
theorem D_Mo_degreeOf_0 : decode b_Mo_degreeOf 0 = .ok (.iload_n 0, 1) := by decide +kernel
theorem D_Mo_degreeOf_1 : decode b_Mo_degreeOf 1 = .ok (.bipush 121, 2) := by decide +kernel
theorem D_Mo_degreeOf_3 : decode b_Mo_degreeOf 3 = .ok (.idiv, 1) := by decide +kernel
theorem D_Mo_degreeOf_4 : decode b_Mo_degreeOf 4 = .ok (.iload_n 0, 1) := by decide +kernel
theorem D_Mo_degreeOf_5 : decode b_Mo_degreeOf 5 = .ok (.bipush 11, 2) := by decide +kernel
theorem D_Mo_degreeOf_7 : decode b_Mo_degreeOf 7 = .ok (.idiv, 1) := by decide +kernel
theorem D_Mo_degreeOf_8 : decode b_Mo_degreeOf 8 = .ok (.bipush 11, 2) := by decide +kernel
theorem D_Mo_degreeOf_10 : decode b_Mo_degreeOf 10 = .ok (.irem, 1) := by decide +kernel
theorem D_Mo_degreeOf_11 : decode b_Mo_degreeOf 11 = .ok (.iadd, 1) := by decide +kernel
theorem D_Mo_degreeOf_12 : decode b_Mo_degreeOf 12 = .ok (.iload_n 0, 1) := by decide +kernel
theorem D_Mo_degreeOf_13 : decode b_Mo_degreeOf 13 = .ok (.bipush 11, 2) := by decide +kernel
theorem D_Mo_degreeOf_15 : decode b_Mo_degreeOf 15 = .ok (.irem, 1) := by decide +kernel
theorem D_Mo_degreeOf_16 : decode b_Mo_degreeOf 16 = .ok (.iadd, 1) := by decide +kernel
theorem D_Mo_degreeOf_17 : decode b_Mo_degreeOf 17 = .ok (.ireturn, 1) := by decide +kernel
abbrev rm_Mo_degreeOf : Room := { frames := 0, cells := 0, slots := 0, locals := 0 }
def T_Mo_degreeOf (x0 : Int32) (M : Mem) (post : Int32 → Mem → Prop) : Prop := (¬ (121 : Int32) = 0 ∧ ¬ (11 : Int32) = 0 ∧ ¬ (11 : Int32) = 0 ∧ ¬ (11 : Int32) = 0 ∧ post (((x0 / 121) + ((x0 / 11) - (x0 / 11) / 11 * 11)) + (x0 - x0 / 11 * 11)) M)
set_option maxRecDepth 20000 in
theorem S_Mo_degreeOf {l : Launch} {D : va_G} {B t g : Nat} {d : Nat → Nat} {ac : Nat → ClassId}  (x0 : Int32) (M : Mem) (post : Int32 → Mem → Prop) (h : T_Mo_degreeOf x0 M post) : Met l y_Mo_degreeOf w_Mo_degreeOf rm_Mo_degreeOf (va_Pc [.int x0] (PRE D B d g t ac M)) (QI D B d g ac post) 0 0 (AB B) := by
  refine met_i (by decide +kernel) (Nat.le_of_ble_eq_true rfl) (fun x h1 hR h3 h4 h5 h6 h7 h8 C Rt => ?_)
  subst h3 h4 h5 h6 h7 h8
  unfold T_Mo_degreeOf at h
  show J x 1 0 [(0, .int x0)] [] 0 0 M
  refine J_iload_n C 0 D_Mo_degreeOf_0 rfl rfl ?_
  refine J_bipush (v := 121) C D_Mo_degreeOf_1 rfl ?_
  obtain ⟨c_3, h⟩ := h
  refine J_idiv C D_Mo_degreeOf_3 c_3 ?_
  refine J_iload_n C 0 D_Mo_degreeOf_4 rfl rfl ?_
  refine J_bipush (v := 11) C D_Mo_degreeOf_5 rfl ?_
  obtain ⟨c_7, h⟩ := h
  refine J_idiv C D_Mo_degreeOf_7 c_7 ?_
  refine J_bipush (v := 11) C D_Mo_degreeOf_8 rfl ?_
  obtain ⟨c_10, h⟩ := h
  refine J_irem C D_Mo_degreeOf_10 c_10 ?_
  refine J_iadd C D_Mo_degreeOf_11 ?_
  refine J_iload_n C 0 D_Mo_degreeOf_12 rfl rfl ?_
  refine J_bipush (v := 11) C D_Mo_degreeOf_13 rfl ?_
  obtain ⟨c_15, h⟩ := h
  refine J_irem C D_Mo_degreeOf_15 c_15 ?_
  refine J_iadd C D_Mo_degreeOf_16 ?_
  exact J_iret C Rt D_Mo_degreeOf_17 rfl h
theorem D_Mo_isProduct_0 : decode b_Mo_isProduct 0 = .ok (.iload_n 1, 1) := by decide +kernel
theorem D_Mo_isProduct_1 : decode b_Mo_isProduct 1 = .ok (.ifCond .lt 54, 3) := by decide +kernel
theorem D_Mo_isProduct_4 : decode b_Mo_isProduct 4 = .ok (.iload_n 2, 1) := by decide +kernel
theorem D_Mo_isProduct_5 : decode b_Mo_isProduct 5 = .ok (.ifCond .lt 50, 3) := by decide +kernel
theorem D_Mo_isProduct_8 : decode b_Mo_isProduct 8 = .ok (.iload_n 3, 1) := by decide +kernel
theorem D_Mo_isProduct_9 : decode b_Mo_isProduct 9 = .ok (.ifCond .lt 46, 3) := by decide +kernel
theorem D_Mo_isProduct_12 : decode b_Mo_isProduct 12 = .ok (.aload_n 0, 1) := by decide +kernel
theorem D_Mo_isProduct_13 : decode b_Mo_isProduct 13 = .ok (.getfield 13, 3) := by decide +kernel
theorem D_Mo_isProduct_16 : decode b_Mo_isProduct 16 = .ok (.iconst 1, 1) := by decide +kernel
theorem D_Mo_isProduct_17 : decode b_Mo_isProduct 17 = .ok (.if_icmp .gt 7, 3) := by decide +kernel
theorem D_Mo_isProduct_20 : decode b_Mo_isProduct 20 = .ok (.iload_n 2, 1) := by decide +kernel
theorem D_Mo_isProduct_21 : decode b_Mo_isProduct 21 = .ok (.ifCond .ne 34, 3) := by decide +kernel
theorem D_Mo_isProduct_24 : decode b_Mo_isProduct 24 = .ok (.aload_n 0, 1) := by decide +kernel
theorem D_Mo_isProduct_25 : decode b_Mo_isProduct 25 = .ok (.getfield 13, 3) := by decide +kernel
theorem D_Mo_isProduct_28 : decode b_Mo_isProduct 28 = .ok (.iconst 2, 1) := by decide +kernel
theorem D_Mo_isProduct_29 : decode b_Mo_isProduct 29 = .ok (.if_icmp .gt 7, 3) := by decide +kernel
theorem D_Mo_isProduct_32 : decode b_Mo_isProduct 32 = .ok (.iload_n 3, 1) := by decide +kernel
theorem D_Mo_isProduct_33 : decode b_Mo_isProduct 33 = .ok (.ifCond .ne 22, 3) := by decide +kernel
theorem D_Mo_isProduct_36 : decode b_Mo_isProduct 36 = .ok (.iload_n 1, 1) := by decide +kernel
theorem D_Mo_isProduct_37 : decode b_Mo_isProduct 37 = .ok (.i2l, 1) := by decide +kernel
theorem D_Mo_isProduct_38 : decode b_Mo_isProduct 38 = .ok (.iload_n 2, 1) := by decide +kernel
theorem D_Mo_isProduct_39 : decode b_Mo_isProduct 39 = .ok (.i2l, 1) := by decide +kernel
theorem D_Mo_isProduct_40 : decode b_Mo_isProduct 40 = .ok (.ladd, 1) := by decide +kernel
theorem D_Mo_isProduct_41 : decode b_Mo_isProduct 41 = .ok (.iload_n 3, 1) := by decide +kernel
theorem D_Mo_isProduct_42 : decode b_Mo_isProduct 42 = .ok (.i2l, 1) := by decide +kernel
theorem D_Mo_isProduct_43 : decode b_Mo_isProduct 43 = .ok (.ladd, 1) := by decide +kernel
theorem D_Mo_isProduct_44 : decode b_Mo_isProduct 44 = .ok (.ldc2_w 52, 3) := by decide +kernel
theorem D_Mo_isProduct_47 : decode b_Mo_isProduct 47 = .ok (.lcmp, 1) := by decide +kernel
theorem D_Mo_isProduct_48 : decode b_Mo_isProduct 48 = .ok (.ifCond .gt 7, 3) := by decide +kernel
theorem D_Mo_isProduct_51 : decode b_Mo_isProduct 51 = .ok (.iconst 1, 1) := by decide +kernel
theorem D_Mo_isProduct_52 : decode b_Mo_isProduct 52 = .ok (.goto 4, 3) := by decide +kernel
theorem D_Mo_isProduct_55 : decode b_Mo_isProduct 55 = .ok (.iconst 0, 1) := by decide +kernel
theorem D_Mo_isProduct_56 : decode b_Mo_isProduct 56 = .ok (.ireturn, 1) := by decide +kernel
abbrev rm_Mo_isProduct : Room := { frames := 0, cells := 0, slots := 0, locals := 0 }
def B_Mo_isProduct_56 (post : Int32 → Mem → Prop) (s0 : Int32) (M : Mem) : Prop := (narrow .boolean (.int s0) = .int s0 ∧ post s0 M)
set_option maxRecDepth 20000 in
theorem Z_Mo_isProduct_56 {x : Ctx} {post : Int32 → Mem → Prop} (C : Ok x b_Mo_isProduct 4 "HeapTowerModel") (hR : xR x = rm_Mo_isProduct) (Rt : RetI x .boolean post 0 0) (s0 : Int32) (M : Mem) (h : B_Mo_isProduct_56 post s0 M) : J x 4 56 [] [.int s0] 0 0 M := by
  unfold B_Mo_isProduct_56 at h
  obtain ⟨c_56, h⟩ := h
  exact J_iret C Rt D_Mo_isProduct_56 c_56 h
def B_Mo_isProduct_55 (post : Int32 → Mem → Prop) (M : Mem) : Prop := (B_Mo_isProduct_56 post 0 M)
set_option maxRecDepth 20000 in
theorem Z_Mo_isProduct_55 {x : Ctx} {post : Int32 → Mem → Prop} (C : Ok x b_Mo_isProduct 4 "HeapTowerModel") (hR : xR x = rm_Mo_isProduct) (Rt : RetI x .boolean post 0 0) (M : Mem) (h : B_Mo_isProduct_55 post M) : J x 4 55 [] [] 0 0 M := by
  unfold B_Mo_isProduct_55 at h
  refine J_iconst (v := 0) C D_Mo_isProduct_55 rfl ?_
  exact J_sub [] rfl (Z_Mo_isProduct_56 C hR Rt  _ _ h)
def B_Mo_isProduct_36 (post : Int32 → Mem → Prop) (x1 : Int32) (x2 : Int32) (x3 : Int32) (M : Mem) : Prop := (((10 < (((Int32.toInt64 x1) + (Int32.toInt64 x2)) + (Int32.toInt64 x3))) → (B_Mo_isProduct_55 post M)) ∧ (¬ 10 < (((Int32.toInt64 x1) + (Int32.toInt64 x2)) + (Int32.toInt64 x3)) → (B_Mo_isProduct_56 post 1 M)))
set_option maxRecDepth 20000 in
theorem Z_Mo_isProduct_36 {x : Ctx} {post : Int32 → Mem → Prop} (C : Ok x b_Mo_isProduct 4 "HeapTowerModel") (hR : xR x = rm_Mo_isProduct) (Rt : RetI x .boolean post 0 0) (x1 : Int32) (x2 : Int32) (x3 : Int32) (M : Mem) (h : B_Mo_isProduct_36 post x1 x2 x3 M) : J x 4 36 [(1, .int x1), (2, .int x2), (3, .int x3)] [] 0 0 M := by
  unfold B_Mo_isProduct_36 at h
  refine J_iload_n C 1 D_Mo_isProduct_36 rfl rfl ?_
  refine J_i2l C D_Mo_isProduct_37 ?_
  refine J_iload_n C 2 D_Mo_isProduct_38 rfl rfl ?_
  refine J_i2l C D_Mo_isProduct_39 ?_
  refine J_ladd C D_Mo_isProduct_40 ?_
  refine J_iload_n C 3 D_Mo_isProduct_41 rfl rfl ?_
  refine J_i2l C D_Mo_isProduct_42 ?_
  refine J_ladd C D_Mo_isProduct_43 ?_
  refine J_ldc2 (v := 10) C D_Mo_isProduct_44 kw_Mo_52 ?_
  refine J_lcmp_gt (tgt := 55) C D_Mo_isProduct_47 D_Mo_isProduct_48 (by decide) (fun c_47 => ?_) (fun c_47 => ?_)
  · have h := h.1 c_47
    exact J_sub [] rfl (Z_Mo_isProduct_55 C hR Rt  _ h)
  · have h := h.2 c_47
    refine J_iconst (v := 1) C D_Mo_isProduct_51 rfl ?_
    refine J_goto (tgt := 56) C D_Mo_isProduct_52 (by decide) ?_
    exact J_sub [] rfl (Z_Mo_isProduct_56 C hR Rt  _ _ h)
def B_Mo_isProduct_24 (post : Int32 → Mem → Prop) (a0 : Nat) (x1 : Int32) (x2 : Int32) (x3 : Int32) (M : Mem) : Prop := (isK M a0 7 ∧ (2 < (gI M a0 1) → (B_Mo_isProduct_36 post x1 x2 x3 M)) ∧ (¬ 2 < (gI M a0 1) → ((¬ x3 = 0 → (B_Mo_isProduct_55 post M)) ∧ (x3 = 0 → (B_Mo_isProduct_36 post x1 x2 x3 M)))))
set_option maxRecDepth 20000 in
theorem Z_Mo_isProduct_24 {x : Ctx} {post : Int32 → Mem → Prop} (C : Ok x b_Mo_isProduct 4 "HeapTowerModel") (hR : xR x = rm_Mo_isProduct) (Rt : RetI x .boolean post 0 0) (a0 : Nat) (x1 : Int32) (x2 : Int32) (x3 : Int32) (M : Mem) (h : B_Mo_isProduct_24 post a0 x1 x2 x3 M) : J x 4 24 [(0, .ref (xd x a0)), (1, .int x1), (2, .int x2), (3, .int x3)] [] 0 0 M := by
  unfold B_Mo_isProduct_24 at h
  refine J_aload_n C 0 D_Mo_isProduct_24 rfl rfl ?_
  obtain ⟨c_25, h⟩ := h
  refine J_getI C fl_Mo_13 D_Mo_isProduct_25 c_25 ?_
  refine J_iconst (v := 2) C D_Mo_isProduct_28 rfl ?_
  refine J_icmp_gt (tgt := 36) C D_Mo_isProduct_29 (by decide) (fun c_29 => ?_) (fun c_29 => ?_)
  · have h := h.1 c_29
    exact J_sub [1, 2, 3] rfl (Z_Mo_isProduct_36 C hR Rt  _ _ _ _ h)
  · have h := h.2 c_29
    refine J_iload_n C 3 D_Mo_isProduct_32 rfl rfl ?_
    refine J_if_ne (tgt := 55) C D_Mo_isProduct_33 (by decide) (fun c_33 => ?_) (fun c_33 => ?_)
    · have h := h.1 c_33
      exact J_sub [] rfl (Z_Mo_isProduct_55 C hR Rt  _ h)
    · have h := h.2 c_33
      exact J_sub [1, 2, 3] rfl (Z_Mo_isProduct_36 C hR Rt  _ _ _ _ h)
def T_Mo_isProduct (a0 : Nat) (x1 : Int32) (x2 : Int32) (x3 : Int32) (M : Mem) (post : Int32 → Mem → Prop) : Prop := ((x1 < 0 → (B_Mo_isProduct_55 post M)) ∧ (¬ x1 < 0 → ((x2 < 0 → (B_Mo_isProduct_55 post M)) ∧ (¬ x2 < 0 → ((x3 < 0 → (B_Mo_isProduct_55 post M)) ∧ (¬ x3 < 0 → (isK M a0 7 ∧ (1 < (gI M a0 1) → (B_Mo_isProduct_24 post a0 x1 x2 x3 M)) ∧ (¬ 1 < (gI M a0 1) → ((¬ x2 = 0 → (B_Mo_isProduct_55 post M)) ∧ (x2 = 0 → (B_Mo_isProduct_24 post a0 x1 x2 x3 M)))))))))))
set_option maxRecDepth 20000 in
theorem S_Mo_isProduct {l : Launch} {D : va_G} {B t g : Nat} {d : Nat → Nat} {ac : Nat → ClassId}  (a0 : Nat) (x1 : Int32) (x2 : Int32) (x3 : Int32) (M : Mem) (post : Int32 → Mem → Prop) (h : T_Mo_isProduct a0 x1 x2 x3 M post) : Met l y_Mo_isProduct w_Mo_isProduct rm_Mo_isProduct (va_Pc [.ref (d a0), .int x1, .int x2, .int x3] (PRE D B d g t ac M)) (QI D B d g ac post) 0 0 (AB B) := by
  refine met_i (by decide +kernel) (Nat.le_of_ble_eq_true rfl) (fun x h1 hR h3 h4 h5 h6 h7 h8 C Rt => ?_)
  subst h3 h4 h5 h6 h7 h8
  unfold T_Mo_isProduct at h
  show J x 4 0 [(0, .ref (xd x a0)), (1, .int x1), (2, .int x2), (3, .int x3)] [] 0 0 M
  refine J_iload_n C 1 D_Mo_isProduct_0 rfl rfl ?_
  refine J_if_lt (tgt := 55) C D_Mo_isProduct_1 (by decide) (fun c_1 => ?_) (fun c_1 => ?_)
  · have h := h.1 c_1
    exact J_sub [] rfl (Z_Mo_isProduct_55 C hR Rt  _ h)
  · have h := h.2 c_1
    refine J_iload_n C 2 D_Mo_isProduct_4 rfl rfl ?_
    refine J_if_lt (tgt := 55) C D_Mo_isProduct_5 (by decide) (fun c_5 => ?_) (fun c_5 => ?_)
    · have h := h.1 c_5
      exact J_sub [] rfl (Z_Mo_isProduct_55 C hR Rt  _ h)
    · have h := h.2 c_5
      refine J_iload_n C 3 D_Mo_isProduct_8 rfl rfl ?_
      refine J_if_lt (tgt := 55) C D_Mo_isProduct_9 (by decide) (fun c_9 => ?_) (fun c_9 => ?_)
      · have h := h.1 c_9
        exact J_sub [] rfl (Z_Mo_isProduct_55 C hR Rt  _ h)
      · have h := h.2 c_9
        refine J_aload_n C 0 D_Mo_isProduct_12 rfl rfl ?_
        obtain ⟨c_13, h⟩ := h
        refine J_getI C fl_Mo_13 D_Mo_isProduct_13 c_13 ?_
        refine J_iconst (v := 1) C D_Mo_isProduct_16 rfl ?_
        refine J_icmp_gt (tgt := 24) C D_Mo_isProduct_17 (by decide) (fun c_17 => ?_) (fun c_17 => ?_)
        · have h := h.1 c_17
          exact J_sub [0, 1, 2, 3] rfl (Z_Mo_isProduct_24 C hR Rt  _ _ _ _ _ h)
        · have h := h.2 c_17
          refine J_iload_n C 2 D_Mo_isProduct_20 rfl rfl ?_
          refine J_if_ne (tgt := 55) C D_Mo_isProduct_21 (by decide) (fun c_21 => ?_) (fun c_21 => ?_)
          · have h := h.1 c_21
            exact J_sub [] rfl (Z_Mo_isProduct_55 C hR Rt  _ h)
          · have h := h.2 c_21
            exact J_sub [0, 1, 2, 3] rfl (Z_Mo_isProduct_24 C hR Rt  _ _ _ _ _ h)
theorem D_Mo_power_0 : decode b_Mo_power 0 = .ok (.iload_n 2, 1) := by decide +kernel
theorem D_Mo_power_1 : decode b_Mo_power 1 = .ok (.ifCond .ne 10, 3) := by decide +kernel
theorem D_Mo_power_4 : decode b_Mo_power 4 = .ok (.iload_n 1, 1) := by decide +kernel
theorem D_Mo_power_5 : decode b_Mo_power 5 = .ok (.bipush 121, 2) := by decide +kernel
theorem D_Mo_power_7 : decode b_Mo_power 7 = .ok (.idiv, 1) := by decide +kernel
theorem D_Mo_power_8 : decode b_Mo_power 8 = .ok (.goto 22, 3) := by decide +kernel
theorem D_Mo_power_11 : decode b_Mo_power 11 = .ok (.iload_n 2, 1) := by decide +kernel
theorem D_Mo_power_12 : decode b_Mo_power 12 = .ok (.iconst 1, 1) := by decide +kernel
theorem D_Mo_power_13 : decode b_Mo_power 13 = .ok (.if_icmp .ne 13, 3) := by decide +kernel
theorem D_Mo_power_16 : decode b_Mo_power 16 = .ok (.iload_n 1, 1) := by decide +kernel
theorem D_Mo_power_17 : decode b_Mo_power 17 = .ok (.bipush 11, 2) := by decide +kernel
theorem D_Mo_power_19 : decode b_Mo_power 19 = .ok (.idiv, 1) := by decide +kernel
theorem D_Mo_power_20 : decode b_Mo_power 20 = .ok (.bipush 11, 2) := by decide +kernel
theorem D_Mo_power_22 : decode b_Mo_power 22 = .ok (.irem, 1) := by decide +kernel
theorem D_Mo_power_23 : decode b_Mo_power 23 = .ok (.goto 7, 3) := by decide +kernel
theorem D_Mo_power_26 : decode b_Mo_power 26 = .ok (.iload_n 1, 1) := by decide +kernel
theorem D_Mo_power_27 : decode b_Mo_power 27 = .ok (.bipush 11, 2) := by decide +kernel
theorem D_Mo_power_29 : decode b_Mo_power 29 = .ok (.irem, 1) := by decide +kernel
theorem D_Mo_power_30 : decode b_Mo_power 30 = .ok (.ireturn, 1) := by decide +kernel
abbrev rm_Mo_power : Room := { frames := 0, cells := 0, slots := 0, locals := 0 }
def B_Mo_power_30 (post : Int32 → Mem → Prop) (s0 : Int32) (M : Mem) : Prop := (post s0 M)
set_option maxRecDepth 20000 in
theorem Z_Mo_power_30 {x : Ctx} {post : Int32 → Mem → Prop} (C : Ok x b_Mo_power 3 "HeapTowerModel") (hR : xR x = rm_Mo_power) (Rt : RetI x .int post 0 0) (s0 : Int32) (M : Mem) (h : B_Mo_power_30 post s0 M) : J x 3 30 [] [.int s0] 0 0 M := by
  unfold B_Mo_power_30 at h
  exact J_iret C Rt D_Mo_power_30 rfl h
def T_Mo_power (a0 : Nat) (x1 : Int32) (x2 : Int32) (M : Mem) (post : Int32 → Mem → Prop) : Prop := ((¬ x2 = 0 → ((¬ x2 = 1 → (¬ (11 : Int32) = 0 ∧ B_Mo_power_30 post (x1 - x1 / 11 * 11) M)) ∧ (x2 = 1 → (¬ (11 : Int32) = 0 ∧ ¬ (11 : Int32) = 0 ∧ B_Mo_power_30 post ((x1 / 11) - (x1 / 11) / 11 * 11) M)))) ∧ (x2 = 0 → (¬ (121 : Int32) = 0 ∧ B_Mo_power_30 post (x1 / 121) M)))
set_option maxRecDepth 20000 in
theorem S_Mo_power {l : Launch} {D : va_G} {B t g : Nat} {d : Nat → Nat} {ac : Nat → ClassId}  (a0 : Nat) (x1 : Int32) (x2 : Int32) (M : Mem) (post : Int32 → Mem → Prop) (h : T_Mo_power a0 x1 x2 M post) : Met l y_Mo_power w_Mo_power rm_Mo_power (va_Pc [.ref (d a0), .int x1, .int x2] (PRE D B d g t ac M)) (QI D B d g ac post) 0 0 (AB B) := by
  refine met_i (by decide +kernel) (Nat.le_of_ble_eq_true rfl) (fun x h1 hR h3 h4 h5 h6 h7 h8 C Rt => ?_)
  subst h3 h4 h5 h6 h7 h8
  unfold T_Mo_power at h
  show J x 3 0 [(0, .ref (xd x a0)), (1, .int x1), (2, .int x2)] [] 0 0 M
  refine J_iload_n C 2 D_Mo_power_0 rfl rfl ?_
  refine J_if_ne (tgt := 11) C D_Mo_power_1 (by decide) (fun c_1 => ?_) (fun c_1 => ?_)
  · have h := h.1 c_1
    refine J_iload_n C 2 D_Mo_power_11 rfl rfl ?_
    refine J_iconst (v := 1) C D_Mo_power_12 rfl ?_
    refine J_icmp_ne (tgt := 26) C D_Mo_power_13 (by decide) (fun c_13 => ?_) (fun c_13 => ?_)
    · have h := h.1 c_13
      refine J_iload_n C 1 D_Mo_power_26 rfl rfl ?_
      refine J_bipush (v := 11) C D_Mo_power_27 rfl ?_
      obtain ⟨c_29, h⟩ := h
      refine J_irem C D_Mo_power_29 c_29 ?_
      exact J_sub [] rfl (Z_Mo_power_30 C hR Rt  _ _ h)
    · have h := h.2 c_13
      refine J_iload_n C 1 D_Mo_power_16 rfl rfl ?_
      refine J_bipush (v := 11) C D_Mo_power_17 rfl ?_
      obtain ⟨c_19, h⟩ := h
      refine J_idiv C D_Mo_power_19 c_19 ?_
      refine J_bipush (v := 11) C D_Mo_power_20 rfl ?_
      obtain ⟨c_22, h⟩ := h
      refine J_irem C D_Mo_power_22 c_22 ?_
      refine J_goto (tgt := 30) C D_Mo_power_23 (by decide) ?_
      exact J_sub [] rfl (Z_Mo_power_30 C hR Rt  _ _ h)
  · have h := h.2 c_1
    refine J_iload_n C 1 D_Mo_power_4 rfl rfl ?_
    refine J_bipush (v := 121) C D_Mo_power_5 rfl ?_
    obtain ⟨c_7, h⟩ := h
    refine J_idiv C D_Mo_power_7 c_7 ?_
    refine J_goto (tgt := 30) C D_Mo_power_8 (by decide) ?_
    exact J_sub [] rfl (Z_Mo_power_30 C hR Rt  _ _ h)
theorem D_Mo_isGreater_0 : decode b_Mo_isGreater 0 = .ok (.iload_n 1, 1) := by decide +kernel
theorem D_Mo_isGreater_1 : decode b_Mo_isGreater 1 = .ok (.invokestatic 54, 3) := by decide +kernel
theorem D_Mo_isGreater_4 : decode b_Mo_isGreater 4 = .ok (.iload_n 2, 1) := by decide +kernel
theorem D_Mo_isGreater_5 : decode b_Mo_isGreater 5 = .ok (.invokestatic 54, 3) := by decide +kernel
theorem D_Mo_isGreater_8 : decode b_Mo_isGreater 8 = .ok (.if_icmp .eq 20, 3) := by decide +kernel
theorem D_Mo_isGreater_11 : decode b_Mo_isGreater 11 = .ok (.iload_n 1, 1) := by decide +kernel
theorem D_Mo_isGreater_12 : decode b_Mo_isGreater 12 = .ok (.invokestatic 54, 3) := by decide +kernel
theorem D_Mo_isGreater_15 : decode b_Mo_isGreater 15 = .ok (.iload_n 2, 1) := by decide +kernel
theorem D_Mo_isGreater_16 : decode b_Mo_isGreater 16 = .ok (.invokestatic 54, 3) := by decide +kernel
theorem D_Mo_isGreater_19 : decode b_Mo_isGreater 19 = .ok (.if_icmp .le 7, 3) := by decide +kernel
theorem D_Mo_isGreater_22 : decode b_Mo_isGreater 22 = .ok (.iconst 1, 1) := by decide +kernel
theorem D_Mo_isGreater_23 : decode b_Mo_isGreater 23 = .ok (.goto 4, 3) := by decide +kernel
theorem D_Mo_isGreater_26 : decode b_Mo_isGreater 26 = .ok (.iconst 0, 1) := by decide +kernel
theorem D_Mo_isGreater_27 : decode b_Mo_isGreater 27 = .ok (.ireturn, 1) := by decide +kernel
theorem D_Mo_isGreater_28 : decode b_Mo_isGreater 28 = .ok (.aload_n 0, 1) := by decide +kernel
theorem D_Mo_isGreater_29 : decode b_Mo_isGreater 29 = .ok (.getfield 58, 3) := by decide +kernel
theorem D_Mo_isGreater_32 : decode b_Mo_isGreater 32 = .ok (.iconst 1, 1) := by decide +kernel
theorem D_Mo_isGreater_33 : decode b_Mo_isGreater 33 = .ok (.if_icmp .ne 54, 3) := by decide +kernel
theorem D_Mo_isGreater_36 : decode b_Mo_isGreater 36 = .ok (.iconst 0, 1) := by decide +kernel
theorem D_Mo_isGreater_37 : decode b_Mo_isGreater 37 = .ok (.istore_n 3, 1) := by decide +kernel
theorem D_Mo_isGreater_38 : decode b_Mo_isGreater 38 = .ok (.iload_n 3, 1) := by decide +kernel
theorem D_Mo_isGreater_39 : decode b_Mo_isGreater 39 = .ok (.iconst 3, 1) := by decide +kernel
theorem D_Mo_isGreater_40 : decode b_Mo_isGreater 40 = .ok (.if_icmp .ge 45, 3) := by decide +kernel
theorem D_Mo_isGreater_43 : decode b_Mo_isGreater 43 = .ok (.aload_n 0, 1) := by decide +kernel
theorem D_Mo_isGreater_44 : decode b_Mo_isGreater 44 = .ok (.iload_n 1, 1) := by decide +kernel
theorem D_Mo_isGreater_45 : decode b_Mo_isGreater 45 = .ok (.iload_n 3, 1) := by decide +kernel
theorem D_Mo_isGreater_46 : decode b_Mo_isGreater 46 = .ok (.invokevirtual 61, 3) := by decide +kernel
theorem D_Mo_isGreater_49 : decode b_Mo_isGreater 49 = .ok (.aload_n 0, 1) := by decide +kernel
theorem D_Mo_isGreater_50 : decode b_Mo_isGreater 50 = .ok (.iload_n 2, 1) := by decide +kernel
theorem D_Mo_isGreater_51 : decode b_Mo_isGreater 51 = .ok (.iload_n 3, 1) := by decide +kernel
theorem D_Mo_isGreater_52 : decode b_Mo_isGreater 52 = .ok (.invokevirtual 61, 3) := by decide +kernel
theorem D_Mo_isGreater_55 : decode b_Mo_isGreater 55 = .ok (.if_icmp .eq 24, 3) := by decide +kernel
theorem D_Mo_isGreater_58 : decode b_Mo_isGreater 58 = .ok (.aload_n 0, 1) := by decide +kernel
theorem D_Mo_isGreater_59 : decode b_Mo_isGreater 59 = .ok (.iload_n 1, 1) := by decide +kernel
theorem D_Mo_isGreater_60 : decode b_Mo_isGreater 60 = .ok (.iload_n 3, 1) := by decide +kernel
theorem D_Mo_isGreater_61 : decode b_Mo_isGreater 61 = .ok (.invokevirtual 61, 3) := by decide +kernel
theorem D_Mo_isGreater_64 : decode b_Mo_isGreater 64 = .ok (.aload_n 0, 1) := by decide +kernel
theorem D_Mo_isGreater_65 : decode b_Mo_isGreater 65 = .ok (.iload_n 2, 1) := by decide +kernel
theorem D_Mo_isGreater_66 : decode b_Mo_isGreater 66 = .ok (.iload_n 3, 1) := by decide +kernel
theorem D_Mo_isGreater_67 : decode b_Mo_isGreater 67 = .ok (.invokevirtual 61, 3) := by decide +kernel
theorem D_Mo_isGreater_70 : decode b_Mo_isGreater 70 = .ok (.if_icmp .le 7, 3) := by decide +kernel
theorem D_Mo_isGreater_73 : decode b_Mo_isGreater 73 = .ok (.iconst 1, 1) := by decide +kernel
theorem D_Mo_isGreater_74 : decode b_Mo_isGreater 74 = .ok (.goto 4, 3) := by decide +kernel
theorem D_Mo_isGreater_77 : decode b_Mo_isGreater 77 = .ok (.iconst 0, 1) := by decide +kernel
theorem D_Mo_isGreater_78 : decode b_Mo_isGreater 78 = .ok (.ireturn, 1) := by decide +kernel
theorem D_Mo_isGreater_79 : decode b_Mo_isGreater 79 = .ok (.iinc 3 1, 3) := by decide +kernel
theorem D_Mo_isGreater_82 : decode b_Mo_isGreater 82 = .ok (.goto (-44), 3) := by decide +kernel
theorem D_Mo_isGreater_85 : decode b_Mo_isGreater 85 = .ok (.iconst 0, 1) := by decide +kernel
theorem D_Mo_isGreater_86 : decode b_Mo_isGreater 86 = .ok (.ireturn, 1) := by decide +kernel
theorem D_Mo_isGreater_87 : decode b_Mo_isGreater 87 = .ok (.iconst 2, 1) := by decide +kernel
theorem D_Mo_isGreater_88 : decode b_Mo_isGreater 88 = .ok (.istore_n 3, 1) := by decide +kernel
theorem D_Mo_isGreater_89 : decode b_Mo_isGreater 89 = .ok (.iload_n 3, 1) := by decide +kernel
theorem D_Mo_isGreater_90 : decode b_Mo_isGreater 90 = .ok (.ifCond .lt 45, 3) := by decide +kernel
theorem D_Mo_isGreater_93 : decode b_Mo_isGreater 93 = .ok (.aload_n 0, 1) := by decide +kernel
theorem D_Mo_isGreater_94 : decode b_Mo_isGreater 94 = .ok (.iload_n 1, 1) := by decide +kernel
theorem D_Mo_isGreater_95 : decode b_Mo_isGreater 95 = .ok (.iload_n 3, 1) := by decide +kernel
theorem D_Mo_isGreater_96 : decode b_Mo_isGreater 96 = .ok (.invokevirtual 61, 3) := by decide +kernel
theorem D_Mo_isGreater_99 : decode b_Mo_isGreater 99 = .ok (.aload_n 0, 1) := by decide +kernel
theorem D_Mo_isGreater_100 : decode b_Mo_isGreater 100 = .ok (.iload_n 2, 1) := by decide +kernel
theorem D_Mo_isGreater_101 : decode b_Mo_isGreater 101 = .ok (.iload_n 3, 1) := by decide +kernel
theorem D_Mo_isGreater_102 : decode b_Mo_isGreater 102 = .ok (.invokevirtual 61, 3) := by decide +kernel
theorem D_Mo_isGreater_105 : decode b_Mo_isGreater 105 = .ok (.if_icmp .eq 24, 3) := by decide +kernel
theorem D_Mo_isGreater_108 : decode b_Mo_isGreater 108 = .ok (.aload_n 0, 1) := by decide +kernel
theorem D_Mo_isGreater_109 : decode b_Mo_isGreater 109 = .ok (.iload_n 1, 1) := by decide +kernel
theorem D_Mo_isGreater_110 : decode b_Mo_isGreater 110 = .ok (.iload_n 3, 1) := by decide +kernel
theorem D_Mo_isGreater_111 : decode b_Mo_isGreater 111 = .ok (.invokevirtual 61, 3) := by decide +kernel
theorem D_Mo_isGreater_114 : decode b_Mo_isGreater 114 = .ok (.aload_n 0, 1) := by decide +kernel
theorem D_Mo_isGreater_115 : decode b_Mo_isGreater 115 = .ok (.iload_n 2, 1) := by decide +kernel
theorem D_Mo_isGreater_116 : decode b_Mo_isGreater 116 = .ok (.iload_n 3, 1) := by decide +kernel
theorem D_Mo_isGreater_117 : decode b_Mo_isGreater 117 = .ok (.invokevirtual 61, 3) := by decide +kernel
theorem D_Mo_isGreater_120 : decode b_Mo_isGreater 120 = .ok (.if_icmp .ge 7, 3) := by decide +kernel
theorem D_Mo_isGreater_123 : decode b_Mo_isGreater 123 = .ok (.iconst 1, 1) := by decide +kernel
theorem D_Mo_isGreater_124 : decode b_Mo_isGreater 124 = .ok (.goto 4, 3) := by decide +kernel
theorem D_Mo_isGreater_127 : decode b_Mo_isGreater 127 = .ok (.iconst 0, 1) := by decide +kernel
theorem D_Mo_isGreater_128 : decode b_Mo_isGreater 128 = .ok (.ireturn, 1) := by decide +kernel
theorem D_Mo_isGreater_129 : decode b_Mo_isGreater 129 = .ok (.iinc 3 (-1), 3) := by decide +kernel
theorem D_Mo_isGreater_132 : decode b_Mo_isGreater 132 = .ok (.goto (-43), 3) := by decide +kernel
theorem D_Mo_isGreater_135 : decode b_Mo_isGreater 135 = .ok (.iconst 0, 1) := by decide +kernel
theorem D_Mo_isGreater_136 : decode b_Mo_isGreater 136 = .ok (.ireturn, 1) := by decide +kernel
abbrev rm_Mo_isGreater : Room := { frames := 1, cells := 0, slots := 0, locals := 22 }
def B_Mo_isGreater_128 (post : Int32 → Mem → Prop) (s0 : Int32) (M : Mem) : Prop := (narrow .boolean (.int s0) = .int s0 ∧ post s0 M)
set_option maxRecDepth 20000 in
theorem Z_Mo_isGreater_128 {x : Ctx} {post : Int32 → Mem → Prop} (C : Ok x b_Mo_isGreater 4 "HeapTowerModel") (hR : xR x = rm_Mo_isGreater) (Rt : RetI x .boolean post 0 0) (s0 : Int32) (M : Mem) (h : B_Mo_isGreater_128 post s0 M) : J x 4 128 [] [.int s0] 0 0 M := by
  unfold B_Mo_isGreater_128 at h
  obtain ⟨c_128, h⟩ := h
  exact J_iret C Rt D_Mo_isGreater_128 c_128 h
def B_Mo_isGreater_89 (k89 : Nat → Int32 → Int32 → Int32 → Mem → Prop) (post : Int32 → Mem → Prop) (a0 : Nat) (x1 : Int32) (x2 : Int32) (x3 : Int32) (M : Mem) : Prop := ((x3 < 0 → (narrow .boolean (.int 0) = .int 0 ∧ post 0 M)) ∧ (¬ x3 < 0 → (isK M a0 7 ∧ T_Mo_power a0 x1 x3 M (fun r96 M96 => isK M96 a0 7 ∧ T_Mo_power a0 x2 x3 M96 (fun r102 M102 => (r96 = r102 → (k89 a0 x1 x2 (x3 + (-1)) M102)) ∧ (¬ r96 = r102 → (isK M102 a0 7 ∧ T_Mo_power a0 x1 x3 M102 (fun r111 M111 => isK M111 a0 7 ∧ T_Mo_power a0 x2 x3 M111 (fun r117 M117 => (r117 ≤ r111 → (B_Mo_isGreater_128 post 0 M117)) ∧ (¬ r117 ≤ r111 → (B_Mo_isGreater_128 post 1 M117)))))))))))
set_option maxRecDepth 20000 in
theorem Z_Mo_isGreater_89 {x : Ctx} {post : Int32 → Mem → Prop} (C : Ok x b_Mo_isGreater 4 "HeapTowerModel") (hR : xR x = rm_Mo_isGreater) (Rt : RetI x .boolean post 0 0) {k89 : Nat → Int32 → Int32 → Int32 → Mem → Prop} (K89 : ∀ (a0 : Nat) (x1 : Int32) (x2 : Int32) (x3 : Int32) (M : Mem), k89 a0 x1 x2 x3 M → J x 4 89 [(0, .ref (xd x a0)), (1, .int x1), (2, .int x2), (3, .int x3)] [] 0 0 M) (a0 : Nat) (x1 : Int32) (x2 : Int32) (x3 : Int32) (M : Mem) (h : B_Mo_isGreater_89 k89 post a0 x1 x2 x3 M) : J x 4 89 [(0, .ref (xd x a0)), (1, .int x1), (2, .int x2), (3, .int x3)] [] 0 0 M := by
  unfold B_Mo_isGreater_89 at h
  refine J_iload_n C 3 D_Mo_isGreater_89 rfl rfl ?_
  refine J_if_lt (tgt := 135) C D_Mo_isGreater_90 (by decide) (fun c_90 => ?_) (fun c_90 => ?_)
  · have h := h.1 c_90
    refine J_iconst (v := 0) C D_Mo_isGreater_135 rfl ?_
    obtain ⟨c_136, h⟩ := h
    exact J_iret C Rt D_Mo_isGreater_136 c_136 h
  · have h := h.2 c_90
    refine J_aload_n C 0 D_Mo_isGreater_93 rfl rfl ?_
    refine J_iload_n C 1 D_Mo_isGreater_94 rfl rfl ?_
    refine J_iload_n C 3 D_Mo_isGreater_95 rfl rfl ?_
    obtain ⟨c_96, h⟩ := h
    refine J_callVi C ml_Mo_61 (S_Mo_power _ _ _ _ _ h) (by rw [hR]; decide) rfl c_96 rfl (Nat.le_of_ble_eq_true rfl) D_Mo_isGreater_96 (fun r96 M96 h => ?_)
    refine J_aload_n C 0 D_Mo_isGreater_99 rfl rfl ?_
    refine J_iload_n C 2 D_Mo_isGreater_100 rfl rfl ?_
    refine J_iload_n C 3 D_Mo_isGreater_101 rfl rfl ?_
    obtain ⟨c_102, h⟩ := h
    refine J_callVi C ml_Mo_61 (S_Mo_power _ _ _ _ _ h) (by rw [hR]; decide) rfl c_102 rfl (Nat.le_of_ble_eq_true rfl) D_Mo_isGreater_102 (fun r102 M102 h => ?_)
    refine J_icmp_eq (tgt := 129) C D_Mo_isGreater_105 (by decide) (fun c_105 => ?_) (fun c_105 => ?_)
    · have h := h.1 c_105
      refine J_iinc (v := x3 + (-1)) (lv' := [(3, .int (x3 + (-1))), (0, .ref (xd x a0)), (1, .int x1), (2, .int x2)]) C 3 3 D_Mo_isGreater_129 rfl rfl (by decide) rfl ?_
      refine J_goto (tgt := 89) C D_Mo_isGreater_132 (by decide) ?_
      exact J_sub [1, 2, 3, 0] rfl (K89 _ _ _ _ _ h)
    · have h := h.2 c_105
      refine J_aload_n C 0 D_Mo_isGreater_108 rfl rfl ?_
      refine J_iload_n C 1 D_Mo_isGreater_109 rfl rfl ?_
      refine J_iload_n C 3 D_Mo_isGreater_110 rfl rfl ?_
      obtain ⟨c_111, h⟩ := h
      refine J_callVi C ml_Mo_61 (S_Mo_power _ _ _ _ _ h) (by rw [hR]; decide) rfl c_111 rfl (Nat.le_of_ble_eq_true rfl) D_Mo_isGreater_111 (fun r111 M111 h => ?_)
      refine J_aload_n C 0 D_Mo_isGreater_114 rfl rfl ?_
      refine J_iload_n C 2 D_Mo_isGreater_115 rfl rfl ?_
      refine J_iload_n C 3 D_Mo_isGreater_116 rfl rfl ?_
      obtain ⟨c_117, h⟩ := h
      refine J_callVi C ml_Mo_61 (S_Mo_power _ _ _ _ _ h) (by rw [hR]; decide) rfl c_117 rfl (Nat.le_of_ble_eq_true rfl) D_Mo_isGreater_117 (fun r117 M117 h => ?_)
      refine J_icmp_ge (tgt := 127) C D_Mo_isGreater_120 (by decide) (fun c_120 => ?_) (fun c_120 => ?_)
      · have h := h.1 c_120
        refine J_iconst (v := 0) C D_Mo_isGreater_127 rfl ?_
        exact J_sub [] rfl (Z_Mo_isGreater_128 C hR Rt  _ _ h)
      · have h := h.2 c_120
        refine J_iconst (v := 1) C D_Mo_isGreater_123 rfl ?_
        refine J_goto (tgt := 128) C D_Mo_isGreater_124 (by decide) ?_
        exact J_sub [] rfl (Z_Mo_isGreater_128 C hR Rt  _ _ h)
def L_Mo_isGreater_89 (post : Int32 → Mem → Prop) : Nat → Nat → Int32 → Int32 → Int32 → Mem → Prop
  | 0, _, _, _, _, _ => False
  | n + 1, a0, x1, x2, x3, M => B_Mo_isGreater_89 (L_Mo_isGreater_89 post n) post a0 x1 x2 x3 M
theorem Y_Mo_isGreater_89 {x : Ctx} {post : Int32 → Mem → Prop} (C : Ok x b_Mo_isGreater 4 "HeapTowerModel") (hR : xR x = rm_Mo_isGreater) (Rt : RetI x .boolean post 0 0) : ∀ (n : Nat) (a0 : Nat) (x1 : Int32) (x2 : Int32) (x3 : Int32) (M : Mem), L_Mo_isGreater_89 post n a0 x1 x2 x3 M → J x 4 89 [(0, .ref (xd x a0)), (1, .int x1), (2, .int x2), (3, .int x3)] [] 0 0 M := by
  intro n
  induction n with
  | zero => intro a0 x1 x2 x3 M h; exact h.elim
  | succ n ih => intro a0 x1 x2 x3 M h; exact Z_Mo_isGreater_89 C hR Rt ih _ _ _ _ _ h
def B_Mo_isGreater_78 (post : Int32 → Mem → Prop) (s0 : Int32) (M : Mem) : Prop := (narrow .boolean (.int s0) = .int s0 ∧ post s0 M)
set_option maxRecDepth 20000 in
theorem Z_Mo_isGreater_78 {x : Ctx} {post : Int32 → Mem → Prop} (C : Ok x b_Mo_isGreater 4 "HeapTowerModel") (hR : xR x = rm_Mo_isGreater) (Rt : RetI x .boolean post 0 0) (s0 : Int32) (M : Mem) (h : B_Mo_isGreater_78 post s0 M) : J x 4 78 [] [.int s0] 0 0 M := by
  unfold B_Mo_isGreater_78 at h
  obtain ⟨c_78, h⟩ := h
  exact J_iret C Rt D_Mo_isGreater_78 c_78 h
def B_Mo_isGreater_38 (k38 : Nat → Int32 → Int32 → Int32 → Mem → Prop) (post : Int32 → Mem → Prop) (a0 : Nat) (x1 : Int32) (x2 : Int32) (x3 : Int32) (M : Mem) : Prop := ((3 ≤ x3 → (narrow .boolean (.int 0) = .int 0 ∧ post 0 M)) ∧ (¬ 3 ≤ x3 → (isK M a0 7 ∧ T_Mo_power a0 x1 x3 M (fun r46 M46 => isK M46 a0 7 ∧ T_Mo_power a0 x2 x3 M46 (fun r52 M52 => (r46 = r52 → (k38 a0 x1 x2 (x3 + 1) M52)) ∧ (¬ r46 = r52 → (isK M52 a0 7 ∧ T_Mo_power a0 x1 x3 M52 (fun r61 M61 => isK M61 a0 7 ∧ T_Mo_power a0 x2 x3 M61 (fun r67 M67 => (r61 ≤ r67 → (B_Mo_isGreater_78 post 0 M67)) ∧ (¬ r61 ≤ r67 → (B_Mo_isGreater_78 post 1 M67)))))))))))
set_option maxRecDepth 20000 in
theorem Z_Mo_isGreater_38 {x : Ctx} {post : Int32 → Mem → Prop} (C : Ok x b_Mo_isGreater 4 "HeapTowerModel") (hR : xR x = rm_Mo_isGreater) (Rt : RetI x .boolean post 0 0) {k38 : Nat → Int32 → Int32 → Int32 → Mem → Prop} (K38 : ∀ (a0 : Nat) (x1 : Int32) (x2 : Int32) (x3 : Int32) (M : Mem), k38 a0 x1 x2 x3 M → J x 4 38 [(0, .ref (xd x a0)), (1, .int x1), (2, .int x2), (3, .int x3)] [] 0 0 M) (a0 : Nat) (x1 : Int32) (x2 : Int32) (x3 : Int32) (M : Mem) (h : B_Mo_isGreater_38 k38 post a0 x1 x2 x3 M) : J x 4 38 [(0, .ref (xd x a0)), (1, .int x1), (2, .int x2), (3, .int x3)] [] 0 0 M := by
  unfold B_Mo_isGreater_38 at h
  refine J_iload_n C 3 D_Mo_isGreater_38 rfl rfl ?_
  refine J_iconst (v := 3) C D_Mo_isGreater_39 rfl ?_
  refine J_icmp_ge (tgt := 85) C D_Mo_isGreater_40 (by decide) (fun c_40 => ?_) (fun c_40 => ?_)
  · have h := h.1 c_40
    refine J_iconst (v := 0) C D_Mo_isGreater_85 rfl ?_
    obtain ⟨c_86, h⟩ := h
    exact J_iret C Rt D_Mo_isGreater_86 c_86 h
  · have h := h.2 c_40
    refine J_aload_n C 0 D_Mo_isGreater_43 rfl rfl ?_
    refine J_iload_n C 1 D_Mo_isGreater_44 rfl rfl ?_
    refine J_iload_n C 3 D_Mo_isGreater_45 rfl rfl ?_
    obtain ⟨c_46, h⟩ := h
    refine J_callVi C ml_Mo_61 (S_Mo_power _ _ _ _ _ h) (by rw [hR]; decide) rfl c_46 rfl (Nat.le_of_ble_eq_true rfl) D_Mo_isGreater_46 (fun r46 M46 h => ?_)
    refine J_aload_n C 0 D_Mo_isGreater_49 rfl rfl ?_
    refine J_iload_n C 2 D_Mo_isGreater_50 rfl rfl ?_
    refine J_iload_n C 3 D_Mo_isGreater_51 rfl rfl ?_
    obtain ⟨c_52, h⟩ := h
    refine J_callVi C ml_Mo_61 (S_Mo_power _ _ _ _ _ h) (by rw [hR]; decide) rfl c_52 rfl (Nat.le_of_ble_eq_true rfl) D_Mo_isGreater_52 (fun r52 M52 h => ?_)
    refine J_icmp_eq (tgt := 79) C D_Mo_isGreater_55 (by decide) (fun c_55 => ?_) (fun c_55 => ?_)
    · have h := h.1 c_55
      refine J_iinc (v := x3 + 1) (lv' := [(3, .int (x3 + 1)), (0, .ref (xd x a0)), (1, .int x1), (2, .int x2)]) C 3 3 D_Mo_isGreater_79 rfl rfl (by decide) rfl ?_
      refine J_goto (tgt := 38) C D_Mo_isGreater_82 (by decide) ?_
      exact J_sub [1, 2, 3, 0] rfl (K38 _ _ _ _ _ h)
    · have h := h.2 c_55
      refine J_aload_n C 0 D_Mo_isGreater_58 rfl rfl ?_
      refine J_iload_n C 1 D_Mo_isGreater_59 rfl rfl ?_
      refine J_iload_n C 3 D_Mo_isGreater_60 rfl rfl ?_
      obtain ⟨c_61, h⟩ := h
      refine J_callVi C ml_Mo_61 (S_Mo_power _ _ _ _ _ h) (by rw [hR]; decide) rfl c_61 rfl (Nat.le_of_ble_eq_true rfl) D_Mo_isGreater_61 (fun r61 M61 h => ?_)
      refine J_aload_n C 0 D_Mo_isGreater_64 rfl rfl ?_
      refine J_iload_n C 2 D_Mo_isGreater_65 rfl rfl ?_
      refine J_iload_n C 3 D_Mo_isGreater_66 rfl rfl ?_
      obtain ⟨c_67, h⟩ := h
      refine J_callVi C ml_Mo_61 (S_Mo_power _ _ _ _ _ h) (by rw [hR]; decide) rfl c_67 rfl (Nat.le_of_ble_eq_true rfl) D_Mo_isGreater_67 (fun r67 M67 h => ?_)
      refine J_icmp_le (tgt := 77) C D_Mo_isGreater_70 (by decide) (fun c_70 => ?_) (fun c_70 => ?_)
      · have h := h.1 c_70
        refine J_iconst (v := 0) C D_Mo_isGreater_77 rfl ?_
        exact J_sub [] rfl (Z_Mo_isGreater_78 C hR Rt  _ _ h)
      · have h := h.2 c_70
        refine J_iconst (v := 1) C D_Mo_isGreater_73 rfl ?_
        refine J_goto (tgt := 78) C D_Mo_isGreater_74 (by decide) ?_
        exact J_sub [] rfl (Z_Mo_isGreater_78 C hR Rt  _ _ h)
def L_Mo_isGreater_38 (post : Int32 → Mem → Prop) : Nat → Nat → Int32 → Int32 → Int32 → Mem → Prop
  | 0, _, _, _, _, _ => False
  | n + 1, a0, x1, x2, x3, M => B_Mo_isGreater_38 (L_Mo_isGreater_38 post n) post a0 x1 x2 x3 M
theorem Y_Mo_isGreater_38 {x : Ctx} {post : Int32 → Mem → Prop} (C : Ok x b_Mo_isGreater 4 "HeapTowerModel") (hR : xR x = rm_Mo_isGreater) (Rt : RetI x .boolean post 0 0) : ∀ (n : Nat) (a0 : Nat) (x1 : Int32) (x2 : Int32) (x3 : Int32) (M : Mem), L_Mo_isGreater_38 post n a0 x1 x2 x3 M → J x 4 38 [(0, .ref (xd x a0)), (1, .int x1), (2, .int x2), (3, .int x3)] [] 0 0 M := by
  intro n
  induction n with
  | zero => intro a0 x1 x2 x3 M h; exact h.elim
  | succ n ih => intro a0 x1 x2 x3 M h; exact Z_Mo_isGreater_38 C hR Rt ih _ _ _ _ _ h
def B_Mo_isGreater_27 (post : Int32 → Mem → Prop) (s0 : Int32) (M : Mem) : Prop := (narrow .boolean (.int s0) = .int s0 ∧ post s0 M)
set_option maxRecDepth 20000 in
theorem Z_Mo_isGreater_27 {x : Ctx} {post : Int32 → Mem → Prop} (C : Ok x b_Mo_isGreater 4 "HeapTowerModel") (hR : xR x = rm_Mo_isGreater) (Rt : RetI x .boolean post 0 0) (s0 : Int32) (M : Mem) (h : B_Mo_isGreater_27 post s0 M) : J x 4 27 [] [.int s0] 0 0 M := by
  unfold B_Mo_isGreater_27 at h
  obtain ⟨c_27, h⟩ := h
  exact J_iret C Rt D_Mo_isGreater_27 c_27 h
def T_Mo_isGreater (a0 : Nat) (x1 : Int32) (x2 : Int32) (M : Mem) (post : Int32 → Mem → Prop) : Prop := (T_Mo_degreeOf x1 M (fun r1 M1 => T_Mo_degreeOf x2 M1 (fun r5 M5 => (r1 = r5 → (isK M5 a0 7 ∧ (¬ (gI M5 a0 3) = 1 → (∃ n, L_Mo_isGreater_89 post n a0 x1 x2 2 M5)) ∧ ((gI M5 a0 3) = 1 → (∃ n, L_Mo_isGreater_38 post n a0 x1 x2 0 M5)))) ∧ (¬ r1 = r5 → (T_Mo_degreeOf x1 M5 (fun r12 M12 => T_Mo_degreeOf x2 M12 (fun r16 M16 => (r12 ≤ r16 → (B_Mo_isGreater_27 post 0 M16)) ∧ (¬ r12 ≤ r16 → (B_Mo_isGreater_27 post 1 M16)))))))))
set_option maxRecDepth 20000 in
theorem S_Mo_isGreater {l : Launch} {D : va_G} {B t g : Nat} {d : Nat → Nat} {ac : Nat → ClassId}  (a0 : Nat) (x1 : Int32) (x2 : Int32) (M : Mem) (post : Int32 → Mem → Prop) (h : T_Mo_isGreater a0 x1 x2 M post) : Met l y_Mo_isGreater w_Mo_isGreater rm_Mo_isGreater (va_Pc [.ref (d a0), .int x1, .int x2] (PRE D B d g t ac M)) (QI D B d g ac post) 0 0 (AB B) := by
  refine met_i (by decide +kernel) (Nat.le_of_ble_eq_true rfl) (fun x h1 hR h3 h4 h5 h6 h7 h8 C Rt => ?_)
  subst h3 h4 h5 h6 h7 h8
  unfold T_Mo_isGreater at h
  show J x 4 0 [(0, .ref (xd x a0)), (1, .int x1), (2, .int x2)] [] 0 0 M
  refine J_iload_n C 1 D_Mo_isGreater_0 rfl rfl ?_
  refine J_callSi C ml_Mo_54 (S_Mo_degreeOf _ _ _ h) (by rw [hR]; decide) rfl rfl (Nat.le_of_ble_eq_true rfl) D_Mo_isGreater_1 (fun r1 M1 h => ?_)
  refine J_iload_n C 2 D_Mo_isGreater_4 rfl rfl ?_
  refine J_callSi C ml_Mo_54 (S_Mo_degreeOf _ _ _ h) (by rw [hR]; decide) rfl rfl (Nat.le_of_ble_eq_true rfl) D_Mo_isGreater_5 (fun r5 M5 h => ?_)
  refine J_icmp_eq (tgt := 28) C D_Mo_isGreater_8 (by decide) (fun c_8 => ?_) (fun c_8 => ?_)
  · have h := h.1 c_8
    refine J_aload_n C 0 D_Mo_isGreater_28 rfl rfl ?_
    obtain ⟨c_29, h⟩ := h
    refine J_getI C fl_Mo_58 D_Mo_isGreater_29 c_29 ?_
    refine J_iconst (v := 1) C D_Mo_isGreater_32 rfl ?_
    refine J_icmp_ne (tgt := 87) C D_Mo_isGreater_33 (by decide) (fun c_33 => ?_) (fun c_33 => ?_)
    · have h := h.1 c_33
      refine J_iconst (v := 2) C D_Mo_isGreater_87 rfl ?_
      refine J_istore_n (lv' := [(3, .int 2), (0, .ref (xd x a0)), (1, .int x1), (2, .int x2)]) C 3 D_Mo_isGreater_88 rfl (by decide) rfl ?_
      obtain ⟨n, h⟩ := h
      exact J_sub [1, 2, 3, 0] rfl (Y_Mo_isGreater_89 C hR Rt  n _ _ _ _ _ h)
    · have h := h.2 c_33
      refine J_iconst (v := 0) C D_Mo_isGreater_36 rfl ?_
      refine J_istore_n (lv' := [(3, .int 0), (0, .ref (xd x a0)), (1, .int x1), (2, .int x2)]) C 3 D_Mo_isGreater_37 rfl (by decide) rfl ?_
      obtain ⟨n, h⟩ := h
      exact J_sub [1, 2, 3, 0] rfl (Y_Mo_isGreater_38 C hR Rt  n _ _ _ _ _ h)
  · have h := h.2 c_8
    refine J_iload_n C 1 D_Mo_isGreater_11 rfl rfl ?_
    refine J_callSi C ml_Mo_54 (S_Mo_degreeOf _ _ _ h) (by rw [hR]; decide) rfl rfl (Nat.le_of_ble_eq_true rfl) D_Mo_isGreater_12 (fun r12 M12 h => ?_)
    refine J_iload_n C 2 D_Mo_isGreater_15 rfl rfl ?_
    refine J_callSi C ml_Mo_54 (S_Mo_degreeOf _ _ _ h) (by rw [hR]; decide) rfl rfl (Nat.le_of_ble_eq_true rfl) D_Mo_isGreater_16 (fun r16 M16 h => ?_)
    refine J_icmp_le (tgt := 26) C D_Mo_isGreater_19 (by decide) (fun c_19 => ?_) (fun c_19 => ?_)
    · have h := h.1 c_19
      refine J_iconst (v := 0) C D_Mo_isGreater_26 rfl ?_
      exact J_sub [] rfl (Z_Mo_isGreater_27 C hR Rt  _ _ h)
    · have h := h.2 c_19
      refine J_iconst (v := 1) C D_Mo_isGreater_22 rfl ?_
      refine J_goto (tgt := 27) C D_Mo_isGreater_23 (by decide) ?_
      exact J_sub [] rfl (Z_Mo_isGreater_27 C hR Rt  _ _ h)
theorem D_Mo_get_0 : decode b_Mo_get 0 = .ok (.aload_n 0, 1) := by decide +kernel
theorem D_Mo_get_1 : decode b_Mo_get 1 = .ok (.getfield 7, 3) := by decide +kernel
theorem D_Mo_get_4 : decode b_Mo_get 4 = .ok (.sipush 1331, 3) := by decide +kernel
theorem D_Mo_get_7 : decode b_Mo_get 7 = .ok (.iload_n 1, 1) := by decide +kernel
theorem D_Mo_get_8 : decode b_Mo_get 8 = .ok (.imul, 1) := by decide +kernel
theorem D_Mo_get_9 : decode b_Mo_get 9 = .ok (.iload_n 2, 1) := by decide +kernel
theorem D_Mo_get_10 : decode b_Mo_get 10 = .ok (.iadd, 1) := by decide +kernel
theorem D_Mo_get_11 : decode b_Mo_get 11 = .ok (.iaload, 1) := by decide +kernel
theorem D_Mo_get_12 : decode b_Mo_get 12 = .ok (.ireturn, 1) := by decide +kernel
abbrev rm_Mo_get : Room := { frames := 0, cells := 0, slots := 0, locals := 0 }
def T_Mo_get (a0 : Nat) (x1 : Int32) (x2 : Int32) (M : Mem) (post : Int32 → Mem → Prop) : Prop := (isK M a0 7 ∧ ∃ q1, gR M a0 0 = some q1 ∧ isA M q1 8 ((1331 * x1) + x2) ∧ post (gI M q1 (Int32.toNatClampNeg ((1331 * x1) + x2))) M)
set_option maxRecDepth 20000 in
theorem S_Mo_get {l : Launch} {D : va_G} {B t g : Nat} {d : Nat → Nat} {ac : Nat → ClassId}  (a0 : Nat) (x1 : Int32) (x2 : Int32) (M : Mem) (post : Int32 → Mem → Prop) (h : T_Mo_get a0 x1 x2 M post) : Met l y_Mo_get w_Mo_get rm_Mo_get (va_Pc [.ref (d a0), .int x1, .int x2] (PRE D B d g t ac M)) (QI D B d g ac post) 0 0 (AB B) := by
  refine met_i (by decide +kernel) (Nat.le_of_ble_eq_true rfl) (fun x h1 hR h3 h4 h5 h6 h7 h8 C Rt => ?_)
  subst h3 h4 h5 h6 h7 h8
  unfold T_Mo_get at h
  show J x 3 0 [(0, .ref (xd x a0)), (1, .int x1), (2, .int x2)] [] 0 0 M
  refine J_aload_n C 0 D_Mo_get_0 rfl rfl ?_
  obtain ⟨c_1, q1, e_1, h⟩ := h
  refine J_getR C fl_Mo_7 D_Mo_get_1 c_1 e_1 ?_
  refine J_sipush (v := 1331) C D_Mo_get_4 rfl ?_
  refine J_iload_n C 1 D_Mo_get_7 rfl rfl ?_
  refine J_imul C D_Mo_get_8 ?_
  refine J_iload_n C 2 D_Mo_get_9 rfl rfl ?_
  refine J_iadd C D_Mo_get_10 ?_
  obtain ⟨c_11, h⟩ := h
  refine J_iald C D_Mo_get_11 c_11 ?_
  exact J_iret C Rt D_Mo_get_12 rfl h
theorem D_Mo_put_0 : decode b_Mo_put 0 = .ok (.aload_n 0, 1) := by decide +kernel
theorem D_Mo_put_1 : decode b_Mo_put 1 = .ok (.getfield 7, 3) := by decide +kernel
theorem D_Mo_put_4 : decode b_Mo_put 4 = .ok (.sipush 1331, 3) := by decide +kernel
theorem D_Mo_put_7 : decode b_Mo_put 7 = .ok (.iload_n 1, 1) := by decide +kernel
theorem D_Mo_put_8 : decode b_Mo_put 8 = .ok (.imul, 1) := by decide +kernel
theorem D_Mo_put_9 : decode b_Mo_put 9 = .ok (.iload_n 2, 1) := by decide +kernel
theorem D_Mo_put_10 : decode b_Mo_put 10 = .ok (.iadd, 1) := by decide +kernel
theorem D_Mo_put_11 : decode b_Mo_put 11 = .ok (.iload_n 3, 1) := by decide +kernel
theorem D_Mo_put_12 : decode b_Mo_put 12 = .ok (.iastore, 1) := by decide +kernel
theorem D_Mo_put_13 : decode b_Mo_put 13 = .ok (.return_, 1) := by decide +kernel
abbrev rm_Mo_put : Room := { frames := 0, cells := 0, slots := 0, locals := 0 }
def T_Mo_put (a0 : Nat) (x1 : Int32) (x2 : Int32) (x3 : Int32) (M : Mem) (post : Mem → Prop) : Prop := (isK M a0 7 ∧ ∃ q1, gR M a0 0 = some q1 ∧ isA M q1 8 ((1331 * x1) + x2) ∧ post (sI M q1 (Int32.toNatClampNeg ((1331 * x1) + x2)) x3))
set_option maxRecDepth 20000 in
theorem S_Mo_put {l : Launch} {D : va_G} {B t g : Nat} {d : Nat → Nat} {ac : Nat → ClassId}  (a0 : Nat) (x1 : Int32) (x2 : Int32) (x3 : Int32) (M : Mem) (post : Mem → Prop) (h : T_Mo_put a0 x1 x2 x3 M post) : Met l y_Mo_put w_Mo_put rm_Mo_put (va_Pc [.ref (d a0), .int x1, .int x2, .int x3] (PRE D B d g t ac M)) (QV D B d g ac post) 0 0 (AB B) := by
  refine met_v (by decide +kernel) (Nat.le_of_ble_eq_true rfl) (fun x h1 hR h3 h4 h5 h6 h7 h8 C Rt Nm => ?_)
  subst h3 h4 h5 h6 h7 h8
  unfold T_Mo_put at h
  show J x 4 0 [(0, .ref (xd x a0)), (1, .int x1), (2, .int x2), (3, .int x3)] [] 0 0 M
  refine J_aload_n C 0 D_Mo_put_0 rfl rfl ?_
  obtain ⟨c_1, q1, e_1, h⟩ := h
  refine J_getR C fl_Mo_7 D_Mo_put_1 c_1 e_1 ?_
  refine J_sipush (v := 1331) C D_Mo_put_4 rfl ?_
  refine J_iload_n C 1 D_Mo_put_7 rfl rfl ?_
  refine J_imul C D_Mo_put_8 ?_
  refine J_iload_n C 2 D_Mo_put_9 rfl rfl ?_
  refine J_iadd C D_Mo_put_10 ?_
  refine J_iload_n C 3 D_Mo_put_11 rfl rfl ?_
  obtain ⟨c_12, h⟩ := h
  refine J_iast C D_Mo_put_12 c_12 ?_
  exact J_vret C Rt D_Mo_put_13 h
theorem D_Mo_clear_0 : decode b_Mo_clear 0 = .ok (.iconst 0, 1) := by decide +kernel
theorem D_Mo_clear_1 : decode b_Mo_clear 1 = .ok (.istore_n 2, 1) := by decide +kernel
theorem D_Mo_clear_2 : decode b_Mo_clear 2 = .ok (.iload_n 2, 1) := by decide +kernel
theorem D_Mo_clear_3 : decode b_Mo_clear 3 = .ok (.sipush 1331, 3) := by decide +kernel
theorem D_Mo_clear_6 : decode b_Mo_clear 6 = .ok (.if_icmp .ge 16, 3) := by decide +kernel
theorem D_Mo_clear_9 : decode b_Mo_clear 9 = .ok (.aload_n 0, 1) := by decide +kernel
theorem D_Mo_clear_10 : decode b_Mo_clear 10 = .ok (.iload_n 1, 1) := by decide +kernel
theorem D_Mo_clear_11 : decode b_Mo_clear 11 = .ok (.iload_n 2, 1) := by decide +kernel
theorem D_Mo_clear_12 : decode b_Mo_clear 12 = .ok (.iconst 0, 1) := by decide +kernel
theorem D_Mo_clear_13 : decode b_Mo_clear 13 = .ok (.invokevirtual 65, 3) := by decide +kernel
theorem D_Mo_clear_16 : decode b_Mo_clear 16 = .ok (.iinc 2 1, 3) := by decide +kernel
theorem D_Mo_clear_19 : decode b_Mo_clear 19 = .ok (.goto (-17), 3) := by decide +kernel
theorem D_Mo_clear_22 : decode b_Mo_clear 22 = .ok (.return_, 1) := by decide +kernel
abbrev rm_Mo_clear : Room := { frames := 1, cells := 0, slots := 0, locals := 23 }
def B_Mo_clear_2 (k2 : Nat → Int32 → Int32 → Mem → Prop) (post : Mem → Prop) (a0 : Nat) (x1 : Int32) (x2 : Int32) (M : Mem) : Prop := ((1331 ≤ x2 → (post M)) ∧ (¬ 1331 ≤ x2 → (isK M a0 7 ∧ T_Mo_put a0 x1 x2 0 M (fun M13 => k2 a0 x1 (x2 + 1) M13))))
set_option maxRecDepth 20000 in
theorem Z_Mo_clear_2 {x : Ctx} {post : Mem → Prop} (C : Ok x b_Mo_clear 3 "HeapTowerModel") (hR : xR x = rm_Mo_clear) (Rt : RetV x post 0 0) {k2 : Nat → Int32 → Int32 → Mem → Prop} (K2 : ∀ (a0 : Nat) (x1 : Int32) (x2 : Int32) (M : Mem), k2 a0 x1 x2 M → J x 3 2 [(0, .ref (xd x a0)), (1, .int x1), (2, .int x2)] [] 0 0 M) (a0 : Nat) (x1 : Int32) (x2 : Int32) (M : Mem) (h : B_Mo_clear_2 k2 post a0 x1 x2 M) : J x 3 2 [(0, .ref (xd x a0)), (1, .int x1), (2, .int x2)] [] 0 0 M := by
  unfold B_Mo_clear_2 at h
  refine J_iload_n C 2 D_Mo_clear_2 rfl rfl ?_
  refine J_sipush (v := 1331) C D_Mo_clear_3 rfl ?_
  refine J_icmp_ge (tgt := 22) C D_Mo_clear_6 (by decide) (fun c_6 => ?_) (fun c_6 => ?_)
  · have h := h.1 c_6
    exact J_vret C Rt D_Mo_clear_22 h
  · have h := h.2 c_6
    refine J_aload_n C 0 D_Mo_clear_9 rfl rfl ?_
    refine J_iload_n C 1 D_Mo_clear_10 rfl rfl ?_
    refine J_iload_n C 2 D_Mo_clear_11 rfl rfl ?_
    refine J_iconst (v := 0) C D_Mo_clear_12 rfl ?_
    obtain ⟨c_13, h⟩ := h
    refine J_callVv C ml_Mo_65 (S_Mo_put _ _ _ _ _ _ h) (by rw [hR]; decide) rfl c_13 rfl (Nat.le_of_ble_eq_true rfl) D_Mo_clear_13 (fun M13 h => ?_)
    refine J_iinc (v := x2 + 1) (lv' := [(2, .int (x2 + 1)), (0, .ref (xd x a0)), (1, .int x1)]) C 2 2 D_Mo_clear_16 rfl rfl (by decide) rfl ?_
    refine J_goto (tgt := 2) C D_Mo_clear_19 (by decide) ?_
    exact J_sub [1, 2, 0] rfl (K2 _ _ _ _ h)
def L_Mo_clear_2 (post : Mem → Prop) : Nat → Nat → Int32 → Int32 → Mem → Prop
  | 0, _, _, _, _ => False
  | n + 1, a0, x1, x2, M => B_Mo_clear_2 (L_Mo_clear_2 post n) post a0 x1 x2 M
theorem Y_Mo_clear_2 {x : Ctx} {post : Mem → Prop} (C : Ok x b_Mo_clear 3 "HeapTowerModel") (hR : xR x = rm_Mo_clear) (Rt : RetV x post 0 0) : ∀ (n : Nat) (a0 : Nat) (x1 : Int32) (x2 : Int32) (M : Mem), L_Mo_clear_2 post n a0 x1 x2 M → J x 3 2 [(0, .ref (xd x a0)), (1, .int x1), (2, .int x2)] [] 0 0 M := by
  intro n
  induction n with
  | zero => intro a0 x1 x2 M h; exact h.elim
  | succ n ih => intro a0 x1 x2 M h; exact Z_Mo_clear_2 C hR Rt ih _ _ _ _ h
def T_Mo_clear (a0 : Nat) (x1 : Int32) (M : Mem) (post : Mem → Prop) : Prop := (∃ n, L_Mo_clear_2 post n a0 x1 0 M)
set_option maxRecDepth 20000 in
theorem S_Mo_clear {l : Launch} {D : va_G} {B t g : Nat} {d : Nat → Nat} {ac : Nat → ClassId}  (a0 : Nat) (x1 : Int32) (M : Mem) (post : Mem → Prop) (h : T_Mo_clear a0 x1 M post) : Met l y_Mo_clear w_Mo_clear rm_Mo_clear (va_Pc [.ref (d a0), .int x1] (PRE D B d g t ac M)) (QV D B d g ac post) 0 0 (AB B) := by
  refine met_v (by decide +kernel) (Nat.le_of_ble_eq_true rfl) (fun x h1 hR h3 h4 h5 h6 h7 h8 C Rt Nm => ?_)
  subst h3 h4 h5 h6 h7 h8
  unfold T_Mo_clear at h
  show J x 3 0 [(0, .ref (xd x a0)), (1, .int x1)] [] 0 0 M
  refine J_iconst (v := 0) C D_Mo_clear_0 rfl ?_
  refine J_istore_n (lv' := [(2, .int 0), (0, .ref (xd x a0)), (1, .int x1)]) C 2 D_Mo_clear_1 rfl (by decide) rfl ?_
  obtain ⟨n, h⟩ := h
  exact J_sub [1, 2, 0] rfl (Y_Mo_clear_2 C hR Rt  n _ _ _ _ h)
theorem D_Mo_products_0 : decode b_Mo_products 0 = .ok (.iconst 0, 1) := by decide +kernel
theorem D_Mo_products_1 : decode b_Mo_products 1 = .ok (.istore_n 2, 1) := by decide +kernel
theorem D_Mo_products_2 : decode b_Mo_products 2 = .ok (.iconst 0, 1) := by decide +kernel
theorem D_Mo_products_3 : decode b_Mo_products 3 = .ok (.istore_n 3, 1) := by decide +kernel
theorem D_Mo_products_4 : decode b_Mo_products 4 = .ok (.iload_n 3, 1) := by decide +kernel
theorem D_Mo_products_5 : decode b_Mo_products 5 = .ok (.sipush 1331, 3) := by decide +kernel
theorem D_Mo_products_8 : decode b_Mo_products 8 = .ok (.if_icmp .ge 26, 3) := by decide +kernel
theorem D_Mo_products_11 : decode b_Mo_products 11 = .ok (.iload_n 2, 1) := by decide +kernel
theorem D_Mo_products_12 : decode b_Mo_products 12 = .ok (.aload_n 0, 1) := by decide +kernel
theorem D_Mo_products_13 : decode b_Mo_products 13 = .ok (.iload_n 1, 1) := by decide +kernel
theorem D_Mo_products_14 : decode b_Mo_products 14 = .ok (.iload_n 3, 1) := by decide +kernel
theorem D_Mo_products_15 : decode b_Mo_products 15 = .ok (.invokevirtual 69, 3) := by decide +kernel
theorem D_Mo_products_18 : decode b_Mo_products 18 = .ok (.ifCond .eq 7, 3) := by decide +kernel
theorem D_Mo_products_21 : decode b_Mo_products 21 = .ok (.iconst 1, 1) := by decide +kernel
theorem D_Mo_products_22 : decode b_Mo_products 22 = .ok (.goto 4, 3) := by decide +kernel
theorem D_Mo_products_25 : decode b_Mo_products 25 = .ok (.iconst 0, 1) := by decide +kernel
theorem D_Mo_products_26 : decode b_Mo_products 26 = .ok (.iadd, 1) := by decide +kernel
theorem D_Mo_products_27 : decode b_Mo_products 27 = .ok (.istore_n 2, 1) := by decide +kernel
theorem D_Mo_products_28 : decode b_Mo_products 28 = .ok (.iinc 3 1, 3) := by decide +kernel
theorem D_Mo_products_31 : decode b_Mo_products 31 = .ok (.goto (-27), 3) := by decide +kernel
theorem D_Mo_products_34 : decode b_Mo_products 34 = .ok (.iload_n 2, 1) := by decide +kernel
theorem D_Mo_products_35 : decode b_Mo_products 35 = .ok (.ireturn, 1) := by decide +kernel
abbrev rm_Mo_products : Room := { frames := 1, cells := 0, slots := 0, locals := 22 }
def B_Mo_products_26 (k4 : Nat → Int32 → Int32 → Int32 → Mem → Prop) (post : Int32 → Mem → Prop) (a0 : Nat) (x1 : Int32) (x3 : Int32) (s0 : Int32) (s1 : Int32) (M : Mem) : Prop := (k4 a0 x1 (s1 + s0) (x3 + 1) M)
set_option maxRecDepth 20000 in
theorem Z_Mo_products_26 {x : Ctx} {post : Int32 → Mem → Prop} (C : Ok x b_Mo_products 4 "HeapTowerModel") (hR : xR x = rm_Mo_products) (Rt : RetI x .int post 0 0) {k4 : Nat → Int32 → Int32 → Int32 → Mem → Prop} (K4 : ∀ (a0 : Nat) (x1 : Int32) (x2 : Int32) (x3 : Int32) (M : Mem), k4 a0 x1 x2 x3 M → J x 4 4 [(0, .ref (xd x a0)), (1, .int x1), (2, .int x2), (3, .int x3)] [] 0 0 M) (a0 : Nat) (x1 : Int32) (x3 : Int32) (s0 : Int32) (s1 : Int32) (M : Mem) (h : B_Mo_products_26 k4 post a0 x1 x3 s0 s1 M) : J x 4 26 [(0, .ref (xd x a0)), (1, .int x1), (3, .int x3)] [.int s0, .int s1] 0 0 M := by
  unfold B_Mo_products_26 at h
  refine J_iadd C D_Mo_products_26 ?_
  refine J_istore_n (lv' := [(2, .int (s1 + s0)), (0, .ref (xd x a0)), (1, .int x1), (3, .int x3)]) C 2 D_Mo_products_27 rfl (by decide) rfl ?_
  refine J_iinc (v := x3 + 1) (lv' := [(3, .int (x3 + 1)), (2, .int (s1 + s0)), (0, .ref (xd x a0)), (1, .int x1)]) C 3 3 D_Mo_products_28 rfl rfl (by decide) rfl ?_
  refine J_goto (tgt := 4) C D_Mo_products_31 (by decide) ?_
  exact J_sub [2, 3, 1, 0] rfl (K4 _ _ _ _ _ h)
def B_Mo_products_4 (k4 : Nat → Int32 → Int32 → Int32 → Mem → Prop) (post : Int32 → Mem → Prop) (a0 : Nat) (x1 : Int32) (x2 : Int32) (x3 : Int32) (M : Mem) : Prop := ((1331 ≤ x3 → (post x2 M)) ∧ (¬ 1331 ≤ x3 → (isK M a0 7 ∧ T_Mo_get a0 x1 x3 M (fun r15 M15 => (r15 = 0 → (B_Mo_products_26 k4 post a0 x1 x3 0 x2 M15)) ∧ (¬ r15 = 0 → (B_Mo_products_26 k4 post a0 x1 x3 1 x2 M15))))))
set_option maxRecDepth 20000 in
theorem Z_Mo_products_4 {x : Ctx} {post : Int32 → Mem → Prop} (C : Ok x b_Mo_products 4 "HeapTowerModel") (hR : xR x = rm_Mo_products) (Rt : RetI x .int post 0 0) {k4 : Nat → Int32 → Int32 → Int32 → Mem → Prop} (K4 : ∀ (a0 : Nat) (x1 : Int32) (x2 : Int32) (x3 : Int32) (M : Mem), k4 a0 x1 x2 x3 M → J x 4 4 [(0, .ref (xd x a0)), (1, .int x1), (2, .int x2), (3, .int x3)] [] 0 0 M) (a0 : Nat) (x1 : Int32) (x2 : Int32) (x3 : Int32) (M : Mem) (h : B_Mo_products_4 k4 post a0 x1 x2 x3 M) : J x 4 4 [(0, .ref (xd x a0)), (1, .int x1), (2, .int x2), (3, .int x3)] [] 0 0 M := by
  unfold B_Mo_products_4 at h
  refine J_iload_n C 3 D_Mo_products_4 rfl rfl ?_
  refine J_sipush (v := 1331) C D_Mo_products_5 rfl ?_
  refine J_icmp_ge (tgt := 34) C D_Mo_products_8 (by decide) (fun c_8 => ?_) (fun c_8 => ?_)
  · have h := h.1 c_8
    refine J_iload_n C 2 D_Mo_products_34 rfl rfl ?_
    exact J_iret C Rt D_Mo_products_35 rfl h
  · have h := h.2 c_8
    refine J_iload_n C 2 D_Mo_products_11 rfl rfl ?_
    refine J_aload_n C 0 D_Mo_products_12 rfl rfl ?_
    refine J_iload_n C 1 D_Mo_products_13 rfl rfl ?_
    refine J_iload_n C 3 D_Mo_products_14 rfl rfl ?_
    obtain ⟨c_15, h⟩ := h
    refine J_callVi C ml_Mo_69 (S_Mo_get _ _ _ _ _ h) (by rw [hR]; decide) rfl c_15 rfl (Nat.le_of_ble_eq_true rfl) D_Mo_products_15 (fun r15 M15 h => ?_)
    refine J_if_eq (tgt := 25) C D_Mo_products_18 (by decide) (fun c_18 => ?_) (fun c_18 => ?_)
    · have h := h.1 c_18
      refine J_iconst (v := 0) C D_Mo_products_25 rfl ?_
      exact J_sub [0, 1, 3] rfl (Z_Mo_products_26 C hR Rt K4 _ _ _ _ _ _ h)
    · have h := h.2 c_18
      refine J_iconst (v := 1) C D_Mo_products_21 rfl ?_
      refine J_goto (tgt := 26) C D_Mo_products_22 (by decide) ?_
      exact J_sub [0, 1, 3] rfl (Z_Mo_products_26 C hR Rt K4 _ _ _ _ _ _ h)
def L_Mo_products_4 (post : Int32 → Mem → Prop) : Nat → Nat → Int32 → Int32 → Int32 → Mem → Prop
  | 0, _, _, _, _, _ => False
  | n + 1, a0, x1, x2, x3, M => B_Mo_products_4 (L_Mo_products_4 post n) post a0 x1 x2 x3 M
theorem Y_Mo_products_4 {x : Ctx} {post : Int32 → Mem → Prop} (C : Ok x b_Mo_products 4 "HeapTowerModel") (hR : xR x = rm_Mo_products) (Rt : RetI x .int post 0 0) : ∀ (n : Nat) (a0 : Nat) (x1 : Int32) (x2 : Int32) (x3 : Int32) (M : Mem), L_Mo_products_4 post n a0 x1 x2 x3 M → J x 4 4 [(0, .ref (xd x a0)), (1, .int x1), (2, .int x2), (3, .int x3)] [] 0 0 M := by
  intro n
  induction n with
  | zero => intro a0 x1 x2 x3 M h; exact h.elim
  | succ n ih => intro a0 x1 x2 x3 M h; exact Z_Mo_products_4 C hR Rt ih _ _ _ _ _ h
def T_Mo_products (a0 : Nat) (x1 : Int32) (M : Mem) (post : Int32 → Mem → Prop) : Prop := (∃ n, L_Mo_products_4 post n a0 x1 0 0 M)
set_option maxRecDepth 20000 in
theorem S_Mo_products {l : Launch} {D : va_G} {B t g : Nat} {d : Nat → Nat} {ac : Nat → ClassId}  (a0 : Nat) (x1 : Int32) (M : Mem) (post : Int32 → Mem → Prop) (h : T_Mo_products a0 x1 M post) : Met l y_Mo_products w_Mo_products rm_Mo_products (va_Pc [.ref (d a0), .int x1] (PRE D B d g t ac M)) (QI D B d g ac post) 0 0 (AB B) := by
  refine met_i (by decide +kernel) (Nat.le_of_ble_eq_true rfl) (fun x h1 hR h3 h4 h5 h6 h7 h8 C Rt => ?_)
  subst h3 h4 h5 h6 h7 h8
  unfold T_Mo_products at h
  show J x 4 0 [(0, .ref (xd x a0)), (1, .int x1)] [] 0 0 M
  refine J_iconst (v := 0) C D_Mo_products_0 rfl ?_
  refine J_istore_n (lv' := [(2, .int 0), (0, .ref (xd x a0)), (1, .int x1)]) C 2 D_Mo_products_1 rfl (by decide) rfl ?_
  refine J_iconst (v := 0) C D_Mo_products_2 rfl ?_
  refine J_istore_n (lv' := [(3, .int 0), (2, .int 0), (0, .ref (xd x a0)), (1, .int x1)]) C 3 D_Mo_products_3 rfl (by decide) rfl ?_
  obtain ⟨n, h⟩ := h
  exact J_sub [2, 3, 1, 0] rfl (Y_Mo_products_4 C hR Rt  n _ _ _ _ _ h)
theorem D_Mo_degree_0 : decode b_Mo_degree 0 = .ok (.iconst (-1), 1) := by decide +kernel
theorem D_Mo_degree_1 : decode b_Mo_degree 1 = .ok (.istore_n 2, 1) := by decide +kernel
theorem D_Mo_degree_2 : decode b_Mo_degree 2 = .ok (.iconst 0, 1) := by decide +kernel
theorem D_Mo_degree_3 : decode b_Mo_degree 3 = .ok (.istore_n 3, 1) := by decide +kernel
theorem D_Mo_degree_4 : decode b_Mo_degree 4 = .ok (.iload_n 3, 1) := by decide +kernel
theorem D_Mo_degree_5 : decode b_Mo_degree 5 = .ok (.sipush 1331, 3) := by decide +kernel
theorem D_Mo_degree_8 : decode b_Mo_degree 8 = .ok (.if_icmp .ge 31, 3) := by decide +kernel
theorem D_Mo_degree_11 : decode b_Mo_degree 11 = .ok (.aload_n 0, 1) := by decide +kernel
theorem D_Mo_degree_12 : decode b_Mo_degree 12 = .ok (.iload_n 1, 1) := by decide +kernel
theorem D_Mo_degree_13 : decode b_Mo_degree 13 = .ok (.iload_n 3, 1) := by decide +kernel
theorem D_Mo_degree_14 : decode b_Mo_degree 14 = .ok (.invokevirtual 69, 3) := by decide +kernel
theorem D_Mo_degree_17 : decode b_Mo_degree 17 = .ok (.ifCond .eq 16, 3) := by decide +kernel
theorem D_Mo_degree_20 : decode b_Mo_degree 20 = .ok (.iload_n 3, 1) := by decide +kernel
theorem D_Mo_degree_21 : decode b_Mo_degree 21 = .ok (.invokestatic 54, 3) := by decide +kernel
theorem D_Mo_degree_24 : decode b_Mo_degree 24 = .ok (.iload_n 2, 1) := by decide +kernel
theorem D_Mo_degree_25 : decode b_Mo_degree 25 = .ok (.if_icmp .le 8, 3) := by decide +kernel
theorem D_Mo_degree_28 : decode b_Mo_degree 28 = .ok (.iload_n 3, 1) := by decide +kernel
theorem D_Mo_degree_29 : decode b_Mo_degree 29 = .ok (.invokestatic 54, 3) := by decide +kernel
theorem D_Mo_degree_32 : decode b_Mo_degree 32 = .ok (.istore_n 2, 1) := by decide +kernel
theorem D_Mo_degree_33 : decode b_Mo_degree 33 = .ok (.iinc 3 1, 3) := by decide +kernel
theorem D_Mo_degree_36 : decode b_Mo_degree 36 = .ok (.goto (-32), 3) := by decide +kernel
theorem D_Mo_degree_39 : decode b_Mo_degree 39 = .ok (.iload_n 2, 1) := by decide +kernel
theorem D_Mo_degree_40 : decode b_Mo_degree 40 = .ok (.ireturn, 1) := by decide +kernel
abbrev rm_Mo_degree : Room := { frames := 1, cells := 0, slots := 0, locals := 22 }
def B_Mo_degree_33 (k4 : Nat → Int32 → Int32 → Int32 → Mem → Prop) (post : Int32 → Mem → Prop) (a0 : Nat) (x1 : Int32) (x2 : Int32) (x3 : Int32) (M : Mem) : Prop := (k4 a0 x1 x2 (x3 + 1) M)
set_option maxRecDepth 20000 in
theorem Z_Mo_degree_33 {x : Ctx} {post : Int32 → Mem → Prop} (C : Ok x b_Mo_degree 4 "HeapTowerModel") (hR : xR x = rm_Mo_degree) (Rt : RetI x .int post 0 0) {k4 : Nat → Int32 → Int32 → Int32 → Mem → Prop} (K4 : ∀ (a0 : Nat) (x1 : Int32) (x2 : Int32) (x3 : Int32) (M : Mem), k4 a0 x1 x2 x3 M → J x 4 4 [(0, .ref (xd x a0)), (1, .int x1), (2, .int x2), (3, .int x3)] [] 0 0 M) (a0 : Nat) (x1 : Int32) (x2 : Int32) (x3 : Int32) (M : Mem) (h : B_Mo_degree_33 k4 post a0 x1 x2 x3 M) : J x 4 33 [(0, .ref (xd x a0)), (1, .int x1), (2, .int x2), (3, .int x3)] [] 0 0 M := by
  unfold B_Mo_degree_33 at h
  refine J_iinc (v := x3 + 1) (lv' := [(3, .int (x3 + 1)), (0, .ref (xd x a0)), (1, .int x1), (2, .int x2)]) C 3 3 D_Mo_degree_33 rfl rfl (by decide) rfl ?_
  refine J_goto (tgt := 4) C D_Mo_degree_36 (by decide) ?_
  exact J_sub [1, 2, 3, 0] rfl (K4 _ _ _ _ _ h)
def B_Mo_degree_4 (k4 : Nat → Int32 → Int32 → Int32 → Mem → Prop) (post : Int32 → Mem → Prop) (a0 : Nat) (x1 : Int32) (x2 : Int32) (x3 : Int32) (M : Mem) : Prop := ((1331 ≤ x3 → (post x2 M)) ∧ (¬ 1331 ≤ x3 → (isK M a0 7 ∧ T_Mo_get a0 x1 x3 M (fun r14 M14 => (r14 = 0 → (B_Mo_degree_33 k4 post a0 x1 x2 x3 M14)) ∧ (¬ r14 = 0 → (T_Mo_degreeOf x3 M14 (fun r21 M21 => (r21 ≤ x2 → (B_Mo_degree_33 k4 post a0 x1 x2 x3 M21)) ∧ (¬ r21 ≤ x2 → (T_Mo_degreeOf x3 M21 (fun r29 M29 => B_Mo_degree_33 k4 post a0 x1 r29 x3 M29))))))))))
set_option maxRecDepth 20000 in
theorem Z_Mo_degree_4 {x : Ctx} {post : Int32 → Mem → Prop} (C : Ok x b_Mo_degree 4 "HeapTowerModel") (hR : xR x = rm_Mo_degree) (Rt : RetI x .int post 0 0) {k4 : Nat → Int32 → Int32 → Int32 → Mem → Prop} (K4 : ∀ (a0 : Nat) (x1 : Int32) (x2 : Int32) (x3 : Int32) (M : Mem), k4 a0 x1 x2 x3 M → J x 4 4 [(0, .ref (xd x a0)), (1, .int x1), (2, .int x2), (3, .int x3)] [] 0 0 M) (a0 : Nat) (x1 : Int32) (x2 : Int32) (x3 : Int32) (M : Mem) (h : B_Mo_degree_4 k4 post a0 x1 x2 x3 M) : J x 4 4 [(0, .ref (xd x a0)), (1, .int x1), (2, .int x2), (3, .int x3)] [] 0 0 M := by
  unfold B_Mo_degree_4 at h
  refine J_iload_n C 3 D_Mo_degree_4 rfl rfl ?_
  refine J_sipush (v := 1331) C D_Mo_degree_5 rfl ?_
  refine J_icmp_ge (tgt := 39) C D_Mo_degree_8 (by decide) (fun c_8 => ?_) (fun c_8 => ?_)
  · have h := h.1 c_8
    refine J_iload_n C 2 D_Mo_degree_39 rfl rfl ?_
    exact J_iret C Rt D_Mo_degree_40 rfl h
  · have h := h.2 c_8
    refine J_aload_n C 0 D_Mo_degree_11 rfl rfl ?_
    refine J_iload_n C 1 D_Mo_degree_12 rfl rfl ?_
    refine J_iload_n C 3 D_Mo_degree_13 rfl rfl ?_
    obtain ⟨c_14, h⟩ := h
    refine J_callVi C ml_Mo_69 (S_Mo_get _ _ _ _ _ h) (by rw [hR]; decide) rfl c_14 rfl (Nat.le_of_ble_eq_true rfl) D_Mo_degree_14 (fun r14 M14 h => ?_)
    refine J_if_eq (tgt := 33) C D_Mo_degree_17 (by decide) (fun c_17 => ?_) (fun c_17 => ?_)
    · have h := h.1 c_17
      exact J_sub [0, 1, 2, 3] rfl (Z_Mo_degree_33 C hR Rt K4 _ _ _ _ _ h)
    · have h := h.2 c_17
      refine J_iload_n C 3 D_Mo_degree_20 rfl rfl ?_
      refine J_callSi C ml_Mo_54 (S_Mo_degreeOf _ _ _ h) (by rw [hR]; decide) rfl rfl (Nat.le_of_ble_eq_true rfl) D_Mo_degree_21 (fun r21 M21 h => ?_)
      refine J_iload_n C 2 D_Mo_degree_24 rfl rfl ?_
      refine J_icmp_le (tgt := 33) C D_Mo_degree_25 (by decide) (fun c_25 => ?_) (fun c_25 => ?_)
      · have h := h.1 c_25
        exact J_sub [0, 1, 2, 3] rfl (Z_Mo_degree_33 C hR Rt K4 _ _ _ _ _ h)
      · have h := h.2 c_25
        refine J_iload_n C 3 D_Mo_degree_28 rfl rfl ?_
        refine J_callSi C ml_Mo_54 (S_Mo_degreeOf _ _ _ h) (by rw [hR]; decide) rfl rfl (Nat.le_of_ble_eq_true rfl) D_Mo_degree_29 (fun r29 M29 h => ?_)
        refine J_istore_n (lv' := [(2, .int r29), (0, .ref (xd x a0)), (1, .int x1), (3, .int x3)]) C 2 D_Mo_degree_32 rfl (by decide) rfl ?_
        exact J_sub [1, 2, 0, 3] rfl (Z_Mo_degree_33 C hR Rt K4 _ _ _ _ _ h)
def L_Mo_degree_4 (post : Int32 → Mem → Prop) : Nat → Nat → Int32 → Int32 → Int32 → Mem → Prop
  | 0, _, _, _, _, _ => False
  | n + 1, a0, x1, x2, x3, M => B_Mo_degree_4 (L_Mo_degree_4 post n) post a0 x1 x2 x3 M
theorem Y_Mo_degree_4 {x : Ctx} {post : Int32 → Mem → Prop} (C : Ok x b_Mo_degree 4 "HeapTowerModel") (hR : xR x = rm_Mo_degree) (Rt : RetI x .int post 0 0) : ∀ (n : Nat) (a0 : Nat) (x1 : Int32) (x2 : Int32) (x3 : Int32) (M : Mem), L_Mo_degree_4 post n a0 x1 x2 x3 M → J x 4 4 [(0, .ref (xd x a0)), (1, .int x1), (2, .int x2), (3, .int x3)] [] 0 0 M := by
  intro n
  induction n with
  | zero => intro a0 x1 x2 x3 M h; exact h.elim
  | succ n ih => intro a0 x1 x2 x3 M h; exact Z_Mo_degree_4 C hR Rt ih _ _ _ _ _ h
def T_Mo_degree (a0 : Nat) (x1 : Int32) (M : Mem) (post : Int32 → Mem → Prop) : Prop := (∃ n, L_Mo_degree_4 post n a0 x1 ((-1)) 0 M)
set_option maxRecDepth 20000 in
theorem S_Mo_degree {l : Launch} {D : va_G} {B t g : Nat} {d : Nat → Nat} {ac : Nat → ClassId}  (a0 : Nat) (x1 : Int32) (M : Mem) (post : Int32 → Mem → Prop) (h : T_Mo_degree a0 x1 M post) : Met l y_Mo_degree w_Mo_degree rm_Mo_degree (va_Pc [.ref (d a0), .int x1] (PRE D B d g t ac M)) (QI D B d g ac post) 0 0 (AB B) := by
  refine met_i (by decide +kernel) (Nat.le_of_ble_eq_true rfl) (fun x h1 hR h3 h4 h5 h6 h7 h8 C Rt => ?_)
  subst h3 h4 h5 h6 h7 h8
  unfold T_Mo_degree at h
  show J x 4 0 [(0, .ref (xd x a0)), (1, .int x1)] [] 0 0 M
  refine J_iconst (v := (-1)) C D_Mo_degree_0 rfl ?_
  refine J_istore_n (lv' := [(2, .int ((-1))), (0, .ref (xd x a0)), (1, .int x1)]) C 2 D_Mo_degree_1 rfl (by decide) rfl ?_
  refine J_iconst (v := 0) C D_Mo_degree_2 rfl ?_
  refine J_istore_n (lv' := [(3, .int 0), (2, .int ((-1))), (0, .ref (xd x a0)), (1, .int x1)]) C 3 D_Mo_degree_3 rfl (by decide) rfl ?_
  obtain ⟨n, h⟩ := h
  exact J_sub [2, 3, 1, 0] rfl (Y_Mo_degree_4 C hR Rt  n _ _ _ _ _ h)
theorem D_Mo_isEven_0 : decode b_Mo_isEven 0 = .ok (.aload_n 0, 1) := by decide +kernel
theorem D_Mo_isEven_1 : decode b_Mo_isEven 1 = .ok (.iload_n 1, 1) := by decide +kernel
theorem D_Mo_isEven_2 : decode b_Mo_isEven 2 = .ok (.invokevirtual 72, 3) := by decide +kernel
theorem D_Mo_isEven_5 : decode b_Mo_isEven 5 = .ok (.istore_n 2, 1) := by decide +kernel
theorem D_Mo_isEven_6 : decode b_Mo_isEven 6 = .ok (.iconst 0, 1) := by decide +kernel
theorem D_Mo_isEven_7 : decode b_Mo_isEven 7 = .ok (.istore_n 3, 1) := by decide +kernel
theorem D_Mo_isEven_8 : decode b_Mo_isEven 8 = .ok (.iload_n 3, 1) := by decide +kernel
theorem D_Mo_isEven_9 : decode b_Mo_isEven 9 = .ok (.sipush 1331, 3) := by decide +kernel
theorem D_Mo_isEven_12 : decode b_Mo_isEven 12 = .ok (.if_icmp .ge 28, 3) := by decide +kernel
theorem D_Mo_isEven_15 : decode b_Mo_isEven 15 = .ok (.aload_n 0, 1) := by decide +kernel
theorem D_Mo_isEven_16 : decode b_Mo_isEven 16 = .ok (.iload_n 1, 1) := by decide +kernel
theorem D_Mo_isEven_17 : decode b_Mo_isEven 17 = .ok (.iload_n 3, 1) := by decide +kernel
theorem D_Mo_isEven_18 : decode b_Mo_isEven 18 = .ok (.invokevirtual 69, 3) := by decide +kernel
theorem D_Mo_isEven_21 : decode b_Mo_isEven 21 = .ok (.ifCond .eq 13, 3) := by decide +kernel
theorem D_Mo_isEven_24 : decode b_Mo_isEven 24 = .ok (.iload_n 3, 1) := by decide +kernel
theorem D_Mo_isEven_25 : decode b_Mo_isEven 25 = .ok (.invokestatic 54, 3) := by decide +kernel
theorem D_Mo_isEven_28 : decode b_Mo_isEven 28 = .ok (.iload_n 2, 1) := by decide +kernel
theorem D_Mo_isEven_29 : decode b_Mo_isEven 29 = .ok (.if_icmp .eq 5, 3) := by decide +kernel
theorem D_Mo_isEven_32 : decode b_Mo_isEven 32 = .ok (.iconst 0, 1) := by decide +kernel
theorem D_Mo_isEven_33 : decode b_Mo_isEven 33 = .ok (.ireturn, 1) := by decide +kernel
theorem D_Mo_isEven_34 : decode b_Mo_isEven 34 = .ok (.iinc 3 1, 3) := by decide +kernel
theorem D_Mo_isEven_37 : decode b_Mo_isEven 37 = .ok (.goto (-29), 3) := by decide +kernel
theorem D_Mo_isEven_40 : decode b_Mo_isEven 40 = .ok (.iconst 1, 1) := by decide +kernel
theorem D_Mo_isEven_41 : decode b_Mo_isEven 41 = .ok (.ireturn, 1) := by decide +kernel
abbrev rm_Mo_isEven : Room := { frames := 2, cells := 0, slots := 0, locals := 45 }
def B_Mo_isEven_34 (k8 : Nat → Int32 → Int32 → Int32 → Mem → Prop) (post : Int32 → Mem → Prop) (a0 : Nat) (x1 : Int32) (x2 : Int32) (x3 : Int32) (M : Mem) : Prop := (k8 a0 x1 x2 (x3 + 1) M)
set_option maxRecDepth 20000 in
theorem Z_Mo_isEven_34 {x : Ctx} {post : Int32 → Mem → Prop} (C : Ok x b_Mo_isEven 4 "HeapTowerModel") (hR : xR x = rm_Mo_isEven) (Rt : RetI x .boolean post 0 0) {k8 : Nat → Int32 → Int32 → Int32 → Mem → Prop} (K8 : ∀ (a0 : Nat) (x1 : Int32) (x2 : Int32) (x3 : Int32) (M : Mem), k8 a0 x1 x2 x3 M → J x 4 8 [(0, .ref (xd x a0)), (1, .int x1), (2, .int x2), (3, .int x3)] [] 0 0 M) (a0 : Nat) (x1 : Int32) (x2 : Int32) (x3 : Int32) (M : Mem) (h : B_Mo_isEven_34 k8 post a0 x1 x2 x3 M) : J x 4 34 [(0, .ref (xd x a0)), (1, .int x1), (2, .int x2), (3, .int x3)] [] 0 0 M := by
  unfold B_Mo_isEven_34 at h
  refine J_iinc (v := x3 + 1) (lv' := [(3, .int (x3 + 1)), (0, .ref (xd x a0)), (1, .int x1), (2, .int x2)]) C 3 3 D_Mo_isEven_34 rfl rfl (by decide) rfl ?_
  refine J_goto (tgt := 8) C D_Mo_isEven_37 (by decide) ?_
  exact J_sub [1, 2, 3, 0] rfl (K8 _ _ _ _ _ h)
def B_Mo_isEven_8 (k8 : Nat → Int32 → Int32 → Int32 → Mem → Prop) (post : Int32 → Mem → Prop) (a0 : Nat) (x1 : Int32) (x2 : Int32) (x3 : Int32) (M : Mem) : Prop := ((1331 ≤ x3 → (narrow .boolean (.int 1) = .int 1 ∧ post 1 M)) ∧ (¬ 1331 ≤ x3 → (isK M a0 7 ∧ T_Mo_get a0 x1 x3 M (fun r18 M18 => (r18 = 0 → (B_Mo_isEven_34 k8 post a0 x1 x2 x3 M18)) ∧ (¬ r18 = 0 → (T_Mo_degreeOf x3 M18 (fun r25 M25 => (r25 = x2 → (B_Mo_isEven_34 k8 post a0 x1 x2 x3 M25)) ∧ (¬ r25 = x2 → (narrow .boolean (.int 0) = .int 0 ∧ post 0 M25)))))))))
set_option maxRecDepth 20000 in
theorem Z_Mo_isEven_8 {x : Ctx} {post : Int32 → Mem → Prop} (C : Ok x b_Mo_isEven 4 "HeapTowerModel") (hR : xR x = rm_Mo_isEven) (Rt : RetI x .boolean post 0 0) {k8 : Nat → Int32 → Int32 → Int32 → Mem → Prop} (K8 : ∀ (a0 : Nat) (x1 : Int32) (x2 : Int32) (x3 : Int32) (M : Mem), k8 a0 x1 x2 x3 M → J x 4 8 [(0, .ref (xd x a0)), (1, .int x1), (2, .int x2), (3, .int x3)] [] 0 0 M) (a0 : Nat) (x1 : Int32) (x2 : Int32) (x3 : Int32) (M : Mem) (h : B_Mo_isEven_8 k8 post a0 x1 x2 x3 M) : J x 4 8 [(0, .ref (xd x a0)), (1, .int x1), (2, .int x2), (3, .int x3)] [] 0 0 M := by
  unfold B_Mo_isEven_8 at h
  refine J_iload_n C 3 D_Mo_isEven_8 rfl rfl ?_
  refine J_sipush (v := 1331) C D_Mo_isEven_9 rfl ?_
  refine J_icmp_ge (tgt := 40) C D_Mo_isEven_12 (by decide) (fun c_12 => ?_) (fun c_12 => ?_)
  · have h := h.1 c_12
    refine J_iconst (v := 1) C D_Mo_isEven_40 rfl ?_
    obtain ⟨c_41, h⟩ := h
    exact J_iret C Rt D_Mo_isEven_41 c_41 h
  · have h := h.2 c_12
    refine J_aload_n C 0 D_Mo_isEven_15 rfl rfl ?_
    refine J_iload_n C 1 D_Mo_isEven_16 rfl rfl ?_
    refine J_iload_n C 3 D_Mo_isEven_17 rfl rfl ?_
    obtain ⟨c_18, h⟩ := h
    refine J_callVi C ml_Mo_69 (S_Mo_get _ _ _ _ _ h) (by rw [hR]; decide) rfl c_18 rfl (Nat.le_of_ble_eq_true rfl) D_Mo_isEven_18 (fun r18 M18 h => ?_)
    refine J_if_eq (tgt := 34) C D_Mo_isEven_21 (by decide) (fun c_21 => ?_) (fun c_21 => ?_)
    · have h := h.1 c_21
      exact J_sub [0, 1, 2, 3] rfl (Z_Mo_isEven_34 C hR Rt K8 _ _ _ _ _ h)
    · have h := h.2 c_21
      refine J_iload_n C 3 D_Mo_isEven_24 rfl rfl ?_
      refine J_callSi C ml_Mo_54 (S_Mo_degreeOf _ _ _ h) (by rw [hR]; decide) rfl rfl (Nat.le_of_ble_eq_true rfl) D_Mo_isEven_25 (fun r25 M25 h => ?_)
      refine J_iload_n C 2 D_Mo_isEven_28 rfl rfl ?_
      refine J_icmp_eq (tgt := 34) C D_Mo_isEven_29 (by decide) (fun c_29 => ?_) (fun c_29 => ?_)
      · have h := h.1 c_29
        exact J_sub [0, 1, 2, 3] rfl (Z_Mo_isEven_34 C hR Rt K8 _ _ _ _ _ h)
      · have h := h.2 c_29
        refine J_iconst (v := 0) C D_Mo_isEven_32 rfl ?_
        obtain ⟨c_33, h⟩ := h
        exact J_iret C Rt D_Mo_isEven_33 c_33 h
def L_Mo_isEven_8 (post : Int32 → Mem → Prop) : Nat → Nat → Int32 → Int32 → Int32 → Mem → Prop
  | 0, _, _, _, _, _ => False
  | n + 1, a0, x1, x2, x3, M => B_Mo_isEven_8 (L_Mo_isEven_8 post n) post a0 x1 x2 x3 M
theorem Y_Mo_isEven_8 {x : Ctx} {post : Int32 → Mem → Prop} (C : Ok x b_Mo_isEven 4 "HeapTowerModel") (hR : xR x = rm_Mo_isEven) (Rt : RetI x .boolean post 0 0) : ∀ (n : Nat) (a0 : Nat) (x1 : Int32) (x2 : Int32) (x3 : Int32) (M : Mem), L_Mo_isEven_8 post n a0 x1 x2 x3 M → J x 4 8 [(0, .ref (xd x a0)), (1, .int x1), (2, .int x2), (3, .int x3)] [] 0 0 M := by
  intro n
  induction n with
  | zero => intro a0 x1 x2 x3 M h; exact h.elim
  | succ n ih => intro a0 x1 x2 x3 M h; exact Z_Mo_isEven_8 C hR Rt ih _ _ _ _ _ h
def T_Mo_isEven (a0 : Nat) (x1 : Int32) (M : Mem) (post : Int32 → Mem → Prop) : Prop := (isK M a0 7 ∧ T_Mo_degree a0 x1 M (fun r2 M2 => ∃ n, L_Mo_isEven_8 post n a0 x1 r2 0 M2))
set_option maxRecDepth 20000 in
theorem S_Mo_isEven {l : Launch} {D : va_G} {B t g : Nat} {d : Nat → Nat} {ac : Nat → ClassId}  (a0 : Nat) (x1 : Int32) (M : Mem) (post : Int32 → Mem → Prop) (h : T_Mo_isEven a0 x1 M post) : Met l y_Mo_isEven w_Mo_isEven rm_Mo_isEven (va_Pc [.ref (d a0), .int x1] (PRE D B d g t ac M)) (QI D B d g ac post) 0 0 (AB B) := by
  refine met_i (by decide +kernel) (Nat.le_of_ble_eq_true rfl) (fun x h1 hR h3 h4 h5 h6 h7 h8 C Rt => ?_)
  subst h3 h4 h5 h6 h7 h8
  unfold T_Mo_isEven at h
  show J x 4 0 [(0, .ref (xd x a0)), (1, .int x1)] [] 0 0 M
  refine J_aload_n C 0 D_Mo_isEven_0 rfl rfl ?_
  refine J_iload_n C 1 D_Mo_isEven_1 rfl rfl ?_
  obtain ⟨c_2, h⟩ := h
  refine J_callVi C ml_Mo_72 (S_Mo_degree _ _ _ _ h) (by rw [hR]; decide) rfl c_2 rfl (Nat.le_of_ble_eq_true rfl) D_Mo_isEven_2 (fun r2 M2 h => ?_)
  refine J_istore_n (lv' := [(2, .int r2), (0, .ref (xd x a0)), (1, .int x1)]) C 2 D_Mo_isEven_5 rfl (by decide) rfl ?_
  refine J_iconst (v := 0) C D_Mo_isEven_6 rfl ?_
  refine J_istore_n (lv' := [(3, .int 0), (2, .int r2), (0, .ref (xd x a0)), (1, .int x1)]) C 3 D_Mo_isEven_7 rfl (by decide) rfl ?_
  obtain ⟨n, h⟩ := h
  exact J_sub [2, 3, 1, 0] rfl (Y_Mo_isEven_8 C hR Rt  n _ _ _ _ _ h)
theorem D_Mo_move_0 : decode b_Mo_move 0 = .ok (.iconst 0, 1) := by decide +kernel
theorem D_Mo_move_1 : decode b_Mo_move 1 = .ok (.istore_n 3, 1) := by decide +kernel
theorem D_Mo_move_2 : decode b_Mo_move 2 = .ok (.iload_n 3, 1) := by decide +kernel
theorem D_Mo_move_3 : decode b_Mo_move 3 = .ok (.sipush 1331, 3) := by decide +kernel
theorem D_Mo_move_6 : decode b_Mo_move 6 = .ok (.if_icmp .ge 21, 3) := by decide +kernel
theorem D_Mo_move_9 : decode b_Mo_move 9 = .ok (.aload_n 0, 1) := by decide +kernel
theorem D_Mo_move_10 : decode b_Mo_move 10 = .ok (.iload_n 2, 1) := by decide +kernel
theorem D_Mo_move_11 : decode b_Mo_move 11 = .ok (.iload_n 3, 1) := by decide +kernel
theorem D_Mo_move_12 : decode b_Mo_move 12 = .ok (.aload_n 0, 1) := by decide +kernel
theorem D_Mo_move_13 : decode b_Mo_move 13 = .ok (.iload_n 1, 1) := by decide +kernel
theorem D_Mo_move_14 : decode b_Mo_move 14 = .ok (.iload_n 3, 1) := by decide +kernel
theorem D_Mo_move_15 : decode b_Mo_move 15 = .ok (.invokevirtual 69, 3) := by decide +kernel
theorem D_Mo_move_18 : decode b_Mo_move 18 = .ok (.invokevirtual 65, 3) := by decide +kernel
theorem D_Mo_move_21 : decode b_Mo_move 21 = .ok (.iinc 3 1, 3) := by decide +kernel
theorem D_Mo_move_24 : decode b_Mo_move 24 = .ok (.goto (-22), 3) := by decide +kernel
theorem D_Mo_move_27 : decode b_Mo_move 27 = .ok (.return_, 1) := by decide +kernel
abbrev rm_Mo_move : Room := { frames := 1, cells := 0, slots := 0, locals := 23 }
def B_Mo_move_2 (k2 : Nat → Int32 → Int32 → Int32 → Mem → Prop) (post : Mem → Prop) (a0 : Nat) (x1 : Int32) (x2 : Int32) (x3 : Int32) (M : Mem) : Prop := ((1331 ≤ x3 → (post M)) ∧ (¬ 1331 ≤ x3 → (isK M a0 7 ∧ T_Mo_get a0 x1 x3 M (fun r15 M15 => isK M15 a0 7 ∧ T_Mo_put a0 x2 x3 r15 M15 (fun M18 => k2 a0 x1 x2 (x3 + 1) M18)))))
set_option maxRecDepth 20000 in
theorem Z_Mo_move_2 {x : Ctx} {post : Mem → Prop} (C : Ok x b_Mo_move 4 "HeapTowerModel") (hR : xR x = rm_Mo_move) (Rt : RetV x post 0 0) {k2 : Nat → Int32 → Int32 → Int32 → Mem → Prop} (K2 : ∀ (a0 : Nat) (x1 : Int32) (x2 : Int32) (x3 : Int32) (M : Mem), k2 a0 x1 x2 x3 M → J x 4 2 [(0, .ref (xd x a0)), (1, .int x1), (2, .int x2), (3, .int x3)] [] 0 0 M) (a0 : Nat) (x1 : Int32) (x2 : Int32) (x3 : Int32) (M : Mem) (h : B_Mo_move_2 k2 post a0 x1 x2 x3 M) : J x 4 2 [(0, .ref (xd x a0)), (1, .int x1), (2, .int x2), (3, .int x3)] [] 0 0 M := by
  unfold B_Mo_move_2 at h
  refine J_iload_n C 3 D_Mo_move_2 rfl rfl ?_
  refine J_sipush (v := 1331) C D_Mo_move_3 rfl ?_
  refine J_icmp_ge (tgt := 27) C D_Mo_move_6 (by decide) (fun c_6 => ?_) (fun c_6 => ?_)
  · have h := h.1 c_6
    exact J_vret C Rt D_Mo_move_27 h
  · have h := h.2 c_6
    refine J_aload_n C 0 D_Mo_move_9 rfl rfl ?_
    refine J_iload_n C 2 D_Mo_move_10 rfl rfl ?_
    refine J_iload_n C 3 D_Mo_move_11 rfl rfl ?_
    refine J_aload_n C 0 D_Mo_move_12 rfl rfl ?_
    refine J_iload_n C 1 D_Mo_move_13 rfl rfl ?_
    refine J_iload_n C 3 D_Mo_move_14 rfl rfl ?_
    obtain ⟨c_15, h⟩ := h
    refine J_callVi C ml_Mo_69 (S_Mo_get _ _ _ _ _ h) (by rw [hR]; decide) rfl c_15 rfl (Nat.le_of_ble_eq_true rfl) D_Mo_move_15 (fun r15 M15 h => ?_)
    obtain ⟨c_18, h⟩ := h
    refine J_callVv C ml_Mo_65 (S_Mo_put _ _ _ _ _ _ h) (by rw [hR]; decide) rfl c_18 rfl (Nat.le_of_ble_eq_true rfl) D_Mo_move_18 (fun M18 h => ?_)
    refine J_iinc (v := x3 + 1) (lv' := [(3, .int (x3 + 1)), (0, .ref (xd x a0)), (1, .int x1), (2, .int x2)]) C 3 3 D_Mo_move_21 rfl rfl (by decide) rfl ?_
    refine J_goto (tgt := 2) C D_Mo_move_24 (by decide) ?_
    exact J_sub [1, 2, 3, 0] rfl (K2 _ _ _ _ _ h)
def L_Mo_move_2 (post : Mem → Prop) : Nat → Nat → Int32 → Int32 → Int32 → Mem → Prop
  | 0, _, _, _, _, _ => False
  | n + 1, a0, x1, x2, x3, M => B_Mo_move_2 (L_Mo_move_2 post n) post a0 x1 x2 x3 M
theorem Y_Mo_move_2 {x : Ctx} {post : Mem → Prop} (C : Ok x b_Mo_move 4 "HeapTowerModel") (hR : xR x = rm_Mo_move) (Rt : RetV x post 0 0) : ∀ (n : Nat) (a0 : Nat) (x1 : Int32) (x2 : Int32) (x3 : Int32) (M : Mem), L_Mo_move_2 post n a0 x1 x2 x3 M → J x 4 2 [(0, .ref (xd x a0)), (1, .int x1), (2, .int x2), (3, .int x3)] [] 0 0 M := by
  intro n
  induction n with
  | zero => intro a0 x1 x2 x3 M h; exact h.elim
  | succ n ih => intro a0 x1 x2 x3 M h; exact Z_Mo_move_2 C hR Rt ih _ _ _ _ _ h
def T_Mo_move (a0 : Nat) (x1 : Int32) (x2 : Int32) (M : Mem) (post : Mem → Prop) : Prop := (∃ n, L_Mo_move_2 post n a0 x1 x2 0 M)
set_option maxRecDepth 20000 in
theorem S_Mo_move {l : Launch} {D : va_G} {B t g : Nat} {d : Nat → Nat} {ac : Nat → ClassId}  (a0 : Nat) (x1 : Int32) (x2 : Int32) (M : Mem) (post : Mem → Prop) (h : T_Mo_move a0 x1 x2 M post) : Met l y_Mo_move w_Mo_move rm_Mo_move (va_Pc [.ref (d a0), .int x1, .int x2] (PRE D B d g t ac M)) (QV D B d g ac post) 0 0 (AB B) := by
  refine met_v (by decide +kernel) (Nat.le_of_ble_eq_true rfl) (fun x h1 hR h3 h4 h5 h6 h7 h8 C Rt Nm => ?_)
  subst h3 h4 h5 h6 h7 h8
  unfold T_Mo_move at h
  show J x 4 0 [(0, .ref (xd x a0)), (1, .int x1), (2, .int x2)] [] 0 0 M
  refine J_iconst (v := 0) C D_Mo_move_0 rfl ?_
  refine J_istore_n (lv' := [(3, .int 0), (0, .ref (xd x a0)), (1, .int x1), (2, .int x2)]) C 3 D_Mo_move_1 rfl (by decide) rfl ?_
  obtain ⟨n, h⟩ := h
  exact J_sub [1, 2, 3, 0] rfl (Y_Mo_move_2 C hR Rt  n _ _ _ _ _ h)
theorem D_Mo_isPrime_0 : decode b_Mo_isPrime 0 = .ok (.iconst 2, 1) := by decide +kernel
theorem D_Mo_isPrime_1 : decode b_Mo_isPrime 1 = .ok (.istore_n 1, 1) := by decide +kernel
theorem D_Mo_isPrime_2 : decode b_Mo_isPrime 2 = .ok (.iload_n 1, 1) := by decide +kernel
theorem D_Mo_isPrime_3 : decode b_Mo_isPrime 3 = .ok (.iload_n 1, 1) := by decide +kernel
theorem D_Mo_isPrime_4 : decode b_Mo_isPrime 4 = .ok (.imul, 1) := by decide +kernel
theorem D_Mo_isPrime_5 : decode b_Mo_isPrime 5 = .ok (.iload_n 0, 1) := by decide +kernel
theorem D_Mo_isPrime_6 : decode b_Mo_isPrime 6 = .ok (.if_icmp .gt 17, 3) := by decide +kernel
theorem D_Mo_isPrime_9 : decode b_Mo_isPrime 9 = .ok (.iload_n 0, 1) := by decide +kernel
theorem D_Mo_isPrime_10 : decode b_Mo_isPrime 10 = .ok (.iload_n 1, 1) := by decide +kernel
theorem D_Mo_isPrime_11 : decode b_Mo_isPrime 11 = .ok (.irem, 1) := by decide +kernel
theorem D_Mo_isPrime_12 : decode b_Mo_isPrime 12 = .ok (.ifCond .ne 5, 3) := by decide +kernel
theorem D_Mo_isPrime_15 : decode b_Mo_isPrime 15 = .ok (.iconst 0, 1) := by decide +kernel
theorem D_Mo_isPrime_16 : decode b_Mo_isPrime 16 = .ok (.ireturn, 1) := by decide +kernel
theorem D_Mo_isPrime_17 : decode b_Mo_isPrime 17 = .ok (.iinc 1 1, 3) := by decide +kernel
theorem D_Mo_isPrime_20 : decode b_Mo_isPrime 20 = .ok (.goto (-18), 3) := by decide +kernel
theorem D_Mo_isPrime_23 : decode b_Mo_isPrime 23 = .ok (.iload_n 0, 1) := by decide +kernel
theorem D_Mo_isPrime_24 : decode b_Mo_isPrime 24 = .ok (.iconst 1, 1) := by decide +kernel
theorem D_Mo_isPrime_25 : decode b_Mo_isPrime 25 = .ok (.if_icmp .le 7, 3) := by decide +kernel
theorem D_Mo_isPrime_28 : decode b_Mo_isPrime 28 = .ok (.iconst 1, 1) := by decide +kernel
theorem D_Mo_isPrime_29 : decode b_Mo_isPrime 29 = .ok (.goto 4, 3) := by decide +kernel
theorem D_Mo_isPrime_32 : decode b_Mo_isPrime 32 = .ok (.iconst 0, 1) := by decide +kernel
theorem D_Mo_isPrime_33 : decode b_Mo_isPrime 33 = .ok (.ireturn, 1) := by decide +kernel
abbrev rm_Mo_isPrime : Room := { frames := 0, cells := 0, slots := 0, locals := 0 }
def B_Mo_isPrime_33 (post : Int32 → Mem → Prop) (s0 : Int32) (M : Mem) : Prop := (narrow .boolean (.int s0) = .int s0 ∧ post s0 M)
set_option maxRecDepth 20000 in
theorem Z_Mo_isPrime_33 {x : Ctx} {post : Int32 → Mem → Prop} (C : Ok x b_Mo_isPrime 2 "HeapTowerModel") (hR : xR x = rm_Mo_isPrime) (Rt : RetI x .boolean post 0 0) (s0 : Int32) (M : Mem) (h : B_Mo_isPrime_33 post s0 M) : J x 2 33 [] [.int s0] 0 0 M := by
  unfold B_Mo_isPrime_33 at h
  obtain ⟨c_33, h⟩ := h
  exact J_iret C Rt D_Mo_isPrime_33 c_33 h
def B_Mo_isPrime_2 (k2 : Int32 → Int32 → Mem → Prop) (post : Int32 → Mem → Prop) (x0 : Int32) (x1 : Int32) (M : Mem) : Prop := ((x0 < (x1 * x1) → ((x0 ≤ 1 → (B_Mo_isPrime_33 post 0 M)) ∧ (¬ x0 ≤ 1 → (B_Mo_isPrime_33 post 1 M)))) ∧ (¬ x0 < (x1 * x1) → (¬ (x1 : Int32) = 0 ∧ (¬ (x0 - x0 / x1 * x1) = 0 → (k2 x0 (x1 + 1) M)) ∧ ((x0 - x0 / x1 * x1) = 0 → (narrow .boolean (.int 0) = .int 0 ∧ post 0 M)))))
set_option maxRecDepth 20000 in
theorem Z_Mo_isPrime_2 {x : Ctx} {post : Int32 → Mem → Prop} (C : Ok x b_Mo_isPrime 2 "HeapTowerModel") (hR : xR x = rm_Mo_isPrime) (Rt : RetI x .boolean post 0 0) {k2 : Int32 → Int32 → Mem → Prop} (K2 : ∀ (x0 : Int32) (x1 : Int32) (M : Mem), k2 x0 x1 M → J x 2 2 [(0, .int x0), (1, .int x1)] [] 0 0 M) (x0 : Int32) (x1 : Int32) (M : Mem) (h : B_Mo_isPrime_2 k2 post x0 x1 M) : J x 2 2 [(0, .int x0), (1, .int x1)] [] 0 0 M := by
  unfold B_Mo_isPrime_2 at h
  refine J_iload_n C 1 D_Mo_isPrime_2 rfl rfl ?_
  refine J_iload_n C 1 D_Mo_isPrime_3 rfl rfl ?_
  refine J_imul C D_Mo_isPrime_4 ?_
  refine J_iload_n C 0 D_Mo_isPrime_5 rfl rfl ?_
  refine J_icmp_gt (tgt := 23) C D_Mo_isPrime_6 (by decide) (fun c_6 => ?_) (fun c_6 => ?_)
  · have h := h.1 c_6
    refine J_iload_n C 0 D_Mo_isPrime_23 rfl rfl ?_
    refine J_iconst (v := 1) C D_Mo_isPrime_24 rfl ?_
    refine J_icmp_le (tgt := 32) C D_Mo_isPrime_25 (by decide) (fun c_25 => ?_) (fun c_25 => ?_)
    · have h := h.1 c_25
      refine J_iconst (v := 0) C D_Mo_isPrime_32 rfl ?_
      exact J_sub [] rfl (Z_Mo_isPrime_33 C hR Rt  _ _ h)
    · have h := h.2 c_25
      refine J_iconst (v := 1) C D_Mo_isPrime_28 rfl ?_
      refine J_goto (tgt := 33) C D_Mo_isPrime_29 (by decide) ?_
      exact J_sub [] rfl (Z_Mo_isPrime_33 C hR Rt  _ _ h)
  · have h := h.2 c_6
    refine J_iload_n C 0 D_Mo_isPrime_9 rfl rfl ?_
    refine J_iload_n C 1 D_Mo_isPrime_10 rfl rfl ?_
    obtain ⟨c_11, h⟩ := h
    refine J_irem C D_Mo_isPrime_11 c_11 ?_
    refine J_if_ne (tgt := 17) C D_Mo_isPrime_12 (by decide) (fun c_12 => ?_) (fun c_12 => ?_)
    · have h := h.1 c_12
      refine J_iinc (v := x1 + 1) (lv' := [(1, .int (x1 + 1)), (0, .int x0)]) C 1 1 D_Mo_isPrime_17 rfl rfl (by decide) rfl ?_
      refine J_goto (tgt := 2) C D_Mo_isPrime_20 (by decide) ?_
      exact J_sub [1, 0] rfl (K2 _ _ _ h)
    · have h := h.2 c_12
      refine J_iconst (v := 0) C D_Mo_isPrime_15 rfl ?_
      obtain ⟨c_16, h⟩ := h
      exact J_iret C Rt D_Mo_isPrime_16 c_16 h
def L_Mo_isPrime_2 (post : Int32 → Mem → Prop) : Nat → Int32 → Int32 → Mem → Prop
  | 0, _, _, _ => False
  | n + 1, x0, x1, M => B_Mo_isPrime_2 (L_Mo_isPrime_2 post n) post x0 x1 M
theorem Y_Mo_isPrime_2 {x : Ctx} {post : Int32 → Mem → Prop} (C : Ok x b_Mo_isPrime 2 "HeapTowerModel") (hR : xR x = rm_Mo_isPrime) (Rt : RetI x .boolean post 0 0) : ∀ (n : Nat) (x0 : Int32) (x1 : Int32) (M : Mem), L_Mo_isPrime_2 post n x0 x1 M → J x 2 2 [(0, .int x0), (1, .int x1)] [] 0 0 M := by
  intro n
  induction n with
  | zero => intro x0 x1 M h; exact h.elim
  | succ n ih => intro x0 x1 M h; exact Z_Mo_isPrime_2 C hR Rt ih _ _ _ h
def T_Mo_isPrime (x0 : Int32) (M : Mem) (post : Int32 → Mem → Prop) : Prop := (∃ n, L_Mo_isPrime_2 post n x0 2 M)
set_option maxRecDepth 20000 in
theorem S_Mo_isPrime {l : Launch} {D : va_G} {B t g : Nat} {d : Nat → Nat} {ac : Nat → ClassId}  (x0 : Int32) (M : Mem) (post : Int32 → Mem → Prop) (h : T_Mo_isPrime x0 M post) : Met l y_Mo_isPrime w_Mo_isPrime rm_Mo_isPrime (va_Pc [.int x0] (PRE D B d g t ac M)) (QI D B d g ac post) 0 0 (AB B) := by
  refine met_i (by decide +kernel) (Nat.le_of_ble_eq_true rfl) (fun x h1 hR h3 h4 h5 h6 h7 h8 C Rt => ?_)
  subst h3 h4 h5 h6 h7 h8
  unfold T_Mo_isPrime at h
  show J x 2 0 [(0, .int x0)] [] 0 0 M
  refine J_iconst (v := 2) C D_Mo_isPrime_0 rfl ?_
  refine J_istore_n (lv' := [(1, .int 2), (0, .int x0)]) C 1 D_Mo_isPrime_1 rfl (by decide) rfl ?_
  obtain ⟨n, h⟩ := h
  exact J_sub [1, 0] rfl (Y_Mo_isPrime_2 C hR Rt  n _ _ _ h)
