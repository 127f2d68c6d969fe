theorem fl_He_9 : Fld "HeapTower$Heap" 9 1 2 false true := ⟨R_He, F_He, 5, t_He, iw_He, rfl, by decide, rfl, rfl, by decide, rfl, (gw_in (List.mem_of_getElem? (i := 252) (by decide +kernel)) (by decide +kernel)), t_He_ok, n_He, rfl, (fun h => by cases h), fun _ => Or.inr ⟨_, rfl⟩⟩
theorem fl_He_17 : Fld "HeapTower$Heap" 17 1 3 false true := ⟨R_He, F_He, 5, t_He, iw_He, rfl, by decide, rfl, rfl, by decide, rfl, (gw_in (List.mem_of_getElem? (i := 253) (by decide +kernel)) (by decide +kernel)), t_He_ok, n_He, rfl, (fun h => by cases h), fun _ => Or.inr ⟨_, rfl⟩⟩
theorem fl_He_20 : Fld "HeapTower$Heap" 20 1 0 false true := ⟨R_He, F_He, 5, t_He, iw_He, rfl, by decide, rfl, rfl, by decide, rfl, (gw_in (List.mem_of_getElem? (i := 250) (by decide +kernel)) (by decide +kernel)), t_He_ok, n_He, rfl, (fun h => by cases h), fun _ => Or.inl ⟨_, rfl⟩⟩
theorem fl_He_24 : Fld "HeapTower$Heap" 24 1 1 false true := ⟨R_He, F_He, 5, t_He, iw_He, rfl, by decide, rfl, rfl, by decide, rfl, (gw_in (List.mem_of_getElem? (i := 251) (by decide +kernel)) (by decide +kernel)), t_He_ok, n_He, rfl, (fun h => by cases h), fun _ => Or.inr ⟨_, rfl⟩⟩
theorem fl_He_27 : Fld "HeapTower$Heap" 27 1 4 true false := ⟨R_He, F_He, 5, t_He, iw_He, rfl, by decide, rfl, rfl, by decide, rfl, (gw_in (List.mem_of_getElem? (i := 254) (by decide +kernel)) (by decide +kernel)), t_He_ok, n_He, rfl, fun _ => rfl, (fun h => by cases h)⟩
theorem ml_He_31 : MLV "HeapTower$Heap" 31 y_He_forgetBase b_He_forgetBase 1 none 0 1 := ⟨List.forall_mem_cons.mpr ⟨(gw_in (List.mem_of_getElem? (i := 321) (by decide +kernel)) (by decide +kernel)), List.forall_mem_cons.mpr ⟨(gw_in (List.mem_of_getElem? (i := 322) (by decide +kernel)) (by decide +kernel)), List.forall_mem_cons.mpr ⟨(gw_in (List.mem_of_getElem? (i := 323) (by decide +kernel)) (by decide +kernel)), List.forall_mem_cons.mpr ⟨(gw_in (List.mem_of_getElem? (i := 73) (by decide +kernel)) (by decide +kernel)), List.forall_mem_cons.mpr ⟨(gw_in (List.mem_of_getElem? (i := 324) (by decide +kernel)) (by decide +kernel)), fun _ h => absurd h List.not_mem_nil⟩⟩⟩⟩⟩, by decide, F_He, 5, rfl, by decide⟩
theorem ml_He_34 : MLV "HeapTower$Heap" 34 y_Ba_forget b_Ba_forget 2 none 1 0 := ⟨List.forall_mem_cons.mpr ⟨(gw_in (List.mem_of_getElem? (i := 325) (by decide +kernel)) (by decide +kernel)), List.forall_mem_cons.mpr ⟨(gw_in (List.mem_of_getElem? (i := 326) (by decide +kernel)) (by decide +kernel)), List.forall_mem_cons.mpr ⟨(gw_in (List.mem_of_getElem? (i := 327) (by decide +kernel)) (by decide +kernel)), List.forall_mem_cons.mpr ⟨(gw_in (List.mem_of_getElem? (i := 72) (by decide +kernel)) (by decide +kernel)), List.forall_mem_cons.mpr ⟨(gw_in (List.mem_of_getElem? (i := 328) (by decide +kernel)) (by decide +kernel)), fun _ h => absurd h List.not_mem_nil⟩⟩⟩⟩⟩, by decide, F_Ba, 13, rfl, by decide⟩
theorem ml_He_40 : MLV "HeapTower$Heap" 40 y_Po_loadPart b_Po_loadPart 4 none 2 3 := ⟨List.forall_mem_cons.mpr ⟨(gw_in (List.mem_of_getElem? (i := 476) (by decide +kernel)) (by decide +kernel)), List.forall_mem_cons.mpr ⟨(gw_in (List.mem_of_getElem? (i := 477) (by decide +kernel)) (by decide +kernel)), List.forall_mem_cons.mpr ⟨(gw_in (List.mem_of_getElem? (i := 478) (by decide +kernel)) (by decide +kernel)), List.forall_mem_cons.mpr ⟨(gw_in (List.mem_of_getElem? (i := 71) (by decide +kernel)) (by decide +kernel)), List.forall_mem_cons.mpr ⟨(gw_in (List.mem_of_getElem? (i := 479) (by decide +kernel)) (by decide +kernel)), fun _ h => absurd h List.not_mem_nil⟩⟩⟩⟩⟩, by decide, F_Po, 2, rfl, by decide⟩
theorem ml_He_52 : MLV "HeapTower$Heap" 52 y_He_load b_He_load 3 none 2 1 := ⟨List.forall_mem_cons.mpr ⟨(gw_in (List.mem_of_getElem? (i := 604) (by decide +kernel)) (by decide +kernel)), List.forall_mem_cons.mpr ⟨(gw_in (List.mem_of_getElem? (i := 508) (by decide +kernel)) (by decide +kernel)), List.forall_mem_cons.mpr ⟨(gw_in (List.mem_of_getElem? (i := 509) (by decide +kernel)) (by decide +kernel)), List.forall_mem_cons.mpr ⟨(gw_in (List.mem_of_getElem? (i := 73) (by decide +kernel)) (by decide +kernel)), List.forall_mem_cons.mpr ⟨(gw_in (List.mem_of_getElem? (i := 510) (by decide +kernel)) (by decide +kernel)), fun _ h => absurd h List.not_mem_nil⟩⟩⟩⟩⟩, by decide, F_He, 5, rfl, by decide⟩
theorem ml_He_55 : MLV "HeapTower$Heap" 55 y_Ba_offer b_Ba_offer 3 none 2 0 := ⟨List.forall_mem_cons.mpr ⟨(gw_in (List.mem_of_getElem? (i := 605) (by decide +kernel)) (by decide +kernel)), List.forall_mem_cons.mpr ⟨(gw_in (List.mem_of_getElem? (i := 606) (by decide +kernel)) (by decide +kernel)), List.forall_mem_cons.mpr ⟨(gw_in (List.mem_of_getElem? (i := 607) (by decide +kernel)) (by decide +kernel)), List.forall_mem_cons.mpr ⟨(gw_in (List.mem_of_getElem? (i := 72) (by decide +kernel)) (by decide +kernel)), List.forall_mem_cons.mpr ⟨(gw_in (List.mem_of_getElem? (i := 608) (by decide +kernel)) (by decide +kernel)), fun _ h => absurd h List.not_mem_nil⟩⟩⟩⟩⟩, by decide, F_Ba, 13, rfl, by decide⟩
theorem ml_He_58 : MLV "HeapTower$Heap" 58 y_Ba_reached b_Ba_reached 1 (some .int) 0 0 := ⟨List.forall_mem_cons.mpr ⟨(gw_in (List.mem_of_getElem? (i := 524) (by decide +kernel)) (by decide +kernel)), List.forall_mem_cons.mpr ⟨(gw_in (List.mem_of_getElem? (i := 525) (by decide +kernel)) (by decide +kernel)), List.forall_mem_cons.mpr ⟨(gw_in (List.mem_of_getElem? (i := 526) (by decide +kernel)) (by decide +kernel)), List.forall_mem_cons.mpr ⟨(gw_in (List.mem_of_getElem? (i := 72) (by decide +kernel)) (by decide +kernel)), List.forall_mem_cons.mpr ⟨(gw_in (List.mem_of_getElem? (i := 527) (by decide +kernel)) (by decide +kernel)), fun _ h => absurd h List.not_mem_nil⟩⟩⟩⟩⟩, by decide, F_Ba, 13, rfl, by decide⟩
theorem ml_He_62 : MLV "HeapTower$Heap" 62 y_Ba_open b_Ba_open 2 none 1 0 := ⟨List.forall_mem_cons.mpr ⟨(gw_in (List.mem_of_getElem? (i := 528) (by decide +kernel)) (by decide +kernel)), List.forall_mem_cons.mpr ⟨(gw_in (List.mem_of_getElem? (i := 529) (by decide +kernel)) (by decide +kernel)), List.forall_mem_cons.mpr ⟨(gw_in (List.mem_of_getElem? (i := 530) (by decide +kernel)) (by decide +kernel)), List.forall_mem_cons.mpr ⟨(gw_in (List.mem_of_getElem? (i := 72) (by decide +kernel)) (by decide +kernel)), List.forall_mem_cons.mpr ⟨(gw_in (List.mem_of_getElem? (i := 531) (by decide +kernel)) (by decide +kernel)), fun _ h => absurd h List.not_mem_nil⟩⟩⟩⟩⟩, by decide, F_Ba, 13, rfl, by decide⟩
theorem ml_He_65 : MLV "HeapTower$Heap" 65 y_He_offerRows b_He_offerRows 4 none 2 1 := ⟨List.forall_mem_cons.mpr ⟨(gw_in (List.mem_of_getElem? (i := 600) (by decide +kernel)) (by decide +kernel)), List.forall_mem_cons.mpr ⟨(gw_in (List.mem_of_getElem? (i := 601) (by decide +kernel)) (by decide +kernel)), List.forall_mem_cons.mpr ⟨(gw_in (List.mem_of_getElem? (i := 602) (by decide +kernel)) (by decide +kernel)), List.forall_mem_cons.mpr ⟨(gw_in (List.mem_of_getElem? (i := 73) (by decide +kernel)) (by decide +kernel)), List.forall_mem_cons.mpr ⟨(gw_in (List.mem_of_getElem? (i := 603) (by decide +kernel)) (by decide +kernel)), fun _ h => absurd h List.not_mem_nil⟩⟩⟩⟩⟩, by decide, F_He, 5, rfl, by decide⟩
theorem ml_He_69 : MLV "HeapTower$Heap" 69 y_Ba_close b_Ba_close 4 none 1 0 := ⟨List.forall_mem_cons.mpr ⟨(gw_in (List.mem_of_getElem? (i := 609) (by decide +kernel)) (by decide +kernel)), List.forall_mem_cons.mpr ⟨(gw_in (List.mem_of_getElem? (i := 610) (by decide +kernel)) (by decide +kernel)), List.forall_mem_cons.mpr ⟨(gw_in (List.mem_of_getElem? (i := 611) (by decide +kernel)) (by decide +kernel)), List.forall_mem_cons.mpr ⟨(gw_in (List.mem_of_getElem? (i := 72) (by decide +kernel)) (by decide +kernel)), List.forall_mem_cons.mpr ⟨(gw_in (List.mem_of_getElem? (i := 612) (by decide +kernel)) (by decide +kernel)), fun _ h => absurd h List.not_mem_nil⟩⟩⟩⟩⟩, by decide, F_Ba, 13, rfl, by decide⟩
theorem kc_He_46 : KC "HeapTower$Heap" 46 := ⟨⟨(gw_in (List.mem_of_getElem? (i := 511) (by decide +kernel)) (by decide +kernel)), (gw_in (List.mem_of_getElem? (i := 482) (by decide +kernel)) (by decide +kernel))⟩, (gw_in (List.mem_of_getElem? (i := 481) (by decide +kernel)) (by decide +kernel)), (gw_in (List.mem_of_getElem? (i := 77) (by decide +kernel)) (by decide +kernel))⟩
theorem D_He_forgetBase_0 : decode b_He_forgetBase 0 = .ok (.aload_n 0, 1) := by decide +kernel
theorem D_He_forgetBase_1 : decode b_He_forgetBase 1 = .ok (.getfield 20, 3) := by decide +kernel
theorem D_He_forgetBase_4 : decode b_He_forgetBase 4 = .ok (.iconst 0, 1) := by decide +kernel
theorem D_He_forgetBase_5 : decode b_He_forgetBase 5 = .ok (.invokevirtual 34, 3) := by decide +kernel
theorem D_He_forgetBase_8 : decode b_He_forgetBase 8 = .ok (.return_, 1) := by decide +kernel
abbrev rm_He_forgetBase : Room := { frames := 2, cells := 0, slots := 0, locals := 42 }
def T_He_forgetBase (a0 : Nat) (M : Mem) (post : Mem → Prop) : Prop := (isK M a0 1 ∧ ∃ q1, gR M a0 0 = some q1 ∧ isK M q1 0 ∧ T_Ba_forget q1 0 M (fun M5 => post M5))
set_option maxRecDepth 20000 in
theorem S_He_forgetBase {l : Launch} {D : va_G} {B t g : Nat} {d : Nat → Nat} {ac : Nat → ClassId}  (a0 : Nat) (M : Mem) (post : Mem → Prop) (h : T_He_forgetBase a0 M post) : Met l y_He_forgetBase w_He_forgetBase rm_He_forgetBase (va_Pc [.ref (d a0)] (PRE D B d g t ac M)) (QV D B d g ac post) 0 0 (AB B) := by
  refine met_v (by decide +kernel) (Nat.le_of_ble_eq_true rfl) (fun x h1 hR h3 h4 h5 h6 h7 h8 C Rt Nm => ?_)
  subst h3 h4 h5 h6 h7 h8
  unfold T_He_forgetBase at h
  show J x 1 0 [(0, .ref (xd x a0))] [] 0 0 M
  refine J_aload_n C 0 D_He_forgetBase_0 rfl rfl ?_
  obtain ⟨c_1, q1, e_1, h⟩ := h
  refine J_getR C fl_He_20 D_He_forgetBase_1 c_1 e_1 ?_
  refine J_iconst (v := 0) C D_He_forgetBase_4 rfl ?_
  obtain ⟨c_5, h⟩ := h
  refine J_callVv C ml_He_34 (S_Ba_forget _ _ _ _ h) (by rw [hR]; decide) rfl c_5 rfl (Nat.le_of_ble_eq_true rfl) D_He_forgetBase_5 (fun M5 h => ?_)
  exact J_vret C Rt D_He_forgetBase_8 h
theorem D_He_empty_0 : decode b_He_empty 0 = .ok (.aload_n 0, 1) := by decide +kernel
theorem D_He_empty_1 : decode b_He_empty 1 = .ok (.iconst 0, 1) := by decide +kernel
theorem D_He_empty_2 : decode b_He_empty 2 = .ok (.putfield 27, 3) := by decide +kernel
theorem D_He_empty_5 : decode b_He_empty 5 = .ok (.aload_n 0, 1) := by decide +kernel
theorem D_He_empty_6 : decode b_He_empty 6 = .ok (.invokevirtual 31, 3) := by decide +kernel
theorem D_He_empty_9 : decode b_He_empty 9 = .ok (.return_, 1) := by decide +kernel
abbrev rm_He_empty : Room := { frames := 3, cells := 0, slots := 0, locals := 62 }
def T_He_empty (a0 : Nat) (M : Mem) (post : Mem → Prop) : Prop := (isK M a0 1 ∧ isK (sI M a0 4 0) a0 1 ∧ T_He_forgetBase a0 (sI M a0 4 0) (fun M6 => post M6))
set_option maxRecDepth 20000 in
theorem S_He_empty {l : Launch} {D : va_G} {B t g : Nat} {d : Nat → Nat} {ac : Nat → ClassId}  (a0 : Nat) (M : Mem) (post : Mem → Prop) (h : T_He_empty a0 M post) : Met l y_He_empty w_He_empty rm_He_empty (va_Pc [.ref (d a0)] (PRE D B d g t ac M)) (QV D B d g ac post) 0 0 (AB B) := by
  refine met_v (by decide +kernel) (Nat.le_of_ble_eq_true rfl) (fun x h1 hR h3 h4 h5 h6 h7 h8 C Rt Nm => ?_)
  subst h3 h4 h5 h6 h7 h8
  unfold T_He_empty at h
  show J x 1 0 [(0, .ref (xd x a0))] [] 0 0 M
  refine J_aload_n C 0 D_He_empty_0 rfl rfl ?_
  refine J_iconst (v := 0) C D_He_empty_1 rfl ?_
  obtain ⟨c_2, h⟩ := h
  refine J_putI C fl_He_27 D_He_empty_2 c_2 ?_
  refine J_aload_n C 0 D_He_empty_5 rfl rfl ?_
  obtain ⟨c_6, h⟩ := h
  refine J_callVv C ml_He_31 (S_He_forgetBase _ _ _ h) (by rw [hR]; decide) rfl c_6 rfl (Nat.le_of_ble_eq_true rfl) D_He_empty_6 (fun M6 h => ?_)
  exact J_vret C Rt D_He_empty_9 h
theorem D_He_isFull_0 : decode b_He_isFull 0 = .ok (.aload_n 0, 1) := by decide +kernel
theorem D_He_isFull_1 : decode b_He_isFull 1 = .ok (.getfield 27, 3) := by decide +kernel
theorem D_He_isFull_4 : decode b_He_isFull 4 = .ok (.bipush 6, 2) := by decide +kernel
theorem D_He_isFull_6 : decode b_He_isFull 6 = .ok (.if_icmp .lt 7, 3) := by decide +kernel
theorem D_He_isFull_9 : decode b_He_isFull 9 = .ok (.iconst 1, 1) := by decide +kernel
theorem D_He_isFull_10 : decode b_He_isFull 10 = .ok (.goto 4, 3) := by decide +kernel
theorem D_He_isFull_13 : decode b_He_isFull 13 = .ok (.iconst 0, 1) := by decide +kernel
theorem D_He_isFull_14 : decode b_He_isFull 14 = .ok (.ireturn, 1) := by decide +kernel
abbrev rm_He_isFull : Room := { frames := 0, cells := 0, slots := 0, locals := 0 }
def B_He_isFull_14 (post : Int32 → Mem → Prop) (s0 : Int32) (M : Mem) : Prop := (narrow .boolean (.int s0) = .int s0 ∧ post s0 M)
set_option maxRecDepth 20000 in
theorem Z_He_isFull_14 {x : Ctx} {post : Int32 → Mem → Prop} (C : Ok x b_He_isFull 1 "HeapTower$Heap") (hR : xR x = rm_He_isFull) (Rt : RetI x .boolean post 0 0) (s0 : Int32) (M : Mem) (h : B_He_isFull_14 post s0 M) : J x 1 14 [] [.int s0] 0 0 M := by
  unfold B_He_isFull_14 at h
  obtain ⟨c_14, h⟩ := h
  exact J_iret C Rt D_He_isFull_14 c_14 h
def T_He_isFull (a0 : Nat) (M : Mem) (post : Int32 → Mem → Prop) : Prop := (isK M a0 1 ∧ ((gI M a0 4) < 6 → (B_He_isFull_14 post 0 M)) ∧ (¬ (gI M a0 4) < 6 → (B_He_isFull_14 post 1 M)))
set_option maxRecDepth 20000 in
theorem S_He_isFull {l : Launch} {D : va_G} {B t g : Nat} {d : Nat → Nat} {ac : Nat → ClassId}  (a0 : Nat) (M : Mem) (post : Int32 → Mem → Prop) (h : T_He_isFull a0 M post) : Met l y_He_isFull w_He_isFull rm_He_isFull (va_Pc [.ref (d a0)] (PRE D B d g t ac M)) (QI D B d g ac post) 0 0 (AB B) := by
  refine met_i (by decide +kernel) (Nat.le_of_ble_eq_true rfl) (fun x h1 hR h3 h4 h5 h6 h7 h8 C Rt => ?_)
  subst h3 h4 h5 h6 h7 h8
  unfold T_He_isFull at h
  show J x 1 0 [(0, .ref (xd x a0))] [] 0 0 M
  refine J_aload_n C 0 D_He_isFull_0 rfl rfl ?_
  obtain ⟨c_1, h⟩ := h
  refine J_getI C fl_He_27 D_He_isFull_1 c_1 ?_
  refine J_bipush (v := 6) C D_He_isFull_4 rfl ?_
  refine J_icmp_lt (tgt := 13) C D_He_isFull_6 (by decide) (fun c_6 => ?_) (fun c_6 => ?_)
  · have h := h.1 c_6
    refine J_iconst (v := 0) C D_He_isFull_13 rfl ?_
    exact J_sub [] rfl (Z_He_isFull_14 C hR Rt  _ _ h)
  · have h := h.2 c_6
    refine J_iconst (v := 1) C D_He_isFull_9 rfl ?_
    refine J_goto (tgt := 14) C D_He_isFull_10 (by decide) ?_
    exact J_sub [] rfl (Z_He_isFull_14 C hR Rt  _ _ h)
theorem D_He_size_0 : decode b_He_size 0 = .ok (.aload_n 0, 1) := by decide +kernel
theorem D_He_size_1 : decode b_He_size 1 = .ok (.getfield 27, 3) := by decide +kernel
theorem D_He_size_4 : decode b_He_size 4 = .ok (.ireturn, 1) := by decide +kernel
abbrev rm_He_size : Room := { frames := 0, cells := 0, slots := 0, locals := 0 }
def T_He_size (a0 : Nat) (M : Mem) (post : Int32 → Mem → Prop) : Prop := (isK M a0 1 ∧ post (gI M a0 4) M)
set_option maxRecDepth 20000 in
theorem S_He_size {l : Launch} {D : va_G} {B t g : Nat} {d : Nat → Nat} {ac : Nat → ClassId}  (a0 : Nat) (M : Mem) (post : Int32 → Mem → Prop) (h : T_He_size a0 M post) : Met l y_He_size w_He_size rm_He_size (va_Pc [.ref (d a0)] (PRE D B d g t ac M)) (QI D B d g ac post) 0 0 (AB B) := by
  refine met_i (by decide +kernel) (Nat.le_of_ble_eq_true rfl) (fun x h1 hR h3 h4 h5 h6 h7 h8 C Rt => ?_)
  subst h3 h4 h5 h6 h7 h8
  unfold T_He_size at h
  show J x 1 0 [(0, .ref (xd x a0))] [] 0 0 M
  refine J_aload_n C 0 D_He_size_0 rfl rfl ?_
  obtain ⟨c_1, h⟩ := h
  refine J_getI C fl_He_27 D_He_size_1 c_1 ?_
  exact J_iret C Rt D_He_size_4 rfl h
theorem D_He_append_0 : decode b_He_append 0 = .ok (.aload_n 1, 1) := by decide +kernel
theorem D_He_append_1 : decode b_He_append 1 = .ok (.iload_n 2, 1) := by decide +kernel
theorem D_He_append_2 : decode b_He_append 2 = .ok (.aload_n 0, 1) := by decide +kernel
theorem D_He_append_3 : decode b_He_append 3 = .ok (.getfield 17, 3) := by decide +kernel
theorem D_He_append_6 : decode b_He_append 6 = .ok (.aload_n 0, 1) := by decide +kernel
theorem D_He_append_7 : decode b_He_append 7 = .ok (.getfield 27, 3) := by decide +kernel
theorem D_He_append_10 : decode b_He_append 10 = .ok (.aaload, 1) := by decide +kernel
theorem D_He_append_11 : decode b_He_append 11 = .ok (.invokevirtual 40, 3) := by decide +kernel
theorem D_He_append_14 : decode b_He_append 14 = .ok (.aload_n 0, 1) := by decide +kernel
theorem D_He_append_15 : decode b_He_append 15 = .ok (.getfield 9, 3) := by decide +kernel
theorem D_He_append_18 : decode b_He_append 18 = .ok (.aload_n 0, 1) := by decide +kernel
theorem D_He_append_19 : decode b_He_append 19 = .ok (.getfield 27, 3) := by decide +kernel
theorem D_He_append_22 : decode b_He_append 22 = .ok (.iload_n 2, 1) := by decide +kernel
theorem D_He_append_23 : decode b_He_append 23 = .ok (.iastore, 1) := by decide +kernel
theorem D_He_append_24 : decode b_He_append 24 = .ok (.aload_n 0, 1) := by decide +kernel
theorem D_He_append_25 : decode b_He_append 25 = .ok (.dup, 1) := by decide +kernel
theorem D_He_append_26 : decode b_He_append 26 = .ok (.getfield 27, 3) := by decide +kernel
theorem D_He_append_29 : decode b_He_append 29 = .ok (.iconst 1, 1) := by decide +kernel
theorem D_He_append_30 : decode b_He_append 30 = .ok (.iadd, 1) := by decide +kernel
theorem D_He_append_31 : decode b_He_append 31 = .ok (.putfield 27, 3) := by decide +kernel
theorem D_He_append_34 : decode b_He_append 34 = .ok (.aload_n 0, 1) := by decide +kernel
theorem D_He_append_35 : decode b_He_append 35 = .ok (.getfield 20, 3) := by decide +kernel
theorem D_He_append_38 : decode b_He_append 38 = .ok (.iload_n 2, 1) := by decide +kernel
theorem D_He_append_39 : decode b_He_append 39 = .ok (.invokevirtual 34, 3) := by decide +kernel
theorem D_He_append_42 : decode b_He_append 42 = .ok (.return_, 1) := by decide +kernel
abbrev rm_He_append : Room := { frames := 2, cells := 0, slots := 0, locals := 63 }
def T_He_append (a0 : Nat) (a1 : Nat) (x2 : Int32) (M : Mem) (post : Mem → Prop) : Prop := (isK M a0 1 ∧ ∃ q3, gR M a0 3 = some q3 ∧ isK M a0 1 ∧ isA M q3 11 (gI M a0 4) ∧ ∃ q10, gR M q3 (Int32.toNatClampNeg (gI M a0 4)) = some q10 ∧ isK M a1 3 ∧ T_Po_loadPart a1 x2 q10 M (fun M11 => isK M11 a0 1 ∧ ∃ q15, gR M11 a0 2 = some q15 ∧ isK M11 a0 1 ∧ isA M11 q15 8 (gI M11 a0 4) ∧ isK (sI M11 q15 (Int32.toNatClampNeg (gI M11 a0 4)) x2) a0 1 ∧ isK (sI M11 q15 (Int32.toNatClampNeg (gI M11 a0 4)) x2) a0 1 ∧ isK (sI (sI M11 q15 (Int32.toNatClampNeg (gI M11 a0 4)) x2) a0 4 ((gI (sI M11 q15 (Int32.toNatClampNeg (gI M11 a0 4)) x2) a0 4) + 1)) a0 1 ∧ ∃ q35, gR (sI (sI M11 q15 (Int32.toNatClampNeg (gI M11 a0 4)) x2) a0 4 ((gI (sI M11 q15 (Int32.toNatClampNeg (gI M11 a0 4)) x2) a0 4) + 1)) a0 0 = some q35 ∧ isK (sI (sI M11 q15 (Int32.toNatClampNeg (gI M11 a0 4)) x2) a0 4 ((gI (sI M11 q15 (Int32.toNatClampNeg (gI M11 a0 4)) x2) a0 4) + 1)) q35 0 ∧ T_Ba_forget q35 x2 (sI (sI M11 q15 (Int32.toNatClampNeg (gI M11 a0 4)) x2) a0 4 ((gI (sI M11 q15 (Int32.toNatClampNeg (gI M11 a0 4)) x2) a0 4) + 1)) (fun M39 => post M39)))
set_option maxRecDepth 20000 in
theorem S_He_append {l : Launch} {D : va_G} {B t g : Nat} {d : Nat → Nat} {ac : Nat → ClassId}  (a0 : Nat) (a1 : Nat) (x2 : Int32) (M : Mem) (post : Mem → Prop) (h : T_He_append a0 a1 x2 M post) : Met l y_He_append w_He_append rm_He_append (va_Pc [.ref (d a0), .ref (d a1), .int x2] (PRE D B d g t ac M)) (QV D B d g ac post) 0 0 (AB B) := by
  refine met_v (by decide +kernel) (Nat.le_of_ble_eq_true rfl) (fun x h1 hR h3 h4 h5 h6 h7 h8 C Rt Nm => ?_)
  subst h3 h4 h5 h6 h7 h8
  unfold T_He_append at h
  show J x 3 0 [(0, .ref (xd x a0)), (1, .ref (xd x a1)), (2, .int x2)] [] 0 0 M
  refine J_aload_n C 1 D_He_append_0 rfl rfl ?_
  refine J_iload_n C 2 D_He_append_1 rfl rfl ?_
  refine J_aload_n C 0 D_He_append_2 rfl rfl ?_
  obtain ⟨c_3, q3, e_3, h⟩ := h
  refine J_getR C fl_He_17 D_He_append_3 c_3 e_3 ?_
  refine J_aload_n C 0 D_He_append_6 rfl rfl ?_
  obtain ⟨c_7, h⟩ := h
  refine J_getI C fl_He_27 D_He_append_7 c_7 ?_
  obtain ⟨c_10, q10, e_10, h⟩ := h
  refine J_aaldI C D_He_append_10 c_10 e_10 ?_
  obtain ⟨c_11, h⟩ := h
  refine J_callVv C ml_He_40 (S_Po_loadPart _ _ _ _ _ h) (by rw [hR]; decide) rfl c_11 rfl (Nat.le_of_ble_eq_true rfl) D_He_append_11 (fun M11 h => ?_)
  refine J_aload_n C 0 D_He_append_14 rfl rfl ?_
  obtain ⟨c_15, q15, e_15, h⟩ := h
  refine J_getR C fl_He_9 D_He_append_15 c_15 e_15 ?_
  refine J_aload_n C 0 D_He_append_18 rfl rfl ?_
  obtain ⟨c_19, h⟩ := h
  refine J_getI C fl_He_27 D_He_append_19 c_19 ?_
  refine J_iload_n C 2 D_He_append_22 rfl rfl ?_
  obtain ⟨c_23, h⟩ := h
  refine J_iast C D_He_append_23 c_23 ?_
  refine J_aload_n C 0 D_He_append_24 rfl rfl ?_
  refine J_dup C D_He_append_25 rfl ?_
  obtain ⟨c_26, h⟩ := h
  refine J_getI C fl_He_27 D_He_append_26 c_26 ?_
  refine J_iconst (v := 1) C D_He_append_29 rfl ?_
  refine J_iadd C D_He_append_30 ?_
  obtain ⟨c_31, h⟩ := h
  refine J_putI C fl_He_27 D_He_append_31 c_31 ?_
  refine J_aload_n C 0 D_He_append_34 rfl rfl ?_
  obtain ⟨c_35, q35, e_35, h⟩ := h
  refine J_getR C fl_He_20 D_He_append_35 c_35 e_35 ?_
  refine J_iload_n C 2 D_He_append_38 rfl rfl ?_
  obtain ⟨c_39, h⟩ := h
  refine J_callVv C ml_He_34 (S_Ba_forget _ _ _ _ h) (by rw [hR]; decide) rfl c_39 rfl (Nat.le_of_ble_eq_true rfl) D_He_append_39 (fun M39 h => ?_)
  exact J_vret C Rt D_He_append_42 h
theorem D_He_degreeOf_0 : decode b_He_degreeOf 0 = .ok (.aload_n 0, 1) := by decide +kernel
theorem D_He_degreeOf_1 : decode b_He_degreeOf 1 = .ok (.getfield 9, 3) := by decide +kernel
theorem D_He_degreeOf_4 : decode b_He_degreeOf 4 = .ok (.iload_n 1, 1) := by decide +kernel
theorem D_He_degreeOf_5 : decode b_He_degreeOf 5 = .ok (.iaload, 1) := by decide +kernel
theorem D_He_degreeOf_6 : decode b_He_degreeOf 6 = .ok (.ireturn, 1) := by decide +kernel
abbrev rm_He_degreeOf : Room := { frames := 0, cells := 0, slots := 0, locals := 0 }
def T_He_degreeOf (a0 : Nat) (x1 : Int32) (M : Mem) (post : Int32 → Mem → Prop) : Prop := (isK M a0 1 ∧ ∃ q1, gR M a0 2 = some q1 ∧ isA M q1 8 x1 ∧ post (gI M q1 (Int32.toNatClampNeg x1)) M)
set_option maxRecDepth 20000 in
theorem S_He_degreeOf {l : Launch} {D : va_G} {B t g : Nat} {d : Nat → Nat} {ac : Nat → ClassId}  (a0 : Nat) (x1 : Int32) (M : Mem) (post : Int32 → Mem → Prop) (h : T_He_degreeOf a0 x1 M post) : Met l y_He_degreeOf w_He_degreeOf rm_He_degreeOf (va_Pc [.ref (d a0), .int x1] (PRE D B d g t ac M)) (QI D B d g ac post) 0 0 (AB B) := by
  refine met_i (by decide +kernel) (Nat.le_of_ble_eq_true rfl) (fun x h1 hR h3 h4 h5 h6 h7 h8 C Rt => ?_)
  subst h3 h4 h5 h6 h7 h8
  unfold T_He_degreeOf at h
  show J x 2 0 [(0, .ref (xd x a0)), (1, .int x1)] [] 0 0 M
  refine J_aload_n C 0 D_He_degreeOf_0 rfl rfl ?_
  obtain ⟨c_1, q1, e_1, h⟩ := h
  refine J_getR C fl_He_9 D_He_degreeOf_1 c_1 e_1 ?_
  refine J_iload_n C 1 D_He_degreeOf_4 rfl rfl ?_
  obtain ⟨c_5, h⟩ := h
  refine J_iald C D_He_degreeOf_5 c_5 ?_
  exact J_iret C Rt D_He_degreeOf_6 rfl h
theorem D_He_removeLatest_0 : decode b_He_removeLatest 0 = .ok (.aload_n 0, 1) := by decide +kernel
theorem D_He_removeLatest_1 : decode b_He_removeLatest 1 = .ok (.dup, 1) := by decide +kernel
theorem D_He_removeLatest_2 : decode b_He_removeLatest 2 = .ok (.getfield 27, 3) := by decide +kernel
theorem D_He_removeLatest_5 : decode b_He_removeLatest 5 = .ok (.iconst 1, 1) := by decide +kernel
theorem D_He_removeLatest_6 : decode b_He_removeLatest 6 = .ok (.isub, 1) := by decide +kernel
theorem D_He_removeLatest_7 : decode b_He_removeLatest 7 = .ok (.putfield 27, 3) := by decide +kernel
theorem D_He_removeLatest_10 : decode b_He_removeLatest 10 = .ok (.aload_n 0, 1) := by decide +kernel
theorem D_He_removeLatest_11 : decode b_He_removeLatest 11 = .ok (.getfield 20, 3) := by decide +kernel
theorem D_He_removeLatest_14 : decode b_He_removeLatest 14 = .ok (.aload_n 0, 1) := by decide +kernel
theorem D_He_removeLatest_15 : decode b_He_removeLatest 15 = .ok (.getfield 9, 3) := by decide +kernel
theorem D_He_removeLatest_18 : decode b_He_removeLatest 18 = .ok (.aload_n 0, 1) := by decide +kernel
theorem D_He_removeLatest_19 : decode b_He_removeLatest 19 = .ok (.getfield 27, 3) := by decide +kernel
theorem D_He_removeLatest_22 : decode b_He_removeLatest 22 = .ok (.iaload, 1) := by decide +kernel
theorem D_He_removeLatest_23 : decode b_He_removeLatest 23 = .ok (.invokevirtual 34, 3) := by decide +kernel
theorem D_He_removeLatest_26 : decode b_He_removeLatest 26 = .ok (.return_, 1) := by decide +kernel
abbrev rm_He_removeLatest : Room := { frames := 2, cells := 0, slots := 0, locals := 42 }
def T_He_removeLatest (a0 : Nat) (M : Mem) (post : Mem → Prop) : Prop := (isK M a0 1 ∧ isK M a0 1 ∧ isK (sI M a0 4 ((gI M a0 4) - 1)) a0 1 ∧ ∃ q11, gR (sI M a0 4 ((gI M a0 4) - 1)) a0 0 = some q11 ∧ isK (sI M a0 4 ((gI M a0 4) - 1)) a0 1 ∧ ∃ q15, gR (sI M a0 4 ((gI M a0 4) - 1)) a0 2 = some q15 ∧ isK (sI M a0 4 ((gI M a0 4) - 1)) a0 1 ∧ isA (sI M a0 4 ((gI M a0 4) - 1)) q15 8 (gI (sI M a0 4 ((gI M a0 4) - 1)) a0 4) ∧ isK (sI M a0 4 ((gI M a0 4) - 1)) q11 0 ∧ T_Ba_forget q11 (gI (sI M a0 4 ((gI M a0 4) - 1)) q15 (Int32.toNatClampNeg (gI (sI M a0 4 ((gI M a0 4) - 1)) a0 4))) (sI M a0 4 ((gI M a0 4) - 1)) (fun M23 => post M23))
set_option maxRecDepth 20000 in
theorem S_He_removeLatest {l : Launch} {D : va_G} {B t g : Nat} {d : Nat → Nat} {ac : Nat → ClassId}  (a0 : Nat) (M : Mem) (post : Mem → Prop) (h : T_He_removeLatest a0 M post) : Met l y_He_removeLatest w_He_removeLatest rm_He_removeLatest (va_Pc [.ref (d a0)] (PRE D B d g t ac M)) (QV D B d g ac post) 0 0 (AB B) := by
  refine met_v (by decide +kernel) (Nat.le_of_ble_eq_true rfl) (fun x h1 hR h3 h4 h5 h6 h7 h8 C Rt Nm => ?_)
  subst h3 h4 h5 h6 h7 h8
  unfold T_He_removeLatest at h
  show J x 1 0 [(0, .ref (xd x a0))] [] 0 0 M
  refine J_aload_n C 0 D_He_removeLatest_0 rfl rfl ?_
  refine J_dup C D_He_removeLatest_1 rfl ?_
  obtain ⟨c_2, h⟩ := h
  refine J_getI C fl_He_27 D_He_removeLatest_2 c_2 ?_
  refine J_iconst (v := 1) C D_He_removeLatest_5 rfl ?_
  refine J_isub C D_He_removeLatest_6 ?_
  obtain ⟨c_7, h⟩ := h
  refine J_putI C fl_He_27 D_He_removeLatest_7 c_7 ?_
  refine J_aload_n C 0 D_He_removeLatest_10 rfl rfl ?_
  obtain ⟨c_11, q11, e_11, h⟩ := h
  refine J_getR C fl_He_20 D_He_removeLatest_11 c_11 e_11 ?_
  refine J_aload_n C 0 D_He_removeLatest_14 rfl rfl ?_
  obtain ⟨c_15, q15, e_15, h⟩ := h
  refine J_getR C fl_He_9 D_He_removeLatest_15 c_15 e_15 ?_
  refine J_aload_n C 0 D_He_removeLatest_18 rfl rfl ?_
  obtain ⟨c_19, h⟩ := h
  refine J_getI C fl_He_27 D_He_removeLatest_19 c_19 ?_
  obtain ⟨c_22, h⟩ := h
  refine J_iald C D_He_removeLatest_22 c_22 ?_
  obtain ⟨c_23, h⟩ := h
  refine J_callVv C ml_He_34 (S_Ba_forget _ _ _ _ h) (by rw [hR]; decide) rfl c_23 rfl (Nat.le_of_ble_eq_true rfl) D_He_removeLatest_23 (fun M23 h => ?_)
  exact J_vret C Rt D_He_removeLatest_26 h
theorem D_He_has_0 : decode b_He_has 0 = .ok (.iload_n 1, 1) := by decide +kernel
theorem D_He_has_1 : decode b_He_has 1 = .ok (.ifCond .lt 15, 3) := by decide +kernel
theorem D_He_has_4 : decode b_He_has 4 = .ok (.iload_n 1, 1) := by decide +kernel
theorem D_He_has_5 : decode b_He_has 5 = .ok (.aload_n 0, 1) := by decide +kernel
theorem D_He_has_6 : decode b_He_has 6 = .ok (.getfield 27, 3) := by decide +kernel
theorem D_He_has_9 : decode b_He_has 9 = .ok (.if_icmp .ge 7, 3) := by decide +kernel
theorem D_He_has_12 : decode b_He_has 12 = .ok (.iconst 1, 1) := by decide +kernel
theorem D_He_has_13 : decode b_He_has 13 = .ok (.goto 4, 3) := by decide +kernel
theorem D_He_has_16 : decode b_He_has 16 = .ok (.iconst 0, 1) := by decide +kernel
theorem D_He_has_17 : decode b_He_has 17 = .ok (.ireturn, 1) := by decide +kernel
abbrev rm_He_has : Room := { frames := 0, cells := 0, slots := 0, locals := 0 }
def B_He_has_17 (post : Int32 → Mem → Prop) (s0 : Int32) (M : Mem) : Prop := (narrow .boolean (.int s0) = .int s0 ∧ post s0 M)
set_option maxRecDepth 20000 in
theorem Z_He_has_17 {x : Ctx} {post : Int32 → Mem → Prop} (C : Ok x b_He_has 2 "HeapTower$Heap") (hR : xR x = rm_He_has) (Rt : RetI x .boolean post 0 0) (s0 : Int32) (M : Mem) (h : B_He_has_17 post s0 M) : J x 2 17 [] [.int s0] 0 0 M := by
  unfold B_He_has_17 at h
  obtain ⟨c_17, h⟩ := h
  exact J_iret C Rt D_He_has_17 c_17 h
def B_He_has_16 (post : Int32 → Mem → Prop) (M : Mem) : Prop := (B_He_has_17 post 0 M)
set_option maxRecDepth 20000 in
theorem Z_He_has_16 {x : Ctx} {post : Int32 → Mem → Prop} (C : Ok x b_He_has 2 "HeapTower$Heap") (hR : xR x = rm_He_has) (Rt : RetI x .boolean post 0 0) (M : Mem) (h : B_He_has_16 post M) : J x 2 16 [] [] 0 0 M := by
  unfold B_He_has_16 at h
  refine J_iconst (v := 0) C D_He_has_16 rfl ?_
  exact J_sub [] rfl (Z_He_has_17 C hR Rt  _ _ h)
def T_He_has (a0 : Nat) (x1 : Int32) (M : Mem) (post : Int32 → Mem → Prop) : Prop := ((x1 < 0 → (B_He_has_16 post M)) ∧ (¬ x1 < 0 → (isK M a0 1 ∧ ((gI M a0 4) ≤ x1 → (B_He_has_16 post M)) ∧ (¬ (gI M a0 4) ≤ x1 → (B_He_has_17 post 1 M)))))
set_option maxRecDepth 20000 in
theorem S_He_has {l : Launch} {D : va_G} {B t g : Nat} {d : Nat → Nat} {ac : Nat → ClassId}  (a0 : Nat) (x1 : Int32) (M : Mem) (post : Int32 → Mem → Prop) (h : T_He_has a0 x1 M post) : Met l y_He_has w_He_has rm_He_has (va_Pc [.ref (d a0), .int x1] (PRE D B d g t ac M)) (QI D B d g ac post) 0 0 (AB B) := by
  refine met_i (by decide +kernel) (Nat.le_of_ble_eq_true rfl) (fun x h1 hR h3 h4 h5 h6 h7 h8 C Rt => ?_)
  subst h3 h4 h5 h6 h7 h8
  unfold T_He_has at h
  show J x 2 0 [(0, .ref (xd x a0)), (1, .int x1)] [] 0 0 M
  refine J_iload_n C 1 D_He_has_0 rfl rfl ?_
  refine J_if_lt (tgt := 16) C D_He_has_1 (by decide) (fun c_1 => ?_) (fun c_1 => ?_)
  · have h := h.1 c_1
    exact J_sub [] rfl (Z_He_has_16 C hR Rt  _ h)
  · have h := h.2 c_1
    refine J_iload_n C 1 D_He_has_4 rfl rfl ?_
    refine J_aload_n C 0 D_He_has_5 rfl rfl ?_
    obtain ⟨c_6, h⟩ := h
    refine J_getI C fl_He_27 D_He_has_6 c_6 ?_
    refine J_icmp_ge (tgt := 16) C D_He_has_9 (by decide) (fun c_9 => ?_) (fun c_9 => ?_)
    · have h := h.1 c_9
      exact J_sub [] rfl (Z_He_has_16 C hR Rt  _ h)
    · have h := h.2 c_9
      refine J_iconst (v := 1) C D_He_has_12 rfl ?_
      refine J_goto (tgt := 17) C D_He_has_13 (by decide) ?_
      exact J_sub [] rfl (Z_He_has_17 C hR Rt  _ _ h)
theorem D_He_load_0 : decode b_He_load 0 = .ok (.aload_n 0, 1) := by decide +kernel
theorem D_He_load_1 : decode b_He_load 1 = .ok (.getfield 17, 3) := by decide +kernel
theorem D_He_load_4 : decode b_He_load 4 = .ok (.iload_n 1, 1) := by decide +kernel
theorem D_He_load_5 : decode b_He_load 5 = .ok (.aaload, 1) := by decide +kernel
theorem D_He_load_6 : decode b_He_load 6 = .ok (.iconst 0, 1) := by decide +kernel
theorem D_He_load_7 : decode b_He_load 7 = .ok (.aload_n 2, 1) := by decide +kernel
theorem D_He_load_8 : decode b_He_load 8 = .ok (.iconst 0, 1) := by decide +kernel
theorem D_He_load_9 : decode b_He_load 9 = .ok (.bipush 21, 2) := by decide +kernel
theorem D_He_load_11 : decode b_He_load 11 = .ok (.invokestatic 46, 3) := by decide +kernel
theorem D_He_load_14 : decode b_He_load 14 = .ok (.return_, 1) := by decide +kernel
abbrev rm_He_load : Room := { frames := 1, cells := 0, slots := 0, locals := 40 }
def T_He_load (a0 : Nat) (x1 : Int32) (a2 : Nat) (M : Mem) (post : Mem → Prop) : Prop := (isK M a0 1 ∧ ∃ q1, gR M a0 3 = some q1 ∧ isA M q1 11 x1 ∧ ∃ q5, gR M q1 (Int32.toNatClampNeg x1) = some q5 ∧ cpOk M q5 0 a2 0 21 ∧ post (cpM M q5 0 a2 0 21))
set_option maxRecDepth 20000 in
theorem S_He_load {l : Launch} {D : va_G} {B t g : Nat} {d : Nat → Nat} {ac : Nat → ClassId}  (a0 : Nat) (x1 : Int32) (a2 : Nat) (M : Mem) (post : Mem → Prop) (h : T_He_load a0 x1 a2 M post) : Met l y_He_load w_He_load rm_He_load (va_Pc [.ref (d a0), .int x1, .ref (d a2)] (PRE D B d g t ac M)) (QV D B d g ac post) 0 0 (AB B) := by
  refine met_v (by decide +kernel) (Nat.le_of_ble_eq_true rfl) (fun x h1 hR h3 h4 h5 h6 h7 h8 C Rt Nm => ?_)
  subst h3 h4 h5 h6 h7 h8
  unfold T_He_load at h
  show J x 3 0 [(0, .ref (xd x a0)), (1, .int x1), (2, .ref (xd x a2))] [] 0 0 M
  refine J_aload_n C 0 D_He_load_0 rfl rfl ?_
  obtain ⟨c_1, q1, e_1, h⟩ := h
  refine J_getR C fl_He_17 D_He_load_1 c_1 e_1 ?_
  refine J_iload_n C 1 D_He_load_4 rfl rfl ?_
  obtain ⟨c_5, q5, e_5, h⟩ := h
  refine J_aaldI C D_He_load_5 c_5 e_5 ?_
  refine J_iconst (v := 0) C D_He_load_6 rfl ?_
  refine J_aload_n C 2 D_He_load_7 rfl rfl ?_
  refine J_iconst (v := 0) C D_He_load_8 rfl ?_
  refine J_bipush (v := 21) C D_He_load_9 rfl ?_
  obtain ⟨c_11, h⟩ := h
  refine J_copy C kc_He_46 D_He_load_11 (by rw [hR]; decide) (Nat.le_of_ble_eq_true rfl) c_11 ?_
  exact J_vret C Rt D_He_load_14 h
theorem D_He_offerRows_0 : decode b_He_offerRows 0 = .ok (.iconst 0, 1) := by decide +kernel
theorem D_He_offerRows_1 : decode b_He_offerRows 1 = .ok (.istore_n 3, 1) := by decide +kernel
theorem D_He_offerRows_2 : decode b_He_offerRows 2 = .ok (.iload_n 3, 1) := by decide +kernel
theorem D_He_offerRows_3 : decode b_He_offerRows 3 = .ok (.aload_n 0, 1) := by decide +kernel
theorem D_He_offerRows_4 : decode b_He_offerRows 4 = .ok (.getfield 27, 3) := by decide +kernel
theorem D_He_offerRows_7 : decode b_He_offerRows 7 = .ok (.if_icmp .ge 37, 3) := by decide +kernel
theorem D_He_offerRows_10 : decode b_He_offerRows 10 = .ok (.aload_n 0, 1) := by decide +kernel
theorem D_He_offerRows_11 : decode b_He_offerRows 11 = .ok (.getfield 9, 3) := by decide +kernel
theorem D_He_offerRows_14 : decode b_He_offerRows 14 = .ok (.iload_n 3, 1) := by decide +kernel
theorem D_He_offerRows_15 : decode b_He_offerRows 15 = .ok (.iaload, 1) := by decide +kernel
theorem D_He_offerRows_16 : decode b_He_offerRows 16 = .ok (.iload_n 2, 1) := by decide +kernel
theorem D_He_offerRows_17 : decode b_He_offerRows 17 = .ok (.if_icmp .ne 21, 3) := by decide +kernel
theorem D_He_offerRows_20 : decode b_He_offerRows 20 = .ok (.aload_n 0, 1) := by decide +kernel
theorem D_He_offerRows_21 : decode b_He_offerRows 21 = .ok (.iload_n 3, 1) := by decide +kernel
theorem D_He_offerRows_22 : decode b_He_offerRows 22 = .ok (.aload_n 0, 1) := by decide +kernel
theorem D_He_offerRows_23 : decode b_He_offerRows 23 = .ok (.getfield 24, 3) := by decide +kernel
theorem D_He_offerRows_26 : decode b_He_offerRows 26 = .ok (.invokevirtual 52, 3) := by decide +kernel
theorem D_He_offerRows_29 : decode b_He_offerRows 29 = .ok (.aload_n 1, 1) := by decide +kernel
theorem D_He_offerRows_30 : decode b_He_offerRows 30 = .ok (.iload_n 2, 1) := by decide +kernel
theorem D_He_offerRows_31 : decode b_He_offerRows 31 = .ok (.aload_n 0, 1) := by decide +kernel
theorem D_He_offerRows_32 : decode b_He_offerRows 32 = .ok (.getfield 24, 3) := by decide +kernel
theorem D_He_offerRows_35 : decode b_He_offerRows 35 = .ok (.invokevirtual 55, 3) := by decide +kernel
theorem D_He_offerRows_38 : decode b_He_offerRows 38 = .ok (.iinc 3 1, 3) := by decide +kernel
theorem D_He_offerRows_41 : decode b_He_offerRows 41 = .ok (.goto (-39), 3) := by decide +kernel
theorem D_He_offerRows_44 : decode b_He_offerRows 44 = .ok (.return_, 1) := by decide +kernel
abbrev rm_He_offerRows : Room := { frames := 3, cells := 0, slots := 0, locals := 82 }
def B_He_offerRows_38 (k2 : Nat → Nat → Int32 → Int32 → Mem → Prop) (post : Mem → Prop) (a0 : Nat) (a1 : Nat) (x2 : Int32) (x3 : Int32) (M : Mem) : Prop := (k2 a0 a1 x2 (x3 + 1) M)
set_option maxRecDepth 20000 in
theorem Z_He_offerRows_38 {x : Ctx} {post : Mem → Prop} (C : Ok x b_He_offerRows 4 "HeapTower$Heap") (hR : xR x = rm_He_offerRows) (Rt : RetV x post 0 0) {k2 : Nat → Nat → Int32 → Int32 → Mem → Prop} (K2 : ∀ (a0 : Nat) (a1 : Nat) (x2 : Int32) (x3 : Int32) (M : Mem), k2 a0 a1 x2 x3 M → J x 4 2 [(0, .ref (xd x a0)), (1, .ref (xd x a1)), (2, .int x2), (3, .int x3)] [] 0 0 M) (a0 : Nat) (a1 : Nat) (x2 : Int32) (x3 : Int32) (M : Mem) (h : B_He_offerRows_38 k2 post a0 a1 x2 x3 M) : J x 4 38 [(0, .ref (xd x a0)), (1, .ref (xd x a1)), (2, .int x2), (3, .int x3)] [] 0 0 M := by
  unfold B_He_offerRows_38 at h
  refine J_iinc (v := x3 + 1) (lv' := [(3, .int (x3 + 1)), (0, .ref (xd x a0)), (1, .ref (xd x a1)), (2, .int x2)]) C 3 3 D_He_offerRows_38 rfl rfl (by decide) rfl ?_
  refine J_goto (tgt := 2) C D_He_offerRows_41 (by decide) ?_
  exact J_sub [1, 2, 3, 0] rfl (K2 _ _ _ _ _ h)
def B_He_offerRows_2 (k2 : Nat → Nat → Int32 → Int32 → Mem → Prop) (post : Mem → Prop) (a0 : Nat) (a1 : Nat) (x2 : Int32) (x3 : Int32) (M : Mem) : Prop := (isK M a0 1 ∧ ((gI M a0 4) ≤ x3 → (post M)) ∧ (¬ (gI M a0 4) ≤ x3 → (isK M a0 1 ∧ ∃ q11, gR M a0 2 = some q11 ∧ isA M q11 8 x3 ∧ (¬ (gI M q11 (Int32.toNatClampNeg x3)) = x2 → (B_He_offerRows_38 k2 post a0 a1 x2 x3 M)) ∧ ((gI M q11 (Int32.toNatClampNeg x3)) = x2 → (isK M a0 1 ∧ ∃ q23, gR M a0 1 = some q23 ∧ isK M a0 1 ∧ T_He_load a0 x3 q23 M (fun M26 => isK M26 a0 1 ∧ ∃ q32, gR M26 a0 1 = some q32 ∧ isK M26 a1 0 ∧ T_Ba_offer a1 x2 q32 M26 (fun M35 => B_He_offerRows_38 k2 post a0 a1 x2 x3 M35)))))))
set_option maxRecDepth 20000 in
theorem Z_He_offerRows_2 {x : Ctx} {post : Mem → Prop} (C : Ok x b_He_offerRows 4 "HeapTower$Heap") (hR : xR x = rm_He_offerRows) (Rt : RetV x post 0 0) {k2 : Nat → Nat → Int32 → Int32 → Mem → Prop} (K2 : ∀ (a0 : Nat) (a1 : Nat) (x2 : Int32) (x3 : Int32) (M : Mem), k2 a0 a1 x2 x3 M → J x 4 2 [(0, .ref (xd x a0)), (1, .ref (xd x a1)), (2, .int x2), (3, .int x3)] [] 0 0 M) (a0 : Nat) (a1 : Nat) (x2 : Int32) (x3 : Int32) (M : Mem) (h : B_He_offerRows_2 k2 post a0 a1 x2 x3 M) : J x 4 2 [(0, .ref (xd x a0)), (1, .ref (xd x a1)), (2, .int x2), (3, .int x3)] [] 0 0 M := by
  unfold B_He_offerRows_2 at h
  refine J_iload_n C 3 D_He_offerRows_2 rfl rfl ?_
  refine J_aload_n C 0 D_He_offerRows_3 rfl rfl ?_
  obtain ⟨c_4, h⟩ := h
  refine J_getI C fl_He_27 D_He_offerRows_4 c_4 ?_
  refine J_icmp_ge (tgt := 44) C D_He_offerRows_7 (by decide) (fun c_7 => ?_) (fun c_7 => ?_)
  · have h := h.1 c_7
    exact J_vret C Rt D_He_offerRows_44 h
  · have h := h.2 c_7
    refine J_aload_n C 0 D_He_offerRows_10 rfl rfl ?_
    obtain ⟨c_11, q11, e_11, h⟩ := h
    refine J_getR C fl_He_9 D_He_offerRows_11 c_11 e_11 ?_
    refine J_iload_n C 3 D_He_offerRows_14 rfl rfl ?_
    obtain ⟨c_15, h⟩ := h
    refine J_iald C D_He_offerRows_15 c_15 ?_
    refine J_iload_n C 2 D_He_offerRows_16 rfl rfl ?_
    refine J_icmp_ne (tgt := 38) C D_He_offerRows_17 (by decide) (fun c_17 => ?_) (fun c_17 => ?_)
    · have h := h.1 c_17
      exact J_sub [0, 1, 2, 3] rfl (Z_He_offerRows_38 C hR Rt K2 _ _ _ _ _ h)
    · have h := h.2 c_17
      refine J_aload_n C 0 D_He_offerRows_20 rfl rfl ?_
      refine J_iload_n C 3 D_He_offerRows_21 rfl rfl ?_
      refine J_aload_n C 0 D_He_offerRows_22 rfl rfl ?_
      obtain ⟨c_23, q23, e_23, h⟩ := h
      refine J_getR C fl_He_24 D_He_offerRows_23 c_23 e_23 ?_
      obtain ⟨c_26, h⟩ := h
      refine J_callVv C ml_He_52 (S_He_load _ _ _ _ _ h) (by rw [hR]; decide) rfl c_26 rfl (Nat.le_of_ble_eq_true rfl) D_He_offerRows_26 (fun M26 h => ?_)
      refine J_aload_n C 1 D_He_offerRows_29 rfl rfl ?_
      refine J_iload_n C 2 D_He_offerRows_30 rfl rfl ?_
      refine J_aload_n C 0 D_He_offerRows_31 rfl rfl ?_
      obtain ⟨c_32, q32, e_32, h⟩ := h
      refine J_getR C fl_He_24 D_He_offerRows_32 c_32 e_32 ?_
      obtain ⟨c_35, h⟩ := h
      refine J_callVv C ml_He_55 (S_Ba_offer _ _ _ _ _ h) (by rw [hR]; decide) rfl c_35 rfl (Nat.le_of_ble_eq_true rfl) D_He_offerRows_35 (fun M35 h => ?_)
      exact J_sub [0, 1, 2, 3] rfl (Z_He_offerRows_38 C hR Rt K2 _ _ _ _ _ h)
def L_He_offerRows_2 (post : Mem → Prop) : Nat → Nat → Nat → Int32 → Int32 → Mem → Prop
  | 0, _, _, _, _, _ => False
  | n + 1, a0, a1, x2, x3, M => B_He_offerRows_2 (L_He_offerRows_2 post n) post a0 a1 x2 x3 M
theorem Y_He_offerRows_2 {x : Ctx} {post : Mem → Prop} (C : Ok x b_He_offerRows 4 "HeapTower$Heap") (hR : xR x = rm_He_offerRows) (Rt : RetV x post 0 0) : ∀ (n : Nat) (a0 : Nat) (a1 : Nat) (x2 : Int32) (x3 : Int32) (M : Mem), L_He_offerRows_2 post n a0 a1 x2 x3 M → J x 4 2 [(0, .ref (xd x a0)), (1, .ref (xd x a1)), (2, .int x2), (3, .int x3)] [] 0 0 M := by
  intro n
  induction n with
  | zero => intro a0 a1 x2 x3 M h; exact h.elim
  | succ n ih => intro a0 a1 x2 x3 M h; exact Z_He_offerRows_2 C hR Rt ih _ _ _ _ _ h
def T_He_offerRows (a0 : Nat) (a1 : Nat) (x2 : Int32) (M : Mem) (post : Mem → Prop) : Prop := (∃ n, L_He_offerRows_2 post n a0 a1 x2 0 M)
set_option maxRecDepth 20000 in
theorem S_He_offerRows {l : Launch} {D : va_G} {B t g : Nat} {d : Nat → Nat} {ac : Nat → ClassId}  (a0 : Nat) (a1 : Nat) (x2 : Int32) (M : Mem) (post : Mem → Prop) (h : T_He_offerRows a0 a1 x2 M post) : Met l y_He_offerRows w_He_offerRows rm_He_offerRows (va_Pc [.ref (d a0), .ref (d a1), .int x2] (PRE D B d g t ac M)) (QV D B d g ac post) 0 0 (AB B) := by
  refine met_v (by decide +kernel) (Nat.le_of_ble_eq_true rfl) (fun x h1 hR h3 h4 h5 h6 h7 h8 C Rt Nm => ?_)
  subst h3 h4 h5 h6 h7 h8
  unfold T_He_offerRows at h
  show J x 4 0 [(0, .ref (xd x a0)), (1, .ref (xd x a1)), (2, .int x2)] [] 0 0 M
  refine J_iconst (v := 0) C D_He_offerRows_0 rfl ?_
  refine J_istore_n (lv' := [(3, .int 0), (0, .ref (xd x a0)), (1, .ref (xd x a1)), (2, .int x2)]) C 3 D_He_offerRows_1 rfl (by decide) rfl ?_
  obtain ⟨n, h⟩ := h
  exact J_sub [1, 2, 3, 0] rfl (Y_He_offerRows_2 C hR Rt  n _ _ _ _ _ h)
theorem D_He_baseUpTo_0 : decode b_He_baseUpTo 0 = .ok (.aload_n 0, 1) := by decide +kernel
theorem D_He_baseUpTo_1 : decode b_He_baseUpTo 1 = .ok (.getfield 20, 3) := by decide +kernel
theorem D_He_baseUpTo_4 : decode b_He_baseUpTo 4 = .ok (.invokevirtual 58, 3) := by decide +kernel
theorem D_He_baseUpTo_7 : decode b_He_baseUpTo 7 = .ok (.iconst 1, 1) := by decide +kernel
theorem D_He_baseUpTo_8 : decode b_He_baseUpTo 8 = .ok (.iadd, 1) := by decide +kernel
theorem D_He_baseUpTo_9 : decode b_He_baseUpTo 9 = .ok (.istore_n 2, 1) := by decide +kernel
theorem D_He_baseUpTo_10 : decode b_He_baseUpTo 10 = .ok (.iload_n 2, 1) := by decide +kernel
theorem D_He_baseUpTo_11 : decode b_He_baseUpTo 11 = .ok (.iload_n 1, 1) := by decide +kernel
theorem D_He_baseUpTo_12 : decode b_He_baseUpTo 12 = .ok (.if_icmp .gt 34, 3) := by decide +kernel
theorem D_He_baseUpTo_15 : decode b_He_baseUpTo 15 = .ok (.aload_n 0, 1) := by decide +kernel
theorem D_He_baseUpTo_16 : decode b_He_baseUpTo 16 = .ok (.getfield 20, 3) := by decide +kernel
theorem D_He_baseUpTo_19 : decode b_He_baseUpTo 19 = .ok (.iload_n 2, 1) := by decide +kernel
theorem D_He_baseUpTo_20 : decode b_He_baseUpTo 20 = .ok (.invokevirtual 62, 3) := by decide +kernel
theorem D_He_baseUpTo_23 : decode b_He_baseUpTo 23 = .ok (.aload_n 0, 1) := by decide +kernel
theorem D_He_baseUpTo_24 : decode b_He_baseUpTo 24 = .ok (.aload_n 0, 1) := by decide +kernel
theorem D_He_baseUpTo_25 : decode b_He_baseUpTo 25 = .ok (.getfield 20, 3) := by decide +kernel
theorem D_He_baseUpTo_28 : decode b_He_baseUpTo 28 = .ok (.iload_n 2, 1) := by decide +kernel
theorem D_He_baseUpTo_29 : decode b_He_baseUpTo 29 = .ok (.invokevirtual 65, 3) := by decide +kernel
theorem D_He_baseUpTo_32 : decode b_He_baseUpTo 32 = .ok (.aload_n 0, 1) := by decide +kernel
theorem D_He_baseUpTo_33 : decode b_He_baseUpTo 33 = .ok (.getfield 20, 3) := by decide +kernel
theorem D_He_baseUpTo_36 : decode b_He_baseUpTo 36 = .ok (.iload_n 2, 1) := by decide +kernel
theorem D_He_baseUpTo_37 : decode b_He_baseUpTo 37 = .ok (.invokevirtual 69, 3) := by decide +kernel
theorem D_He_baseUpTo_40 : decode b_He_baseUpTo 40 = .ok (.iinc 2 1, 3) := by decide +kernel
theorem D_He_baseUpTo_43 : decode b_He_baseUpTo 43 = .ok (.goto (-33), 3) := by decide +kernel
theorem D_He_baseUpTo_46 : decode b_He_baseUpTo 46 = .ok (.aload_n 0, 1) := by decide +kernel
theorem D_He_baseUpTo_47 : decode b_He_baseUpTo 47 = .ok (.getfield 20, 3) := by decide +kernel
theorem D_He_baseUpTo_50 : decode b_He_baseUpTo 50 = .ok (.areturn, 1) := by decide +kernel
def B_He_baseUpTo_10 (k10 : Nat → Int32 → Int32 → Mem → Prop) (post : Nat → Mem → Prop) (a0 : Nat) (x1 : Int32) (x2 : Int32) (M : Mem) : Prop := ((x1 < x2 → (isK M a0 1 ∧ ∃ q47, gR M a0 0 = some q47 ∧ post q47 M)) ∧ (¬ x1 < x2 → (isK M a0 1 ∧ ∃ q16, gR M a0 0 = some q16 ∧ isK M q16 0 ∧ isK M a0 1 ∧ T_Ba_open q16 x2 M (fun M20 => isK M20 a0 1 ∧ isK M20 a0 1 ∧ ∃ q25, gR M20 a0 0 = some q25 ∧ isK M20 a0 1 ∧ T_He_offerRows a0 q25 x2 M20 (fun M29 => isK M29 a0 1 ∧ ∃ q33, gR M29 a0 0 = some q33 ∧ isK M29 q33 0 ∧ T_Ba_close q33 x2 M29 (fun M37 => k10 a0 x1 (x2 + 1) M37))))))
set_option maxRecDepth 20000 in
theorem Z_He_baseUpTo_10 {x : Ctx} {post : Nat → Mem → Prop} (C : Ok x b_He_baseUpTo 3 "HeapTower$Heap") (hR : (xR x).frames = 5 ∧ (xR x).locals = 131) (Bd : Bdg x 0) {z : Nat} (Rt : RetRD x (.object "HeapTower$Base") post z) {k10 : Nat → Int32 → Int32 → Mem → Prop} (K10 : ∀ x', Sm x x' → ∀ (a0 : Nat) (x1 : Int32) (x2 : Int32) (M : Mem), nC M + xg x' ≤ 2800 → k10 a0 x1 x2 M → J x' 3 10 [(0, .ref (xd x' a0)), (1, .int x1), (2, .int x2)] [] (iC x' M) (iS 0 x' M) M) (a0 : Nat) (x1 : Int32) (x2 : Int32) (M : Mem) (hN : nC M + xg x ≤ 2800) (h : B_He_baseUpTo_10 k10 post a0 x1 x2 M) : J x 3 10 [(0, .ref (xd x a0)), (1, .int x1), (2, .int x2)] [] (iC x M) (iS 0 x M) M := by
  unfold B_He_baseUpTo_10 at h
  refine J_iload_n C 2 D_He_baseUpTo_10 rfl rfl ?_
  refine J_iload_n C 1 D_He_baseUpTo_11 rfl rfl ?_
  refine J_icmp_gt (tgt := 46) C D_He_baseUpTo_12 (by decide) (fun c_12 => ?_) (fun c_12 => ?_)
  · have h := h.1 c_12
    refine J_aload_n C 0 D_He_baseUpTo_46 rfl rfl ?_
    obtain ⟨c_47, q47, e_47, h⟩ := h
    refine J_getR C fl_He_20 D_He_baseUpTo_47 c_47 e_47 ?_
    exact JD_aret C Rt hN D_He_baseUpTo_50 h
  · have h := h.2 c_12
    refine J_aload_n C 0 D_He_baseUpTo_15 rfl rfl ?_
    obtain ⟨c_16, q16, e_16, h⟩ := h
    refine J_getR C fl_He_20 D_He_baseUpTo_16 c_16 e_16 ?_
    refine J_iload_n C 2 D_He_baseUpTo_19 rfl rfl ?_
    obtain ⟨c_20, h⟩ := h
    refine J_sub [0, 1, 2] rfl ?_
    obtain ⟨i_20_0, h⟩ := h
    refine JD_callVv C Bd hN ml_He_62 (S_Ba_open _ _ _ _ hN h) (by rw [hR.1, hR.2]; decide) rfl c_20 rfl (Nat.le_of_ble_eq_true rfl) D_He_baseUpTo_20 (fun x ex M20 hN hq h => ?_)
    have C := ex.ok C
    have hR := ex.fr hR
    have Bd := ex.bd Bd
    have Rt := ex.rr Rt
    have K10 := fun x2 s2 => K10 x2 (ex.tr s2)
    obtain ⟨j_20_0, h⟩ := h
    rw [hq a0 1 (by decide) i_20_0 j_20_0]
    refine J_aload_n C 0 D_He_baseUpTo_23 rfl rfl ?_
    refine J_aload_n C 0 D_He_baseUpTo_24 rfl rfl ?_
    obtain ⟨c_25, q25, e_25, h⟩ := h
    refine J_getR C fl_He_20 D_He_baseUpTo_25 c_25 e_25 ?_
    refine J_iload_n C 2 D_He_baseUpTo_28 rfl rfl ?_
    obtain ⟨c_29, h⟩ := h
    refine JS_callVv C Bd hN ml_He_65 (S_He_offerRows _ _ _ _ _ h) ⟨rfl, rfl⟩ (by rw [hR.1, hR.2]; decide) rfl c_29 rfl (Nat.le_of_ble_eq_true rfl) D_He_baseUpTo_29 (fun M29 hN h => ?_)
    refine J_aload_n C 0 D_He_baseUpTo_32 rfl rfl ?_
    obtain ⟨c_33, q33, e_33, h⟩ := h
    refine J_getR C fl_He_20 D_He_baseUpTo_33 c_33 e_33 ?_
    refine J_iload_n C 2 D_He_baseUpTo_36 rfl rfl ?_
    obtain ⟨c_37, h⟩ := h
    refine JS_callVv C Bd hN ml_He_69 (S_Ba_close _ _ _ _ h) ⟨rfl, rfl⟩ (by rw [hR.1, hR.2]; decide) rfl c_37 rfl (Nat.le_of_ble_eq_true rfl) D_He_baseUpTo_37 (fun M37 hN h => ?_)
    refine J_iinc (v := x2 + 1) (lv' := [(2, .int (x2 + 1)), (0, .ref (xd x a0)), (1, .int x1)]) C 2 2 D_He_baseUpTo_40 rfl rfl (by decide) rfl ?_
    refine J_goto (tgt := 10) C D_He_baseUpTo_43 (by decide) ?_
    exact J_sub [1, 2, 0] rfl (K10 x (Sm.rf x) _ _ _ _ hN h)
def L_He_baseUpTo_10 (post : Nat → Mem → Prop) : Nat → Nat → Int32 → Int32 → Mem → Prop
  | 0, _, _, _, _ => False
  | n + 1, a0, x1, x2, M => B_He_baseUpTo_10 (L_He_baseUpTo_10 post n) post a0 x1 x2 M
theorem Y_He_baseUpTo_10 {x : Ctx} {post : Nat → Mem → Prop} (C : Ok x b_He_baseUpTo 3 "HeapTower$Heap") (hR : (xR x).frames = 5 ∧ (xR x).locals = 131) (Bd : Bdg x 0) {z : Nat} (Rt : RetRD x (.object "HeapTower$Base") post z) : ∀ (n : Nat) (x' : Ctx), Sm x x' → ∀ (a0 : Nat) (x1 : Int32) (x2 : Int32) (M : Mem), nC M + xg x' ≤ 2800 → L_He_baseUpTo_10 post n a0 x1 x2 M → J x' 3 10 [(0, .ref (xd x' a0)), (1, .int x1), (2, .int x2)] [] (iC x' M) (iS 0 x' M) M := by
  intro n
  induction n with
  | zero => intro x' ex a0 x1 x2 M hN h; exact h.elim
  | succ n ih => intro x' ex a0 x1 x2 M hN h; exact Z_He_baseUpTo_10 (ex.ok C) (ex.fr hR) (ex.bd Bd) (ex.rr Rt) (fun x2 s2 => ih x2 (ex.tr s2)) _ _ _ _ hN h
def T_He_baseUpTo (a0 : Nat) (x1 : Int32) (M : Mem) (post : Nat → Mem → Prop) : Prop := (isK M a0 1 ∧ ∃ q1, gR M a0 0 = some q1 ∧ isK M q1 0 ∧ T_Ba_reached q1 M (fun r4 M4 => ∃ n, L_He_baseUpTo_10 post n a0 x1 (r4 + 1) M4))
set_option maxRecDepth 20000 in
theorem S_He_baseUpTo {l : Launch} {D : va_G} {B t g : Nat} {d : Nat → Nat} {ac : Nat → ClassId} (a0 : Nat) (x1 : Int32) (M : Mem) (post : Nat → Mem → Prop) (hN : nC M + g ≤ 2800) (h : T_He_baseUpTo a0 x1 M post) : Met l y_He_baseUpTo w_He_baseUpTo (rmD 5 131 (nC M + g)) (va_Pc [.ref (d a0), .int x1] (PRE D B d g t ac M)) (QRD D B ac post) (2800 - (nC M + g)) (2560 * (2800 - (nC M + g))) (AB B) := by
  refine met_rD (by decide +kernel) (Or.inl ⟨_, rfl⟩) (Nat.le_of_ble_eq_true rfl) hN (fun x h1 hR h3 h4 h5 h6 h7 h8 C Bd Rt hN => ?_)
  subst h3 h4 h5 h6 h7 h8
  unfold T_He_baseUpTo at h
  show J x 3 0 [(0, .ref (xd x a0)), (1, .int x1)] [] (iC x M) (iS 0 x M) M
  refine J_aload_n C 0 D_He_baseUpTo_0 rfl rfl ?_
  obtain ⟨c_1, q1, e_1, h⟩ := h
  refine J_getR C fl_He_20 D_He_baseUpTo_1 c_1 e_1 ?_
  obtain ⟨c_4, h⟩ := h
  refine JS_callVi C Bd hN ml_He_58 (S_Ba_reached _ _ _ h) ⟨rfl, rfl⟩ (by rw [hR.1, hR.2]; decide) rfl c_4 rfl (Nat.le_of_ble_eq_true rfl) D_He_baseUpTo_4 (fun r4 M4 hN h => ?_)
  refine J_iconst (v := 1) C D_He_baseUpTo_7 rfl ?_
  refine J_iadd C D_He_baseUpTo_8 ?_
  refine J_istore_n (lv' := [(2, .int (r4 + 1)), (0, .ref (xd x a0)), (1, .int x1)]) C 2 D_He_baseUpTo_9 rfl (by decide) rfl ?_
  obtain ⟨n, h⟩ := h
  exact J_sub [1, 2, 0] rfl (Y_He_baseUpTo_10 C hR Bd Rt  n x (Sm.rf x) _ _ _ _ hN h)
theorem D_He_become_0 : decode b_He_become 0 = .ok (.iconst 0, 1) := by decide +kernel
theorem D_He_become_1 : decode b_He_become 1 = .ok (.istore_n 2, 1) := by decide +kernel
theorem D_He_become_2 : decode b_He_become 2 = .ok (.iload_n 2, 1) := by decide +kernel
theorem D_He_become_3 : decode b_He_become 3 = .ok (.aload_n 1, 1) := by decide +kernel
theorem D_He_become_4 : decode b_He_become 4 = .ok (.getfield 27, 3) := by decide +kernel
theorem D_He_become_7 : decode b_He_become 7 = .ok (.if_icmp .ge 40, 3) := by decide +kernel
theorem D_He_become_10 : decode b_He_become 10 = .ok (.aload_n 1, 1) := by decide +kernel
theorem D_He_become_11 : decode b_He_become 11 = .ok (.getfield 17, 3) := by decide +kernel
theorem D_He_become_14 : decode b_He_become 14 = .ok (.iload_n 2, 1) := by decide +kernel
theorem D_He_become_15 : decode b_He_become 15 = .ok (.aaload, 1) := by decide +kernel
theorem D_He_become_16 : decode b_He_become 16 = .ok (.iconst 0, 1) := by decide +kernel
theorem D_He_become_17 : decode b_He_become 17 = .ok (.aload_n 0, 1) := by decide +kernel
theorem D_He_become_18 : decode b_He_become 18 = .ok (.getfield 17, 3) := by decide +kernel
theorem D_He_become_21 : decode b_He_become 21 = .ok (.iload_n 2, 1) := by decide +kernel
theorem D_He_become_22 : decode b_He_become 22 = .ok (.aaload, 1) := by decide +kernel
theorem D_He_become_23 : decode b_He_become 23 = .ok (.iconst 0, 1) := by decide +kernel
theorem D_He_become_24 : decode b_He_become 24 = .ok (.bipush 21, 2) := by decide +kernel
theorem D_He_become_26 : decode b_He_become 26 = .ok (.invokestatic 46, 3) := by decide +kernel
theorem D_He_become_29 : decode b_He_become 29 = .ok (.aload_n 0, 1) := by decide +kernel
theorem D_He_become_30 : decode b_He_become 30 = .ok (.getfield 9, 3) := by decide +kernel
theorem D_He_become_33 : decode b_He_become 33 = .ok (.iload_n 2, 1) := by decide +kernel
theorem D_He_become_34 : decode b_He_become 34 = .ok (.aload_n 1, 1) := by decide +kernel
theorem D_He_become_35 : decode b_He_become 35 = .ok (.getfield 9, 3) := by decide +kernel
theorem D_He_become_38 : decode b_He_become 38 = .ok (.iload_n 2, 1) := by decide +kernel
theorem D_He_become_39 : decode b_He_become 39 = .ok (.iaload, 1) := by decide +kernel
theorem D_He_become_40 : decode b_He_become 40 = .ok (.iastore, 1) := by decide +kernel
theorem D_He_become_41 : decode b_He_become 41 = .ok (.iinc 2 1, 3) := by decide +kernel
theorem D_He_become_44 : decode b_He_become 44 = .ok (.goto (-42), 3) := by decide +kernel
theorem D_He_become_47 : decode b_He_become 47 = .ok (.aload_n 0, 1) := by decide +kernel
theorem D_He_become_48 : decode b_He_become 48 = .ok (.aload_n 1, 1) := by decide +kernel
theorem D_He_become_49 : decode b_He_become 49 = .ok (.getfield 27, 3) := by decide +kernel
theorem D_He_become_52 : decode b_He_become 52 = .ok (.putfield 27, 3) := by decide +kernel
theorem D_He_become_55 : decode b_He_become 55 = .ok (.aload_n 0, 1) := by decide +kernel
theorem D_He_become_56 : decode b_He_become 56 = .ok (.invokevirtual 31, 3) := by decide +kernel
theorem D_He_become_59 : decode b_He_become 59 = .ok (.return_, 1) := by decide +kernel
abbrev rm_He_become : Room := { frames := 3, cells := 0, slots := 0, locals := 62 }
def B_He_become_2 (k2 : Nat → Nat → Int32 → Mem → Prop) (post : Mem → Prop) (a0 : Nat) (a1 : Nat) (x2 : Int32) (M : Mem) : Prop := (isK M a1 1 ∧ ((gI M a1 4) ≤ x2 → (isK M a1 1 ∧ isK M a0 1 ∧ isK (sI M a0 4 (gI M a1 4)) a0 1 ∧ T_He_forgetBase a0 (sI M a0 4 (gI M a1 4)) (fun M56 => post M56))) ∧ (¬ (gI M a1 4) ≤ x2 → (isK M a1 1 ∧ ∃ q11, gR M a1 3 = some q11 ∧ isA M q11 11 x2 ∧ ∃ q15, gR M q11 (Int32.toNatClampNeg x2) = some q15 ∧ isK M a0 1 ∧ ∃ q18, gR M a0 3 = some q18 ∧ isA M q18 11 x2 ∧ ∃ q22, gR M q18 (Int32.toNatClampNeg x2) = some q22 ∧ cpOk M q15 0 q22 0 21 ∧ isK (cpM M q15 0 q22 0 21) a0 1 ∧ ∃ q30, gR (cpM M q15 0 q22 0 21) a0 2 = some q30 ∧ isK (cpM M q15 0 q22 0 21) a1 1 ∧ ∃ q35, gR (cpM M q15 0 q22 0 21) a1 2 = some q35 ∧ isA (cpM M q15 0 q22 0 21) q35 8 x2 ∧ isA (cpM M q15 0 q22 0 21) q30 8 x2 ∧ k2 a0 a1 (x2 + 1) (sI (cpM M q15 0 q22 0 21) q30 (Int32.toNatClampNeg x2) (gI (cpM M q15 0 q22 0 21) q35 (Int32.toNatClampNeg x2))))))
set_option maxRecDepth 20000 in
theorem Z_He_become_2 {x : Ctx} {post : Mem → Prop} (C : Ok x b_He_become 3 "HeapTower$Heap") (hR : xR x = rm_He_become) (Rt : RetV x post 0 0) {k2 : Nat → Nat → Int32 → Mem → Prop} (K2 : ∀ (a0 : Nat) (a1 : Nat) (x2 : Int32) (M : Mem), k2 a0 a1 x2 M → J x 3 2 [(0, .ref (xd x a0)), (1, .ref (xd x a1)), (2, .int x2)] [] 0 0 M) (a0 : Nat) (a1 : Nat) (x2 : Int32) (M : Mem) (h : B_He_become_2 k2 post a0 a1 x2 M) : J x 3 2 [(0, .ref (xd x a0)), (1, .ref (xd x a1)), (2, .int x2)] [] 0 0 M := by
  unfold B_He_become_2 at h
  refine J_iload_n C 2 D_He_become_2 rfl rfl ?_
  refine J_aload_n C 1 D_He_become_3 rfl rfl ?_
  obtain ⟨c_4, h⟩ := h
  refine J_getI C fl_He_27 D_He_become_4 c_4 ?_
  refine J_icmp_ge (tgt := 47) C D_He_become_7 (by decide) (fun c_7 => ?_) (fun c_7 => ?_)
  · have h := h.1 c_7
    refine J_aload_n C 0 D_He_become_47 rfl rfl ?_
    refine J_aload_n C 1 D_He_become_48 rfl rfl ?_
    obtain ⟨c_49, h⟩ := h
    refine J_getI C fl_He_27 D_He_become_49 c_49 ?_
    obtain ⟨c_52, h⟩ := h
    refine J_putI C fl_He_27 D_He_become_52 c_52 ?_
    refine J_aload_n C 0 D_He_become_55 rfl rfl ?_
    obtain ⟨c_56, h⟩ := h
    refine J_callVv C ml_He_31 (S_He_forgetBase _ _ _ h) (by rw [hR]; decide) rfl c_56 rfl (Nat.le_of_ble_eq_true rfl) D_He_become_56 (fun M56 h => ?_)
    exact J_vret C Rt D_He_become_59 h
  · have h := h.2 c_7
    refine J_aload_n C 1 D_He_become_10 rfl rfl ?_
    obtain ⟨c_11, q11, e_11, h⟩ := h
    refine J_getR C fl_He_17 D_He_become_11 c_11 e_11 ?_
    refine J_iload_n C 2 D_He_become_14 rfl rfl ?_
    obtain ⟨c_15, q15, e_15, h⟩ := h
    refine J_aaldI C D_He_become_15 c_15 e_15 ?_
    refine J_iconst (v := 0) C D_He_become_16 rfl ?_
    refine J_aload_n C 0 D_He_become_17 rfl rfl ?_
    obtain ⟨c_18, q18, e_18, h⟩ := h
    refine J_getR C fl_He_17 D_He_become_18 c_18 e_18 ?_
    refine J_iload_n C 2 D_He_become_21 rfl rfl ?_
    obtain ⟨c_22, q22, e_22, h⟩ := h
    refine J_aaldI C D_He_become_22 c_22 e_22 ?_
    refine J_iconst (v := 0) C D_He_become_23 rfl ?_
    refine J_bipush (v := 21) C D_He_become_24 rfl ?_
    obtain ⟨c_26, h⟩ := h
    refine J_copy C kc_He_46 D_He_become_26 (by rw [hR]; decide) (Nat.le_of_ble_eq_true rfl) c_26 ?_
    refine J_aload_n C 0 D_He_become_29 rfl rfl ?_
    obtain ⟨c_30, q30, e_30, h⟩ := h
    refine J_getR C fl_He_9 D_He_become_30 c_30 e_30 ?_
    refine J_iload_n C 2 D_He_become_33 rfl rfl ?_
    refine J_aload_n C 1 D_He_become_34 rfl rfl ?_
    obtain ⟨c_35, q35, e_35, h⟩ := h
    refine J_getR C fl_He_9 D_He_become_35 c_35 e_35 ?_
    refine J_iload_n C 2 D_He_become_38 rfl rfl ?_
    obtain ⟨c_39, h⟩ := h
    refine J_iald C D_He_become_39 c_39 ?_
    obtain ⟨c_40, h⟩ := h
    refine J_iast C D_He_become_40 c_40 ?_
    refine J_iinc (v := x2 + 1) (lv' := [(2, .int (x2 + 1)), (0, .ref (xd x a0)), (1, .ref (xd x a1))]) C 2 2 D_He_become_41 rfl rfl (by decide) rfl ?_
    refine J_goto (tgt := 2) C D_He_become_44 (by decide) ?_
    exact J_sub [1, 2, 0] rfl (K2 _ _ _ _ h)
def L_He_become_2 (post : Mem → Prop) : Nat → Nat → Nat → Int32 → Mem → Prop
  | 0, _, _, _, _ => False
  | n + 1, a0, a1, x2, M => B_He_become_2 (L_He_become_2 post n) post a0 a1 x2 M
theorem Y_He_become_2 {x : Ctx} {post : Mem → Prop} (C : Ok x b_He_become 3 "HeapTower$Heap") (hR : xR x = rm_He_become) (Rt : RetV x post 0 0) : ∀ (n : Nat) (a0 : Nat) (a1 : Nat) (x2 : Int32) (M : Mem), L_He_become_2 post n a0 a1 x2 M → J x 3 2 [(0, .ref (xd x a0)), (1, .ref (xd x a1)), (2, .int x2)] [] 0 0 M := by
  intro n
  induction n with
  | zero => intro a0 a1 x2 M h; exact h.elim
  | succ n ih => intro a0 a1 x2 M h; exact Z_He_become_2 C hR Rt ih _ _ _ _ h
def T_He_become (a0 : Nat) (a1 : Nat) (M : Mem) (post : Mem → Prop) : Prop := (∃ n, L_He_become_2 post n a0 a1 0 M)
set_option maxRecDepth 20000 in
theorem S_He_become {l : Launch} {D : va_G} {B t g : Nat} {d : Nat → Nat} {ac : Nat → ClassId}  (a0 : Nat) (a1 : Nat) (M : Mem) (post : Mem → Prop) (h : T_He_become a0 a1 M post) : Met l y_He_become w_He_become rm_He_become (va_Pc [.ref (d a0), .ref (d a1)] (PRE D B d g t ac M)) (QV D B d g ac post) 0 0 (AB B) := by
  refine met_v (by decide +kernel) (Nat.le_of_ble_eq_true rfl) (fun x h1 hR h3 h4 h5 h6 h7 h8 C Rt Nm => ?_)
  subst h3 h4 h5 h6 h7 h8
  unfold T_He_become at h
  show J x 3 0 [(0, .ref (xd x a0)), (1, .ref (xd x a1))] [] 0 0 M
  refine J_iconst (v := 0) C D_He_become_0 rfl ?_
  refine J_istore_n (lv' := [(2, .int 0), (0, .ref (xd x a0)), (1, .ref (xd x a1))]) C 2 D_He_become_1 rfl (by decide) rfl ?_
  obtain ⟨n, h⟩ := h
  exact J_sub [1, 2, 0] rfl (Y_He_become_2 C hR Rt  n _ _ _ _ h)
theorem D_He_numbersOf_0 : decode b_He_numbersOf 0 = .ok (.aload_n 0, 1) := by decide +kernel
theorem D_He_numbersOf_1 : decode b_He_numbersOf 1 = .ok (.getfield 17, 3) := by decide +kernel
theorem D_He_numbersOf_4 : decode b_He_numbersOf 4 = .ok (.iload_n 1, 1) := by decide +kernel
theorem D_He_numbersOf_5 : decode b_He_numbersOf 5 = .ok (.aaload, 1) := by decide +kernel
theorem D_He_numbersOf_6 : decode b_He_numbersOf 6 = .ok (.areturn, 1) := by decide +kernel
abbrev rm_He_numbersOf : Room := { frames := 0, cells := 0, slots := 0, locals := 0 }
def T_He_numbersOf (a0 : Nat) (x1 : Int32) (M : Mem) (post : Nat → Mem → Prop) : Prop := (isK M a0 1 ∧ ∃ q1, gR M a0 3 = some q1 ∧ isA M q1 11 x1 ∧ ∃ q5, gR M q1 (Int32.toNatClampNeg x1) = some q5 ∧ post q5 M)
set_option maxRecDepth 20000 in
theorem S_He_numbersOf {l : Launch} {D : va_G} {B t g : Nat} {d : Nat → Nat} {ac : Nat → ClassId}  (a0 : Nat) (x1 : Int32) (M : Mem) (post : Nat → Mem → Prop) (h : T_He_numbersOf a0 x1 M post) : Met l y_He_numbersOf w_He_numbersOf rm_He_numbersOf (va_Pc [.ref (d a0), .int x1] (PRE D B d g t ac M)) (QR D B d g ac post) 0 0 (AB B) := by
  refine met_r (by decide +kernel) (Or.inr ⟨_, rfl⟩) (Nat.le_of_ble_eq_true rfl) (fun x h1 hR h3 h4 h5 h6 h7 h8 C Rt => ?_)
  subst h3 h4 h5 h6 h7 h8
  unfold T_He_numbersOf at h
  show J x 2 0 [(0, .ref (xd x a0)), (1, .int x1)] [] 0 0 M
  refine J_aload_n C 0 D_He_numbersOf_0 rfl rfl ?_
  obtain ⟨c_1, q1, e_1, h⟩ := h
  refine J_getR C fl_He_17 D_He_numbersOf_1 c_1 e_1 ?_
  refine J_iload_n C 1 D_He_numbersOf_4 rfl rfl ?_
  obtain ⟨c_5, q5, e_5, h⟩ := h
  refine J_aaldI C D_He_numbersOf_5 c_5 e_5 ?_
  exact J_aret C Rt D_He_numbersOf_6 h
