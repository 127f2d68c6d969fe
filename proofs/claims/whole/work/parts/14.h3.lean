theorem ml_Mo_170 : MLV "HeapTowerModel" 170 y_Mo_chains b_Mo_chains 3 (some .int) 2 7 := ⟨List.forall_mem_cons.mpr ⟨(gw_in (List.mem_of_getElem? (i := 1026) (by decide +kernel)) (by decide +kernel)), List.forall_mem_cons.mpr ⟨(gw_in (List.mem_of_getElem? (i := 1028) (by decide +kernel)) (by decide +kernel)), List.forall_mem_cons.mpr ⟨(gw_in (List.mem_of_getElem? (i := 53) (by decide +kernel)) (by decide +kernel)), List.forall_mem_cons.mpr ⟨(gw_in (List.mem_of_getElem? (i := 74) (by decide +kernel)) (by decide +kernel)), List.forall_mem_cons.mpr ⟨(gw_in (List.mem_of_getElem? (i := 1029) (by decide +kernel)) (by decide +kernel)), fun _ h => absurd h List.not_mem_nil⟩⟩⟩⟩⟩, by decide, F_Mo, 18, rfl, by decide⟩
theorem ml_Mo_173 : MLV "HeapTowerModel" 173 y_Mo_steps b_Mo_steps 14 (some .int) 2 7 := ⟨List.forall_mem_cons.mpr ⟨(gw_in (List.mem_of_getElem? (i := 1037) (by decide +kernel)) (by decide +kernel)), List.forall_mem_cons.mpr ⟨(gw_in (List.mem_of_getElem? (i := 1039) (by decide +kernel)) (by decide +kernel)), List.forall_mem_cons.mpr ⟨(gw_in (List.mem_of_getElem? (i := 55) (by decide +kernel)) (by decide +kernel)), List.forall_mem_cons.mpr ⟨(gw_in (List.mem_of_getElem? (i := 74) (by decide +kernel)) (by decide +kernel)), List.forall_mem_cons.mpr ⟨(gw_in (List.mem_of_getElem? (i := 1040) (by decide +kernel)) (by decide +kernel)), fun _ h => absurd h List.not_mem_nil⟩⟩⟩⟩⟩, by decide, F_Mo, 18, rfl, by decide⟩
theorem ml_Mo_176 : MLV "HeapTowerModel" 176 y_Mo_mayAsk b_Mo_mayAsk 1 (some .boolean) 0 7 := ⟨List.forall_mem_cons.mpr ⟨(gw_in (List.mem_of_getElem? (i := 1061) (by decide +kernel)) (by decide +kernel)), List.forall_mem_cons.mpr ⟨(gw_in (List.mem_of_getElem? (i := 1063) (by decide +kernel)) (by decide +kernel)), List.forall_mem_cons.mpr ⟨(gw_in (List.mem_of_getElem? (i := 60) (by decide +kernel)) (by decide +kernel)), List.forall_mem_cons.mpr ⟨(gw_in (List.mem_of_getElem? (i := 74) (by decide +kernel)) (by decide +kernel)), List.forall_mem_cons.mpr ⟨(gw_in (List.mem_of_getElem? (i := 1064) (by decide +kernel)) (by decide +kernel)), fun _ h => absurd h List.not_mem_nil⟩⟩⟩⟩⟩, by decide, F_Mo, 18, rfl, by decide⟩
theorem ml_Mo_180 : MLV "HeapTowerModel" 180 y_Mo_quotientOf b_Mo_quotientOf 7 (some .int) 1 7 := ⟨List.forall_mem_cons.mpr ⟨(gw_in (List.mem_of_getElem? (i := 1065) (by decide +kernel)) (by decide +kernel)), List.forall_mem_cons.mpr ⟨(gw_in (List.mem_of_getElem? (i := 1067) (by decide +kernel)) (by decide +kernel)), List.forall_mem_cons.mpr ⟨(gw_in (List.mem_of_getElem? (i := 61) (by decide +kernel)) (by decide +kernel)), List.forall_mem_cons.mpr ⟨(gw_in (List.mem_of_getElem? (i := 74) (by decide +kernel)) (by decide +kernel)), List.forall_mem_cons.mpr ⟨(gw_in (List.mem_of_getElem? (i := 1068) (by decide +kernel)) (by decide +kernel)), fun _ h => absurd h List.not_mem_nil⟩⟩⟩⟩⟩, by decide, F_Mo, 18, rfl, by decide⟩
theorem ml_Mo_183 : MLV "HeapTowerModel" 183 y_Mo_addOther b_Mo_addOther 3 none 1 7 := ⟨List.forall_mem_cons.mpr ⟨(gw_in (List.mem_of_getElem? (i := 1089) (by decide +kernel)) (by decide +kernel)), List.forall_mem_cons.mpr ⟨(gw_in (List.mem_of_getElem? (i := 1091) (by decide +kernel)) (by decide +kernel)), List.forall_mem_cons.mpr ⟨(gw_in (List.mem_of_getElem? (i := 63) (by decide +kernel)) (by decide +kernel)), List.forall_mem_cons.mpr ⟨(gw_in (List.mem_of_getElem? (i := 74) (by decide +kernel)) (by decide +kernel)), List.forall_mem_cons.mpr ⟨(gw_in (List.mem_of_getElem? (i := 1092) (by decide +kernel)) (by decide +kernel)), fun _ h => absurd h List.not_mem_nil⟩⟩⟩⟩⟩, by decide, F_Mo, 18, rfl, by decide⟩
theorem ml_Mo_186 : MLV "HeapTowerModel" 186 y_Mo_dimensionOf3 b_Mo_dimensionOf3 4 (some .int) 1 7 := ⟨List.forall_mem_cons.mpr ⟨(gw_in (List.mem_of_getElem? (i := 1093) (by decide +kernel)) (by decide +kernel)), List.forall_mem_cons.mpr ⟨(gw_in (List.mem_of_getElem? (i := 1095) (by decide +kernel)) (by decide +kernel)), List.forall_mem_cons.mpr ⟨(gw_in (List.mem_of_getElem? (i := 64) (by decide +kernel)) (by decide +kernel)), List.forall_mem_cons.mpr ⟨(gw_in (List.mem_of_getElem? (i := 74) (by decide +kernel)) (by decide +kernel)), List.forall_mem_cons.mpr ⟨(gw_in (List.mem_of_getElem? (i := 1096) (by decide +kernel)) (by decide +kernel)), fun _ h => absurd h List.not_mem_nil⟩⟩⟩⟩⟩, by decide, F_Mo, 18, rfl, by decide⟩
theorem ml_Mo_189 : MLV "HeapTowerModel" 189 y_Mo_multiply b_Mo_multiply 6 none 3 7 := ⟨List.forall_mem_cons.mpr ⟨(gw_in (List.mem_of_getElem? (i := 1097) (by decide +kernel)) (by decide +kernel)), List.forall_mem_cons.mpr ⟨(gw_in (List.mem_of_getElem? (i := 1099) (by decide +kernel)) (by decide +kernel)), List.forall_mem_cons.mpr ⟨(gw_in (List.mem_of_getElem? (i := 65) (by decide +kernel)) (by decide +kernel)), List.forall_mem_cons.mpr ⟨(gw_in (List.mem_of_getElem? (i := 74) (by decide +kernel)) (by decide +kernel)), List.forall_mem_cons.mpr ⟨(gw_in (List.mem_of_getElem? (i := 1100) (by decide +kernel)) (by decide +kernel)), fun _ h => absurd h List.not_mem_nil⟩⟩⟩⟩⟩, by decide, F_Mo, 18, rfl, by decide⟩
theorem ml_Mo_192 : MLV "HeapTowerModel" 192 y_Mo_dimensionOf b_Mo_dimensionOf 5 (some .int) 2 7 := ⟨List.forall_mem_cons.mpr ⟨(gw_in (List.mem_of_getElem? (i := 1085) (by decide +kernel)) (by decide +kernel)), List.forall_mem_cons.mpr ⟨(gw_in (List.mem_of_getElem? (i := 1087) (by decide +kernel)) (by decide +kernel)), List.forall_mem_cons.mpr ⟨(gw_in (List.mem_of_getElem? (i := 62) (by decide +kernel)) (by decide +kernel)), List.forall_mem_cons.mpr ⟨(gw_in (List.mem_of_getElem? (i := 74) (by decide +kernel)) (by decide +kernel)), List.forall_mem_cons.mpr ⟨(gw_in (List.mem_of_getElem? (i := 1088) (by decide +kernel)) (by decide +kernel)), fun _ h => absurd h List.not_mem_nil⟩⟩⟩⟩⟩, by decide, F_Mo, 18, rfl, by decide⟩
theorem D_Mo_free_0 : decode b_Mo_free 0 = .ok (.iload_n 1, 1) := by decide +kernel
theorem D_Mo_free_1 : decode b_Mo_free 1 = .ok (.iconst 0, 1) := by decide +kernel
theorem D_Mo_free_2 : decode b_Mo_free 2 = .ok (.iconst 3, 1) := by decide +kernel
theorem D_Mo_free_3 : decode b_Mo_free 3 = .ok (.invokestatic 75, 3) := by decide +kernel
theorem D_Mo_free_6 : decode b_Mo_free 6 = .ok (.ifCond .eq 13, 3) := by decide +kernel
theorem D_Mo_free_9 : decode b_Mo_free 9 = .ok (.iload_n 2, 1) := by decide +kernel
theorem D_Mo_free_10 : decode b_Mo_free 10 = .ok (.iconst 0, 1) := by decide +kernel
theorem D_Mo_free_11 : decode b_Mo_free 11 = .ok (.bipush 10, 2) := by decide +kernel
theorem D_Mo_free_13 : decode b_Mo_free 13 = .ok (.invokestatic 75, 3) := by decide +kernel
theorem D_Mo_free_16 : decode b_Mo_free 16 = .ok (.ifCond .ne 6, 3) := by decide +kernel
theorem D_Mo_free_19 : decode b_Mo_free 19 = .ok (.ldc 83, 2) := by decide +kernel
theorem D_Mo_free_21 : decode b_Mo_free 21 = .ok (.ireturn, 1) := by decide +kernel
theorem D_Mo_free_22 : decode b_Mo_free 22 = .ok (.iload_n 1, 1) := by decide +kernel
theorem D_Mo_free_23 : decode b_Mo_free 23 = .ok (.aload_n 0, 1) := by decide +kernel
theorem D_Mo_free_24 : decode b_Mo_free 24 = .ok (.getfield 13, 3) := by decide +kernel
theorem D_Mo_free_27 : decode b_Mo_free 27 = .ok (.if_icmp .le 7, 3) := by decide +kernel
theorem D_Mo_free_30 : decode b_Mo_free 30 = .ok (.iconst 0, 1) := by decide +kernel
theorem D_Mo_free_31 : decode b_Mo_free 31 = .ok (.goto 25, 3) := by decide +kernel
theorem D_Mo_free_34 : decode b_Mo_free 34 = .ok (.aload_n 0, 1) := by decide +kernel
theorem D_Mo_free_35 : decode b_Mo_free 35 = .ok (.iload_n 1, 1) := by decide +kernel
theorem D_Mo_free_36 : decode b_Mo_free 36 = .ok (.iload_n 2, 1) := by decide +kernel
theorem D_Mo_free_37 : decode b_Mo_free 37 = .ok (.invokevirtual 170, 3) := by decide +kernel
theorem D_Mo_free_40 : decode b_Mo_free 40 = .ok (.aload_n 0, 1) := by decide +kernel
theorem D_Mo_free_41 : decode b_Mo_free 41 = .ok (.iload_n 1, 1) := by decide +kernel
theorem D_Mo_free_42 : decode b_Mo_free 42 = .ok (.iload_n 2, 1) := by decide +kernel
theorem D_Mo_free_43 : decode b_Mo_free 43 = .ok (.invokevirtual 173, 3) := by decide +kernel
theorem D_Mo_free_46 : decode b_Mo_free 46 = .ok (.isub, 1) := by decide +kernel
theorem D_Mo_free_47 : decode b_Mo_free 47 = .ok (.aload_n 0, 1) := by decide +kernel
theorem D_Mo_free_48 : decode b_Mo_free 48 = .ok (.iload_n 1, 1) := by decide +kernel
theorem D_Mo_free_49 : decode b_Mo_free 49 = .ok (.iconst 1, 1) := by decide +kernel
theorem D_Mo_free_50 : decode b_Mo_free 50 = .ok (.iadd, 1) := by decide +kernel
theorem D_Mo_free_51 : decode b_Mo_free 51 = .ok (.iload_n 2, 1) := by decide +kernel
theorem D_Mo_free_52 : decode b_Mo_free 52 = .ok (.invokevirtual 173, 3) := by decide +kernel
theorem D_Mo_free_55 : decode b_Mo_free 55 = .ok (.isub, 1) := by decide +kernel
theorem D_Mo_free_56 : decode b_Mo_free 56 = .ok (.ireturn, 1) := by decide +kernel
abbrev rm_Mo_free : Room := { frames := 7, cells := 0, slots := 0, locals := 176 }
def B_Mo_free_56 (post : Int32 → Mem → Prop) (s0 : Int32) (M : Mem) : Prop := (post s0 M)
set_option maxRecDepth 20000 in
theorem Z_Mo_free_56 {x : Ctx} {post : Int32 → Mem → Prop} (C : Ok x b_Mo_free 3 "HeapTowerModel") (hR : xR x = rm_Mo_free) (Rt : RetI x .int post 0 0) (s0 : Int32) (M : Mem) (h : B_Mo_free_56 post s0 M) : J x 3 56 [] [.int s0] 0 0 M := by
  unfold B_Mo_free_56 at h
  exact J_iret C Rt D_Mo_free_56 rfl h
def B_Mo_free_19 (post : Int32 → Mem → Prop) (M : Mem) : Prop := (post ((-1000000)) M)
set_option maxRecDepth 20000 in
theorem Z_Mo_free_19 {x : Ctx} {post : Int32 → Mem → Prop} (C : Ok x b_Mo_free 3 "HeapTowerModel") (hR : xR x = rm_Mo_free) (Rt : RetI x .int post 0 0) (M : Mem) (h : B_Mo_free_19 post M) : J x 3 19 [] [] 0 0 M := by
  unfold B_Mo_free_19 at h
  refine J_ldc (v := (-1000000)) C D_Mo_free_19 kw_Mo_83 ?_
  exact J_iret C Rt D_Mo_free_21 rfl h
def T_Mo_free (a0 : Nat) (x1 : Int32) (x2 : Int32) (M : Mem) (post : Int32 → Mem → Prop) : Prop := (T_Mo_in3 x1 0 3 M (fun r3 M3 => (r3 = 0 → (B_Mo_free_19 post M3)) ∧ (¬ r3 = 0 → (T_Mo_in3 x2 0 10 M3 (fun r13 M13 => (¬ r13 = 0 → (isK M13 a0 7 ∧ (x1 ≤ (gI M13 a0 1) → (isK M13 a0 7 ∧ T_Mo_chains a0 x1 x2 M13 (fun r37 M37 => isK M37 a0 7 ∧ T_Mo_steps a0 x1 x2 M37 (fun r43 M43 => isK M43 a0 7 ∧ T_Mo_steps a0 (x1 + 1) x2 M43 (fun r52 M52 => B_Mo_free_56 post ((r37 - r43) - r52) M52))))) ∧ (¬ x1 ≤ (gI M13 a0 1) → (B_Mo_free_56 post 0 M13)))) ∧ (r13 = 0 → (B_Mo_free_19 post M13)))))))
set_option maxRecDepth 20000 in
theorem S_Mo_free {l : Launch} {D : va_G} {B t g : Nat} {d : Nat → Nat} {ac : Nat → ClassId}  (a0 : Nat) (x1 : Int32) (x2 : Int32) (M : Mem) (post : Int32 → Mem → Prop) (h : T_Mo_free a0 x1 x2 M post) : Met l y_Mo_free w_Mo_free rm_Mo_free (va_Pc [.ref (d a0), .int x1, .int x2] (PRE D B d g t ac M)) (QI D B d g ac post) 0 0 (AB B) := by
  refine met_i (by decide +kernel) (Nat.le_of_ble_eq_true rfl) (fun x h1 hR h3 h4 h5 h6 h7 h8 C Rt => ?_)
  subst h3 h4 h5 h6 h7 h8
  unfold T_Mo_free at h
  show J x 3 0 [(0, .ref (xd x a0)), (1, .int x1), (2, .int x2)] [] 0 0 M
  refine J_iload_n C 1 D_Mo_free_0 rfl rfl ?_
  refine J_iconst (v := 0) C D_Mo_free_1 rfl ?_
  refine J_iconst (v := 3) C D_Mo_free_2 rfl ?_
  refine J_callSi C ml_Mo_75 (S_Mo_in3 _ _ _ _ _ h) (by rw [hR]; decide) rfl rfl (Nat.le_of_ble_eq_true rfl) D_Mo_free_3 (fun r3 M3 h => ?_)
  refine J_if_eq (tgt := 19) C D_Mo_free_6 (by decide) (fun c_6 => ?_) (fun c_6 => ?_)
  · have h := h.1 c_6
    exact J_sub [] rfl (Z_Mo_free_19 C hR Rt  _ h)
  · have h := h.2 c_6
    refine J_iload_n C 2 D_Mo_free_9 rfl rfl ?_
    refine J_iconst (v := 0) C D_Mo_free_10 rfl ?_
    refine J_bipush (v := 10) C D_Mo_free_11 rfl ?_
    refine J_callSi C ml_Mo_75 (S_Mo_in3 _ _ _ _ _ h) (by rw [hR]; decide) rfl rfl (Nat.le_of_ble_eq_true rfl) D_Mo_free_13 (fun r13 M13 h => ?_)
    refine J_if_ne (tgt := 22) C D_Mo_free_16 (by decide) (fun c_16 => ?_) (fun c_16 => ?_)
    · have h := h.1 c_16
      refine J_iload_n C 1 D_Mo_free_22 rfl rfl ?_
      refine J_aload_n C 0 D_Mo_free_23 rfl rfl ?_
      obtain ⟨c_24, h⟩ := h
      refine J_getI C fl_Mo_13 D_Mo_free_24 c_24 ?_
      refine J_icmp_le (tgt := 34) C D_Mo_free_27 (by decide) (fun c_27 => ?_) (fun c_27 => ?_)
      · have h := h.1 c_27
        refine J_aload_n C 0 D_Mo_free_34 rfl rfl ?_
        refine J_iload_n C 1 D_Mo_free_35 rfl rfl ?_
        refine J_iload_n C 2 D_Mo_free_36 rfl rfl ?_
        obtain ⟨c_37, h⟩ := h
        refine J_callVi C ml_Mo_170 (S_Mo_chains _ _ _ _ _ h) (by rw [hR]; decide) rfl c_37 rfl (Nat.le_of_ble_eq_true rfl) D_Mo_free_37 (fun r37 M37 h => ?_)
        refine J_aload_n C 0 D_Mo_free_40 rfl rfl ?_
        refine J_iload_n C 1 D_Mo_free_41 rfl rfl ?_
        refine J_iload_n C 2 D_Mo_free_42 rfl rfl ?_
        obtain ⟨c_43, h⟩ := h
        refine J_callVi C ml_Mo_173 (S_Mo_steps _ _ _ _ _ h) (by rw [hR]; decide) rfl c_43 rfl (Nat.le_of_ble_eq_true rfl) D_Mo_free_43 (fun r43 M43 h => ?_)
        refine J_isub C D_Mo_free_46 ?_
        refine J_aload_n C 0 D_Mo_free_47 rfl rfl ?_
        refine J_iload_n C 1 D_Mo_free_48 rfl rfl ?_
        refine J_iconst (v := 1) C D_Mo_free_49 rfl ?_
        refine J_iadd C D_Mo_free_50 ?_
        refine J_iload_n C 2 D_Mo_free_51 rfl rfl ?_
        obtain ⟨c_52, h⟩ := h
        refine J_callVi C ml_Mo_173 (S_Mo_steps _ _ _ _ _ h) (by rw [hR]; decide) rfl c_52 rfl (Nat.le_of_ble_eq_true rfl) D_Mo_free_52 (fun r52 M52 h => ?_)
        refine J_isub C D_Mo_free_55 ?_
        exact J_sub [] rfl (Z_Mo_free_56 C hR Rt  _ _ h)
      · have h := h.2 c_27
        refine J_iconst (v := 0) C D_Mo_free_30 rfl ?_
        refine J_goto (tgt := 56) C D_Mo_free_31 (by decide) ?_
        exact J_sub [] rfl (Z_Mo_free_56 C hR Rt  _ _ h)
    · have h := h.2 c_16
      exact J_sub [] rfl (Z_Mo_free_19 C hR Rt  _ h)
theorem D_Mo_quotientOf_0 : decode b_Mo_quotientOf 0 = .ok (.aload_n 0, 1) := by decide +kernel
theorem D_Mo_quotientOf_1 : decode b_Mo_quotientOf 1 = .ok (.iconst 0, 1) := by decide +kernel
theorem D_Mo_quotientOf_2 : decode b_Mo_quotientOf 2 = .ok (.invokevirtual 72, 3) := by decide +kernel
theorem D_Mo_quotientOf_5 : decode b_Mo_quotientOf 5 = .ok (.istore_n 2, 1) := by decide +kernel
theorem D_Mo_quotientOf_6 : decode b_Mo_quotientOf 6 = .ok (.aload_n 0, 1) := by decide +kernel
theorem D_Mo_quotientOf_7 : decode b_Mo_quotientOf 7 = .ok (.iload_n 1, 1) := by decide +kernel
theorem D_Mo_quotientOf_8 : decode b_Mo_quotientOf 8 = .ok (.invokevirtual 118, 3) := by decide +kernel
theorem D_Mo_quotientOf_11 : decode b_Mo_quotientOf 11 = .ok (.aload_n 0, 1) := by decide +kernel
theorem D_Mo_quotientOf_12 : decode b_Mo_quotientOf 12 = .ok (.getfield 115, 3) := by decide +kernel
theorem D_Mo_quotientOf_15 : decode b_Mo_quotientOf 15 = .ok (.istore_n 3, 1) := by decide +kernel
theorem D_Mo_quotientOf_16 : decode b_Mo_quotientOf 16 = .ok (.iconst 0, 1) := by decide +kernel
theorem D_Mo_quotientOf_17 : decode b_Mo_quotientOf 17 = .ok (.istore 4, 2) := by decide +kernel
theorem D_Mo_quotientOf_19 : decode b_Mo_quotientOf 19 = .ok (.iload 4, 2) := by decide +kernel
theorem D_Mo_quotientOf_21 : decode b_Mo_quotientOf 21 = .ok (.iload_n 3, 1) := by decide +kernel
theorem D_Mo_quotientOf_22 : decode b_Mo_quotientOf 22 = .ok (.if_icmp .ge 23, 3) := by decide +kernel
theorem D_Mo_quotientOf_25 : decode b_Mo_quotientOf 25 = .ok (.aload_n 0, 1) := by decide +kernel
theorem D_Mo_quotientOf_26 : decode b_Mo_quotientOf 26 = .ok (.getfield 42, 3) := by decide +kernel
theorem D_Mo_quotientOf_29 : decode b_Mo_quotientOf 29 = .ok (.iload 4, 2) := by decide +kernel
theorem D_Mo_quotientOf_31 : decode b_Mo_quotientOf 31 = .ok (.aload_n 0, 1) := by decide +kernel
theorem D_Mo_quotientOf_32 : decode b_Mo_quotientOf 32 = .ok (.getfield 20, 3) := by decide +kernel
theorem D_Mo_quotientOf_35 : decode b_Mo_quotientOf 35 = .ok (.iload 4, 2) := by decide +kernel
theorem D_Mo_quotientOf_37 : decode b_Mo_quotientOf 37 = .ok (.iaload, 1) := by decide +kernel
theorem D_Mo_quotientOf_38 : decode b_Mo_quotientOf 38 = .ok (.iastore, 1) := by decide +kernel
theorem D_Mo_quotientOf_39 : decode b_Mo_quotientOf 39 = .ok (.iinc 4 1, 3) := by decide +kernel
theorem D_Mo_quotientOf_42 : decode b_Mo_quotientOf 42 = .ok (.goto (-23), 3) := by decide +kernel
theorem D_Mo_quotientOf_45 : decode b_Mo_quotientOf 45 = .ok (.aload_n 0, 1) := by decide +kernel
theorem D_Mo_quotientOf_46 : decode b_Mo_quotientOf 46 = .ok (.iload_n 1, 1) := by decide +kernel
theorem D_Mo_quotientOf_47 : decode b_Mo_quotientOf 47 = .ok (.iload_n 2, 1) := by decide +kernel
theorem D_Mo_quotientOf_48 : decode b_Mo_quotientOf 48 = .ok (.iadd, 1) := by decide +kernel
theorem D_Mo_quotientOf_49 : decode b_Mo_quotientOf 49 = .ok (.invokevirtual 139, 3) := by decide +kernel
theorem D_Mo_quotientOf_52 : decode b_Mo_quotientOf 52 = .ok (.aload_n 0, 1) := by decide +kernel
theorem D_Mo_quotientOf_53 : decode b_Mo_quotientOf 53 = .ok (.getfield 115, 3) := by decide +kernel
theorem D_Mo_quotientOf_56 : decode b_Mo_quotientOf 56 = .ok (.istore 4, 2) := by decide +kernel
theorem D_Mo_quotientOf_58 : decode b_Mo_quotientOf 58 = .ok (.iconst 0, 1) := by decide +kernel
theorem D_Mo_quotientOf_59 : decode b_Mo_quotientOf 59 = .ok (.istore 5, 2) := by decide +kernel
theorem D_Mo_quotientOf_61 : decode b_Mo_quotientOf 61 = .ok (.iload 5, 2) := by decide +kernel
theorem D_Mo_quotientOf_63 : decode b_Mo_quotientOf 63 = .ok (.iload_n 3, 1) := by decide +kernel
theorem D_Mo_quotientOf_64 : decode b_Mo_quotientOf 64 = .ok (.if_icmp .ge 172, 3) := by decide +kernel
theorem D_Mo_quotientOf_67 : decode b_Mo_quotientOf 67 = .ok (.iconst 0, 1) := by decide +kernel
theorem D_Mo_quotientOf_68 : decode b_Mo_quotientOf 68 = .ok (.istore 6, 2) := by decide +kernel
theorem D_Mo_quotientOf_70 : decode b_Mo_quotientOf 70 = .ok (.iload 6, 2) := by decide +kernel
theorem D_Mo_quotientOf_72 : decode b_Mo_quotientOf 72 = .ok (.iload 4, 2) := by decide +kernel
theorem D_Mo_quotientOf_74 : decode b_Mo_quotientOf 74 = .ok (.if_icmp .ge 17, 3) := by decide +kernel
theorem D_Mo_quotientOf_77 : decode b_Mo_quotientOf 77 = .ok (.aload_n 0, 1) := by decide +kernel
theorem D_Mo_quotientOf_78 : decode b_Mo_quotientOf 78 = .ok (.getfield 29, 3) := by decide +kernel
theorem D_Mo_quotientOf_81 : decode b_Mo_quotientOf 81 = .ok (.iload 6, 2) := by decide +kernel
theorem D_Mo_quotientOf_83 : decode b_Mo_quotientOf 83 = .ok (.iconst 0, 1) := by decide +kernel
theorem D_Mo_quotientOf_84 : decode b_Mo_quotientOf 84 = .ok (.iastore, 1) := by decide +kernel
theorem D_Mo_quotientOf_85 : decode b_Mo_quotientOf 85 = .ok (.iinc 6 1, 3) := by decide +kernel
theorem D_Mo_quotientOf_88 : decode b_Mo_quotientOf 88 = .ok (.goto (-18), 3) := by decide +kernel
theorem D_Mo_quotientOf_91 : decode b_Mo_quotientOf 91 = .ok (.iconst 0, 1) := by decide +kernel
theorem D_Mo_quotientOf_92 : decode b_Mo_quotientOf 92 = .ok (.istore 6, 2) := by decide +kernel
theorem D_Mo_quotientOf_94 : decode b_Mo_quotientOf 94 = .ok (.iload 6, 2) := by decide +kernel
theorem D_Mo_quotientOf_96 : decode b_Mo_quotientOf 96 = .ok (.sipush 1331, 3) := by decide +kernel
theorem D_Mo_quotientOf_99 : decode b_Mo_quotientOf 99 = .ok (.if_icmp .ge 46, 3) := by decide +kernel
theorem D_Mo_quotientOf_102 : decode b_Mo_quotientOf 102 = .ok (.aload_n 0, 1) := by decide +kernel
theorem D_Mo_quotientOf_103 : decode b_Mo_quotientOf 103 = .ok (.iconst 0, 1) := by decide +kernel
theorem D_Mo_quotientOf_104 : decode b_Mo_quotientOf 104 = .ok (.iload 6, 2) := by decide +kernel
theorem D_Mo_quotientOf_106 : decode b_Mo_quotientOf 106 = .ok (.invokevirtual 69, 3) := by decide +kernel
theorem D_Mo_quotientOf_109 : decode b_Mo_quotientOf 109 = .ok (.ifCond .eq 30, 3) := by decide +kernel
theorem D_Mo_quotientOf_112 : decode b_Mo_quotientOf 112 = .ok (.aload_n 0, 1) := by decide +kernel
theorem D_Mo_quotientOf_113 : decode b_Mo_quotientOf 113 = .ok (.getfield 29, 3) := by decide +kernel
theorem D_Mo_quotientOf_116 : decode b_Mo_quotientOf 116 = .ok (.aload_n 0, 1) := by decide +kernel
theorem D_Mo_quotientOf_117 : decode b_Mo_quotientOf 117 = .ok (.getfield 23, 3) := by decide +kernel
theorem D_Mo_quotientOf_120 : decode b_Mo_quotientOf 120 = .ok (.iload 6, 2) := by decide +kernel
theorem D_Mo_quotientOf_122 : decode b_Mo_quotientOf 122 = .ok (.aload_n 0, 1) := by decide +kernel
theorem D_Mo_quotientOf_123 : decode b_Mo_quotientOf 123 = .ok (.getfield 42, 3) := by decide +kernel
theorem D_Mo_quotientOf_126 : decode b_Mo_quotientOf 126 = .ok (.iload 5, 2) := by decide +kernel
theorem D_Mo_quotientOf_128 : decode b_Mo_quotientOf 128 = .ok (.iaload, 1) := by decide +kernel
theorem D_Mo_quotientOf_129 : decode b_Mo_quotientOf 129 = .ok (.iadd, 1) := by decide +kernel
theorem D_Mo_quotientOf_130 : decode b_Mo_quotientOf 130 = .ok (.iaload, 1) := by decide +kernel
theorem D_Mo_quotientOf_131 : decode b_Mo_quotientOf 131 = .ok (.aload_n 0, 1) := by decide +kernel
theorem D_Mo_quotientOf_132 : decode b_Mo_quotientOf 132 = .ok (.iconst 0, 1) := by decide +kernel
theorem D_Mo_quotientOf_133 : decode b_Mo_quotientOf 133 = .ok (.iload 6, 2) := by decide +kernel
theorem D_Mo_quotientOf_135 : decode b_Mo_quotientOf 135 = .ok (.invokevirtual 69, 3) := by decide +kernel
theorem D_Mo_quotientOf_138 : decode b_Mo_quotientOf 138 = .ok (.iastore, 1) := by decide +kernel
theorem D_Mo_quotientOf_139 : decode b_Mo_quotientOf 139 = .ok (.iinc 6 1, 3) := by decide +kernel
theorem D_Mo_quotientOf_142 : decode b_Mo_quotientOf 142 = .ok (.goto (-48), 3) := by decide +kernel
theorem D_Mo_quotientOf_145 : decode b_Mo_quotientOf 145 = .ok (.iconst 0, 1) := by decide +kernel
theorem D_Mo_quotientOf_146 : decode b_Mo_quotientOf 146 = .ok (.istore 6, 2) := by decide +kernel
theorem D_Mo_quotientOf_148 : decode b_Mo_quotientOf 148 = .ok (.iload 6, 2) := by decide +kernel
theorem D_Mo_quotientOf_150 : decode b_Mo_quotientOf 150 = .ok (.iload 4, 2) := by decide +kernel
theorem D_Mo_quotientOf_152 : decode b_Mo_quotientOf 152 = .ok (.if_icmp .ge 42, 3) := by decide +kernel
theorem D_Mo_quotientOf_155 : decode b_Mo_quotientOf 155 = .ok (.aload_n 0, 1) := by decide +kernel
theorem D_Mo_quotientOf_156 : decode b_Mo_quotientOf 156 = .ok (.getfield 32, 3) := by decide +kernel
theorem D_Mo_quotientOf_159 : decode b_Mo_quotientOf 159 = .ok (.iload 6, 2) := by decide +kernel
theorem D_Mo_quotientOf_161 : decode b_Mo_quotientOf 161 = .ok (.baload, 1) := by decide +kernel
theorem D_Mo_quotientOf_162 : decode b_Mo_quotientOf 162 = .ok (.ifCond .eq 26, 3) := by decide +kernel
theorem D_Mo_quotientOf_165 : decode b_Mo_quotientOf 165 = .ok (.aload_n 0, 1) := by decide +kernel
theorem D_Mo_quotientOf_166 : decode b_Mo_quotientOf 166 = .ok (.getfield 29, 3) := by decide +kernel
theorem D_Mo_quotientOf_169 : decode b_Mo_quotientOf 169 = .ok (.iload 6, 2) := by decide +kernel
theorem D_Mo_quotientOf_171 : decode b_Mo_quotientOf 171 = .ok (.iaload, 1) := by decide +kernel
theorem D_Mo_quotientOf_172 : decode b_Mo_quotientOf 172 = .ok (.ifCond .eq 16, 3) := by decide +kernel
theorem D_Mo_quotientOf_175 : decode b_Mo_quotientOf 175 = .ok (.aload_n 0, 1) := by decide +kernel
theorem D_Mo_quotientOf_176 : decode b_Mo_quotientOf 176 = .ok (.iload 6, 2) := by decide +kernel
theorem D_Mo_quotientOf_178 : decode b_Mo_quotientOf 178 = .ok (.aload_n 0, 1) := by decide +kernel
theorem D_Mo_quotientOf_179 : decode b_Mo_quotientOf 179 = .ok (.getfield 29, 3) := by decide +kernel
theorem D_Mo_quotientOf_182 : decode b_Mo_quotientOf 182 = .ok (.iload 6, 2) := by decide +kernel
theorem D_Mo_quotientOf_184 : decode b_Mo_quotientOf 184 = .ok (.iaload, 1) := by decide +kernel
theorem D_Mo_quotientOf_185 : decode b_Mo_quotientOf 185 = .ok (.invokevirtual 124, 3) := by decide +kernel
theorem D_Mo_quotientOf_188 : decode b_Mo_quotientOf 188 = .ok (.iinc 6 1, 3) := by decide +kernel
theorem D_Mo_quotientOf_191 : decode b_Mo_quotientOf 191 = .ok (.goto (-43), 3) := by decide +kernel
theorem D_Mo_quotientOf_194 : decode b_Mo_quotientOf 194 = .ok (.iconst 0, 1) := by decide +kernel
theorem D_Mo_quotientOf_195 : decode b_Mo_quotientOf 195 = .ok (.istore 6, 2) := by decide +kernel
theorem D_Mo_quotientOf_197 : decode b_Mo_quotientOf 197 = .ok (.iload 6, 2) := by decide +kernel
theorem D_Mo_quotientOf_199 : decode b_Mo_quotientOf 199 = .ok (.iload 4, 2) := by decide +kernel
theorem D_Mo_quotientOf_201 : decode b_Mo_quotientOf 201 = .ok (.if_icmp .ge 29, 3) := by decide +kernel
theorem D_Mo_quotientOf_204 : decode b_Mo_quotientOf 204 = .ok (.aload_n 0, 1) := by decide +kernel
theorem D_Mo_quotientOf_205 : decode b_Mo_quotientOf 205 = .ok (.getfield 39, 3) := by decide +kernel
theorem D_Mo_quotientOf_208 : decode b_Mo_quotientOf 208 = .ok (.iload 4, 2) := by decide +kernel
theorem D_Mo_quotientOf_210 : decode b_Mo_quotientOf 210 = .ok (.iload 5, 2) := by decide +kernel
theorem D_Mo_quotientOf_212 : decode b_Mo_quotientOf 212 = .ok (.imul, 1) := by decide +kernel
theorem D_Mo_quotientOf_213 : decode b_Mo_quotientOf 213 = .ok (.iload 6, 2) := by decide +kernel
theorem D_Mo_quotientOf_215 : decode b_Mo_quotientOf 215 = .ok (.iadd, 1) := by decide +kernel
theorem D_Mo_quotientOf_216 : decode b_Mo_quotientOf 216 = .ok (.aload_n 0, 1) := by decide +kernel
theorem D_Mo_quotientOf_217 : decode b_Mo_quotientOf 217 = .ok (.getfield 29, 3) := by decide +kernel
theorem D_Mo_quotientOf_220 : decode b_Mo_quotientOf 220 = .ok (.iload 6, 2) := by decide +kernel
theorem D_Mo_quotientOf_222 : decode b_Mo_quotientOf 222 = .ok (.iaload, 1) := by decide +kernel
theorem D_Mo_quotientOf_223 : decode b_Mo_quotientOf 223 = .ok (.iastore, 1) := by decide +kernel
theorem D_Mo_quotientOf_224 : decode b_Mo_quotientOf 224 = .ok (.iinc 6 1, 3) := by decide +kernel
theorem D_Mo_quotientOf_227 : decode b_Mo_quotientOf 227 = .ok (.goto (-30), 3) := by decide +kernel
theorem D_Mo_quotientOf_230 : decode b_Mo_quotientOf 230 = .ok (.iinc 5 1, 3) := by decide +kernel
theorem D_Mo_quotientOf_233 : decode b_Mo_quotientOf 233 = .ok (.goto (-172), 3) := by decide +kernel
theorem D_Mo_quotientOf_236 : decode b_Mo_quotientOf 236 = .ok (.iload_n 3, 1) := by decide +kernel
theorem D_Mo_quotientOf_237 : decode b_Mo_quotientOf 237 = .ok (.aload_n 0, 1) := by decide +kernel
theorem D_Mo_quotientOf_238 : decode b_Mo_quotientOf 238 = .ok (.iload_n 3, 1) := by decide +kernel
theorem D_Mo_quotientOf_239 : decode b_Mo_quotientOf 239 = .ok (.iload 4, 2) := by decide +kernel
theorem D_Mo_quotientOf_241 : decode b_Mo_quotientOf 241 = .ok (.invokevirtual 167, 3) := by decide +kernel
theorem D_Mo_quotientOf_244 : decode b_Mo_quotientOf 244 = .ok (.isub, 1) := by decide +kernel
theorem D_Mo_quotientOf_245 : decode b_Mo_quotientOf 245 = .ok (.ireturn, 1) := by decide +kernel
abbrev rm_Mo_quotientOf : Room := { frames := 5, cells := 0, slots := 0, locals := 121 }
def B_Mo_quotientOf_197 (k61 : Nat → Int32 → Int32 → Int32 → Mem → Prop) (k197 : Nat → Int32 → Int32 → Int32 → Int32 → Mem → Prop) (post : Int32 → Mem → Prop) (a0 : Nat) (x3 : Int32) (x4 : Int32) (x5 : Int32) (x6 : Int32) (M : Mem) : Prop := ((x4 ≤ x6 → (k61 a0 x3 x4 (x5 + 1) M)) ∧ (¬ x4 ≤ x6 → (isK M a0 7 ∧ ∃ q205, gR M a0 14 = some q205 ∧ isK M a0 7 ∧ ∃ q217, gR M a0 10 = some q217 ∧ isA M q217 8 x6 ∧ isA M q205 8 ((x4 * x5) + x6) ∧ k197 a0 x3 x4 x5 (x6 + 1) (sI M q205 (Int32.toNatClampNeg ((x4 * x5) + x6)) (gI M q217 (Int32.toNatClampNeg x6))))))
set_option maxRecDepth 20000 in
theorem Z_Mo_quotientOf_197 {x : Ctx} {post : Int32 → Mem → Prop} (C : Ok x b_Mo_quotientOf 7 "HeapTowerModel") (hR : xR x = rm_Mo_quotientOf) (Rt : RetI x .int post 0 0) {k61 : Nat → Int32 → Int32 → Int32 → Mem → Prop} (K61 : ∀ (a0 : Nat) (x3 : Int32) (x4 : Int32) (x5 : Int32) (M : Mem), k61 a0 x3 x4 x5 M → J x 7 61 [(0, .ref (xd x a0)), (3, .int x3), (4, .int x4), (5, .int x5)] [] 0 0 M) {k197 : Nat → Int32 → Int32 → Int32 → Int32 → Mem → Prop} (K197 : ∀ (a0 : Nat) (x3 : Int32) (x4 : Int32) (x5 : Int32) (x6 : Int32) (M : Mem), k197 a0 x3 x4 x5 x6 M → J x 7 197 [(0, .ref (xd x a0)), (3, .int x3), (4, .int x4), (5, .int x5), (6, .int x6)] [] 0 0 M) (a0 : Nat) (x3 : Int32) (x4 : Int32) (x5 : Int32) (x6 : Int32) (M : Mem) (h : B_Mo_quotientOf_197 k61 k197 post a0 x3 x4 x5 x6 M) : J x 7 197 [(0, .ref (xd x a0)), (3, .int x3), (4, .int x4), (5, .int x5), (6, .int x6)] [] 0 0 M := by
  unfold B_Mo_quotientOf_197 at h
  refine J_iload C 6 D_Mo_quotientOf_197 rfl ?_
  refine J_iload C 4 D_Mo_quotientOf_199 rfl ?_
  refine J_icmp_ge (tgt := 230) C D_Mo_quotientOf_201 (by decide) (fun c_201 => ?_) (fun c_201 => ?_)
  · have h := h.1 c_201
    refine J_iinc (v := x5 + 1) (lv' := [(5, .int (x5 + 1)), (0, .ref (xd x a0)), (3, .int x3), (4, .int x4), (6, .int x6)]) C 5 3 D_Mo_quotientOf_230 rfl rfl (by decide) rfl ?_
    refine J_goto (tgt := 61) C D_Mo_quotientOf_233 (by decide) ?_
    exact J_sub [1, 2, 3, 0] rfl (K61 _ _ _ _ _ h)
  · have h := h.2 c_201
    refine J_aload_n C 0 D_Mo_quotientOf_204 rfl rfl ?_
    obtain ⟨c_205, q205, e_205, h⟩ := h
    refine J_getR C fl_Mo_39 D_Mo_quotientOf_205 c_205 e_205 ?_
    refine J_iload C 4 D_Mo_quotientOf_208 rfl ?_
    refine J_iload C 5 D_Mo_quotientOf_210 rfl ?_
    refine J_imul C D_Mo_quotientOf_212 ?_
    refine J_iload C 6 D_Mo_quotientOf_213 rfl ?_
    refine J_iadd C D_Mo_quotientOf_215 ?_
    refine J_aload_n C 0 D_Mo_quotientOf_216 rfl rfl ?_
    obtain ⟨c_217, q217, e_217, h⟩ := h
    refine J_getR C fl_Mo_29 D_Mo_quotientOf_217 c_217 e_217 ?_
    refine J_iload C 6 D_Mo_quotientOf_220 rfl ?_
    obtain ⟨c_222, h⟩ := h
    refine J_iald C D_Mo_quotientOf_222 c_222 ?_
    obtain ⟨c_223, h⟩ := h
    refine J_iast C D_Mo_quotientOf_223 c_223 ?_
    refine J_iinc (v := x6 + 1) (lv' := [(6, .int (x6 + 1)), (0, .ref (xd x a0)), (3, .int x3), (4, .int x4), (5, .int x5)]) C 6 4 D_Mo_quotientOf_224 rfl rfl (by decide) rfl ?_
    refine J_goto (tgt := 197) C D_Mo_quotientOf_227 (by decide) ?_
    exact J_sub [1, 2, 3, 4, 0] rfl (K197 _ _ _ _ _ _ h)
def L_Mo_quotientOf_197 (k61 : Nat → Int32 → Int32 → Int32 → Mem → Prop) (post : Int32 → Mem → Prop) : Nat → Nat → Int32 → Int32 → Int32 → Int32 → Mem → Prop
  | 0, _, _, _, _, _, _ => False
  | n + 1, a0, x3, x4, x5, x6, M => B_Mo_quotientOf_197 k61 (L_Mo_quotientOf_197 k61 post n) post a0 x3 x4 x5 x6 M
theorem Y_Mo_quotientOf_197 {x : Ctx} {post : Int32 → Mem → Prop} (C : Ok x b_Mo_quotientOf 7 "HeapTowerModel") (hR : xR x = rm_Mo_quotientOf) (Rt : RetI x .int post 0 0) {k61 : Nat → Int32 → Int32 → Int32 → Mem → Prop} (K61 : ∀ (a0 : Nat) (x3 : Int32) (x4 : Int32) (x5 : Int32) (M : Mem), k61 a0 x3 x4 x5 M → J x 7 61 [(0, .ref (xd x a0)), (3, .int x3), (4, .int x4), (5, .int x5)] [] 0 0 M) : ∀ (n : Nat) (a0 : Nat) (x3 : Int32) (x4 : Int32) (x5 : Int32) (x6 : Int32) (M : Mem), L_Mo_quotientOf_197 k61 post n a0 x3 x4 x5 x6 M → J x 7 197 [(0, .ref (xd x a0)), (3, .int x3), (4, .int x4), (5, .int x5), (6, .int x6)] [] 0 0 M := by
  intro n
  induction n with
  | zero => intro a0 x3 x4 x5 x6 M h; exact h.elim
  | succ n ih => intro a0 x3 x4 x5 x6 M h; exact Z_Mo_quotientOf_197 C hR Rt K61 ih _ _ _ _ _ _ h
def B_Mo_quotientOf_188 (k61 : Nat → Int32 → Int32 → Int32 → Mem → Prop) (k148 : Nat → Int32 → Int32 → Int32 → Int32 → Mem → Prop) (post : Int32 → Mem → Prop) (a0 : Nat) (x3 : Int32) (x4 : Int32) (x5 : Int32) (x6 : Int32) (M : Mem) : Prop := (k148 a0 x3 x4 x5 (x6 + 1) M)
set_option maxRecDepth 20000 in
theorem Z_Mo_quotientOf_188 {x : Ctx} {post : Int32 → Mem → Prop} (C : Ok x b_Mo_quotientOf 7 "HeapTowerModel") (hR : xR x = rm_Mo_quotientOf) (Rt : RetI x .int post 0 0) {k61 : Nat → Int32 → Int32 → Int32 → Mem → Prop} (K61 : ∀ (a0 : Nat) (x3 : Int32) (x4 : Int32) (x5 : Int32) (M : Mem), k61 a0 x3 x4 x5 M → J x 7 61 [(0, .ref (xd x a0)), (3, .int x3), (4, .int x4), (5, .int x5)] [] 0 0 M) {k148 : Nat → Int32 → Int32 → Int32 → Int32 → Mem → Prop} (K148 : ∀ (a0 : Nat) (x3 : Int32) (x4 : Int32) (x5 : Int32) (x6 : Int32) (M : Mem), k148 a0 x3 x4 x5 x6 M → J x 7 148 [(0, .ref (xd x a0)), (3, .int x3), (4, .int x4), (5, .int x5), (6, .int x6)] [] 0 0 M) (a0 : Nat) (x3 : Int32) (x4 : Int32) (x5 : Int32) (x6 : Int32) (M : Mem) (h : B_Mo_quotientOf_188 k61 k148 post a0 x3 x4 x5 x6 M) : J x 7 188 [(0, .ref (xd x a0)), (3, .int x3), (4, .int x4), (5, .int x5), (6, .int x6)] [] 0 0 M := by
  unfold B_Mo_quotientOf_188 at h
  refine J_iinc (v := x6 + 1) (lv' := [(6, .int (x6 + 1)), (0, .ref (xd x a0)), (3, .int x3), (4, .int x4), (5, .int x5)]) C 6 4 D_Mo_quotientOf_188 rfl rfl (by decide) rfl ?_
  refine J_goto (tgt := 148) C D_Mo_quotientOf_191 (by decide) ?_
  exact J_sub [1, 2, 3, 4, 0] rfl (K148 _ _ _ _ _ _ h)
def B_Mo_quotientOf_148 (k61 : Nat → Int32 → Int32 → Int32 → Mem → Prop) (k148 : Nat → Int32 → Int32 → Int32 → Int32 → Mem → Prop) (post : Int32 → Mem → Prop) (a0 : Nat) (x3 : Int32) (x4 : Int32) (x5 : Int32) (x6 : Int32) (M : Mem) : Prop := ((x4 ≤ x6 → (∃ n, L_Mo_quotientOf_197 k61 post n a0 x3 x4 x5 0 M)) ∧ (¬ x4 ≤ x6 → (isK M a0 7 ∧ ∃ q156, gR M a0 11 = some q156 ∧ isA M q156 9 x6 ∧ ((gI M q156 (Int32.toNatClampNeg x6)) = 0 → (B_Mo_quotientOf_188 k61 k148 post a0 x3 x4 x5 x6 M)) ∧ (¬ (gI M q156 (Int32.toNatClampNeg x6)) = 0 → (isK M a0 7 ∧ ∃ q166, gR M a0 10 = some q166 ∧ isA M q166 8 x6 ∧ ((gI M q166 (Int32.toNatClampNeg x6)) = 0 → (B_Mo_quotientOf_188 k61 k148 post a0 x3 x4 x5 x6 M)) ∧ (¬ (gI M q166 (Int32.toNatClampNeg x6)) = 0 → (isK M a0 7 ∧ ∃ q179, gR M a0 10 = some q179 ∧ isA M q179 8 x6 ∧ isK M a0 7 ∧ T_Mo_less a0 x6 (gI M q179 (Int32.toNatClampNeg x6)) M (fun M185 => B_Mo_quotientOf_188 k61 k148 post a0 x3 x4 x5 x6 M185))))))))
set_option maxRecDepth 20000 in
theorem Z_Mo_quotientOf_148 {x : Ctx} {post : Int32 → Mem → Prop} (C : Ok x b_Mo_quotientOf 7 "HeapTowerModel") (hR : xR x = rm_Mo_quotientOf) (Rt : RetI x .int post 0 0) {k61 : Nat → Int32 → Int32 → Int32 → Mem → Prop} (K61 : ∀ (a0 : Nat) (x3 : Int32) (x4 : Int32) (x5 : Int32) (M : Mem), k61 a0 x3 x4 x5 M → J x 7 61 [(0, .ref (xd x a0)), (3, .int x3), (4, .int x4), (5, .int x5)] [] 0 0 M) {k148 : Nat → Int32 → Int32 → Int32 → Int32 → Mem → Prop} (K148 : ∀ (a0 : Nat) (x3 : Int32) (x4 : Int32) (x5 : Int32) (x6 : Int32) (M : Mem), k148 a0 x3 x4 x5 x6 M → J x 7 148 [(0, .ref (xd x a0)), (3, .int x3), (4, .int x4), (5, .int x5), (6, .int x6)] [] 0 0 M) (a0 : Nat) (x3 : Int32) (x4 : Int32) (x5 : Int32) (x6 : Int32) (M : Mem) (h : B_Mo_quotientOf_148 k61 k148 post a0 x3 x4 x5 x6 M) : J x 7 148 [(0, .ref (xd x a0)), (3, .int x3), (4, .int x4), (5, .int x5), (6, .int x6)] [] 0 0 M := by
  unfold B_Mo_quotientOf_148 at h
  refine J_iload C 6 D_Mo_quotientOf_148 rfl ?_
  refine J_iload C 4 D_Mo_quotientOf_150 rfl ?_
  refine J_icmp_ge (tgt := 194) C D_Mo_quotientOf_152 (by decide) (fun c_152 => ?_) (fun c_152 => ?_)
  · have h := h.1 c_152
    refine J_iconst (v := 0) C D_Mo_quotientOf_194 rfl ?_
    refine J_istore (lv' := [(6, .int 0), (0, .ref (xd x a0)), (3, .int x3), (4, .int x4), (5, .int x5)]) C 6 D_Mo_quotientOf_195 (by decide) rfl ?_
    obtain ⟨n, h⟩ := h
    exact J_sub [1, 2, 3, 4, 0] rfl (Y_Mo_quotientOf_197 C hR Rt K61 n _ _ _ _ _ _ h)
  · have h := h.2 c_152
    refine J_aload_n C 0 D_Mo_quotientOf_155 rfl rfl ?_
    obtain ⟨c_156, q156, e_156, h⟩ := h
    refine J_getR C fl_Mo_32 D_Mo_quotientOf_156 c_156 e_156 ?_
    refine J_iload C 6 D_Mo_quotientOf_159 rfl ?_
    obtain ⟨c_161, h⟩ := h
    refine J_zald C D_Mo_quotientOf_161 c_161 ?_
    refine J_if_eq (tgt := 188) C D_Mo_quotientOf_162 (by decide) (fun c_162 => ?_) (fun c_162 => ?_)
    · have h := h.1 c_162
      exact J_sub [0, 1, 2, 3, 4] rfl (Z_Mo_quotientOf_188 C hR Rt K61 K148 _ _ _ _ _ _ h)
    · have h := h.2 c_162
      refine J_aload_n C 0 D_Mo_quotientOf_165 rfl rfl ?_
      obtain ⟨c_166, q166, e_166, h⟩ := h
      refine J_getR C fl_Mo_29 D_Mo_quotientOf_166 c_166 e_166 ?_
      refine J_iload C 6 D_Mo_quotientOf_169 rfl ?_
      obtain ⟨c_171, h⟩ := h
      refine J_iald C D_Mo_quotientOf_171 c_171 ?_
      refine J_if_eq (tgt := 188) C D_Mo_quotientOf_172 (by decide) (fun c_172 => ?_) (fun c_172 => ?_)
      · have h := h.1 c_172
        exact J_sub [0, 1, 2, 3, 4] rfl (Z_Mo_quotientOf_188 C hR Rt K61 K148 _ _ _ _ _ _ h)
      · have h := h.2 c_172
        refine J_aload_n C 0 D_Mo_quotientOf_175 rfl rfl ?_
        refine J_iload C 6 D_Mo_quotientOf_176 rfl ?_
        refine J_aload_n C 0 D_Mo_quotientOf_178 rfl rfl ?_
        obtain ⟨c_179, q179, e_179, h⟩ := h
        refine J_getR C fl_Mo_29 D_Mo_quotientOf_179 c_179 e_179 ?_
        refine J_iload C 6 D_Mo_quotientOf_182 rfl ?_
        obtain ⟨c_184, h⟩ := h
        refine J_iald C D_Mo_quotientOf_184 c_184 ?_
        obtain ⟨c_185, h⟩ := h
        refine J_callVv C ml_Mo_124 (S_Mo_less _ _ _ _ _ h) (by rw [hR]; decide) rfl c_185 rfl (Nat.le_of_ble_eq_true rfl) D_Mo_quotientOf_185 (fun M185 h => ?_)
        exact J_sub [0, 1, 2, 3, 4] rfl (Z_Mo_quotientOf_188 C hR Rt K61 K148 _ _ _ _ _ _ h)
def L_Mo_quotientOf_148 (k61 : Nat → Int32 → Int32 → Int32 → Mem → Prop) (post : Int32 → Mem → Prop) : Nat → Nat → Int32 → Int32 → Int32 → Int32 → Mem → Prop
  | 0, _, _, _, _, _, _ => False
  | n + 1, a0, x3, x4, x5, x6, M => B_Mo_quotientOf_148 k61 (L_Mo_quotientOf_148 k61 post n) post a0 x3 x4 x5 x6 M
theorem Y_Mo_quotientOf_148 {x : Ctx} {post : Int32 → Mem → Prop} (C : Ok x b_Mo_quotientOf 7 "HeapTowerModel") (hR : xR x = rm_Mo_quotientOf) (Rt : RetI x .int post 0 0) {k61 : Nat → Int32 → Int32 → Int32 → Mem → Prop} (K61 : ∀ (a0 : Nat) (x3 : Int32) (x4 : Int32) (x5 : Int32) (M : Mem), k61 a0 x3 x4 x5 M → J x 7 61 [(0, .ref (xd x a0)), (3, .int x3), (4, .int x4), (5, .int x5)] [] 0 0 M) : ∀ (n : Nat) (a0 : Nat) (x3 : Int32) (x4 : Int32) (x5 : Int32) (x6 : Int32) (M : Mem), L_Mo_quotientOf_148 k61 post n a0 x3 x4 x5 x6 M → J x 7 148 [(0, .ref (xd x a0)), (3, .int x3), (4, .int x4), (5, .int x5), (6, .int x6)] [] 0 0 M := by
  intro n
  induction n with
  | zero => intro a0 x3 x4 x5 x6 M h; exact h.elim
  | succ n ih => intro a0 x3 x4 x5 x6 M h; exact Z_Mo_quotientOf_148 C hR Rt K61 ih _ _ _ _ _ _ h
def B_Mo_quotientOf_139 (k61 : Nat → Int32 → Int32 → Int32 → Mem → Prop) (k94 : Nat → Int32 → Int32 → Int32 → Int32 → Mem → Prop) (post : Int32 → Mem → Prop) (a0 : Nat) (x3 : Int32) (x4 : Int32) (x5 : Int32) (x6 : Int32) (M : Mem) : Prop := (k94 a0 x3 x4 x5 (x6 + 1) M)
set_option maxRecDepth 20000 in
theorem Z_Mo_quotientOf_139 {x : Ctx} {post : Int32 → Mem → Prop} (C : Ok x b_Mo_quotientOf 7 "HeapTowerModel") (hR : xR x = rm_Mo_quotientOf) (Rt : RetI x .int post 0 0) {k61 : Nat → Int32 → Int32 → Int32 → Mem → Prop} (K61 : ∀ (a0 : Nat) (x3 : Int32) (x4 : Int32) (x5 : Int32) (M : Mem), k61 a0 x3 x4 x5 M → J x 7 61 [(0, .ref (xd x a0)), (3, .int x3), (4, .int x4), (5, .int x5)] [] 0 0 M) {k94 : Nat → Int32 → Int32 → Int32 → Int32 → Mem → Prop} (K94 : ∀ (a0 : Nat) (x3 : Int32) (x4 : Int32) (x5 : Int32) (x6 : Int32) (M : Mem), k94 a0 x3 x4 x5 x6 M → J x 7 94 [(0, .ref (xd x a0)), (3, .int x3), (4, .int x4), (5, .int x5), (6, .int x6)] [] 0 0 M) (a0 : Nat) (x3 : Int32) (x4 : Int32) (x5 : Int32) (x6 : Int32) (M : Mem) (h : B_Mo_quotientOf_139 k61 k94 post a0 x3 x4 x5 x6 M) : J x 7 139 [(0, .ref (xd x a0)), (3, .int x3), (4, .int x4), (5, .int x5), (6, .int x6)] [] 0 0 M := by
  unfold B_Mo_quotientOf_139 at h
  refine J_iinc (v := x6 + 1) (lv' := [(6, .int (x6 + 1)), (0, .ref (xd x a0)), (3, .int x3), (4, .int x4), (5, .int x5)]) C 6 4 D_Mo_quotientOf_139 rfl rfl (by decide) rfl ?_
  refine J_goto (tgt := 94) C D_Mo_quotientOf_142 (by decide) ?_
  exact J_sub [1, 2, 3, 4, 0] rfl (K94 _ _ _ _ _ _ h)
def B_Mo_quotientOf_94 (k61 : Nat → Int32 → Int32 → Int32 → Mem → Prop) (k94 : Nat → Int32 → Int32 → Int32 → Int32 → Mem → Prop) (post : Int32 → Mem → Prop) (a0 : Nat) (x3 : Int32) (x4 : Int32) (x5 : Int32) (x6 : Int32) (M : Mem) : Prop := ((1331 ≤ x6 → (∃ n, L_Mo_quotientOf_148 k61 post n a0 x3 x4 x5 0 M)) ∧ (¬ 1331 ≤ x6 → (isK M a0 7 ∧ T_Mo_get a0 0 x6 M (fun r106 M106 => (r106 = 0 → (B_Mo_quotientOf_139 k61 k94 post a0 x3 x4 x5 x6 M106)) ∧ (¬ r106 = 0 → (isK M106 a0 7 ∧ ∃ q113, gR M106 a0 10 = some q113 ∧ isK M106 a0 7 ∧ ∃ q117, gR M106 a0 7 = some q117 ∧ isK M106 a0 7 ∧ ∃ q123, gR M106 a0 15 = some q123 ∧ isA M106 q123 8 x5 ∧ isA M106 q117 8 (x6 + (gI M106 q123 (Int32.toNatClampNeg x5))) ∧ isK M106 a0 7 ∧ T_Mo_get a0 0 x6 M106 (fun r135 M135 => isA M135 q113 8 (gI M106 q117 (Int32.toNatClampNeg (x6 + (gI M106 q123 (Int32.toNatClampNeg x5))))) ∧ B_Mo_quotientOf_139 k61 k94 post a0 x3 x4 x5 x6 (sI M135 q113 (Int32.toNatClampNeg (gI M106 q117 (Int32.toNatClampNeg (x6 + (gI M106 q123 (Int32.toNatClampNeg x5)))))) r135))))))))
set_option maxRecDepth 20000 in
theorem Z_Mo_quotientOf_94 {x : Ctx} {post : Int32 → Mem → Prop} (C : Ok x b_Mo_quotientOf 7 "HeapTowerModel") (hR : xR x = rm_Mo_quotientOf) (Rt : RetI x .int post 0 0) {k61 : Nat → Int32 → Int32 → Int32 → Mem → Prop} (K61 : ∀ (a0 : Nat) (x3 : Int32) (x4 : Int32) (x5 : Int32) (M : Mem), k61 a0 x3 x4 x5 M → J x 7 61 [(0, .ref (xd x a0)), (3, .int x3), (4, .int x4), (5, .int x5)] [] 0 0 M) {k94 : Nat → Int32 → Int32 → Int32 → Int32 → Mem → Prop} (K94 : ∀ (a0 : Nat) (x3 : Int32) (x4 : Int32) (x5 : Int32) (x6 : Int32) (M : Mem), k94 a0 x3 x4 x5 x6 M → J x 7 94 [(0, .ref (xd x a0)), (3, .int x3), (4, .int x4), (5, .int x5), (6, .int x6)] [] 0 0 M) (a0 : Nat) (x3 : Int32) (x4 : Int32) (x5 : Int32) (x6 : Int32) (M : Mem) (h : B_Mo_quotientOf_94 k61 k94 post a0 x3 x4 x5 x6 M) : J x 7 94 [(0, .ref (xd x a0)), (3, .int x3), (4, .int x4), (5, .int x5), (6, .int x6)] [] 0 0 M := by
  unfold B_Mo_quotientOf_94 at h
  refine J_iload C 6 D_Mo_quotientOf_94 rfl ?_
  refine J_sipush (v := 1331) C D_Mo_quotientOf_96 rfl ?_
  refine J_icmp_ge (tgt := 145) C D_Mo_quotientOf_99 (by decide) (fun c_99 => ?_) (fun c_99 => ?_)
  · have h := h.1 c_99
    refine J_iconst (v := 0) C D_Mo_quotientOf_145 rfl ?_
    refine J_istore (lv' := [(6, .int 0), (0, .ref (xd x a0)), (3, .int x3), (4, .int x4), (5, .int x5)]) C 6 D_Mo_quotientOf_146 (by decide) rfl ?_
    obtain ⟨n, h⟩ := h
    exact J_sub [1, 2, 3, 4, 0] rfl (Y_Mo_quotientOf_148 C hR Rt K61 n _ _ _ _ _ _ h)
  · have h := h.2 c_99
    refine J_aload_n C 0 D_Mo_quotientOf_102 rfl rfl ?_
    refine J_iconst (v := 0) C D_Mo_quotientOf_103 rfl ?_
    refine J_iload C 6 D_Mo_quotientOf_104 rfl ?_
    obtain ⟨c_106, h⟩ := h
    refine J_callVi C ml_Mo_69 (S_Mo_get _ _ _ _ _ h) (by rw [hR]; decide) rfl c_106 rfl (Nat.le_of_ble_eq_true rfl) D_Mo_quotientOf_106 (fun r106 M106 h => ?_)
    refine J_if_eq (tgt := 139) C D_Mo_quotientOf_109 (by decide) (fun c_109 => ?_) (fun c_109 => ?_)
    · have h := h.1 c_109
      exact J_sub [0, 1, 2, 3, 4] rfl (Z_Mo_quotientOf_139 C hR Rt K61 K94 _ _ _ _ _ _ h)
    · have h := h.2 c_109
      refine J_aload_n C 0 D_Mo_quotientOf_112 rfl rfl ?_
      obtain ⟨c_113, q113, e_113, h⟩ := h
      refine J_getR C fl_Mo_29 D_Mo_quotientOf_113 c_113 e_113 ?_
      refine J_aload_n C 0 D_Mo_quotientOf_116 rfl rfl ?_
      obtain ⟨c_117, q117, e_117, h⟩ := h
      refine J_getR C fl_Mo_23 D_Mo_quotientOf_117 c_117 e_117 ?_
      refine J_iload C 6 D_Mo_quotientOf_120 rfl ?_
      refine J_aload_n C 0 D_Mo_quotientOf_122 rfl rfl ?_
      obtain ⟨c_123, q123, e_123, h⟩ := h
      refine J_getR C fl_Mo_42 D_Mo_quotientOf_123 c_123 e_123 ?_
      refine J_iload C 5 D_Mo_quotientOf_126 rfl ?_
      obtain ⟨c_128, h⟩ := h
      refine J_iald C D_Mo_quotientOf_128 c_128 ?_
      refine J_iadd C D_Mo_quotientOf_129 ?_
      obtain ⟨c_130, h⟩ := h
      refine J_iald C D_Mo_quotientOf_130 c_130 ?_
      refine J_aload_n C 0 D_Mo_quotientOf_131 rfl rfl ?_
      refine J_iconst (v := 0) C D_Mo_quotientOf_132 rfl ?_
      refine J_iload C 6 D_Mo_quotientOf_133 rfl ?_
      obtain ⟨c_135, h⟩ := h
      refine J_callVi C ml_Mo_69 (S_Mo_get _ _ _ _ _ h) (by rw [hR]; decide) rfl c_135 rfl (Nat.le_of_ble_eq_true rfl) D_Mo_quotientOf_135 (fun r135 M135 h => ?_)
      obtain ⟨c_138, h⟩ := h
      refine J_iast C D_Mo_quotientOf_138 c_138 ?_
      exact J_sub [0, 1, 2, 3, 4] rfl (Z_Mo_quotientOf_139 C hR Rt K61 K94 _ _ _ _ _ _ h)
def L_Mo_quotientOf_94 (k61 : Nat → Int32 → Int32 → Int32 → Mem → Prop) (post : Int32 → Mem → Prop) : Nat → Nat → Int32 → Int32 → Int32 → Int32 → Mem → Prop
  | 0, _, _, _, _, _, _ => False
  | n + 1, a0, x3, x4, x5, x6, M => B_Mo_quotientOf_94 k61 (L_Mo_quotientOf_94 k61 post n) post a0 x3 x4 x5 x6 M
theorem Y_Mo_quotientOf_94 {x : Ctx} {post : Int32 → Mem → Prop} (C : Ok x b_Mo_quotientOf 7 "HeapTowerModel") (hR : xR x = rm_Mo_quotientOf) (Rt : RetI x .int post 0 0) {k61 : Nat → Int32 → Int32 → Int32 → Mem → Prop} (K61 : ∀ (a0 : Nat) (x3 : Int32) (x4 : Int32) (x5 : Int32) (M : Mem), k61 a0 x3 x4 x5 M → J x 7 61 [(0, .ref (xd x a0)), (3, .int x3), (4, .int x4), (5, .int x5)] [] 0 0 M) : ∀ (n : Nat) (a0 : Nat) (x3 : Int32) (x4 : Int32) (x5 : Int32) (x6 : Int32) (M : Mem), L_Mo_quotientOf_94 k61 post n a0 x3 x4 x5 x6 M → J x 7 94 [(0, .ref (xd x a0)), (3, .int x3), (4, .int x4), (5, .int x5), (6, .int x6)] [] 0 0 M := by
  intro n
  induction n with
  | zero => intro a0 x3 x4 x5 x6 M h; exact h.elim
  | succ n ih => intro a0 x3 x4 x5 x6 M h; exact Z_Mo_quotientOf_94 C hR Rt K61 ih _ _ _ _ _ _ h
def B_Mo_quotientOf_70 (k61 : Nat → Int32 → Int32 → Int32 → Mem → Prop) (k70 : Nat → Int32 → Int32 → Int32 → Int32 → Mem → Prop) (post : Int32 → Mem → Prop) (a0 : Nat) (x3 : Int32) (x4 : Int32) (x5 : Int32) (x6 : Int32) (M : Mem) : Prop := ((x4 ≤ x6 → (∃ n, L_Mo_quotientOf_94 k61 post n a0 x3 x4 x5 0 M)) ∧ (¬ x4 ≤ x6 → (isK M a0 7 ∧ ∃ q78, gR M a0 10 = some q78 ∧ isA M q78 8 x6 ∧ k70 a0 x3 x4 x5 (x6 + 1) (sI M q78 (Int32.toNatClampNeg x6) 0))))
set_option maxRecDepth 20000 in
theorem Z_Mo_quotientOf_70 {x : Ctx} {post : Int32 → Mem → Prop} (C : Ok x b_Mo_quotientOf 7 "HeapTowerModel") (hR : xR x = rm_Mo_quotientOf) (Rt : RetI x .int post 0 0) {k61 : Nat → Int32 → Int32 → Int32 → Mem → Prop} (K61 : ∀ (a0 : Nat) (x3 : Int32) (x4 : Int32) (x5 : Int32) (M : Mem), k61 a0 x3 x4 x5 M → J x 7 61 [(0, .ref (xd x a0)), (3, .int x3), (4, .int x4), (5, .int x5)] [] 0 0 M) {k70 : Nat → Int32 → Int32 → Int32 → Int32 → Mem → Prop} (K70 : ∀ (a0 : Nat) (x3 : Int32) (x4 : Int32) (x5 : Int32) (x6 : Int32) (M : Mem), k70 a0 x3 x4 x5 x6 M → J x 7 70 [(0, .ref (xd x a0)), (3, .int x3), (4, .int x4), (5, .int x5), (6, .int x6)] [] 0 0 M) (a0 : Nat) (x3 : Int32) (x4 : Int32) (x5 : Int32) (x6 : Int32) (M : Mem) (h : B_Mo_quotientOf_70 k61 k70 post a0 x3 x4 x5 x6 M) : J x 7 70 [(0, .ref (xd x a0)), (3, .int x3), (4, .int x4), (5, .int x5), (6, .int x6)] [] 0 0 M := by
  unfold B_Mo_quotientOf_70 at h
  refine J_iload C 6 D_Mo_quotientOf_70 rfl ?_
  refine J_iload C 4 D_Mo_quotientOf_72 rfl ?_
  refine J_icmp_ge (tgt := 91) C D_Mo_quotientOf_74 (by decide) (fun c_74 => ?_) (fun c_74 => ?_)
  · have h := h.1 c_74
    refine J_iconst (v := 0) C D_Mo_quotientOf_91 rfl ?_
    refine J_istore (lv' := [(6, .int 0), (0, .ref (xd x a0)), (3, .int x3), (4, .int x4), (5, .int x5)]) C 6 D_Mo_quotientOf_92 (by decide) rfl ?_
    obtain ⟨n, h⟩ := h
    exact J_sub [1, 2, 3, 4, 0] rfl (Y_Mo_quotientOf_94 C hR Rt K61 n _ _ _ _ _ _ h)
  · have h := h.2 c_74
    refine J_aload_n C 0 D_Mo_quotientOf_77 rfl rfl ?_
    obtain ⟨c_78, q78, e_78, h⟩ := h
    refine J_getR C fl_Mo_29 D_Mo_quotientOf_78 c_78 e_78 ?_
    refine J_iload C 6 D_Mo_quotientOf_81 rfl ?_
    refine J_iconst (v := 0) C D_Mo_quotientOf_83 rfl ?_
    obtain ⟨c_84, h⟩ := h
    refine J_iast C D_Mo_quotientOf_84 c_84 ?_
    refine J_iinc (v := x6 + 1) (lv' := [(6, .int (x6 + 1)), (0, .ref (xd x a0)), (3, .int x3), (4, .int x4), (5, .int x5)]) C 6 4 D_Mo_quotientOf_85 rfl rfl (by decide) rfl ?_
    refine J_goto (tgt := 70) C D_Mo_quotientOf_88 (by decide) ?_
    exact J_sub [1, 2, 3, 4, 0] rfl (K70 _ _ _ _ _ _ h)
def L_Mo_quotientOf_70 (k61 : Nat → Int32 → Int32 → Int32 → Mem → Prop) (post : Int32 → Mem → Prop) : Nat → Nat → Int32 → Int32 → Int32 → Int32 → Mem → Prop
  | 0, _, _, _, _, _, _ => False
  | n + 1, a0, x3, x4, x5, x6, M => B_Mo_quotientOf_70 k61 (L_Mo_quotientOf_70 k61 post n) post a0 x3 x4 x5 x6 M
theorem Y_Mo_quotientOf_70 {x : Ctx} {post : Int32 → Mem → Prop} (C : Ok x b_Mo_quotientOf 7 "HeapTowerModel") (hR : xR x = rm_Mo_quotientOf) (Rt : RetI x .int post 0 0) {k61 : Nat → Int32 → Int32 → Int32 → Mem → Prop} (K61 : ∀ (a0 : Nat) (x3 : Int32) (x4 : Int32) (x5 : Int32) (M : Mem), k61 a0 x3 x4 x5 M → J x 7 61 [(0, .ref (xd x a0)), (3, .int x3), (4, .int x4), (5, .int x5)] [] 0 0 M) : ∀ (n : Nat) (a0 : Nat) (x3 : Int32) (x4 : Int32) (x5 : Int32) (x6 : Int32) (M : Mem), L_Mo_quotientOf_70 k61 post n a0 x3 x4 x5 x6 M → J x 7 70 [(0, .ref (xd x a0)), (3, .int x3), (4, .int x4), (5, .int x5), (6, .int x6)] [] 0 0 M := by
  intro n
  induction n with
  | zero => intro a0 x3 x4 x5 x6 M h; exact h.elim
  | succ n ih => intro a0 x3 x4 x5 x6 M h; exact Z_Mo_quotientOf_70 C hR Rt K61 ih _ _ _ _ _ _ h
def B_Mo_quotientOf_61 (k61 : Nat → Int32 → Int32 → Int32 → Mem → Prop) (post : Int32 → Mem → Prop) (a0 : Nat) (x3 : Int32) (x4 : Int32) (x5 : Int32) (M : Mem) : Prop := ((x3 ≤ x5 → (isK M a0 7 ∧ T_Mo_rankOf a0 x3 x4 M (fun r241 M241 => post (x3 - r241) M241))) ∧ (¬ x3 ≤ x5 → (∃ n, L_Mo_quotientOf_70 k61 post n a0 x3 x4 x5 0 M)))
set_option maxRecDepth 20000 in
theorem Z_Mo_quotientOf_61 {x : Ctx} {post : Int32 → Mem → Prop} (C : Ok x b_Mo_quotientOf 7 "HeapTowerModel") (hR : xR x = rm_Mo_quotientOf) (Rt : RetI x .int post 0 0) {k61 : Nat → Int32 → Int32 → Int32 → Mem → Prop} (K61 : ∀ (a0 : Nat) (x3 : Int32) (x4 : Int32) (x5 : Int32) (M : Mem), k61 a0 x3 x4 x5 M → J x 7 61 [(0, .ref (xd x a0)), (3, .int x3), (4, .int x4), (5, .int x5)] [] 0 0 M) (a0 : Nat) (x3 : Int32) (x4 : Int32) (x5 : Int32) (M : Mem) (h : B_Mo_quotientOf_61 k61 post a0 x3 x4 x5 M) : J x 7 61 [(0, .ref (xd x a0)), (3, .int x3), (4, .int x4), (5, .int x5)] [] 0 0 M := by
  unfold B_Mo_quotientOf_61 at h
  refine J_iload C 5 D_Mo_quotientOf_61 rfl ?_
  refine J_iload_n C 3 D_Mo_quotientOf_63 rfl rfl ?_
  refine J_icmp_ge (tgt := 236) C D_Mo_quotientOf_64 (by decide) (fun c_64 => ?_) (fun c_64 => ?_)
  · have h := h.1 c_64
    refine J_iload_n C 3 D_Mo_quotientOf_236 rfl rfl ?_
    refine J_aload_n C 0 D_Mo_quotientOf_237 rfl rfl ?_
    refine J_iload_n C 3 D_Mo_quotientOf_238 rfl rfl ?_
    refine J_iload C 4 D_Mo_quotientOf_239 rfl ?_
    obtain ⟨c_241, h⟩ := h
    refine J_callVi C ml_Mo_167 (S_Mo_rankOf _ _ _ _ _ h) (by rw [hR]; decide) rfl c_241 rfl (Nat.le_of_ble_eq_true rfl) D_Mo_quotientOf_241 (fun r241 M241 h => ?_)
    refine J_isub C D_Mo_quotientOf_244 ?_
    exact J_iret C Rt D_Mo_quotientOf_245 rfl h
  · have h := h.2 c_64
    refine J_iconst (v := 0) C D_Mo_quotientOf_67 rfl ?_
    refine J_istore (lv' := [(6, .int 0), (0, .ref (xd x a0)), (3, .int x3), (4, .int x4), (5, .int x5)]) C 6 D_Mo_quotientOf_68 (by decide) rfl ?_
    obtain ⟨n, h⟩ := h
    exact J_sub [1, 2, 3, 4, 0] rfl (Y_Mo_quotientOf_70 C hR Rt K61 n _ _ _ _ _ _ h)
def L_Mo_quotientOf_61 (post : Int32 → Mem → Prop) : Nat → Nat → Int32 → Int32 → Int32 → Mem → Prop
  | 0, _, _, _, _, _ => False
  | n + 1, a0, x3, x4, x5, M => B_Mo_quotientOf_61 (L_Mo_quotientOf_61 post n) post a0 x3 x4 x5 M
theorem Y_Mo_quotientOf_61 {x : Ctx} {post : Int32 → Mem → Prop} (C : Ok x b_Mo_quotientOf 7 "HeapTowerModel") (hR : xR x = rm_Mo_quotientOf) (Rt : RetI x .int post 0 0) : ∀ (n : Nat) (a0 : Nat) (x3 : Int32) (x4 : Int32) (x5 : Int32) (M : Mem), L_Mo_quotientOf_61 post n a0 x3 x4 x5 M → J x 7 61 [(0, .ref (xd x a0)), (3, .int x3), (4, .int x4), (5, .int x5)] [] 0 0 M := by
  intro n
  induction n with
  | zero => intro a0 x3 x4 x5 M h; exact h.elim
  | succ n ih => intro a0 x3 x4 x5 M h; exact Z_Mo_quotientOf_61 C hR Rt ih _ _ _ _ _ h
def B_Mo_quotientOf_19 (k19 : Nat → Int32 → Int32 → Int32 → Int32 → Mem → Prop) (post : Int32 → Mem → Prop) (a0 : Nat) (x1 : Int32) (x2 : Int32) (x3 : Int32) (x4 : Int32) (M : Mem) : Prop := ((x3 ≤ x4 → (isK M a0 7 ∧ T_Mo_heap a0 (x1 + x2) M (fun M49 => isK M49 a0 7 ∧ ∃ n, L_Mo_quotientOf_61 post n a0 x3 (gI M49 a0 8) 0 M49))) ∧ (¬ x3 ≤ x4 → (isK M a0 7 ∧ ∃ q26, gR M a0 15 = some q26 ∧ isK M a0 7 ∧ ∃ q32, gR M a0 6 = some q32 ∧ isA M q32 8 x4 ∧ isA M q26 8 x4 ∧ k19 a0 x1 x2 x3 (x4 + 1) (sI M q26 (Int32.toNatClampNeg x4) (gI M q32 (Int32.toNatClampNeg x4))))))
set_option maxRecDepth 20000 in
theorem Z_Mo_quotientOf_19 {x : Ctx} {post : Int32 → Mem → Prop} (C : Ok x b_Mo_quotientOf 7 "HeapTowerModel") (hR : xR x = rm_Mo_quotientOf) (Rt : RetI x .int post 0 0) {k19 : Nat → Int32 → Int32 → Int32 → Int32 → Mem → Prop} (K19 : ∀ (a0 : Nat) (x1 : Int32) (x2 : Int32) (x3 : Int32) (x4 : Int32) (M : Mem), k19 a0 x1 x2 x3 x4 M → J x 7 19 [(0, .ref (xd x a0)), (1, .int x1), (2, .int x2), (3, .int x3), (4, .int x4)] [] 0 0 M) (a0 : Nat) (x1 : Int32) (x2 : Int32) (x3 : Int32) (x4 : Int32) (M : Mem) (h : B_Mo_quotientOf_19 k19 post a0 x1 x2 x3 x4 M) : J x 7 19 [(0, .ref (xd x a0)), (1, .int x1), (2, .int x2), (3, .int x3), (4, .int x4)] [] 0 0 M := by
  unfold B_Mo_quotientOf_19 at h
  refine J_iload C 4 D_Mo_quotientOf_19 rfl ?_
  refine J_iload_n C 3 D_Mo_quotientOf_21 rfl rfl ?_
  refine J_icmp_ge (tgt := 45) C D_Mo_quotientOf_22 (by decide) (fun c_22 => ?_) (fun c_22 => ?_)
  · have h := h.1 c_22
    refine J_aload_n C 0 D_Mo_quotientOf_45 rfl rfl ?_
    refine J_iload_n C 1 D_Mo_quotientOf_46 rfl rfl ?_
    refine J_iload_n C 2 D_Mo_quotientOf_47 rfl rfl ?_
    refine J_iadd C D_Mo_quotientOf_48 ?_
    obtain ⟨c_49, h⟩ := h
    refine J_callVv C ml_Mo_139 (S_Mo_heap _ _ _ _ h) (by rw [hR]; decide) rfl c_49 rfl (Nat.le_of_ble_eq_true rfl) D_Mo_quotientOf_49 (fun M49 h => ?_)
    refine J_aload_n C 0 D_Mo_quotientOf_52 rfl rfl ?_
    obtain ⟨c_53, h⟩ := h
    refine J_getI C fl_Mo_115 D_Mo_quotientOf_53 c_53 ?_
    refine J_istore (lv' := [(4, .int (gI M49 a0 8)), (0, .ref (xd x a0)), (1, .int x1), (2, .int x2), (3, .int x3)]) C 4 D_Mo_quotientOf_56 (by decide) rfl ?_
    refine J_iconst (v := 0) C D_Mo_quotientOf_58 rfl ?_
    refine J_istore (lv' := [(5, .int 0), (4, .int (gI M49 a0 8)), (0, .ref (xd x a0)), (1, .int x1), (2, .int x2), (3, .int x3)]) C 5 D_Mo_quotientOf_59 (by decide) rfl ?_
    obtain ⟨n, h⟩ := h
    exact J_sub [2, 5, 1, 0] rfl (Y_Mo_quotientOf_61 C hR Rt  n _ _ _ _ _ h)
  · have h := h.2 c_22
    refine J_aload_n C 0 D_Mo_quotientOf_25 rfl rfl ?_
    obtain ⟨c_26, q26, e_26, h⟩ := h
    refine J_getR C fl_Mo_42 D_Mo_quotientOf_26 c_26 e_26 ?_
    refine J_iload C 4 D_Mo_quotientOf_29 rfl ?_
    refine J_aload_n C 0 D_Mo_quotientOf_31 rfl rfl ?_
    obtain ⟨c_32, q32, e_32, h⟩ := h
    refine J_getR C fl_Mo_20 D_Mo_quotientOf_32 c_32 e_32 ?_
    refine J_iload C 4 D_Mo_quotientOf_35 rfl ?_
    obtain ⟨c_37, h⟩ := h
    refine J_iald C D_Mo_quotientOf_37 c_37 ?_
    obtain ⟨c_38, h⟩ := h
    refine J_iast C D_Mo_quotientOf_38 c_38 ?_
    refine J_iinc (v := x4 + 1) (lv' := [(4, .int (x4 + 1)), (0, .ref (xd x a0)), (1, .int x1), (2, .int x2), (3, .int x3)]) C 4 4 D_Mo_quotientOf_39 rfl rfl (by decide) rfl ?_
    refine J_goto (tgt := 19) C D_Mo_quotientOf_42 (by decide) ?_
    exact J_sub [1, 2, 3, 4, 0] rfl (K19 _ _ _ _ _ _ h)
def L_Mo_quotientOf_19 (post : Int32 → Mem → Prop) : Nat → Nat → Int32 → Int32 → Int32 → Int32 → Mem → Prop
  | 0, _, _, _, _, _, _ => False
  | n + 1, a0, x1, x2, x3, x4, M => B_Mo_quotientOf_19 (L_Mo_quotientOf_19 post n) post a0 x1 x2 x3 x4 M
theorem Y_Mo_quotientOf_19 {x : Ctx} {post : Int32 → Mem → Prop} (C : Ok x b_Mo_quotientOf 7 "HeapTowerModel") (hR : xR x = rm_Mo_quotientOf) (Rt : RetI x .int post 0 0) : ∀ (n : Nat) (a0 : Nat) (x1 : Int32) (x2 : Int32) (x3 : Int32) (x4 : Int32) (M : Mem), L_Mo_quotientOf_19 post n a0 x1 x2 x3 x4 M → J x 7 19 [(0, .ref (xd x a0)), (1, .int x1), (2, .int x2), (3, .int x3), (4, .int x4)] [] 0 0 M := by
  intro n
  induction n with
  | zero => intro a0 x1 x2 x3 x4 M h; exact h.elim
  | succ n ih => intro a0 x1 x2 x3 x4 M h; exact Z_Mo_quotientOf_19 C hR Rt ih _ _ _ _ _ _ h
def T_Mo_quotientOf (a0 : Nat) (x1 : Int32) (M : Mem) (post : Int32 → Mem → Prop) : Prop := (isK M a0 7 ∧ T_Mo_degree a0 0 M (fun r2 M2 => isK M2 a0 7 ∧ T_Mo_take a0 x1 M2 (fun M8 => isK M8 a0 7 ∧ ∃ n, L_Mo_quotientOf_19 post n a0 x1 r2 (gI M8 a0 8) 0 M8)))
set_option maxRecDepth 20000 in
theorem S_Mo_quotientOf {l : Launch} {D : va_G} {B t g : Nat} {d : Nat → Nat} {ac : Nat → ClassId}  (a0 : Nat) (x1 : Int32) (M : Mem) (post : Int32 → Mem → Prop) (h : T_Mo_quotientOf a0 x1 M post) : Met l y_Mo_quotientOf w_Mo_quotientOf rm_Mo_quotientOf (va_Pc [.ref (d a0), .int x1] (PRE D B d g t ac M)) (QI D B d g ac post) 0 0 (AB B) := by
  refine met_i (by decide +kernel) (Nat.le_of_ble_eq_true rfl) (fun x h1 hR h3 h4 h5 h6 h7 h8 C Rt => ?_)
  subst h3 h4 h5 h6 h7 h8
  unfold T_Mo_quotientOf at h
  show J x 7 0 [(0, .ref (xd x a0)), (1, .int x1)] [] 0 0 M
  refine J_aload_n C 0 D_Mo_quotientOf_0 rfl rfl ?_
  refine J_iconst (v := 0) C D_Mo_quotientOf_1 rfl ?_
  obtain ⟨c_2, h⟩ := h
  refine J_callVi C ml_Mo_72 (S_Mo_degree _ _ _ _ h) (by rw [hR]; decide) rfl c_2 rfl (Nat.le_of_ble_eq_true rfl) D_Mo_quotientOf_2 (fun r2 M2 h => ?_)
  refine J_istore_n (lv' := [(2, .int r2), (0, .ref (xd x a0)), (1, .int x1)]) C 2 D_Mo_quotientOf_5 rfl (by decide) rfl ?_
  refine J_aload_n C 0 D_Mo_quotientOf_6 rfl rfl ?_
  refine J_iload_n C 1 D_Mo_quotientOf_7 rfl rfl ?_
  obtain ⟨c_8, h⟩ := h
  refine J_callVv C ml_Mo_118 (S_Mo_take _ _ _ _ h) (by rw [hR]; decide) rfl c_8 rfl (Nat.le_of_ble_eq_true rfl) D_Mo_quotientOf_8 (fun M8 h => ?_)
  refine J_aload_n C 0 D_Mo_quotientOf_11 rfl rfl ?_
  obtain ⟨c_12, h⟩ := h
  refine J_getI C fl_Mo_115 D_Mo_quotientOf_12 c_12 ?_
  refine J_istore_n (lv' := [(3, .int (gI M8 a0 8)), (2, .int r2), (0, .ref (xd x a0)), (1, .int x1)]) C 3 D_Mo_quotientOf_15 rfl (by decide) rfl ?_
  refine J_iconst (v := 0) C D_Mo_quotientOf_16 rfl ?_
  refine J_istore (lv' := [(4, .int 0), (3, .int (gI M8 a0 8)), (2, .int r2), (0, .ref (xd x a0)), (1, .int x1)]) C 4 D_Mo_quotientOf_17 (by decide) rfl ?_
  obtain ⟨n, h⟩ := h
  exact J_sub [3, 4, 2, 1, 0] rfl (Y_Mo_quotientOf_19 C hR Rt  n _ _ _ _ _ _ h)
theorem D_Mo_mayAsk_0 : decode b_Mo_mayAsk 0 = .ok (.aload_n 0, 1) := by decide +kernel
theorem D_Mo_mayAsk_1 : decode b_Mo_mayAsk 1 = .ok (.iconst 0, 1) := by decide +kernel
theorem D_Mo_mayAsk_2 : decode b_Mo_mayAsk 2 = .ok (.invokevirtual 101, 3) := by decide +kernel
theorem D_Mo_mayAsk_5 : decode b_Mo_mayAsk 5 = .ok (.ifCond .le 15, 3) := by decide +kernel
theorem D_Mo_mayAsk_8 : decode b_Mo_mayAsk 8 = .ok (.aload_n 0, 1) := by decide +kernel
theorem D_Mo_mayAsk_9 : decode b_Mo_mayAsk 9 = .ok (.iconst 0, 1) := by decide +kernel
theorem D_Mo_mayAsk_10 : decode b_Mo_mayAsk 10 = .ok (.invokevirtual 104, 3) := by decide +kernel
theorem D_Mo_mayAsk_13 : decode b_Mo_mayAsk 13 = .ok (.ifCond .eq 7, 3) := by decide +kernel
theorem D_Mo_mayAsk_16 : decode b_Mo_mayAsk 16 = .ok (.iconst 1, 1) := by decide +kernel
theorem D_Mo_mayAsk_17 : decode b_Mo_mayAsk 17 = .ok (.goto 4, 3) := by decide +kernel
theorem D_Mo_mayAsk_20 : decode b_Mo_mayAsk 20 = .ok (.iconst 0, 1) := by decide +kernel
theorem D_Mo_mayAsk_21 : decode b_Mo_mayAsk 21 = .ok (.ireturn, 1) := by decide +kernel
abbrev rm_Mo_mayAsk : Room := { frames := 3, cells := 0, slots := 0, locals := 68 }
def B_Mo_mayAsk_21 (post : Int32 → Mem → Prop) (s0 : Int32) (M : Mem) : Prop := (narrow .boolean (.int s0) = .int s0 ∧ post s0 M)
set_option maxRecDepth 20000 in
theorem Z_Mo_mayAsk_21 {x : Ctx} {post : Int32 → Mem → Prop} (C : Ok x b_Mo_mayAsk 1 "HeapTowerModel") (hR : xR x = rm_Mo_mayAsk) (Rt : RetI x .boolean post 0 0) (s0 : Int32) (M : Mem) (h : B_Mo_mayAsk_21 post s0 M) : J x 1 21 [] [.int s0] 0 0 M := by
  unfold B_Mo_mayAsk_21 at h
  obtain ⟨c_21, h⟩ := h
  exact J_iret C Rt D_Mo_mayAsk_21 c_21 h
def B_Mo_mayAsk_20 (post : Int32 → Mem → Prop) (M : Mem) : Prop := (B_Mo_mayAsk_21 post 0 M)
set_option maxRecDepth 20000 in
theorem Z_Mo_mayAsk_20 {x : Ctx} {post : Int32 → Mem → Prop} (C : Ok x b_Mo_mayAsk 1 "HeapTowerModel") (hR : xR x = rm_Mo_mayAsk) (Rt : RetI x .boolean post 0 0) (M : Mem) (h : B_Mo_mayAsk_20 post M) : J x 1 20 [] [] 0 0 M := by
  unfold B_Mo_mayAsk_20 at h
  refine J_iconst (v := 0) C D_Mo_mayAsk_20 rfl ?_
  exact J_sub [] rfl (Z_Mo_mayAsk_21 C hR Rt  _ _ h)
def T_Mo_mayAsk (a0 : Nat) (M : Mem) (post : Int32 → Mem → Prop) : Prop := (isK M a0 7 ∧ T_Mo_products a0 0 M (fun r2 M2 => (r2 ≤ 0 → (B_Mo_mayAsk_20 post M2)) ∧ (¬ r2 ≤ 0 → (isK M2 a0 7 ∧ T_Mo_isEven a0 0 M2 (fun r10 M10 => (r10 = 0 → (B_Mo_mayAsk_20 post M10)) ∧ (¬ r10 = 0 → (B_Mo_mayAsk_21 post 1 M10)))))))
set_option maxRecDepth 20000 in
theorem S_Mo_mayAsk {l : Launch} {D : va_G} {B t g : Nat} {d : Nat → Nat} {ac : Nat → ClassId}  (a0 : Nat) (M : Mem) (post : Int32 → Mem → Prop) (h : T_Mo_mayAsk a0 M post) : Met l y_Mo_mayAsk w_Mo_mayAsk rm_Mo_mayAsk (va_Pc [.ref (d a0)] (PRE D B d g t ac M)) (QI D B d g ac post) 0 0 (AB B) := by
  refine met_i (by decide +kernel) (Nat.le_of_ble_eq_true rfl) (fun x h1 hR h3 h4 h5 h6 h7 h8 C Rt => ?_)
  subst h3 h4 h5 h6 h7 h8
  unfold T_Mo_mayAsk at h
  show J x 1 0 [(0, .ref (xd x a0))] [] 0 0 M
  refine J_aload_n C 0 D_Mo_mayAsk_0 rfl rfl ?_
  refine J_iconst (v := 0) C D_Mo_mayAsk_1 rfl ?_
  obtain ⟨c_2, h⟩ := h
  refine J_callVi C ml_Mo_101 (S_Mo_products _ _ _ _ h) (by rw [hR]; decide) rfl c_2 rfl (Nat.le_of_ble_eq_true rfl) D_Mo_mayAsk_2 (fun r2 M2 h => ?_)
  refine J_if_le (tgt := 20) C D_Mo_mayAsk_5 (by decide) (fun c_5 => ?_) (fun c_5 => ?_)
  · have h := h.1 c_5
    exact J_sub [] rfl (Z_Mo_mayAsk_20 C hR Rt  _ h)
  · have h := h.2 c_5
    refine J_aload_n C 0 D_Mo_mayAsk_8 rfl rfl ?_
    refine J_iconst (v := 0) C D_Mo_mayAsk_9 rfl ?_
    obtain ⟨c_10, h⟩ := h
    refine J_callVi C ml_Mo_104 (S_Mo_isEven _ _ _ _ h) (by rw [hR]; decide) rfl c_10 rfl (Nat.le_of_ble_eq_true rfl) D_Mo_mayAsk_10 (fun r10 M10 h => ?_)
    refine J_if_eq (tgt := 20) C D_Mo_mayAsk_13 (by decide) (fun c_13 => ?_) (fun c_13 => ?_)
    · have h := h.1 c_13
      exact J_sub [] rfl (Z_Mo_mayAsk_20 C hR Rt  _ h)
    · have h := h.2 c_13
      refine J_iconst (v := 1) C D_Mo_mayAsk_16 rfl ?_
      refine J_goto (tgt := 21) C D_Mo_mayAsk_17 (by decide) ?_
      exact J_sub [] rfl (Z_Mo_mayAsk_21 C hR Rt  _ _ h)
theorem D_Mo_quotient_0 : decode b_Mo_quotient 0 = .ok (.aload_n 0, 1) := by decide +kernel
theorem D_Mo_quotient_1 : decode b_Mo_quotient 1 = .ok (.invokevirtual 176, 3) := by decide +kernel
theorem D_Mo_quotient_4 : decode b_Mo_quotient 4 = .ok (.ifCond .eq 19, 3) := by decide +kernel
theorem D_Mo_quotient_7 : decode b_Mo_quotient 7 = .ok (.iload_n 1, 1) := by decide +kernel
theorem D_Mo_quotient_8 : decode b_Mo_quotient 8 = .ok (.iconst 0, 1) := by decide +kernel
theorem D_Mo_quotient_9 : decode b_Mo_quotient 9 = .ok (.bipush 10, 2) := by decide +kernel
theorem D_Mo_quotient_11 : decode b_Mo_quotient 11 = .ok (.aload_n 0, 1) := by decide +kernel
theorem D_Mo_quotient_12 : decode b_Mo_quotient 12 = .ok (.iconst 0, 1) := by decide +kernel
theorem D_Mo_quotient_13 : decode b_Mo_quotient 13 = .ok (.invokevirtual 72, 3) := by decide +kernel
theorem D_Mo_quotient_16 : decode b_Mo_quotient 16 = .ok (.isub, 1) := by decide +kernel
theorem D_Mo_quotient_17 : decode b_Mo_quotient 17 = .ok (.invokestatic 75, 3) := by decide +kernel
theorem D_Mo_quotient_20 : decode b_Mo_quotient 20 = .ok (.ifCond .ne 6, 3) := by decide +kernel
theorem D_Mo_quotient_23 : decode b_Mo_quotient 23 = .ok (.ldc 83, 2) := by decide +kernel
theorem D_Mo_quotient_25 : decode b_Mo_quotient 25 = .ok (.ireturn, 1) := by decide +kernel
theorem D_Mo_quotient_26 : decode b_Mo_quotient 26 = .ok (.aload_n 0, 1) := by decide +kernel
theorem D_Mo_quotient_27 : decode b_Mo_quotient 27 = .ok (.iload_n 1, 1) := by decide +kernel
theorem D_Mo_quotient_28 : decode b_Mo_quotient 28 = .ok (.invokevirtual 180, 3) := by decide +kernel
theorem D_Mo_quotient_31 : decode b_Mo_quotient 31 = .ok (.ireturn, 1) := by decide +kernel
abbrev rm_Mo_quotient : Room := { frames := 6, cells := 0, slots := 0, locals := 147 }
def B_Mo_quotient_23 (post : Int32 → Mem → Prop) (M : Mem) : Prop := (post ((-1000000)) M)
set_option maxRecDepth 20000 in
theorem Z_Mo_quotient_23 {x : Ctx} {post : Int32 → Mem → Prop} (C : Ok x b_Mo_quotient 2 "HeapTowerModel") (hR : xR x = rm_Mo_quotient) (Rt : RetI x .int post 0 0) (M : Mem) (h : B_Mo_quotient_23 post M) : J x 2 23 [] [] 0 0 M := by
  unfold B_Mo_quotient_23 at h
  refine J_ldc (v := (-1000000)) C D_Mo_quotient_23 kw_Mo_83 ?_
  exact J_iret C Rt D_Mo_quotient_25 rfl h
def T_Mo_quotient (a0 : Nat) (x1 : Int32) (M : Mem) (post : Int32 → Mem → Prop) : Prop := (isK M a0 7 ∧ T_Mo_mayAsk a0 M (fun r1 M1 => (r1 = 0 → (B_Mo_quotient_23 post M1)) ∧ (¬ r1 = 0 → (isK M1 a0 7 ∧ T_Mo_degree a0 0 M1 (fun r13 M13 => T_Mo_in3 x1 0 (10 - r13) M13 (fun r17 M17 => (¬ r17 = 0 → (isK M17 a0 7 ∧ T_Mo_quotientOf a0 x1 M17 (fun r28 M28 => post r28 M28))) ∧ (r17 = 0 → (B_Mo_quotient_23 post M17))))))))
set_option maxRecDepth 20000 in
theorem S_Mo_quotient {l : Launch} {D : va_G} {B t g : Nat} {d : Nat → Nat} {ac : Nat → ClassId}  (a0 : Nat) (x1 : Int32) (M : Mem) (post : Int32 → Mem → Prop) (h : T_Mo_quotient a0 x1 M post) : Met l y_Mo_quotient w_Mo_quotient rm_Mo_quotient (va_Pc [.ref (d a0), .int x1] (PRE D B d g t ac M)) (QI D B d g ac post) 0 0 (AB B) := by
  refine met_i (by decide +kernel) (Nat.le_of_ble_eq_true rfl) (fun x h1 hR h3 h4 h5 h6 h7 h8 C Rt => ?_)
  subst h3 h4 h5 h6 h7 h8
  unfold T_Mo_quotient at h
  show J x 2 0 [(0, .ref (xd x a0)), (1, .int x1)] [] 0 0 M
  refine J_aload_n C 0 D_Mo_quotient_0 rfl rfl ?_
  obtain ⟨c_1, h⟩ := h
  refine J_callVi C ml_Mo_176 (S_Mo_mayAsk _ _ _ h) (by rw [hR]; decide) rfl c_1 rfl (Nat.le_of_ble_eq_true rfl) D_Mo_quotient_1 (fun r1 M1 h => ?_)
  refine J_if_eq (tgt := 23) C D_Mo_quotient_4 (by decide) (fun c_4 => ?_) (fun c_4 => ?_)
  · have h := h.1 c_4
    exact J_sub [] rfl (Z_Mo_quotient_23 C hR Rt  _ h)
  · have h := h.2 c_4
    refine J_iload_n C 1 D_Mo_quotient_7 rfl rfl ?_
    refine J_iconst (v := 0) C D_Mo_quotient_8 rfl ?_
    refine J_bipush (v := 10) C D_Mo_quotient_9 rfl ?_
    refine J_aload_n C 0 D_Mo_quotient_11 rfl rfl ?_
    refine J_iconst (v := 0) C D_Mo_quotient_12 rfl ?_
    obtain ⟨c_13, h⟩ := h
    refine J_callVi C ml_Mo_72 (S_Mo_degree _ _ _ _ h) (by rw [hR]; decide) rfl c_13 rfl (Nat.le_of_ble_eq_true rfl) D_Mo_quotient_13 (fun r13 M13 h => ?_)
    refine J_isub C D_Mo_quotient_16 ?_
    refine J_callSi C ml_Mo_75 (S_Mo_in3 _ _ _ _ _ h) (by rw [hR]; decide) rfl rfl (Nat.le_of_ble_eq_true rfl) D_Mo_quotient_17 (fun r17 M17 h => ?_)
    refine J_if_ne (tgt := 26) C D_Mo_quotient_20 (by decide) (fun c_20 => ?_) (fun c_20 => ?_)
    · have h := h.1 c_20
      refine J_aload_n C 0 D_Mo_quotient_26 rfl rfl ?_
      refine J_iload_n C 1 D_Mo_quotient_27 rfl rfl ?_
      obtain ⟨c_28, h⟩ := h
      refine J_callVi C ml_Mo_180 (S_Mo_quotientOf _ _ _ _ h) (by rw [hR]; decide) rfl c_28 rfl (Nat.le_of_ble_eq_true rfl) D_Mo_quotient_28 (fun r28 M28 h => ?_)
      exact J_iret C Rt D_Mo_quotient_31 rfl h
    · have h := h.2 c_20
      exact J_sub [] rfl (Z_Mo_quotient_23 C hR Rt  _ h)
theorem D_Mo_regular_0 : decode b_Mo_regular 0 = .ok (.aload_n 0, 1) := by decide +kernel
theorem D_Mo_regular_1 : decode b_Mo_regular 1 = .ok (.invokevirtual 176, 3) := by decide +kernel
theorem D_Mo_regular_4 : decode b_Mo_regular 4 = .ok (.ifCond .ne 6, 3) := by decide +kernel
theorem D_Mo_regular_7 : decode b_Mo_regular 7 = .ok (.ldc 83, 2) := by decide +kernel
theorem D_Mo_regular_9 : decode b_Mo_regular 9 = .ok (.ireturn, 1) := by decide +kernel
theorem D_Mo_regular_10 : decode b_Mo_regular 10 = .ok (.iconst 0, 1) := by decide +kernel
theorem D_Mo_regular_11 : decode b_Mo_regular 11 = .ok (.istore_n 1, 1) := by decide +kernel
theorem D_Mo_regular_12 : decode b_Mo_regular 12 = .ok (.iload_n 1, 1) := by decide +kernel
theorem D_Mo_regular_13 : decode b_Mo_regular 13 = .ok (.aload_n 0, 1) := by decide +kernel
theorem D_Mo_regular_14 : decode b_Mo_regular 14 = .ok (.iconst 0, 1) := by decide +kernel
theorem D_Mo_regular_15 : decode b_Mo_regular 15 = .ok (.invokevirtual 72, 3) := by decide +kernel
theorem D_Mo_regular_18 : decode b_Mo_regular 18 = .ok (.iadd, 1) := by decide +kernel
theorem D_Mo_regular_19 : decode b_Mo_regular 19 = .ok (.bipush 10, 2) := by decide +kernel
theorem D_Mo_regular_21 : decode b_Mo_regular 21 = .ok (.if_icmp .gt 30, 3) := by decide +kernel
theorem D_Mo_regular_24 : decode b_Mo_regular 24 = .ok (.aload_n 0, 1) := by decide +kernel
theorem D_Mo_regular_25 : decode b_Mo_regular 25 = .ok (.iload_n 1, 1) := by decide +kernel
theorem D_Mo_regular_26 : decode b_Mo_regular 26 = .ok (.invokevirtual 180, 3) := by decide +kernel
theorem D_Mo_regular_29 : decode b_Mo_regular 29 = .ok (.istore_n 2, 1) := by decide +kernel
theorem D_Mo_regular_30 : decode b_Mo_regular 30 = .ok (.aload_n 0, 1) := by decide +kernel
theorem D_Mo_regular_31 : decode b_Mo_regular 31 = .ok (.iload_n 1, 1) := by decide +kernel
theorem D_Mo_regular_32 : decode b_Mo_regular 32 = .ok (.invokevirtual 139, 3) := by decide +kernel
theorem D_Mo_regular_35 : decode b_Mo_regular 35 = .ok (.iload_n 2, 1) := by decide +kernel
theorem D_Mo_regular_36 : decode b_Mo_regular 36 = .ok (.aload_n 0, 1) := by decide +kernel
theorem D_Mo_regular_37 : decode b_Mo_regular 37 = .ok (.getfield 121, 3) := by decide +kernel
theorem D_Mo_regular_40 : decode b_Mo_regular 40 = .ok (.if_icmp .eq 5, 3) := by decide +kernel
theorem D_Mo_regular_43 : decode b_Mo_regular 43 = .ok (.iconst 0, 1) := by decide +kernel
theorem D_Mo_regular_44 : decode b_Mo_regular 44 = .ok (.ireturn, 1) := by decide +kernel
theorem D_Mo_regular_45 : decode b_Mo_regular 45 = .ok (.iinc 1 1, 3) := by decide +kernel
theorem D_Mo_regular_48 : decode b_Mo_regular 48 = .ok (.goto (-36), 3) := by decide +kernel
theorem D_Mo_regular_51 : decode b_Mo_regular 51 = .ok (.iconst 1, 1) := by decide +kernel
theorem D_Mo_regular_52 : decode b_Mo_regular 52 = .ok (.ireturn, 1) := by decide +kernel
abbrev rm_Mo_regular : Room := { frames := 6, cells := 0, slots := 0, locals := 147 }
def B_Mo_regular_12 (k12 : Nat → Int32 → Mem → Prop) (post : Int32 → Mem → Prop) (a0 : Nat) (x1 : Int32) (M : Mem) : Prop := (isK M a0 7 ∧ T_Mo_degree a0 0 M (fun r15 M15 => (10 < (x1 + r15) → (post 1 M15)) ∧ (¬ 10 < (x1 + r15) → (isK M15 a0 7 ∧ T_Mo_quotientOf a0 x1 M15 (fun r26 M26 => isK M26 a0 7 ∧ T_Mo_heap a0 x1 M26 (fun M32 => isK M32 a0 7 ∧ (r26 = (gI M32 a0 12) → (k12 a0 (x1 + 1) M32)) ∧ (¬ r26 = (gI M32 a0 12) → (post 0 M32))))))))
set_option maxRecDepth 20000 in
theorem Z_Mo_regular_12 {x : Ctx} {post : Int32 → Mem → Prop} (C : Ok x b_Mo_regular 3 "HeapTowerModel") (hR : xR x = rm_Mo_regular) (Rt : RetI x .int post 0 0) {k12 : Nat → Int32 → Mem → Prop} (K12 : ∀ (a0 : Nat) (x1 : Int32) (M : Mem), k12 a0 x1 M → J x 3 12 [(0, .ref (xd x a0)), (1, .int x1)] [] 0 0 M) (a0 : Nat) (x1 : Int32) (M : Mem) (h : B_Mo_regular_12 k12 post a0 x1 M) : J x 3 12 [(0, .ref (xd x a0)), (1, .int x1)] [] 0 0 M := by
  unfold B_Mo_regular_12 at h
  refine J_iload_n C 1 D_Mo_regular_12 rfl rfl ?_
  refine J_aload_n C 0 D_Mo_regular_13 rfl rfl ?_
  refine J_iconst (v := 0) C D_Mo_regular_14 rfl ?_
  obtain ⟨c_15, h⟩ := h
  refine J_callVi C ml_Mo_72 (S_Mo_degree _ _ _ _ h) (by rw [hR]; decide) rfl c_15 rfl (Nat.le_of_ble_eq_true rfl) D_Mo_regular_15 (fun r15 M15 h => ?_)
  refine J_iadd C D_Mo_regular_18 ?_
  refine J_bipush (v := 10) C D_Mo_regular_19 rfl ?_
  refine J_icmp_gt (tgt := 51) C D_Mo_regular_21 (by decide) (fun c_21 => ?_) (fun c_21 => ?_)
  · have h := h.1 c_21
    refine J_iconst (v := 1) C D_Mo_regular_51 rfl ?_
    exact J_iret C Rt D_Mo_regular_52 rfl h
  · have h := h.2 c_21
    refine J_aload_n C 0 D_Mo_regular_24 rfl rfl ?_
    refine J_iload_n C 1 D_Mo_regular_25 rfl rfl ?_
    obtain ⟨c_26, h⟩ := h
    refine J_callVi C ml_Mo_180 (S_Mo_quotientOf _ _ _ _ h) (by rw [hR]; decide) rfl c_26 rfl (Nat.le_of_ble_eq_true rfl) D_Mo_regular_26 (fun r26 M26 h => ?_)
    refine J_istore_n (lv' := [(2, .int r26), (0, .ref (xd x a0)), (1, .int x1)]) C 2 D_Mo_regular_29 rfl (by decide) rfl ?_
    refine J_aload_n C 0 D_Mo_regular_30 rfl rfl ?_
    refine J_iload_n C 1 D_Mo_regular_31 rfl rfl ?_
    obtain ⟨c_32, h⟩ := h
    refine J_callVv C ml_Mo_139 (S_Mo_heap _ _ _ _ h) (by rw [hR]; decide) rfl c_32 rfl (Nat.le_of_ble_eq_true rfl) D_Mo_regular_32 (fun M32 h => ?_)
    refine J_iload_n C 2 D_Mo_regular_35 rfl rfl ?_
    refine J_aload_n C 0 D_Mo_regular_36 rfl rfl ?_
    obtain ⟨c_37, h⟩ := h
    refine J_getI C fl_Mo_121 D_Mo_regular_37 c_37 ?_
    refine J_icmp_eq (tgt := 45) C D_Mo_regular_40 (by decide) (fun c_40 => ?_) (fun c_40 => ?_)
    · have h := h.1 c_40
      refine J_iinc (v := x1 + 1) (lv' := [(1, .int (x1 + 1)), (2, .int r26), (0, .ref (xd x a0))]) C 1 2 D_Mo_regular_45 rfl rfl (by decide) rfl ?_
      refine J_goto (tgt := 12) C D_Mo_regular_48 (by decide) ?_
      exact J_sub [2, 0] rfl (K12 _ _ _ h)
    · have h := h.2 c_40
      refine J_iconst (v := 0) C D_Mo_regular_43 rfl ?_
      exact J_iret C Rt D_Mo_regular_44 rfl h
def L_Mo_regular_12 (post : Int32 → Mem → Prop) : Nat → Nat → Int32 → Mem → Prop
  | 0, _, _, _ => False
  | n + 1, a0, x1, M => B_Mo_regular_12 (L_Mo_regular_12 post n) post a0 x1 M
theorem Y_Mo_regular_12 {x : Ctx} {post : Int32 → Mem → Prop} (C : Ok x b_Mo_regular 3 "HeapTowerModel") (hR : xR x = rm_Mo_regular) (Rt : RetI x .int post 0 0) : ∀ (n : Nat) (a0 : Nat) (x1 : Int32) (M : Mem), L_Mo_regular_12 post n a0 x1 M → J x 3 12 [(0, .ref (xd x a0)), (1, .int x1)] [] 0 0 M := by
  intro n
  induction n with
  | zero => intro a0 x1 M h; exact h.elim
  | succ n ih => intro a0 x1 M h; exact Z_Mo_regular_12 C hR Rt ih _ _ _ h
def T_Mo_regular (a0 : Nat) (M : Mem) (post : Int32 → Mem → Prop) : Prop := (isK M a0 7 ∧ T_Mo_mayAsk a0 M (fun r1 M1 => (¬ r1 = 0 → (∃ n, L_Mo_regular_12 post n a0 0 M1)) ∧ (r1 = 0 → (post ((-1000000)) M1))))
set_option maxRecDepth 20000 in
theorem S_Mo_regular {l : Launch} {D : va_G} {B t g : Nat} {d : Nat → Nat} {ac : Nat → ClassId}  (a0 : Nat) (M : Mem) (post : Int32 → Mem → Prop) (h : T_Mo_regular a0 M post) : Met l y_Mo_regular w_Mo_regular rm_Mo_regular (va_Pc [.ref (d a0)] (PRE D B d g t ac M)) (QI D B d g ac post) 0 0 (AB B) := by
  refine met_i (by decide +kernel) (Nat.le_of_ble_eq_true rfl) (fun x h1 hR h3 h4 h5 h6 h7 h8 C Rt => ?_)
  subst h3 h4 h5 h6 h7 h8
  unfold T_Mo_regular at h
  show J x 3 0 [(0, .ref (xd x a0))] [] 0 0 M
  refine J_aload_n C 0 D_Mo_regular_0 rfl rfl ?_
  obtain ⟨c_1, h⟩ := h
  refine J_callVi C ml_Mo_176 (S_Mo_mayAsk _ _ _ h) (by rw [hR]; decide) rfl c_1 rfl (Nat.le_of_ble_eq_true rfl) D_Mo_regular_1 (fun r1 M1 h => ?_)
  refine J_if_ne (tgt := 10) C D_Mo_regular_4 (by decide) (fun c_4 => ?_) (fun c_4 => ?_)
  · have h := h.1 c_4
    refine J_iconst (v := 0) C D_Mo_regular_10 rfl ?_
    refine J_istore_n (lv' := [(1, .int 0), (0, .ref (xd x a0))]) C 1 D_Mo_regular_11 rfl (by decide) rfl ?_
    obtain ⟨n, h⟩ := h
    exact J_sub [1, 0] rfl (Y_Mo_regular_12 C hR Rt  n _ _ _ h)
  · have h := h.2 c_4
    refine J_ldc (v := (-1000000)) C D_Mo_regular_7 kw_Mo_83 ?_
    exact J_iret C Rt D_Mo_regular_9 rfl h
theorem D_Mo_keep_0 : decode b_Mo_keep 0 = .ok (.aload_n 0, 1) := by decide +kernel
theorem D_Mo_keep_1 : decode b_Mo_keep 1 = .ok (.getfield 87, 3) := by decide +kernel
theorem D_Mo_keep_4 : decode b_Mo_keep 4 = .ok (.istore_n 1, 1) := by decide +kernel
theorem D_Mo_keep_5 : decode b_Mo_keep 5 = .ok (.iconst 0, 1) := by decide +kernel
theorem D_Mo_keep_6 : decode b_Mo_keep 6 = .ok (.istore_n 2, 1) := by decide +kernel
theorem D_Mo_keep_7 : decode b_Mo_keep 7 = .ok (.iload_n 2, 1) := by decide +kernel
theorem D_Mo_keep_8 : decode b_Mo_keep 8 = .ok (.aload_n 0, 1) := by decide +kernel
theorem D_Mo_keep_9 : decode b_Mo_keep 9 = .ok (.getfield 84, 3) := by decide +kernel
theorem D_Mo_keep_12 : decode b_Mo_keep 12 = .ok (.if_icmp .ge 20, 3) := by decide +kernel
theorem D_Mo_keep_15 : decode b_Mo_keep 15 = .ok (.aload_n 0, 1) := by decide +kernel
theorem D_Mo_keep_16 : decode b_Mo_keep 16 = .ok (.iconst 1, 1) := by decide +kernel
theorem D_Mo_keep_17 : decode b_Mo_keep 17 = .ok (.iload_n 2, 1) := by decide +kernel
theorem D_Mo_keep_18 : decode b_Mo_keep 18 = .ok (.iadd, 1) := by decide +kernel
theorem D_Mo_keep_19 : decode b_Mo_keep 19 = .ok (.bipush 13, 2) := by decide +kernel
theorem D_Mo_keep_21 : decode b_Mo_keep 21 = .ok (.iload_n 2, 1) := by decide +kernel
theorem D_Mo_keep_22 : decode b_Mo_keep 22 = .ok (.iadd, 1) := by decide +kernel
theorem D_Mo_keep_23 : decode b_Mo_keep 23 = .ok (.invokevirtual 111, 3) := by decide +kernel
theorem D_Mo_keep_26 : decode b_Mo_keep 26 = .ok (.iinc 2 1, 3) := by decide +kernel
theorem D_Mo_keep_29 : decode b_Mo_keep 29 = .ok (.goto (-22), 3) := by decide +kernel
theorem D_Mo_keep_32 : decode b_Mo_keep 32 = .ok (.aload_n 0, 1) := by decide +kernel
theorem D_Mo_keep_33 : decode b_Mo_keep 33 = .ok (.aload_n 0, 1) := by decide +kernel
theorem D_Mo_keep_34 : decode b_Mo_keep 34 = .ok (.getfield 84, 3) := by decide +kernel
theorem D_Mo_keep_37 : decode b_Mo_keep 37 = .ok (.putfield 87, 3) := by decide +kernel
theorem D_Mo_keep_40 : decode b_Mo_keep 40 = .ok (.iload_n 1, 1) := by decide +kernel
theorem D_Mo_keep_41 : decode b_Mo_keep 41 = .ok (.ireturn, 1) := by decide +kernel
abbrev rm_Mo_keep : Room := { frames := 2, cells := 0, slots := 0, locals := 46 }
def B_Mo_keep_7 (k7 : Nat → Int32 → Int32 → Mem → Prop) (post : Int32 → Mem → Prop) (a0 : Nat) (x1 : Int32) (x2 : Int32) (M : Mem) : Prop := (isK M a0 7 ∧ ((gI M a0 4) ≤ x2 → (isK M a0 7 ∧ isK M a0 7 ∧ post x1 (sI M a0 5 (gI M a0 4)))) ∧ (¬ (gI M a0 4) ≤ x2 → (isK M a0 7 ∧ T_Mo_move a0 (1 + x2) (13 + x2) M (fun M23 => k7 a0 x1 (x2 + 1) M23))))
set_option maxRecDepth 20000 in
theorem Z_Mo_keep_7 {x : Ctx} {post : Int32 → Mem → Prop} (C : Ok x b_Mo_keep 3 "HeapTowerModel") (hR : xR x = rm_Mo_keep) (Rt : RetI x .int post 0 0) {k7 : Nat → Int32 → Int32 → Mem → Prop} (K7 : ∀ (a0 : Nat) (x1 : Int32) (x2 : Int32) (M : Mem), k7 a0 x1 x2 M → J x 3 7 [(0, .ref (xd x a0)), (1, .int x1), (2, .int x2)] [] 0 0 M) (a0 : Nat) (x1 : Int32) (x2 : Int32) (M : Mem) (h : B_Mo_keep_7 k7 post a0 x1 x2 M) : J x 3 7 [(0, .ref (xd x a0)), (1, .int x1), (2, .int x2)] [] 0 0 M := by
  unfold B_Mo_keep_7 at h
  refine J_iload_n C 2 D_Mo_keep_7 rfl rfl ?_
  refine J_aload_n C 0 D_Mo_keep_8 rfl rfl ?_
  obtain ⟨c_9, h⟩ := h
  refine J_getI C fl_Mo_84 D_Mo_keep_9 c_9 ?_
  refine J_icmp_ge (tgt := 32) C D_Mo_keep_12 (by decide) (fun c_12 => ?_) (fun c_12 => ?_)
  · have h := h.1 c_12
    refine J_aload_n C 0 D_Mo_keep_32 rfl rfl ?_
    refine J_aload_n C 0 D_Mo_keep_33 rfl rfl ?_
    obtain ⟨c_34, h⟩ := h
    refine J_getI C fl_Mo_84 D_Mo_keep_34 c_34 ?_
    obtain ⟨c_37, h⟩ := h
    refine J_putI C fl_Mo_87 D_Mo_keep_37 c_37 ?_
    refine J_iload_n C 1 D_Mo_keep_40 rfl rfl ?_
    exact J_iret C Rt D_Mo_keep_41 rfl h
  · have h := h.2 c_12
    refine J_aload_n C 0 D_Mo_keep_15 rfl rfl ?_
    refine J_iconst (v := 1) C D_Mo_keep_16 rfl ?_
    refine J_iload_n C 2 D_Mo_keep_17 rfl rfl ?_
    refine J_iadd C D_Mo_keep_18 ?_
    refine J_bipush (v := 13) C D_Mo_keep_19 rfl ?_
    refine J_iload_n C 2 D_Mo_keep_21 rfl rfl ?_
    refine J_iadd C D_Mo_keep_22 ?_
    obtain ⟨c_23, h⟩ := h
    refine J_callVv C ml_Mo_111 (S_Mo_move _ _ _ _ _ h) (by rw [hR]; decide) rfl c_23 rfl (Nat.le_of_ble_eq_true rfl) D_Mo_keep_23 (fun M23 h => ?_)
    refine J_iinc (v := x2 + 1) (lv' := [(2, .int (x2 + 1)), (0, .ref (xd x a0)), (1, .int x1)]) C 2 2 D_Mo_keep_26 rfl rfl (by decide) rfl ?_
    refine J_goto (tgt := 7) C D_Mo_keep_29 (by decide) ?_
    exact J_sub [1, 2, 0] rfl (K7 _ _ _ _ h)
def L_Mo_keep_7 (post : Int32 → Mem → Prop) : Nat → Nat → Int32 → Int32 → Mem → Prop
  | 0, _, _, _, _ => False
  | n + 1, a0, x1, x2, M => B_Mo_keep_7 (L_Mo_keep_7 post n) post a0 x1 x2 M
theorem Y_Mo_keep_7 {x : Ctx} {post : Int32 → Mem → Prop} (C : Ok x b_Mo_keep 3 "HeapTowerModel") (hR : xR x = rm_Mo_keep) (Rt : RetI x .int post 0 0) : ∀ (n : Nat) (a0 : Nat) (x1 : Int32) (x2 : Int32) (M : Mem), L_Mo_keep_7 post n a0 x1 x2 M → J x 3 7 [(0, .ref (xd x a0)), (1, .int x1), (2, .int x2)] [] 0 0 M := by
  intro n
  induction n with
  | zero => intro a0 x1 x2 M h; exact h.elim
  | succ n ih => intro a0 x1 x2 M h; exact Z_Mo_keep_7 C hR Rt ih _ _ _ _ h
def T_Mo_keep (a0 : Nat) (M : Mem) (post : Int32 → Mem → Prop) : Prop := (isK M a0 7 ∧ ∃ n, L_Mo_keep_7 post n a0 (gI M a0 5) 0 M)
set_option maxRecDepth 20000 in
theorem S_Mo_keep {l : Launch} {D : va_G} {B t g : Nat} {d : Nat → Nat} {ac : Nat → ClassId}  (a0 : Nat) (M : Mem) (post : Int32 → Mem → Prop) (h : T_Mo_keep a0 M post) : Met l y_Mo_keep w_Mo_keep rm_Mo_keep (va_Pc [.ref (d a0)] (PRE D B d g t ac M)) (QI D B d g ac post) 0 0 (AB B) := by
  refine met_i (by decide +kernel) (Nat.le_of_ble_eq_true rfl) (fun x h1 hR h3 h4 h5 h6 h7 h8 C Rt => ?_)
  subst h3 h4 h5 h6 h7 h8
  unfold T_Mo_keep at h
  show J x 3 0 [(0, .ref (xd x a0))] [] 0 0 M
  refine J_aload_n C 0 D_Mo_keep_0 rfl rfl ?_
  obtain ⟨c_1, h⟩ := h
  refine J_getI C fl_Mo_87 D_Mo_keep_1 c_1 ?_
  refine J_istore_n (lv' := [(1, .int (gI M a0 5)), (0, .ref (xd x a0))]) C 1 D_Mo_keep_4 rfl (by decide) rfl ?_
  refine J_iconst (v := 0) C D_Mo_keep_5 rfl ?_
  refine J_istore_n (lv' := [(2, .int 0), (1, .int (gI M a0 5)), (0, .ref (xd x a0))]) C 2 D_Mo_keep_6 rfl (by decide) rfl ?_
  obtain ⟨n, h⟩ := h
  exact J_sub [2, 1, 0] rfl (Y_Mo_keep_7 C hR Rt  n _ _ _ _ h)
theorem D_Mo_swap_0 : decode b_Mo_swap 0 = .ok (.iconst 0, 1) := by decide +kernel
theorem D_Mo_swap_1 : decode b_Mo_swap 1 = .ok (.istore_n 1, 1) := by decide +kernel
theorem D_Mo_swap_2 : decode b_Mo_swap 2 = .ok (.iload_n 1, 1) := by decide +kernel
theorem D_Mo_swap_3 : decode b_Mo_swap 3 = .ok (.bipush 6, 2) := by decide +kernel
theorem D_Mo_swap_5 : decode b_Mo_swap 5 = .ok (.if_icmp .ge 47, 3) := by decide +kernel
theorem D_Mo_swap_8 : decode b_Mo_swap 8 = .ok (.aload_n 0, 1) := by decide +kernel
theorem D_Mo_swap_9 : decode b_Mo_swap 9 = .ok (.iconst 1, 1) := by decide +kernel
theorem D_Mo_swap_10 : decode b_Mo_swap 10 = .ok (.iload_n 1, 1) := by decide +kernel
theorem D_Mo_swap_11 : decode b_Mo_swap 11 = .ok (.iadd, 1) := by decide +kernel
theorem D_Mo_swap_12 : decode b_Mo_swap 12 = .ok (.bipush 19, 2) := by decide +kernel
theorem D_Mo_swap_14 : decode b_Mo_swap 14 = .ok (.invokevirtual 111, 3) := by decide +kernel
theorem D_Mo_swap_17 : decode b_Mo_swap 17 = .ok (.aload_n 0, 1) := by decide +kernel
theorem D_Mo_swap_18 : decode b_Mo_swap 18 = .ok (.bipush 13, 2) := by decide +kernel
theorem D_Mo_swap_20 : decode b_Mo_swap 20 = .ok (.iload_n 1, 1) := by decide +kernel
theorem D_Mo_swap_21 : decode b_Mo_swap 21 = .ok (.iadd, 1) := by decide +kernel
theorem D_Mo_swap_22 : decode b_Mo_swap 22 = .ok (.iconst 1, 1) := by decide +kernel
theorem D_Mo_swap_23 : decode b_Mo_swap 23 = .ok (.iload_n 1, 1) := by decide +kernel
theorem D_Mo_swap_24 : decode b_Mo_swap 24 = .ok (.iadd, 1) := by decide +kernel
theorem D_Mo_swap_25 : decode b_Mo_swap 25 = .ok (.invokevirtual 111, 3) := by decide +kernel
theorem D_Mo_swap_28 : decode b_Mo_swap 28 = .ok (.aload_n 0, 1) := by decide +kernel
theorem D_Mo_swap_29 : decode b_Mo_swap 29 = .ok (.bipush 19, 2) := by decide +kernel
theorem D_Mo_swap_31 : decode b_Mo_swap 31 = .ok (.bipush 13, 2) := by decide +kernel
theorem D_Mo_swap_33 : decode b_Mo_swap 33 = .ok (.iload_n 1, 1) := by decide +kernel
theorem D_Mo_swap_34 : decode b_Mo_swap 34 = .ok (.iadd, 1) := by decide +kernel
theorem D_Mo_swap_35 : decode b_Mo_swap 35 = .ok (.invokevirtual 111, 3) := by decide +kernel
theorem D_Mo_swap_38 : decode b_Mo_swap 38 = .ok (.aload_n 0, 1) := by decide +kernel
theorem D_Mo_swap_39 : decode b_Mo_swap 39 = .ok (.bipush 7, 2) := by decide +kernel
theorem D_Mo_swap_41 : decode b_Mo_swap 41 = .ok (.iload_n 1, 1) := by decide +kernel
theorem D_Mo_swap_42 : decode b_Mo_swap 42 = .ok (.iadd, 1) := by decide +kernel
theorem D_Mo_swap_43 : decode b_Mo_swap 43 = .ok (.invokevirtual 90, 3) := by decide +kernel
theorem D_Mo_swap_46 : decode b_Mo_swap 46 = .ok (.iinc 1 1, 3) := by decide +kernel
theorem D_Mo_swap_49 : decode b_Mo_swap 49 = .ok (.goto (-47), 3) := by decide +kernel
theorem D_Mo_swap_52 : decode b_Mo_swap 52 = .ok (.aload_n 0, 1) := by decide +kernel
theorem D_Mo_swap_53 : decode b_Mo_swap 53 = .ok (.getfield 84, 3) := by decide +kernel
theorem D_Mo_swap_56 : decode b_Mo_swap 56 = .ok (.istore_n 1, 1) := by decide +kernel
theorem D_Mo_swap_57 : decode b_Mo_swap 57 = .ok (.aload_n 0, 1) := by decide +kernel
theorem D_Mo_swap_58 : decode b_Mo_swap 58 = .ok (.aload_n 0, 1) := by decide +kernel
theorem D_Mo_swap_59 : decode b_Mo_swap 59 = .ok (.getfield 87, 3) := by decide +kernel
theorem D_Mo_swap_62 : decode b_Mo_swap 62 = .ok (.putfield 84, 3) := by decide +kernel
theorem D_Mo_swap_65 : decode b_Mo_swap 65 = .ok (.aload_n 0, 1) := by decide +kernel
theorem D_Mo_swap_66 : decode b_Mo_swap 66 = .ok (.iload_n 1, 1) := by decide +kernel
theorem D_Mo_swap_67 : decode b_Mo_swap 67 = .ok (.putfield 87, 3) := by decide +kernel
theorem D_Mo_swap_70 : decode b_Mo_swap 70 = .ok (.aload_n 0, 1) := by decide +kernel
theorem D_Mo_swap_71 : decode b_Mo_swap 71 = .ok (.getfield 84, 3) := by decide +kernel
theorem D_Mo_swap_74 : decode b_Mo_swap 74 = .ok (.ireturn, 1) := by decide +kernel
abbrev rm_Mo_swap : Room := { frames := 2, cells := 0, slots := 0, locals := 46 }
def B_Mo_swap_2 (k2 : Nat → Int32 → Mem → Prop) (post : Int32 → Mem → Prop) (a0 : Nat) (x1 : Int32) (M : Mem) : Prop := ((6 ≤ x1 → (isK M a0 7 ∧ isK M a0 7 ∧ isK M a0 7 ∧ isK (sI M a0 4 (gI M a0 5)) a0 7 ∧ isK (sI (sI M a0 4 (gI M a0 5)) a0 5 (gI M a0 4)) a0 7 ∧ post (gI (sI (sI M a0 4 (gI M a0 5)) a0 5 (gI M a0 4)) a0 4) (sI (sI M a0 4 (gI M a0 5)) a0 5 (gI M a0 4)))) ∧ (¬ 6 ≤ x1 → (isK M a0 7 ∧ T_Mo_move a0 (1 + x1) 19 M (fun M14 => isK M14 a0 7 ∧ T_Mo_move a0 (13 + x1) (1 + x1) M14 (fun M25 => isK M25 a0 7 ∧ T_Mo_move a0 19 (13 + x1) M25 (fun M35 => isK M35 a0 7 ∧ T_Mo_clear a0 (7 + x1) M35 (fun M43 => k2 a0 (x1 + 1) M43)))))))
set_option maxRecDepth 20000 in
theorem Z_Mo_swap_2 {x : Ctx} {post : Int32 → Mem → Prop} (C : Ok x b_Mo_swap 2 "HeapTowerModel") (hR : xR x = rm_Mo_swap) (Rt : RetI x .int post 0 0) {k2 : Nat → Int32 → Mem → Prop} (K2 : ∀ (a0 : Nat) (x1 : Int32) (M : Mem), k2 a0 x1 M → J x 2 2 [(0, .ref (xd x a0)), (1, .int x1)] [] 0 0 M) (a0 : Nat) (x1 : Int32) (M : Mem) (h : B_Mo_swap_2 k2 post a0 x1 M) : J x 2 2 [(0, .ref (xd x a0)), (1, .int x1)] [] 0 0 M := by
  unfold B_Mo_swap_2 at h
  refine J_iload_n C 1 D_Mo_swap_2 rfl rfl ?_
  refine J_bipush (v := 6) C D_Mo_swap_3 rfl ?_
  refine J_icmp_ge (tgt := 52) C D_Mo_swap_5 (by decide) (fun c_5 => ?_) (fun c_5 => ?_)
  · have h := h.1 c_5
    refine J_aload_n C 0 D_Mo_swap_52 rfl rfl ?_
    obtain ⟨c_53, h⟩ := h
    refine J_getI C fl_Mo_84 D_Mo_swap_53 c_53 ?_
    refine J_istore_n (lv' := [(1, .int (gI M a0 4)), (0, .ref (xd x a0))]) C 1 D_Mo_swap_56 rfl (by decide) rfl ?_
    refine J_aload_n C 0 D_Mo_swap_57 rfl rfl ?_
    refine J_aload_n C 0 D_Mo_swap_58 rfl rfl ?_
    obtain ⟨c_59, h⟩ := h
    refine J_getI C fl_Mo_87 D_Mo_swap_59 c_59 ?_
    obtain ⟨c_62, h⟩ := h
    refine J_putI C fl_Mo_84 D_Mo_swap_62 c_62 ?_
    refine J_aload_n C 0 D_Mo_swap_65 rfl rfl ?_
    refine J_iload_n C 1 D_Mo_swap_66 rfl rfl ?_
    obtain ⟨c_67, h⟩ := h
    refine J_putI C fl_Mo_87 D_Mo_swap_67 c_67 ?_
    refine J_aload_n C 0 D_Mo_swap_70 rfl rfl ?_
    obtain ⟨c_71, h⟩ := h
    refine J_getI C fl_Mo_84 D_Mo_swap_71 c_71 ?_
    exact J_iret C Rt D_Mo_swap_74 rfl h
  · have h := h.2 c_5
    refine J_aload_n C 0 D_Mo_swap_8 rfl rfl ?_
    refine J_iconst (v := 1) C D_Mo_swap_9 rfl ?_
    refine J_iload_n C 1 D_Mo_swap_10 rfl rfl ?_
    refine J_iadd C D_Mo_swap_11 ?_
    refine J_bipush (v := 19) C D_Mo_swap_12 rfl ?_
    obtain ⟨c_14, h⟩ := h
    refine J_callVv C ml_Mo_111 (S_Mo_move _ _ _ _ _ h) (by rw [hR]; decide) rfl c_14 rfl (Nat.le_of_ble_eq_true rfl) D_Mo_swap_14 (fun M14 h => ?_)
    refine J_aload_n C 0 D_Mo_swap_17 rfl rfl ?_
    refine J_bipush (v := 13) C D_Mo_swap_18 rfl ?_
    refine J_iload_n C 1 D_Mo_swap_20 rfl rfl ?_
    refine J_iadd C D_Mo_swap_21 ?_
    refine J_iconst (v := 1) C D_Mo_swap_22 rfl ?_
    refine J_iload_n C 1 D_Mo_swap_23 rfl rfl ?_
    refine J_iadd C D_Mo_swap_24 ?_
    obtain ⟨c_25, h⟩ := h
    refine J_callVv C ml_Mo_111 (S_Mo_move _ _ _ _ _ h) (by rw [hR]; decide) rfl c_25 rfl (Nat.le_of_ble_eq_true rfl) D_Mo_swap_25 (fun M25 h => ?_)
    refine J_aload_n C 0 D_Mo_swap_28 rfl rfl ?_
    refine J_bipush (v := 19) C D_Mo_swap_29 rfl ?_
    refine J_bipush (v := 13) C D_Mo_swap_31 rfl ?_
    refine J_iload_n C 1 D_Mo_swap_33 rfl rfl ?_
    refine J_iadd C D_Mo_swap_34 ?_
    obtain ⟨c_35, h⟩ := h
    refine J_callVv C ml_Mo_111 (S_Mo_move _ _ _ _ _ h) (by rw [hR]; decide) rfl c_35 rfl (Nat.le_of_ble_eq_true rfl) D_Mo_swap_35 (fun M35 h => ?_)
    refine J_aload_n C 0 D_Mo_swap_38 rfl rfl ?_
    refine J_bipush (v := 7) C D_Mo_swap_39 rfl ?_
    refine J_iload_n C 1 D_Mo_swap_41 rfl rfl ?_
    refine J_iadd C D_Mo_swap_42 ?_
    obtain ⟨c_43, h⟩ := h
    refine J_callVv C ml_Mo_90 (S_Mo_clear _ _ _ _ h) (by rw [hR]; decide) rfl c_43 rfl (Nat.le_of_ble_eq_true rfl) D_Mo_swap_43 (fun M43 h => ?_)
    refine J_iinc (v := x1 + 1) (lv' := [(1, .int (x1 + 1)), (0, .ref (xd x a0))]) C 1 1 D_Mo_swap_46 rfl rfl (by decide) rfl ?_
    refine J_goto (tgt := 2) C D_Mo_swap_49 (by decide) ?_
    exact J_sub [1, 0] rfl (K2 _ _ _ h)
def L_Mo_swap_2 (post : Int32 → Mem → Prop) : Nat → Nat → Int32 → Mem → Prop
  | 0, _, _, _ => False
  | n + 1, a0, x1, M => B_Mo_swap_2 (L_Mo_swap_2 post n) post a0 x1 M
theorem Y_Mo_swap_2 {x : Ctx} {post : Int32 → Mem → Prop} (C : Ok x b_Mo_swap 2 "HeapTowerModel") (hR : xR x = rm_Mo_swap) (Rt : RetI x .int post 0 0) : ∀ (n : Nat) (a0 : Nat) (x1 : Int32) (M : Mem), L_Mo_swap_2 post n a0 x1 M → J x 2 2 [(0, .ref (xd x a0)), (1, .int x1)] [] 0 0 M := by
  intro n
  induction n with
  | zero => intro a0 x1 M h; exact h.elim
  | succ n ih => intro a0 x1 M h; exact Z_Mo_swap_2 C hR Rt ih _ _ _ h
def T_Mo_swap (a0 : Nat) (M : Mem) (post : Int32 → Mem → Prop) : Prop := (∃ n, L_Mo_swap_2 post n a0 0 M)
set_option maxRecDepth 20000 in
theorem S_Mo_swap {l : Launch} {D : va_G} {B t g : Nat} {d : Nat → Nat} {ac : Nat → ClassId}  (a0 : Nat) (M : Mem) (post : Int32 → Mem → Prop) (h : T_Mo_swap a0 M post) : Met l y_Mo_swap w_Mo_swap rm_Mo_swap (va_Pc [.ref (d a0)] (PRE D B d g t ac M)) (QI D B d g ac post) 0 0 (AB B) := by
  refine met_i (by decide +kernel) (Nat.le_of_ble_eq_true rfl) (fun x h1 hR h3 h4 h5 h6 h7 h8 C Rt => ?_)
  subst h3 h4 h5 h6 h7 h8
  unfold T_Mo_swap at h
  show J x 2 0 [(0, .ref (xd x a0))] [] 0 0 M
  refine J_iconst (v := 0) C D_Mo_swap_0 rfl ?_
  refine J_istore_n (lv' := [(1, .int 0), (0, .ref (xd x a0))]) C 1 D_Mo_swap_1 rfl (by decide) rfl ?_
  obtain ⟨n, h⟩ := h
  exact J_sub [1, 0] rfl (Y_Mo_swap_2 C hR Rt  n _ _ _ h)
theorem D_Mo_dimensionOf3_0 : decode b_Mo_dimensionOf3 0 = .ok (.aload_n 0, 1) := by decide +kernel
theorem D_Mo_dimensionOf3_1 : decode b_Mo_dimensionOf3 1 = .ok (.iload_n 1, 1) := by decide +kernel
theorem D_Mo_dimensionOf3_2 : decode b_Mo_dimensionOf3 2 = .ok (.invokevirtual 139, 3) := by decide +kernel
theorem D_Mo_dimensionOf3_5 : decode b_Mo_dimensionOf3 5 = .ok (.aload_n 0, 1) := by decide +kernel
theorem D_Mo_dimensionOf3_6 : decode b_Mo_dimensionOf3 6 = .ok (.getfield 121, 3) := by decide +kernel
theorem D_Mo_dimensionOf3_9 : decode b_Mo_dimensionOf3 9 = .ok (.istore_n 2, 1) := by decide +kernel
theorem D_Mo_dimensionOf3_10 : decode b_Mo_dimensionOf3 10 = .ok (.aload_n 0, 1) := by decide +kernel
theorem D_Mo_dimensionOf3_11 : decode b_Mo_dimensionOf3 11 = .ok (.iload_n 1, 1) := by decide +kernel
theorem D_Mo_dimensionOf3_12 : decode b_Mo_dimensionOf3 12 = .ok (.invokevirtual 183, 3) := by decide +kernel
theorem D_Mo_dimensionOf3_15 : decode b_Mo_dimensionOf3 15 = .ok (.aload_n 0, 1) := by decide +kernel
theorem D_Mo_dimensionOf3_16 : decode b_Mo_dimensionOf3 16 = .ok (.getfield 121, 3) := by decide +kernel
theorem D_Mo_dimensionOf3_19 : decode b_Mo_dimensionOf3 19 = .ok (.istore_n 3, 1) := by decide +kernel
theorem D_Mo_dimensionOf3_20 : decode b_Mo_dimensionOf3 20 = .ok (.aload_n 0, 1) := by decide +kernel
theorem D_Mo_dimensionOf3_21 : decode b_Mo_dimensionOf3 21 = .ok (.iload_n 1, 1) := by decide +kernel
theorem D_Mo_dimensionOf3_22 : decode b_Mo_dimensionOf3 22 = .ok (.invokevirtual 133, 3) := by decide +kernel
theorem D_Mo_dimensionOf3_25 : decode b_Mo_dimensionOf3 25 = .ok (.aload_n 0, 1) := by decide +kernel
theorem D_Mo_dimensionOf3_26 : decode b_Mo_dimensionOf3 26 = .ok (.iload_n 1, 1) := by decide +kernel
theorem D_Mo_dimensionOf3_27 : decode b_Mo_dimensionOf3 27 = .ok (.invokevirtual 183, 3) := by decide +kernel
theorem D_Mo_dimensionOf3_30 : decode b_Mo_dimensionOf3 30 = .ok (.iload_n 2, 1) := by decide +kernel
theorem D_Mo_dimensionOf3_31 : decode b_Mo_dimensionOf3 31 = .ok (.aload_n 0, 1) := by decide +kernel
theorem D_Mo_dimensionOf3_32 : decode b_Mo_dimensionOf3 32 = .ok (.getfield 121, 3) := by decide +kernel
theorem D_Mo_dimensionOf3_35 : decode b_Mo_dimensionOf3 35 = .ok (.iadd, 1) := by decide +kernel
theorem D_Mo_dimensionOf3_36 : decode b_Mo_dimensionOf3 36 = .ok (.iload_n 3, 1) := by decide +kernel
theorem D_Mo_dimensionOf3_37 : decode b_Mo_dimensionOf3 37 = .ok (.isub, 1) := by decide +kernel
theorem D_Mo_dimensionOf3_38 : decode b_Mo_dimensionOf3 38 = .ok (.ireturn, 1) := by decide +kernel
abbrev rm_Mo_dimensionOf3 : Room := { frames := 5, cells := 0, slots := 0, locals := 121 }
def T_Mo_dimensionOf3 (a0 : Nat) (x1 : Int32) (M : Mem) (post : Int32 → Mem → Prop) : Prop := (isK M a0 7 ∧ T_Mo_heap a0 x1 M (fun M2 => isK M2 a0 7 ∧ isK M2 a0 7 ∧ T_Mo_addOther a0 x1 M2 (fun M12 => isK M12 a0 7 ∧ isK M12 a0 7 ∧ T_Mo_begin a0 x1 M12 (fun M22 => isK M22 a0 7 ∧ T_Mo_addOther a0 x1 M22 (fun M27 => isK M27 a0 7 ∧ post (((gI M2 a0 12) + (gI M27 a0 12)) - (gI M12 a0 12)) M27)))))
set_option maxRecDepth 20000 in
theorem S_Mo_dimensionOf3 {l : Launch} {D : va_G} {B t g : Nat} {d : Nat → Nat} {ac : Nat → ClassId}  (a0 : Nat) (x1 : Int32) (M : Mem) (post : Int32 → Mem → Prop) (h : T_Mo_dimensionOf3 a0 x1 M post) : Met l y_Mo_dimensionOf3 w_Mo_dimensionOf3 rm_Mo_dimensionOf3 (va_Pc [.ref (d a0), .int x1] (PRE D B d g t ac M)) (QI D B d g ac post) 0 0 (AB B) := by
  refine met_i (by decide +kernel) (Nat.le_of_ble_eq_true rfl) (fun x h1 hR h3 h4 h5 h6 h7 h8 C Rt => ?_)
  subst h3 h4 h5 h6 h7 h8
  unfold T_Mo_dimensionOf3 at h
  show J x 4 0 [(0, .ref (xd x a0)), (1, .int x1)] [] 0 0 M
  refine J_aload_n C 0 D_Mo_dimensionOf3_0 rfl rfl ?_
  refine J_iload_n C 1 D_Mo_dimensionOf3_1 rfl rfl ?_
  obtain ⟨c_2, h⟩ := h
  refine J_callVv C ml_Mo_139 (S_Mo_heap _ _ _ _ h) (by rw [hR]; decide) rfl c_2 rfl (Nat.le_of_ble_eq_true rfl) D_Mo_dimensionOf3_2 (fun M2 h => ?_)
  refine J_aload_n C 0 D_Mo_dimensionOf3_5 rfl rfl ?_
  obtain ⟨c_6, h⟩ := h
  refine J_getI C fl_Mo_121 D_Mo_dimensionOf3_6 c_6 ?_
  refine J_istore_n (lv' := [(2, .int (gI M2 a0 12)), (0, .ref (xd x a0)), (1, .int x1)]) C 2 D_Mo_dimensionOf3_9 rfl (by decide) rfl ?_
  refine J_aload_n C 0 D_Mo_dimensionOf3_10 rfl rfl ?_
  refine J_iload_n C 1 D_Mo_dimensionOf3_11 rfl rfl ?_
  obtain ⟨c_12, h⟩ := h
  refine J_callVv C ml_Mo_183 (S_Mo_addOther _ _ _ _ h) (by rw [hR]; decide) rfl c_12 rfl (Nat.le_of_ble_eq_true rfl) D_Mo_dimensionOf3_12 (fun M12 h => ?_)
  refine J_aload_n C 0 D_Mo_dimensionOf3_15 rfl rfl ?_
  obtain ⟨c_16, h⟩ := h
  refine J_getI C fl_Mo_121 D_Mo_dimensionOf3_16 c_16 ?_
  refine J_istore_n (lv' := [(3, .int (gI M12 a0 12)), (2, .int (gI M2 a0 12)), (0, .ref (xd x a0)), (1, .int x1)]) C 3 D_Mo_dimensionOf3_19 rfl (by decide) rfl ?_
  refine J_aload_n C 0 D_Mo_dimensionOf3_20 rfl rfl ?_
  refine J_iload_n C 1 D_Mo_dimensionOf3_21 rfl rfl ?_
  obtain ⟨c_22, h⟩ := h
  refine J_callVv C ml_Mo_133 (S_Mo_begin _ _ _ _ h) (by rw [hR]; decide) rfl c_22 rfl (Nat.le_of_ble_eq_true rfl) D_Mo_dimensionOf3_22 (fun M22 h => ?_)
  refine J_aload_n C 0 D_Mo_dimensionOf3_25 rfl rfl ?_
  refine J_iload_n C 1 D_Mo_dimensionOf3_26 rfl rfl ?_
  obtain ⟨c_27, h⟩ := h
  refine J_callVv C ml_Mo_183 (S_Mo_addOther _ _ _ _ h) (by rw [hR]; decide) rfl c_27 rfl (Nat.le_of_ble_eq_true rfl) D_Mo_dimensionOf3_27 (fun M27 h => ?_)
  refine J_iload_n C 2 D_Mo_dimensionOf3_30 rfl rfl ?_
  refine J_aload_n C 0 D_Mo_dimensionOf3_31 rfl rfl ?_
  obtain ⟨c_32, h⟩ := h
  refine J_getI C fl_Mo_121 D_Mo_dimensionOf3_32 c_32 ?_
  refine J_iadd C D_Mo_dimensionOf3_35 ?_
  refine J_iload_n C 3 D_Mo_dimensionOf3_36 rfl rfl ?_
  refine J_isub C D_Mo_dimensionOf3_37 ?_
  exact J_iret C Rt D_Mo_dimensionOf3_38 rfl h
theorem D_Mo_multiply_0 : decode b_Mo_multiply 0 = .ok (.aload_n 0, 1) := by decide +kernel
theorem D_Mo_multiply_1 : decode b_Mo_multiply 1 = .ok (.iload_n 3, 1) := by decide +kernel
theorem D_Mo_multiply_2 : decode b_Mo_multiply 2 = .ok (.invokevirtual 90, 3) := by decide +kernel
theorem D_Mo_multiply_5 : decode b_Mo_multiply 5 = .ok (.iconst 0, 1) := by decide +kernel
theorem D_Mo_multiply_6 : decode b_Mo_multiply 6 = .ok (.istore 4, 2) := by decide +kernel
theorem D_Mo_multiply_8 : decode b_Mo_multiply 8 = .ok (.iload 4, 2) := by decide +kernel
theorem D_Mo_multiply_10 : decode b_Mo_multiply 10 = .ok (.sipush 1331, 3) := by decide +kernel
theorem D_Mo_multiply_13 : decode b_Mo_multiply 13 = .ok (.if_icmp .ge 92, 3) := by decide +kernel
theorem D_Mo_multiply_16 : decode b_Mo_multiply 16 = .ok (.aload_n 0, 1) := by decide +kernel
theorem D_Mo_multiply_17 : decode b_Mo_multiply 17 = .ok (.iload_n 1, 1) := by decide +kernel
theorem D_Mo_multiply_18 : decode b_Mo_multiply 18 = .ok (.iload 4, 2) := by decide +kernel
theorem D_Mo_multiply_20 : decode b_Mo_multiply 20 = .ok (.invokevirtual 69, 3) := by decide +kernel
theorem D_Mo_multiply_23 : decode b_Mo_multiply 23 = .ok (.ifCond .ne 6, 3) := by decide +kernel
theorem D_Mo_multiply_26 : decode b_Mo_multiply 26 = .ok (.goto 73, 3) := by decide +kernel
theorem D_Mo_multiply_29 : decode b_Mo_multiply 29 = .ok (.iconst 0, 1) := by decide +kernel
theorem D_Mo_multiply_30 : decode b_Mo_multiply 30 = .ok (.istore 5, 2) := by decide +kernel
theorem D_Mo_multiply_32 : decode b_Mo_multiply 32 = .ok (.iload 5, 2) := by decide +kernel
theorem D_Mo_multiply_34 : decode b_Mo_multiply 34 = .ok (.sipush 1331, 3) := by decide +kernel
theorem D_Mo_multiply_37 : decode b_Mo_multiply 37 = .ok (.if_icmp .ge 62, 3) := by decide +kernel
theorem D_Mo_multiply_40 : decode b_Mo_multiply 40 = .ok (.aload_n 0, 1) := by decide +kernel
theorem D_Mo_multiply_41 : decode b_Mo_multiply 41 = .ok (.iload_n 2, 1) := by decide +kernel
theorem D_Mo_multiply_42 : decode b_Mo_multiply 42 = .ok (.iload 5, 2) := by decide +kernel
theorem D_Mo_multiply_44 : decode b_Mo_multiply 44 = .ok (.invokevirtual 69, 3) := by decide +kernel
theorem D_Mo_multiply_47 : decode b_Mo_multiply 47 = .ok (.ifCond .eq 46, 3) := by decide +kernel
theorem D_Mo_multiply_50 : decode b_Mo_multiply 50 = .ok (.aload_n 0, 1) := by decide +kernel
theorem D_Mo_multiply_51 : decode b_Mo_multiply 51 = .ok (.iload_n 3, 1) := by decide +kernel
theorem D_Mo_multiply_52 : decode b_Mo_multiply 52 = .ok (.iload 4, 2) := by decide +kernel
theorem D_Mo_multiply_54 : decode b_Mo_multiply 54 = .ok (.iload 5, 2) := by decide +kernel
theorem D_Mo_multiply_56 : decode b_Mo_multiply 56 = .ok (.iadd, 1) := by decide +kernel
theorem D_Mo_multiply_57 : decode b_Mo_multiply 57 = .ok (.aload_n 0, 1) := by decide +kernel
theorem D_Mo_multiply_58 : decode b_Mo_multiply 58 = .ok (.aload_n 0, 1) := by decide +kernel
theorem D_Mo_multiply_59 : decode b_Mo_multiply 59 = .ok (.iload_n 3, 1) := by decide +kernel
theorem D_Mo_multiply_60 : decode b_Mo_multiply 60 = .ok (.iload 4, 2) := by decide +kernel
theorem D_Mo_multiply_62 : decode b_Mo_multiply 62 = .ok (.iload 5, 2) := by decide +kernel
theorem D_Mo_multiply_64 : decode b_Mo_multiply 64 = .ok (.iadd, 1) := by decide +kernel
theorem D_Mo_multiply_65 : decode b_Mo_multiply 65 = .ok (.invokevirtual 69, 3) := by decide +kernel
theorem D_Mo_multiply_68 : decode b_Mo_multiply 68 = .ok (.i2l, 1) := by decide +kernel
theorem D_Mo_multiply_69 : decode b_Mo_multiply 69 = .ok (.aload_n 0, 1) := by decide +kernel
theorem D_Mo_multiply_70 : decode b_Mo_multiply 70 = .ok (.iload_n 1, 1) := by decide +kernel
theorem D_Mo_multiply_71 : decode b_Mo_multiply 71 = .ok (.iload 4, 2) := by decide +kernel
theorem D_Mo_multiply_73 : decode b_Mo_multiply 73 = .ok (.invokevirtual 69, 3) := by decide +kernel
theorem D_Mo_multiply_76 : decode b_Mo_multiply 76 = .ok (.i2l, 1) := by decide +kernel
theorem D_Mo_multiply_77 : decode b_Mo_multiply 77 = .ok (.aload_n 0, 1) := by decide +kernel
theorem D_Mo_multiply_78 : decode b_Mo_multiply 78 = .ok (.iload_n 2, 1) := by decide +kernel
theorem D_Mo_multiply_79 : decode b_Mo_multiply 79 = .ok (.iload 5, 2) := by decide +kernel
theorem D_Mo_multiply_81 : decode b_Mo_multiply 81 = .ok (.invokevirtual 69, 3) := by decide +kernel
theorem D_Mo_multiply_84 : decode b_Mo_multiply 84 = .ok (.i2l, 1) := by decide +kernel
theorem D_Mo_multiply_85 : decode b_Mo_multiply 85 = .ok (.lmul, 1) := by decide +kernel
theorem D_Mo_multiply_86 : decode b_Mo_multiply 86 = .ok (.ladd, 1) := by decide +kernel
theorem D_Mo_multiply_87 : decode b_Mo_multiply 87 = .ok (.invokevirtual 48, 3) := by decide +kernel
theorem D_Mo_multiply_90 : decode b_Mo_multiply 90 = .ok (.invokevirtual 65, 3) := by decide +kernel
theorem D_Mo_multiply_93 : decode b_Mo_multiply 93 = .ok (.iinc 5 1, 3) := by decide +kernel
theorem D_Mo_multiply_96 : decode b_Mo_multiply 96 = .ok (.goto (-64), 3) := by decide +kernel
theorem D_Mo_multiply_99 : decode b_Mo_multiply 99 = .ok (.iinc 4 1, 3) := by decide +kernel
theorem D_Mo_multiply_102 : decode b_Mo_multiply 102 = .ok (.goto (-94), 3) := by decide +kernel
theorem D_Mo_multiply_105 : decode b_Mo_multiply 105 = .ok (.return_, 1) := by decide +kernel
abbrev rm_Mo_multiply : Room := { frames := 2, cells := 0, slots := 0, locals := 45 }
def B_Mo_multiply_99 (k8 : Nat → Int32 → Int32 → Int32 → Int32 → Mem → Prop) (post : Mem → Prop) (a0 : Nat) (x1 : Int32) (x2 : Int32) (x3 : Int32) (x4 : Int32) (M : Mem) : Prop := (k8 a0 x1 x2 x3 (x4 + 1) M)
set_option maxRecDepth 20000 in
theorem Z_Mo_multiply_99 {x : Ctx} {post : Mem → Prop} (C : Ok x b_Mo_multiply 6 "HeapTowerModel") (hR : xR x = rm_Mo_multiply) (Rt : RetV x post 0 0) {k8 : Nat → Int32 → Int32 → Int32 → Int32 → Mem → Prop} (K8 : ∀ (a0 : Nat) (x1 : Int32) (x2 : Int32) (x3 : Int32) (x4 : Int32) (M : Mem), k8 a0 x1 x2 x3 x4 M → J x 6 8 [(0, .ref (xd x a0)), (1, .int x1), (2, .int x2), (3, .int x3), (4, .int x4)] [] 0 0 M) (a0 : Nat) (x1 : Int32) (x2 : Int32) (x3 : Int32) (x4 : Int32) (M : Mem) (h : B_Mo_multiply_99 k8 post a0 x1 x2 x3 x4 M) : J x 6 99 [(0, .ref (xd x a0)), (1, .int x1), (2, .int x2), (3, .int x3), (4, .int x4)] [] 0 0 M := by
  unfold B_Mo_multiply_99 at h
  refine J_iinc (v := x4 + 1) (lv' := [(4, .int (x4 + 1)), (0, .ref (xd x a0)), (1, .int x1), (2, .int x2), (3, .int x3)]) C 4 4 D_Mo_multiply_99 rfl rfl (by decide) rfl ?_
  refine J_goto (tgt := 8) C D_Mo_multiply_102 (by decide) ?_
  exact J_sub [1, 2, 3, 4, 0] rfl (K8 _ _ _ _ _ _ h)
def B_Mo_multiply_93 (k8 : Nat → Int32 → Int32 → Int32 → Int32 → Mem → Prop) (k32 : Nat → Int32 → Int32 → Int32 → Int32 → Int32 → Mem → Prop) (post : Mem → Prop) (a0 : Nat) (x1 : Int32) (x2 : Int32) (x3 : Int32) (x4 : Int32) (x5 : Int32) (M : Mem) : Prop := (k32 a0 x1 x2 x3 x4 (x5 + 1) M)
set_option maxRecDepth 20000 in
theorem Z_Mo_multiply_93 {x : Ctx} {post : Mem → Prop} (C : Ok x b_Mo_multiply 6 "HeapTowerModel") (hR : xR x = rm_Mo_multiply) (Rt : RetV x post 0 0) {k8 : Nat → Int32 → Int32 → Int32 → Int32 → Mem → Prop} (K8 : ∀ (a0 : Nat) (x1 : Int32) (x2 : Int32) (x3 : Int32) (x4 : Int32) (M : Mem), k8 a0 x1 x2 x3 x4 M → J x 6 8 [(0, .ref (xd x a0)), (1, .int x1), (2, .int x2), (3, .int x3), (4, .int x4)] [] 0 0 M) {k32 : Nat → Int32 → Int32 → Int32 → Int32 → Int32 → Mem → Prop} (K32 : ∀ (a0 : Nat) (x1 : Int32) (x2 : Int32) (x3 : Int32) (x4 : Int32) (x5 : Int32) (M : Mem), k32 a0 x1 x2 x3 x4 x5 M → J x 6 32 [(0, .ref (xd x a0)), (1, .int x1), (2, .int x2), (3, .int x3), (4, .int x4), (5, .int x5)] [] 0 0 M) (a0 : Nat) (x1 : Int32) (x2 : Int32) (x3 : Int32) (x4 : Int32) (x5 : Int32) (M : Mem) (h : B_Mo_multiply_93 k8 k32 post a0 x1 x2 x3 x4 x5 M) : J x 6 93 [(0, .ref (xd x a0)), (1, .int x1), (2, .int x2), (3, .int x3), (4, .int x4), (5, .int x5)] [] 0 0 M := by
  unfold B_Mo_multiply_93 at h
  refine J_iinc (v := x5 + 1) (lv' := [(5, .int (x5 + 1)), (0, .ref (xd x a0)), (1, .int x1), (2, .int x2), (3, .int x3), (4, .int x4)]) C 5 5 D_Mo_multiply_93 rfl rfl (by decide) rfl ?_
  refine J_goto (tgt := 32) C D_Mo_multiply_96 (by decide) ?_
  exact J_sub [1, 2, 3, 4, 5, 0] rfl (K32 _ _ _ _ _ _ _ h)
def B_Mo_multiply_32 (k8 : Nat → Int32 → Int32 → Int32 → Int32 → Mem → Prop) (k32 : Nat → Int32 → Int32 → Int32 → Int32 → Int32 → Mem → Prop) (post : Mem → Prop) (a0 : Nat) (x1 : Int32) (x2 : Int32) (x3 : Int32) (x4 : Int32) (x5 : Int32) (M : Mem) : Prop := ((1331 ≤ x5 → (B_Mo_multiply_99 k8 post a0 x1 x2 x3 x4 M)) ∧ (¬ 1331 ≤ x5 → (isK M a0 7 ∧ T_Mo_get a0 x2 x5 M (fun r44 M44 => (r44 = 0 → (B_Mo_multiply_93 k8 k32 post a0 x1 x2 x3 x4 x5 M44)) ∧ (¬ r44 = 0 → (isK M44 a0 7 ∧ T_Mo_get a0 x3 (x4 + x5) M44 (fun r65 M65 => isK M65 a0 7 ∧ T_Mo_get a0 x1 x4 M65 (fun r73 M73 => isK M73 a0 7 ∧ T_Mo_get a0 x2 x5 M73 (fun r81 M81 => isK M81 a0 7 ∧ T_Mo_mod a0 ((Int32.toInt64 r65) + ((Int32.toInt64 r73) * (Int32.toInt64 r81))) M81 (fun r87 M87 => isK M87 a0 7 ∧ T_Mo_put a0 x3 (x4 + x5) r87 M87 (fun M90 => B_Mo_multiply_93 k8 k32 post a0 x1 x2 x3 x4 x5 M90)))))))))))
set_option maxRecDepth 20000 in
theorem Z_Mo_multiply_32 {x : Ctx} {post : Mem → Prop} (C : Ok x b_Mo_multiply 6 "HeapTowerModel") (hR : xR x = rm_Mo_multiply) (Rt : RetV x post 0 0) {k8 : Nat → Int32 → Int32 → Int32 → Int32 → Mem → Prop} (K8 : ∀ (a0 : Nat) (x1 : Int32) (x2 : Int32) (x3 : Int32) (x4 : Int32) (M : Mem), k8 a0 x1 x2 x3 x4 M → J x 6 8 [(0, .ref (xd x a0)), (1, .int x1), (2, .int x2), (3, .int x3), (4, .int x4)] [] 0 0 M) {k32 : Nat → Int32 → Int32 → Int32 → Int32 → Int32 → Mem → Prop} (K32 : ∀ (a0 : Nat) (x1 : Int32) (x2 : Int32) (x3 : Int32) (x4 : Int32) (x5 : Int32) (M : Mem), k32 a0 x1 x2 x3 x4 x5 M → J x 6 32 [(0, .ref (xd x a0)), (1, .int x1), (2, .int x2), (3, .int x3), (4, .int x4), (5, .int x5)] [] 0 0 M) (a0 : Nat) (x1 : Int32) (x2 : Int32) (x3 : Int32) (x4 : Int32) (x5 : Int32) (M : Mem) (h : B_Mo_multiply_32 k8 k32 post a0 x1 x2 x3 x4 x5 M) : J x 6 32 [(0, .ref (xd x a0)), (1, .int x1), (2, .int x2), (3, .int x3), (4, .int x4), (5, .int x5)] [] 0 0 M := by
  unfold B_Mo_multiply_32 at h
  refine J_iload C 5 D_Mo_multiply_32 rfl ?_
  refine J_sipush (v := 1331) C D_Mo_multiply_34 rfl ?_
  refine J_icmp_ge (tgt := 99) C D_Mo_multiply_37 (by decide) (fun c_37 => ?_) (fun c_37 => ?_)
  · have h := h.1 c_37
    exact J_sub [0, 1, 2, 3, 4] rfl (Z_Mo_multiply_99 C hR Rt K8 _ _ _ _ _ _ h)
  · have h := h.2 c_37
    refine J_aload_n C 0 D_Mo_multiply_40 rfl rfl ?_
    refine J_iload_n C 2 D_Mo_multiply_41 rfl rfl ?_
    refine J_iload C 5 D_Mo_multiply_42 rfl ?_
    obtain ⟨c_44, h⟩ := h
    refine J_callVi C ml_Mo_69 (S_Mo_get _ _ _ _ _ h) (by rw [hR]; decide) rfl c_44 rfl (Nat.le_of_ble_eq_true rfl) D_Mo_multiply_44 (fun r44 M44 h => ?_)
    refine J_if_eq (tgt := 93) C D_Mo_multiply_47 (by decide) (fun c_47 => ?_) (fun c_47 => ?_)
    · have h := h.1 c_47
      exact J_sub [0, 1, 2, 3, 4, 5] rfl (Z_Mo_multiply_93 C hR Rt K8 K32 _ _ _ _ _ _ _ h)
    · have h := h.2 c_47
      refine J_aload_n C 0 D_Mo_multiply_50 rfl rfl ?_
      refine J_iload_n C 3 D_Mo_multiply_51 rfl rfl ?_
      refine J_iload C 4 D_Mo_multiply_52 rfl ?_
      refine J_iload C 5 D_Mo_multiply_54 rfl ?_
      refine J_iadd C D_Mo_multiply_56 ?_
      refine J_aload_n C 0 D_Mo_multiply_57 rfl rfl ?_
      refine J_aload_n C 0 D_Mo_multiply_58 rfl rfl ?_
      refine J_iload_n C 3 D_Mo_multiply_59 rfl rfl ?_
      refine J_iload C 4 D_Mo_multiply_60 rfl ?_
      refine J_iload C 5 D_Mo_multiply_62 rfl ?_
      refine J_iadd C D_Mo_multiply_64 ?_
      obtain ⟨c_65, h⟩ := h
      refine J_callVi C ml_Mo_69 (S_Mo_get _ _ _ _ _ h) (by rw [hR]; decide) rfl c_65 rfl (Nat.le_of_ble_eq_true rfl) D_Mo_multiply_65 (fun r65 M65 h => ?_)
      refine J_i2l C D_Mo_multiply_68 ?_
      refine J_aload_n C 0 D_Mo_multiply_69 rfl rfl ?_
      refine J_iload_n C 1 D_Mo_multiply_70 rfl rfl ?_
      refine J_iload C 4 D_Mo_multiply_71 rfl ?_
      obtain ⟨c_73, h⟩ := h
      refine J_callVi C ml_Mo_69 (S_Mo_get _ _ _ _ _ h) (by rw [hR]; decide) rfl c_73 rfl (Nat.le_of_ble_eq_true rfl) D_Mo_multiply_73 (fun r73 M73 h => ?_)
      refine J_i2l C D_Mo_multiply_76 ?_
      refine J_aload_n C 0 D_Mo_multiply_77 rfl rfl ?_
      refine J_iload_n C 2 D_Mo_multiply_78 rfl rfl ?_
      refine J_iload C 5 D_Mo_multiply_79 rfl ?_
      obtain ⟨c_81, h⟩ := h
      refine J_callVi C ml_Mo_69 (S_Mo_get _ _ _ _ _ h) (by rw [hR]; decide) rfl c_81 rfl (Nat.le_of_ble_eq_true rfl) D_Mo_multiply_81 (fun r81 M81 h => ?_)
      refine J_i2l C D_Mo_multiply_84 ?_
      refine J_lmul C D_Mo_multiply_85 ?_
      refine J_ladd C D_Mo_multiply_86 ?_
      obtain ⟨c_87, h⟩ := h
      refine J_callVi C ml_Mo_48 (S_Mo_mod _ _ _ _ h) (by rw [hR]; decide) rfl c_87 rfl (Nat.le_of_ble_eq_true rfl) D_Mo_multiply_87 (fun r87 M87 h => ?_)
      obtain ⟨c_90, h⟩ := h
      refine J_callVv C ml_Mo_65 (S_Mo_put _ _ _ _ _ _ h) (by rw [hR]; decide) rfl c_90 rfl (Nat.le_of_ble_eq_true rfl) D_Mo_multiply_90 (fun M90 h => ?_)
      exact J_sub [0, 1, 2, 3, 4, 5] rfl (Z_Mo_multiply_93 C hR Rt K8 K32 _ _ _ _ _ _ _ h)
def L_Mo_multiply_32 (k8 : Nat → Int32 → Int32 → Int32 → Int32 → Mem → Prop) (post : Mem → Prop) : Nat → Nat → Int32 → Int32 → Int32 → Int32 → Int32 → Mem → Prop
  | 0, _, _, _, _, _, _, _ => False
  | n + 1, a0, x1, x2, x3, x4, x5, M => B_Mo_multiply_32 k8 (L_Mo_multiply_32 k8 post n) post a0 x1 x2 x3 x4 x5 M
theorem Y_Mo_multiply_32 {x : Ctx} {post : Mem → Prop} (C : Ok x b_Mo_multiply 6 "HeapTowerModel") (hR : xR x = rm_Mo_multiply) (Rt : RetV x post 0 0) {k8 : Nat → Int32 → Int32 → Int32 → Int32 → Mem → Prop} (K8 : ∀ (a0 : Nat) (x1 : Int32) (x2 : Int32) (x3 : Int32) (x4 : Int32) (M : Mem), k8 a0 x1 x2 x3 x4 M → J x 6 8 [(0, .ref (xd x a0)), (1, .int x1), (2, .int x2), (3, .int x3), (4, .int x4)] [] 0 0 M) : ∀ (n : Nat) (a0 : Nat) (x1 : Int32) (x2 : Int32) (x3 : Int32) (x4 : Int32) (x5 : Int32) (M : Mem), L_Mo_multiply_32 k8 post n a0 x1 x2 x3 x4 x5 M → J x 6 32 [(0, .ref (xd x a0)), (1, .int x1), (2, .int x2), (3, .int x3), (4, .int x4), (5, .int x5)] [] 0 0 M := by
  intro n
  induction n with
  | zero => intro a0 x1 x2 x3 x4 x5 M h; exact h.elim
  | succ n ih => intro a0 x1 x2 x3 x4 x5 M h; exact Z_Mo_multiply_32 C hR Rt K8 ih _ _ _ _ _ _ _ h
def B_Mo_multiply_8 (k8 : Nat → Int32 → Int32 → Int32 → Int32 → Mem → Prop) (post : Mem → Prop) (a0 : Nat) (x1 : Int32) (x2 : Int32) (x3 : Int32) (x4 : Int32) (M : Mem) : Prop := ((1331 ≤ x4 → (post M)) ∧ (¬ 1331 ≤ x4 → (isK M a0 7 ∧ T_Mo_get a0 x1 x4 M (fun r20 M20 => (¬ r20 = 0 → (∃ n, L_Mo_multiply_32 k8 post n a0 x1 x2 x3 x4 0 M20)) ∧ (r20 = 0 → (B_Mo_multiply_99 k8 post a0 x1 x2 x3 x4 M20))))))
set_option maxRecDepth 20000 in
theorem Z_Mo_multiply_8 {x : Ctx} {post : Mem → Prop} (C : Ok x b_Mo_multiply 6 "HeapTowerModel") (hR : xR x = rm_Mo_multiply) (Rt : RetV x post 0 0) {k8 : Nat → Int32 → Int32 → Int32 → Int32 → Mem → Prop} (K8 : ∀ (a0 : Nat) (x1 : Int32) (x2 : Int32) (x3 : Int32) (x4 : Int32) (M : Mem), k8 a0 x1 x2 x3 x4 M → J x 6 8 [(0, .ref (xd x a0)), (1, .int x1), (2, .int x2), (3, .int x3), (4, .int x4)] [] 0 0 M) (a0 : Nat) (x1 : Int32) (x2 : Int32) (x3 : Int32) (x4 : Int32) (M : Mem) (h : B_Mo_multiply_8 k8 post a0 x1 x2 x3 x4 M) : J x 6 8 [(0, .ref (xd x a0)), (1, .int x1), (2, .int x2), (3, .int x3), (4, .int x4)] [] 0 0 M := by
  unfold B_Mo_multiply_8 at h
  refine J_iload C 4 D_Mo_multiply_8 rfl ?_
  refine J_sipush (v := 1331) C D_Mo_multiply_10 rfl ?_
  refine J_icmp_ge (tgt := 105) C D_Mo_multiply_13 (by decide) (fun c_13 => ?_) (fun c_13 => ?_)
  · have h := h.1 c_13
    exact J_vret C Rt D_Mo_multiply_105 h
  · have h := h.2 c_13
    refine J_aload_n C 0 D_Mo_multiply_16 rfl rfl ?_
    refine J_iload_n C 1 D_Mo_multiply_17 rfl rfl ?_
    refine J_iload C 4 D_Mo_multiply_18 rfl ?_
    obtain ⟨c_20, h⟩ := h
    refine J_callVi C ml_Mo_69 (S_Mo_get _ _ _ _ _ h) (by rw [hR]; decide) rfl c_20 rfl (Nat.le_of_ble_eq_true rfl) D_Mo_multiply_20 (fun r20 M20 h => ?_)
    refine J_if_ne (tgt := 29) C D_Mo_multiply_23 (by decide) (fun c_23 => ?_) (fun c_23 => ?_)
    · have h := h.1 c_23
      refine J_iconst (v := 0) C D_Mo_multiply_29 rfl ?_
      refine J_istore (lv' := [(5, .int 0), (0, .ref (xd x a0)), (1, .int x1), (2, .int x2), (3, .int x3), (4, .int x4)]) C 5 D_Mo_multiply_30 (by decide) rfl ?_
      obtain ⟨n, h⟩ := h
      exact J_sub [1, 2, 3, 4, 5, 0] rfl (Y_Mo_multiply_32 C hR Rt K8 n _ _ _ _ _ _ _ h)
    · have h := h.2 c_23
      refine J_goto (tgt := 99) C D_Mo_multiply_26 (by decide) ?_
      exact J_sub [0, 1, 2, 3, 4] rfl (Z_Mo_multiply_99 C hR Rt K8 _ _ _ _ _ _ h)
def L_Mo_multiply_8 (post : Mem → Prop) : Nat → Nat → Int32 → Int32 → Int32 → Int32 → Mem → Prop
  | 0, _, _, _, _, _, _ => False
  | n + 1, a0, x1, x2, x3, x4, M => B_Mo_multiply_8 (L_Mo_multiply_8 post n) post a0 x1 x2 x3 x4 M
theorem Y_Mo_multiply_8 {x : Ctx} {post : Mem → Prop} (C : Ok x b_Mo_multiply 6 "HeapTowerModel") (hR : xR x = rm_Mo_multiply) (Rt : RetV x post 0 0) : ∀ (n : Nat) (a0 : Nat) (x1 : Int32) (x2 : Int32) (x3 : Int32) (x4 : Int32) (M : Mem), L_Mo_multiply_8 post n a0 x1 x2 x3 x4 M → J x 6 8 [(0, .ref (xd x a0)), (1, .int x1), (2, .int x2), (3, .int x3), (4, .int x4)] [] 0 0 M := by
  intro n
  induction n with
  | zero => intro a0 x1 x2 x3 x4 M h; exact h.elim
  | succ n ih => intro a0 x1 x2 x3 x4 M h; exact Z_Mo_multiply_8 C hR Rt ih _ _ _ _ _ _ h
def T_Mo_multiply (a0 : Nat) (x1 : Int32) (x2 : Int32) (x3 : Int32) (M : Mem) (post : Mem → Prop) : Prop := (isK M a0 7 ∧ T_Mo_clear a0 x3 M (fun M2 => ∃ n, L_Mo_multiply_8 post n a0 x1 x2 x3 0 M2))
set_option maxRecDepth 20000 in
theorem S_Mo_multiply {l : Launch} {D : va_G} {B t g : Nat} {d : Nat → Nat} {ac : Nat → ClassId}  (a0 : Nat) (x1 : Int32) (x2 : Int32) (x3 : Int32) (M : Mem) (post : Mem → Prop) (h : T_Mo_multiply a0 x1 x2 x3 M post) : Met l y_Mo_multiply w_Mo_multiply rm_Mo_multiply (va_Pc [.ref (d a0), .int x1, .int x2, .int x3] (PRE D B d g t ac M)) (QV D B d g ac post) 0 0 (AB B) := by
  refine met_v (by decide +kernel) (Nat.le_of_ble_eq_true rfl) (fun x h1 hR h3 h4 h5 h6 h7 h8 C Rt Nm => ?_)
  subst h3 h4 h5 h6 h7 h8
  unfold T_Mo_multiply at h
  show J x 6 0 [(0, .ref (xd x a0)), (1, .int x1), (2, .int x2), (3, .int x3)] [] 0 0 M
  refine J_aload_n C 0 D_Mo_multiply_0 rfl rfl ?_
  refine J_iload_n C 3 D_Mo_multiply_1 rfl rfl ?_
  obtain ⟨c_2, h⟩ := h
  refine J_callVv C ml_Mo_90 (S_Mo_clear _ _ _ _ h) (by rw [hR]; decide) rfl c_2 rfl (Nat.le_of_ble_eq_true rfl) D_Mo_multiply_2 (fun M2 h => ?_)
  refine J_iconst (v := 0) C D_Mo_multiply_5 rfl ?_
  refine J_istore (lv' := [(4, .int 0), (0, .ref (xd x a0)), (1, .int x1), (2, .int x2), (3, .int x3)]) C 4 D_Mo_multiply_6 (by decide) rfl ?_
  obtain ⟨n, h⟩ := h
  exact J_sub [1, 2, 3, 4, 0] rfl (Y_Mo_multiply_8 C hR Rt  n _ _ _ _ _ _ h)
theorem D_Mo_dimensionOf_0 : decode b_Mo_dimensionOf 0 = .ok (.aload_n 0, 1) := by decide +kernel
theorem D_Mo_dimensionOf_1 : decode b_Mo_dimensionOf 1 = .ok (.iload_n 2, 1) := by decide +kernel
theorem D_Mo_dimensionOf_2 : decode b_Mo_dimensionOf 2 = .ok (.invokevirtual 133, 3) := by decide +kernel
theorem D_Mo_dimensionOf_5 : decode b_Mo_dimensionOf 5 = .ok (.iload_n 1, 1) := by decide +kernel
theorem D_Mo_dimensionOf_6 : decode b_Mo_dimensionOf 6 = .ok (.ifCond .eq 8, 3) := by decide +kernel
theorem D_Mo_dimensionOf_9 : decode b_Mo_dimensionOf 9 = .ok (.iload_n 1, 1) := by decide +kernel
theorem D_Mo_dimensionOf_10 : decode b_Mo_dimensionOf 10 = .ok (.iconst 2, 1) := by decide +kernel
theorem D_Mo_dimensionOf_11 : decode b_Mo_dimensionOf 11 = .ok (.if_icmp .ne 8, 3) := by decide +kernel
theorem D_Mo_dimensionOf_14 : decode b_Mo_dimensionOf 14 = .ok (.aload_n 0, 1) := by decide +kernel
theorem D_Mo_dimensionOf_15 : decode b_Mo_dimensionOf 15 = .ok (.iload_n 2, 1) := by decide +kernel
theorem D_Mo_dimensionOf_16 : decode b_Mo_dimensionOf 16 = .ok (.invokevirtual 139, 3) := by decide +kernel
theorem D_Mo_dimensionOf_19 : decode b_Mo_dimensionOf 19 = .ok (.iload_n 1, 1) := by decide +kernel
theorem D_Mo_dimensionOf_20 : decode b_Mo_dimensionOf 20 = .ok (.iconst 1, 1) := by decide +kernel
theorem D_Mo_dimensionOf_21 : decode b_Mo_dimensionOf 21 = .ok (.if_icmp .eq 8, 3) := by decide +kernel
theorem D_Mo_dimensionOf_24 : decode b_Mo_dimensionOf 24 = .ok (.iload_n 1, 1) := by decide +kernel
theorem D_Mo_dimensionOf_25 : decode b_Mo_dimensionOf 25 = .ok (.iconst 2, 1) := by decide +kernel
theorem D_Mo_dimensionOf_26 : decode b_Mo_dimensionOf 26 = .ok (.if_icmp .ne 8, 3) := by decide +kernel
theorem D_Mo_dimensionOf_29 : decode b_Mo_dimensionOf 29 = .ok (.aload_n 0, 1) := by decide +kernel
theorem D_Mo_dimensionOf_30 : decode b_Mo_dimensionOf 30 = .ok (.iload_n 2, 1) := by decide +kernel
theorem D_Mo_dimensionOf_31 : decode b_Mo_dimensionOf 31 = .ok (.invokevirtual 183, 3) := by decide +kernel
theorem D_Mo_dimensionOf_34 : decode b_Mo_dimensionOf 34 = .ok (.iload_n 1, 1) := by decide +kernel
theorem D_Mo_dimensionOf_35 : decode b_Mo_dimensionOf 35 = .ok (.iconst 3, 1) := by decide +kernel
theorem D_Mo_dimensionOf_36 : decode b_Mo_dimensionOf 36 = .ok (.if_icmp .ne 9, 3) := by decide +kernel
theorem D_Mo_dimensionOf_39 : decode b_Mo_dimensionOf 39 = .ok (.aload_n 0, 1) := by decide +kernel
theorem D_Mo_dimensionOf_40 : decode b_Mo_dimensionOf 40 = .ok (.iload_n 2, 1) := by decide +kernel
theorem D_Mo_dimensionOf_41 : decode b_Mo_dimensionOf 41 = .ok (.invokevirtual 186, 3) := by decide +kernel
theorem D_Mo_dimensionOf_44 : decode b_Mo_dimensionOf 44 = .ok (.ireturn, 1) := by decide +kernel
theorem D_Mo_dimensionOf_45 : decode b_Mo_dimensionOf 45 = .ok (.iconst 0, 1) := by decide +kernel
theorem D_Mo_dimensionOf_46 : decode b_Mo_dimensionOf 46 = .ok (.istore_n 3, 1) := by decide +kernel
theorem D_Mo_dimensionOf_47 : decode b_Mo_dimensionOf 47 = .ok (.iload_n 3, 1) := by decide +kernel
theorem D_Mo_dimensionOf_48 : decode b_Mo_dimensionOf 48 = .ok (.aload_n 0, 1) := by decide +kernel
theorem D_Mo_dimensionOf_49 : decode b_Mo_dimensionOf 49 = .ok (.getfield 84, 3) := by decide +kernel
theorem D_Mo_dimensionOf_52 : decode b_Mo_dimensionOf 52 = .ok (.if_icmp .ge 63, 3) := by decide +kernel
theorem D_Mo_dimensionOf_55 : decode b_Mo_dimensionOf 55 = .ok (.iload_n 1, 1) := by decide +kernel
theorem D_Mo_dimensionOf_56 : decode b_Mo_dimensionOf 56 = .ok (.iconst 4, 1) := by decide +kernel
theorem D_Mo_dimensionOf_57 : decode b_Mo_dimensionOf 57 = .ok (.if_icmp .ne 58, 3) := by decide +kernel
theorem D_Mo_dimensionOf_60 : decode b_Mo_dimensionOf 60 = .ok (.iconst 0, 1) := by decide +kernel
theorem D_Mo_dimensionOf_61 : decode b_Mo_dimensionOf 61 = .ok (.istore 4, 2) := by decide +kernel
theorem D_Mo_dimensionOf_63 : decode b_Mo_dimensionOf 63 = .ok (.iload 4, 2) := by decide +kernel
theorem D_Mo_dimensionOf_65 : decode b_Mo_dimensionOf 65 = .ok (.aload_n 0, 1) := by decide +kernel
theorem D_Mo_dimensionOf_66 : decode b_Mo_dimensionOf 66 = .ok (.getfield 87, 3) := by decide +kernel
theorem D_Mo_dimensionOf_69 : decode b_Mo_dimensionOf 69 = .ok (.if_icmp .ge 40, 3) := by decide +kernel
theorem D_Mo_dimensionOf_72 : decode b_Mo_dimensionOf 72 = .ok (.aload_n 0, 1) := by decide +kernel
theorem D_Mo_dimensionOf_73 : decode b_Mo_dimensionOf 73 = .ok (.iconst 1, 1) := by decide +kernel
theorem D_Mo_dimensionOf_74 : decode b_Mo_dimensionOf 74 = .ok (.iload_n 3, 1) := by decide +kernel
theorem D_Mo_dimensionOf_75 : decode b_Mo_dimensionOf 75 = .ok (.iadd, 1) := by decide +kernel
theorem D_Mo_dimensionOf_76 : decode b_Mo_dimensionOf 76 = .ok (.bipush 13, 2) := by decide +kernel
theorem D_Mo_dimensionOf_78 : decode b_Mo_dimensionOf 78 = .ok (.iload 4, 2) := by decide +kernel
theorem D_Mo_dimensionOf_80 : decode b_Mo_dimensionOf 80 = .ok (.iadd, 1) := by decide +kernel
theorem D_Mo_dimensionOf_81 : decode b_Mo_dimensionOf 81 = .ok (.bipush 19, 2) := by decide +kernel
theorem D_Mo_dimensionOf_83 : decode b_Mo_dimensionOf 83 = .ok (.invokevirtual 189, 3) := by decide +kernel
theorem D_Mo_dimensionOf_86 : decode b_Mo_dimensionOf 86 = .ok (.aload_n 0, 1) := by decide +kernel
theorem D_Mo_dimensionOf_87 : decode b_Mo_dimensionOf 87 = .ok (.bipush 19, 2) := by decide +kernel
theorem D_Mo_dimensionOf_89 : decode b_Mo_dimensionOf 89 = .ok (.invokevirtual 72, 3) := by decide +kernel
theorem D_Mo_dimensionOf_92 : decode b_Mo_dimensionOf 92 = .ok (.iload_n 2, 1) := by decide +kernel
theorem D_Mo_dimensionOf_93 : decode b_Mo_dimensionOf 93 = .ok (.if_icmp .gt 10, 3) := by decide +kernel
theorem D_Mo_dimensionOf_96 : decode b_Mo_dimensionOf 96 = .ok (.aload_n 0, 1) := by decide +kernel
theorem D_Mo_dimensionOf_97 : decode b_Mo_dimensionOf 97 = .ok (.bipush 19, 2) := by decide +kernel
theorem D_Mo_dimensionOf_99 : decode b_Mo_dimensionOf 99 = .ok (.iload_n 2, 1) := by decide +kernel
theorem D_Mo_dimensionOf_100 : decode b_Mo_dimensionOf 100 = .ok (.invokevirtual 136, 3) := by decide +kernel
theorem D_Mo_dimensionOf_103 : decode b_Mo_dimensionOf 103 = .ok (.iinc 4 1, 3) := by decide +kernel
theorem D_Mo_dimensionOf_106 : decode b_Mo_dimensionOf 106 = .ok (.goto (-43), 3) := by decide +kernel
theorem D_Mo_dimensionOf_109 : decode b_Mo_dimensionOf 109 = .ok (.iinc 3 1, 3) := by decide +kernel
theorem D_Mo_dimensionOf_112 : decode b_Mo_dimensionOf 112 = .ok (.goto (-65), 3) := by decide +kernel
theorem D_Mo_dimensionOf_115 : decode b_Mo_dimensionOf 115 = .ok (.aload_n 0, 1) := by decide +kernel
theorem D_Mo_dimensionOf_116 : decode b_Mo_dimensionOf 116 = .ok (.getfield 121, 3) := by decide +kernel
theorem D_Mo_dimensionOf_119 : decode b_Mo_dimensionOf 119 = .ok (.ireturn, 1) := by decide +kernel
abbrev rm_Mo_dimensionOf : Room := { frames := 6, cells := 0, slots := 0, locals := 144 }
def B_Mo_dimensionOf_115 (post : Int32 → Mem → Prop) (a0 : Nat) (M : Mem) : Prop := (isK M a0 7 ∧ post (gI M a0 12) M)
set_option maxRecDepth 20000 in
theorem Z_Mo_dimensionOf_115 {x : Ctx} {post : Int32 → Mem → Prop} (C : Ok x b_Mo_dimensionOf 5 "HeapTowerModel") (hR : xR x = rm_Mo_dimensionOf) (Rt : RetI x .int post 0 0) (a0 : Nat) (M : Mem) (h : B_Mo_dimensionOf_115 post a0 M) : J x 5 115 [(0, .ref (xd x a0))] [] 0 0 M := by
  unfold B_Mo_dimensionOf_115 at h
  refine J_aload_n C 0 D_Mo_dimensionOf_115 rfl rfl ?_
  obtain ⟨c_116, h⟩ := h
  refine J_getI C fl_Mo_121 D_Mo_dimensionOf_116 c_116 ?_
  exact J_iret C Rt D_Mo_dimensionOf_119 rfl h
def B_Mo_dimensionOf_103 (k47 : Nat → Int32 → Int32 → Int32 → Mem → Prop) (k63 : Nat → Int32 → Int32 → Int32 → Int32 → Mem → Prop) (post : Int32 → Mem → Prop) (a0 : Nat) (x1 : Int32) (x2 : Int32) (x3 : Int32) (x4 : Int32) (M : Mem) : Prop := (k63 a0 x1 x2 x3 (x4 + 1) M)
set_option maxRecDepth 20000 in
theorem Z_Mo_dimensionOf_103 {x : Ctx} {post : Int32 → Mem → Prop} (C : Ok x b_Mo_dimensionOf 5 "HeapTowerModel") (hR : xR x = rm_Mo_dimensionOf) (Rt : RetI x .int post 0 0) {k47 : Nat → Int32 → Int32 → Int32 → Mem → Prop} (K47 : ∀ (a0 : Nat) (x1 : Int32) (x2 : Int32) (x3 : Int32) (M : Mem), k47 a0 x1 x2 x3 M → J x 5 47 [(0, .ref (xd x a0)), (1, .int x1), (2, .int x2), (3, .int x3)] [] 0 0 M) {k63 : Nat → Int32 → Int32 → Int32 → Int32 → Mem → Prop} (K63 : ∀ (a0 : Nat) (x1 : Int32) (x2 : Int32) (x3 : Int32) (x4 : Int32) (M : Mem), k63 a0 x1 x2 x3 x4 M → J x 5 63 [(0, .ref (xd x a0)), (1, .int x1), (2, .int x2), (3, .int x3), (4, .int x4)] [] 0 0 M) (a0 : Nat) (x1 : Int32) (x2 : Int32) (x3 : Int32) (x4 : Int32) (M : Mem) (h : B_Mo_dimensionOf_103 k47 k63 post a0 x1 x2 x3 x4 M) : J x 5 103 [(0, .ref (xd x a0)), (1, .int x1), (2, .int x2), (3, .int x3), (4, .int x4)] [] 0 0 M := by
  unfold B_Mo_dimensionOf_103 at h
  refine J_iinc (v := x4 + 1) (lv' := [(4, .int (x4 + 1)), (0, .ref (xd x a0)), (1, .int x1), (2, .int x2), (3, .int x3)]) C 4 4 D_Mo_dimensionOf_103 rfl rfl (by decide) rfl ?_
  refine J_goto (tgt := 63) C D_Mo_dimensionOf_106 (by decide) ?_
  exact J_sub [1, 2, 3, 4, 0] rfl (K63 _ _ _ _ _ _ h)
def B_Mo_dimensionOf_63 (k47 : Nat → Int32 → Int32 → Int32 → Mem → Prop) (k63 : Nat → Int32 → Int32 → Int32 → Int32 → Mem → Prop) (post : Int32 → Mem → Prop) (a0 : Nat) (x1 : Int32) (x2 : Int32) (x3 : Int32) (x4 : Int32) (M : Mem) : Prop := (isK M a0 7 ∧ ((gI M a0 5) ≤ x4 → (k47 a0 x1 x2 (x3 + 1) M)) ∧ (¬ (gI M a0 5) ≤ x4 → (isK M a0 7 ∧ T_Mo_multiply a0 (1 + x3) (13 + x4) 19 M (fun M83 => isK M83 a0 7 ∧ T_Mo_degree a0 19 M83 (fun r89 M89 => (x2 < r89 → (B_Mo_dimensionOf_103 k47 k63 post a0 x1 x2 x3 x4 M89)) ∧ (¬ x2 < r89 → (isK M89 a0 7 ∧ T_Mo_spread a0 19 x2 M89 (fun M100 => B_Mo_dimensionOf_103 k47 k63 post a0 x1 x2 x3 x4 M100))))))))
set_option maxRecDepth 20000 in
theorem Z_Mo_dimensionOf_63 {x : Ctx} {post : Int32 → Mem → Prop} (C : Ok x b_Mo_dimensionOf 5 "HeapTowerModel") (hR : xR x = rm_Mo_dimensionOf) (Rt : RetI x .int post 0 0) {k47 : Nat → Int32 → Int32 → Int32 → Mem → Prop} (K47 : ∀ (a0 : Nat) (x1 : Int32) (x2 : Int32) (x3 : Int32) (M : Mem), k47 a0 x1 x2 x3 M → J x 5 47 [(0, .ref (xd x a0)), (1, .int x1), (2, .int x2), (3, .int x3)] [] 0 0 M) {k63 : Nat → Int32 → Int32 → Int32 → Int32 → Mem → Prop} (K63 : ∀ (a0 : Nat) (x1 : Int32) (x2 : Int32) (x3 : Int32) (x4 : Int32) (M : Mem), k63 a0 x1 x2 x3 x4 M → J x 5 63 [(0, .ref (xd x a0)), (1, .int x1), (2, .int x2), (3, .int x3), (4, .int x4)] [] 0 0 M) (a0 : Nat) (x1 : Int32) (x2 : Int32) (x3 : Int32) (x4 : Int32) (M : Mem) (h : B_Mo_dimensionOf_63 k47 k63 post a0 x1 x2 x3 x4 M) : J x 5 63 [(0, .ref (xd x a0)), (1, .int x1), (2, .int x2), (3, .int x3), (4, .int x4)] [] 0 0 M := by
  unfold B_Mo_dimensionOf_63 at h
  refine J_iload C 4 D_Mo_dimensionOf_63 rfl ?_
  refine J_aload_n C 0 D_Mo_dimensionOf_65 rfl rfl ?_
  obtain ⟨c_66, h⟩ := h
  refine J_getI C fl_Mo_87 D_Mo_dimensionOf_66 c_66 ?_
  refine J_icmp_ge (tgt := 109) C D_Mo_dimensionOf_69 (by decide) (fun c_69 => ?_) (fun c_69 => ?_)
  · have h := h.1 c_69
    refine J_iinc (v := x3 + 1) (lv' := [(3, .int (x3 + 1)), (0, .ref (xd x a0)), (1, .int x1), (2, .int x2), (4, .int x4)]) C 3 3 D_Mo_dimensionOf_109 rfl rfl (by decide) rfl ?_
    refine J_goto (tgt := 47) C D_Mo_dimensionOf_112 (by decide) ?_
    exact J_sub [1, 2, 3, 0] rfl (K47 _ _ _ _ _ h)
  · have h := h.2 c_69
    refine J_aload_n C 0 D_Mo_dimensionOf_72 rfl rfl ?_
    refine J_iconst (v := 1) C D_Mo_dimensionOf_73 rfl ?_
    refine J_iload_n C 3 D_Mo_dimensionOf_74 rfl rfl ?_
    refine J_iadd C D_Mo_dimensionOf_75 ?_
    refine J_bipush (v := 13) C D_Mo_dimensionOf_76 rfl ?_
    refine J_iload C 4 D_Mo_dimensionOf_78 rfl ?_
    refine J_iadd C D_Mo_dimensionOf_80 ?_
    refine J_bipush (v := 19) C D_Mo_dimensionOf_81 rfl ?_
    obtain ⟨c_83, h⟩ := h
    refine J_callVv C ml_Mo_189 (S_Mo_multiply _ _ _ _ _ _ h) (by rw [hR]; decide) rfl c_83 rfl (Nat.le_of_ble_eq_true rfl) D_Mo_dimensionOf_83 (fun M83 h => ?_)
    refine J_aload_n C 0 D_Mo_dimensionOf_86 rfl rfl ?_
    refine J_bipush (v := 19) C D_Mo_dimensionOf_87 rfl ?_
    obtain ⟨c_89, h⟩ := h
    refine J_callVi C ml_Mo_72 (S_Mo_degree _ _ _ _ h) (by rw [hR]; decide) rfl c_89 rfl (Nat.le_of_ble_eq_true rfl) D_Mo_dimensionOf_89 (fun r89 M89 h => ?_)
    refine J_iload_n C 2 D_Mo_dimensionOf_92 rfl rfl ?_
    refine J_icmp_gt (tgt := 103) C D_Mo_dimensionOf_93 (by decide) (fun c_93 => ?_) (fun c_93 => ?_)
    · have h := h.1 c_93
      exact J_sub [0, 1, 2, 3, 4] rfl (Z_Mo_dimensionOf_103 C hR Rt K47 K63 _ _ _ _ _ _ h)
    · have h := h.2 c_93
      refine J_aload_n C 0 D_Mo_dimensionOf_96 rfl rfl ?_
      refine J_bipush (v := 19) C D_Mo_dimensionOf_97 rfl ?_
      refine J_iload_n C 2 D_Mo_dimensionOf_99 rfl rfl ?_
      obtain ⟨c_100, h⟩ := h
      refine J_callVv C ml_Mo_136 (S_Mo_spread _ _ _ _ _ h) (by rw [hR]; decide) rfl c_100 rfl (Nat.le_of_ble_eq_true rfl) D_Mo_dimensionOf_100 (fun M100 h => ?_)
      exact J_sub [0, 1, 2, 3, 4] rfl (Z_Mo_dimensionOf_103 C hR Rt K47 K63 _ _ _ _ _ _ h)
def L_Mo_dimensionOf_63 (k47 : Nat → Int32 → Int32 → Int32 → Mem → Prop) (post : Int32 → Mem → Prop) : Nat → Nat → Int32 → Int32 → Int32 → Int32 → Mem → Prop
  | 0, _, _, _, _, _, _ => False
  | n + 1, a0, x1, x2, x3, x4, M => B_Mo_dimensionOf_63 k47 (L_Mo_dimensionOf_63 k47 post n) post a0 x1 x2 x3 x4 M
theorem Y_Mo_dimensionOf_63 {x : Ctx} {post : Int32 → Mem → Prop} (C : Ok x b_Mo_dimensionOf 5 "HeapTowerModel") (hR : xR x = rm_Mo_dimensionOf) (Rt : RetI x .int post 0 0) {k47 : Nat → Int32 → Int32 → Int32 → Mem → Prop} (K47 : ∀ (a0 : Nat) (x1 : Int32) (x2 : Int32) (x3 : Int32) (M : Mem), k47 a0 x1 x2 x3 M → J x 5 47 [(0, .ref (xd x a0)), (1, .int x1), (2, .int x2), (3, .int x3)] [] 0 0 M) : ∀ (n : Nat) (a0 : Nat) (x1 : Int32) (x2 : Int32) (x3 : Int32) (x4 : Int32) (M : Mem), L_Mo_dimensionOf_63 k47 post n a0 x1 x2 x3 x4 M → J x 5 63 [(0, .ref (xd x a0)), (1, .int x1), (2, .int x2), (3, .int x3), (4, .int x4)] [] 0 0 M := by
  intro n
  induction n with
  | zero => intro a0 x1 x2 x3 x4 M h; exact h.elim
  | succ n ih => intro a0 x1 x2 x3 x4 M h; exact Z_Mo_dimensionOf_63 C hR Rt K47 ih _ _ _ _ _ _ h
def B_Mo_dimensionOf_47 (k47 : Nat → Int32 → Int32 → Int32 → Mem → Prop) (post : Int32 → Mem → Prop) (a0 : Nat) (x1 : Int32) (x2 : Int32) (x3 : Int32) (M : Mem) : Prop := (isK M a0 7 ∧ ((gI M a0 4) ≤ x3 → (B_Mo_dimensionOf_115 post a0 M)) ∧ (¬ (gI M a0 4) ≤ x3 → ((¬ x1 = 4 → (B_Mo_dimensionOf_115 post a0 M)) ∧ (x1 = 4 → (∃ n, L_Mo_dimensionOf_63 k47 post n a0 x1 x2 x3 0 M)))))
set_option maxRecDepth 20000 in
theorem Z_Mo_dimensionOf_47 {x : Ctx} {post : Int32 → Mem → Prop} (C : Ok x b_Mo_dimensionOf 5 "HeapTowerModel") (hR : xR x = rm_Mo_dimensionOf) (Rt : RetI x .int post 0 0) {k47 : Nat → Int32 → Int32 → Int32 → Mem → Prop} (K47 : ∀ (a0 : Nat) (x1 : Int32) (x2 : Int32) (x3 : Int32) (M : Mem), k47 a0 x1 x2 x3 M → J x 5 47 [(0, .ref (xd x a0)), (1, .int x1), (2, .int x2), (3, .int x3)] [] 0 0 M) (a0 : Nat) (x1 : Int32) (x2 : Int32) (x3 : Int32) (M : Mem) (h : B_Mo_dimensionOf_47 k47 post a0 x1 x2 x3 M) : J x 5 47 [(0, .ref (xd x a0)), (1, .int x1), (2, .int x2), (3, .int x3)] [] 0 0 M := by
  unfold B_Mo_dimensionOf_47 at h
  refine J_iload_n C 3 D_Mo_dimensionOf_47 rfl rfl ?_
  refine J_aload_n C 0 D_Mo_dimensionOf_48 rfl rfl ?_
  obtain ⟨c_49, h⟩ := h
  refine J_getI C fl_Mo_84 D_Mo_dimensionOf_49 c_49 ?_
  refine J_icmp_ge (tgt := 115) C D_Mo_dimensionOf_52 (by decide) (fun c_52 => ?_) (fun c_52 => ?_)
  · have h := h.1 c_52
    exact J_sub [0] rfl (Z_Mo_dimensionOf_115 C hR Rt  _ _ h)
  · have h := h.2 c_52
    refine J_iload_n C 1 D_Mo_dimensionOf_55 rfl rfl ?_
    refine J_iconst (v := 4) C D_Mo_dimensionOf_56 rfl ?_
    refine J_icmp_ne (tgt := 115) C D_Mo_dimensionOf_57 (by decide) (fun c_57 => ?_) (fun c_57 => ?_)
    · have h := h.1 c_57
      exact J_sub [0] rfl (Z_Mo_dimensionOf_115 C hR Rt  _ _ h)
    · have h := h.2 c_57
      refine J_iconst (v := 0) C D_Mo_dimensionOf_60 rfl ?_
      refine J_istore (lv' := [(4, .int 0), (0, .ref (xd x a0)), (1, .int x1), (2, .int x2), (3, .int x3)]) C 4 D_Mo_dimensionOf_61 (by decide) rfl ?_
      obtain ⟨n, h⟩ := h
      exact J_sub [1, 2, 3, 4, 0] rfl (Y_Mo_dimensionOf_63 C hR Rt K47 n _ _ _ _ _ _ h)
def L_Mo_dimensionOf_47 (post : Int32 → Mem → Prop) : Nat → Nat → Int32 → Int32 → Int32 → Mem → Prop
  | 0, _, _, _, _, _ => False
  | n + 1, a0, x1, x2, x3, M => B_Mo_dimensionOf_47 (L_Mo_dimensionOf_47 post n) post a0 x1 x2 x3 M
theorem Y_Mo_dimensionOf_47 {x : Ctx} {post : Int32 → Mem → Prop} (C : Ok x b_Mo_dimensionOf 5 "HeapTowerModel") (hR : xR x = rm_Mo_dimensionOf) (Rt : RetI x .int post 0 0) : ∀ (n : Nat) (a0 : Nat) (x1 : Int32) (x2 : Int32) (x3 : Int32) (M : Mem), L_Mo_dimensionOf_47 post n a0 x1 x2 x3 M → J x 5 47 [(0, .ref (xd x a0)), (1, .int x1), (2, .int x2), (3, .int x3)] [] 0 0 M := by
  intro n
  induction n with
  | zero => intro a0 x1 x2 x3 M h; exact h.elim
  | succ n ih => intro a0 x1 x2 x3 M h; exact Z_Mo_dimensionOf_47 C hR Rt ih _ _ _ _ _ h
def B_Mo_dimensionOf_34 (post : Int32 → Mem → Prop) (a0 : Nat) (x1 : Int32) (x2 : Int32) (M : Mem) : Prop := ((¬ x1 = 3 → (∃ n, L_Mo_dimensionOf_47 post n a0 x1 x2 0 M)) ∧ (x1 = 3 → (isK M a0 7 ∧ T_Mo_dimensionOf3 a0 x2 M (fun r41 M41 => post r41 M41))))
set_option maxRecDepth 20000 in
theorem Z_Mo_dimensionOf_34 {x : Ctx} {post : Int32 → Mem → Prop} (C : Ok x b_Mo_dimensionOf 5 "HeapTowerModel") (hR : xR x = rm_Mo_dimensionOf) (Rt : RetI x .int post 0 0) (a0 : Nat) (x1 : Int32) (x2 : Int32) (M : Mem) (h : B_Mo_dimensionOf_34 post a0 x1 x2 M) : J x 5 34 [(0, .ref (xd x a0)), (1, .int x1), (2, .int x2)] [] 0 0 M := by
  unfold B_Mo_dimensionOf_34 at h
  refine J_iload_n C 1 D_Mo_dimensionOf_34 rfl rfl ?_
  refine J_iconst (v := 3) C D_Mo_dimensionOf_35 rfl ?_
  refine J_icmp_ne (tgt := 45) C D_Mo_dimensionOf_36 (by decide) (fun c_36 => ?_) (fun c_36 => ?_)
  · have h := h.1 c_36
    refine J_iconst (v := 0) C D_Mo_dimensionOf_45 rfl ?_
    refine J_istore_n (lv' := [(3, .int 0), (0, .ref (xd x a0)), (1, .int x1), (2, .int x2)]) C 3 D_Mo_dimensionOf_46 rfl (by decide) rfl ?_
    obtain ⟨n, h⟩ := h
    exact J_sub [1, 2, 3, 0] rfl (Y_Mo_dimensionOf_47 C hR Rt  n _ _ _ _ _ h)
  · have h := h.2 c_36
    refine J_aload_n C 0 D_Mo_dimensionOf_39 rfl rfl ?_
    refine J_iload_n C 2 D_Mo_dimensionOf_40 rfl rfl ?_
    obtain ⟨c_41, h⟩ := h
    refine J_callVi C ml_Mo_186 (S_Mo_dimensionOf3 _ _ _ _ h) (by rw [hR]; decide) rfl c_41 rfl (Nat.le_of_ble_eq_true rfl) D_Mo_dimensionOf_41 (fun r41 M41 h => ?_)
    exact J_iret C Rt D_Mo_dimensionOf_44 rfl h
def B_Mo_dimensionOf_29 (post : Int32 → Mem → Prop) (a0 : Nat) (x1 : Int32) (x2 : Int32) (M : Mem) : Prop := (isK M a0 7 ∧ T_Mo_addOther a0 x2 M (fun M31 => B_Mo_dimensionOf_34 post a0 x1 x2 M31))
set_option maxRecDepth 20000 in
theorem Z_Mo_dimensionOf_29 {x : Ctx} {post : Int32 → Mem → Prop} (C : Ok x b_Mo_dimensionOf 5 "HeapTowerModel") (hR : xR x = rm_Mo_dimensionOf) (Rt : RetI x .int post 0 0) (a0 : Nat) (x1 : Int32) (x2 : Int32) (M : Mem) (h : B_Mo_dimensionOf_29 post a0 x1 x2 M) : J x 5 29 [(0, .ref (xd x a0)), (1, .int x1), (2, .int x2)] [] 0 0 M := by
  unfold B_Mo_dimensionOf_29 at h
  refine J_aload_n C 0 D_Mo_dimensionOf_29 rfl rfl ?_
  refine J_iload_n C 2 D_Mo_dimensionOf_30 rfl rfl ?_
  obtain ⟨c_31, h⟩ := h
  refine J_callVv C ml_Mo_183 (S_Mo_addOther _ _ _ _ h) (by rw [hR]; decide) rfl c_31 rfl (Nat.le_of_ble_eq_true rfl) D_Mo_dimensionOf_31 (fun M31 h => ?_)
  exact J_sub [0, 1, 2] rfl (Z_Mo_dimensionOf_34 C hR Rt  _ _ _ _ h)
def B_Mo_dimensionOf_19 (post : Int32 → Mem → Prop) (a0 : Nat) (x1 : Int32) (x2 : Int32) (M : Mem) : Prop := ((x1 = 1 → (B_Mo_dimensionOf_29 post a0 x1 x2 M)) ∧ (¬ x1 = 1 → ((¬ x1 = 2 → (B_Mo_dimensionOf_34 post a0 x1 x2 M)) ∧ (x1 = 2 → (B_Mo_dimensionOf_29 post a0 x1 x2 M)))))
set_option maxRecDepth 20000 in
theorem Z_Mo_dimensionOf_19 {x : Ctx} {post : Int32 → Mem → Prop} (C : Ok x b_Mo_dimensionOf 5 "HeapTowerModel") (hR : xR x = rm_Mo_dimensionOf) (Rt : RetI x .int post 0 0) (a0 : Nat) (x1 : Int32) (x2 : Int32) (M : Mem) (h : B_Mo_dimensionOf_19 post a0 x1 x2 M) : J x 5 19 [(0, .ref (xd x a0)), (1, .int x1), (2, .int x2)] [] 0 0 M := by
  unfold B_Mo_dimensionOf_19 at h
  refine J_iload_n C 1 D_Mo_dimensionOf_19 rfl rfl ?_
  refine J_iconst (v := 1) C D_Mo_dimensionOf_20 rfl ?_
  refine J_icmp_eq (tgt := 29) C D_Mo_dimensionOf_21 (by decide) (fun c_21 => ?_) (fun c_21 => ?_)
  · have h := h.1 c_21
    exact J_sub [0, 1, 2] rfl (Z_Mo_dimensionOf_29 C hR Rt  _ _ _ _ h)
  · have h := h.2 c_21
    refine J_iload_n C 1 D_Mo_dimensionOf_24 rfl rfl ?_
    refine J_iconst (v := 2) C D_Mo_dimensionOf_25 rfl ?_
    refine J_icmp_ne (tgt := 34) C D_Mo_dimensionOf_26 (by decide) (fun c_26 => ?_) (fun c_26 => ?_)
    · have h := h.1 c_26
      exact J_sub [0, 1, 2] rfl (Z_Mo_dimensionOf_34 C hR Rt  _ _ _ _ h)
    · have h := h.2 c_26
      exact J_sub [0, 1, 2] rfl (Z_Mo_dimensionOf_29 C hR Rt  _ _ _ _ h)
def B_Mo_dimensionOf_14 (post : Int32 → Mem → Prop) (a0 : Nat) (x1 : Int32) (x2 : Int32) (M : Mem) : Prop := (isK M a0 7 ∧ T_Mo_heap a0 x2 M (fun M16 => B_Mo_dimensionOf_19 post a0 x1 x2 M16))
set_option maxRecDepth 20000 in
theorem Z_Mo_dimensionOf_14 {x : Ctx} {post : Int32 → Mem → Prop} (C : Ok x b_Mo_dimensionOf 5 "HeapTowerModel") (hR : xR x = rm_Mo_dimensionOf) (Rt : RetI x .int post 0 0) (a0 : Nat) (x1 : Int32) (x2 : Int32) (M : Mem) (h : B_Mo_dimensionOf_14 post a0 x1 x2 M) : J x 5 14 [(0, .ref (xd x a0)), (1, .int x1), (2, .int x2)] [] 0 0 M := by
  unfold B_Mo_dimensionOf_14 at h
  refine J_aload_n C 0 D_Mo_dimensionOf_14 rfl rfl ?_
  refine J_iload_n C 2 D_Mo_dimensionOf_15 rfl rfl ?_
  obtain ⟨c_16, h⟩ := h
  refine J_callVv C ml_Mo_139 (S_Mo_heap _ _ _ _ h) (by rw [hR]; decide) rfl c_16 rfl (Nat.le_of_ble_eq_true rfl) D_Mo_dimensionOf_16 (fun M16 h => ?_)
  exact J_sub [0, 1, 2] rfl (Z_Mo_dimensionOf_19 C hR Rt  _ _ _ _ h)
def T_Mo_dimensionOf (a0 : Nat) (x1 : Int32) (x2 : Int32) (M : Mem) (post : Int32 → Mem → Prop) : Prop := (isK M a0 7 ∧ T_Mo_begin a0 x2 M (fun M2 => (x1 = 0 → (B_Mo_dimensionOf_14 post a0 x1 x2 M2)) ∧ (¬ x1 = 0 → ((¬ x1 = 2 → (B_Mo_dimensionOf_19 post a0 x1 x2 M2)) ∧ (x1 = 2 → (B_Mo_dimensionOf_14 post a0 x1 x2 M2))))))
set_option maxRecDepth 20000 in
theorem S_Mo_dimensionOf {l : Launch} {D : va_G} {B t g : Nat} {d : Nat → Nat} {ac : Nat → ClassId}  (a0 : Nat) (x1 : Int32) (x2 : Int32) (M : Mem) (post : Int32 → Mem → Prop) (h : T_Mo_dimensionOf a0 x1 x2 M post) : Met l y_Mo_dimensionOf w_Mo_dimensionOf rm_Mo_dimensionOf (va_Pc [.ref (d a0), .int x1, .int x2] (PRE D B d g t ac M)) (QI D B d g ac post) 0 0 (AB B) := by
  refine met_i (by decide +kernel) (Nat.le_of_ble_eq_true rfl) (fun x h1 hR h3 h4 h5 h6 h7 h8 C Rt => ?_)
  subst h3 h4 h5 h6 h7 h8
  unfold T_Mo_dimensionOf at h
  show J x 5 0 [(0, .ref (xd x a0)), (1, .int x1), (2, .int x2)] [] 0 0 M
  refine J_aload_n C 0 D_Mo_dimensionOf_0 rfl rfl ?_
  refine J_iload_n C 2 D_Mo_dimensionOf_1 rfl rfl ?_
  obtain ⟨c_2, h⟩ := h
  refine J_callVv C ml_Mo_133 (S_Mo_begin _ _ _ _ h) (by rw [hR]; decide) rfl c_2 rfl (Nat.le_of_ble_eq_true rfl) D_Mo_dimensionOf_2 (fun M2 h => ?_)
  refine J_iload_n C 1 D_Mo_dimensionOf_5 rfl rfl ?_
  refine J_if_eq (tgt := 14) C D_Mo_dimensionOf_6 (by decide) (fun c_6 => ?_) (fun c_6 => ?_)
  · have h := h.1 c_6
    exact J_sub [0, 1, 2] rfl (Z_Mo_dimensionOf_14 C hR Rt  _ _ _ _ h)
  · have h := h.2 c_6
    refine J_iload_n C 1 D_Mo_dimensionOf_9 rfl rfl ?_
    refine J_iconst (v := 2) C D_Mo_dimensionOf_10 rfl ?_
    refine J_icmp_ne (tgt := 19) C D_Mo_dimensionOf_11 (by decide) (fun c_11 => ?_) (fun c_11 => ?_)
    · have h := h.1 c_11
      exact J_sub [0, 1, 2] rfl (Z_Mo_dimensionOf_19 C hR Rt  _ _ _ _ h)
    · have h := h.2 c_11
      exact J_sub [0, 1, 2] rfl (Z_Mo_dimensionOf_14 C hR Rt  _ _ _ _ h)
theorem D_Mo_dimension_0 : decode b_Mo_dimension 0 = .ok (.iload_n 1, 1) := by decide +kernel
theorem D_Mo_dimension_1 : decode b_Mo_dimension 1 = .ok (.iconst 0, 1) := by decide +kernel
theorem D_Mo_dimension_2 : decode b_Mo_dimension 2 = .ok (.iconst 4, 1) := by decide +kernel
theorem D_Mo_dimension_3 : decode b_Mo_dimension 3 = .ok (.invokestatic 75, 3) := by decide +kernel
theorem D_Mo_dimension_6 : decode b_Mo_dimension 6 = .ok (.ifCond .eq 22, 3) := by decide +kernel
theorem D_Mo_dimension_9 : decode b_Mo_dimension 9 = .ok (.iload_n 2, 1) := by decide +kernel
theorem D_Mo_dimension_10 : decode b_Mo_dimension 10 = .ok (.iconst 0, 1) := by decide +kernel
theorem D_Mo_dimension_11 : decode b_Mo_dimension 11 = .ok (.bipush 10, 2) := by decide +kernel
theorem D_Mo_dimension_13 : decode b_Mo_dimension 13 = .ok (.invokestatic 75, 3) := by decide +kernel
theorem D_Mo_dimension_16 : decode b_Mo_dimension 16 = .ok (.ifCond .eq 12, 3) := by decide +kernel
theorem D_Mo_dimension_19 : decode b_Mo_dimension 19 = .ok (.aload_n 0, 1) := by decide +kernel
theorem D_Mo_dimension_20 : decode b_Mo_dimension 20 = .ok (.iload_n 1, 1) := by decide +kernel
theorem D_Mo_dimension_21 : decode b_Mo_dimension 21 = .ok (.iload_n 2, 1) := by decide +kernel
theorem D_Mo_dimension_22 : decode b_Mo_dimension 22 = .ok (.invokevirtual 192, 3) := by decide +kernel
theorem D_Mo_dimension_25 : decode b_Mo_dimension 25 = .ok (.goto 5, 3) := by decide +kernel
theorem D_Mo_dimension_28 : decode b_Mo_dimension 28 = .ok (.ldc 83, 2) := by decide +kernel
theorem D_Mo_dimension_30 : decode b_Mo_dimension 30 = .ok (.ireturn, 1) := by decide +kernel
abbrev rm_Mo_dimension : Room := { frames := 7, cells := 0, slots := 0, locals := 168 }
def B_Mo_dimension_30 (post : Int32 → Mem → Prop) (s0 : Int32) (M : Mem) : Prop := (post s0 M)
set_option maxRecDepth 20000 in
theorem Z_Mo_dimension_30 {x : Ctx} {post : Int32 → Mem → Prop} (C : Ok x b_Mo_dimension 3 "HeapTowerModel") (hR : xR x = rm_Mo_dimension) (Rt : RetI x .int post 0 0) (s0 : Int32) (M : Mem) (h : B_Mo_dimension_30 post s0 M) : J x 3 30 [] [.int s0] 0 0 M := by
  unfold B_Mo_dimension_30 at h
  exact J_iret C Rt D_Mo_dimension_30 rfl h
def B_Mo_dimension_28 (post : Int32 → Mem → Prop) (M : Mem) : Prop := (B_Mo_dimension_30 post ((-1000000)) M)
set_option maxRecDepth 20000 in
theorem Z_Mo_dimension_28 {x : Ctx} {post : Int32 → Mem → Prop} (C : Ok x b_Mo_dimension 3 "HeapTowerModel") (hR : xR x = rm_Mo_dimension) (Rt : RetI x .int post 0 0) (M : Mem) (h : B_Mo_dimension_28 post M) : J x 3 28 [] [] 0 0 M := by
  unfold B_Mo_dimension_28 at h
  refine J_ldc (v := (-1000000)) C D_Mo_dimension_28 kw_Mo_83 ?_
  exact J_sub [] rfl (Z_Mo_dimension_30 C hR Rt  _ _ h)
def T_Mo_dimension (a0 : Nat) (x1 : Int32) (x2 : Int32) (M : Mem) (post : Int32 → Mem → Prop) : Prop := (T_Mo_in3 x1 0 4 M (fun r3 M3 => (r3 = 0 → (B_Mo_dimension_28 post M3)) ∧ (¬ r3 = 0 → (T_Mo_in3 x2 0 10 M3 (fun r13 M13 => (r13 = 0 → (B_Mo_dimension_28 post M13)) ∧ (¬ r13 = 0 → (isK M13 a0 7 ∧ T_Mo_dimensionOf a0 x1 x2 M13 (fun r22 M22 => B_Mo_dimension_30 post r22 M22))))))))
set_option maxRecDepth 20000 in
theorem S_Mo_dimension {l : Launch} {D : va_G} {B t g : Nat} {d : Nat → Nat} {ac : Nat → ClassId}  (a0 : Nat) (x1 : Int32) (x2 : Int32) (M : Mem) (post : Int32 → Mem → Prop) (h : T_Mo_dimension a0 x1 x2 M post) : Met l y_Mo_dimension w_Mo_dimension rm_Mo_dimension (va_Pc [.ref (d a0), .int x1, .int x2] (PRE D B d g t ac M)) (QI D B d g ac post) 0 0 (AB B) := by
  refine met_i (by decide +kernel) (Nat.le_of_ble_eq_true rfl) (fun x h1 hR h3 h4 h5 h6 h7 h8 C Rt => ?_)
  subst h3 h4 h5 h6 h7 h8
  unfold T_Mo_dimension at h
  show J x 3 0 [(0, .ref (xd x a0)), (1, .int x1), (2, .int x2)] [] 0 0 M
  refine J_iload_n C 1 D_Mo_dimension_0 rfl rfl ?_
  refine J_iconst (v := 0) C D_Mo_dimension_1 rfl ?_
  refine J_iconst (v := 4) C D_Mo_dimension_2 rfl ?_
  refine J_callSi C ml_Mo_75 (S_Mo_in3 _ _ _ _ _ h) (by rw [hR]; decide) rfl rfl (Nat.le_of_ble_eq_true rfl) D_Mo_dimension_3 (fun r3 M3 h => ?_)
  refine J_if_eq (tgt := 28) C D_Mo_dimension_6 (by decide) (fun c_6 => ?_) (fun c_6 => ?_)
  · have h := h.1 c_6
    exact J_sub [] rfl (Z_Mo_dimension_28 C hR Rt  _ h)
  · have h := h.2 c_6
    refine J_iload_n C 2 D_Mo_dimension_9 rfl rfl ?_
    refine J_iconst (v := 0) C D_Mo_dimension_10 rfl ?_
    refine J_bipush (v := 10) C D_Mo_dimension_11 rfl ?_
    refine J_callSi C ml_Mo_75 (S_Mo_in3 _ _ _ _ _ h) (by rw [hR]; decide) rfl rfl (Nat.le_of_ble_eq_true rfl) D_Mo_dimension_13 (fun r13 M13 h => ?_)
    refine J_if_eq (tgt := 28) C D_Mo_dimension_16 (by decide) (fun c_16 => ?_) (fun c_16 => ?_)
    · have h := h.1 c_16
      exact J_sub [] rfl (Z_Mo_dimension_28 C hR Rt  _ h)
    · have h := h.2 c_16
      refine J_aload_n C 0 D_Mo_dimension_19 rfl rfl ?_
      refine J_iload_n C 1 D_Mo_dimension_20 rfl rfl ?_
      refine J_iload_n C 2 D_Mo_dimension_21 rfl rfl ?_
      obtain ⟨c_22, h⟩ := h
      refine J_callVi C ml_Mo_192 (S_Mo_dimensionOf _ _ _ _ _ h) (by rw [hR]; decide) rfl c_22 rfl (Nat.le_of_ble_eq_true rfl) D_Mo_dimension_22 (fun r22 M22 h => ?_)
      refine J_goto (tgt := 30) C D_Mo_dimension_25 (by decide) ?_
      exact J_sub [] rfl (Z_Mo_dimension_30 C hR Rt  _ _ h)
theorem D_Mo_parts_0 : decode b_Mo_parts 0 = .ok (.iconst 0, 1) := by decide +kernel
theorem D_Mo_parts_1 : decode b_Mo_parts 1 = .ok (.istore_n 1, 1) := by decide +kernel
theorem D_Mo_parts_2 : decode b_Mo_parts 2 = .ok (.iload_n 1, 1) := by decide +kernel
theorem D_Mo_parts_3 : decode b_Mo_parts 3 = .ok (.bipush 10, 2) := by decide +kernel
theorem D_Mo_parts_5 : decode b_Mo_parts 5 = .ok (.if_icmp .gt 38, 3) := by decide +kernel
theorem D_Mo_parts_8 : decode b_Mo_parts 8 = .ok (.aload_n 0, 1) := by decide +kernel
theorem D_Mo_parts_9 : decode b_Mo_parts 9 = .ok (.iconst 2, 1) := by decide +kernel
theorem D_Mo_parts_10 : decode b_Mo_parts 10 = .ok (.iload_n 1, 1) := by decide +kernel
theorem D_Mo_parts_11 : decode b_Mo_parts 11 = .ok (.invokevirtual 192, 3) := by decide +kernel
theorem D_Mo_parts_14 : decode b_Mo_parts 14 = .ok (.istore_n 2, 1) := by decide +kernel
theorem D_Mo_parts_15 : decode b_Mo_parts 15 = .ok (.aload_n 0, 1) := by decide +kernel
theorem D_Mo_parts_16 : decode b_Mo_parts 16 = .ok (.iconst 0, 1) := by decide +kernel
theorem D_Mo_parts_17 : decode b_Mo_parts 17 = .ok (.iload_n 1, 1) := by decide +kernel
theorem D_Mo_parts_18 : decode b_Mo_parts 18 = .ok (.invokevirtual 192, 3) := by decide +kernel
theorem D_Mo_parts_21 : decode b_Mo_parts 21 = .ok (.iload_n 2, 1) := by decide +kernel
theorem D_Mo_parts_22 : decode b_Mo_parts 22 = .ok (.if_icmp .ne 13, 3) := by decide +kernel
theorem D_Mo_parts_25 : decode b_Mo_parts 25 = .ok (.aload_n 0, 1) := by decide +kernel
theorem D_Mo_parts_26 : decode b_Mo_parts 26 = .ok (.iconst 1, 1) := by decide +kernel
theorem D_Mo_parts_27 : decode b_Mo_parts 27 = .ok (.iload_n 1, 1) := by decide +kernel
theorem D_Mo_parts_28 : decode b_Mo_parts 28 = .ok (.invokevirtual 192, 3) := by decide +kernel
theorem D_Mo_parts_31 : decode b_Mo_parts 31 = .ok (.iload_n 2, 1) := by decide +kernel
theorem D_Mo_parts_32 : decode b_Mo_parts 32 = .ok (.if_icmp .eq 5, 3) := by decide +kernel
theorem D_Mo_parts_35 : decode b_Mo_parts 35 = .ok (.iload_n 1, 1) := by decide +kernel
theorem D_Mo_parts_36 : decode b_Mo_parts 36 = .ok (.ireturn, 1) := by decide +kernel
theorem D_Mo_parts_37 : decode b_Mo_parts 37 = .ok (.iinc 1 1, 3) := by decide +kernel
theorem D_Mo_parts_40 : decode b_Mo_parts 40 = .ok (.goto (-38), 3) := by decide +kernel
theorem D_Mo_parts_43 : decode b_Mo_parts 43 = .ok (.iconst (-1), 1) := by decide +kernel
theorem D_Mo_parts_44 : decode b_Mo_parts 44 = .ok (.ireturn, 1) := by decide +kernel
abbrev rm_Mo_parts : Room := { frames := 7, cells := 0, slots := 0, locals := 168 }
def B_Mo_parts_35 (post : Int32 → Mem → Prop) (x1 : Int32) (M : Mem) : Prop := (post x1 M)
set_option maxRecDepth 20000 in
theorem Z_Mo_parts_35 {x : Ctx} {post : Int32 → Mem → Prop} (C : Ok x b_Mo_parts 3 "HeapTowerModel") (hR : xR x = rm_Mo_parts) (Rt : RetI x .int post 0 0) (x1 : Int32) (M : Mem) (h : B_Mo_parts_35 post x1 M) : J x 3 35 [(1, .int x1)] [] 0 0 M := by
  unfold B_Mo_parts_35 at h
  refine J_iload_n C 1 D_Mo_parts_35 rfl rfl ?_
  exact J_iret C Rt D_Mo_parts_36 rfl h
def B_Mo_parts_2 (k2 : Nat → Int32 → Mem → Prop) (post : Int32 → Mem → Prop) (a0 : Nat) (x1 : Int32) (M : Mem) : Prop := ((10 < x1 → (post ((-1)) M)) ∧ (¬ 10 < x1 → (isK M a0 7 ∧ T_Mo_dimensionOf a0 2 x1 M (fun r11 M11 => isK M11 a0 7 ∧ T_Mo_dimensionOf a0 0 x1 M11 (fun r18 M18 => (¬ r18 = r11 → (B_Mo_parts_35 post x1 M18)) ∧ (r18 = r11 → (isK M18 a0 7 ∧ T_Mo_dimensionOf a0 1 x1 M18 (fun r28 M28 => (r28 = r11 → (k2 a0 (x1 + 1) M28)) ∧ (¬ r28 = r11 → (B_Mo_parts_35 post x1 M28))))))))))
set_option maxRecDepth 20000 in
theorem Z_Mo_parts_2 {x : Ctx} {post : Int32 → Mem → Prop} (C : Ok x b_Mo_parts 3 "HeapTowerModel") (hR : xR x = rm_Mo_parts) (Rt : RetI x .int post 0 0) {k2 : Nat → Int32 → Mem → Prop} (K2 : ∀ (a0 : Nat) (x1 : Int32) (M : Mem), k2 a0 x1 M → J x 3 2 [(0, .ref (xd x a0)), (1, .int x1)] [] 0 0 M) (a0 : Nat) (x1 : Int32) (M : Mem) (h : B_Mo_parts_2 k2 post a0 x1 M) : J x 3 2 [(0, .ref (xd x a0)), (1, .int x1)] [] 0 0 M := by
  unfold B_Mo_parts_2 at h
  refine J_iload_n C 1 D_Mo_parts_2 rfl rfl ?_
  refine J_bipush (v := 10) C D_Mo_parts_3 rfl ?_
  refine J_icmp_gt (tgt := 43) C D_Mo_parts_5 (by decide) (fun c_5 => ?_) (fun c_5 => ?_)
  · have h := h.1 c_5
    refine J_iconst (v := (-1)) C D_Mo_parts_43 rfl ?_
    exact J_iret C Rt D_Mo_parts_44 rfl h
  · have h := h.2 c_5
    refine J_aload_n C 0 D_Mo_parts_8 rfl rfl ?_
    refine J_iconst (v := 2) C D_Mo_parts_9 rfl ?_
    refine J_iload_n C 1 D_Mo_parts_10 rfl rfl ?_
    obtain ⟨c_11, h⟩ := h
    refine J_callVi C ml_Mo_192 (S_Mo_dimensionOf _ _ _ _ _ h) (by rw [hR]; decide) rfl c_11 rfl (Nat.le_of_ble_eq_true rfl) D_Mo_parts_11 (fun r11 M11 h => ?_)
    refine J_istore_n (lv' := [(2, .int r11), (0, .ref (xd x a0)), (1, .int x1)]) C 2 D_Mo_parts_14 rfl (by decide) rfl ?_
    refine J_aload_n C 0 D_Mo_parts_15 rfl rfl ?_
    refine J_iconst (v := 0) C D_Mo_parts_16 rfl ?_
    refine J_iload_n C 1 D_Mo_parts_17 rfl rfl ?_
    obtain ⟨c_18, h⟩ := h
    refine J_callVi C ml_Mo_192 (S_Mo_dimensionOf _ _ _ _ _ h) (by rw [hR]; decide) rfl c_18 rfl (Nat.le_of_ble_eq_true rfl) D_Mo_parts_18 (fun r18 M18 h => ?_)
    refine J_iload_n C 2 D_Mo_parts_21 rfl rfl ?_
    refine J_icmp_ne (tgt := 35) C D_Mo_parts_22 (by decide) (fun c_22 => ?_) (fun c_22 => ?_)
    · have h := h.1 c_22
      exact J_sub [2] rfl (Z_Mo_parts_35 C hR Rt  _ _ h)
    · have h := h.2 c_22
      refine J_aload_n C 0 D_Mo_parts_25 rfl rfl ?_
      refine J_iconst (v := 1) C D_Mo_parts_26 rfl ?_
      refine J_iload_n C 1 D_Mo_parts_27 rfl rfl ?_
      obtain ⟨c_28, h⟩ := h
      refine J_callVi C ml_Mo_192 (S_Mo_dimensionOf _ _ _ _ _ h) (by rw [hR]; decide) rfl c_28 rfl (Nat.le_of_ble_eq_true rfl) D_Mo_parts_28 (fun r28 M28 h => ?_)
      refine J_iload_n C 2 D_Mo_parts_31 rfl rfl ?_
      refine J_icmp_eq (tgt := 37) C D_Mo_parts_32 (by decide) (fun c_32 => ?_) (fun c_32 => ?_)
      · have h := h.1 c_32
        refine J_iinc (v := x1 + 1) (lv' := [(1, .int (x1 + 1)), (2, .int r11), (0, .ref (xd x a0))]) C 1 2 D_Mo_parts_37 rfl rfl (by decide) rfl ?_
        refine J_goto (tgt := 2) C D_Mo_parts_40 (by decide) ?_
        exact J_sub [2, 0] rfl (K2 _ _ _ h)
      · have h := h.2 c_32
        exact J_sub [2] rfl (Z_Mo_parts_35 C hR Rt  _ _ h)
def L_Mo_parts_2 (post : Int32 → Mem → Prop) : Nat → Nat → Int32 → Mem → Prop
  | 0, _, _, _ => False
  | n + 1, a0, x1, M => B_Mo_parts_2 (L_Mo_parts_2 post n) post a0 x1 M
theorem Y_Mo_parts_2 {x : Ctx} {post : Int32 → Mem → Prop} (C : Ok x b_Mo_parts 3 "HeapTowerModel") (hR : xR x = rm_Mo_parts) (Rt : RetI x .int post 0 0) : ∀ (n : Nat) (a0 : Nat) (x1 : Int32) (M : Mem), L_Mo_parts_2 post n a0 x1 M → J x 3 2 [(0, .ref (xd x a0)), (1, .int x1)] [] 0 0 M := by
  intro n
  induction n with
  | zero => intro a0 x1 M h; exact h.elim
  | succ n ih => intro a0 x1 M h; exact Z_Mo_parts_2 C hR Rt ih _ _ _ h
def T_Mo_parts (a0 : Nat) (M : Mem) (post : Int32 → Mem → Prop) : Prop := (∃ n, L_Mo_parts_2 post n a0 0 M)
set_option maxRecDepth 20000 in
theorem S_Mo_parts {l : Launch} {D : va_G} {B t g : Nat} {d : Nat → Nat} {ac : Nat → ClassId}  (a0 : Nat) (M : Mem) (post : Int32 → Mem → Prop) (h : T_Mo_parts a0 M post) : Met l y_Mo_parts w_Mo_parts rm_Mo_parts (va_Pc [.ref (d a0)] (PRE D B d g t ac M)) (QI D B d g ac post) 0 0 (AB B) := by
  refine met_i (by decide +kernel) (Nat.le_of_ble_eq_true rfl) (fun x h1 hR h3 h4 h5 h6 h7 h8 C Rt => ?_)
  subst h3 h4 h5 h6 h7 h8
  unfold T_Mo_parts at h
  show J x 3 0 [(0, .ref (xd x a0))] [] 0 0 M
  refine J_iconst (v := 0) C D_Mo_parts_0 rfl ?_
  refine J_istore_n (lv' := [(1, .int 0), (0, .ref (xd x a0))]) C 1 D_Mo_parts_1 rfl (by decide) rfl ?_
  obtain ⟨n, h⟩ := h
  exact J_sub [1, 0] rfl (Y_Mo_parts_2 C hR Rt  n _ _ _ h)
theorem D_Mo_claim_0 : decode b_Mo_claim 0 = .ok (.iload_n 1, 1) := by decide +kernel
theorem D_Mo_claim_1 : decode b_Mo_claim 1 = .ok (.iconst 0, 1) := by decide +kernel
theorem D_Mo_claim_2 : decode b_Mo_claim 2 = .ok (.aload_n 0, 1) := by decide +kernel
theorem D_Mo_claim_3 : decode b_Mo_claim 3 = .ok (.getfield 84, 3) := by decide +kernel
theorem D_Mo_claim_6 : decode b_Mo_claim 6 = .ok (.iconst 1, 1) := by decide +kernel
theorem D_Mo_claim_7 : decode b_Mo_claim 7 = .ok (.isub, 1) := by decide +kernel
theorem D_Mo_claim_8 : decode b_Mo_claim 8 = .ok (.invokestatic 75, 3) := by decide +kernel
theorem D_Mo_claim_11 : decode b_Mo_claim 11 = .ok (.ifCond .eq 29, 3) := by decide +kernel
theorem D_Mo_claim_14 : decode b_Mo_claim 14 = .ok (.aload_n 0, 1) := by decide +kernel
theorem D_Mo_claim_15 : decode b_Mo_claim 15 = .ok (.iconst 0, 1) := by decide +kernel
theorem D_Mo_claim_16 : decode b_Mo_claim 16 = .ok (.invokevirtual 101, 3) := by decide +kernel
theorem D_Mo_claim_19 : decode b_Mo_claim 19 = .ok (.ifCond .le 24, 3) := by decide +kernel
theorem D_Mo_claim_22 : decode b_Mo_claim 22 = .ok (.aload_n 0, 1) := by decide +kernel
theorem D_Mo_claim_23 : decode b_Mo_claim 23 = .ok (.iconst 0, 1) := by decide +kernel
theorem D_Mo_claim_24 : decode b_Mo_claim 24 = .ok (.invokevirtual 72, 3) := by decide +kernel
theorem D_Mo_claim_27 : decode b_Mo_claim 27 = .ok (.aload_n 0, 1) := by decide +kernel
theorem D_Mo_claim_28 : decode b_Mo_claim 28 = .ok (.iconst 1, 1) := by decide +kernel
theorem D_Mo_claim_29 : decode b_Mo_claim 29 = .ok (.iload_n 1, 1) := by decide +kernel
theorem D_Mo_claim_30 : decode b_Mo_claim 30 = .ok (.iadd, 1) := by decide +kernel
theorem D_Mo_claim_31 : decode b_Mo_claim 31 = .ok (.invokevirtual 72, 3) := by decide +kernel
theorem D_Mo_claim_34 : decode b_Mo_claim 34 = .ok (.iadd, 1) := by decide +kernel
theorem D_Mo_claim_35 : decode b_Mo_claim 35 = .ok (.bipush 10, 2) := by decide +kernel
theorem D_Mo_claim_37 : decode b_Mo_claim 37 = .ok (.if_icmp .le 6, 3) := by decide +kernel
theorem D_Mo_claim_40 : decode b_Mo_claim 40 = .ok (.ldc 83, 2) := by decide +kernel
theorem D_Mo_claim_42 : decode b_Mo_claim 42 = .ok (.ireturn, 1) := by decide +kernel
theorem D_Mo_claim_43 : decode b_Mo_claim 43 = .ok (.aload_n 0, 1) := by decide +kernel
theorem D_Mo_claim_44 : decode b_Mo_claim 44 = .ok (.iconst 0, 1) := by decide +kernel
theorem D_Mo_claim_45 : decode b_Mo_claim 45 = .ok (.bipush 7, 2) := by decide +kernel
theorem D_Mo_claim_47 : decode b_Mo_claim 47 = .ok (.iload_n 1, 1) := by decide +kernel
theorem D_Mo_claim_48 : decode b_Mo_claim 48 = .ok (.iadd, 1) := by decide +kernel
theorem D_Mo_claim_49 : decode b_Mo_claim 49 = .ok (.invokevirtual 111, 3) := by decide +kernel
theorem D_Mo_claim_52 : decode b_Mo_claim 52 = .ok (.aload_n 0, 1) := by decide +kernel
theorem D_Mo_claim_53 : decode b_Mo_claim 53 = .ok (.iconst 0, 1) := by decide +kernel
theorem D_Mo_claim_54 : decode b_Mo_claim 54 = .ok (.invokevirtual 90, 3) := by decide +kernel
theorem D_Mo_claim_57 : decode b_Mo_claim 57 = .ok (.iconst 1, 1) := by decide +kernel
theorem D_Mo_claim_58 : decode b_Mo_claim 58 = .ok (.ireturn, 1) := by decide +kernel
abbrev rm_Mo_claim : Room := { frames := 2, cells := 0, slots := 0, locals := 46 }
def B_Mo_claim_43 (post : Int32 → Mem → Prop) (a0 : Nat) (x1 : Int32) (M : Mem) : Prop := (isK M a0 7 ∧ T_Mo_move a0 0 (7 + x1) M (fun M49 => isK M49 a0 7 ∧ T_Mo_clear a0 0 M49 (fun M54 => post 1 M54)))
set_option maxRecDepth 20000 in
theorem Z_Mo_claim_43 {x : Ctx} {post : Int32 → Mem → Prop} (C : Ok x b_Mo_claim 2 "HeapTowerModel") (hR : xR x = rm_Mo_claim) (Rt : RetI x .int post 0 0) (a0 : Nat) (x1 : Int32) (M : Mem) (h : B_Mo_claim_43 post a0 x1 M) : J x 2 43 [(0, .ref (xd x a0)), (1, .int x1)] [] 0 0 M := by
  unfold B_Mo_claim_43 at h
  refine J_aload_n C 0 D_Mo_claim_43 rfl rfl ?_
  refine J_iconst (v := 0) C D_Mo_claim_44 rfl ?_
  refine J_bipush (v := 7) C D_Mo_claim_45 rfl ?_
  refine J_iload_n C 1 D_Mo_claim_47 rfl rfl ?_
  refine J_iadd C D_Mo_claim_48 ?_
  obtain ⟨c_49, h⟩ := h
  refine J_callVv C ml_Mo_111 (S_Mo_move _ _ _ _ _ h) (by rw [hR]; decide) rfl c_49 rfl (Nat.le_of_ble_eq_true rfl) D_Mo_claim_49 (fun M49 h => ?_)
  refine J_aload_n C 0 D_Mo_claim_52 rfl rfl ?_
  refine J_iconst (v := 0) C D_Mo_claim_53 rfl ?_
  obtain ⟨c_54, h⟩ := h
  refine J_callVv C ml_Mo_90 (S_Mo_clear _ _ _ _ h) (by rw [hR]; decide) rfl c_54 rfl (Nat.le_of_ble_eq_true rfl) D_Mo_claim_54 (fun M54 h => ?_)
  refine J_iconst (v := 1) C D_Mo_claim_57 rfl ?_
  exact J_iret C Rt D_Mo_claim_58 rfl h
def B_Mo_claim_40 (post : Int32 → Mem → Prop) (M : Mem) : Prop := (post ((-1000000)) M)
set_option maxRecDepth 20000 in
theorem Z_Mo_claim_40 {x : Ctx} {post : Int32 → Mem → Prop} (C : Ok x b_Mo_claim 2 "HeapTowerModel") (hR : xR x = rm_Mo_claim) (Rt : RetI x .int post 0 0) (M : Mem) (h : B_Mo_claim_40 post M) : J x 2 40 [] [] 0 0 M := by
  unfold B_Mo_claim_40 at h
  refine J_ldc (v := (-1000000)) C D_Mo_claim_40 kw_Mo_83 ?_
  exact J_iret C Rt D_Mo_claim_42 rfl h
def T_Mo_claim (a0 : Nat) (x1 : Int32) (M : Mem) (post : Int32 → Mem → Prop) : Prop := (isK M a0 7 ∧ T_Mo_in3 x1 0 ((gI M a0 4) - 1) M (fun r8 M8 => (r8 = 0 → (B_Mo_claim_40 post M8)) ∧ (¬ r8 = 0 → (isK M8 a0 7 ∧ T_Mo_products a0 0 M8 (fun r16 M16 => (r16 ≤ 0 → (B_Mo_claim_43 post a0 x1 M16)) ∧ (¬ r16 ≤ 0 → (isK M16 a0 7 ∧ T_Mo_degree a0 0 M16 (fun r24 M24 => isK M24 a0 7 ∧ T_Mo_degree a0 (1 + x1) M24 (fun r31 M31 => ((r24 + r31) ≤ 10 → (B_Mo_claim_43 post a0 x1 M31)) ∧ (¬ (r24 + r31) ≤ 10 → (B_Mo_claim_40 post M31)))))))))))
set_option maxRecDepth 20000 in
theorem S_Mo_claim {l : Launch} {D : va_G} {B t g : Nat} {d : Nat → Nat} {ac : Nat → ClassId}  (a0 : Nat) (x1 : Int32) (M : Mem) (post : Int32 → Mem → Prop) (h : T_Mo_claim a0 x1 M post) : Met l y_Mo_claim w_Mo_claim rm_Mo_claim (va_Pc [.ref (d a0), .int x1] (PRE D B d g t ac M)) (QI D B d g ac post) 0 0 (AB B) := by
  refine met_i (by decide +kernel) (Nat.le_of_ble_eq_true rfl) (fun x h1 hR h3 h4 h5 h6 h7 h8 C Rt => ?_)
  subst h3 h4 h5 h6 h7 h8
  unfold T_Mo_claim at h
  show J x 2 0 [(0, .ref (xd x a0)), (1, .int x1)] [] 0 0 M
  refine J_iload_n C 1 D_Mo_claim_0 rfl rfl ?_
  refine J_iconst (v := 0) C D_Mo_claim_1 rfl ?_
  refine J_aload_n C 0 D_Mo_claim_2 rfl rfl ?_
  obtain ⟨c_3, h⟩ := h
  refine J_getI C fl_Mo_84 D_Mo_claim_3 c_3 ?_
  refine J_iconst (v := 1) C D_Mo_claim_6 rfl ?_
  refine J_isub C D_Mo_claim_7 ?_
  refine J_callSi C ml_Mo_75 (S_Mo_in3 _ _ _ _ _ h) (by rw [hR]; decide) rfl rfl (Nat.le_of_ble_eq_true rfl) D_Mo_claim_8 (fun r8 M8 h => ?_)
  refine J_if_eq (tgt := 40) C D_Mo_claim_11 (by decide) (fun c_11 => ?_) (fun c_11 => ?_)
  · have h := h.1 c_11
    exact J_sub [] rfl (Z_Mo_claim_40 C hR Rt  _ h)
  · have h := h.2 c_11
    refine J_aload_n C 0 D_Mo_claim_14 rfl rfl ?_
    refine J_iconst (v := 0) C D_Mo_claim_15 rfl ?_
    obtain ⟨c_16, h⟩ := h
    refine J_callVi C ml_Mo_101 (S_Mo_products _ _ _ _ h) (by rw [hR]; decide) rfl c_16 rfl (Nat.le_of_ble_eq_true rfl) D_Mo_claim_16 (fun r16 M16 h => ?_)
    refine J_if_le (tgt := 43) C D_Mo_claim_19 (by decide) (fun c_19 => ?_) (fun c_19 => ?_)
    · have h := h.1 c_19
      exact J_sub [0, 1] rfl (Z_Mo_claim_43 C hR Rt  _ _ _ h)
    · have h := h.2 c_19
      refine J_aload_n C 0 D_Mo_claim_22 rfl rfl ?_
      refine J_iconst (v := 0) C D_Mo_claim_23 rfl ?_
      obtain ⟨c_24, h⟩ := h
      refine J_callVi C ml_Mo_72 (S_Mo_degree _ _ _ _ h) (by rw [hR]; decide) rfl c_24 rfl (Nat.le_of_ble_eq_true rfl) D_Mo_claim_24 (fun r24 M24 h => ?_)
      refine J_aload_n C 0 D_Mo_claim_27 rfl rfl ?_
      refine J_iconst (v := 1) C D_Mo_claim_28 rfl ?_
      refine J_iload_n C 1 D_Mo_claim_29 rfl rfl ?_
      refine J_iadd C D_Mo_claim_30 ?_
      obtain ⟨c_31, h⟩ := h
      refine J_callVi C ml_Mo_72 (S_Mo_degree _ _ _ _ h) (by rw [hR]; decide) rfl c_31 rfl (Nat.le_of_ble_eq_true rfl) D_Mo_claim_31 (fun r31 M31 h => ?_)
      refine J_iadd C D_Mo_claim_34 ?_
      refine J_bipush (v := 10) C D_Mo_claim_35 rfl ?_
      refine J_icmp_le (tgt := 43) C D_Mo_claim_37 (by decide) (fun c_37 => ?_) (fun c_37 => ?_)
      · have h := h.1 c_37
        exact J_sub [0, 1] rfl (Z_Mo_claim_43 C hR Rt  _ _ _ h)
      · have h := h.2 c_37
        exact J_sub [] rfl (Z_Mo_claim_40 C hR Rt  _ h)
theorem D_Mo_sum_0 : decode b_Mo_sum 0 = .ok (.aload_n 0, 1) := by decide +kernel
theorem D_Mo_sum_1 : decode b_Mo_sum 1 = .ok (.iconst 0, 1) := by decide +kernel
theorem D_Mo_sum_2 : decode b_Mo_sum 2 = .ok (.invokevirtual 90, 3) := by decide +kernel
theorem D_Mo_sum_5 : decode b_Mo_sum 5 = .ok (.iconst 0, 1) := by decide +kernel
theorem D_Mo_sum_6 : decode b_Mo_sum 6 = .ok (.istore_n 1, 1) := by decide +kernel
theorem D_Mo_sum_7 : decode b_Mo_sum 7 = .ok (.iload_n 1, 1) := by decide +kernel
theorem D_Mo_sum_8 : decode b_Mo_sum 8 = .ok (.aload_n 0, 1) := by decide +kernel
theorem D_Mo_sum_9 : decode b_Mo_sum 9 = .ok (.getfield 84, 3) := by decide +kernel
theorem D_Mo_sum_12 : decode b_Mo_sum 12 = .ok (.if_icmp .ge 63, 3) := by decide +kernel
theorem D_Mo_sum_15 : decode b_Mo_sum 15 = .ok (.aload_n 0, 1) := by decide +kernel
theorem D_Mo_sum_16 : decode b_Mo_sum 16 = .ok (.bipush 7, 2) := by decide +kernel
theorem D_Mo_sum_18 : decode b_Mo_sum 18 = .ok (.iload_n 1, 1) := by decide +kernel
theorem D_Mo_sum_19 : decode b_Mo_sum 19 = .ok (.iadd, 1) := by decide +kernel
theorem D_Mo_sum_20 : decode b_Mo_sum 20 = .ok (.iconst 1, 1) := by decide +kernel
theorem D_Mo_sum_21 : decode b_Mo_sum 21 = .ok (.iload_n 1, 1) := by decide +kernel
theorem D_Mo_sum_22 : decode b_Mo_sum 22 = .ok (.iadd, 1) := by decide +kernel
theorem D_Mo_sum_23 : decode b_Mo_sum 23 = .ok (.bipush 19, 2) := by decide +kernel
theorem D_Mo_sum_25 : decode b_Mo_sum 25 = .ok (.invokevirtual 189, 3) := by decide +kernel
theorem D_Mo_sum_28 : decode b_Mo_sum 28 = .ok (.iconst 0, 1) := by decide +kernel
theorem D_Mo_sum_29 : decode b_Mo_sum 29 = .ok (.istore_n 2, 1) := by decide +kernel
theorem D_Mo_sum_30 : decode b_Mo_sum 30 = .ok (.iload_n 2, 1) := by decide +kernel
theorem D_Mo_sum_31 : decode b_Mo_sum 31 = .ok (.sipush 1331, 3) := by decide +kernel
theorem D_Mo_sum_34 : decode b_Mo_sum 34 = .ok (.if_icmp .ge 35, 3) := by decide +kernel
theorem D_Mo_sum_37 : decode b_Mo_sum 37 = .ok (.aload_n 0, 1) := by decide +kernel
theorem D_Mo_sum_38 : decode b_Mo_sum 38 = .ok (.iconst 0, 1) := by decide +kernel
theorem D_Mo_sum_39 : decode b_Mo_sum 39 = .ok (.iload_n 2, 1) := by decide +kernel
theorem D_Mo_sum_40 : decode b_Mo_sum 40 = .ok (.aload_n 0, 1) := by decide +kernel
theorem D_Mo_sum_41 : decode b_Mo_sum 41 = .ok (.aload_n 0, 1) := by decide +kernel
theorem D_Mo_sum_42 : decode b_Mo_sum 42 = .ok (.iconst 0, 1) := by decide +kernel
theorem D_Mo_sum_43 : decode b_Mo_sum 43 = .ok (.iload_n 2, 1) := by decide +kernel
theorem D_Mo_sum_44 : decode b_Mo_sum 44 = .ok (.invokevirtual 69, 3) := by decide +kernel
theorem D_Mo_sum_47 : decode b_Mo_sum 47 = .ok (.i2l, 1) := by decide +kernel
theorem D_Mo_sum_48 : decode b_Mo_sum 48 = .ok (.aload_n 0, 1) := by decide +kernel
theorem D_Mo_sum_49 : decode b_Mo_sum 49 = .ok (.bipush 19, 2) := by decide +kernel
theorem D_Mo_sum_51 : decode b_Mo_sum 51 = .ok (.iload_n 2, 1) := by decide +kernel
theorem D_Mo_sum_52 : decode b_Mo_sum 52 = .ok (.invokevirtual 69, 3) := by decide +kernel
theorem D_Mo_sum_55 : decode b_Mo_sum 55 = .ok (.i2l, 1) := by decide +kernel
theorem D_Mo_sum_56 : decode b_Mo_sum 56 = .ok (.ladd, 1) := by decide +kernel
theorem D_Mo_sum_57 : decode b_Mo_sum 57 = .ok (.invokevirtual 48, 3) := by decide +kernel
theorem D_Mo_sum_60 : decode b_Mo_sum 60 = .ok (.invokevirtual 65, 3) := by decide +kernel
theorem D_Mo_sum_63 : decode b_Mo_sum 63 = .ok (.iinc 2 1, 3) := by decide +kernel
theorem D_Mo_sum_66 : decode b_Mo_sum 66 = .ok (.goto (-36), 3) := by decide +kernel
theorem D_Mo_sum_69 : decode b_Mo_sum 69 = .ok (.iinc 1 1, 3) := by decide +kernel
theorem D_Mo_sum_72 : decode b_Mo_sum 72 = .ok (.goto (-65), 3) := by decide +kernel
theorem D_Mo_sum_75 : decode b_Mo_sum 75 = .ok (.aload_n 0, 1) := by decide +kernel
theorem D_Mo_sum_76 : decode b_Mo_sum 76 = .ok (.iconst 0, 1) := by decide +kernel
theorem D_Mo_sum_77 : decode b_Mo_sum 77 = .ok (.invokevirtual 101, 3) := by decide +kernel
theorem D_Mo_sum_80 : decode b_Mo_sum 80 = .ok (.ireturn, 1) := by decide +kernel
abbrev rm_Mo_sum : Room := { frames := 3, cells := 0, slots := 0, locals := 70 }
def B_Mo_sum_30 (k7 : Nat → Int32 → Mem → Prop) (k30 : Nat → Int32 → Int32 → Mem → Prop) (post : Int32 → Mem → Prop) (a0 : Nat) (x1 : Int32) (x2 : Int32) (M : Mem) : Prop := ((1331 ≤ x2 → (k7 a0 (x1 + 1) M)) ∧ (¬ 1331 ≤ x2 → (isK M a0 7 ∧ T_Mo_get a0 0 x2 M (fun r44 M44 => isK M44 a0 7 ∧ T_Mo_get a0 19 x2 M44 (fun r52 M52 => isK M52 a0 7 ∧ T_Mo_mod a0 ((Int32.toInt64 r44) + (Int32.toInt64 r52)) M52 (fun r57 M57 => isK M57 a0 7 ∧ T_Mo_put a0 0 x2 r57 M57 (fun M60 => k30 a0 x1 (x2 + 1) M60)))))))
set_option maxRecDepth 20000 in
theorem Z_Mo_sum_30 {x : Ctx} {post : Int32 → Mem → Prop} (C : Ok x b_Mo_sum 3 "HeapTowerModel") (hR : xR x = rm_Mo_sum) (Rt : RetI x .int post 0 0) {k7 : Nat → Int32 → Mem → Prop} (K7 : ∀ (a0 : Nat) (x1 : Int32) (M : Mem), k7 a0 x1 M → J x 3 7 [(0, .ref (xd x a0)), (1, .int x1)] [] 0 0 M) {k30 : Nat → Int32 → Int32 → Mem → Prop} (K30 : ∀ (a0 : Nat) (x1 : Int32) (x2 : Int32) (M : Mem), k30 a0 x1 x2 M → J x 3 30 [(0, .ref (xd x a0)), (1, .int x1), (2, .int x2)] [] 0 0 M) (a0 : Nat) (x1 : Int32) (x2 : Int32) (M : Mem) (h : B_Mo_sum_30 k7 k30 post a0 x1 x2 M) : J x 3 30 [(0, .ref (xd x a0)), (1, .int x1), (2, .int x2)] [] 0 0 M := by
  unfold B_Mo_sum_30 at h
  refine J_iload_n C 2 D_Mo_sum_30 rfl rfl ?_
  refine J_sipush (v := 1331) C D_Mo_sum_31 rfl ?_
  refine J_icmp_ge (tgt := 69) C D_Mo_sum_34 (by decide) (fun c_34 => ?_) (fun c_34 => ?_)
  · have h := h.1 c_34
    refine J_iinc (v := x1 + 1) (lv' := [(1, .int (x1 + 1)), (0, .ref (xd x a0)), (2, .int x2)]) C 1 1 D_Mo_sum_69 rfl rfl (by decide) rfl ?_
    refine J_goto (tgt := 7) C D_Mo_sum_72 (by decide) ?_
    exact J_sub [1, 0] rfl (K7 _ _ _ h)
  · have h := h.2 c_34
    refine J_aload_n C 0 D_Mo_sum_37 rfl rfl ?_
    refine J_iconst (v := 0) C D_Mo_sum_38 rfl ?_
    refine J_iload_n C 2 D_Mo_sum_39 rfl rfl ?_
    refine J_aload_n C 0 D_Mo_sum_40 rfl rfl ?_
    refine J_aload_n C 0 D_Mo_sum_41 rfl rfl ?_
    refine J_iconst (v := 0) C D_Mo_sum_42 rfl ?_
    refine J_iload_n C 2 D_Mo_sum_43 rfl rfl ?_
    obtain ⟨c_44, h⟩ := h
    refine J_callVi C ml_Mo_69 (S_Mo_get _ _ _ _ _ h) (by rw [hR]; decide) rfl c_44 rfl (Nat.le_of_ble_eq_true rfl) D_Mo_sum_44 (fun r44 M44 h => ?_)
    refine J_i2l C D_Mo_sum_47 ?_
    refine J_aload_n C 0 D_Mo_sum_48 rfl rfl ?_
    refine J_bipush (v := 19) C D_Mo_sum_49 rfl ?_
    refine J_iload_n C 2 D_Mo_sum_51 rfl rfl ?_
    obtain ⟨c_52, h⟩ := h
    refine J_callVi C ml_Mo_69 (S_Mo_get _ _ _ _ _ h) (by rw [hR]; decide) rfl c_52 rfl (Nat.le_of_ble_eq_true rfl) D_Mo_sum_52 (fun r52 M52 h => ?_)
    refine J_i2l C D_Mo_sum_55 ?_
    refine J_ladd C D_Mo_sum_56 ?_
    obtain ⟨c_57, h⟩ := h
    refine J_callVi C ml_Mo_48 (S_Mo_mod _ _ _ _ h) (by rw [hR]; decide) rfl c_57 rfl (Nat.le_of_ble_eq_true rfl) D_Mo_sum_57 (fun r57 M57 h => ?_)
    obtain ⟨c_60, h⟩ := h
    refine J_callVv C ml_Mo_65 (S_Mo_put _ _ _ _ _ _ h) (by rw [hR]; decide) rfl c_60 rfl (Nat.le_of_ble_eq_true rfl) D_Mo_sum_60 (fun M60 h => ?_)
    refine J_iinc (v := x2 + 1) (lv' := [(2, .int (x2 + 1)), (0, .ref (xd x a0)), (1, .int x1)]) C 2 2 D_Mo_sum_63 rfl rfl (by decide) rfl ?_
    refine J_goto (tgt := 30) C D_Mo_sum_66 (by decide) ?_
    exact J_sub [1, 2, 0] rfl (K30 _ _ _ _ h)
def L_Mo_sum_30 (k7 : Nat → Int32 → Mem → Prop) (post : Int32 → Mem → Prop) : Nat → Nat → Int32 → Int32 → Mem → Prop
  | 0, _, _, _, _ => False
  | n + 1, a0, x1, x2, M => B_Mo_sum_30 k7 (L_Mo_sum_30 k7 post n) post a0 x1 x2 M
theorem Y_Mo_sum_30 {x : Ctx} {post : Int32 → Mem → Prop} (C : Ok x b_Mo_sum 3 "HeapTowerModel") (hR : xR x = rm_Mo_sum) (Rt : RetI x .int post 0 0) {k7 : Nat → Int32 → Mem → Prop} (K7 : ∀ (a0 : Nat) (x1 : Int32) (M : Mem), k7 a0 x1 M → J x 3 7 [(0, .ref (xd x a0)), (1, .int x1)] [] 0 0 M) : ∀ (n : Nat) (a0 : Nat) (x1 : Int32) (x2 : Int32) (M : Mem), L_Mo_sum_30 k7 post n a0 x1 x2 M → J x 3 30 [(0, .ref (xd x a0)), (1, .int x1), (2, .int x2)] [] 0 0 M := by
  intro n
  induction n with
  | zero => intro a0 x1 x2 M h; exact h.elim
  | succ n ih => intro a0 x1 x2 M h; exact Z_Mo_sum_30 C hR Rt K7 ih _ _ _ _ h
def B_Mo_sum_7 (k7 : Nat → Int32 → Mem → Prop) (post : Int32 → Mem → Prop) (a0 : Nat) (x1 : Int32) (M : Mem) : Prop := (isK M a0 7 ∧ ((gI M a0 4) ≤ x1 → (isK M a0 7 ∧ T_Mo_products a0 0 M (fun r77 M77 => post r77 M77))) ∧ (¬ (gI M a0 4) ≤ x1 → (isK M a0 7 ∧ T_Mo_multiply a0 (7 + x1) (1 + x1) 19 M (fun M25 => ∃ n, L_Mo_sum_30 k7 post n a0 x1 0 M25))))
set_option maxRecDepth 20000 in
theorem Z_Mo_sum_7 {x : Ctx} {post : Int32 → Mem → Prop} (C : Ok x b_Mo_sum 3 "HeapTowerModel") (hR : xR x = rm_Mo_sum) (Rt : RetI x .int post 0 0) {k7 : Nat → Int32 → Mem → Prop} (K7 : ∀ (a0 : Nat) (x1 : Int32) (M : Mem), k7 a0 x1 M → J x 3 7 [(0, .ref (xd x a0)), (1, .int x1)] [] 0 0 M) (a0 : Nat) (x1 : Int32) (M : Mem) (h : B_Mo_sum_7 k7 post a0 x1 M) : J x 3 7 [(0, .ref (xd x a0)), (1, .int x1)] [] 0 0 M := by
  unfold B_Mo_sum_7 at h
  refine J_iload_n C 1 D_Mo_sum_7 rfl rfl ?_
  refine J_aload_n C 0 D_Mo_sum_8 rfl rfl ?_
  obtain ⟨c_9, h⟩ := h
  refine J_getI C fl_Mo_84 D_Mo_sum_9 c_9 ?_
  refine J_icmp_ge (tgt := 75) C D_Mo_sum_12 (by decide) (fun c_12 => ?_) (fun c_12 => ?_)
  · have h := h.1 c_12
    refine J_aload_n C 0 D_Mo_sum_75 rfl rfl ?_
    refine J_iconst (v := 0) C D_Mo_sum_76 rfl ?_
    obtain ⟨c_77, h⟩ := h
    refine J_callVi C ml_Mo_101 (S_Mo_products _ _ _ _ h) (by rw [hR]; decide) rfl c_77 rfl (Nat.le_of_ble_eq_true rfl) D_Mo_sum_77 (fun r77 M77 h => ?_)
    exact J_iret C Rt D_Mo_sum_80 rfl h
  · have h := h.2 c_12
    refine J_aload_n C 0 D_Mo_sum_15 rfl rfl ?_
    refine J_bipush (v := 7) C D_Mo_sum_16 rfl ?_
    refine J_iload_n C 1 D_Mo_sum_18 rfl rfl ?_
    refine J_iadd C D_Mo_sum_19 ?_
    refine J_iconst (v := 1) C D_Mo_sum_20 rfl ?_
    refine J_iload_n C 1 D_Mo_sum_21 rfl rfl ?_
    refine J_iadd C D_Mo_sum_22 ?_
    refine J_bipush (v := 19) C D_Mo_sum_23 rfl ?_
    obtain ⟨c_25, h⟩ := h
    refine J_callVv C ml_Mo_189 (S_Mo_multiply _ _ _ _ _ _ h) (by rw [hR]; decide) rfl c_25 rfl (Nat.le_of_ble_eq_true rfl) D_Mo_sum_25 (fun M25 h => ?_)
    refine J_iconst (v := 0) C D_Mo_sum_28 rfl ?_
    refine J_istore_n (lv' := [(2, .int 0), (0, .ref (xd x a0)), (1, .int x1)]) C 2 D_Mo_sum_29 rfl (by decide) rfl ?_
    obtain ⟨n, h⟩ := h
    exact J_sub [1, 2, 0] rfl (Y_Mo_sum_30 C hR Rt K7 n _ _ _ _ h)
def L_Mo_sum_7 (post : Int32 → Mem → Prop) : Nat → Nat → Int32 → Mem → Prop
  | 0, _, _, _ => False
  | n + 1, a0, x1, M => B_Mo_sum_7 (L_Mo_sum_7 post n) post a0 x1 M
theorem Y_Mo_sum_7 {x : Ctx} {post : Int32 → Mem → Prop} (C : Ok x b_Mo_sum 3 "HeapTowerModel") (hR : xR x = rm_Mo_sum) (Rt : RetI x .int post 0 0) : ∀ (n : Nat) (a0 : Nat) (x1 : Int32) (M : Mem), L_Mo_sum_7 post n a0 x1 M → J x 3 7 [(0, .ref (xd x a0)), (1, .int x1)] [] 0 0 M := by
  intro n
  induction n with
  | zero => intro a0 x1 M h; exact h.elim
  | succ n ih => intro a0 x1 M h; exact Z_Mo_sum_7 C hR Rt ih _ _ _ h
def T_Mo_sum (a0 : Nat) (M : Mem) (post : Int32 → Mem → Prop) : Prop := (isK M a0 7 ∧ T_Mo_clear a0 0 M (fun M2 => ∃ n, L_Mo_sum_7 post n a0 0 M2))
set_option maxRecDepth 20000 in
theorem S_Mo_sum {l : Launch} {D : va_G} {B t g : Nat} {d : Nat → Nat} {ac : Nat → ClassId}  (a0 : Nat) (M : Mem) (post : Int32 → Mem → Prop) (h : T_Mo_sum a0 M post) : Met l y_Mo_sum w_Mo_sum rm_Mo_sum (va_Pc [.ref (d a0)] (PRE D B d g t ac M)) (QI D B d g ac post) 0 0 (AB B) := by
  refine met_i (by decide +kernel) (Nat.le_of_ble_eq_true rfl) (fun x h1 hR h3 h4 h5 h6 h7 h8 C Rt => ?_)
  subst h3 h4 h5 h6 h7 h8
  unfold T_Mo_sum at h
  show J x 3 0 [(0, .ref (xd x a0))] [] 0 0 M
  refine J_aload_n C 0 D_Mo_sum_0 rfl rfl ?_
  refine J_iconst (v := 0) C D_Mo_sum_1 rfl ?_
  obtain ⟨c_2, h⟩ := h
  refine J_callVv C ml_Mo_90 (S_Mo_clear _ _ _ _ h) (by rw [hR]; decide) rfl c_2 rfl (Nat.le_of_ble_eq_true rfl) D_Mo_sum_2 (fun M2 h => ?_)
  refine J_iconst (v := 0) C D_Mo_sum_5 rfl ?_
  refine J_istore_n (lv' := [(1, .int 0), (0, .ref (xd x a0))]) C 1 D_Mo_sum_6 rfl (by decide) rfl ?_
  obtain ⟨n, h⟩ := h
  exact J_sub [1, 0] rfl (Y_Mo_sum_7 C hR Rt  n _ _ _ h)
theorem D_Mo_told_0 : decode b_Mo_told 0 = .ok (.iload_n 1, 1) := by decide +kernel
theorem D_Mo_told_1 : decode b_Mo_told 1 = .ok (.ifCond .ne 10, 3) := by decide +kernel
theorem D_Mo_told_4 : decode b_Mo_told 4 = .ok (.aload_n 0, 1) := by decide +kernel
theorem D_Mo_told_5 : decode b_Mo_told 5 = .ok (.getfield 13, 3) := by decide +kernel
theorem D_Mo_told_8 : decode b_Mo_told 8 = .ok (.goto 53, 3) := by decide +kernel
theorem D_Mo_told_11 : decode b_Mo_told 11 = .ok (.iload_n 1, 1) := by decide +kernel
theorem D_Mo_told_12 : decode b_Mo_told 12 = .ok (.iconst 1, 1) := by decide +kernel
theorem D_Mo_told_13 : decode b_Mo_told 13 = .ok (.if_icmp .ne 10, 3) := by decide +kernel
theorem D_Mo_told_16 : decode b_Mo_told 16 = .ok (.aload_n 0, 1) := by decide +kernel
theorem D_Mo_told_17 : decode b_Mo_told 17 = .ok (.getfield 17, 3) := by decide +kernel
theorem D_Mo_told_20 : decode b_Mo_told 20 = .ok (.goto 41, 3) := by decide +kernel
theorem D_Mo_told_23 : decode b_Mo_told 23 = .ok (.iload_n 1, 1) := by decide +kernel
theorem D_Mo_told_24 : decode b_Mo_told 24 = .ok (.iconst 2, 1) := by decide +kernel
theorem D_Mo_told_25 : decode b_Mo_told 25 = .ok (.if_icmp .ne 10, 3) := by decide +kernel
theorem D_Mo_told_28 : decode b_Mo_told 28 = .ok (.aload_n 0, 1) := by decide +kernel
theorem D_Mo_told_29 : decode b_Mo_told 29 = .ok (.getfield 58, 3) := by decide +kernel
theorem D_Mo_told_32 : decode b_Mo_told 32 = .ok (.goto 29, 3) := by decide +kernel
theorem D_Mo_told_35 : decode b_Mo_told 35 = .ok (.iload_n 1, 1) := by decide +kernel
theorem D_Mo_told_36 : decode b_Mo_told 36 = .ok (.iconst 3, 1) := by decide +kernel
theorem D_Mo_told_37 : decode b_Mo_told 37 = .ok (.if_icmp .ne 10, 3) := by decide +kernel
theorem D_Mo_told_40 : decode b_Mo_told 40 = .ok (.aload_n 0, 1) := by decide +kernel
theorem D_Mo_told_41 : decode b_Mo_told 41 = .ok (.getfield 84, 3) := by decide +kernel
theorem D_Mo_told_44 : decode b_Mo_told 44 = .ok (.goto 17, 3) := by decide +kernel
theorem D_Mo_told_47 : decode b_Mo_told 47 = .ok (.iload_n 1, 1) := by decide +kernel
theorem D_Mo_told_48 : decode b_Mo_told 48 = .ok (.iconst 4, 1) := by decide +kernel
theorem D_Mo_told_49 : decode b_Mo_told 49 = .ok (.if_icmp .ne 10, 3) := by decide +kernel
theorem D_Mo_told_52 : decode b_Mo_told 52 = .ok (.aload_n 0, 1) := by decide +kernel
theorem D_Mo_told_53 : decode b_Mo_told 53 = .ok (.getfield 87, 3) := by decide +kernel
theorem D_Mo_told_56 : decode b_Mo_told 56 = .ok (.goto 5, 3) := by decide +kernel
theorem D_Mo_told_59 : decode b_Mo_told 59 = .ok (.ldc 83, 2) := by decide +kernel
theorem D_Mo_told_61 : decode b_Mo_told 61 = .ok (.ireturn, 1) := by decide +kernel
abbrev rm_Mo_told : Room := { frames := 0, cells := 0, slots := 0, locals := 0 }
def B_Mo_told_61 (post : Int32 → Mem → Prop) (s0 : Int32) (M : Mem) : Prop := (post s0 M)
set_option maxRecDepth 20000 in
theorem Z_Mo_told_61 {x : Ctx} {post : Int32 → Mem → Prop} (C : Ok x b_Mo_told 2 "HeapTowerModel") (hR : xR x = rm_Mo_told) (Rt : RetI x .int post 0 0) (s0 : Int32) (M : Mem) (h : B_Mo_told_61 post s0 M) : J x 2 61 [] [.int s0] 0 0 M := by
  unfold B_Mo_told_61 at h
  exact J_iret C Rt D_Mo_told_61 rfl h
def T_Mo_told (a0 : Nat) (x1 : Int32) (M : Mem) (post : Int32 → Mem → Prop) : Prop := ((¬ x1 = 0 → ((¬ x1 = 1 → ((¬ x1 = 2 → ((¬ x1 = 3 → ((¬ x1 = 4 → (B_Mo_told_61 post ((-1000000)) M)) ∧ (x1 = 4 → (isK M a0 7 ∧ B_Mo_told_61 post (gI M a0 5) M)))) ∧ (x1 = 3 → (isK M a0 7 ∧ B_Mo_told_61 post (gI M a0 4) M)))) ∧ (x1 = 2 → (isK M a0 7 ∧ B_Mo_told_61 post (gI M a0 3) M)))) ∧ (x1 = 1 → (isK M a0 7 ∧ B_Mo_told_61 post (gI M a0 2) M)))) ∧ (x1 = 0 → (isK M a0 7 ∧ B_Mo_told_61 post (gI M a0 1) M)))
set_option maxRecDepth 20000 in
theorem S_Mo_told {l : Launch} {D : va_G} {B t g : Nat} {d : Nat → Nat} {ac : Nat → ClassId}  (a0 : Nat) (x1 : Int32) (M : Mem) (post : Int32 → Mem → Prop) (h : T_Mo_told a0 x1 M post) : Met l y_Mo_told w_Mo_told rm_Mo_told (va_Pc [.ref (d a0), .int x1] (PRE D B d g t ac M)) (QI D B d g ac post) 0 0 (AB B) := by
  refine met_i (by decide +kernel) (Nat.le_of_ble_eq_true rfl) (fun x h1 hR h3 h4 h5 h6 h7 h8 C Rt => ?_)
  subst h3 h4 h5 h6 h7 h8
  unfold T_Mo_told at h
  show J x 2 0 [(0, .ref (xd x a0)), (1, .int x1)] [] 0 0 M
  refine J_iload_n C 1 D_Mo_told_0 rfl rfl ?_
  refine J_if_ne (tgt := 11) C D_Mo_told_1 (by decide) (fun c_1 => ?_) (fun c_1 => ?_)
  · have h := h.1 c_1
    refine J_iload_n C 1 D_Mo_told_11 rfl rfl ?_
    refine J_iconst (v := 1) C D_Mo_told_12 rfl ?_
    refine J_icmp_ne (tgt := 23) C D_Mo_told_13 (by decide) (fun c_13 => ?_) (fun c_13 => ?_)
    · have h := h.1 c_13
      refine J_iload_n C 1 D_Mo_told_23 rfl rfl ?_
      refine J_iconst (v := 2) C D_Mo_told_24 rfl ?_
      refine J_icmp_ne (tgt := 35) C D_Mo_told_25 (by decide) (fun c_25 => ?_) (fun c_25 => ?_)
      · have h := h.1 c_25
        refine J_iload_n C 1 D_Mo_told_35 rfl rfl ?_
        refine J_iconst (v := 3) C D_Mo_told_36 rfl ?_
        refine J_icmp_ne (tgt := 47) C D_Mo_told_37 (by decide) (fun c_37 => ?_) (fun c_37 => ?_)
        · have h := h.1 c_37
          refine J_iload_n C 1 D_Mo_told_47 rfl rfl ?_
          refine J_iconst (v := 4) C D_Mo_told_48 rfl ?_
          refine J_icmp_ne (tgt := 59) C D_Mo_told_49 (by decide) (fun c_49 => ?_) (fun c_49 => ?_)
          · have h := h.1 c_49
            refine J_ldc (v := (-1000000)) C D_Mo_told_59 kw_Mo_83 ?_
            exact J_sub [] rfl (Z_Mo_told_61 C hR Rt  _ _ h)
          · have h := h.2 c_49
            refine J_aload_n C 0 D_Mo_told_52 rfl rfl ?_
            obtain ⟨c_53, h⟩ := h
            refine J_getI C fl_Mo_87 D_Mo_told_53 c_53 ?_
            refine J_goto (tgt := 61) C D_Mo_told_56 (by decide) ?_
            exact J_sub [] rfl (Z_Mo_told_61 C hR Rt  _ _ h)
        · have h := h.2 c_37
          refine J_aload_n C 0 D_Mo_told_40 rfl rfl ?_
          obtain ⟨c_41, h⟩ := h
          refine J_getI C fl_Mo_84 D_Mo_told_41 c_41 ?_
          refine J_goto (tgt := 61) C D_Mo_told_44 (by decide) ?_
          exact J_sub [] rfl (Z_Mo_told_61 C hR Rt  _ _ h)
      · have h := h.2 c_25
        refine J_aload_n C 0 D_Mo_told_28 rfl rfl ?_
        obtain ⟨c_29, h⟩ := h
        refine J_getI C fl_Mo_58 D_Mo_told_29 c_29 ?_
        refine J_goto (tgt := 61) C D_Mo_told_32 (by decide) ?_
        exact J_sub [] rfl (Z_Mo_told_61 C hR Rt  _ _ h)
    · have h := h.2 c_13
      refine J_aload_n C 0 D_Mo_told_16 rfl rfl ?_
      obtain ⟨c_17, h⟩ := h
      refine J_getI C fl_Mo_17 D_Mo_told_17 c_17 ?_
      refine J_goto (tgt := 61) C D_Mo_told_20 (by decide) ?_
      exact J_sub [] rfl (Z_Mo_told_61 C hR Rt  _ _ h)
  · have h := h.2 c_1
    refine J_aload_n C 0 D_Mo_told_4 rfl rfl ?_
    obtain ⟨c_5, h⟩ := h
    refine J_getI C fl_Mo_13 D_Mo_told_5 c_5 ?_
    refine J_goto (tgt := 61) C D_Mo_told_8 (by decide) ?_
    exact J_sub [] rfl (Z_Mo_told_61 C hR Rt  _ _ h)
