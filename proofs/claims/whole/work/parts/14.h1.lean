theorem fl_Mo_20 : Fld "HeapTowerModel" 20 7 6 false true := ⟨R_Mo, F_Mo, 18, t_Mo, iw_Mo, rfl, by decide, rfl, rfl, by decide, rfl, (gw_in (List.mem_of_getElem? (i := 818) (by decide +kernel)) (by decide +kernel)), t_Mo_ok, n_Mo, rfl, (fun h => by cases h), fun _ => Or.inr ⟨_, rfl⟩⟩
theorem fl_Mo_23 : Fld "HeapTowerModel" 23 7 7 false true := ⟨R_Mo, F_Mo, 18, t_Mo, iw_Mo, rfl, by decide, rfl, rfl, by decide, rfl, (gw_in (List.mem_of_getElem? (i := 819) (by decide +kernel)) (by decide +kernel)), t_Mo_ok, n_Mo, rfl, (fun h => by cases h), fun _ => Or.inr ⟨_, rfl⟩⟩
theorem fl_Mo_26 : Fld "HeapTowerModel" 26 7 9 false true := ⟨R_Mo, F_Mo, 18, t_Mo, iw_Mo, rfl, by decide, rfl, rfl, by decide, rfl, (gw_in (List.mem_of_getElem? (i := 821) (by decide +kernel)) (by decide +kernel)), t_Mo_ok, n_Mo, rfl, (fun h => by cases h), fun _ => Or.inr ⟨_, rfl⟩⟩
theorem fl_Mo_29 : Fld "HeapTowerModel" 29 7 10 false true := ⟨R_Mo, F_Mo, 18, t_Mo, iw_Mo, rfl, by decide, rfl, rfl, by decide, rfl, (gw_in (List.mem_of_getElem? (i := 822) (by decide +kernel)) (by decide +kernel)), t_Mo_ok, n_Mo, rfl, (fun h => by cases h), fun _ => Or.inr ⟨_, rfl⟩⟩
theorem fl_Mo_32 : Fld "HeapTowerModel" 32 7 11 false true := ⟨R_Mo, F_Mo, 18, t_Mo, iw_Mo, rfl, by decide, rfl, rfl, by decide, rfl, (gw_in (List.mem_of_getElem? (i := 823) (by decide +kernel)) (by decide +kernel)), t_Mo_ok, n_Mo, rfl, (fun h => by cases h), fun _ => Or.inr ⟨_, rfl⟩⟩
theorem fl_Mo_84 : Fld "HeapTowerModel" 84 7 4 true false := ⟨R_Mo, F_Mo, 18, t_Mo, iw_Mo, rfl, by decide, rfl, rfl, by decide, rfl, (gw_in (List.mem_of_getElem? (i := 816) (by decide +kernel)) (by decide +kernel)), t_Mo_ok, n_Mo, rfl, fun _ => rfl, (fun h => by cases h)⟩
theorem fl_Mo_87 : Fld "HeapTowerModel" 87 7 5 true false := ⟨R_Mo, F_Mo, 18, t_Mo, iw_Mo, rfl, by decide, rfl, rfl, by decide, rfl, (gw_in (List.mem_of_getElem? (i := 817) (by decide +kernel)) (by decide +kernel)), t_Mo_ok, n_Mo, rfl, fun _ => rfl, (fun h => by cases h)⟩
theorem fl_Mo_115 : Fld "HeapTowerModel" 115 7 8 true false := ⟨R_Mo, F_Mo, 18, t_Mo, iw_Mo, rfl, by decide, rfl, rfl, by decide, rfl, (gw_in (List.mem_of_getElem? (i := 820) (by decide +kernel)) (by decide +kernel)), t_Mo_ok, n_Mo, rfl, fun _ => rfl, (fun h => by cases h)⟩
theorem fl_Mo_121 : Fld "HeapTowerModel" 121 7 12 true false := ⟨R_Mo, F_Mo, 18, t_Mo, iw_Mo, rfl, by decide, rfl, rfl, by decide, rfl, (gw_in (List.mem_of_getElem? (i := 824) (by decide +kernel)) (by decide +kernel)), t_Mo_ok, n_Mo, rfl, fun _ => rfl, (fun h => by cases h)⟩
theorem ml_Mo_75 : MLS "HeapTowerModel" 75 y_Mo_in3 b_Mo_in3 3 (some .boolean) 3 := ⟨List.forall_mem_cons.mpr ⟨(gw_in (List.mem_of_getElem? (i := 872) (by decide +kernel)) (by decide +kernel)), List.forall_mem_cons.mpr ⟨(gw_in (List.mem_of_getElem? (i := 873) (by decide +kernel)) (by decide +kernel)), List.forall_mem_cons.mpr ⟨(gw_in (List.mem_of_getElem? (i := 74) (by decide +kernel)) (by decide +kernel)), List.forall_mem_cons.mpr ⟨(gw_in (List.mem_of_getElem? (i := 874) (by decide +kernel)) (by decide +kernel)), fun _ h => absurd h List.not_mem_nil⟩⟩⟩⟩, by decide⟩
theorem ml_Mo_79 : MLS "HeapTowerModel" 79 y_Mo_isPrime b_Mo_isPrime 2 (some .boolean) 1 := ⟨List.forall_mem_cons.mpr ⟨(gw_in (List.mem_of_getElem? (i := 875) (by decide +kernel)) (by decide +kernel)), List.forall_mem_cons.mpr ⟨(gw_in (List.mem_of_getElem? (i := 876) (by decide +kernel)) (by decide +kernel)), List.forall_mem_cons.mpr ⟨(gw_in (List.mem_of_getElem? (i := 74) (by decide +kernel)) (by decide +kernel)), List.forall_mem_cons.mpr ⟨(gw_in (List.mem_of_getElem? (i := 877) (by decide +kernel)) (by decide +kernel)), fun _ h => absurd h List.not_mem_nil⟩⟩⟩⟩, by decide⟩
theorem ml_Mo_90 : MLV "HeapTowerModel" 90 y_Mo_clear b_Mo_clear 3 none 1 7 := ⟨List.forall_mem_cons.mpr ⟨(gw_in (List.mem_of_getElem? (i := 879) (by decide +kernel)) (by decide +kernel)), List.forall_mem_cons.mpr ⟨(gw_in (List.mem_of_getElem? (i := 881) (by decide +kernel)) (by decide +kernel)), List.forall_mem_cons.mpr ⟨(gw_in (List.mem_of_getElem? (i := 33) (by decide +kernel)) (by decide +kernel)), List.forall_mem_cons.mpr ⟨(gw_in (List.mem_of_getElem? (i := 74) (by decide +kernel)) (by decide +kernel)), List.forall_mem_cons.mpr ⟨(gw_in (List.mem_of_getElem? (i := 882) (by decide +kernel)) (by decide +kernel)), fun _ h => absurd h List.not_mem_nil⟩⟩⟩⟩⟩, by decide, F_Mo, 18, rfl, by decide⟩
theorem ml_Mo_94 : MLV "HeapTowerModel" 94 y_Mo_isProduct b_Mo_isProduct 4 (some .boolean) 3 7 := ⟨List.forall_mem_cons.mpr ⟨(gw_in (List.mem_of_getElem? (i := 895) (by decide +kernel)) (by decide +kernel)), List.forall_mem_cons.mpr ⟨(gw_in (List.mem_of_getElem? (i := 897) (by decide +kernel)) (by decide +kernel)), List.forall_mem_cons.mpr ⟨(gw_in (List.mem_of_getElem? (i := 35) (by decide +kernel)) (by decide +kernel)), List.forall_mem_cons.mpr ⟨(gw_in (List.mem_of_getElem? (i := 74) (by decide +kernel)) (by decide +kernel)), List.forall_mem_cons.mpr ⟨(gw_in (List.mem_of_getElem? (i := 898) (by decide +kernel)) (by decide +kernel)), fun _ h => absurd h List.not_mem_nil⟩⟩⟩⟩⟩, by decide, F_Mo, 18, rfl, by decide⟩
theorem ml_Mo_97 : MLS "HeapTowerModel" 97 y_Mo_powers b_Mo_powers 3 (some .int) 3 := ⟨List.forall_mem_cons.mpr ⟨(gw_in (List.mem_of_getElem? (i := 900) (by decide +kernel)) (by decide +kernel)), List.forall_mem_cons.mpr ⟨(gw_in (List.mem_of_getElem? (i := 901) (by decide +kernel)) (by decide +kernel)), List.forall_mem_cons.mpr ⟨(gw_in (List.mem_of_getElem? (i := 74) (by decide +kernel)) (by decide +kernel)), List.forall_mem_cons.mpr ⟨(gw_in (List.mem_of_getElem? (i := 902) (by decide +kernel)) (by decide +kernel)), fun _ h => absurd h List.not_mem_nil⟩⟩⟩⟩, by decide⟩
theorem ml_Mo_101 : MLV "HeapTowerModel" 101 y_Mo_products b_Mo_products 4 (some .int) 1 7 := ⟨List.forall_mem_cons.mpr ⟨(gw_in (List.mem_of_getElem? (i := 919) (by decide +kernel)) (by decide +kernel)), List.forall_mem_cons.mpr ⟨(gw_in (List.mem_of_getElem? (i := 921) (by decide +kernel)) (by decide +kernel)), List.forall_mem_cons.mpr ⟨(gw_in (List.mem_of_getElem? (i := 38) (by decide +kernel)) (by decide +kernel)), List.forall_mem_cons.mpr ⟨(gw_in (List.mem_of_getElem? (i := 74) (by decide +kernel)) (by decide +kernel)), List.forall_mem_cons.mpr ⟨(gw_in (List.mem_of_getElem? (i := 922) (by decide +kernel)) (by decide +kernel)), fun _ h => absurd h List.not_mem_nil⟩⟩⟩⟩⟩, by decide, F_Mo, 18, rfl, by decide⟩
theorem ml_Mo_104 : MLV "HeapTowerModel" 104 y_Mo_isEven b_Mo_isEven 4 (some .boolean) 1 7 := ⟨List.forall_mem_cons.mpr ⟨(gw_in (List.mem_of_getElem? (i := 934) (by decide +kernel)) (by decide +kernel)), List.forall_mem_cons.mpr ⟨(gw_in (List.mem_of_getElem? (i := 936) (by decide +kernel)) (by decide +kernel)), List.forall_mem_cons.mpr ⟨(gw_in (List.mem_of_getElem? (i := 40) (by decide +kernel)) (by decide +kernel)), List.forall_mem_cons.mpr ⟨(gw_in (List.mem_of_getElem? (i := 74) (by decide +kernel)) (by decide +kernel)), List.forall_mem_cons.mpr ⟨(gw_in (List.mem_of_getElem? (i := 937) (by decide +kernel)) (by decide +kernel)), fun _ h => absurd h List.not_mem_nil⟩⟩⟩⟩⟩, by decide, F_Mo, 18, rfl, by decide⟩
theorem ml_Mo_107 : MLV "HeapTowerModel" 107 y_Mo_isGreater b_Mo_isGreater 4 (some .boolean) 2 7 := ⟨List.forall_mem_cons.mpr ⟨(gw_in (List.mem_of_getElem? (i := 938) (by decide +kernel)) (by decide +kernel)), List.forall_mem_cons.mpr ⟨(gw_in (List.mem_of_getElem? (i := 940) (by decide +kernel)) (by decide +kernel)), List.forall_mem_cons.mpr ⟨(gw_in (List.mem_of_getElem? (i := 41) (by decide +kernel)) (by decide +kernel)), List.forall_mem_cons.mpr ⟨(gw_in (List.mem_of_getElem? (i := 74) (by decide +kernel)) (by decide +kernel)), List.forall_mem_cons.mpr ⟨(gw_in (List.mem_of_getElem? (i := 941) (by decide +kernel)) (by decide +kernel)), fun _ h => absurd h List.not_mem_nil⟩⟩⟩⟩⟩, by decide, F_Mo, 18, rfl, by decide⟩
theorem ml_Mo_111 : MLV "HeapTowerModel" 111 y_Mo_move b_Mo_move 4 none 2 7 := ⟨List.forall_mem_cons.mpr ⟨(gw_in (List.mem_of_getElem? (i := 950) (by decide +kernel)) (by decide +kernel)), List.forall_mem_cons.mpr ⟨(gw_in (List.mem_of_getElem? (i := 952) (by decide +kernel)) (by decide +kernel)), List.forall_mem_cons.mpr ⟨(gw_in (List.mem_of_getElem? (i := 43) (by decide +kernel)) (by decide +kernel)), List.forall_mem_cons.mpr ⟨(gw_in (List.mem_of_getElem? (i := 74) (by decide +kernel)) (by decide +kernel)), List.forall_mem_cons.mpr ⟨(gw_in (List.mem_of_getElem? (i := 953) (by decide +kernel)) (by decide +kernel)), fun _ h => absurd h List.not_mem_nil⟩⟩⟩⟩⟩, by decide, F_Mo, 18, rfl, by decide⟩
theorem ml_Mo_118 : MLV "HeapTowerModel" 118 y_Mo_take b_Mo_take 7 none 1 7 := ⟨List.forall_mem_cons.mpr ⟨(gw_in (List.mem_of_getElem? (i := 978) (by decide +kernel)) (by decide +kernel)), List.forall_mem_cons.mpr ⟨(gw_in (List.mem_of_getElem? (i := 980) (by decide +kernel)) (by decide +kernel)), List.forall_mem_cons.mpr ⟨(gw_in (List.mem_of_getElem? (i := 46) (by decide +kernel)) (by decide +kernel)), List.forall_mem_cons.mpr ⟨(gw_in (List.mem_of_getElem? (i := 74) (by decide +kernel)) (by decide +kernel)), List.forall_mem_cons.mpr ⟨(gw_in (List.mem_of_getElem? (i := 981) (by decide +kernel)) (by decide +kernel)), fun _ h => absurd h List.not_mem_nil⟩⟩⟩⟩⟩, by decide, F_Mo, 18, rfl, by decide⟩
theorem ml_Mo_124 : MLV "HeapTowerModel" 124 y_Mo_less b_Mo_less 4 none 2 7 := ⟨List.forall_mem_cons.mpr ⟨(gw_in (List.mem_of_getElem? (i := 990) (by decide +kernel)) (by decide +kernel)), List.forall_mem_cons.mpr ⟨(gw_in (List.mem_of_getElem? (i := 992) (by decide +kernel)) (by decide +kernel)), List.forall_mem_cons.mpr ⟨(gw_in (List.mem_of_getElem? (i := 49) (by decide +kernel)) (by decide +kernel)), List.forall_mem_cons.mpr ⟨(gw_in (List.mem_of_getElem? (i := 74) (by decide +kernel)) (by decide +kernel)), List.forall_mem_cons.mpr ⟨(gw_in (List.mem_of_getElem? (i := 993) (by decide +kernel)) (by decide +kernel)), fun _ h => absurd h List.not_mem_nil⟩⟩⟩⟩⟩, by decide, F_Mo, 18, rfl, by decide⟩
theorem ml_Mo_127 : MLV "HeapTowerModel" 127 y_Mo_inverse b_Mo_inverse 3 (some .int) 1 7 := ⟨List.forall_mem_cons.mpr ⟨(gw_in (List.mem_of_getElem? (i := 994) (by decide +kernel)) (by decide +kernel)), List.forall_mem_cons.mpr ⟨(gw_in (List.mem_of_getElem? (i := 996) (by decide +kernel)) (by decide +kernel)), List.forall_mem_cons.mpr ⟨(gw_in (List.mem_of_getElem? (i := 50) (by decide +kernel)) (by decide +kernel)), List.forall_mem_cons.mpr ⟨(gw_in (List.mem_of_getElem? (i := 74) (by decide +kernel)) (by decide +kernel)), List.forall_mem_cons.mpr ⟨(gw_in (List.mem_of_getElem? (i := 997) (by decide +kernel)) (by decide +kernel)), fun _ h => absurd h List.not_mem_nil⟩⟩⟩⟩⟩, by decide, F_Mo, 18, rfl, by decide⟩
theorem ml_Mo_130 : MLV "HeapTowerModel" 130 y_Mo_enter b_Mo_enter 6 none 0 7 := ⟨List.forall_mem_cons.mpr ⟨(gw_in (List.mem_of_getElem? (i := 986) (by decide +kernel)) (by decide +kernel)), List.forall_mem_cons.mpr ⟨(gw_in (List.mem_of_getElem? (i := 988) (by decide +kernel)) (by decide +kernel)), List.forall_mem_cons.mpr ⟨(gw_in (List.mem_of_getElem? (i := 48) (by decide +kernel)) (by decide +kernel)), List.forall_mem_cons.mpr ⟨(gw_in (List.mem_of_getElem? (i := 74) (by decide +kernel)) (by decide +kernel)), List.forall_mem_cons.mpr ⟨(gw_in (List.mem_of_getElem? (i := 989) (by decide +kernel)) (by decide +kernel)), fun _ h => absurd h List.not_mem_nil⟩⟩⟩⟩⟩, by decide, F_Mo, 18, rfl, by decide⟩
theorem ml_Mo_133 : MLV "HeapTowerModel" 133 y_Mo_begin b_Mo_begin 3 none 1 7 := ⟨List.forall_mem_cons.mpr ⟨(gw_in (List.mem_of_getElem? (i := 974) (by decide +kernel)) (by decide +kernel)), List.forall_mem_cons.mpr ⟨(gw_in (List.mem_of_getElem? (i := 976) (by decide +kernel)) (by decide +kernel)), List.forall_mem_cons.mpr ⟨(gw_in (List.mem_of_getElem? (i := 45) (by decide +kernel)) (by decide +kernel)), List.forall_mem_cons.mpr ⟨(gw_in (List.mem_of_getElem? (i := 74) (by decide +kernel)) (by decide +kernel)), List.forall_mem_cons.mpr ⟨(gw_in (List.mem_of_getElem? (i := 977) (by decide +kernel)) (by decide +kernel)), fun _ h => absurd h List.not_mem_nil⟩⟩⟩⟩⟩, by decide, F_Mo, 18, rfl, by decide⟩
theorem ml_Mo_136 : MLV "HeapTowerModel" 136 y_Mo_spread b_Mo_spread 8 none 2 7 := ⟨List.forall_mem_cons.mpr ⟨(gw_in (List.mem_of_getElem? (i := 982) (by decide +kernel)) (by decide +kernel)), List.forall_mem_cons.mpr ⟨(gw_in (List.mem_of_getElem? (i := 984) (by decide +kernel)) (by decide +kernel)), List.forall_mem_cons.mpr ⟨(gw_in (List.mem_of_getElem? (i := 47) (by decide +kernel)) (by decide +kernel)), List.forall_mem_cons.mpr ⟨(gw_in (List.mem_of_getElem? (i := 74) (by decide +kernel)) (by decide +kernel)), List.forall_mem_cons.mpr ⟨(gw_in (List.mem_of_getElem? (i := 985) (by decide +kernel)) (by decide +kernel)), fun _ h => absurd h List.not_mem_nil⟩⟩⟩⟩⟩, by decide, F_Mo, 18, rfl, by decide⟩
theorem kw_Mo_83 : Cond.constant "HeapTowerModel" 83 (-1000000) ∈ gw := (gw_in (List.mem_of_getElem? (i := 878) (by decide +kernel)) (by decide +kernel))
theorem D_Mo_letters_0 : decode b_Mo_letters 0 = .ok (.iload_n 1, 1) := by decide +kernel
theorem D_Mo_letters_1 : decode b_Mo_letters 1 = .ok (.iconst 1, 1) := by decide +kernel
theorem D_Mo_letters_2 : decode b_Mo_letters 2 = .ok (.iconst 3, 1) := by decide +kernel
theorem D_Mo_letters_3 : decode b_Mo_letters 3 = .ok (.invokestatic 75, 3) := by decide +kernel
theorem D_Mo_letters_6 : decode b_Mo_letters 6 = .ok (.ifCond .eq 20, 3) := by decide +kernel
theorem D_Mo_letters_9 : decode b_Mo_letters 9 = .ok (.iload_n 2, 1) := by decide +kernel
theorem D_Mo_letters_10 : decode b_Mo_letters 10 = .ok (.iconst 2, 1) := by decide +kernel
theorem D_Mo_letters_11 : decode b_Mo_letters 11 = .ok (.bipush 97, 2) := by decide +kernel
theorem D_Mo_letters_13 : decode b_Mo_letters 13 = .ok (.invokestatic 75, 3) := by decide +kernel
theorem D_Mo_letters_16 : decode b_Mo_letters 16 = .ok (.ifCond .eq 10, 3) := by decide +kernel
theorem D_Mo_letters_19 : decode b_Mo_letters 19 = .ok (.iload_n 2, 1) := by decide +kernel
theorem D_Mo_letters_20 : decode b_Mo_letters 20 = .ok (.invokestatic 79, 3) := by decide +kernel
theorem D_Mo_letters_23 : decode b_Mo_letters 23 = .ok (.ifCond .ne 6, 3) := by decide +kernel
theorem D_Mo_letters_26 : decode b_Mo_letters 26 = .ok (.ldc 83, 2) := by decide +kernel
theorem D_Mo_letters_28 : decode b_Mo_letters 28 = .ok (.ireturn, 1) := by decide +kernel
theorem D_Mo_letters_29 : decode b_Mo_letters 29 = .ok (.aload_n 0, 1) := by decide +kernel
theorem D_Mo_letters_30 : decode b_Mo_letters 30 = .ok (.iload_n 1, 1) := by decide +kernel
theorem D_Mo_letters_31 : decode b_Mo_letters 31 = .ok (.putfield 13, 3) := by decide +kernel
theorem D_Mo_letters_34 : decode b_Mo_letters 34 = .ok (.aload_n 0, 1) := by decide +kernel
theorem D_Mo_letters_35 : decode b_Mo_letters 35 = .ok (.iload_n 2, 1) := by decide +kernel
theorem D_Mo_letters_36 : decode b_Mo_letters 36 = .ok (.putfield 17, 3) := by decide +kernel
theorem D_Mo_letters_39 : decode b_Mo_letters 39 = .ok (.aload_n 0, 1) := by decide +kernel
theorem D_Mo_letters_40 : decode b_Mo_letters 40 = .ok (.iconst 0, 1) := by decide +kernel
theorem D_Mo_letters_41 : decode b_Mo_letters 41 = .ok (.putfield 84, 3) := by decide +kernel
theorem D_Mo_letters_44 : decode b_Mo_letters 44 = .ok (.aload_n 0, 1) := by decide +kernel
theorem D_Mo_letters_45 : decode b_Mo_letters 45 = .ok (.iconst 0, 1) := by decide +kernel
theorem D_Mo_letters_46 : decode b_Mo_letters 46 = .ok (.putfield 87, 3) := by decide +kernel
theorem D_Mo_letters_49 : decode b_Mo_letters 49 = .ok (.iconst 0, 1) := by decide +kernel
theorem D_Mo_letters_50 : decode b_Mo_letters 50 = .ok (.istore_n 3, 1) := by decide +kernel
theorem D_Mo_letters_51 : decode b_Mo_letters 51 = .ok (.iload_n 3, 1) := by decide +kernel
theorem D_Mo_letters_52 : decode b_Mo_letters 52 = .ok (.bipush 21, 2) := by decide +kernel
theorem D_Mo_letters_54 : decode b_Mo_letters 54 = .ok (.if_icmp .ge 14, 3) := by decide +kernel
theorem D_Mo_letters_57 : decode b_Mo_letters 57 = .ok (.aload_n 0, 1) := by decide +kernel
theorem D_Mo_letters_58 : decode b_Mo_letters 58 = .ok (.iload_n 3, 1) := by decide +kernel
theorem D_Mo_letters_59 : decode b_Mo_letters 59 = .ok (.invokevirtual 90, 3) := by decide +kernel
theorem D_Mo_letters_62 : decode b_Mo_letters 62 = .ok (.iinc 3 1, 3) := by decide +kernel
theorem D_Mo_letters_65 : decode b_Mo_letters 65 = .ok (.goto (-14), 3) := by decide +kernel
theorem D_Mo_letters_68 : decode b_Mo_letters 68 = .ok (.iconst 1, 1) := by decide +kernel
theorem D_Mo_letters_69 : decode b_Mo_letters 69 = .ok (.ireturn, 1) := by decide +kernel
abbrev rm_Mo_letters : Room := { frames := 2, cells := 0, slots := 0, locals := 45 }
def B_Mo_letters_51 (k51 : Nat → Int32 → Mem → Prop) (post : Int32 → Mem → Prop) (a0 : Nat) (x3 : Int32) (M : Mem) : Prop := ((21 ≤ x3 → (post 1 M)) ∧ (¬ 21 ≤ x3 → (isK M a0 7 ∧ T_Mo_clear a0 x3 M (fun M59 => k51 a0 (x3 + 1) M59))))
set_option maxRecDepth 20000 in
theorem Z_Mo_letters_51 {x : Ctx} {post : Int32 → Mem → Prop} (C : Ok x b_Mo_letters 4 "HeapTowerModel") (hR : xR x = rm_Mo_letters) (Rt : RetI x .int post 0 0) {k51 : Nat → Int32 → Mem → Prop} (K51 : ∀ (a0 : Nat) (x3 : Int32) (M : Mem), k51 a0 x3 M → J x 4 51 [(0, .ref (xd x a0)), (3, .int x3)] [] 0 0 M) (a0 : Nat) (x3 : Int32) (M : Mem) (h : B_Mo_letters_51 k51 post a0 x3 M) : J x 4 51 [(0, .ref (xd x a0)), (3, .int x3)] [] 0 0 M := by
  unfold B_Mo_letters_51 at h
  refine J_iload_n C 3 D_Mo_letters_51 rfl rfl ?_
  refine J_bipush (v := 21) C D_Mo_letters_52 rfl ?_
  refine J_icmp_ge (tgt := 68) C D_Mo_letters_54 (by decide) (fun c_54 => ?_) (fun c_54 => ?_)
  · have h := h.1 c_54
    refine J_iconst (v := 1) C D_Mo_letters_68 rfl ?_
    exact J_iret C Rt D_Mo_letters_69 rfl h
  · have h := h.2 c_54
    refine J_aload_n C 0 D_Mo_letters_57 rfl rfl ?_
    refine J_iload_n C 3 D_Mo_letters_58 rfl rfl ?_
    obtain ⟨c_59, h⟩ := h
    refine J_callVv C ml_Mo_90 (S_Mo_clear _ _ _ _ h) (by rw [hR]; decide) rfl c_59 rfl (Nat.le_of_ble_eq_true rfl) D_Mo_letters_59 (fun M59 h => ?_)
    refine J_iinc (v := x3 + 1) (lv' := [(3, .int (x3 + 1)), (0, .ref (xd x a0))]) C 3 1 D_Mo_letters_62 rfl rfl (by decide) rfl ?_
    refine J_goto (tgt := 51) C D_Mo_letters_65 (by decide) ?_
    exact J_sub [1, 0] rfl (K51 _ _ _ h)
def L_Mo_letters_51 (post : Int32 → Mem → Prop) : Nat → Nat → Int32 → Mem → Prop
  | 0, _, _, _ => False
  | n + 1, a0, x3, M => B_Mo_letters_51 (L_Mo_letters_51 post n) post a0 x3 M
theorem Y_Mo_letters_51 {x : Ctx} {post : Int32 → Mem → Prop} (C : Ok x b_Mo_letters 4 "HeapTowerModel") (hR : xR x = rm_Mo_letters) (Rt : RetI x .int post 0 0) : ∀ (n : Nat) (a0 : Nat) (x3 : Int32) (M : Mem), L_Mo_letters_51 post n a0 x3 M → J x 4 51 [(0, .ref (xd x a0)), (3, .int x3)] [] 0 0 M := by
  intro n
  induction n with
  | zero => intro a0 x3 M h; exact h.elim
  | succ n ih => intro a0 x3 M h; exact Z_Mo_letters_51 C hR Rt ih _ _ _ h
def B_Mo_letters_26 (post : Int32 → Mem → Prop) (M : Mem) : Prop := (post ((-1000000)) M)
set_option maxRecDepth 20000 in
theorem Z_Mo_letters_26 {x : Ctx} {post : Int32 → Mem → Prop} (C : Ok x b_Mo_letters 4 "HeapTowerModel") (hR : xR x = rm_Mo_letters) (Rt : RetI x .int post 0 0) (M : Mem) (h : B_Mo_letters_26 post M) : J x 4 26 [] [] 0 0 M := by
  unfold B_Mo_letters_26 at h
  refine J_ldc (v := (-1000000)) C D_Mo_letters_26 kw_Mo_83 ?_
  exact J_iret C Rt D_Mo_letters_28 rfl h
def T_Mo_letters (a0 : Nat) (x1 : Int32) (x2 : Int32) (M : Mem) (post : Int32 → Mem → Prop) : Prop := (T_Mo_in3 x1 1 3 M (fun r3 M3 => (r3 = 0 → (B_Mo_letters_26 post M3)) ∧ (¬ r3 = 0 → (T_Mo_in3 x2 2 97 M3 (fun r13 M13 => (r13 = 0 → (B_Mo_letters_26 post M13)) ∧ (¬ r13 = 0 → (T_Mo_isPrime x2 M13 (fun r20 M20 => (¬ r20 = 0 → (isK M20 a0 7 ∧ isK (sI M20 a0 1 x1) a0 7 ∧ isK (sI (sI M20 a0 1 x1) a0 2 x2) a0 7 ∧ isK (sI (sI (sI M20 a0 1 x1) a0 2 x2) a0 4 0) a0 7 ∧ ∃ n, L_Mo_letters_51 post n a0 0 (sI (sI (sI (sI M20 a0 1 x1) a0 2 x2) a0 4 0) a0 5 0))) ∧ (r20 = 0 → (B_Mo_letters_26 post M20))))))))))
set_option maxRecDepth 20000 in
theorem S_Mo_letters {l : Launch} {D : va_G} {B t g : Nat} {d : Nat → Nat} {ac : Nat → ClassId}  (a0 : Nat) (x1 : Int32) (x2 : Int32) (M : Mem) (post : Int32 → Mem → Prop) (h : T_Mo_letters a0 x1 x2 M post) : Met l y_Mo_letters w_Mo_letters rm_Mo_letters (va_Pc [.ref (d a0), .int x1, .int x2] (PRE D B d g t ac M)) (QI D B d g ac post) 0 0 (AB B) := by
  refine met_i (by decide +kernel) (Nat.le_of_ble_eq_true rfl) (fun x h1 hR h3 h4 h5 h6 h7 h8 C Rt => ?_)
  subst h3 h4 h5 h6 h7 h8
  unfold T_Mo_letters at h
  show J x 4 0 [(0, .ref (xd x a0)), (1, .int x1), (2, .int x2)] [] 0 0 M
  refine J_iload_n C 1 D_Mo_letters_0 rfl rfl ?_
  refine J_iconst (v := 1) C D_Mo_letters_1 rfl ?_
  refine J_iconst (v := 3) C D_Mo_letters_2 rfl ?_
  refine J_callSi C ml_Mo_75 (S_Mo_in3 _ _ _ _ _ h) (by rw [hR]; decide) rfl rfl (Nat.le_of_ble_eq_true rfl) D_Mo_letters_3 (fun r3 M3 h => ?_)
  refine J_if_eq (tgt := 26) C D_Mo_letters_6 (by decide) (fun c_6 => ?_) (fun c_6 => ?_)
  · have h := h.1 c_6
    exact J_sub [] rfl (Z_Mo_letters_26 C hR Rt  _ h)
  · have h := h.2 c_6
    refine J_iload_n C 2 D_Mo_letters_9 rfl rfl ?_
    refine J_iconst (v := 2) C D_Mo_letters_10 rfl ?_
    refine J_bipush (v := 97) C D_Mo_letters_11 rfl ?_
    refine J_callSi C ml_Mo_75 (S_Mo_in3 _ _ _ _ _ h) (by rw [hR]; decide) rfl rfl (Nat.le_of_ble_eq_true rfl) D_Mo_letters_13 (fun r13 M13 h => ?_)
    refine J_if_eq (tgt := 26) C D_Mo_letters_16 (by decide) (fun c_16 => ?_) (fun c_16 => ?_)
    · have h := h.1 c_16
      exact J_sub [] rfl (Z_Mo_letters_26 C hR Rt  _ h)
    · have h := h.2 c_16
      refine J_iload_n C 2 D_Mo_letters_19 rfl rfl ?_
      refine J_callSi C ml_Mo_79 (S_Mo_isPrime _ _ _ h) (by rw [hR]; decide) rfl rfl (Nat.le_of_ble_eq_true rfl) D_Mo_letters_20 (fun r20 M20 h => ?_)
      refine J_if_ne (tgt := 29) C D_Mo_letters_23 (by decide) (fun c_23 => ?_) (fun c_23 => ?_)
      · have h := h.1 c_23
        refine J_aload_n C 0 D_Mo_letters_29 rfl rfl ?_
        refine J_iload_n C 1 D_Mo_letters_30 rfl rfl ?_
        obtain ⟨c_31, h⟩ := h
        refine J_putI C fl_Mo_13 D_Mo_letters_31 c_31 ?_
        refine J_aload_n C 0 D_Mo_letters_34 rfl rfl ?_
        refine J_iload_n C 2 D_Mo_letters_35 rfl rfl ?_
        obtain ⟨c_36, h⟩ := h
        refine J_putI C fl_Mo_17 D_Mo_letters_36 c_36 ?_
        refine J_aload_n C 0 D_Mo_letters_39 rfl rfl ?_
        refine J_iconst (v := 0) C D_Mo_letters_40 rfl ?_
        obtain ⟨c_41, h⟩ := h
        refine J_putI C fl_Mo_84 D_Mo_letters_41 c_41 ?_
        refine J_aload_n C 0 D_Mo_letters_44 rfl rfl ?_
        refine J_iconst (v := 0) C D_Mo_letters_45 rfl ?_
        obtain ⟨c_46, h⟩ := h
        refine J_putI C fl_Mo_87 D_Mo_letters_46 c_46 ?_
        refine J_iconst (v := 0) C D_Mo_letters_49 rfl ?_
        refine J_istore_n (lv' := [(3, .int 0), (0, .ref (xd x a0)), (1, .int x1), (2, .int x2)]) C 3 D_Mo_letters_50 rfl (by decide) rfl ?_
        obtain ⟨n, h⟩ := h
        exact J_sub [1, 0] rfl (Y_Mo_letters_51 C hR Rt  n _ _ _ h)
      · have h := h.2 c_23
        exact J_sub [] rfl (Z_Mo_letters_26 C hR Rt  _ h)
theorem D_Mo_order_0 : decode b_Mo_order 0 = .ok (.iload_n 1, 1) := by decide +kernel
theorem D_Mo_order_1 : decode b_Mo_order 1 = .ok (.iconst 0, 1) := by decide +kernel
theorem D_Mo_order_2 : decode b_Mo_order 2 = .ok (.iconst 1, 1) := by decide +kernel
theorem D_Mo_order_3 : decode b_Mo_order 3 = .ok (.invokestatic 75, 3) := by decide +kernel
theorem D_Mo_order_6 : decode b_Mo_order 6 = .ok (.ifCond .ne 6, 3) := by decide +kernel
theorem D_Mo_order_9 : decode b_Mo_order 9 = .ok (.ldc 83, 2) := by decide +kernel
theorem D_Mo_order_11 : decode b_Mo_order 11 = .ok (.ireturn, 1) := by decide +kernel
theorem D_Mo_order_12 : decode b_Mo_order 12 = .ok (.aload_n 0, 1) := by decide +kernel
theorem D_Mo_order_13 : decode b_Mo_order 13 = .ok (.getfield 58, 3) := by decide +kernel
theorem D_Mo_order_16 : decode b_Mo_order 16 = .ok (.istore_n 2, 1) := by decide +kernel
theorem D_Mo_order_17 : decode b_Mo_order 17 = .ok (.aload_n 0, 1) := by decide +kernel
theorem D_Mo_order_18 : decode b_Mo_order 18 = .ok (.iload_n 1, 1) := by decide +kernel
theorem D_Mo_order_19 : decode b_Mo_order 19 = .ok (.putfield 58, 3) := by decide +kernel
theorem D_Mo_order_22 : decode b_Mo_order 22 = .ok (.iload_n 2, 1) := by decide +kernel
theorem D_Mo_order_23 : decode b_Mo_order 23 = .ok (.ireturn, 1) := by decide +kernel
abbrev rm_Mo_order : Room := { frames := 1, cells := 0, slots := 0, locals := 22 }
def T_Mo_order (a0 : Nat) (x1 : Int32) (M : Mem) (post : Int32 → Mem → Prop) : Prop := (T_Mo_in3 x1 0 1 M (fun r3 M3 => (¬ r3 = 0 → (isK M3 a0 7 ∧ isK M3 a0 7 ∧ post (gI M3 a0 3) (sI M3 a0 3 x1))) ∧ (r3 = 0 → (post ((-1000000)) M3))))
set_option maxRecDepth 20000 in
theorem S_Mo_order {l : Launch} {D : va_G} {B t g : Nat} {d : Nat → Nat} {ac : Nat → ClassId}  (a0 : Nat) (x1 : Int32) (M : Mem) (post : Int32 → Mem → Prop) (h : T_Mo_order a0 x1 M post) : Met l y_Mo_order w_Mo_order rm_Mo_order (va_Pc [.ref (d a0), .int x1] (PRE D B d g t ac M)) (QI D B d g ac post) 0 0 (AB B) := by
  refine met_i (by decide +kernel) (Nat.le_of_ble_eq_true rfl) (fun x h1 hR h3 h4 h5 h6 h7 h8 C Rt => ?_)
  subst h3 h4 h5 h6 h7 h8
  unfold T_Mo_order at h
  show J x 3 0 [(0, .ref (xd x a0)), (1, .int x1)] [] 0 0 M
  refine J_iload_n C 1 D_Mo_order_0 rfl rfl ?_
  refine J_iconst (v := 0) C D_Mo_order_1 rfl ?_
  refine J_iconst (v := 1) C D_Mo_order_2 rfl ?_
  refine J_callSi C ml_Mo_75 (S_Mo_in3 _ _ _ _ _ h) (by rw [hR]; decide) rfl rfl (Nat.le_of_ble_eq_true rfl) D_Mo_order_3 (fun r3 M3 h => ?_)
  refine J_if_ne (tgt := 12) C D_Mo_order_6 (by decide) (fun c_6 => ?_) (fun c_6 => ?_)
  · have h := h.1 c_6
    refine J_aload_n C 0 D_Mo_order_12 rfl rfl ?_
    obtain ⟨c_13, h⟩ := h
    refine J_getI C fl_Mo_58 D_Mo_order_13 c_13 ?_
    refine J_istore_n (lv' := [(2, .int (gI M3 a0 3)), (0, .ref (xd x a0)), (1, .int x1)]) C 2 D_Mo_order_16 rfl (by decide) rfl ?_
    refine J_aload_n C 0 D_Mo_order_17 rfl rfl ?_
    refine J_iload_n C 1 D_Mo_order_18 rfl rfl ?_
    obtain ⟨c_19, h⟩ := h
    refine J_putI C fl_Mo_58 D_Mo_order_19 c_19 ?_
    refine J_iload_n C 2 D_Mo_order_22 rfl rfl ?_
    exact J_iret C Rt D_Mo_order_23 rfl h
  · have h := h.2 c_6
    refine J_ldc (v := (-1000000)) C D_Mo_order_9 kw_Mo_83 ?_
    exact J_iret C Rt D_Mo_order_11 rfl h
theorem D_Mo_term_0 : decode b_Mo_term 0 = .ok (.aload_n 0, 1) := by decide +kernel
theorem D_Mo_term_1 : decode b_Mo_term 1 = .ok (.iload_n 2, 1) := by decide +kernel
theorem D_Mo_term_2 : decode b_Mo_term 2 = .ok (.iload_n 3, 1) := by decide +kernel
theorem D_Mo_term_3 : decode b_Mo_term 3 = .ok (.iload 4, 2) := by decide +kernel
theorem D_Mo_term_5 : decode b_Mo_term 5 = .ok (.invokevirtual 94, 3) := by decide +kernel
theorem D_Mo_term_8 : decode b_Mo_term 8 = .ok (.ifCond .ne 6, 3) := by decide +kernel
theorem D_Mo_term_11 : decode b_Mo_term 11 = .ok (.ldc 83, 2) := by decide +kernel
theorem D_Mo_term_13 : decode b_Mo_term 13 = .ok (.ireturn, 1) := by decide +kernel
theorem D_Mo_term_14 : decode b_Mo_term 14 = .ok (.iload_n 2, 1) := by decide +kernel
theorem D_Mo_term_15 : decode b_Mo_term 15 = .ok (.iload_n 3, 1) := by decide +kernel
theorem D_Mo_term_16 : decode b_Mo_term 16 = .ok (.iload 4, 2) := by decide +kernel
theorem D_Mo_term_18 : decode b_Mo_term 18 = .ok (.invokestatic 97, 3) := by decide +kernel
theorem D_Mo_term_21 : decode b_Mo_term 21 = .ok (.istore 5, 2) := by decide +kernel
theorem D_Mo_term_23 : decode b_Mo_term 23 = .ok (.aload_n 0, 1) := by decide +kernel
theorem D_Mo_term_24 : decode b_Mo_term 24 = .ok (.iconst 0, 1) := by decide +kernel
theorem D_Mo_term_25 : decode b_Mo_term 25 = .ok (.iload 5, 2) := by decide +kernel
theorem D_Mo_term_27 : decode b_Mo_term 27 = .ok (.aload_n 0, 1) := by decide +kernel
theorem D_Mo_term_28 : decode b_Mo_term 28 = .ok (.aload_n 0, 1) := by decide +kernel
theorem D_Mo_term_29 : decode b_Mo_term 29 = .ok (.iconst 0, 1) := by decide +kernel
theorem D_Mo_term_30 : decode b_Mo_term 30 = .ok (.iload 5, 2) := by decide +kernel
theorem D_Mo_term_32 : decode b_Mo_term 32 = .ok (.invokevirtual 69, 3) := by decide +kernel
theorem D_Mo_term_35 : decode b_Mo_term 35 = .ok (.i2l, 1) := by decide +kernel
theorem D_Mo_term_36 : decode b_Mo_term 36 = .ok (.iload_n 1, 1) := by decide +kernel
theorem D_Mo_term_37 : decode b_Mo_term 37 = .ok (.i2l, 1) := by decide +kernel
theorem D_Mo_term_38 : decode b_Mo_term 38 = .ok (.ladd, 1) := by decide +kernel
theorem D_Mo_term_39 : decode b_Mo_term 39 = .ok (.invokevirtual 48, 3) := by decide +kernel
theorem D_Mo_term_42 : decode b_Mo_term 42 = .ok (.invokevirtual 65, 3) := by decide +kernel
theorem D_Mo_term_45 : decode b_Mo_term 45 = .ok (.aload_n 0, 1) := by decide +kernel
theorem D_Mo_term_46 : decode b_Mo_term 46 = .ok (.iconst 0, 1) := by decide +kernel
theorem D_Mo_term_47 : decode b_Mo_term 47 = .ok (.iload 5, 2) := by decide +kernel
theorem D_Mo_term_49 : decode b_Mo_term 49 = .ok (.invokevirtual 69, 3) := by decide +kernel
theorem D_Mo_term_52 : decode b_Mo_term 52 = .ok (.ireturn, 1) := by decide +kernel
abbrev rm_Mo_term : Room := { frames := 1, cells := 0, slots := 0, locals := 24 }
def T_Mo_term (a0 : Nat) (x1 : Int32) (x2 : Int32) (x3 : Int32) (x4 : Int32) (M : Mem) (post : Int32 → Mem → Prop) : Prop := (isK M a0 7 ∧ T_Mo_isProduct a0 x2 x3 x4 M (fun r5 M5 => (¬ r5 = 0 → (T_Mo_powers x2 x3 x4 M5 (fun r18 M18 => isK M18 a0 7 ∧ T_Mo_get a0 0 r18 M18 (fun r32 M32 => isK M32 a0 7 ∧ T_Mo_mod a0 ((Int32.toInt64 r32) + (Int32.toInt64 x1)) M32 (fun r39 M39 => isK M39 a0 7 ∧ T_Mo_put a0 0 r18 r39 M39 (fun M42 => isK M42 a0 7 ∧ T_Mo_get a0 0 r18 M42 (fun r49 M49 => post r49 M49))))))) ∧ (r5 = 0 → (post ((-1000000)) M5))))
set_option maxRecDepth 20000 in
theorem S_Mo_term {l : Launch} {D : va_G} {B t g : Nat} {d : Nat → Nat} {ac : Nat → ClassId}  (a0 : Nat) (x1 : Int32) (x2 : Int32) (x3 : Int32) (x4 : Int32) (M : Mem) (post : Int32 → Mem → Prop) (h : T_Mo_term a0 x1 x2 x3 x4 M post) : Met l y_Mo_term w_Mo_term rm_Mo_term (va_Pc [.ref (d a0), .int x1, .int x2, .int x3, .int x4] (PRE D B d g t ac M)) (QI D B d g ac post) 0 0 (AB B) := by
  refine met_i (by decide +kernel) (Nat.le_of_ble_eq_true rfl) (fun x h1 hR h3 h4 h5 h6 h7 h8 C Rt => ?_)
  subst h3 h4 h5 h6 h7 h8
  unfold T_Mo_term at h
  show J x 6 0 [(0, .ref (xd x a0)), (1, .int x1), (2, .int x2), (3, .int x3), (4, .int x4)] [] 0 0 M
  refine J_aload_n C 0 D_Mo_term_0 rfl rfl ?_
  refine J_iload_n C 2 D_Mo_term_1 rfl rfl ?_
  refine J_iload_n C 3 D_Mo_term_2 rfl rfl ?_
  refine J_iload C 4 D_Mo_term_3 rfl ?_
  obtain ⟨c_5, h⟩ := h
  refine J_callVi C ml_Mo_94 (S_Mo_isProduct _ _ _ _ _ _ h) (by rw [hR]; decide) rfl c_5 rfl (Nat.le_of_ble_eq_true rfl) D_Mo_term_5 (fun r5 M5 h => ?_)
  refine J_if_ne (tgt := 14) C D_Mo_term_8 (by decide) (fun c_8 => ?_) (fun c_8 => ?_)
  · have h := h.1 c_8
    refine J_iload_n C 2 D_Mo_term_14 rfl rfl ?_
    refine J_iload_n C 3 D_Mo_term_15 rfl rfl ?_
    refine J_iload C 4 D_Mo_term_16 rfl ?_
    refine J_callSi C ml_Mo_97 (S_Mo_powers _ _ _ _ _ h) (by rw [hR]; decide) rfl rfl (Nat.le_of_ble_eq_true rfl) D_Mo_term_18 (fun r18 M18 h => ?_)
    refine J_istore (lv' := [(5, .int r18), (0, .ref (xd x a0)), (1, .int x1), (2, .int x2), (3, .int x3), (4, .int x4)]) C 5 D_Mo_term_21 (by decide) rfl ?_
    refine J_aload_n C 0 D_Mo_term_23 rfl rfl ?_
    refine J_iconst (v := 0) C D_Mo_term_24 rfl ?_
    refine J_iload C 5 D_Mo_term_25 rfl ?_
    refine J_aload_n C 0 D_Mo_term_27 rfl rfl ?_
    refine J_aload_n C 0 D_Mo_term_28 rfl rfl ?_
    refine J_iconst (v := 0) C D_Mo_term_29 rfl ?_
    refine J_iload C 5 D_Mo_term_30 rfl ?_
    obtain ⟨c_32, h⟩ := h
    refine J_callVi C ml_Mo_69 (S_Mo_get _ _ _ _ _ h) (by rw [hR]; decide) rfl c_32 rfl (Nat.le_of_ble_eq_true rfl) D_Mo_term_32 (fun r32 M32 h => ?_)
    refine J_i2l C D_Mo_term_35 ?_
    refine J_iload_n C 1 D_Mo_term_36 rfl rfl ?_
    refine J_i2l C D_Mo_term_37 ?_
    refine J_ladd C D_Mo_term_38 ?_
    obtain ⟨c_39, h⟩ := h
    refine J_callVi C ml_Mo_48 (S_Mo_mod _ _ _ _ h) (by rw [hR]; decide) rfl c_39 rfl (Nat.le_of_ble_eq_true rfl) D_Mo_term_39 (fun r39 M39 h => ?_)
    obtain ⟨c_42, h⟩ := h
    refine J_callVv C ml_Mo_65 (S_Mo_put _ _ _ _ _ _ h) (by rw [hR]; decide) rfl c_42 rfl (Nat.le_of_ble_eq_true rfl) D_Mo_term_42 (fun M42 h => ?_)
    refine J_aload_n C 0 D_Mo_term_45 rfl rfl ?_
    refine J_iconst (v := 0) C D_Mo_term_46 rfl ?_
    refine J_iload C 5 D_Mo_term_47 rfl ?_
    obtain ⟨c_49, h⟩ := h
    refine J_callVi C ml_Mo_69 (S_Mo_get _ _ _ _ _ h) (by rw [hR]; decide) rfl c_49 rfl (Nat.le_of_ble_eq_true rfl) D_Mo_term_49 (fun r49 M49 h => ?_)
    exact J_iret C Rt D_Mo_term_52 rfl h
  · have h := h.2 c_8
    refine J_ldc (v := (-1000000)) C D_Mo_term_11 kw_Mo_83 ?_
    exact J_iret C Rt D_Mo_term_13 rfl h
theorem D_Mo_number_0 : decode b_Mo_number 0 = .ok (.aload_n 0, 1) := by decide +kernel
theorem D_Mo_number_1 : decode b_Mo_number 1 = .ok (.iload_n 1, 1) := by decide +kernel
theorem D_Mo_number_2 : decode b_Mo_number 2 = .ok (.iload_n 2, 1) := by decide +kernel
theorem D_Mo_number_3 : decode b_Mo_number 3 = .ok (.iload_n 3, 1) := by decide +kernel
theorem D_Mo_number_4 : decode b_Mo_number 4 = .ok (.invokevirtual 94, 3) := by decide +kernel
theorem D_Mo_number_7 : decode b_Mo_number 7 = .ok (.ifCond .eq 17, 3) := by decide +kernel
theorem D_Mo_number_10 : decode b_Mo_number 10 = .ok (.aload_n 0, 1) := by decide +kernel
theorem D_Mo_number_11 : decode b_Mo_number 11 = .ok (.iconst 0, 1) := by decide +kernel
theorem D_Mo_number_12 : decode b_Mo_number 12 = .ok (.iload_n 1, 1) := by decide +kernel
theorem D_Mo_number_13 : decode b_Mo_number 13 = .ok (.iload_n 2, 1) := by decide +kernel
theorem D_Mo_number_14 : decode b_Mo_number 14 = .ok (.iload_n 3, 1) := by decide +kernel
theorem D_Mo_number_15 : decode b_Mo_number 15 = .ok (.invokestatic 97, 3) := by decide +kernel
theorem D_Mo_number_18 : decode b_Mo_number 18 = .ok (.invokevirtual 69, 3) := by decide +kernel
theorem D_Mo_number_21 : decode b_Mo_number 21 = .ok (.goto 5, 3) := by decide +kernel
theorem D_Mo_number_24 : decode b_Mo_number 24 = .ok (.ldc 83, 2) := by decide +kernel
theorem D_Mo_number_26 : decode b_Mo_number 26 = .ok (.ireturn, 1) := by decide +kernel
abbrev rm_Mo_number : Room := { frames := 1, cells := 0, slots := 0, locals := 23 }
def B_Mo_number_26 (post : Int32 → Mem → Prop) (s0 : Int32) (M : Mem) : Prop := (post s0 M)
set_option maxRecDepth 20000 in
theorem Z_Mo_number_26 {x : Ctx} {post : Int32 → Mem → Prop} (C : Ok x b_Mo_number 4 "HeapTowerModel") (hR : xR x = rm_Mo_number) (Rt : RetI x .int post 0 0) (s0 : Int32) (M : Mem) (h : B_Mo_number_26 post s0 M) : J x 4 26 [] [.int s0] 0 0 M := by
  unfold B_Mo_number_26 at h
  exact J_iret C Rt D_Mo_number_26 rfl h
def T_Mo_number (a0 : Nat) (x1 : Int32) (x2 : Int32) (x3 : Int32) (M : Mem) (post : Int32 → Mem → Prop) : Prop := (isK M a0 7 ∧ T_Mo_isProduct a0 x1 x2 x3 M (fun r4 M4 => (r4 = 0 → (B_Mo_number_26 post ((-1000000)) M4)) ∧ (¬ r4 = 0 → (T_Mo_powers x1 x2 x3 M4 (fun r15 M15 => isK M15 a0 7 ∧ T_Mo_get a0 0 r15 M15 (fun r18 M18 => B_Mo_number_26 post r18 M18))))))
set_option maxRecDepth 20000 in
theorem S_Mo_number {l : Launch} {D : va_G} {B t g : Nat} {d : Nat → Nat} {ac : Nat → ClassId}  (a0 : Nat) (x1 : Int32) (x2 : Int32) (x3 : Int32) (M : Mem) (post : Int32 → Mem → Prop) (h : T_Mo_number a0 x1 x2 x3 M post) : Met l y_Mo_number w_Mo_number rm_Mo_number (va_Pc [.ref (d a0), .int x1, .int x2, .int x3] (PRE D B d g t ac M)) (QI D B d g ac post) 0 0 (AB B) := by
  refine met_i (by decide +kernel) (Nat.le_of_ble_eq_true rfl) (fun x h1 hR h3 h4 h5 h6 h7 h8 C Rt => ?_)
  subst h3 h4 h5 h6 h7 h8
  unfold T_Mo_number at h
  show J x 4 0 [(0, .ref (xd x a0)), (1, .int x1), (2, .int x2), (3, .int x3)] [] 0 0 M
  refine J_aload_n C 0 D_Mo_number_0 rfl rfl ?_
  refine J_iload_n C 1 D_Mo_number_1 rfl rfl ?_
  refine J_iload_n C 2 D_Mo_number_2 rfl rfl ?_
  refine J_iload_n C 3 D_Mo_number_3 rfl rfl ?_
  obtain ⟨c_4, h⟩ := h
  refine J_callVi C ml_Mo_94 (S_Mo_isProduct _ _ _ _ _ _ h) (by rw [hR]; decide) rfl c_4 rfl (Nat.le_of_ble_eq_true rfl) D_Mo_number_4 (fun r4 M4 h => ?_)
  refine J_if_eq (tgt := 24) C D_Mo_number_7 (by decide) (fun c_7 => ?_) (fun c_7 => ?_)
  · have h := h.1 c_7
    refine J_ldc (v := (-1000000)) C D_Mo_number_24 kw_Mo_83 ?_
    exact J_sub [] rfl (Z_Mo_number_26 C hR Rt  _ _ h)
  · have h := h.2 c_7
    refine J_aload_n C 0 D_Mo_number_10 rfl rfl ?_
    refine J_iconst (v := 0) C D_Mo_number_11 rfl ?_
    refine J_iload_n C 1 D_Mo_number_12 rfl rfl ?_
    refine J_iload_n C 2 D_Mo_number_13 rfl rfl ?_
    refine J_iload_n C 3 D_Mo_number_14 rfl rfl ?_
    refine J_callSi C ml_Mo_97 (S_Mo_powers _ _ _ _ _ h) (by rw [hR]; decide) rfl rfl (Nat.le_of_ble_eq_true rfl) D_Mo_number_15 (fun r15 M15 h => ?_)
    obtain ⟨c_18, h⟩ := h
    refine J_callVi C ml_Mo_69 (S_Mo_get _ _ _ _ _ h) (by rw [hR]; decide) rfl c_18 rfl (Nat.le_of_ble_eq_true rfl) D_Mo_number_18 (fun r18 M18 h => ?_)
    refine J_goto (tgt := 26) C D_Mo_number_21 (by decide) ?_
    exact J_sub [] rfl (Z_Mo_number_26 C hR Rt  _ _ h)
theorem D_Mo_wipe_0 : decode b_Mo_wipe 0 = .ok (.aload_n 0, 1) := by decide +kernel
theorem D_Mo_wipe_1 : decode b_Mo_wipe 1 = .ok (.iconst 0, 1) := by decide +kernel
theorem D_Mo_wipe_2 : decode b_Mo_wipe 2 = .ok (.invokevirtual 101, 3) := by decide +kernel
theorem D_Mo_wipe_5 : decode b_Mo_wipe 5 = .ok (.istore_n 1, 1) := by decide +kernel
theorem D_Mo_wipe_6 : decode b_Mo_wipe 6 = .ok (.aload_n 0, 1) := by decide +kernel
theorem D_Mo_wipe_7 : decode b_Mo_wipe 7 = .ok (.iconst 0, 1) := by decide +kernel
theorem D_Mo_wipe_8 : decode b_Mo_wipe 8 = .ok (.invokevirtual 90, 3) := by decide +kernel
theorem D_Mo_wipe_11 : decode b_Mo_wipe 11 = .ok (.iload_n 1, 1) := by decide +kernel
theorem D_Mo_wipe_12 : decode b_Mo_wipe 12 = .ok (.ireturn, 1) := by decide +kernel
abbrev rm_Mo_wipe : Room := { frames := 2, cells := 0, slots := 0, locals := 45 }
def T_Mo_wipe (a0 : Nat) (M : Mem) (post : Int32 → Mem → Prop) : Prop := (isK M a0 7 ∧ T_Mo_products a0 0 M (fun r2 M2 => isK M2 a0 7 ∧ T_Mo_clear a0 0 M2 (fun M8 => post r2 M8)))
set_option maxRecDepth 20000 in
theorem S_Mo_wipe {l : Launch} {D : va_G} {B t g : Nat} {d : Nat → Nat} {ac : Nat → ClassId}  (a0 : Nat) (M : Mem) (post : Int32 → Mem → Prop) (h : T_Mo_wipe a0 M post) : Met l y_Mo_wipe w_Mo_wipe rm_Mo_wipe (va_Pc [.ref (d a0)] (PRE D B d g t ac M)) (QI D B d g ac post) 0 0 (AB B) := by
  refine met_i (by decide +kernel) (Nat.le_of_ble_eq_true rfl) (fun x h1 hR h3 h4 h5 h6 h7 h8 C Rt => ?_)
  subst h3 h4 h5 h6 h7 h8
  unfold T_Mo_wipe at h
  show J x 2 0 [(0, .ref (xd x a0))] [] 0 0 M
  refine J_aload_n C 0 D_Mo_wipe_0 rfl rfl ?_
  refine J_iconst (v := 0) C D_Mo_wipe_1 rfl ?_
  obtain ⟨c_2, h⟩ := h
  refine J_callVi C ml_Mo_101 (S_Mo_products _ _ _ _ h) (by rw [hR]; decide) rfl c_2 rfl (Nat.le_of_ble_eq_true rfl) D_Mo_wipe_2 (fun r2 M2 h => ?_)
  refine J_istore_n (lv' := [(1, .int r2), (0, .ref (xd x a0))]) C 1 D_Mo_wipe_5 rfl (by decide) rfl ?_
  refine J_aload_n C 0 D_Mo_wipe_6 rfl rfl ?_
  refine J_iconst (v := 0) C D_Mo_wipe_7 rfl ?_
  obtain ⟨c_8, h⟩ := h
  refine J_callVv C ml_Mo_90 (S_Mo_clear _ _ _ _ h) (by rw [hR]; decide) rfl c_8 rfl (Nat.le_of_ble_eq_true rfl) D_Mo_wipe_8 (fun M8 h => ?_)
  refine J_iload_n C 1 D_Mo_wipe_11 rfl rfl ?_
  exact J_iret C Rt D_Mo_wipe_12 rfl h
theorem D_Mo_draft_0 : decode b_Mo_draft 0 = .ok (.iload_n 1, 1) := by decide +kernel
theorem D_Mo_draft_1 : decode b_Mo_draft 1 = .ok (.iconst 0, 1) := by decide +kernel
theorem D_Mo_draft_2 : decode b_Mo_draft 2 = .ok (.iconst 3, 1) := by decide +kernel
theorem D_Mo_draft_3 : decode b_Mo_draft 3 = .ok (.invokestatic 75, 3) := by decide +kernel
theorem D_Mo_draft_6 : decode b_Mo_draft 6 = .ok (.ifCond .ne 6, 3) := by decide +kernel
theorem D_Mo_draft_9 : decode b_Mo_draft 9 = .ok (.ldc 83, 2) := by decide +kernel
theorem D_Mo_draft_11 : decode b_Mo_draft 11 = .ok (.ireturn, 1) := by decide +kernel
theorem D_Mo_draft_12 : decode b_Mo_draft 12 = .ok (.iload_n 1, 1) := by decide +kernel
theorem D_Mo_draft_13 : decode b_Mo_draft 13 = .ok (.ifCond .ne 9, 3) := by decide +kernel
theorem D_Mo_draft_16 : decode b_Mo_draft 16 = .ok (.aload_n 0, 1) := by decide +kernel
theorem D_Mo_draft_17 : decode b_Mo_draft 17 = .ok (.iconst 0, 1) := by decide +kernel
theorem D_Mo_draft_18 : decode b_Mo_draft 18 = .ok (.invokevirtual 101, 3) := by decide +kernel
theorem D_Mo_draft_21 : decode b_Mo_draft 21 = .ok (.ireturn, 1) := by decide +kernel
theorem D_Mo_draft_22 : decode b_Mo_draft 22 = .ok (.iload_n 1, 1) := by decide +kernel
theorem D_Mo_draft_23 : decode b_Mo_draft 23 = .ok (.iconst 1, 1) := by decide +kernel
theorem D_Mo_draft_24 : decode b_Mo_draft 24 = .ok (.if_icmp .ne 9, 3) := by decide +kernel
theorem D_Mo_draft_27 : decode b_Mo_draft 27 = .ok (.aload_n 0, 1) := by decide +kernel
theorem D_Mo_draft_28 : decode b_Mo_draft 28 = .ok (.iconst 0, 1) := by decide +kernel
theorem D_Mo_draft_29 : decode b_Mo_draft 29 = .ok (.invokevirtual 72, 3) := by decide +kernel
theorem D_Mo_draft_32 : decode b_Mo_draft 32 = .ok (.ireturn, 1) := by decide +kernel
theorem D_Mo_draft_33 : decode b_Mo_draft 33 = .ok (.iload_n 1, 1) := by decide +kernel
theorem D_Mo_draft_34 : decode b_Mo_draft 34 = .ok (.iconst 2, 1) := by decide +kernel
theorem D_Mo_draft_35 : decode b_Mo_draft 35 = .ok (.if_icmp .ne 17, 3) := by decide +kernel
theorem D_Mo_draft_38 : decode b_Mo_draft 38 = .ok (.aload_n 0, 1) := by decide +kernel
theorem D_Mo_draft_39 : decode b_Mo_draft 39 = .ok (.iconst 0, 1) := by decide +kernel
theorem D_Mo_draft_40 : decode b_Mo_draft 40 = .ok (.invokevirtual 104, 3) := by decide +kernel
theorem D_Mo_draft_43 : decode b_Mo_draft 43 = .ok (.ifCond .eq 7, 3) := by decide +kernel
theorem D_Mo_draft_46 : decode b_Mo_draft 46 = .ok (.iconst 1, 1) := by decide +kernel
theorem D_Mo_draft_47 : decode b_Mo_draft 47 = .ok (.goto 4, 3) := by decide +kernel
theorem D_Mo_draft_50 : decode b_Mo_draft 50 = .ok (.iconst 0, 1) := by decide +kernel
theorem D_Mo_draft_51 : decode b_Mo_draft 51 = .ok (.ireturn, 1) := by decide +kernel
theorem D_Mo_draft_52 : decode b_Mo_draft 52 = .ok (.iconst (-1), 1) := by decide +kernel
theorem D_Mo_draft_53 : decode b_Mo_draft 53 = .ok (.istore_n 2, 1) := by decide +kernel
theorem D_Mo_draft_54 : decode b_Mo_draft 54 = .ok (.iconst 0, 1) := by decide +kernel
theorem D_Mo_draft_55 : decode b_Mo_draft 55 = .ok (.istore_n 3, 1) := by decide +kernel
theorem D_Mo_draft_56 : decode b_Mo_draft 56 = .ok (.iload_n 3, 1) := by decide +kernel
theorem D_Mo_draft_57 : decode b_Mo_draft 57 = .ok (.sipush 1331, 3) := by decide +kernel
theorem D_Mo_draft_60 : decode b_Mo_draft 60 = .ok (.if_icmp .ge 33, 3) := by decide +kernel
theorem D_Mo_draft_63 : decode b_Mo_draft 63 = .ok (.aload_n 0, 1) := by decide +kernel
theorem D_Mo_draft_64 : decode b_Mo_draft 64 = .ok (.iconst 0, 1) := by decide +kernel
theorem D_Mo_draft_65 : decode b_Mo_draft 65 = .ok (.iload_n 3, 1) := by decide +kernel
theorem D_Mo_draft_66 : decode b_Mo_draft 66 = .ok (.invokevirtual 69, 3) := by decide +kernel
theorem D_Mo_draft_69 : decode b_Mo_draft 69 = .ok (.ifCond .eq 18, 3) := by decide +kernel
theorem D_Mo_draft_72 : decode b_Mo_draft 72 = .ok (.iload_n 2, 1) := by decide +kernel
theorem D_Mo_draft_73 : decode b_Mo_draft 73 = .ok (.ifCond .lt 12, 3) := by decide +kernel
theorem D_Mo_draft_76 : decode b_Mo_draft 76 = .ok (.aload_n 0, 1) := by decide +kernel
theorem D_Mo_draft_77 : decode b_Mo_draft 77 = .ok (.iload_n 3, 1) := by decide +kernel
theorem D_Mo_draft_78 : decode b_Mo_draft 78 = .ok (.iload_n 2, 1) := by decide +kernel
theorem D_Mo_draft_79 : decode b_Mo_draft 79 = .ok (.invokevirtual 107, 3) := by decide +kernel
theorem D_Mo_draft_82 : decode b_Mo_draft 82 = .ok (.ifCond .eq 5, 3) := by decide +kernel
theorem D_Mo_draft_85 : decode b_Mo_draft 85 = .ok (.iload_n 3, 1) := by decide +kernel
theorem D_Mo_draft_86 : decode b_Mo_draft 86 = .ok (.istore_n 2, 1) := by decide +kernel
theorem D_Mo_draft_87 : decode b_Mo_draft 87 = .ok (.iinc 3 1, 3) := by decide +kernel
theorem D_Mo_draft_90 : decode b_Mo_draft 90 = .ok (.goto (-34), 3) := by decide +kernel
theorem D_Mo_draft_93 : decode b_Mo_draft 93 = .ok (.iload_n 2, 1) := by decide +kernel
theorem D_Mo_draft_94 : decode b_Mo_draft 94 = .ok (.ifCond .ge 7, 3) := by decide +kernel
theorem D_Mo_draft_97 : decode b_Mo_draft 97 = .ok (.iconst (-1), 1) := by decide +kernel
theorem D_Mo_draft_98 : decode b_Mo_draft 98 = .ok (.goto 30, 3) := by decide +kernel
theorem D_Mo_draft_101 : decode b_Mo_draft 101 = .ok (.sipush 10000, 3) := by decide +kernel
theorem D_Mo_draft_104 : decode b_Mo_draft 104 = .ok (.aload_n 0, 1) := by decide +kernel
theorem D_Mo_draft_105 : decode b_Mo_draft 105 = .ok (.iload_n 2, 1) := by decide +kernel
theorem D_Mo_draft_106 : decode b_Mo_draft 106 = .ok (.iconst 0, 1) := by decide +kernel
theorem D_Mo_draft_107 : decode b_Mo_draft 107 = .ok (.invokevirtual 61, 3) := by decide +kernel
theorem D_Mo_draft_110 : decode b_Mo_draft 110 = .ok (.imul, 1) := by decide +kernel
theorem D_Mo_draft_111 : decode b_Mo_draft 111 = .ok (.bipush 100, 2) := by decide +kernel
theorem D_Mo_draft_113 : decode b_Mo_draft 113 = .ok (.aload_n 0, 1) := by decide +kernel
theorem D_Mo_draft_114 : decode b_Mo_draft 114 = .ok (.iload_n 2, 1) := by decide +kernel
theorem D_Mo_draft_115 : decode b_Mo_draft 115 = .ok (.iconst 1, 1) := by decide +kernel
theorem D_Mo_draft_116 : decode b_Mo_draft 116 = .ok (.invokevirtual 61, 3) := by decide +kernel
theorem D_Mo_draft_119 : decode b_Mo_draft 119 = .ok (.imul, 1) := by decide +kernel
theorem D_Mo_draft_120 : decode b_Mo_draft 120 = .ok (.iadd, 1) := by decide +kernel
theorem D_Mo_draft_121 : decode b_Mo_draft 121 = .ok (.aload_n 0, 1) := by decide +kernel
theorem D_Mo_draft_122 : decode b_Mo_draft 122 = .ok (.iload_n 2, 1) := by decide +kernel
theorem D_Mo_draft_123 : decode b_Mo_draft 123 = .ok (.iconst 2, 1) := by decide +kernel
theorem D_Mo_draft_124 : decode b_Mo_draft 124 = .ok (.invokevirtual 61, 3) := by decide +kernel
theorem D_Mo_draft_127 : decode b_Mo_draft 127 = .ok (.iadd, 1) := by decide +kernel
theorem D_Mo_draft_128 : decode b_Mo_draft 128 = .ok (.ireturn, 1) := by decide +kernel
abbrev rm_Mo_draft : Room := { frames := 3, cells := 0, slots := 0, locals := 68 }
def B_Mo_draft_128 (post : Int32 → Mem → Prop) (s0 : Int32) (M : Mem) : Prop := (post s0 M)
set_option maxRecDepth 20000 in
theorem Z_Mo_draft_128 {x : Ctx} {post : Int32 → Mem → Prop} (C : Ok x b_Mo_draft 4 "HeapTowerModel") (hR : xR x = rm_Mo_draft) (Rt : RetI x .int post 0 0) (s0 : Int32) (M : Mem) (h : B_Mo_draft_128 post s0 M) : J x 4 128 [] [.int s0] 0 0 M := by
  unfold B_Mo_draft_128 at h
  exact J_iret C Rt D_Mo_draft_128 rfl h
def B_Mo_draft_87 (k56 : Nat → Int32 → Int32 → Mem → Prop) (post : Int32 → Mem → Prop) (a0 : Nat) (x2 : Int32) (x3 : Int32) (M : Mem) : Prop := (k56 a0 x2 (x3 + 1) M)
set_option maxRecDepth 20000 in
theorem Z_Mo_draft_87 {x : Ctx} {post : Int32 → Mem → Prop} (C : Ok x b_Mo_draft 4 "HeapTowerModel") (hR : xR x = rm_Mo_draft) (Rt : RetI x .int post 0 0) {k56 : Nat → Int32 → Int32 → Mem → Prop} (K56 : ∀ (a0 : Nat) (x2 : Int32) (x3 : Int32) (M : Mem), k56 a0 x2 x3 M → J x 4 56 [(0, .ref (xd x a0)), (2, .int x2), (3, .int x3)] [] 0 0 M) (a0 : Nat) (x2 : Int32) (x3 : Int32) (M : Mem) (h : B_Mo_draft_87 k56 post a0 x2 x3 M) : J x 4 87 [(0, .ref (xd x a0)), (2, .int x2), (3, .int x3)] [] 0 0 M := by
  unfold B_Mo_draft_87 at h
  refine J_iinc (v := x3 + 1) (lv' := [(3, .int (x3 + 1)), (0, .ref (xd x a0)), (2, .int x2)]) C 3 2 D_Mo_draft_87 rfl rfl (by decide) rfl ?_
  refine J_goto (tgt := 56) C D_Mo_draft_90 (by decide) ?_
  exact J_sub [1, 2, 0] rfl (K56 _ _ _ _ h)
def B_Mo_draft_85 (k56 : Nat → Int32 → Int32 → Mem → Prop) (post : Int32 → Mem → Prop) (a0 : Nat) (x3 : Int32) (M : Mem) : Prop := (B_Mo_draft_87 k56 post a0 x3 x3 M)
set_option maxRecDepth 20000 in
theorem Z_Mo_draft_85 {x : Ctx} {post : Int32 → Mem → Prop} (C : Ok x b_Mo_draft 4 "HeapTowerModel") (hR : xR x = rm_Mo_draft) (Rt : RetI x .int post 0 0) {k56 : Nat → Int32 → Int32 → Mem → Prop} (K56 : ∀ (a0 : Nat) (x2 : Int32) (x3 : Int32) (M : Mem), k56 a0 x2 x3 M → J x 4 56 [(0, .ref (xd x a0)), (2, .int x2), (3, .int x3)] [] 0 0 M) (a0 : Nat) (x3 : Int32) (M : Mem) (h : B_Mo_draft_85 k56 post a0 x3 M) : J x 4 85 [(0, .ref (xd x a0)), (3, .int x3)] [] 0 0 M := by
  unfold B_Mo_draft_85 at h
  refine J_iload_n C 3 D_Mo_draft_85 rfl rfl ?_
  refine J_istore_n (lv' := [(2, .int x3), (0, .ref (xd x a0)), (3, .int x3)]) C 2 D_Mo_draft_86 rfl (by decide) rfl ?_
  exact J_sub [1, 0, 2] rfl (Z_Mo_draft_87 C hR Rt K56 _ _ _ _ h)
def B_Mo_draft_56 (k56 : Nat → Int32 → Int32 → Mem → Prop) (post : Int32 → Mem → Prop) (a0 : Nat) (x2 : Int32) (x3 : Int32) (M : Mem) : Prop := ((1331 ≤ x3 → ((0 ≤ x2 → (isK M a0 7 ∧ T_Mo_power a0 x2 0 M (fun r107 M107 => isK M107 a0 7 ∧ T_Mo_power a0 x2 1 M107 (fun r116 M116 => isK M116 a0 7 ∧ T_Mo_power a0 x2 2 M116 (fun r124 M124 => B_Mo_draft_128 post (((10000 * r107) + (100 * r116)) + r124) M124))))) ∧ (¬ 0 ≤ x2 → (B_Mo_draft_128 post ((-1)) M)))) ∧ (¬ 1331 ≤ x3 → (isK M a0 7 ∧ T_Mo_get a0 0 x3 M (fun r66 M66 => (r66 = 0 → (B_Mo_draft_87 k56 post a0 x2 x3 M66)) ∧ (¬ r66 = 0 → ((x2 < 0 → (B_Mo_draft_85 k56 post a0 x3 M66)) ∧ (¬ x2 < 0 → (isK M66 a0 7 ∧ T_Mo_isGreater a0 x3 x2 M66 (fun r79 M79 => (r79 = 0 → (B_Mo_draft_87 k56 post a0 x2 x3 M79)) ∧ (¬ r79 = 0 → (B_Mo_draft_85 k56 post a0 x3 M79)))))))))))
set_option maxRecDepth 20000 in
theorem Z_Mo_draft_56 {x : Ctx} {post : Int32 → Mem → Prop} (C : Ok x b_Mo_draft 4 "HeapTowerModel") (hR : xR x = rm_Mo_draft) (Rt : RetI x .int post 0 0) {k56 : Nat → Int32 → Int32 → Mem → Prop} (K56 : ∀ (a0 : Nat) (x2 : Int32) (x3 : Int32) (M : Mem), k56 a0 x2 x3 M → J x 4 56 [(0, .ref (xd x a0)), (2, .int x2), (3, .int x3)] [] 0 0 M) (a0 : Nat) (x2 : Int32) (x3 : Int32) (M : Mem) (h : B_Mo_draft_56 k56 post a0 x2 x3 M) : J x 4 56 [(0, .ref (xd x a0)), (2, .int x2), (3, .int x3)] [] 0 0 M := by
  unfold B_Mo_draft_56 at h
  refine J_iload_n C 3 D_Mo_draft_56 rfl rfl ?_
  refine J_sipush (v := 1331) C D_Mo_draft_57 rfl ?_
  refine J_icmp_ge (tgt := 93) C D_Mo_draft_60 (by decide) (fun c_60 => ?_) (fun c_60 => ?_)
  · have h := h.1 c_60
    refine J_iload_n C 2 D_Mo_draft_93 rfl rfl ?_
    refine J_if_ge (tgt := 101) C D_Mo_draft_94 (by decide) (fun c_94 => ?_) (fun c_94 => ?_)
    · have h := h.1 c_94
      refine J_sipush (v := 10000) C D_Mo_draft_101 rfl ?_
      refine J_aload_n C 0 D_Mo_draft_104 rfl rfl ?_
      refine J_iload_n C 2 D_Mo_draft_105 rfl rfl ?_
      refine J_iconst (v := 0) C D_Mo_draft_106 rfl ?_
      obtain ⟨c_107, h⟩ := h
      refine J_callVi C ml_Mo_61 (S_Mo_power _ _ _ _ _ h) (by rw [hR]; decide) rfl c_107 rfl (Nat.le_of_ble_eq_true rfl) D_Mo_draft_107 (fun r107 M107 h => ?_)
      refine J_imul C D_Mo_draft_110 ?_
      refine J_bipush (v := 100) C D_Mo_draft_111 rfl ?_
      refine J_aload_n C 0 D_Mo_draft_113 rfl rfl ?_
      refine J_iload_n C 2 D_Mo_draft_114 rfl rfl ?_
      refine J_iconst (v := 1) C D_Mo_draft_115 rfl ?_
      obtain ⟨c_116, h⟩ := h
      refine J_callVi C ml_Mo_61 (S_Mo_power _ _ _ _ _ h) (by rw [hR]; decide) rfl c_116 rfl (Nat.le_of_ble_eq_true rfl) D_Mo_draft_116 (fun r116 M116 h => ?_)
      refine J_imul C D_Mo_draft_119 ?_
      refine J_iadd C D_Mo_draft_120 ?_
      refine J_aload_n C 0 D_Mo_draft_121 rfl rfl ?_
      refine J_iload_n C 2 D_Mo_draft_122 rfl rfl ?_
      refine J_iconst (v := 2) C D_Mo_draft_123 rfl ?_
      obtain ⟨c_124, h⟩ := h
      refine J_callVi C ml_Mo_61 (S_Mo_power _ _ _ _ _ h) (by rw [hR]; decide) rfl c_124 rfl (Nat.le_of_ble_eq_true rfl) D_Mo_draft_124 (fun r124 M124 h => ?_)
      refine J_iadd C D_Mo_draft_127 ?_
      exact J_sub [] rfl (Z_Mo_draft_128 C hR Rt  _ _ h)
    · have h := h.2 c_94
      refine J_iconst (v := (-1)) C D_Mo_draft_97 rfl ?_
      refine J_goto (tgt := 128) C D_Mo_draft_98 (by decide) ?_
      exact J_sub [] rfl (Z_Mo_draft_128 C hR Rt  _ _ h)
  · have h := h.2 c_60
    refine J_aload_n C 0 D_Mo_draft_63 rfl rfl ?_
    refine J_iconst (v := 0) C D_Mo_draft_64 rfl ?_
    refine J_iload_n C 3 D_Mo_draft_65 rfl rfl ?_
    obtain ⟨c_66, h⟩ := h
    refine J_callVi C ml_Mo_69 (S_Mo_get _ _ _ _ _ h) (by rw [hR]; decide) rfl c_66 rfl (Nat.le_of_ble_eq_true rfl) D_Mo_draft_66 (fun r66 M66 h => ?_)
    refine J_if_eq (tgt := 87) C D_Mo_draft_69 (by decide) (fun c_69 => ?_) (fun c_69 => ?_)
    · have h := h.1 c_69
      exact J_sub [0, 1, 2] rfl (Z_Mo_draft_87 C hR Rt K56 _ _ _ _ h)
    · have h := h.2 c_69
      refine J_iload_n C 2 D_Mo_draft_72 rfl rfl ?_
      refine J_if_lt (tgt := 85) C D_Mo_draft_73 (by decide) (fun c_73 => ?_) (fun c_73 => ?_)
      · have h := h.1 c_73
        exact J_sub [0, 2] rfl (Z_Mo_draft_85 C hR Rt K56 _ _ _ h)
      · have h := h.2 c_73
        refine J_aload_n C 0 D_Mo_draft_76 rfl rfl ?_
        refine J_iload_n C 3 D_Mo_draft_77 rfl rfl ?_
        refine J_iload_n C 2 D_Mo_draft_78 rfl rfl ?_
        obtain ⟨c_79, h⟩ := h
        refine J_callVi C ml_Mo_107 (S_Mo_isGreater _ _ _ _ _ h) (by rw [hR]; decide) rfl c_79 rfl (Nat.le_of_ble_eq_true rfl) D_Mo_draft_79 (fun r79 M79 h => ?_)
        refine J_if_eq (tgt := 87) C D_Mo_draft_82 (by decide) (fun c_82 => ?_) (fun c_82 => ?_)
        · have h := h.1 c_82
          exact J_sub [0, 1, 2] rfl (Z_Mo_draft_87 C hR Rt K56 _ _ _ _ h)
        · have h := h.2 c_82
          exact J_sub [0, 2] rfl (Z_Mo_draft_85 C hR Rt K56 _ _ _ h)
def L_Mo_draft_56 (post : Int32 → Mem → Prop) : Nat → Nat → Int32 → Int32 → Mem → Prop
  | 0, _, _, _, _ => False
  | n + 1, a0, x2, x3, M => B_Mo_draft_56 (L_Mo_draft_56 post n) post a0 x2 x3 M
theorem Y_Mo_draft_56 {x : Ctx} {post : Int32 → Mem → Prop} (C : Ok x b_Mo_draft 4 "HeapTowerModel") (hR : xR x = rm_Mo_draft) (Rt : RetI x .int post 0 0) : ∀ (n : Nat) (a0 : Nat) (x2 : Int32) (x3 : Int32) (M : Mem), L_Mo_draft_56 post n a0 x2 x3 M → J x 4 56 [(0, .ref (xd x a0)), (2, .int x2), (3, .int x3)] [] 0 0 M := by
  intro n
  induction n with
  | zero => intro a0 x2 x3 M h; exact h.elim
  | succ n ih => intro a0 x2 x3 M h; exact Z_Mo_draft_56 C hR Rt ih _ _ _ _ h
def B_Mo_draft_51 (post : Int32 → Mem → Prop) (s0 : Int32) (M : Mem) : Prop := (post s0 M)
set_option maxRecDepth 20000 in
theorem Z_Mo_draft_51 {x : Ctx} {post : Int32 → Mem → Prop} (C : Ok x b_Mo_draft 4 "HeapTowerModel") (hR : xR x = rm_Mo_draft) (Rt : RetI x .int post 0 0) (s0 : Int32) (M : Mem) (h : B_Mo_draft_51 post s0 M) : J x 4 51 [] [.int s0] 0 0 M := by
  unfold B_Mo_draft_51 at h
  exact J_iret C Rt D_Mo_draft_51 rfl h
def T_Mo_draft (a0 : Nat) (x1 : Int32) (M : Mem) (post : Int32 → Mem → Prop) : Prop := (T_Mo_in3 x1 0 3 M (fun r3 M3 => (¬ r3 = 0 → ((¬ x1 = 0 → ((¬ x1 = 1 → ((¬ x1 = 2 → (∃ n, L_Mo_draft_56 post n a0 ((-1)) 0 M3)) ∧ (x1 = 2 → (isK M3 a0 7 ∧ T_Mo_isEven a0 0 M3 (fun r40 M40 => (r40 = 0 → (B_Mo_draft_51 post 0 M40)) ∧ (¬ r40 = 0 → (B_Mo_draft_51 post 1 M40))))))) ∧ (x1 = 1 → (isK M3 a0 7 ∧ T_Mo_degree a0 0 M3 (fun r29 M29 => post r29 M29))))) ∧ (x1 = 0 → (isK M3 a0 7 ∧ T_Mo_products a0 0 M3 (fun r18 M18 => post r18 M18))))) ∧ (r3 = 0 → (post ((-1000000)) M3))))
set_option maxRecDepth 20000 in
theorem S_Mo_draft {l : Launch} {D : va_G} {B t g : Nat} {d : Nat → Nat} {ac : Nat → ClassId}  (a0 : Nat) (x1 : Int32) (M : Mem) (post : Int32 → Mem → Prop) (h : T_Mo_draft a0 x1 M post) : Met l y_Mo_draft w_Mo_draft rm_Mo_draft (va_Pc [.ref (d a0), .int x1] (PRE D B d g t ac M)) (QI D B d g ac post) 0 0 (AB B) := by
  refine met_i (by decide +kernel) (Nat.le_of_ble_eq_true rfl) (fun x h1 hR h3 h4 h5 h6 h7 h8 C Rt => ?_)
  subst h3 h4 h5 h6 h7 h8
  unfold T_Mo_draft at h
  show J x 4 0 [(0, .ref (xd x a0)), (1, .int x1)] [] 0 0 M
  refine J_iload_n C 1 D_Mo_draft_0 rfl rfl ?_
  refine J_iconst (v := 0) C D_Mo_draft_1 rfl ?_
  refine J_iconst (v := 3) C D_Mo_draft_2 rfl ?_
  refine J_callSi C ml_Mo_75 (S_Mo_in3 _ _ _ _ _ h) (by rw [hR]; decide) rfl rfl (Nat.le_of_ble_eq_true rfl) D_Mo_draft_3 (fun r3 M3 h => ?_)
  refine J_if_ne (tgt := 12) C D_Mo_draft_6 (by decide) (fun c_6 => ?_) (fun c_6 => ?_)
  · have h := h.1 c_6
    refine J_iload_n C 1 D_Mo_draft_12 rfl rfl ?_
    refine J_if_ne (tgt := 22) C D_Mo_draft_13 (by decide) (fun c_13 => ?_) (fun c_13 => ?_)
    · have h := h.1 c_13
      refine J_iload_n C 1 D_Mo_draft_22 rfl rfl ?_
      refine J_iconst (v := 1) C D_Mo_draft_23 rfl ?_
      refine J_icmp_ne (tgt := 33) C D_Mo_draft_24 (by decide) (fun c_24 => ?_) (fun c_24 => ?_)
      · have h := h.1 c_24
        refine J_iload_n C 1 D_Mo_draft_33 rfl rfl ?_
        refine J_iconst (v := 2) C D_Mo_draft_34 rfl ?_
        refine J_icmp_ne (tgt := 52) C D_Mo_draft_35 (by decide) (fun c_35 => ?_) (fun c_35 => ?_)
        · have h := h.1 c_35
          refine J_iconst (v := (-1)) C D_Mo_draft_52 rfl ?_
          refine J_istore_n (lv' := [(2, .int ((-1))), (0, .ref (xd x a0)), (1, .int x1)]) C 2 D_Mo_draft_53 rfl (by decide) rfl ?_
          refine J_iconst (v := 0) C D_Mo_draft_54 rfl ?_
          refine J_istore_n (lv' := [(3, .int 0), (2, .int ((-1))), (0, .ref (xd x a0)), (1, .int x1)]) C 3 D_Mo_draft_55 rfl (by decide) rfl ?_
          obtain ⟨n, h⟩ := h
          exact J_sub [2, 1, 0] rfl (Y_Mo_draft_56 C hR Rt  n _ _ _ _ h)
        · have h := h.2 c_35
          refine J_aload_n C 0 D_Mo_draft_38 rfl rfl ?_
          refine J_iconst (v := 0) C D_Mo_draft_39 rfl ?_
          obtain ⟨c_40, h⟩ := h
          refine J_callVi C ml_Mo_104 (S_Mo_isEven _ _ _ _ h) (by rw [hR]; decide) rfl c_40 rfl (Nat.le_of_ble_eq_true rfl) D_Mo_draft_40 (fun r40 M40 h => ?_)
          refine J_if_eq (tgt := 50) C D_Mo_draft_43 (by decide) (fun c_43 => ?_) (fun c_43 => ?_)
          · have h := h.1 c_43
            refine J_iconst (v := 0) C D_Mo_draft_50 rfl ?_
            exact J_sub [] rfl (Z_Mo_draft_51 C hR Rt  _ _ h)
          · have h := h.2 c_43
            refine J_iconst (v := 1) C D_Mo_draft_46 rfl ?_
            refine J_goto (tgt := 51) C D_Mo_draft_47 (by decide) ?_
            exact J_sub [] rfl (Z_Mo_draft_51 C hR Rt  _ _ h)
      · have h := h.2 c_24
        refine J_aload_n C 0 D_Mo_draft_27 rfl rfl ?_
        refine J_iconst (v := 0) C D_Mo_draft_28 rfl ?_
        obtain ⟨c_29, h⟩ := h
        refine J_callVi C ml_Mo_72 (S_Mo_degree _ _ _ _ h) (by rw [hR]; decide) rfl c_29 rfl (Nat.le_of_ble_eq_true rfl) D_Mo_draft_29 (fun r29 M29 h => ?_)
        exact J_iret C Rt D_Mo_draft_32 rfl h
    · have h := h.2 c_13
      refine J_aload_n C 0 D_Mo_draft_16 rfl rfl ?_
      refine J_iconst (v := 0) C D_Mo_draft_17 rfl ?_
      obtain ⟨c_18, h⟩ := h
      refine J_callVi C ml_Mo_101 (S_Mo_products _ _ _ _ h) (by rw [hR]; decide) rfl c_18 rfl (Nat.le_of_ble_eq_true rfl) D_Mo_draft_18 (fun r18 M18 h => ?_)
      exact J_iret C Rt D_Mo_draft_21 rfl h
  · have h := h.2 c_6
    refine J_ldc (v := (-1000000)) C D_Mo_draft_9 kw_Mo_83 ?_
    exact J_iret C Rt D_Mo_draft_11 rfl h
theorem D_Mo_times_0 : decode b_Mo_times 0 = .ok (.aload_n 0, 1) := by decide +kernel
theorem D_Mo_times_1 : decode b_Mo_times 1 = .ok (.iload_n 1, 1) := by decide +kernel
theorem D_Mo_times_2 : decode b_Mo_times 2 = .ok (.iload_n 2, 1) := by decide +kernel
theorem D_Mo_times_3 : decode b_Mo_times 3 = .ok (.iload_n 3, 1) := by decide +kernel
theorem D_Mo_times_4 : decode b_Mo_times 4 = .ok (.invokevirtual 94, 3) := by decide +kernel
theorem D_Mo_times_7 : decode b_Mo_times 7 = .ok (.ifCond .eq 27, 3) := by decide +kernel
theorem D_Mo_times_10 : decode b_Mo_times 10 = .ok (.aload_n 0, 1) := by decide +kernel
theorem D_Mo_times_11 : decode b_Mo_times 11 = .ok (.iconst 0, 1) := by decide +kernel
theorem D_Mo_times_12 : decode b_Mo_times 12 = .ok (.invokevirtual 72, 3) := by decide +kernel
theorem D_Mo_times_15 : decode b_Mo_times 15 = .ok (.iload_n 1, 1) := by decide +kernel
theorem D_Mo_times_16 : decode b_Mo_times 16 = .ok (.iadd, 1) := by decide +kernel
theorem D_Mo_times_17 : decode b_Mo_times 17 = .ok (.iload_n 2, 1) := by decide +kernel
theorem D_Mo_times_18 : decode b_Mo_times 18 = .ok (.iadd, 1) := by decide +kernel
theorem D_Mo_times_19 : decode b_Mo_times 19 = .ok (.iload_n 3, 1) := by decide +kernel
theorem D_Mo_times_20 : decode b_Mo_times 20 = .ok (.iadd, 1) := by decide +kernel
theorem D_Mo_times_21 : decode b_Mo_times 21 = .ok (.bipush 10, 2) := by decide +kernel
theorem D_Mo_times_23 : decode b_Mo_times 23 = .ok (.if_icmp .le 14, 3) := by decide +kernel
theorem D_Mo_times_26 : decode b_Mo_times 26 = .ok (.aload_n 0, 1) := by decide +kernel
theorem D_Mo_times_27 : decode b_Mo_times 27 = .ok (.iconst 0, 1) := by decide +kernel
theorem D_Mo_times_28 : decode b_Mo_times 28 = .ok (.invokevirtual 101, 3) := by decide +kernel
theorem D_Mo_times_31 : decode b_Mo_times 31 = .ok (.ifCond .le 6, 3) := by decide +kernel
theorem D_Mo_times_34 : decode b_Mo_times 34 = .ok (.ldc 83, 2) := by decide +kernel
theorem D_Mo_times_36 : decode b_Mo_times 36 = .ok (.ireturn, 1) := by decide +kernel
theorem D_Mo_times_37 : decode b_Mo_times 37 = .ok (.aload_n 0, 1) := by decide +kernel
theorem D_Mo_times_38 : decode b_Mo_times 38 = .ok (.bipush 19, 2) := by decide +kernel
theorem D_Mo_times_40 : decode b_Mo_times 40 = .ok (.invokevirtual 90, 3) := by decide +kernel
theorem D_Mo_times_43 : decode b_Mo_times 43 = .ok (.iconst 0, 1) := by decide +kernel
theorem D_Mo_times_44 : decode b_Mo_times 44 = .ok (.istore 4, 2) := by decide +kernel
theorem D_Mo_times_46 : decode b_Mo_times 46 = .ok (.iload 4, 2) := by decide +kernel
theorem D_Mo_times_48 : decode b_Mo_times 48 = .ok (.sipush 1331, 3) := by decide +kernel
theorem D_Mo_times_51 : decode b_Mo_times 51 = .ok (.if_icmp .ge 41, 3) := by decide +kernel
theorem D_Mo_times_54 : decode b_Mo_times 54 = .ok (.aload_n 0, 1) := by decide +kernel
theorem D_Mo_times_55 : decode b_Mo_times 55 = .ok (.iconst 0, 1) := by decide +kernel
theorem D_Mo_times_56 : decode b_Mo_times 56 = .ok (.iload 4, 2) := by decide +kernel
theorem D_Mo_times_58 : decode b_Mo_times 58 = .ok (.invokevirtual 69, 3) := by decide +kernel
theorem D_Mo_times_61 : decode b_Mo_times 61 = .ok (.ifCond .eq 25, 3) := by decide +kernel
theorem D_Mo_times_64 : decode b_Mo_times 64 = .ok (.aload_n 0, 1) := by decide +kernel
theorem D_Mo_times_65 : decode b_Mo_times 65 = .ok (.bipush 19, 2) := by decide +kernel
theorem D_Mo_times_67 : decode b_Mo_times 67 = .ok (.iload 4, 2) := by decide +kernel
theorem D_Mo_times_69 : decode b_Mo_times 69 = .ok (.iload_n 1, 1) := by decide +kernel
theorem D_Mo_times_70 : decode b_Mo_times 70 = .ok (.iload_n 2, 1) := by decide +kernel
theorem D_Mo_times_71 : decode b_Mo_times 71 = .ok (.iload_n 3, 1) := by decide +kernel
theorem D_Mo_times_72 : decode b_Mo_times 72 = .ok (.invokestatic 97, 3) := by decide +kernel
theorem D_Mo_times_75 : decode b_Mo_times 75 = .ok (.iadd, 1) := by decide +kernel
theorem D_Mo_times_76 : decode b_Mo_times 76 = .ok (.aload_n 0, 1) := by decide +kernel
theorem D_Mo_times_77 : decode b_Mo_times 77 = .ok (.iconst 0, 1) := by decide +kernel
theorem D_Mo_times_78 : decode b_Mo_times 78 = .ok (.iload 4, 2) := by decide +kernel
theorem D_Mo_times_80 : decode b_Mo_times 80 = .ok (.invokevirtual 69, 3) := by decide +kernel
theorem D_Mo_times_83 : decode b_Mo_times 83 = .ok (.invokevirtual 65, 3) := by decide +kernel
theorem D_Mo_times_86 : decode b_Mo_times 86 = .ok (.iinc 4 1, 3) := by decide +kernel
theorem D_Mo_times_89 : decode b_Mo_times 89 = .ok (.goto (-43), 3) := by decide +kernel
theorem D_Mo_times_92 : decode b_Mo_times 92 = .ok (.aload_n 0, 1) := by decide +kernel
theorem D_Mo_times_93 : decode b_Mo_times 93 = .ok (.bipush 19, 2) := by decide +kernel
theorem D_Mo_times_95 : decode b_Mo_times 95 = .ok (.iconst 0, 1) := by decide +kernel
theorem D_Mo_times_96 : decode b_Mo_times 96 = .ok (.invokevirtual 111, 3) := by decide +kernel
theorem D_Mo_times_99 : decode b_Mo_times 99 = .ok (.aload_n 0, 1) := by decide +kernel
theorem D_Mo_times_100 : decode b_Mo_times 100 = .ok (.iconst 0, 1) := by decide +kernel
theorem D_Mo_times_101 : decode b_Mo_times 101 = .ok (.invokevirtual 101, 3) := by decide +kernel
theorem D_Mo_times_104 : decode b_Mo_times 104 = .ok (.ireturn, 1) := by decide +kernel
abbrev rm_Mo_times : Room := { frames := 2, cells := 0, slots := 0, locals := 46 }
def B_Mo_times_86 (k46 : Nat → Int32 → Int32 → Int32 → Int32 → Mem → Prop) (post : Int32 → Mem → Prop) (a0 : Nat) (x1 : Int32) (x2 : Int32) (x3 : Int32) (x4 : Int32) (M : Mem) : Prop := (k46 a0 x1 x2 x3 (x4 + 1) M)
set_option maxRecDepth 20000 in
theorem Z_Mo_times_86 {x : Ctx} {post : Int32 → Mem → Prop} (C : Ok x b_Mo_times 5 "HeapTowerModel") (hR : xR x = rm_Mo_times) (Rt : RetI x .int post 0 0) {k46 : Nat → Int32 → Int32 → Int32 → Int32 → Mem → Prop} (K46 : ∀ (a0 : Nat) (x1 : Int32) (x2 : Int32) (x3 : Int32) (x4 : Int32) (M : Mem), k46 a0 x1 x2 x3 x4 M → J x 5 46 [(0, .ref (xd x a0)), (1, .int x1), (2, .int x2), (3, .int x3), (4, .int x4)] [] 0 0 M) (a0 : Nat) (x1 : Int32) (x2 : Int32) (x3 : Int32) (x4 : Int32) (M : Mem) (h : B_Mo_times_86 k46 post a0 x1 x2 x3 x4 M) : J x 5 86 [(0, .ref (xd x a0)), (1, .int x1), (2, .int x2), (3, .int x3), (4, .int x4)] [] 0 0 M := by
  unfold B_Mo_times_86 at h
  refine J_iinc (v := x4 + 1) (lv' := [(4, .int (x4 + 1)), (0, .ref (xd x a0)), (1, .int x1), (2, .int x2), (3, .int x3)]) C 4 4 D_Mo_times_86 rfl rfl (by decide) rfl ?_
  refine J_goto (tgt := 46) C D_Mo_times_89 (by decide) ?_
  exact J_sub [1, 2, 3, 4, 0] rfl (K46 _ _ _ _ _ _ h)
def B_Mo_times_46 (k46 : Nat → Int32 → Int32 → Int32 → Int32 → Mem → Prop) (post : Int32 → Mem → Prop) (a0 : Nat) (x1 : Int32) (x2 : Int32) (x3 : Int32) (x4 : Int32) (M : Mem) : Prop := ((1331 ≤ x4 → (isK M a0 7 ∧ T_Mo_move a0 19 0 M (fun M96 => isK M96 a0 7 ∧ T_Mo_products a0 0 M96 (fun r101 M101 => post r101 M101)))) ∧ (¬ 1331 ≤ x4 → (isK M a0 7 ∧ T_Mo_get a0 0 x4 M (fun r58 M58 => (r58 = 0 → (B_Mo_times_86 k46 post a0 x1 x2 x3 x4 M58)) ∧ (¬ r58 = 0 → (T_Mo_powers x1 x2 x3 M58 (fun r72 M72 => isK M72 a0 7 ∧ T_Mo_get a0 0 x4 M72 (fun r80 M80 => isK M80 a0 7 ∧ T_Mo_put a0 19 (x4 + r72) r80 M80 (fun M83 => B_Mo_times_86 k46 post a0 x1 x2 x3 x4 M83)))))))))
set_option maxRecDepth 20000 in
theorem Z_Mo_times_46 {x : Ctx} {post : Int32 → Mem → Prop} (C : Ok x b_Mo_times 5 "HeapTowerModel") (hR : xR x = rm_Mo_times) (Rt : RetI x .int post 0 0) {k46 : Nat → Int32 → Int32 → Int32 → Int32 → Mem → Prop} (K46 : ∀ (a0 : Nat) (x1 : Int32) (x2 : Int32) (x3 : Int32) (x4 : Int32) (M : Mem), k46 a0 x1 x2 x3 x4 M → J x 5 46 [(0, .ref (xd x a0)), (1, .int x1), (2, .int x2), (3, .int x3), (4, .int x4)] [] 0 0 M) (a0 : Nat) (x1 : Int32) (x2 : Int32) (x3 : Int32) (x4 : Int32) (M : Mem) (h : B_Mo_times_46 k46 post a0 x1 x2 x3 x4 M) : J x 5 46 [(0, .ref (xd x a0)), (1, .int x1), (2, .int x2), (3, .int x3), (4, .int x4)] [] 0 0 M := by
  unfold B_Mo_times_46 at h
  refine J_iload C 4 D_Mo_times_46 rfl ?_
  refine J_sipush (v := 1331) C D_Mo_times_48 rfl ?_
  refine J_icmp_ge (tgt := 92) C D_Mo_times_51 (by decide) (fun c_51 => ?_) (fun c_51 => ?_)
  · have h := h.1 c_51
    refine J_aload_n C 0 D_Mo_times_92 rfl rfl ?_
    refine J_bipush (v := 19) C D_Mo_times_93 rfl ?_
    refine J_iconst (v := 0) C D_Mo_times_95 rfl ?_
    obtain ⟨c_96, h⟩ := h
    refine J_callVv C ml_Mo_111 (S_Mo_move _ _ _ _ _ h) (by rw [hR]; decide) rfl c_96 rfl (Nat.le_of_ble_eq_true rfl) D_Mo_times_96 (fun M96 h => ?_)
    refine J_aload_n C 0 D_Mo_times_99 rfl rfl ?_
    refine J_iconst (v := 0) C D_Mo_times_100 rfl ?_
    obtain ⟨c_101, h⟩ := h
    refine J_callVi C ml_Mo_101 (S_Mo_products _ _ _ _ h) (by rw [hR]; decide) rfl c_101 rfl (Nat.le_of_ble_eq_true rfl) D_Mo_times_101 (fun r101 M101 h => ?_)
    exact J_iret C Rt D_Mo_times_104 rfl h
  · have h := h.2 c_51
    refine J_aload_n C 0 D_Mo_times_54 rfl rfl ?_
    refine J_iconst (v := 0) C D_Mo_times_55 rfl ?_
    refine J_iload C 4 D_Mo_times_56 rfl ?_
    obtain ⟨c_58, h⟩ := h
    refine J_callVi C ml_Mo_69 (S_Mo_get _ _ _ _ _ h) (by rw [hR]; decide) rfl c_58 rfl (Nat.le_of_ble_eq_true rfl) D_Mo_times_58 (fun r58 M58 h => ?_)
    refine J_if_eq (tgt := 86) C D_Mo_times_61 (by decide) (fun c_61 => ?_) (fun c_61 => ?_)
    · have h := h.1 c_61
      exact J_sub [0, 1, 2, 3, 4] rfl (Z_Mo_times_86 C hR Rt K46 _ _ _ _ _ _ h)
    · have h := h.2 c_61
      refine J_aload_n C 0 D_Mo_times_64 rfl rfl ?_
      refine J_bipush (v := 19) C D_Mo_times_65 rfl ?_
      refine J_iload C 4 D_Mo_times_67 rfl ?_
      refine J_iload_n C 1 D_Mo_times_69 rfl rfl ?_
      refine J_iload_n C 2 D_Mo_times_70 rfl rfl ?_
      refine J_iload_n C 3 D_Mo_times_71 rfl rfl ?_
      refine J_callSi C ml_Mo_97 (S_Mo_powers _ _ _ _ _ h) (by rw [hR]; decide) rfl rfl (Nat.le_of_ble_eq_true rfl) D_Mo_times_72 (fun r72 M72 h => ?_)
      refine J_iadd C D_Mo_times_75 ?_
      refine J_aload_n C 0 D_Mo_times_76 rfl rfl ?_
      refine J_iconst (v := 0) C D_Mo_times_77 rfl ?_
      refine J_iload C 4 D_Mo_times_78 rfl ?_
      obtain ⟨c_80, h⟩ := h
      refine J_callVi C ml_Mo_69 (S_Mo_get _ _ _ _ _ h) (by rw [hR]; decide) rfl c_80 rfl (Nat.le_of_ble_eq_true rfl) D_Mo_times_80 (fun r80 M80 h => ?_)
      obtain ⟨c_83, h⟩ := h
      refine J_callVv C ml_Mo_65 (S_Mo_put _ _ _ _ _ _ h) (by rw [hR]; decide) rfl c_83 rfl (Nat.le_of_ble_eq_true rfl) D_Mo_times_83 (fun M83 h => ?_)
      exact J_sub [0, 1, 2, 3, 4] rfl (Z_Mo_times_86 C hR Rt K46 _ _ _ _ _ _ h)
def L_Mo_times_46 (post : Int32 → Mem → Prop) : Nat → Nat → Int32 → Int32 → Int32 → Int32 → Mem → Prop
  | 0, _, _, _, _, _, _ => False
  | n + 1, a0, x1, x2, x3, x4, M => B_Mo_times_46 (L_Mo_times_46 post n) post a0 x1 x2 x3 x4 M
theorem Y_Mo_times_46 {x : Ctx} {post : Int32 → Mem → Prop} (C : Ok x b_Mo_times 5 "HeapTowerModel") (hR : xR x = rm_Mo_times) (Rt : RetI x .int post 0 0) : ∀ (n : Nat) (a0 : Nat) (x1 : Int32) (x2 : Int32) (x3 : Int32) (x4 : Int32) (M : Mem), L_Mo_times_46 post n a0 x1 x2 x3 x4 M → J x 5 46 [(0, .ref (xd x a0)), (1, .int x1), (2, .int x2), (3, .int x3), (4, .int x4)] [] 0 0 M := by
  intro n
  induction n with
  | zero => intro a0 x1 x2 x3 x4 M h; exact h.elim
  | succ n ih => intro a0 x1 x2 x3 x4 M h; exact Z_Mo_times_46 C hR Rt ih _ _ _ _ _ _ h
def B_Mo_times_37 (post : Int32 → Mem → Prop) (a0 : Nat) (x1 : Int32) (x2 : Int32) (x3 : Int32) (M : Mem) : Prop := (isK M a0 7 ∧ T_Mo_clear a0 19 M (fun M40 => ∃ n, L_Mo_times_46 post n a0 x1 x2 x3 0 M40))
set_option maxRecDepth 20000 in
theorem Z_Mo_times_37 {x : Ctx} {post : Int32 → Mem → Prop} (C : Ok x b_Mo_times 5 "HeapTowerModel") (hR : xR x = rm_Mo_times) (Rt : RetI x .int post 0 0) (a0 : Nat) (x1 : Int32) (x2 : Int32) (x3 : Int32) (M : Mem) (h : B_Mo_times_37 post a0 x1 x2 x3 M) : J x 5 37 [(0, .ref (xd x a0)), (1, .int x1), (2, .int x2), (3, .int x3)] [] 0 0 M := by
  unfold B_Mo_times_37 at h
  refine J_aload_n C 0 D_Mo_times_37 rfl rfl ?_
  refine J_bipush (v := 19) C D_Mo_times_38 rfl ?_
  obtain ⟨c_40, h⟩ := h
  refine J_callVv C ml_Mo_90 (S_Mo_clear _ _ _ _ h) (by rw [hR]; decide) rfl c_40 rfl (Nat.le_of_ble_eq_true rfl) D_Mo_times_40 (fun M40 h => ?_)
  refine J_iconst (v := 0) C D_Mo_times_43 rfl ?_
  refine J_istore (lv' := [(4, .int 0), (0, .ref (xd x a0)), (1, .int x1), (2, .int x2), (3, .int x3)]) C 4 D_Mo_times_44 (by decide) rfl ?_
  obtain ⟨n, h⟩ := h
  exact J_sub [1, 2, 3, 4, 0] rfl (Y_Mo_times_46 C hR Rt  n _ _ _ _ _ _ h)
def B_Mo_times_34 (post : Int32 → Mem → Prop) (M : Mem) : Prop := (post ((-1000000)) M)
set_option maxRecDepth 20000 in
theorem Z_Mo_times_34 {x : Ctx} {post : Int32 → Mem → Prop} (C : Ok x b_Mo_times 5 "HeapTowerModel") (hR : xR x = rm_Mo_times) (Rt : RetI x .int post 0 0) (M : Mem) (h : B_Mo_times_34 post M) : J x 5 34 [] [] 0 0 M := by
  unfold B_Mo_times_34 at h
  refine J_ldc (v := (-1000000)) C D_Mo_times_34 kw_Mo_83 ?_
  exact J_iret C Rt D_Mo_times_36 rfl h
def T_Mo_times (a0 : Nat) (x1 : Int32) (x2 : Int32) (x3 : Int32) (M : Mem) (post : Int32 → Mem → Prop) : Prop := (isK M a0 7 ∧ T_Mo_isProduct a0 x1 x2 x3 M (fun r4 M4 => (r4 = 0 → (B_Mo_times_34 post M4)) ∧ (¬ r4 = 0 → (isK M4 a0 7 ∧ T_Mo_degree a0 0 M4 (fun r12 M12 => ((((r12 + x1) + x2) + x3) ≤ 10 → (B_Mo_times_37 post a0 x1 x2 x3 M12)) ∧ (¬ (((r12 + x1) + x2) + x3) ≤ 10 → (isK M12 a0 7 ∧ T_Mo_products a0 0 M12 (fun r28 M28 => (r28 ≤ 0 → (B_Mo_times_37 post a0 x1 x2 x3 M28)) ∧ (¬ r28 ≤ 0 → (B_Mo_times_34 post M28))))))))))
set_option maxRecDepth 20000 in
theorem S_Mo_times {l : Launch} {D : va_G} {B t g : Nat} {d : Nat → Nat} {ac : Nat → ClassId}  (a0 : Nat) (x1 : Int32) (x2 : Int32) (x3 : Int32) (M : Mem) (post : Int32 → Mem → Prop) (h : T_Mo_times a0 x1 x2 x3 M post) : Met l y_Mo_times w_Mo_times rm_Mo_times (va_Pc [.ref (d a0), .int x1, .int x2, .int x3] (PRE D B d g t ac M)) (QI D B d g ac post) 0 0 (AB B) := by
  refine met_i (by decide +kernel) (Nat.le_of_ble_eq_true rfl) (fun x h1 hR h3 h4 h5 h6 h7 h8 C Rt => ?_)
  subst h3 h4 h5 h6 h7 h8
  unfold T_Mo_times at h
  show J x 5 0 [(0, .ref (xd x a0)), (1, .int x1), (2, .int x2), (3, .int x3)] [] 0 0 M
  refine J_aload_n C 0 D_Mo_times_0 rfl rfl ?_
  refine J_iload_n C 1 D_Mo_times_1 rfl rfl ?_
  refine J_iload_n C 2 D_Mo_times_2 rfl rfl ?_
  refine J_iload_n C 3 D_Mo_times_3 rfl rfl ?_
  obtain ⟨c_4, h⟩ := h
  refine J_callVi C ml_Mo_94 (S_Mo_isProduct _ _ _ _ _ _ h) (by rw [hR]; decide) rfl c_4 rfl (Nat.le_of_ble_eq_true rfl) D_Mo_times_4 (fun r4 M4 h => ?_)
  refine J_if_eq (tgt := 34) C D_Mo_times_7 (by decide) (fun c_7 => ?_) (fun c_7 => ?_)
  · have h := h.1 c_7
    exact J_sub [] rfl (Z_Mo_times_34 C hR Rt  _ h)
  · have h := h.2 c_7
    refine J_aload_n C 0 D_Mo_times_10 rfl rfl ?_
    refine J_iconst (v := 0) C D_Mo_times_11 rfl ?_
    obtain ⟨c_12, h⟩ := h
    refine J_callVi C ml_Mo_72 (S_Mo_degree _ _ _ _ h) (by rw [hR]; decide) rfl c_12 rfl (Nat.le_of_ble_eq_true rfl) D_Mo_times_12 (fun r12 M12 h => ?_)
    refine J_iload_n C 1 D_Mo_times_15 rfl rfl ?_
    refine J_iadd C D_Mo_times_16 ?_
    refine J_iload_n C 2 D_Mo_times_17 rfl rfl ?_
    refine J_iadd C D_Mo_times_18 ?_
    refine J_iload_n C 3 D_Mo_times_19 rfl rfl ?_
    refine J_iadd C D_Mo_times_20 ?_
    refine J_bipush (v := 10) C D_Mo_times_21 rfl ?_
    refine J_icmp_le (tgt := 37) C D_Mo_times_23 (by decide) (fun c_23 => ?_) (fun c_23 => ?_)
    · have h := h.1 c_23
      exact J_sub [0, 1, 2, 3] rfl (Z_Mo_times_37 C hR Rt  _ _ _ _ _ h)
    · have h := h.2 c_23
      refine J_aload_n C 0 D_Mo_times_26 rfl rfl ?_
      refine J_iconst (v := 0) C D_Mo_times_27 rfl ?_
      obtain ⟨c_28, h⟩ := h
      refine J_callVi C ml_Mo_101 (S_Mo_products _ _ _ _ h) (by rw [hR]; decide) rfl c_28 rfl (Nat.le_of_ble_eq_true rfl) D_Mo_times_28 (fun r28 M28 h => ?_)
      refine J_if_le (tgt := 37) C D_Mo_times_31 (by decide) (fun c_31 => ?_) (fun c_31 => ?_)
      · have h := h.1 c_31
        exact J_sub [0, 1, 2, 3] rfl (Z_Mo_times_37 C hR Rt  _ _ _ _ _ h)
      · have h := h.2 c_31
        exact J_sub [] rfl (Z_Mo_times_34 C hR Rt  _ h)
theorem D_Mo_row_0 : decode b_Mo_row 0 = .ok (.aload_n 0, 1) := by decide +kernel
theorem D_Mo_row_1 : decode b_Mo_row 1 = .ok (.iconst 0, 1) := by decide +kernel
theorem D_Mo_row_2 : decode b_Mo_row 2 = .ok (.invokevirtual 72, 3) := by decide +kernel
theorem D_Mo_row_5 : decode b_Mo_row 5 = .ok (.istore_n 1, 1) := by decide +kernel
theorem D_Mo_row_6 : decode b_Mo_row 6 = .ok (.aload_n 0, 1) := by decide +kernel
theorem D_Mo_row_7 : decode b_Mo_row 7 = .ok (.iconst 0, 1) := by decide +kernel
theorem D_Mo_row_8 : decode b_Mo_row 8 = .ok (.invokevirtual 104, 3) := by decide +kernel
theorem D_Mo_row_11 : decode b_Mo_row 11 = .ok (.ifCond .eq 21, 3) := by decide +kernel
theorem D_Mo_row_14 : decode b_Mo_row 14 = .ok (.iload_n 1, 1) := by decide +kernel
theorem D_Mo_row_15 : decode b_Mo_row 15 = .ok (.iconst 1, 1) := by decide +kernel
theorem D_Mo_row_16 : decode b_Mo_row 16 = .ok (.iconst 5, 1) := by decide +kernel
theorem D_Mo_row_17 : decode b_Mo_row 17 = .ok (.invokestatic 75, 3) := by decide +kernel
theorem D_Mo_row_20 : decode b_Mo_row 20 = .ok (.ifCond .eq 12, 3) := by decide +kernel
theorem D_Mo_row_23 : decode b_Mo_row 23 = .ok (.aload_n 0, 1) := by decide +kernel
theorem D_Mo_row_24 : decode b_Mo_row 24 = .ok (.getfield 84, 3) := by decide +kernel
theorem D_Mo_row_27 : decode b_Mo_row 27 = .ok (.bipush 6, 2) := by decide +kernel
theorem D_Mo_row_29 : decode b_Mo_row 29 = .ok (.if_icmp .ne 6, 3) := by decide +kernel
theorem D_Mo_row_32 : decode b_Mo_row 32 = .ok (.ldc 83, 2) := by decide +kernel
theorem D_Mo_row_34 : decode b_Mo_row 34 = .ok (.ireturn, 1) := by decide +kernel
theorem D_Mo_row_35 : decode b_Mo_row 35 = .ok (.aload_n 0, 1) := by decide +kernel
theorem D_Mo_row_36 : decode b_Mo_row 36 = .ok (.iconst 0, 1) := by decide +kernel
theorem D_Mo_row_37 : decode b_Mo_row 37 = .ok (.iconst 1, 1) := by decide +kernel
theorem D_Mo_row_38 : decode b_Mo_row 38 = .ok (.aload_n 0, 1) := by decide +kernel
theorem D_Mo_row_39 : decode b_Mo_row 39 = .ok (.getfield 84, 3) := by decide +kernel
theorem D_Mo_row_42 : decode b_Mo_row 42 = .ok (.iadd, 1) := by decide +kernel
theorem D_Mo_row_43 : decode b_Mo_row 43 = .ok (.invokevirtual 111, 3) := by decide +kernel
theorem D_Mo_row_46 : decode b_Mo_row 46 = .ok (.aload_n 0, 1) := by decide +kernel
theorem D_Mo_row_47 : decode b_Mo_row 47 = .ok (.bipush 7, 2) := by decide +kernel
theorem D_Mo_row_49 : decode b_Mo_row 49 = .ok (.aload_n 0, 1) := by decide +kernel
theorem D_Mo_row_50 : decode b_Mo_row 50 = .ok (.getfield 84, 3) := by decide +kernel
theorem D_Mo_row_53 : decode b_Mo_row 53 = .ok (.iadd, 1) := by decide +kernel
theorem D_Mo_row_54 : decode b_Mo_row 54 = .ok (.invokevirtual 90, 3) := by decide +kernel
theorem D_Mo_row_57 : decode b_Mo_row 57 = .ok (.aload_n 0, 1) := by decide +kernel
theorem D_Mo_row_58 : decode b_Mo_row 58 = .ok (.iconst 0, 1) := by decide +kernel
theorem D_Mo_row_59 : decode b_Mo_row 59 = .ok (.invokevirtual 90, 3) := by decide +kernel
theorem D_Mo_row_62 : decode b_Mo_row 62 = .ok (.aload_n 0, 1) := by decide +kernel
theorem D_Mo_row_63 : decode b_Mo_row 63 = .ok (.dup, 1) := by decide +kernel
theorem D_Mo_row_64 : decode b_Mo_row 64 = .ok (.getfield 84, 3) := by decide +kernel
theorem D_Mo_row_67 : decode b_Mo_row 67 = .ok (.iconst 1, 1) := by decide +kernel
theorem D_Mo_row_68 : decode b_Mo_row 68 = .ok (.iadd, 1) := by decide +kernel
theorem D_Mo_row_69 : decode b_Mo_row 69 = .ok (.putfield 84, 3) := by decide +kernel
theorem D_Mo_row_72 : decode b_Mo_row 72 = .ok (.aload_n 0, 1) := by decide +kernel
theorem D_Mo_row_73 : decode b_Mo_row 73 = .ok (.getfield 84, 3) := by decide +kernel
theorem D_Mo_row_76 : decode b_Mo_row 76 = .ok (.iconst 1, 1) := by decide +kernel
theorem D_Mo_row_77 : decode b_Mo_row 77 = .ok (.isub, 1) := by decide +kernel
theorem D_Mo_row_78 : decode b_Mo_row 78 = .ok (.ireturn, 1) := by decide +kernel
abbrev rm_Mo_row : Room := { frames := 3, cells := 0, slots := 0, locals := 68 }
def B_Mo_row_32 (post : Int32 → Mem → Prop) (M : Mem) : Prop := (post ((-1000000)) M)
set_option maxRecDepth 20000 in
theorem Z_Mo_row_32 {x : Ctx} {post : Int32 → Mem → Prop} (C : Ok x b_Mo_row 2 "HeapTowerModel") (hR : xR x = rm_Mo_row) (Rt : RetI x .int post 0 0) (M : Mem) (h : B_Mo_row_32 post M) : J x 2 32 [] [] 0 0 M := by
  unfold B_Mo_row_32 at h
  refine J_ldc (v := (-1000000)) C D_Mo_row_32 kw_Mo_83 ?_
  exact J_iret C Rt D_Mo_row_34 rfl h
def T_Mo_row (a0 : Nat) (M : Mem) (post : Int32 → Mem → Prop) : Prop := (isK M a0 7 ∧ T_Mo_degree a0 0 M (fun r2 M2 => isK M2 a0 7 ∧ T_Mo_isEven a0 0 M2 (fun r8 M8 => (r8 = 0 → (B_Mo_row_32 post M8)) ∧ (¬ r8 = 0 → (T_Mo_in3 r2 1 5 M8 (fun r17 M17 => (r17 = 0 → (B_Mo_row_32 post M17)) ∧ (¬ r17 = 0 → (isK M17 a0 7 ∧ (¬ (gI M17 a0 4) = 6 → (isK M17 a0 7 ∧ isK M17 a0 7 ∧ T_Mo_move a0 0 (1 + (gI M17 a0 4)) M17 (fun M43 => isK M43 a0 7 ∧ isK M43 a0 7 ∧ T_Mo_clear a0 (7 + (gI M43 a0 4)) M43 (fun M54 => isK M54 a0 7 ∧ T_Mo_clear a0 0 M54 (fun M59 => isK M59 a0 7 ∧ isK M59 a0 7 ∧ isK (sI M59 a0 4 ((gI M59 a0 4) + 1)) a0 7 ∧ post ((gI (sI M59 a0 4 ((gI M59 a0 4) + 1)) a0 4) - 1) (sI M59 a0 4 ((gI M59 a0 4) + 1))))))) ∧ ((gI M17 a0 4) = 6 → (B_Mo_row_32 post M17))))))))))
set_option maxRecDepth 20000 in
theorem S_Mo_row {l : Launch} {D : va_G} {B t g : Nat} {d : Nat → Nat} {ac : Nat → ClassId}  (a0 : Nat) (M : Mem) (post : Int32 → Mem → Prop) (h : T_Mo_row a0 M post) : Met l y_Mo_row w_Mo_row rm_Mo_row (va_Pc [.ref (d a0)] (PRE D B d g t ac M)) (QI D B d g ac post) 0 0 (AB B) := by
  refine met_i (by decide +kernel) (Nat.le_of_ble_eq_true rfl) (fun x h1 hR h3 h4 h5 h6 h7 h8 C Rt => ?_)
  subst h3 h4 h5 h6 h7 h8
  unfold T_Mo_row at h
  show J x 2 0 [(0, .ref (xd x a0))] [] 0 0 M
  refine J_aload_n C 0 D_Mo_row_0 rfl rfl ?_
  refine J_iconst (v := 0) C D_Mo_row_1 rfl ?_
  obtain ⟨c_2, h⟩ := h
  refine J_callVi C ml_Mo_72 (S_Mo_degree _ _ _ _ h) (by rw [hR]; decide) rfl c_2 rfl (Nat.le_of_ble_eq_true rfl) D_Mo_row_2 (fun r2 M2 h => ?_)
  refine J_istore_n (lv' := [(1, .int r2), (0, .ref (xd x a0))]) C 1 D_Mo_row_5 rfl (by decide) rfl ?_
  refine J_aload_n C 0 D_Mo_row_6 rfl rfl ?_
  refine J_iconst (v := 0) C D_Mo_row_7 rfl ?_
  obtain ⟨c_8, h⟩ := h
  refine J_callVi C ml_Mo_104 (S_Mo_isEven _ _ _ _ h) (by rw [hR]; decide) rfl c_8 rfl (Nat.le_of_ble_eq_true rfl) D_Mo_row_8 (fun r8 M8 h => ?_)
  refine J_if_eq (tgt := 32) C D_Mo_row_11 (by decide) (fun c_11 => ?_) (fun c_11 => ?_)
  · have h := h.1 c_11
    exact J_sub [] rfl (Z_Mo_row_32 C hR Rt  _ h)
  · have h := h.2 c_11
    refine J_iload_n C 1 D_Mo_row_14 rfl rfl ?_
    refine J_iconst (v := 1) C D_Mo_row_15 rfl ?_
    refine J_iconst (v := 5) C D_Mo_row_16 rfl ?_
    refine J_callSi C ml_Mo_75 (S_Mo_in3 _ _ _ _ _ h) (by rw [hR]; decide) rfl rfl (Nat.le_of_ble_eq_true rfl) D_Mo_row_17 (fun r17 M17 h => ?_)
    refine J_if_eq (tgt := 32) C D_Mo_row_20 (by decide) (fun c_20 => ?_) (fun c_20 => ?_)
    · have h := h.1 c_20
      exact J_sub [] rfl (Z_Mo_row_32 C hR Rt  _ h)
    · have h := h.2 c_20
      refine J_aload_n C 0 D_Mo_row_23 rfl rfl ?_
      obtain ⟨c_24, h⟩ := h
      refine J_getI C fl_Mo_84 D_Mo_row_24 c_24 ?_
      refine J_bipush (v := 6) C D_Mo_row_27 rfl ?_
      refine J_icmp_ne (tgt := 35) C D_Mo_row_29 (by decide) (fun c_29 => ?_) (fun c_29 => ?_)
      · have h := h.1 c_29
        refine J_aload_n C 0 D_Mo_row_35 rfl rfl ?_
        refine J_iconst (v := 0) C D_Mo_row_36 rfl ?_
        refine J_iconst (v := 1) C D_Mo_row_37 rfl ?_
        refine J_aload_n C 0 D_Mo_row_38 rfl rfl ?_
        obtain ⟨c_39, h⟩ := h
        refine J_getI C fl_Mo_84 D_Mo_row_39 c_39 ?_
        refine J_iadd C D_Mo_row_42 ?_
        obtain ⟨c_43, h⟩ := h
        refine J_callVv C ml_Mo_111 (S_Mo_move _ _ _ _ _ h) (by rw [hR]; decide) rfl c_43 rfl (Nat.le_of_ble_eq_true rfl) D_Mo_row_43 (fun M43 h => ?_)
        refine J_aload_n C 0 D_Mo_row_46 rfl rfl ?_
        refine J_bipush (v := 7) C D_Mo_row_47 rfl ?_
        refine J_aload_n C 0 D_Mo_row_49 rfl rfl ?_
        obtain ⟨c_50, h⟩ := h
        refine J_getI C fl_Mo_84 D_Mo_row_50 c_50 ?_
        refine J_iadd C D_Mo_row_53 ?_
        obtain ⟨c_54, h⟩ := h
        refine J_callVv C ml_Mo_90 (S_Mo_clear _ _ _ _ h) (by rw [hR]; decide) rfl c_54 rfl (Nat.le_of_ble_eq_true rfl) D_Mo_row_54 (fun M54 h => ?_)
        refine J_aload_n C 0 D_Mo_row_57 rfl rfl ?_
        refine J_iconst (v := 0) C D_Mo_row_58 rfl ?_
        obtain ⟨c_59, h⟩ := h
        refine J_callVv C ml_Mo_90 (S_Mo_clear _ _ _ _ h) (by rw [hR]; decide) rfl c_59 rfl (Nat.le_of_ble_eq_true rfl) D_Mo_row_59 (fun M59 h => ?_)
        refine J_aload_n C 0 D_Mo_row_62 rfl rfl ?_
        refine J_dup C D_Mo_row_63 rfl ?_
        obtain ⟨c_64, h⟩ := h
        refine J_getI C fl_Mo_84 D_Mo_row_64 c_64 ?_
        refine J_iconst (v := 1) C D_Mo_row_67 rfl ?_
        refine J_iadd C D_Mo_row_68 ?_
        obtain ⟨c_69, h⟩ := h
        refine J_putI C fl_Mo_84 D_Mo_row_69 c_69 ?_
        refine J_aload_n C 0 D_Mo_row_72 rfl rfl ?_
        obtain ⟨c_73, h⟩ := h
        refine J_getI C fl_Mo_84 D_Mo_row_73 c_73 ?_
        refine J_iconst (v := 1) C D_Mo_row_76 rfl ?_
        refine J_isub C D_Mo_row_77 ?_
        exact J_iret C Rt D_Mo_row_78 rfl h
      · have h := h.2 c_29
        exact J_sub [] rfl (Z_Mo_row_32 C hR Rt  _ h)
theorem D_Mo_drop_0 : decode b_Mo_drop 0 = .ok (.aload_n 0, 1) := by decide +kernel
theorem D_Mo_drop_1 : decode b_Mo_drop 1 = .ok (.getfield 84, 3) := by decide +kernel
theorem D_Mo_drop_4 : decode b_Mo_drop 4 = .ok (.ifCond .ne 6, 3) := by decide +kernel
theorem D_Mo_drop_7 : decode b_Mo_drop 7 = .ok (.ldc 83, 2) := by decide +kernel
theorem D_Mo_drop_9 : decode b_Mo_drop 9 = .ok (.ireturn, 1) := by decide +kernel
theorem D_Mo_drop_10 : decode b_Mo_drop 10 = .ok (.aload_n 0, 1) := by decide +kernel
theorem D_Mo_drop_11 : decode b_Mo_drop 11 = .ok (.dup, 1) := by decide +kernel
theorem D_Mo_drop_12 : decode b_Mo_drop 12 = .ok (.getfield 84, 3) := by decide +kernel
theorem D_Mo_drop_15 : decode b_Mo_drop 15 = .ok (.iconst 1, 1) := by decide +kernel
theorem D_Mo_drop_16 : decode b_Mo_drop 16 = .ok (.isub, 1) := by decide +kernel
theorem D_Mo_drop_17 : decode b_Mo_drop 17 = .ok (.putfield 84, 3) := by decide +kernel
theorem D_Mo_drop_20 : decode b_Mo_drop 20 = .ok (.aload_n 0, 1) := by decide +kernel
theorem D_Mo_drop_21 : decode b_Mo_drop 21 = .ok (.getfield 84, 3) := by decide +kernel
theorem D_Mo_drop_24 : decode b_Mo_drop 24 = .ok (.ireturn, 1) := by decide +kernel
abbrev rm_Mo_drop : Room := { frames := 0, cells := 0, slots := 0, locals := 0 }
def T_Mo_drop (a0 : Nat) (M : Mem) (post : Int32 → Mem → Prop) : Prop := (isK M a0 7 ∧ (¬ (gI M a0 4) = 0 → (isK M a0 7 ∧ isK M a0 7 ∧ isK (sI M a0 4 ((gI M a0 4) - 1)) a0 7 ∧ post (gI (sI M a0 4 ((gI M a0 4) - 1)) a0 4) (sI M a0 4 ((gI M a0 4) - 1)))) ∧ ((gI M a0 4) = 0 → (post ((-1000000)) M)))
set_option maxRecDepth 20000 in
theorem S_Mo_drop {l : Launch} {D : va_G} {B t g : Nat} {d : Nat → Nat} {ac : Nat → ClassId}  (a0 : Nat) (M : Mem) (post : Int32 → Mem → Prop) (h : T_Mo_drop a0 M post) : Met l y_Mo_drop w_Mo_drop rm_Mo_drop (va_Pc [.ref (d a0)] (PRE D B d g t ac M)) (QI D B d g ac post) 0 0 (AB B) := by
  refine met_i (by decide +kernel) (Nat.le_of_ble_eq_true rfl) (fun x h1 hR h3 h4 h5 h6 h7 h8 C Rt => ?_)
  subst h3 h4 h5 h6 h7 h8
  unfold T_Mo_drop at h
  show J x 1 0 [(0, .ref (xd x a0))] [] 0 0 M
  refine J_aload_n C 0 D_Mo_drop_0 rfl rfl ?_
  obtain ⟨c_1, h⟩ := h
  refine J_getI C fl_Mo_84 D_Mo_drop_1 c_1 ?_
  refine J_if_ne (tgt := 10) C D_Mo_drop_4 (by decide) (fun c_4 => ?_) (fun c_4 => ?_)
  · have h := h.1 c_4
    refine J_aload_n C 0 D_Mo_drop_10 rfl rfl ?_
    refine J_dup C D_Mo_drop_11 rfl ?_
    obtain ⟨c_12, h⟩ := h
    refine J_getI C fl_Mo_84 D_Mo_drop_12 c_12 ?_
    refine J_iconst (v := 1) C D_Mo_drop_15 rfl ?_
    refine J_isub C D_Mo_drop_16 ?_
    obtain ⟨c_17, h⟩ := h
    refine J_putI C fl_Mo_84 D_Mo_drop_17 c_17 ?_
    refine J_aload_n C 0 D_Mo_drop_20 rfl rfl ?_
    obtain ⟨c_21, h⟩ := h
    refine J_getI C fl_Mo_84 D_Mo_drop_21 c_21 ?_
    exact J_iret C Rt D_Mo_drop_24 rfl h
  · have h := h.2 c_4
    refine J_ldc (v := (-1000000)) C D_Mo_drop_7 kw_Mo_83 ?_
    exact J_iret C Rt D_Mo_drop_9 rfl h
theorem D_Mo_copy_0 : decode b_Mo_copy 0 = .ok (.iload_n 1, 1) := by decide +kernel
theorem D_Mo_copy_1 : decode b_Mo_copy 1 = .ok (.iconst 0, 1) := by decide +kernel
theorem D_Mo_copy_2 : decode b_Mo_copy 2 = .ok (.aload_n 0, 1) := by decide +kernel
theorem D_Mo_copy_3 : decode b_Mo_copy 3 = .ok (.getfield 84, 3) := by decide +kernel
theorem D_Mo_copy_6 : decode b_Mo_copy 6 = .ok (.iconst 1, 1) := by decide +kernel
theorem D_Mo_copy_7 : decode b_Mo_copy 7 = .ok (.isub, 1) := by decide +kernel
theorem D_Mo_copy_8 : decode b_Mo_copy 8 = .ok (.invokestatic 75, 3) := by decide +kernel
theorem D_Mo_copy_11 : decode b_Mo_copy 11 = .ok (.ifCond .ne 6, 3) := by decide +kernel
theorem D_Mo_copy_14 : decode b_Mo_copy 14 = .ok (.ldc 83, 2) := by decide +kernel
theorem D_Mo_copy_16 : decode b_Mo_copy 16 = .ok (.ireturn, 1) := by decide +kernel
theorem D_Mo_copy_17 : decode b_Mo_copy 17 = .ok (.aload_n 0, 1) := by decide +kernel
theorem D_Mo_copy_18 : decode b_Mo_copy 18 = .ok (.iconst 1, 1) := by decide +kernel
theorem D_Mo_copy_19 : decode b_Mo_copy 19 = .ok (.iload_n 1, 1) := by decide +kernel
theorem D_Mo_copy_20 : decode b_Mo_copy 20 = .ok (.iadd, 1) := by decide +kernel
theorem D_Mo_copy_21 : decode b_Mo_copy 21 = .ok (.iconst 0, 1) := by decide +kernel
theorem D_Mo_copy_22 : decode b_Mo_copy 22 = .ok (.invokevirtual 111, 3) := by decide +kernel
theorem D_Mo_copy_25 : decode b_Mo_copy 25 = .ok (.aload_n 0, 1) := by decide +kernel
theorem D_Mo_copy_26 : decode b_Mo_copy 26 = .ok (.iconst 0, 1) := by decide +kernel
theorem D_Mo_copy_27 : decode b_Mo_copy 27 = .ok (.invokevirtual 101, 3) := by decide +kernel
theorem D_Mo_copy_30 : decode b_Mo_copy 30 = .ok (.ireturn, 1) := by decide +kernel
abbrev rm_Mo_copy : Room := { frames := 2, cells := 0, slots := 0, locals := 46 }
def T_Mo_copy (a0 : Nat) (x1 : Int32) (M : Mem) (post : Int32 → Mem → Prop) : Prop := (isK M a0 7 ∧ T_Mo_in3 x1 0 ((gI M a0 4) - 1) M (fun r8 M8 => (¬ r8 = 0 → (isK M8 a0 7 ∧ T_Mo_move a0 (1 + x1) 0 M8 (fun M22 => isK M22 a0 7 ∧ T_Mo_products a0 0 M22 (fun r27 M27 => post r27 M27)))) ∧ (r8 = 0 → (post ((-1000000)) M8))))
set_option maxRecDepth 20000 in
theorem S_Mo_copy {l : Launch} {D : va_G} {B t g : Nat} {d : Nat → Nat} {ac : Nat → ClassId}  (a0 : Nat) (x1 : Int32) (M : Mem) (post : Int32 → Mem → Prop) (h : T_Mo_copy a0 x1 M post) : Met l y_Mo_copy w_Mo_copy rm_Mo_copy (va_Pc [.ref (d a0), .int x1] (PRE D B d g t ac M)) (QI D B d g ac post) 0 0 (AB B) := by
  refine met_i (by decide +kernel) (Nat.le_of_ble_eq_true rfl) (fun x h1 hR h3 h4 h5 h6 h7 h8 C Rt => ?_)
  subst h3 h4 h5 h6 h7 h8
  unfold T_Mo_copy at h
  show J x 2 0 [(0, .ref (xd x a0)), (1, .int x1)] [] 0 0 M
  refine J_iload_n C 1 D_Mo_copy_0 rfl rfl ?_
  refine J_iconst (v := 0) C D_Mo_copy_1 rfl ?_
  refine J_aload_n C 0 D_Mo_copy_2 rfl rfl ?_
  obtain ⟨c_3, h⟩ := h
  refine J_getI C fl_Mo_84 D_Mo_copy_3 c_3 ?_
  refine J_iconst (v := 1) C D_Mo_copy_6 rfl ?_
  refine J_isub C D_Mo_copy_7 ?_
  refine J_callSi C ml_Mo_75 (S_Mo_in3 _ _ _ _ _ h) (by rw [hR]; decide) rfl rfl (Nat.le_of_ble_eq_true rfl) D_Mo_copy_8 (fun r8 M8 h => ?_)
  refine J_if_ne (tgt := 17) C D_Mo_copy_11 (by decide) (fun c_11 => ?_) (fun c_11 => ?_)
  · have h := h.1 c_11
    refine J_aload_n C 0 D_Mo_copy_17 rfl rfl ?_
    refine J_iconst (v := 1) C D_Mo_copy_18 rfl ?_
    refine J_iload_n C 1 D_Mo_copy_19 rfl rfl ?_
    refine J_iadd C D_Mo_copy_20 ?_
    refine J_iconst (v := 0) C D_Mo_copy_21 rfl ?_
    obtain ⟨c_22, h⟩ := h
    refine J_callVv C ml_Mo_111 (S_Mo_move _ _ _ _ _ h) (by rw [hR]; decide) rfl c_22 rfl (Nat.le_of_ble_eq_true rfl) D_Mo_copy_22 (fun M22 h => ?_)
    refine J_aload_n C 0 D_Mo_copy_25 rfl rfl ?_
    refine J_iconst (v := 0) C D_Mo_copy_26 rfl ?_
    obtain ⟨c_27, h⟩ := h
    refine J_callVi C ml_Mo_101 (S_Mo_products _ _ _ _ h) (by rw [hR]; decide) rfl c_27 rfl (Nat.le_of_ble_eq_true rfl) D_Mo_copy_27 (fun r27 M27 h => ?_)
    exact J_iret C Rt D_Mo_copy_30 rfl h
  · have h := h.2 c_11
    refine J_ldc (v := (-1000000)) C D_Mo_copy_14 kw_Mo_83 ?_
    exact J_iret C Rt D_Mo_copy_16 rfl h
theorem D_Mo_take_0 : decode b_Mo_take 0 = .ok (.aload_n 0, 1) := by decide +kernel
theorem D_Mo_take_1 : decode b_Mo_take 1 = .ok (.iconst 0, 1) := by decide +kernel
theorem D_Mo_take_2 : decode b_Mo_take 2 = .ok (.putfield 115, 3) := by decide +kernel
theorem D_Mo_take_5 : decode b_Mo_take 5 = .ok (.iload_n 1, 1) := by decide +kernel
theorem D_Mo_take_6 : decode b_Mo_take 6 = .ok (.istore_n 2, 1) := by decide +kernel
theorem D_Mo_take_7 : decode b_Mo_take 7 = .ok (.iload_n 2, 1) := by decide +kernel
theorem D_Mo_take_8 : decode b_Mo_take 8 = .ok (.ifCond .lt 123, 3) := by decide +kernel
theorem D_Mo_take_11 : decode b_Mo_take 11 = .ok (.iload_n 1, 1) := by decide +kernel
theorem D_Mo_take_12 : decode b_Mo_take 12 = .ok (.iload_n 2, 1) := by decide +kernel
theorem D_Mo_take_13 : decode b_Mo_take 13 = .ok (.isub, 1) := by decide +kernel
theorem D_Mo_take_14 : decode b_Mo_take 14 = .ok (.istore_n 3, 1) := by decide +kernel
theorem D_Mo_take_15 : decode b_Mo_take 15 = .ok (.iload_n 3, 1) := by decide +kernel
theorem D_Mo_take_16 : decode b_Mo_take 16 = .ok (.ifCond .lt 109, 3) := by decide +kernel
theorem D_Mo_take_19 : decode b_Mo_take 19 = .ok (.iload_n 1, 1) := by decide +kernel
theorem D_Mo_take_20 : decode b_Mo_take 20 = .ok (.iload_n 2, 1) := by decide +kernel
theorem D_Mo_take_21 : decode b_Mo_take 21 = .ok (.isub, 1) := by decide +kernel
theorem D_Mo_take_22 : decode b_Mo_take 22 = .ok (.iload_n 3, 1) := by decide +kernel
theorem D_Mo_take_23 : decode b_Mo_take 23 = .ok (.isub, 1) := by decide +kernel
theorem D_Mo_take_24 : decode b_Mo_take 24 = .ok (.istore 4, 2) := by decide +kernel
theorem D_Mo_take_26 : decode b_Mo_take 26 = .ok (.aload_n 0, 1) := by decide +kernel
theorem D_Mo_take_27 : decode b_Mo_take 27 = .ok (.iload_n 2, 1) := by decide +kernel
theorem D_Mo_take_28 : decode b_Mo_take 28 = .ok (.iload_n 3, 1) := by decide +kernel
theorem D_Mo_take_29 : decode b_Mo_take 29 = .ok (.iload 4, 2) := by decide +kernel
theorem D_Mo_take_31 : decode b_Mo_take 31 = .ok (.invokevirtual 94, 3) := by decide +kernel
theorem D_Mo_take_34 : decode b_Mo_take 34 = .ok (.ifCond .ne 6, 3) := by decide +kernel
theorem D_Mo_take_37 : decode b_Mo_take 37 = .ok (.goto 82, 3) := by decide +kernel
theorem D_Mo_take_40 : decode b_Mo_take 40 = .ok (.iload_n 2, 1) := by decide +kernel
theorem D_Mo_take_41 : decode b_Mo_take 41 = .ok (.iload_n 3, 1) := by decide +kernel
theorem D_Mo_take_42 : decode b_Mo_take 42 = .ok (.iload 4, 2) := by decide +kernel
theorem D_Mo_take_44 : decode b_Mo_take 44 = .ok (.invokestatic 97, 3) := by decide +kernel
theorem D_Mo_take_47 : decode b_Mo_take 47 = .ok (.istore 5, 2) := by decide +kernel
theorem D_Mo_take_49 : decode b_Mo_take 49 = .ok (.aload_n 0, 1) := by decide +kernel
theorem D_Mo_take_50 : decode b_Mo_take 50 = .ok (.getfield 115, 3) := by decide +kernel
theorem D_Mo_take_53 : decode b_Mo_take 53 = .ok (.istore 6, 2) := by decide +kernel
theorem D_Mo_take_55 : decode b_Mo_take 55 = .ok (.iload 6, 2) := by decide +kernel
theorem D_Mo_take_57 : decode b_Mo_take 57 = .ok (.ifCond .le 43, 3) := by decide +kernel
theorem D_Mo_take_60 : decode b_Mo_take 60 = .ok (.aload_n 0, 1) := by decide +kernel
theorem D_Mo_take_61 : decode b_Mo_take 61 = .ok (.iload 5, 2) := by decide +kernel
theorem D_Mo_take_63 : decode b_Mo_take 63 = .ok (.aload_n 0, 1) := by decide +kernel
theorem D_Mo_take_64 : decode b_Mo_take 64 = .ok (.getfield 20, 3) := by decide +kernel
theorem D_Mo_take_67 : decode b_Mo_take 67 = .ok (.iload 6, 2) := by decide +kernel
theorem D_Mo_take_69 : decode b_Mo_take 69 = .ok (.iconst 1, 1) := by decide +kernel
theorem D_Mo_take_70 : decode b_Mo_take 70 = .ok (.isub, 1) := by decide +kernel
theorem D_Mo_take_71 : decode b_Mo_take 71 = .ok (.iaload, 1) := by decide +kernel
theorem D_Mo_take_72 : decode b_Mo_take 72 = .ok (.invokevirtual 107, 3) := by decide +kernel
theorem D_Mo_take_75 : decode b_Mo_take 75 = .ok (.ifCond .eq 25, 3) := by decide +kernel
theorem D_Mo_take_78 : decode b_Mo_take 78 = .ok (.aload_n 0, 1) := by decide +kernel
theorem D_Mo_take_79 : decode b_Mo_take 79 = .ok (.getfield 20, 3) := by decide +kernel
theorem D_Mo_take_82 : decode b_Mo_take 82 = .ok (.iload 6, 2) := by decide +kernel
theorem D_Mo_take_84 : decode b_Mo_take 84 = .ok (.aload_n 0, 1) := by decide +kernel
theorem D_Mo_take_85 : decode b_Mo_take 85 = .ok (.getfield 20, 3) := by decide +kernel
theorem D_Mo_take_88 : decode b_Mo_take 88 = .ok (.iload 6, 2) := by decide +kernel
theorem D_Mo_take_90 : decode b_Mo_take 90 = .ok (.iconst 1, 1) := by decide +kernel
theorem D_Mo_take_91 : decode b_Mo_take 91 = .ok (.isub, 1) := by decide +kernel
theorem D_Mo_take_92 : decode b_Mo_take 92 = .ok (.iaload, 1) := by decide +kernel
theorem D_Mo_take_93 : decode b_Mo_take 93 = .ok (.iastore, 1) := by decide +kernel
theorem D_Mo_take_94 : decode b_Mo_take 94 = .ok (.iinc 6 (-1), 3) := by decide +kernel
theorem D_Mo_take_97 : decode b_Mo_take 97 = .ok (.goto (-42), 3) := by decide +kernel
theorem D_Mo_take_100 : decode b_Mo_take 100 = .ok (.aload_n 0, 1) := by decide +kernel
theorem D_Mo_take_101 : decode b_Mo_take 101 = .ok (.getfield 20, 3) := by decide +kernel
theorem D_Mo_take_104 : decode b_Mo_take 104 = .ok (.iload 6, 2) := by decide +kernel
theorem D_Mo_take_106 : decode b_Mo_take 106 = .ok (.iload 5, 2) := by decide +kernel
theorem D_Mo_take_108 : decode b_Mo_take 108 = .ok (.iastore, 1) := by decide +kernel
theorem D_Mo_take_109 : decode b_Mo_take 109 = .ok (.aload_n 0, 1) := by decide +kernel
theorem D_Mo_take_110 : decode b_Mo_take 110 = .ok (.dup, 1) := by decide +kernel
theorem D_Mo_take_111 : decode b_Mo_take 111 = .ok (.getfield 115, 3) := by decide +kernel
theorem D_Mo_take_114 : decode b_Mo_take 114 = .ok (.iconst 1, 1) := by decide +kernel
theorem D_Mo_take_115 : decode b_Mo_take 115 = .ok (.iadd, 1) := by decide +kernel
theorem D_Mo_take_116 : decode b_Mo_take 116 = .ok (.putfield 115, 3) := by decide +kernel
theorem D_Mo_take_119 : decode b_Mo_take 119 = .ok (.iinc 3 (-1), 3) := by decide +kernel
theorem D_Mo_take_122 : decode b_Mo_take 122 = .ok (.goto (-107), 3) := by decide +kernel
theorem D_Mo_take_125 : decode b_Mo_take 125 = .ok (.iinc 2 (-1), 3) := by decide +kernel
theorem D_Mo_take_128 : decode b_Mo_take 128 = .ok (.goto (-121), 3) := by decide +kernel
theorem D_Mo_take_131 : decode b_Mo_take 131 = .ok (.iconst 0, 1) := by decide +kernel
theorem D_Mo_take_132 : decode b_Mo_take 132 = .ok (.istore_n 2, 1) := by decide +kernel
theorem D_Mo_take_133 : decode b_Mo_take 133 = .ok (.iload_n 2, 1) := by decide +kernel
theorem D_Mo_take_134 : decode b_Mo_take 134 = .ok (.aload_n 0, 1) := by decide +kernel
theorem D_Mo_take_135 : decode b_Mo_take 135 = .ok (.getfield 115, 3) := by decide +kernel
theorem D_Mo_take_138 : decode b_Mo_take 138 = .ok (.if_icmp .ge 21, 3) := by decide +kernel
theorem D_Mo_take_141 : decode b_Mo_take 141 = .ok (.aload_n 0, 1) := by decide +kernel
theorem D_Mo_take_142 : decode b_Mo_take 142 = .ok (.getfield 23, 3) := by decide +kernel
theorem D_Mo_take_145 : decode b_Mo_take 145 = .ok (.aload_n 0, 1) := by decide +kernel
theorem D_Mo_take_146 : decode b_Mo_take 146 = .ok (.getfield 20, 3) := by decide +kernel
theorem D_Mo_take_149 : decode b_Mo_take 149 = .ok (.iload_n 2, 1) := by decide +kernel
theorem D_Mo_take_150 : decode b_Mo_take 150 = .ok (.iaload, 1) := by decide +kernel
theorem D_Mo_take_151 : decode b_Mo_take 151 = .ok (.iload_n 2, 1) := by decide +kernel
theorem D_Mo_take_152 : decode b_Mo_take 152 = .ok (.iastore, 1) := by decide +kernel
theorem D_Mo_take_153 : decode b_Mo_take 153 = .ok (.iinc 2 1, 3) := by decide +kernel
theorem D_Mo_take_156 : decode b_Mo_take 156 = .ok (.goto (-23), 3) := by decide +kernel
theorem D_Mo_take_159 : decode b_Mo_take 159 = .ok (.return_, 1) := by decide +kernel
abbrev rm_Mo_take : Room := { frames := 2, cells := 0, slots := 0, locals := 45 }
def B_Mo_take_133 (k133 : Nat → Int32 → Mem → Prop) (post : Mem → Prop) (a0 : Nat) (x2 : Int32) (M : Mem) : Prop := (isK M a0 7 ∧ ((gI M a0 8) ≤ x2 → (post M)) ∧ (¬ (gI M a0 8) ≤ x2 → (isK M a0 7 ∧ ∃ q142, gR M a0 7 = some q142 ∧ isK M a0 7 ∧ ∃ q146, gR M a0 6 = some q146 ∧ isA M q146 8 x2 ∧ isA M q142 8 (gI M q146 (Int32.toNatClampNeg x2)) ∧ k133 a0 (x2 + 1) (sI M q142 (Int32.toNatClampNeg (gI M q146 (Int32.toNatClampNeg x2))) x2))))
set_option maxRecDepth 20000 in
theorem Z_Mo_take_133 {x : Ctx} {post : Mem → Prop} (C : Ok x b_Mo_take 7 "HeapTowerModel") (hR : xR x = rm_Mo_take) (Rt : RetV x post 0 0) {k133 : Nat → Int32 → Mem → Prop} (K133 : ∀ (a0 : Nat) (x2 : Int32) (M : Mem), k133 a0 x2 M → J x 7 133 [(0, .ref (xd x a0)), (2, .int x2)] [] 0 0 M) (a0 : Nat) (x2 : Int32) (M : Mem) (h : B_Mo_take_133 k133 post a0 x2 M) : J x 7 133 [(0, .ref (xd x a0)), (2, .int x2)] [] 0 0 M := by
  unfold B_Mo_take_133 at h
  refine J_iload_n C 2 D_Mo_take_133 rfl rfl ?_
  refine J_aload_n C 0 D_Mo_take_134 rfl rfl ?_
  obtain ⟨c_135, h⟩ := h
  refine J_getI C fl_Mo_115 D_Mo_take_135 c_135 ?_
  refine J_icmp_ge (tgt := 159) C D_Mo_take_138 (by decide) (fun c_138 => ?_) (fun c_138 => ?_)
  · have h := h.1 c_138
    exact J_vret C Rt D_Mo_take_159 h
  · have h := h.2 c_138
    refine J_aload_n C 0 D_Mo_take_141 rfl rfl ?_
    obtain ⟨c_142, q142, e_142, h⟩ := h
    refine J_getR C fl_Mo_23 D_Mo_take_142 c_142 e_142 ?_
    refine J_aload_n C 0 D_Mo_take_145 rfl rfl ?_
    obtain ⟨c_146, q146, e_146, h⟩ := h
    refine J_getR C fl_Mo_20 D_Mo_take_146 c_146 e_146 ?_
    refine J_iload_n C 2 D_Mo_take_149 rfl rfl ?_
    obtain ⟨c_150, h⟩ := h
    refine J_iald C D_Mo_take_150 c_150 ?_
    refine J_iload_n C 2 D_Mo_take_151 rfl rfl ?_
    obtain ⟨c_152, h⟩ := h
    refine J_iast C D_Mo_take_152 c_152 ?_
    refine J_iinc (v := x2 + 1) (lv' := [(2, .int (x2 + 1)), (0, .ref (xd x a0))]) C 2 1 D_Mo_take_153 rfl rfl (by decide) rfl ?_
    refine J_goto (tgt := 133) C D_Mo_take_156 (by decide) ?_
    exact J_sub [1, 0] rfl (K133 _ _ _ h)
def L_Mo_take_133 (post : Mem → Prop) : Nat → Nat → Int32 → Mem → Prop
  | 0, _, _, _ => False
  | n + 1, a0, x2, M => B_Mo_take_133 (L_Mo_take_133 post n) post a0 x2 M
theorem Y_Mo_take_133 {x : Ctx} {post : Mem → Prop} (C : Ok x b_Mo_take 7 "HeapTowerModel") (hR : xR x = rm_Mo_take) (Rt : RetV x post 0 0) : ∀ (n : Nat) (a0 : Nat) (x2 : Int32) (M : Mem), L_Mo_take_133 post n a0 x2 M → J x 7 133 [(0, .ref (xd x a0)), (2, .int x2)] [] 0 0 M := by
  intro n
  induction n with
  | zero => intro a0 x2 M h; exact h.elim
  | succ n ih => intro a0 x2 M h; exact Z_Mo_take_133 C hR Rt ih _ _ _ h
def B_Mo_take_119 (k7 : Nat → Int32 → Int32 → Mem → Prop) (k15 : Nat → Int32 → Int32 → Int32 → Mem → Prop) (post : Mem → Prop) (a0 : Nat) (x1 : Int32) (x2 : Int32) (x3 : Int32) (M : Mem) : Prop := (k15 a0 x1 x2 (x3 + (-1)) M)
set_option maxRecDepth 20000 in
theorem Z_Mo_take_119 {x : Ctx} {post : Mem → Prop} (C : Ok x b_Mo_take 7 "HeapTowerModel") (hR : xR x = rm_Mo_take) (Rt : RetV x post 0 0) {k7 : Nat → Int32 → Int32 → Mem → Prop} (K7 : ∀ (a0 : Nat) (x1 : Int32) (x2 : Int32) (M : Mem), k7 a0 x1 x2 M → J x 7 7 [(0, .ref (xd x a0)), (1, .int x1), (2, .int x2)] [] 0 0 M) {k15 : Nat → Int32 → Int32 → Int32 → Mem → Prop} (K15 : ∀ (a0 : Nat) (x1 : Int32) (x2 : Int32) (x3 : Int32) (M : Mem), k15 a0 x1 x2 x3 M → J x 7 15 [(0, .ref (xd x a0)), (1, .int x1), (2, .int x2), (3, .int x3)] [] 0 0 M) (a0 : Nat) (x1 : Int32) (x2 : Int32) (x3 : Int32) (M : Mem) (h : B_Mo_take_119 k7 k15 post a0 x1 x2 x3 M) : J x 7 119 [(0, .ref (xd x a0)), (1, .int x1), (2, .int x2), (3, .int x3)] [] 0 0 M := by
  unfold B_Mo_take_119 at h
  refine J_iinc (v := x3 + (-1)) (lv' := [(3, .int (x3 + (-1))), (0, .ref (xd x a0)), (1, .int x1), (2, .int x2)]) C 3 3 D_Mo_take_119 rfl rfl (by decide) rfl ?_
  refine J_goto (tgt := 15) C D_Mo_take_122 (by decide) ?_
  exact J_sub [1, 2, 3, 0] rfl (K15 _ _ _ _ _ h)
def B_Mo_take_100 (k7 : Nat → Int32 → Int32 → Mem → Prop) (k15 : Nat → Int32 → Int32 → Int32 → Mem → Prop) (post : Mem → Prop) (a0 : Nat) (x1 : Int32) (x2 : Int32) (x3 : Int32) (x5 : Int32) (x6 : Int32) (M : Mem) : Prop := (isK M a0 7 ∧ ∃ q101, gR M a0 6 = some q101 ∧ isA M q101 8 x6 ∧ isK (sI M q101 (Int32.toNatClampNeg x6) x5) a0 7 ∧ isK (sI M q101 (Int32.toNatClampNeg x6) x5) a0 7 ∧ B_Mo_take_119 k7 k15 post a0 x1 x2 x3 (sI (sI M q101 (Int32.toNatClampNeg x6) x5) a0 8 ((gI (sI M q101 (Int32.toNatClampNeg x6) x5) a0 8) + 1)))
set_option maxRecDepth 20000 in
theorem Z_Mo_take_100 {x : Ctx} {post : Mem → Prop} (C : Ok x b_Mo_take 7 "HeapTowerModel") (hR : xR x = rm_Mo_take) (Rt : RetV x post 0 0) {k7 : Nat → Int32 → Int32 → Mem → Prop} (K7 : ∀ (a0 : Nat) (x1 : Int32) (x2 : Int32) (M : Mem), k7 a0 x1 x2 M → J x 7 7 [(0, .ref (xd x a0)), (1, .int x1), (2, .int x2)] [] 0 0 M) {k15 : Nat → Int32 → Int32 → Int32 → Mem → Prop} (K15 : ∀ (a0 : Nat) (x1 : Int32) (x2 : Int32) (x3 : Int32) (M : Mem), k15 a0 x1 x2 x3 M → J x 7 15 [(0, .ref (xd x a0)), (1, .int x1), (2, .int x2), (3, .int x3)] [] 0 0 M) (a0 : Nat) (x1 : Int32) (x2 : Int32) (x3 : Int32) (x5 : Int32) (x6 : Int32) (M : Mem) (h : B_Mo_take_100 k7 k15 post a0 x1 x2 x3 x5 x6 M) : J x 7 100 [(0, .ref (xd x a0)), (1, .int x1), (2, .int x2), (3, .int x3), (5, .int x5), (6, .int x6)] [] 0 0 M := by
  unfold B_Mo_take_100 at h
  refine J_aload_n C 0 D_Mo_take_100 rfl rfl ?_
  obtain ⟨c_101, q101, e_101, h⟩ := h
  refine J_getR C fl_Mo_20 D_Mo_take_101 c_101 e_101 ?_
  refine J_iload C 6 D_Mo_take_104 rfl ?_
  refine J_iload C 5 D_Mo_take_106 rfl ?_
  obtain ⟨c_108, h⟩ := h
  refine J_iast C D_Mo_take_108 c_108 ?_
  refine J_aload_n C 0 D_Mo_take_109 rfl rfl ?_
  refine J_dup C D_Mo_take_110 rfl ?_
  obtain ⟨c_111, h⟩ := h
  refine J_getI C fl_Mo_115 D_Mo_take_111 c_111 ?_
  refine J_iconst (v := 1) C D_Mo_take_114 rfl ?_
  refine J_iadd C D_Mo_take_115 ?_
  obtain ⟨c_116, h⟩ := h
  refine J_putI C fl_Mo_115 D_Mo_take_116 c_116 ?_
  exact J_sub [0, 1, 2, 3] rfl (Z_Mo_take_119 C hR Rt K7 K15 _ _ _ _ _ h)
def B_Mo_take_55 (k7 : Nat → Int32 → Int32 → Mem → Prop) (k15 : Nat → Int32 → Int32 → Int32 → Mem → Prop) (k55 : Nat → Int32 → Int32 → Int32 → Int32 → Int32 → Mem → Prop) (post : Mem → Prop) (a0 : Nat) (x1 : Int32) (x2 : Int32) (x3 : Int32) (x5 : Int32) (x6 : Int32) (M : Mem) : Prop := ((x6 ≤ 0 → (B_Mo_take_100 k7 k15 post a0 x1 x2 x3 x5 x6 M)) ∧ (¬ x6 ≤ 0 → (isK M a0 7 ∧ ∃ q64, gR M a0 6 = some q64 ∧ isA M q64 8 (x6 - 1) ∧ isK M a0 7 ∧ T_Mo_isGreater a0 x5 (gI M q64 (Int32.toNatClampNeg (x6 - 1))) M (fun r72 M72 => (r72 = 0 → (B_Mo_take_100 k7 k15 post a0 x1 x2 x3 x5 x6 M72)) ∧ (¬ r72 = 0 → (isK M72 a0 7 ∧ ∃ q79, gR M72 a0 6 = some q79 ∧ isK M72 a0 7 ∧ ∃ q85, gR M72 a0 6 = some q85 ∧ isA M72 q85 8 (x6 - 1) ∧ isA M72 q79 8 x6 ∧ k55 a0 x1 x2 x3 x5 (x6 + (-1)) (sI M72 q79 (Int32.toNatClampNeg x6) (gI M72 q85 (Int32.toNatClampNeg (x6 - 1))))))))))
set_option maxRecDepth 20000 in
theorem Z_Mo_take_55 {x : Ctx} {post : Mem → Prop} (C : Ok x b_Mo_take 7 "HeapTowerModel") (hR : xR x = rm_Mo_take) (Rt : RetV x post 0 0) {k7 : Nat → Int32 → Int32 → Mem → Prop} (K7 : ∀ (a0 : Nat) (x1 : Int32) (x2 : Int32) (M : Mem), k7 a0 x1 x2 M → J x 7 7 [(0, .ref (xd x a0)), (1, .int x1), (2, .int x2)] [] 0 0 M) {k15 : Nat → Int32 → Int32 → Int32 → Mem → Prop} (K15 : ∀ (a0 : Nat) (x1 : Int32) (x2 : Int32) (x3 : Int32) (M : Mem), k15 a0 x1 x2 x3 M → J x 7 15 [(0, .ref (xd x a0)), (1, .int x1), (2, .int x2), (3, .int x3)] [] 0 0 M) {k55 : Nat → Int32 → Int32 → Int32 → Int32 → Int32 → Mem → Prop} (K55 : ∀ (a0 : Nat) (x1 : Int32) (x2 : Int32) (x3 : Int32) (x5 : Int32) (x6 : Int32) (M : Mem), k55 a0 x1 x2 x3 x5 x6 M → J x 7 55 [(0, .ref (xd x a0)), (1, .int x1), (2, .int x2), (3, .int x3), (5, .int x5), (6, .int x6)] [] 0 0 M) (a0 : Nat) (x1 : Int32) (x2 : Int32) (x3 : Int32) (x5 : Int32) (x6 : Int32) (M : Mem) (h : B_Mo_take_55 k7 k15 k55 post a0 x1 x2 x3 x5 x6 M) : J x 7 55 [(0, .ref (xd x a0)), (1, .int x1), (2, .int x2), (3, .int x3), (5, .int x5), (6, .int x6)] [] 0 0 M := by
  unfold B_Mo_take_55 at h
  refine J_iload C 6 D_Mo_take_55 rfl ?_
  refine J_if_le (tgt := 100) C D_Mo_take_57 (by decide) (fun c_57 => ?_) (fun c_57 => ?_)
  · have h := h.1 c_57
    exact J_sub [0, 1, 2, 3, 4, 5] rfl (Z_Mo_take_100 C hR Rt K7 K15 _ _ _ _ _ _ _ h)
  · have h := h.2 c_57
    refine J_aload_n C 0 D_Mo_take_60 rfl rfl ?_
    refine J_iload C 5 D_Mo_take_61 rfl ?_
    refine J_aload_n C 0 D_Mo_take_63 rfl rfl ?_
    obtain ⟨c_64, q64, e_64, h⟩ := h
    refine J_getR C fl_Mo_20 D_Mo_take_64 c_64 e_64 ?_
    refine J_iload C 6 D_Mo_take_67 rfl ?_
    refine J_iconst (v := 1) C D_Mo_take_69 rfl ?_
    refine J_isub C D_Mo_take_70 ?_
    obtain ⟨c_71, h⟩ := h
    refine J_iald C D_Mo_take_71 c_71 ?_
    obtain ⟨c_72, h⟩ := h
    refine J_callVi C ml_Mo_107 (S_Mo_isGreater _ _ _ _ _ h) (by rw [hR]; decide) rfl c_72 rfl (Nat.le_of_ble_eq_true rfl) D_Mo_take_72 (fun r72 M72 h => ?_)
    refine J_if_eq (tgt := 100) C D_Mo_take_75 (by decide) (fun c_75 => ?_) (fun c_75 => ?_)
    · have h := h.1 c_75
      exact J_sub [0, 1, 2, 3, 4, 5] rfl (Z_Mo_take_100 C hR Rt K7 K15 _ _ _ _ _ _ _ h)
    · have h := h.2 c_75
      refine J_aload_n C 0 D_Mo_take_78 rfl rfl ?_
      obtain ⟨c_79, q79, e_79, h⟩ := h
      refine J_getR C fl_Mo_20 D_Mo_take_79 c_79 e_79 ?_
      refine J_iload C 6 D_Mo_take_82 rfl ?_
      refine J_aload_n C 0 D_Mo_take_84 rfl rfl ?_
      obtain ⟨c_85, q85, e_85, h⟩ := h
      refine J_getR C fl_Mo_20 D_Mo_take_85 c_85 e_85 ?_
      refine J_iload C 6 D_Mo_take_88 rfl ?_
      refine J_iconst (v := 1) C D_Mo_take_90 rfl ?_
      refine J_isub C D_Mo_take_91 ?_
      obtain ⟨c_92, h⟩ := h
      refine J_iald C D_Mo_take_92 c_92 ?_
      obtain ⟨c_93, h⟩ := h
      refine J_iast C D_Mo_take_93 c_93 ?_
      refine J_iinc (v := x6 + (-1)) (lv' := [(6, .int (x6 + (-1))), (0, .ref (xd x a0)), (1, .int x1), (2, .int x2), (3, .int x3), (5, .int x5)]) C 6 5 D_Mo_take_94 rfl rfl (by decide) rfl ?_
      refine J_goto (tgt := 55) C D_Mo_take_97 (by decide) ?_
      exact J_sub [1, 2, 3, 4, 5, 0] rfl (K55 _ _ _ _ _ _ _ h)
def L_Mo_take_55 (k7 : Nat → Int32 → Int32 → Mem → Prop) (k15 : Nat → Int32 → Int32 → Int32 → Mem → Prop) (post : Mem → Prop) : Nat → Nat → Int32 → Int32 → Int32 → Int32 → Int32 → Mem → Prop
  | 0, _, _, _, _, _, _, _ => False
  | n + 1, a0, x1, x2, x3, x5, x6, M => B_Mo_take_55 k7 k15 (L_Mo_take_55 k7 k15 post n) post a0 x1 x2 x3 x5 x6 M
theorem Y_Mo_take_55 {x : Ctx} {post : Mem → Prop} (C : Ok x b_Mo_take 7 "HeapTowerModel") (hR : xR x = rm_Mo_take) (Rt : RetV x post 0 0) {k7 : Nat → Int32 → Int32 → Mem → Prop} (K7 : ∀ (a0 : Nat) (x1 : Int32) (x2 : Int32) (M : Mem), k7 a0 x1 x2 M → J x 7 7 [(0, .ref (xd x a0)), (1, .int x1), (2, .int x2)] [] 0 0 M) {k15 : Nat → Int32 → Int32 → Int32 → Mem → Prop} (K15 : ∀ (a0 : Nat) (x1 : Int32) (x2 : Int32) (x3 : Int32) (M : Mem), k15 a0 x1 x2 x3 M → J x 7 15 [(0, .ref (xd x a0)), (1, .int x1), (2, .int x2), (3, .int x3)] [] 0 0 M) : ∀ (n : Nat) (a0 : Nat) (x1 : Int32) (x2 : Int32) (x3 : Int32) (x5 : Int32) (x6 : Int32) (M : Mem), L_Mo_take_55 k7 k15 post n a0 x1 x2 x3 x5 x6 M → J x 7 55 [(0, .ref (xd x a0)), (1, .int x1), (2, .int x2), (3, .int x3), (5, .int x5), (6, .int x6)] [] 0 0 M := by
  intro n
  induction n with
  | zero => intro a0 x1 x2 x3 x5 x6 M h; exact h.elim
  | succ n ih => intro a0 x1 x2 x3 x5 x6 M h; exact Z_Mo_take_55 C hR Rt K7 K15 ih _ _ _ _ _ _ _ h
def B_Mo_take_15 (k7 : Nat → Int32 → Int32 → Mem → Prop) (k15 : Nat → Int32 → Int32 → Int32 → Mem → Prop) (post : Mem → Prop) (a0 : Nat) (x1 : Int32) (x2 : Int32) (x3 : Int32) (M : Mem) : Prop := ((x3 < 0 → (k7 a0 x1 (x2 + (-1)) M)) ∧ (¬ x3 < 0 → (isK M a0 7 ∧ T_Mo_isProduct a0 x2 x3 ((x1 - x2) - x3) M (fun r31 M31 => (¬ r31 = 0 → (T_Mo_powers x2 x3 ((x1 - x2) - x3) M31 (fun r44 M44 => isK M44 a0 7 ∧ ∃ n, L_Mo_take_55 k7 k15 post n a0 x1 x2 x3 r44 (gI M44 a0 8) M44))) ∧ (r31 = 0 → (B_Mo_take_119 k7 k15 post a0 x1 x2 x3 M31))))))
set_option maxRecDepth 20000 in
theorem Z_Mo_take_15 {x : Ctx} {post : Mem → Prop} (C : Ok x b_Mo_take 7 "HeapTowerModel") (hR : xR x = rm_Mo_take) (Rt : RetV x post 0 0) {k7 : Nat → Int32 → Int32 → Mem → Prop} (K7 : ∀ (a0 : Nat) (x1 : Int32) (x2 : Int32) (M : Mem), k7 a0 x1 x2 M → J x 7 7 [(0, .ref (xd x a0)), (1, .int x1), (2, .int x2)] [] 0 0 M) {k15 : Nat → Int32 → Int32 → Int32 → Mem → Prop} (K15 : ∀ (a0 : Nat) (x1 : Int32) (x2 : Int32) (x3 : Int32) (M : Mem), k15 a0 x1 x2 x3 M → J x 7 15 [(0, .ref (xd x a0)), (1, .int x1), (2, .int x2), (3, .int x3)] [] 0 0 M) (a0 : Nat) (x1 : Int32) (x2 : Int32) (x3 : Int32) (M : Mem) (h : B_Mo_take_15 k7 k15 post a0 x1 x2 x3 M) : J x 7 15 [(0, .ref (xd x a0)), (1, .int x1), (2, .int x2), (3, .int x3)] [] 0 0 M := by
  unfold B_Mo_take_15 at h
  refine J_iload_n C 3 D_Mo_take_15 rfl rfl ?_
  refine J_if_lt (tgt := 125) C D_Mo_take_16 (by decide) (fun c_16 => ?_) (fun c_16 => ?_)
  · have h := h.1 c_16
    refine J_iinc (v := x2 + (-1)) (lv' := [(2, .int (x2 + (-1))), (0, .ref (xd x a0)), (1, .int x1), (3, .int x3)]) C 2 2 D_Mo_take_125 rfl rfl (by decide) rfl ?_
    refine J_goto (tgt := 7) C D_Mo_take_128 (by decide) ?_
    exact J_sub [1, 2, 0] rfl (K7 _ _ _ _ h)
  · have h := h.2 c_16
    refine J_iload_n C 1 D_Mo_take_19 rfl rfl ?_
    refine J_iload_n C 2 D_Mo_take_20 rfl rfl ?_
    refine J_isub C D_Mo_take_21 ?_
    refine J_iload_n C 3 D_Mo_take_22 rfl rfl ?_
    refine J_isub C D_Mo_take_23 ?_
    refine J_istore (lv' := [(4, .int ((x1 - x2) - x3)), (0, .ref (xd x a0)), (1, .int x1), (2, .int x2), (3, .int x3)]) C 4 D_Mo_take_24 (by decide) rfl ?_
    refine J_aload_n C 0 D_Mo_take_26 rfl rfl ?_
    refine J_iload_n C 2 D_Mo_take_27 rfl rfl ?_
    refine J_iload_n C 3 D_Mo_take_28 rfl rfl ?_
    refine J_iload C 4 D_Mo_take_29 rfl ?_
    obtain ⟨c_31, h⟩ := h
    refine J_callVi C ml_Mo_94 (S_Mo_isProduct _ _ _ _ _ _ h) (by rw [hR]; decide) rfl c_31 rfl (Nat.le_of_ble_eq_true rfl) D_Mo_take_31 (fun r31 M31 h => ?_)
    refine J_if_ne (tgt := 40) C D_Mo_take_34 (by decide) (fun c_34 => ?_) (fun c_34 => ?_)
    · have h := h.1 c_34
      refine J_iload_n C 2 D_Mo_take_40 rfl rfl ?_
      refine J_iload_n C 3 D_Mo_take_41 rfl rfl ?_
      refine J_iload C 4 D_Mo_take_42 rfl ?_
      refine J_callSi C ml_Mo_97 (S_Mo_powers _ _ _ _ _ h) (by rw [hR]; decide) rfl rfl (Nat.le_of_ble_eq_true rfl) D_Mo_take_44 (fun r44 M44 h => ?_)
      refine J_istore (lv' := [(5, .int r44), (4, .int ((x1 - x2) - x3)), (0, .ref (xd x a0)), (1, .int x1), (2, .int x2), (3, .int x3)]) C 5 D_Mo_take_47 (by decide) rfl ?_
      refine J_aload_n C 0 D_Mo_take_49 rfl rfl ?_
      obtain ⟨c_50, h⟩ := h
      refine J_getI C fl_Mo_115 D_Mo_take_50 c_50 ?_
      refine J_istore (lv' := [(6, .int (gI M44 a0 8)), (5, .int r44), (4, .int ((x1 - x2) - x3)), (0, .ref (xd x a0)), (1, .int x1), (2, .int x2), (3, .int x3)]) C 6 D_Mo_take_53 (by decide) rfl ?_
      obtain ⟨n, h⟩ := h
      exact J_sub [3, 4, 5, 6, 1, 0] rfl (Y_Mo_take_55 C hR Rt K7 K15 n _ _ _ _ _ _ _ h)
    · have h := h.2 c_34
      refine J_goto (tgt := 119) C D_Mo_take_37 (by decide) ?_
      exact J_sub [1, 2, 3, 4] rfl (Z_Mo_take_119 C hR Rt K7 K15 _ _ _ _ _ h)
def L_Mo_take_15 (k7 : Nat → Int32 → Int32 → Mem → Prop) (post : Mem → Prop) : Nat → Nat → Int32 → Int32 → Int32 → Mem → Prop
  | 0, _, _, _, _, _ => False
  | n + 1, a0, x1, x2, x3, M => B_Mo_take_15 k7 (L_Mo_take_15 k7 post n) post a0 x1 x2 x3 M
theorem Y_Mo_take_15 {x : Ctx} {post : Mem → Prop} (C : Ok x b_Mo_take 7 "HeapTowerModel") (hR : xR x = rm_Mo_take) (Rt : RetV x post 0 0) {k7 : Nat → Int32 → Int32 → Mem → Prop} (K7 : ∀ (a0 : Nat) (x1 : Int32) (x2 : Int32) (M : Mem), k7 a0 x1 x2 M → J x 7 7 [(0, .ref (xd x a0)), (1, .int x1), (2, .int x2)] [] 0 0 M) : ∀ (n : Nat) (a0 : Nat) (x1 : Int32) (x2 : Int32) (x3 : Int32) (M : Mem), L_Mo_take_15 k7 post n a0 x1 x2 x3 M → J x 7 15 [(0, .ref (xd x a0)), (1, .int x1), (2, .int x2), (3, .int x3)] [] 0 0 M := by
  intro n
  induction n with
  | zero => intro a0 x1 x2 x3 M h; exact h.elim
  | succ n ih => intro a0 x1 x2 x3 M h; exact Z_Mo_take_15 C hR Rt K7 ih _ _ _ _ _ h
def B_Mo_take_7 (k7 : Nat → Int32 → Int32 → Mem → Prop) (post : Mem → Prop) (a0 : Nat) (x1 : Int32) (x2 : Int32) (M : Mem) : Prop := ((x2 < 0 → (∃ n, L_Mo_take_133 post n a0 0 M)) ∧ (¬ x2 < 0 → (∃ n, L_Mo_take_15 k7 post n a0 x1 x2 (x1 - x2) M)))
set_option maxRecDepth 20000 in
theorem Z_Mo_take_7 {x : Ctx} {post : Mem → Prop} (C : Ok x b_Mo_take 7 "HeapTowerModel") (hR : xR x = rm_Mo_take) (Rt : RetV x post 0 0) {k7 : Nat → Int32 → Int32 → Mem → Prop} (K7 : ∀ (a0 : Nat) (x1 : Int32) (x2 : Int32) (M : Mem), k7 a0 x1 x2 M → J x 7 7 [(0, .ref (xd x a0)), (1, .int x1), (2, .int x2)] [] 0 0 M) (a0 : Nat) (x1 : Int32) (x2 : Int32) (M : Mem) (h : B_Mo_take_7 k7 post a0 x1 x2 M) : J x 7 7 [(0, .ref (xd x a0)), (1, .int x1), (2, .int x2)] [] 0 0 M := by
  unfold B_Mo_take_7 at h
  refine J_iload_n C 2 D_Mo_take_7 rfl rfl ?_
  refine J_if_lt (tgt := 131) C D_Mo_take_8 (by decide) (fun c_8 => ?_) (fun c_8 => ?_)
  · have h := h.1 c_8
    refine J_iconst (v := 0) C D_Mo_take_131 rfl ?_
    refine J_istore_n (lv' := [(2, .int 0), (0, .ref (xd x a0)), (1, .int x1)]) C 2 D_Mo_take_132 rfl (by decide) rfl ?_
    obtain ⟨n, h⟩ := h
    exact J_sub [1, 0] rfl (Y_Mo_take_133 C hR Rt  n _ _ _ h)
  · have h := h.2 c_8
    refine J_iload_n C 1 D_Mo_take_11 rfl rfl ?_
    refine J_iload_n C 2 D_Mo_take_12 rfl rfl ?_
    refine J_isub C D_Mo_take_13 ?_
    refine J_istore_n (lv' := [(3, .int (x1 - x2)), (0, .ref (xd x a0)), (1, .int x1), (2, .int x2)]) C 3 D_Mo_take_14 rfl (by decide) rfl ?_
    obtain ⟨n, h⟩ := h
    exact J_sub [1, 2, 3, 0] rfl (Y_Mo_take_15 C hR Rt K7 n _ _ _ _ _ h)
def L_Mo_take_7 (post : Mem → Prop) : Nat → Nat → Int32 → Int32 → Mem → Prop
  | 0, _, _, _, _ => False
  | n + 1, a0, x1, x2, M => B_Mo_take_7 (L_Mo_take_7 post n) post a0 x1 x2 M
theorem Y_Mo_take_7 {x : Ctx} {post : Mem → Prop} (C : Ok x b_Mo_take 7 "HeapTowerModel") (hR : xR x = rm_Mo_take) (Rt : RetV x post 0 0) : ∀ (n : Nat) (a0 : Nat) (x1 : Int32) (x2 : Int32) (M : Mem), L_Mo_take_7 post n a0 x1 x2 M → J x 7 7 [(0, .ref (xd x a0)), (1, .int x1), (2, .int x2)] [] 0 0 M := by
  intro n
  induction n with
  | zero => intro a0 x1 x2 M h; exact h.elim
  | succ n ih => intro a0 x1 x2 M h; exact Z_Mo_take_7 C hR Rt ih _ _ _ _ h
def T_Mo_take (a0 : Nat) (x1 : Int32) (M : Mem) (post : Mem → Prop) : Prop := (isK M a0 7 ∧ ∃ n, L_Mo_take_7 post n a0 x1 x1 (sI M a0 8 0))
set_option maxRecDepth 20000 in
theorem S_Mo_take {l : Launch} {D : va_G} {B t g : Nat} {d : Nat → Nat} {ac : Nat → ClassId}  (a0 : Nat) (x1 : Int32) (M : Mem) (post : Mem → Prop) (h : T_Mo_take a0 x1 M post) : Met l y_Mo_take w_Mo_take rm_Mo_take (va_Pc [.ref (d a0), .int x1] (PRE D B d g t ac M)) (QV D B d g ac post) 0 0 (AB B) := by
  refine met_v (by decide +kernel) (Nat.le_of_ble_eq_true rfl) (fun x h1 hR h3 h4 h5 h6 h7 h8 C Rt Nm => ?_)
  subst h3 h4 h5 h6 h7 h8
  unfold T_Mo_take at h
  show J x 7 0 [(0, .ref (xd x a0)), (1, .int x1)] [] 0 0 M
  refine J_aload_n C 0 D_Mo_take_0 rfl rfl ?_
  refine J_iconst (v := 0) C D_Mo_take_1 rfl ?_
  obtain ⟨c_2, h⟩ := h
  refine J_putI C fl_Mo_115 D_Mo_take_2 c_2 ?_
  refine J_iload_n C 1 D_Mo_take_5 rfl rfl ?_
  refine J_istore_n (lv' := [(2, .int x1), (0, .ref (xd x a0)), (1, .int x1)]) C 2 D_Mo_take_6 rfl (by decide) rfl ?_
  obtain ⟨n, h⟩ := h
  exact J_sub [1, 2, 0] rfl (Y_Mo_take_7 C hR Rt  n _ _ _ _ h)
theorem D_Mo_begin_0 : decode b_Mo_begin 0 = .ok (.aload_n 0, 1) := by decide +kernel
theorem D_Mo_begin_1 : decode b_Mo_begin 1 = .ok (.iload_n 1, 1) := by decide +kernel
theorem D_Mo_begin_2 : decode b_Mo_begin 2 = .ok (.invokevirtual 118, 3) := by decide +kernel
theorem D_Mo_begin_5 : decode b_Mo_begin 5 = .ok (.aload_n 0, 1) := by decide +kernel
theorem D_Mo_begin_6 : decode b_Mo_begin 6 = .ok (.iconst 0, 1) := by decide +kernel
theorem D_Mo_begin_7 : decode b_Mo_begin 7 = .ok (.putfield 121, 3) := by decide +kernel
theorem D_Mo_begin_10 : decode b_Mo_begin 10 = .ok (.iconst 0, 1) := by decide +kernel
theorem D_Mo_begin_11 : decode b_Mo_begin 11 = .ok (.istore_n 2, 1) := by decide +kernel
theorem D_Mo_begin_12 : decode b_Mo_begin 12 = .ok (.iload_n 2, 1) := by decide +kernel
theorem D_Mo_begin_13 : decode b_Mo_begin 13 = .ok (.bipush 66, 2) := by decide +kernel
theorem D_Mo_begin_15 : decode b_Mo_begin 15 = .ok (.if_icmp .ge 16, 3) := by decide +kernel
theorem D_Mo_begin_18 : decode b_Mo_begin 18 = .ok (.aload_n 0, 1) := by decide +kernel
theorem D_Mo_begin_19 : decode b_Mo_begin 19 = .ok (.getfield 32, 3) := by decide +kernel
theorem D_Mo_begin_22 : decode b_Mo_begin 22 = .ok (.iload_n 2, 1) := by decide +kernel
theorem D_Mo_begin_23 : decode b_Mo_begin 23 = .ok (.iconst 0, 1) := by decide +kernel
theorem D_Mo_begin_24 : decode b_Mo_begin 24 = .ok (.bastore, 1) := by decide +kernel
theorem D_Mo_begin_25 : decode b_Mo_begin 25 = .ok (.iinc 2 1, 3) := by decide +kernel
theorem D_Mo_begin_28 : decode b_Mo_begin 28 = .ok (.goto (-16), 3) := by decide +kernel
theorem D_Mo_begin_31 : decode b_Mo_begin 31 = .ok (.return_, 1) := by decide +kernel
abbrev rm_Mo_begin : Room := { frames := 3, cells := 0, slots := 0, locals := 71 }
def B_Mo_begin_12 (k12 : Nat → Int32 → Mem → Prop) (post : Mem → Prop) (a0 : Nat) (x2 : Int32) (M : Mem) : Prop := ((66 ≤ x2 → (post M)) ∧ (¬ 66 ≤ x2 → (isK M a0 7 ∧ ∃ q19, gR M a0 11 = some q19 ∧ isA M q19 9 x2 ∧ k12 a0 (x2 + 1) (sI M q19 (Int32.toNatClampNeg x2) (vp_nar .boolean 0)))))
set_option maxRecDepth 20000 in
theorem Z_Mo_begin_12 {x : Ctx} {post : Mem → Prop} (C : Ok x b_Mo_begin 3 "HeapTowerModel") (hR : xR x = rm_Mo_begin) (Rt : RetV x post 0 0) {k12 : Nat → Int32 → Mem → Prop} (K12 : ∀ (a0 : Nat) (x2 : Int32) (M : Mem), k12 a0 x2 M → J x 3 12 [(0, .ref (xd x a0)), (2, .int x2)] [] 0 0 M) (a0 : Nat) (x2 : Int32) (M : Mem) (h : B_Mo_begin_12 k12 post a0 x2 M) : J x 3 12 [(0, .ref (xd x a0)), (2, .int x2)] [] 0 0 M := by
  unfold B_Mo_begin_12 at h
  refine J_iload_n C 2 D_Mo_begin_12 rfl rfl ?_
  refine J_bipush (v := 66) C D_Mo_begin_13 rfl ?_
  refine J_icmp_ge (tgt := 31) C D_Mo_begin_15 (by decide) (fun c_15 => ?_) (fun c_15 => ?_)
  · have h := h.1 c_15
    exact J_vret C Rt D_Mo_begin_31 h
  · have h := h.2 c_15
    refine J_aload_n C 0 D_Mo_begin_18 rfl rfl ?_
    obtain ⟨c_19, q19, e_19, h⟩ := h
    refine J_getR C fl_Mo_32 D_Mo_begin_19 c_19 e_19 ?_
    refine J_iload_n C 2 D_Mo_begin_22 rfl rfl ?_
    refine J_iconst (v := 0) C D_Mo_begin_23 rfl ?_
    obtain ⟨c_24, h⟩ := h
    refine J_zast C D_Mo_begin_24 c_24 ?_
    refine J_iinc (v := x2 + 1) (lv' := [(2, .int (x2 + 1)), (0, .ref (xd x a0))]) C 2 1 D_Mo_begin_25 rfl rfl (by decide) rfl ?_
    refine J_goto (tgt := 12) C D_Mo_begin_28 (by decide) ?_
    exact J_sub [1, 0] rfl (K12 _ _ _ h)
def L_Mo_begin_12 (post : Mem → Prop) : Nat → Nat → Int32 → Mem → Prop
  | 0, _, _, _ => False
  | n + 1, a0, x2, M => B_Mo_begin_12 (L_Mo_begin_12 post n) post a0 x2 M
theorem Y_Mo_begin_12 {x : Ctx} {post : Mem → Prop} (C : Ok x b_Mo_begin 3 "HeapTowerModel") (hR : xR x = rm_Mo_begin) (Rt : RetV x post 0 0) : ∀ (n : Nat) (a0 : Nat) (x2 : Int32) (M : Mem), L_Mo_begin_12 post n a0 x2 M → J x 3 12 [(0, .ref (xd x a0)), (2, .int x2)] [] 0 0 M := by
  intro n
  induction n with
  | zero => intro a0 x2 M h; exact h.elim
  | succ n ih => intro a0 x2 M h; exact Z_Mo_begin_12 C hR Rt ih _ _ _ h
def T_Mo_begin (a0 : Nat) (x1 : Int32) (M : Mem) (post : Mem → Prop) : Prop := (isK M a0 7 ∧ T_Mo_take a0 x1 M (fun M2 => isK M2 a0 7 ∧ ∃ n, L_Mo_begin_12 post n a0 0 (sI M2 a0 12 0)))
set_option maxRecDepth 20000 in
theorem S_Mo_begin {l : Launch} {D : va_G} {B t g : Nat} {d : Nat → Nat} {ac : Nat → ClassId}  (a0 : Nat) (x1 : Int32) (M : Mem) (post : Mem → Prop) (h : T_Mo_begin a0 x1 M post) : Met l y_Mo_begin w_Mo_begin rm_Mo_begin (va_Pc [.ref (d a0), .int x1] (PRE D B d g t ac M)) (QV D B d g ac post) 0 0 (AB B) := by
  refine met_v (by decide +kernel) (Nat.le_of_ble_eq_true rfl) (fun x h1 hR h3 h4 h5 h6 h7 h8 C Rt Nm => ?_)
  subst h3 h4 h5 h6 h7 h8
  unfold T_Mo_begin at h
  show J x 3 0 [(0, .ref (xd x a0)), (1, .int x1)] [] 0 0 M
  refine J_aload_n C 0 D_Mo_begin_0 rfl rfl ?_
  refine J_iload_n C 1 D_Mo_begin_1 rfl rfl ?_
  obtain ⟨c_2, h⟩ := h
  refine J_callVv C ml_Mo_118 (S_Mo_take _ _ _ _ h) (by rw [hR]; decide) rfl c_2 rfl (Nat.le_of_ble_eq_true rfl) D_Mo_begin_2 (fun M2 h => ?_)
  refine J_aload_n C 0 D_Mo_begin_5 rfl rfl ?_
  refine J_iconst (v := 0) C D_Mo_begin_6 rfl ?_
  obtain ⟨c_7, h⟩ := h
  refine J_putI C fl_Mo_121 D_Mo_begin_7 c_7 ?_
  refine J_iconst (v := 0) C D_Mo_begin_10 rfl ?_
  refine J_istore_n (lv' := [(2, .int 0), (0, .ref (xd x a0)), (1, .int x1)]) C 2 D_Mo_begin_11 rfl (by decide) rfl ?_
  obtain ⟨n, h⟩ := h
  exact J_sub [1, 0] rfl (Y_Mo_begin_12 C hR Rt  n _ _ _ h)
theorem D_Mo_less_0 : decode b_Mo_less 0 = .ok (.iconst 0, 1) := by decide +kernel
theorem D_Mo_less_1 : decode b_Mo_less 1 = .ok (.istore_n 3, 1) := by decide +kernel
theorem D_Mo_less_2 : decode b_Mo_less 2 = .ok (.iload_n 3, 1) := by decide +kernel
theorem D_Mo_less_3 : decode b_Mo_less 3 = .ok (.aload_n 0, 1) := by decide +kernel
theorem D_Mo_less_4 : decode b_Mo_less 4 = .ok (.getfield 115, 3) := by decide +kernel
theorem D_Mo_less_7 : decode b_Mo_less 7 = .ok (.if_icmp .ge 42, 3) := by decide +kernel
theorem D_Mo_less_10 : decode b_Mo_less 10 = .ok (.aload_n 0, 1) := by decide +kernel
theorem D_Mo_less_11 : decode b_Mo_less 11 = .ok (.getfield 29, 3) := by decide +kernel
theorem D_Mo_less_14 : decode b_Mo_less 14 = .ok (.iload_n 3, 1) := by decide +kernel
theorem D_Mo_less_15 : decode b_Mo_less 15 = .ok (.aload_n 0, 1) := by decide +kernel
theorem D_Mo_less_16 : decode b_Mo_less 16 = .ok (.aload_n 0, 1) := by decide +kernel
theorem D_Mo_less_17 : decode b_Mo_less 17 = .ok (.getfield 29, 3) := by decide +kernel
theorem D_Mo_less_20 : decode b_Mo_less 20 = .ok (.iload_n 3, 1) := by decide +kernel
theorem D_Mo_less_21 : decode b_Mo_less 21 = .ok (.iaload, 1) := by decide +kernel
theorem D_Mo_less_22 : decode b_Mo_less 22 = .ok (.i2l, 1) := by decide +kernel
theorem D_Mo_less_23 : decode b_Mo_less 23 = .ok (.iload_n 2, 1) := by decide +kernel
theorem D_Mo_less_24 : decode b_Mo_less 24 = .ok (.i2l, 1) := by decide +kernel
theorem D_Mo_less_25 : decode b_Mo_less 25 = .ok (.aload_n 0, 1) := by decide +kernel
theorem D_Mo_less_26 : decode b_Mo_less 26 = .ok (.getfield 26, 3) := by decide +kernel
theorem D_Mo_less_29 : decode b_Mo_less 29 = .ok (.bipush 66, 2) := by decide +kernel
theorem D_Mo_less_31 : decode b_Mo_less 31 = .ok (.iload_n 1, 1) := by decide +kernel
theorem D_Mo_less_32 : decode b_Mo_less 32 = .ok (.imul, 1) := by decide +kernel
theorem D_Mo_less_33 : decode b_Mo_less 33 = .ok (.iload_n 3, 1) := by decide +kernel
theorem D_Mo_less_34 : decode b_Mo_less 34 = .ok (.iadd, 1) := by decide +kernel
theorem D_Mo_less_35 : decode b_Mo_less 35 = .ok (.iaload, 1) := by decide +kernel
theorem D_Mo_less_36 : decode b_Mo_less 36 = .ok (.i2l, 1) := by decide +kernel
theorem D_Mo_less_37 : decode b_Mo_less 37 = .ok (.lmul, 1) := by decide +kernel
theorem D_Mo_less_38 : decode b_Mo_less 38 = .ok (.lsub, 1) := by decide +kernel
theorem D_Mo_less_39 : decode b_Mo_less 39 = .ok (.invokevirtual 48, 3) := by decide +kernel
theorem D_Mo_less_42 : decode b_Mo_less 42 = .ok (.iastore, 1) := by decide +kernel
theorem D_Mo_less_43 : decode b_Mo_less 43 = .ok (.iinc 3 1, 3) := by decide +kernel
theorem D_Mo_less_46 : decode b_Mo_less 46 = .ok (.goto (-44), 3) := by decide +kernel
theorem D_Mo_less_49 : decode b_Mo_less 49 = .ok (.return_, 1) := by decide +kernel
abbrev rm_Mo_less : Room := { frames := 1, cells := 0, slots := 0, locals := 24 }
def B_Mo_less_2 (k2 : Nat → Int32 → Int32 → Int32 → Mem → Prop) (post : Mem → Prop) (a0 : Nat) (x1 : Int32) (x2 : Int32) (x3 : Int32) (M : Mem) : Prop := (isK M a0 7 ∧ ((gI M a0 8) ≤ x3 → (post M)) ∧ (¬ (gI M a0 8) ≤ x3 → (isK M a0 7 ∧ ∃ q11, gR M a0 10 = some q11 ∧ isK M a0 7 ∧ ∃ q17, gR M a0 10 = some q17 ∧ isA M q17 8 x3 ∧ isK M a0 7 ∧ ∃ q26, gR M a0 9 = some q26 ∧ isA M q26 8 ((66 * x1) + x3) ∧ isK M a0 7 ∧ T_Mo_mod a0 ((Int32.toInt64 (gI M q17 (Int32.toNatClampNeg x3))) - ((Int32.toInt64 x2) * (Int32.toInt64 (gI M q26 (Int32.toNatClampNeg ((66 * x1) + x3)))))) M (fun r39 M39 => isA M39 q11 8 x3 ∧ k2 a0 x1 x2 (x3 + 1) (sI M39 q11 (Int32.toNatClampNeg x3) r39)))))
set_option maxRecDepth 20000 in
theorem Z_Mo_less_2 {x : Ctx} {post : Mem → Prop} (C : Ok x b_Mo_less 4 "HeapTowerModel") (hR : xR x = rm_Mo_less) (Rt : RetV x post 0 0) {k2 : Nat → Int32 → Int32 → Int32 → Mem → Prop} (K2 : ∀ (a0 : Nat) (x1 : Int32) (x2 : Int32) (x3 : Int32) (M : Mem), k2 a0 x1 x2 x3 M → J x 4 2 [(0, .ref (xd x a0)), (1, .int x1), (2, .int x2), (3, .int x3)] [] 0 0 M) (a0 : Nat) (x1 : Int32) (x2 : Int32) (x3 : Int32) (M : Mem) (h : B_Mo_less_2 k2 post a0 x1 x2 x3 M) : J x 4 2 [(0, .ref (xd x a0)), (1, .int x1), (2, .int x2), (3, .int x3)] [] 0 0 M := by
  unfold B_Mo_less_2 at h
  refine J_iload_n C 3 D_Mo_less_2 rfl rfl ?_
  refine J_aload_n C 0 D_Mo_less_3 rfl rfl ?_
  obtain ⟨c_4, h⟩ := h
  refine J_getI C fl_Mo_115 D_Mo_less_4 c_4 ?_
  refine J_icmp_ge (tgt := 49) C D_Mo_less_7 (by decide) (fun c_7 => ?_) (fun c_7 => ?_)
  · have h := h.1 c_7
    exact J_vret C Rt D_Mo_less_49 h
  · have h := h.2 c_7
    refine J_aload_n C 0 D_Mo_less_10 rfl rfl ?_
    obtain ⟨c_11, q11, e_11, h⟩ := h
    refine J_getR C fl_Mo_29 D_Mo_less_11 c_11 e_11 ?_
    refine J_iload_n C 3 D_Mo_less_14 rfl rfl ?_
    refine J_aload_n C 0 D_Mo_less_15 rfl rfl ?_
    refine J_aload_n C 0 D_Mo_less_16 rfl rfl ?_
    obtain ⟨c_17, q17, e_17, h⟩ := h
    refine J_getR C fl_Mo_29 D_Mo_less_17 c_17 e_17 ?_
    refine J_iload_n C 3 D_Mo_less_20 rfl rfl ?_
    obtain ⟨c_21, h⟩ := h
    refine J_iald C D_Mo_less_21 c_21 ?_
    refine J_i2l C D_Mo_less_22 ?_
    refine J_iload_n C 2 D_Mo_less_23 rfl rfl ?_
    refine J_i2l C D_Mo_less_24 ?_
    refine J_aload_n C 0 D_Mo_less_25 rfl rfl ?_
    obtain ⟨c_26, q26, e_26, h⟩ := h
    refine J_getR C fl_Mo_26 D_Mo_less_26 c_26 e_26 ?_
    refine J_bipush (v := 66) C D_Mo_less_29 rfl ?_
    refine J_iload_n C 1 D_Mo_less_31 rfl rfl ?_
    refine J_imul C D_Mo_less_32 ?_
    refine J_iload_n C 3 D_Mo_less_33 rfl rfl ?_
    refine J_iadd C D_Mo_less_34 ?_
    obtain ⟨c_35, h⟩ := h
    refine J_iald C D_Mo_less_35 c_35 ?_
    refine J_i2l C D_Mo_less_36 ?_
    refine J_lmul C D_Mo_less_37 ?_
    refine J_lsub C D_Mo_less_38 ?_
    obtain ⟨c_39, h⟩ := h
    refine J_callVi C ml_Mo_48 (S_Mo_mod _ _ _ _ h) (by rw [hR]; decide) rfl c_39 rfl (Nat.le_of_ble_eq_true rfl) D_Mo_less_39 (fun r39 M39 h => ?_)
    obtain ⟨c_42, h⟩ := h
    refine J_iast C D_Mo_less_42 c_42 ?_
    refine J_iinc (v := x3 + 1) (lv' := [(3, .int (x3 + 1)), (0, .ref (xd x a0)), (1, .int x1), (2, .int x2)]) C 3 3 D_Mo_less_43 rfl rfl (by decide) rfl ?_
    refine J_goto (tgt := 2) C D_Mo_less_46 (by decide) ?_
    exact J_sub [1, 2, 3, 0] rfl (K2 _ _ _ _ _ h)
def L_Mo_less_2 (post : Mem → Prop) : Nat → Nat → Int32 → Int32 → Int32 → Mem → Prop
  | 0, _, _, _, _, _ => False
  | n + 1, a0, x1, x2, x3, M => B_Mo_less_2 (L_Mo_less_2 post n) post a0 x1 x2 x3 M
theorem Y_Mo_less_2 {x : Ctx} {post : Mem → Prop} (C : Ok x b_Mo_less 4 "HeapTowerModel") (hR : xR x = rm_Mo_less) (Rt : RetV x post 0 0) : ∀ (n : Nat) (a0 : Nat) (x1 : Int32) (x2 : Int32) (x3 : Int32) (M : Mem), L_Mo_less_2 post n a0 x1 x2 x3 M → J x 4 2 [(0, .ref (xd x a0)), (1, .int x1), (2, .int x2), (3, .int x3)] [] 0 0 M := by
  intro n
  induction n with
  | zero => intro a0 x1 x2 x3 M h; exact h.elim
  | succ n ih => intro a0 x1 x2 x3 M h; exact Z_Mo_less_2 C hR Rt ih _ _ _ _ _ h
def T_Mo_less (a0 : Nat) (x1 : Int32) (x2 : Int32) (M : Mem) (post : Mem → Prop) : Prop := (∃ n, L_Mo_less_2 post n a0 x1 x2 0 M)
set_option maxRecDepth 20000 in
theorem S_Mo_less {l : Launch} {D : va_G} {B t g : Nat} {d : Nat → Nat} {ac : Nat → ClassId}  (a0 : Nat) (x1 : Int32) (x2 : Int32) (M : Mem) (post : Mem → Prop) (h : T_Mo_less a0 x1 x2 M post) : Met l y_Mo_less w_Mo_less rm_Mo_less (va_Pc [.ref (d a0), .int x1, .int x2] (PRE D B d g t ac M)) (QV D B d g ac post) 0 0 (AB B) := by
  refine met_v (by decide +kernel) (Nat.le_of_ble_eq_true rfl) (fun x h1 hR h3 h4 h5 h6 h7 h8 C Rt Nm => ?_)
  subst h3 h4 h5 h6 h7 h8
  unfold T_Mo_less at h
  show J x 4 0 [(0, .ref (xd x a0)), (1, .int x1), (2, .int x2)] [] 0 0 M
  refine J_iconst (v := 0) C D_Mo_less_0 rfl ?_
  refine J_istore_n (lv' := [(3, .int 0), (0, .ref (xd x a0)), (1, .int x1), (2, .int x2)]) C 3 D_Mo_less_1 rfl (by decide) rfl ?_
  obtain ⟨n, h⟩ := h
  exact J_sub [1, 2, 3, 0] rfl (Y_Mo_less_2 C hR Rt  n _ _ _ _ _ h)
theorem D_Mo_enter_0 : decode b_Mo_enter 0 = .ok (.iconst 0, 1) := by decide +kernel
theorem D_Mo_enter_1 : decode b_Mo_enter 1 = .ok (.istore_n 1, 1) := by decide +kernel
theorem D_Mo_enter_2 : decode b_Mo_enter 2 = .ok (.iload_n 1, 1) := by decide +kernel
theorem D_Mo_enter_3 : decode b_Mo_enter 3 = .ok (.aload_n 0, 1) := by decide +kernel
theorem D_Mo_enter_4 : decode b_Mo_enter 4 = .ok (.getfield 115, 3) := by decide +kernel
theorem D_Mo_enter_7 : decode b_Mo_enter 7 = .ok (.if_icmp .ge 38, 3) := by decide +kernel
theorem D_Mo_enter_10 : decode b_Mo_enter 10 = .ok (.aload_n 0, 1) := by decide +kernel
theorem D_Mo_enter_11 : decode b_Mo_enter 11 = .ok (.getfield 32, 3) := by decide +kernel
theorem D_Mo_enter_14 : decode b_Mo_enter 14 = .ok (.iload_n 1, 1) := by decide +kernel
theorem D_Mo_enter_15 : decode b_Mo_enter 15 = .ok (.baload, 1) := by decide +kernel
theorem D_Mo_enter_16 : decode b_Mo_enter 16 = .ok (.ifCond .eq 23, 3) := by decide +kernel
theorem D_Mo_enter_19 : decode b_Mo_enter 19 = .ok (.aload_n 0, 1) := by decide +kernel
theorem D_Mo_enter_20 : decode b_Mo_enter 20 = .ok (.getfield 29, 3) := by decide +kernel
theorem D_Mo_enter_23 : decode b_Mo_enter 23 = .ok (.iload_n 1, 1) := by decide +kernel
theorem D_Mo_enter_24 : decode b_Mo_enter 24 = .ok (.iaload, 1) := by decide +kernel
theorem D_Mo_enter_25 : decode b_Mo_enter 25 = .ok (.ifCond .eq 14, 3) := by decide +kernel
theorem D_Mo_enter_28 : decode b_Mo_enter 28 = .ok (.aload_n 0, 1) := by decide +kernel
theorem D_Mo_enter_29 : decode b_Mo_enter 29 = .ok (.iload_n 1, 1) := by decide +kernel
theorem D_Mo_enter_30 : decode b_Mo_enter 30 = .ok (.aload_n 0, 1) := by decide +kernel
theorem D_Mo_enter_31 : decode b_Mo_enter 31 = .ok (.getfield 29, 3) := by decide +kernel
theorem D_Mo_enter_34 : decode b_Mo_enter 34 = .ok (.iload_n 1, 1) := by decide +kernel
theorem D_Mo_enter_35 : decode b_Mo_enter 35 = .ok (.iaload, 1) := by decide +kernel
theorem D_Mo_enter_36 : decode b_Mo_enter 36 = .ok (.invokevirtual 124, 3) := by decide +kernel
theorem D_Mo_enter_39 : decode b_Mo_enter 39 = .ok (.iinc 1 1, 3) := by decide +kernel
theorem D_Mo_enter_42 : decode b_Mo_enter 42 = .ok (.goto (-40), 3) := by decide +kernel
theorem D_Mo_enter_45 : decode b_Mo_enter 45 = .ok (.iconst 0, 1) := by decide +kernel
theorem D_Mo_enter_46 : decode b_Mo_enter 46 = .ok (.istore_n 1, 1) := by decide +kernel
theorem D_Mo_enter_47 : decode b_Mo_enter 47 = .ok (.iload_n 1, 1) := by decide +kernel
theorem D_Mo_enter_48 : decode b_Mo_enter 48 = .ok (.aload_n 0, 1) := by decide +kernel
theorem D_Mo_enter_49 : decode b_Mo_enter 49 = .ok (.getfield 115, 3) := by decide +kernel
theorem D_Mo_enter_52 : decode b_Mo_enter 52 = .ok (.if_icmp .ge 18, 3) := by decide +kernel
theorem D_Mo_enter_55 : decode b_Mo_enter 55 = .ok (.aload_n 0, 1) := by decide +kernel
theorem D_Mo_enter_56 : decode b_Mo_enter 56 = .ok (.getfield 29, 3) := by decide +kernel
theorem D_Mo_enter_59 : decode b_Mo_enter 59 = .ok (.iload_n 1, 1) := by decide +kernel
theorem D_Mo_enter_60 : decode b_Mo_enter 60 = .ok (.iaload, 1) := by decide +kernel
theorem D_Mo_enter_61 : decode b_Mo_enter 61 = .ok (.ifCond .ne 9, 3) := by decide +kernel
theorem D_Mo_enter_64 : decode b_Mo_enter 64 = .ok (.iinc 1 1, 3) := by decide +kernel
theorem D_Mo_enter_67 : decode b_Mo_enter 67 = .ok (.goto (-20), 3) := by decide +kernel
theorem D_Mo_enter_70 : decode b_Mo_enter 70 = .ok (.iload_n 1, 1) := by decide +kernel
theorem D_Mo_enter_71 : decode b_Mo_enter 71 = .ok (.aload_n 0, 1) := by decide +kernel
theorem D_Mo_enter_72 : decode b_Mo_enter 72 = .ok (.getfield 115, 3) := by decide +kernel
theorem D_Mo_enter_75 : decode b_Mo_enter 75 = .ok (.if_icmp .ne 4, 3) := by decide +kernel
theorem D_Mo_enter_78 : decode b_Mo_enter 78 = .ok (.return_, 1) := by decide +kernel
theorem D_Mo_enter_79 : decode b_Mo_enter 79 = .ok (.aload_n 0, 1) := by decide +kernel
theorem D_Mo_enter_80 : decode b_Mo_enter 80 = .ok (.aload_n 0, 1) := by decide +kernel
theorem D_Mo_enter_81 : decode b_Mo_enter 81 = .ok (.getfield 29, 3) := by decide +kernel
theorem D_Mo_enter_84 : decode b_Mo_enter 84 = .ok (.iload_n 1, 1) := by decide +kernel
theorem D_Mo_enter_85 : decode b_Mo_enter 85 = .ok (.iaload, 1) := by decide +kernel
theorem D_Mo_enter_86 : decode b_Mo_enter 86 = .ok (.invokevirtual 127, 3) := by decide +kernel
theorem D_Mo_enter_89 : decode b_Mo_enter 89 = .ok (.istore_n 2, 1) := by decide +kernel
theorem D_Mo_enter_90 : decode b_Mo_enter 90 = .ok (.iconst 0, 1) := by decide +kernel
theorem D_Mo_enter_91 : decode b_Mo_enter 91 = .ok (.istore_n 3, 1) := by decide +kernel
theorem D_Mo_enter_92 : decode b_Mo_enter 92 = .ok (.iload_n 3, 1) := by decide +kernel
theorem D_Mo_enter_93 : decode b_Mo_enter 93 = .ok (.aload_n 0, 1) := by decide +kernel
theorem D_Mo_enter_94 : decode b_Mo_enter 94 = .ok (.getfield 115, 3) := by decide +kernel
theorem D_Mo_enter_97 : decode b_Mo_enter 97 = .ok (.if_icmp .ge 34, 3) := by decide +kernel
theorem D_Mo_enter_100 : decode b_Mo_enter 100 = .ok (.aload_n 0, 1) := by decide +kernel
theorem D_Mo_enter_101 : decode b_Mo_enter 101 = .ok (.getfield 26, 3) := by decide +kernel
theorem D_Mo_enter_104 : decode b_Mo_enter 104 = .ok (.bipush 66, 2) := by decide +kernel
theorem D_Mo_enter_106 : decode b_Mo_enter 106 = .ok (.iload_n 1, 1) := by decide +kernel
theorem D_Mo_enter_107 : decode b_Mo_enter 107 = .ok (.imul, 1) := by decide +kernel
theorem D_Mo_enter_108 : decode b_Mo_enter 108 = .ok (.iload_n 3, 1) := by decide +kernel
theorem D_Mo_enter_109 : decode b_Mo_enter 109 = .ok (.iadd, 1) := by decide +kernel
theorem D_Mo_enter_110 : decode b_Mo_enter 110 = .ok (.aload_n 0, 1) := by decide +kernel
theorem D_Mo_enter_111 : decode b_Mo_enter 111 = .ok (.iload_n 2, 1) := by decide +kernel
theorem D_Mo_enter_112 : decode b_Mo_enter 112 = .ok (.i2l, 1) := by decide +kernel
theorem D_Mo_enter_113 : decode b_Mo_enter 113 = .ok (.aload_n 0, 1) := by decide +kernel
theorem D_Mo_enter_114 : decode b_Mo_enter 114 = .ok (.getfield 29, 3) := by decide +kernel
theorem D_Mo_enter_117 : decode b_Mo_enter 117 = .ok (.iload_n 3, 1) := by decide +kernel
theorem D_Mo_enter_118 : decode b_Mo_enter 118 = .ok (.iaload, 1) := by decide +kernel
theorem D_Mo_enter_119 : decode b_Mo_enter 119 = .ok (.i2l, 1) := by decide +kernel
theorem D_Mo_enter_120 : decode b_Mo_enter 120 = .ok (.lmul, 1) := by decide +kernel
theorem D_Mo_enter_121 : decode b_Mo_enter 121 = .ok (.invokevirtual 48, 3) := by decide +kernel
theorem D_Mo_enter_124 : decode b_Mo_enter 124 = .ok (.iastore, 1) := by decide +kernel
theorem D_Mo_enter_125 : decode b_Mo_enter 125 = .ok (.iinc 3 1, 3) := by decide +kernel
theorem D_Mo_enter_128 : decode b_Mo_enter 128 = .ok (.goto (-36), 3) := by decide +kernel
theorem D_Mo_enter_131 : decode b_Mo_enter 131 = .ok (.aload_n 0, 1) := by decide +kernel
theorem D_Mo_enter_132 : decode b_Mo_enter 132 = .ok (.getfield 32, 3) := by decide +kernel
theorem D_Mo_enter_135 : decode b_Mo_enter 135 = .ok (.iload_n 1, 1) := by decide +kernel
theorem D_Mo_enter_136 : decode b_Mo_enter 136 = .ok (.iconst 1, 1) := by decide +kernel
theorem D_Mo_enter_137 : decode b_Mo_enter 137 = .ok (.bastore, 1) := by decide +kernel
theorem D_Mo_enter_138 : decode b_Mo_enter 138 = .ok (.aload_n 0, 1) := by decide +kernel
theorem D_Mo_enter_139 : decode b_Mo_enter 139 = .ok (.dup, 1) := by decide +kernel
theorem D_Mo_enter_140 : decode b_Mo_enter 140 = .ok (.getfield 121, 3) := by decide +kernel
theorem D_Mo_enter_143 : decode b_Mo_enter 143 = .ok (.iconst 1, 1) := by decide +kernel
theorem D_Mo_enter_144 : decode b_Mo_enter 144 = .ok (.iadd, 1) := by decide +kernel
theorem D_Mo_enter_145 : decode b_Mo_enter 145 = .ok (.putfield 121, 3) := by decide +kernel
theorem D_Mo_enter_148 : decode b_Mo_enter 148 = .ok (.iconst 0, 1) := by decide +kernel
theorem D_Mo_enter_149 : decode b_Mo_enter 149 = .ok (.istore_n 3, 1) := by decide +kernel
theorem D_Mo_enter_150 : decode b_Mo_enter 150 = .ok (.iload_n 3, 1) := by decide +kernel
theorem D_Mo_enter_151 : decode b_Mo_enter 151 = .ok (.aload_n 0, 1) := by decide +kernel
theorem D_Mo_enter_152 : decode b_Mo_enter 152 = .ok (.getfield 115, 3) := by decide +kernel
theorem D_Mo_enter_155 : decode b_Mo_enter 155 = .ok (.if_icmp .ge 118, 3) := by decide +kernel
theorem D_Mo_enter_158 : decode b_Mo_enter 158 = .ok (.aload_n 0, 1) := by decide +kernel
theorem D_Mo_enter_159 : decode b_Mo_enter 159 = .ok (.getfield 32, 3) := by decide +kernel
theorem D_Mo_enter_162 : decode b_Mo_enter 162 = .ok (.iload_n 3, 1) := by decide +kernel
theorem D_Mo_enter_163 : decode b_Mo_enter 163 = .ok (.baload, 1) := by decide +kernel
theorem D_Mo_enter_164 : decode b_Mo_enter 164 = .ok (.ifCond .eq 103, 3) := by decide +kernel
theorem D_Mo_enter_167 : decode b_Mo_enter 167 = .ok (.iload_n 3, 1) := by decide +kernel
theorem D_Mo_enter_168 : decode b_Mo_enter 168 = .ok (.iload_n 1, 1) := by decide +kernel
theorem D_Mo_enter_169 : decode b_Mo_enter 169 = .ok (.if_icmp .eq 98, 3) := by decide +kernel
theorem D_Mo_enter_172 : decode b_Mo_enter 172 = .ok (.aload_n 0, 1) := by decide +kernel
theorem D_Mo_enter_173 : decode b_Mo_enter 173 = .ok (.getfield 26, 3) := by decide +kernel
theorem D_Mo_enter_176 : decode b_Mo_enter 176 = .ok (.bipush 66, 2) := by decide +kernel
theorem D_Mo_enter_178 : decode b_Mo_enter 178 = .ok (.iload_n 3, 1) := by decide +kernel
theorem D_Mo_enter_179 : decode b_Mo_enter 179 = .ok (.imul, 1) := by decide +kernel
theorem D_Mo_enter_180 : decode b_Mo_enter 180 = .ok (.iload_n 1, 1) := by decide +kernel
theorem D_Mo_enter_181 : decode b_Mo_enter 181 = .ok (.iadd, 1) := by decide +kernel
theorem D_Mo_enter_182 : decode b_Mo_enter 182 = .ok (.iaload, 1) := by decide +kernel
theorem D_Mo_enter_183 : decode b_Mo_enter 183 = .ok (.ifCond .ne 6, 3) := by decide +kernel
theorem D_Mo_enter_186 : decode b_Mo_enter 186 = .ok (.goto 81, 3) := by decide +kernel
theorem D_Mo_enter_189 : decode b_Mo_enter 189 = .ok (.aload_n 0, 1) := by decide +kernel
theorem D_Mo_enter_190 : decode b_Mo_enter 190 = .ok (.getfield 26, 3) := by decide +kernel
theorem D_Mo_enter_193 : decode b_Mo_enter 193 = .ok (.bipush 66, 2) := by decide +kernel
theorem D_Mo_enter_195 : decode b_Mo_enter 195 = .ok (.iload_n 3, 1) := by decide +kernel
theorem D_Mo_enter_196 : decode b_Mo_enter 196 = .ok (.imul, 1) := by decide +kernel
theorem D_Mo_enter_197 : decode b_Mo_enter 197 = .ok (.iload_n 1, 1) := by decide +kernel
theorem D_Mo_enter_198 : decode b_Mo_enter 198 = .ok (.iadd, 1) := by decide +kernel
theorem D_Mo_enter_199 : decode b_Mo_enter 199 = .ok (.iaload, 1) := by decide +kernel
theorem D_Mo_enter_200 : decode b_Mo_enter 200 = .ok (.istore 4, 2) := by decide +kernel
theorem D_Mo_enter_202 : decode b_Mo_enter 202 = .ok (.iconst 0, 1) := by decide +kernel
theorem D_Mo_enter_203 : decode b_Mo_enter 203 = .ok (.istore 5, 2) := by decide +kernel
theorem D_Mo_enter_205 : decode b_Mo_enter 205 = .ok (.iload 5, 2) := by decide +kernel
theorem D_Mo_enter_207 : decode b_Mo_enter 207 = .ok (.aload_n 0, 1) := by decide +kernel
theorem D_Mo_enter_208 : decode b_Mo_enter 208 = .ok (.getfield 115, 3) := by decide +kernel
theorem D_Mo_enter_211 : decode b_Mo_enter 211 = .ok (.if_icmp .ge 56, 3) := by decide +kernel
theorem D_Mo_enter_214 : decode b_Mo_enter 214 = .ok (.aload_n 0, 1) := by decide +kernel
theorem D_Mo_enter_215 : decode b_Mo_enter 215 = .ok (.getfield 26, 3) := by decide +kernel
theorem D_Mo_enter_218 : decode b_Mo_enter 218 = .ok (.bipush 66, 2) := by decide +kernel
theorem D_Mo_enter_220 : decode b_Mo_enter 220 = .ok (.iload_n 3, 1) := by decide +kernel
theorem D_Mo_enter_221 : decode b_Mo_enter 221 = .ok (.imul, 1) := by decide +kernel
theorem D_Mo_enter_222 : decode b_Mo_enter 222 = .ok (.iload 5, 2) := by decide +kernel
theorem D_Mo_enter_224 : decode b_Mo_enter 224 = .ok (.iadd, 1) := by decide +kernel
theorem D_Mo_enter_225 : decode b_Mo_enter 225 = .ok (.aload_n 0, 1) := by decide +kernel
theorem D_Mo_enter_226 : decode b_Mo_enter 226 = .ok (.aload_n 0, 1) := by decide +kernel
theorem D_Mo_enter_227 : decode b_Mo_enter 227 = .ok (.getfield 26, 3) := by decide +kernel
theorem D_Mo_enter_230 : decode b_Mo_enter 230 = .ok (.bipush 66, 2) := by decide +kernel
theorem D_Mo_enter_232 : decode b_Mo_enter 232 = .ok (.iload_n 3, 1) := by decide +kernel
theorem D_Mo_enter_233 : decode b_Mo_enter 233 = .ok (.imul, 1) := by decide +kernel
theorem D_Mo_enter_234 : decode b_Mo_enter 234 = .ok (.iload 5, 2) := by decide +kernel
theorem D_Mo_enter_236 : decode b_Mo_enter 236 = .ok (.iadd, 1) := by decide +kernel
theorem D_Mo_enter_237 : decode b_Mo_enter 237 = .ok (.iaload, 1) := by decide +kernel
theorem D_Mo_enter_238 : decode b_Mo_enter 238 = .ok (.i2l, 1) := by decide +kernel
theorem D_Mo_enter_239 : decode b_Mo_enter 239 = .ok (.iload 4, 2) := by decide +kernel
theorem D_Mo_enter_241 : decode b_Mo_enter 241 = .ok (.i2l, 1) := by decide +kernel
theorem D_Mo_enter_242 : decode b_Mo_enter 242 = .ok (.aload_n 0, 1) := by decide +kernel
theorem D_Mo_enter_243 : decode b_Mo_enter 243 = .ok (.getfield 26, 3) := by decide +kernel
theorem D_Mo_enter_246 : decode b_Mo_enter 246 = .ok (.bipush 66, 2) := by decide +kernel
theorem D_Mo_enter_248 : decode b_Mo_enter 248 = .ok (.iload_n 1, 1) := by decide +kernel
theorem D_Mo_enter_249 : decode b_Mo_enter 249 = .ok (.imul, 1) := by decide +kernel
theorem D_Mo_enter_250 : decode b_Mo_enter 250 = .ok (.iload 5, 2) := by decide +kernel
theorem D_Mo_enter_252 : decode b_Mo_enter 252 = .ok (.iadd, 1) := by decide +kernel
theorem D_Mo_enter_253 : decode b_Mo_enter 253 = .ok (.iaload, 1) := by decide +kernel
theorem D_Mo_enter_254 : decode b_Mo_enter 254 = .ok (.i2l, 1) := by decide +kernel
theorem D_Mo_enter_255 : decode b_Mo_enter 255 = .ok (.lmul, 1) := by decide +kernel
theorem D_Mo_enter_256 : decode b_Mo_enter 256 = .ok (.lsub, 1) := by decide +kernel
theorem D_Mo_enter_257 : decode b_Mo_enter 257 = .ok (.invokevirtual 48, 3) := by decide +kernel
theorem D_Mo_enter_260 : decode b_Mo_enter 260 = .ok (.iastore, 1) := by decide +kernel
theorem D_Mo_enter_261 : decode b_Mo_enter 261 = .ok (.iinc 5 1, 3) := by decide +kernel
theorem D_Mo_enter_264 : decode b_Mo_enter 264 = .ok (.goto (-59), 3) := by decide +kernel
theorem D_Mo_enter_267 : decode b_Mo_enter 267 = .ok (.iinc 3 1, 3) := by decide +kernel
theorem D_Mo_enter_270 : decode b_Mo_enter 270 = .ok (.goto (-120), 3) := by decide +kernel
theorem D_Mo_enter_273 : decode b_Mo_enter 273 = .ok (.return_, 1) := by decide +kernel
abbrev rm_Mo_enter : Room := { frames := 2, cells := 0, slots := 0, locals := 47 }
def B_Mo_enter_267 (k150 : Nat → Int32 → Int32 → Mem → Prop) (post : Mem → Prop) (a0 : Nat) (x1 : Int32) (x3 : Int32) (M : Mem) : Prop := (k150 a0 x1 (x3 + 1) M)
set_option maxRecDepth 20000 in
theorem Z_Mo_enter_267 {x : Ctx} {post : Mem → Prop} (C : Ok x b_Mo_enter 6 "HeapTowerModel") (hR : xR x = rm_Mo_enter) (Rt : RetV x post 0 0) {k150 : Nat → Int32 → Int32 → Mem → Prop} (K150 : ∀ (a0 : Nat) (x1 : Int32) (x3 : Int32) (M : Mem), k150 a0 x1 x3 M → J x 6 150 [(0, .ref (xd x a0)), (1, .int x1), (3, .int x3)] [] 0 0 M) (a0 : Nat) (x1 : Int32) (x3 : Int32) (M : Mem) (h : B_Mo_enter_267 k150 post a0 x1 x3 M) : J x 6 267 [(0, .ref (xd x a0)), (1, .int x1), (3, .int x3)] [] 0 0 M := by
  unfold B_Mo_enter_267 at h
  refine J_iinc (v := x3 + 1) (lv' := [(3, .int (x3 + 1)), (0, .ref (xd x a0)), (1, .int x1)]) C 3 2 D_Mo_enter_267 rfl rfl (by decide) rfl ?_
  refine J_goto (tgt := 150) C D_Mo_enter_270 (by decide) ?_
  exact J_sub [1, 2, 0] rfl (K150 _ _ _ _ h)
def B_Mo_enter_205 (k150 : Nat → Int32 → Int32 → Mem → Prop) (k205 : Nat → Int32 → Int32 → Int32 → Int32 → Mem → Prop) (post : Mem → Prop) (a0 : Nat) (x1 : Int32) (x3 : Int32) (x4 : Int32) (x5 : Int32) (M : Mem) : Prop := (isK M a0 7 ∧ ((gI M a0 8) ≤ x5 → (B_Mo_enter_267 k150 post a0 x1 x3 M)) ∧ (¬ (gI M a0 8) ≤ x5 → (isK M a0 7 ∧ ∃ q215, gR M a0 9 = some q215 ∧ isK M a0 7 ∧ ∃ q227, gR M a0 9 = some q227 ∧ isA M q227 8 ((66 * x3) + x5) ∧ isK M a0 7 ∧ ∃ q243, gR M a0 9 = some q243 ∧ isA M q243 8 ((66 * x1) + x5) ∧ isK M a0 7 ∧ T_Mo_mod a0 ((Int32.toInt64 (gI M q227 (Int32.toNatClampNeg ((66 * x3) + x5)))) - ((Int32.toInt64 x4) * (Int32.toInt64 (gI M q243 (Int32.toNatClampNeg ((66 * x1) + x5)))))) M (fun r257 M257 => isA M257 q215 8 ((66 * x3) + x5) ∧ k205 a0 x1 x3 x4 (x5 + 1) (sI M257 q215 (Int32.toNatClampNeg ((66 * x3) + x5)) r257)))))
set_option maxRecDepth 20000 in
theorem Z_Mo_enter_205 {x : Ctx} {post : Mem → Prop} (C : Ok x b_Mo_enter 6 "HeapTowerModel") (hR : xR x = rm_Mo_enter) (Rt : RetV x post 0 0) {k150 : Nat → Int32 → Int32 → Mem → Prop} (K150 : ∀ (a0 : Nat) (x1 : Int32) (x3 : Int32) (M : Mem), k150 a0 x1 x3 M → J x 6 150 [(0, .ref (xd x a0)), (1, .int x1), (3, .int x3)] [] 0 0 M) {k205 : Nat → Int32 → Int32 → Int32 → Int32 → Mem → Prop} (K205 : ∀ (a0 : Nat) (x1 : Int32) (x3 : Int32) (x4 : Int32) (x5 : Int32) (M : Mem), k205 a0 x1 x3 x4 x5 M → J x 6 205 [(0, .ref (xd x a0)), (1, .int x1), (3, .int x3), (4, .int x4), (5, .int x5)] [] 0 0 M) (a0 : Nat) (x1 : Int32) (x3 : Int32) (x4 : Int32) (x5 : Int32) (M : Mem) (h : B_Mo_enter_205 k150 k205 post a0 x1 x3 x4 x5 M) : J x 6 205 [(0, .ref (xd x a0)), (1, .int x1), (3, .int x3), (4, .int x4), (5, .int x5)] [] 0 0 M := by
  unfold B_Mo_enter_205 at h
  refine J_iload C 5 D_Mo_enter_205 rfl ?_
  refine J_aload_n C 0 D_Mo_enter_207 rfl rfl ?_
  obtain ⟨c_208, h⟩ := h
  refine J_getI C fl_Mo_115 D_Mo_enter_208 c_208 ?_
  refine J_icmp_ge (tgt := 267) C D_Mo_enter_211 (by decide) (fun c_211 => ?_) (fun c_211 => ?_)
  · have h := h.1 c_211
    exact J_sub [0, 1, 2] rfl (Z_Mo_enter_267 C hR Rt K150 _ _ _ _ h)
  · have h := h.2 c_211
    refine J_aload_n C 0 D_Mo_enter_214 rfl rfl ?_
    obtain ⟨c_215, q215, e_215, h⟩ := h
    refine J_getR C fl_Mo_26 D_Mo_enter_215 c_215 e_215 ?_
    refine J_bipush (v := 66) C D_Mo_enter_218 rfl ?_
    refine J_iload_n C 3 D_Mo_enter_220 rfl rfl ?_
    refine J_imul C D_Mo_enter_221 ?_
    refine J_iload C 5 D_Mo_enter_222 rfl ?_
    refine J_iadd C D_Mo_enter_224 ?_
    refine J_aload_n C 0 D_Mo_enter_225 rfl rfl ?_
    refine J_aload_n C 0 D_Mo_enter_226 rfl rfl ?_
    obtain ⟨c_227, q227, e_227, h⟩ := h
    refine J_getR C fl_Mo_26 D_Mo_enter_227 c_227 e_227 ?_
    refine J_bipush (v := 66) C D_Mo_enter_230 rfl ?_
    refine J_iload_n C 3 D_Mo_enter_232 rfl rfl ?_
    refine J_imul C D_Mo_enter_233 ?_
    refine J_iload C 5 D_Mo_enter_234 rfl ?_
    refine J_iadd C D_Mo_enter_236 ?_
    obtain ⟨c_237, h⟩ := h
    refine J_iald C D_Mo_enter_237 c_237 ?_
    refine J_i2l C D_Mo_enter_238 ?_
    refine J_iload C 4 D_Mo_enter_239 rfl ?_
    refine J_i2l C D_Mo_enter_241 ?_
    refine J_aload_n C 0 D_Mo_enter_242 rfl rfl ?_
    obtain ⟨c_243, q243, e_243, h⟩ := h
    refine J_getR C fl_Mo_26 D_Mo_enter_243 c_243 e_243 ?_
    refine J_bipush (v := 66) C D_Mo_enter_246 rfl ?_
    refine J_iload_n C 1 D_Mo_enter_248 rfl rfl ?_
    refine J_imul C D_Mo_enter_249 ?_
    refine J_iload C 5 D_Mo_enter_250 rfl ?_
    refine J_iadd C D_Mo_enter_252 ?_
    obtain ⟨c_253, h⟩ := h
    refine J_iald C D_Mo_enter_253 c_253 ?_
    refine J_i2l C D_Mo_enter_254 ?_
    refine J_lmul C D_Mo_enter_255 ?_
    refine J_lsub C D_Mo_enter_256 ?_
    obtain ⟨c_257, h⟩ := h
    refine J_callVi C ml_Mo_48 (S_Mo_mod _ _ _ _ h) (by rw [hR]; decide) rfl c_257 rfl (Nat.le_of_ble_eq_true rfl) D_Mo_enter_257 (fun r257 M257 h => ?_)
    obtain ⟨c_260, h⟩ := h
    refine J_iast C D_Mo_enter_260 c_260 ?_
    refine J_iinc (v := x5 + 1) (lv' := [(5, .int (x5 + 1)), (0, .ref (xd x a0)), (1, .int x1), (3, .int x3), (4, .int x4)]) C 5 4 D_Mo_enter_261 rfl rfl (by decide) rfl ?_
    refine J_goto (tgt := 205) C D_Mo_enter_264 (by decide) ?_
    exact J_sub [1, 2, 3, 4, 0] rfl (K205 _ _ _ _ _ _ h)
def L_Mo_enter_205 (k150 : Nat → Int32 → Int32 → Mem → Prop) (post : Mem → Prop) : Nat → Nat → Int32 → Int32 → Int32 → Int32 → Mem → Prop
  | 0, _, _, _, _, _, _ => False
  | n + 1, a0, x1, x3, x4, x5, M => B_Mo_enter_205 k150 (L_Mo_enter_205 k150 post n) post a0 x1 x3 x4 x5 M
theorem Y_Mo_enter_205 {x : Ctx} {post : Mem → Prop} (C : Ok x b_Mo_enter 6 "HeapTowerModel") (hR : xR x = rm_Mo_enter) (Rt : RetV x post 0 0) {k150 : Nat → Int32 → Int32 → Mem → Prop} (K150 : ∀ (a0 : Nat) (x1 : Int32) (x3 : Int32) (M : Mem), k150 a0 x1 x3 M → J x 6 150 [(0, .ref (xd x a0)), (1, .int x1), (3, .int x3)] [] 0 0 M) : ∀ (n : Nat) (a0 : Nat) (x1 : Int32) (x3 : Int32) (x4 : Int32) (x5 : Int32) (M : Mem), L_Mo_enter_205 k150 post n a0 x1 x3 x4 x5 M → J x 6 205 [(0, .ref (xd x a0)), (1, .int x1), (3, .int x3), (4, .int x4), (5, .int x5)] [] 0 0 M := by
  intro n
  induction n with
  | zero => intro a0 x1 x3 x4 x5 M h; exact h.elim
  | succ n ih => intro a0 x1 x3 x4 x5 M h; exact Z_Mo_enter_205 C hR Rt K150 ih _ _ _ _ _ _ h
def B_Mo_enter_150 (k150 : Nat → Int32 → Int32 → Mem → Prop) (post : Mem → Prop) (a0 : Nat) (x1 : Int32) (x3 : Int32) (M : Mem) : Prop := (isK M a0 7 ∧ ((gI M a0 8) ≤ x3 → (post M)) ∧ (¬ (gI M a0 8) ≤ x3 → (isK M a0 7 ∧ ∃ q159, gR M a0 11 = some q159 ∧ isA M q159 9 x3 ∧ ((gI M q159 (Int32.toNatClampNeg x3)) = 0 → (B_Mo_enter_267 k150 post a0 x1 x3 M)) ∧ (¬ (gI M q159 (Int32.toNatClampNeg x3)) = 0 → ((x3 = x1 → (B_Mo_enter_267 k150 post a0 x1 x3 M)) ∧ (¬ x3 = x1 → (isK M a0 7 ∧ ∃ q173, gR M a0 9 = some q173 ∧ isA M q173 8 ((66 * x3) + x1) ∧ (¬ (gI M q173 (Int32.toNatClampNeg ((66 * x3) + x1))) = 0 → (isK M a0 7 ∧ ∃ q190, gR M a0 9 = some q190 ∧ isA M q190 8 ((66 * x3) + x1) ∧ ∃ n, L_Mo_enter_205 k150 post n a0 x1 x3 (gI M q190 (Int32.toNatClampNeg ((66 * x3) + x1))) 0 M)) ∧ ((gI M q173 (Int32.toNatClampNeg ((66 * x3) + x1))) = 0 → (B_Mo_enter_267 k150 post a0 x1 x3 M)))))))))
set_option maxRecDepth 20000 in
theorem Z_Mo_enter_150 {x : Ctx} {post : Mem → Prop} (C : Ok x b_Mo_enter 6 "HeapTowerModel") (hR : xR x = rm_Mo_enter) (Rt : RetV x post 0 0) {k150 : Nat → Int32 → Int32 → Mem → Prop} (K150 : ∀ (a0 : Nat) (x1 : Int32) (x3 : Int32) (M : Mem), k150 a0 x1 x3 M → J x 6 150 [(0, .ref (xd x a0)), (1, .int x1), (3, .int x3)] [] 0 0 M) (a0 : Nat) (x1 : Int32) (x3 : Int32) (M : Mem) (h : B_Mo_enter_150 k150 post a0 x1 x3 M) : J x 6 150 [(0, .ref (xd x a0)), (1, .int x1), (3, .int x3)] [] 0 0 M := by
  unfold B_Mo_enter_150 at h
  refine J_iload_n C 3 D_Mo_enter_150 rfl rfl ?_
  refine J_aload_n C 0 D_Mo_enter_151 rfl rfl ?_
  obtain ⟨c_152, h⟩ := h
  refine J_getI C fl_Mo_115 D_Mo_enter_152 c_152 ?_
  refine J_icmp_ge (tgt := 273) C D_Mo_enter_155 (by decide) (fun c_155 => ?_) (fun c_155 => ?_)
  · have h := h.1 c_155
    exact J_vret C Rt D_Mo_enter_273 h
  · have h := h.2 c_155
    refine J_aload_n C 0 D_Mo_enter_158 rfl rfl ?_
    obtain ⟨c_159, q159, e_159, h⟩ := h
    refine J_getR C fl_Mo_32 D_Mo_enter_159 c_159 e_159 ?_
    refine J_iload_n C 3 D_Mo_enter_162 rfl rfl ?_
    obtain ⟨c_163, h⟩ := h
    refine J_zald C D_Mo_enter_163 c_163 ?_
    refine J_if_eq (tgt := 267) C D_Mo_enter_164 (by decide) (fun c_164 => ?_) (fun c_164 => ?_)
    · have h := h.1 c_164
      exact J_sub [0, 1, 2] rfl (Z_Mo_enter_267 C hR Rt K150 _ _ _ _ h)
    · have h := h.2 c_164
      refine J_iload_n C 3 D_Mo_enter_167 rfl rfl ?_
      refine J_iload_n C 1 D_Mo_enter_168 rfl rfl ?_
      refine J_icmp_eq (tgt := 267) C D_Mo_enter_169 (by decide) (fun c_169 => ?_) (fun c_169 => ?_)
      · have h := h.1 c_169
        exact J_sub [0, 1, 2] rfl (Z_Mo_enter_267 C hR Rt K150 _ _ _ _ h)
      · have h := h.2 c_169
        refine J_aload_n C 0 D_Mo_enter_172 rfl rfl ?_
        obtain ⟨c_173, q173, e_173, h⟩ := h
        refine J_getR C fl_Mo_26 D_Mo_enter_173 c_173 e_173 ?_
        refine J_bipush (v := 66) C D_Mo_enter_176 rfl ?_
        refine J_iload_n C 3 D_Mo_enter_178 rfl rfl ?_
        refine J_imul C D_Mo_enter_179 ?_
        refine J_iload_n C 1 D_Mo_enter_180 rfl rfl ?_
        refine J_iadd C D_Mo_enter_181 ?_
        obtain ⟨c_182, h⟩ := h
        refine J_iald C D_Mo_enter_182 c_182 ?_
        refine J_if_ne (tgt := 189) C D_Mo_enter_183 (by decide) (fun c_183 => ?_) (fun c_183 => ?_)
        · have h := h.1 c_183
          refine J_aload_n C 0 D_Mo_enter_189 rfl rfl ?_
          obtain ⟨c_190, q190, e_190, h⟩ := h
          refine J_getR C fl_Mo_26 D_Mo_enter_190 c_190 e_190 ?_
          refine J_bipush (v := 66) C D_Mo_enter_193 rfl ?_
          refine J_iload_n C 3 D_Mo_enter_195 rfl rfl ?_
          refine J_imul C D_Mo_enter_196 ?_
          refine J_iload_n C 1 D_Mo_enter_197 rfl rfl ?_
          refine J_iadd C D_Mo_enter_198 ?_
          obtain ⟨c_199, h⟩ := h
          refine J_iald C D_Mo_enter_199 c_199 ?_
          refine J_istore (lv' := [(4, .int (gI M q190 (Int32.toNatClampNeg ((66 * x3) + x1)))), (0, .ref (xd x a0)), (1, .int x1), (3, .int x3)]) C 4 D_Mo_enter_200 (by decide) rfl ?_
          refine J_iconst (v := 0) C D_Mo_enter_202 rfl ?_
          refine J_istore (lv' := [(5, .int 0), (4, .int (gI M q190 (Int32.toNatClampNeg ((66 * x3) + x1)))), (0, .ref (xd x a0)), (1, .int x1), (3, .int x3)]) C 5 D_Mo_enter_203 (by decide) rfl ?_
          obtain ⟨n, h⟩ := h
          exact J_sub [2, 3, 4, 1, 0] rfl (Y_Mo_enter_205 C hR Rt K150 n _ _ _ _ _ _ h)
        · have h := h.2 c_183
          refine J_goto (tgt := 267) C D_Mo_enter_186 (by decide) ?_
          exact J_sub [0, 1, 2] rfl (Z_Mo_enter_267 C hR Rt K150 _ _ _ _ h)
def L_Mo_enter_150 (post : Mem → Prop) : Nat → Nat → Int32 → Int32 → Mem → Prop
  | 0, _, _, _, _ => False
  | n + 1, a0, x1, x3, M => B_Mo_enter_150 (L_Mo_enter_150 post n) post a0 x1 x3 M
theorem Y_Mo_enter_150 {x : Ctx} {post : Mem → Prop} (C : Ok x b_Mo_enter 6 "HeapTowerModel") (hR : xR x = rm_Mo_enter) (Rt : RetV x post 0 0) : ∀ (n : Nat) (a0 : Nat) (x1 : Int32) (x3 : Int32) (M : Mem), L_Mo_enter_150 post n a0 x1 x3 M → J x 6 150 [(0, .ref (xd x a0)), (1, .int x1), (3, .int x3)] [] 0 0 M := by
  intro n
  induction n with
  | zero => intro a0 x1 x3 M h; exact h.elim
  | succ n ih => intro a0 x1 x3 M h; exact Z_Mo_enter_150 C hR Rt ih _ _ _ _ h
def B_Mo_enter_92 (k92 : Nat → Int32 → Int32 → Int32 → Mem → Prop) (post : Mem → Prop) (a0 : Nat) (x1 : Int32) (x2 : Int32) (x3 : Int32) (M : Mem) : Prop := (isK M a0 7 ∧ ((gI M a0 8) ≤ x3 → (isK M a0 7 ∧ ∃ q132, gR M a0 11 = some q132 ∧ isA M q132 9 x1 ∧ isK (sI M q132 (Int32.toNatClampNeg x1) (vp_nar .boolean 1)) a0 7 ∧ isK (sI M q132 (Int32.toNatClampNeg x1) (vp_nar .boolean 1)) a0 7 ∧ ∃ n, L_Mo_enter_150 post n a0 x1 0 (sI (sI M q132 (Int32.toNatClampNeg x1) (vp_nar .boolean 1)) a0 12 ((gI (sI M q132 (Int32.toNatClampNeg x1) (vp_nar .boolean 1)) a0 12) + 1)))) ∧ (¬ (gI M a0 8) ≤ x3 → (isK M a0 7 ∧ ∃ q101, gR M a0 9 = some q101 ∧ isK M a0 7 ∧ ∃ q114, gR M a0 10 = some q114 ∧ isA M q114 8 x3 ∧ isK M a0 7 ∧ T_Mo_mod a0 ((Int32.toInt64 x2) * (Int32.toInt64 (gI M q114 (Int32.toNatClampNeg x3)))) M (fun r121 M121 => isA M121 q101 8 ((66 * x1) + x3) ∧ k92 a0 x1 x2 (x3 + 1) (sI M121 q101 (Int32.toNatClampNeg ((66 * x1) + x3)) r121)))))
set_option maxRecDepth 20000 in
theorem Z_Mo_enter_92 {x : Ctx} {post : Mem → Prop} (C : Ok x b_Mo_enter 6 "HeapTowerModel") (hR : xR x = rm_Mo_enter) (Rt : RetV x post 0 0) {k92 : Nat → Int32 → Int32 → Int32 → Mem → Prop} (K92 : ∀ (a0 : Nat) (x1 : Int32) (x2 : Int32) (x3 : Int32) (M : Mem), k92 a0 x1 x2 x3 M → J x 6 92 [(0, .ref (xd x a0)), (1, .int x1), (2, .int x2), (3, .int x3)] [] 0 0 M) (a0 : Nat) (x1 : Int32) (x2 : Int32) (x3 : Int32) (M : Mem) (h : B_Mo_enter_92 k92 post a0 x1 x2 x3 M) : J x 6 92 [(0, .ref (xd x a0)), (1, .int x1), (2, .int x2), (3, .int x3)] [] 0 0 M := by
  unfold B_Mo_enter_92 at h
  refine J_iload_n C 3 D_Mo_enter_92 rfl rfl ?_
  refine J_aload_n C 0 D_Mo_enter_93 rfl rfl ?_
  obtain ⟨c_94, h⟩ := h
  refine J_getI C fl_Mo_115 D_Mo_enter_94 c_94 ?_
  refine J_icmp_ge (tgt := 131) C D_Mo_enter_97 (by decide) (fun c_97 => ?_) (fun c_97 => ?_)
  · have h := h.1 c_97
    refine J_aload_n C 0 D_Mo_enter_131 rfl rfl ?_
    obtain ⟨c_132, q132, e_132, h⟩ := h
    refine J_getR C fl_Mo_32 D_Mo_enter_132 c_132 e_132 ?_
    refine J_iload_n C 1 D_Mo_enter_135 rfl rfl ?_
    refine J_iconst (v := 1) C D_Mo_enter_136 rfl ?_
    obtain ⟨c_137, h⟩ := h
    refine J_zast C D_Mo_enter_137 c_137 ?_
    refine J_aload_n C 0 D_Mo_enter_138 rfl rfl ?_
    refine J_dup C D_Mo_enter_139 rfl ?_
    obtain ⟨c_140, h⟩ := h
    refine J_getI C fl_Mo_121 D_Mo_enter_140 c_140 ?_
    refine J_iconst (v := 1) C D_Mo_enter_143 rfl ?_
    refine J_iadd C D_Mo_enter_144 ?_
    obtain ⟨c_145, h⟩ := h
    refine J_putI C fl_Mo_121 D_Mo_enter_145 c_145 ?_
    refine J_iconst (v := 0) C D_Mo_enter_148 rfl ?_
    refine J_istore_n (lv' := [(3, .int 0), (0, .ref (xd x a0)), (1, .int x1), (2, .int x2)]) C 3 D_Mo_enter_149 rfl (by decide) rfl ?_
    obtain ⟨n, h⟩ := h
    exact J_sub [1, 2, 0] rfl (Y_Mo_enter_150 C hR Rt  n _ _ _ _ h)
  · have h := h.2 c_97
    refine J_aload_n C 0 D_Mo_enter_100 rfl rfl ?_
    obtain ⟨c_101, q101, e_101, h⟩ := h
    refine J_getR C fl_Mo_26 D_Mo_enter_101 c_101 e_101 ?_
    refine J_bipush (v := 66) C D_Mo_enter_104 rfl ?_
    refine J_iload_n C 1 D_Mo_enter_106 rfl rfl ?_
    refine J_imul C D_Mo_enter_107 ?_
    refine J_iload_n C 3 D_Mo_enter_108 rfl rfl ?_
    refine J_iadd C D_Mo_enter_109 ?_
    refine J_aload_n C 0 D_Mo_enter_110 rfl rfl ?_
    refine J_iload_n C 2 D_Mo_enter_111 rfl rfl ?_
    refine J_i2l C D_Mo_enter_112 ?_
    refine J_aload_n C 0 D_Mo_enter_113 rfl rfl ?_
    obtain ⟨c_114, q114, e_114, h⟩ := h
    refine J_getR C fl_Mo_29 D_Mo_enter_114 c_114 e_114 ?_
    refine J_iload_n C 3 D_Mo_enter_117 rfl rfl ?_
    obtain ⟨c_118, h⟩ := h
    refine J_iald C D_Mo_enter_118 c_118 ?_
    refine J_i2l C D_Mo_enter_119 ?_
    refine J_lmul C D_Mo_enter_120 ?_
    obtain ⟨c_121, h⟩ := h
    refine J_callVi C ml_Mo_48 (S_Mo_mod _ _ _ _ h) (by rw [hR]; decide) rfl c_121 rfl (Nat.le_of_ble_eq_true rfl) D_Mo_enter_121 (fun r121 M121 h => ?_)
    obtain ⟨c_124, h⟩ := h
    refine J_iast C D_Mo_enter_124 c_124 ?_
    refine J_iinc (v := x3 + 1) (lv' := [(3, .int (x3 + 1)), (0, .ref (xd x a0)), (1, .int x1), (2, .int x2)]) C 3 3 D_Mo_enter_125 rfl rfl (by decide) rfl ?_
    refine J_goto (tgt := 92) C D_Mo_enter_128 (by decide) ?_
    exact J_sub [1, 2, 3, 0] rfl (K92 _ _ _ _ _ h)
def L_Mo_enter_92 (post : Mem → Prop) : Nat → Nat → Int32 → Int32 → Int32 → Mem → Prop
  | 0, _, _, _, _, _ => False
  | n + 1, a0, x1, x2, x3, M => B_Mo_enter_92 (L_Mo_enter_92 post n) post a0 x1 x2 x3 M
theorem Y_Mo_enter_92 {x : Ctx} {post : Mem → Prop} (C : Ok x b_Mo_enter 6 "HeapTowerModel") (hR : xR x = rm_Mo_enter) (Rt : RetV x post 0 0) : ∀ (n : Nat) (a0 : Nat) (x1 : Int32) (x2 : Int32) (x3 : Int32) (M : Mem), L_Mo_enter_92 post n a0 x1 x2 x3 M → J x 6 92 [(0, .ref (xd x a0)), (1, .int x1), (2, .int x2), (3, .int x3)] [] 0 0 M := by
  intro n
  induction n with
  | zero => intro a0 x1 x2 x3 M h; exact h.elim
  | succ n ih => intro a0 x1 x2 x3 M h; exact Z_Mo_enter_92 C hR Rt ih _ _ _ _ _ h
def B_Mo_enter_70 (post : Mem → Prop) (a0 : Nat) (x1 : Int32) (M : Mem) : Prop := (isK M a0 7 ∧ (¬ x1 = (gI M a0 8) → (isK M a0 7 ∧ ∃ q81, gR M a0 10 = some q81 ∧ isA M q81 8 x1 ∧ isK M a0 7 ∧ T_Mo_inverse a0 (gI M q81 (Int32.toNatClampNeg x1)) M (fun r86 M86 => ∃ n, L_Mo_enter_92 post n a0 x1 r86 0 M86))) ∧ (x1 = (gI M a0 8) → (post M)))
set_option maxRecDepth 20000 in
theorem Z_Mo_enter_70 {x : Ctx} {post : Mem → Prop} (C : Ok x b_Mo_enter 6 "HeapTowerModel") (hR : xR x = rm_Mo_enter) (Rt : RetV x post 0 0) (a0 : Nat) (x1 : Int32) (M : Mem) (h : B_Mo_enter_70 post a0 x1 M) : J x 6 70 [(0, .ref (xd x a0)), (1, .int x1)] [] 0 0 M := by
  unfold B_Mo_enter_70 at h
  refine J_iload_n C 1 D_Mo_enter_70 rfl rfl ?_
  refine J_aload_n C 0 D_Mo_enter_71 rfl rfl ?_
  obtain ⟨c_72, h⟩ := h
  refine J_getI C fl_Mo_115 D_Mo_enter_72 c_72 ?_
  refine J_icmp_ne (tgt := 79) C D_Mo_enter_75 (by decide) (fun c_75 => ?_) (fun c_75 => ?_)
  · have h := h.1 c_75
    refine J_aload_n C 0 D_Mo_enter_79 rfl rfl ?_
    refine J_aload_n C 0 D_Mo_enter_80 rfl rfl ?_
    obtain ⟨c_81, q81, e_81, h⟩ := h
    refine J_getR C fl_Mo_29 D_Mo_enter_81 c_81 e_81 ?_
    refine J_iload_n C 1 D_Mo_enter_84 rfl rfl ?_
    obtain ⟨c_85, h⟩ := h
    refine J_iald C D_Mo_enter_85 c_85 ?_
    obtain ⟨c_86, h⟩ := h
    refine J_callVi C ml_Mo_127 (S_Mo_inverse _ _ _ _ h) (by rw [hR]; decide) rfl c_86 rfl (Nat.le_of_ble_eq_true rfl) D_Mo_enter_86 (fun r86 M86 h => ?_)
    refine J_istore_n (lv' := [(2, .int r86), (0, .ref (xd x a0)), (1, .int x1)]) C 2 D_Mo_enter_89 rfl (by decide) rfl ?_
    refine J_iconst (v := 0) C D_Mo_enter_90 rfl ?_
    refine J_istore_n (lv' := [(3, .int 0), (2, .int r86), (0, .ref (xd x a0)), (1, .int x1)]) C 3 D_Mo_enter_91 rfl (by decide) rfl ?_
    obtain ⟨n, h⟩ := h
    exact J_sub [2, 3, 1, 0] rfl (Y_Mo_enter_92 C hR Rt  n _ _ _ _ _ h)
  · have h := h.2 c_75
    exact J_vret C Rt D_Mo_enter_78 h
def B_Mo_enter_47 (k47 : Nat → Int32 → Mem → Prop) (post : Mem → Prop) (a0 : Nat) (x1 : Int32) (M : Mem) : Prop := (isK M a0 7 ∧ ((gI M a0 8) ≤ x1 → (B_Mo_enter_70 post a0 x1 M)) ∧ (¬ (gI M a0 8) ≤ x1 → (isK M a0 7 ∧ ∃ q56, gR M a0 10 = some q56 ∧ isA M q56 8 x1 ∧ (¬ (gI M q56 (Int32.toNatClampNeg x1)) = 0 → (B_Mo_enter_70 post a0 x1 M)) ∧ ((gI M q56 (Int32.toNatClampNeg x1)) = 0 → (k47 a0 (x1 + 1) M)))))
set_option maxRecDepth 20000 in
theorem Z_Mo_enter_47 {x : Ctx} {post : Mem → Prop} (C : Ok x b_Mo_enter 6 "HeapTowerModel") (hR : xR x = rm_Mo_enter) (Rt : RetV x post 0 0) {k47 : Nat → Int32 → Mem → Prop} (K47 : ∀ (a0 : Nat) (x1 : Int32) (M : Mem), k47 a0 x1 M → J x 6 47 [(0, .ref (xd x a0)), (1, .int x1)] [] 0 0 M) (a0 : Nat) (x1 : Int32) (M : Mem) (h : B_Mo_enter_47 k47 post a0 x1 M) : J x 6 47 [(0, .ref (xd x a0)), (1, .int x1)] [] 0 0 M := by
  unfold B_Mo_enter_47 at h
  refine J_iload_n C 1 D_Mo_enter_47 rfl rfl ?_
  refine J_aload_n C 0 D_Mo_enter_48 rfl rfl ?_
  obtain ⟨c_49, h⟩ := h
  refine J_getI C fl_Mo_115 D_Mo_enter_49 c_49 ?_
  refine J_icmp_ge (tgt := 70) C D_Mo_enter_52 (by decide) (fun c_52 => ?_) (fun c_52 => ?_)
  · have h := h.1 c_52
    exact J_sub [0, 1] rfl (Z_Mo_enter_70 C hR Rt  _ _ _ h)
  · have h := h.2 c_52
    refine J_aload_n C 0 D_Mo_enter_55 rfl rfl ?_
    obtain ⟨c_56, q56, e_56, h⟩ := h
    refine J_getR C fl_Mo_29 D_Mo_enter_56 c_56 e_56 ?_
    refine J_iload_n C 1 D_Mo_enter_59 rfl rfl ?_
    obtain ⟨c_60, h⟩ := h
    refine J_iald C D_Mo_enter_60 c_60 ?_
    refine J_if_ne (tgt := 70) C D_Mo_enter_61 (by decide) (fun c_61 => ?_) (fun c_61 => ?_)
    · have h := h.1 c_61
      exact J_sub [0, 1] rfl (Z_Mo_enter_70 C hR Rt  _ _ _ h)
    · have h := h.2 c_61
      refine J_iinc (v := x1 + 1) (lv' := [(1, .int (x1 + 1)), (0, .ref (xd x a0))]) C 1 1 D_Mo_enter_64 rfl rfl (by decide) rfl ?_
      refine J_goto (tgt := 47) C D_Mo_enter_67 (by decide) ?_
      exact J_sub [1, 0] rfl (K47 _ _ _ h)
def L_Mo_enter_47 (post : Mem → Prop) : Nat → Nat → Int32 → Mem → Prop
  | 0, _, _, _ => False
  | n + 1, a0, x1, M => B_Mo_enter_47 (L_Mo_enter_47 post n) post a0 x1 M
theorem Y_Mo_enter_47 {x : Ctx} {post : Mem → Prop} (C : Ok x b_Mo_enter 6 "HeapTowerModel") (hR : xR x = rm_Mo_enter) (Rt : RetV x post 0 0) : ∀ (n : Nat) (a0 : Nat) (x1 : Int32) (M : Mem), L_Mo_enter_47 post n a0 x1 M → J x 6 47 [(0, .ref (xd x a0)), (1, .int x1)] [] 0 0 M := by
  intro n
  induction n with
  | zero => intro a0 x1 M h; exact h.elim
  | succ n ih => intro a0 x1 M h; exact Z_Mo_enter_47 C hR Rt ih _ _ _ h
def B_Mo_enter_39 (k2 : Nat → Int32 → Mem → Prop) (post : Mem → Prop) (a0 : Nat) (x1 : Int32) (M : Mem) : Prop := (k2 a0 (x1 + 1) M)
set_option maxRecDepth 20000 in
theorem Z_Mo_enter_39 {x : Ctx} {post : Mem → Prop} (C : Ok x b_Mo_enter 6 "HeapTowerModel") (hR : xR x = rm_Mo_enter) (Rt : RetV x post 0 0) {k2 : Nat → Int32 → Mem → Prop} (K2 : ∀ (a0 : Nat) (x1 : Int32) (M : Mem), k2 a0 x1 M → J x 6 2 [(0, .ref (xd x a0)), (1, .int x1)] [] 0 0 M) (a0 : Nat) (x1 : Int32) (M : Mem) (h : B_Mo_enter_39 k2 post a0 x1 M) : J x 6 39 [(0, .ref (xd x a0)), (1, .int x1)] [] 0 0 M := by
  unfold B_Mo_enter_39 at h
  refine J_iinc (v := x1 + 1) (lv' := [(1, .int (x1 + 1)), (0, .ref (xd x a0))]) C 1 1 D_Mo_enter_39 rfl rfl (by decide) rfl ?_
  refine J_goto (tgt := 2) C D_Mo_enter_42 (by decide) ?_
  exact J_sub [1, 0] rfl (K2 _ _ _ h)
def B_Mo_enter_2 (k2 : Nat → Int32 → Mem → Prop) (post : Mem → Prop) (a0 : Nat) (x1 : Int32) (M : Mem) : Prop := (isK M a0 7 ∧ ((gI M a0 8) ≤ x1 → (∃ n, L_Mo_enter_47 post n a0 0 M)) ∧ (¬ (gI M a0 8) ≤ x1 → (isK M a0 7 ∧ ∃ q11, gR M a0 11 = some q11 ∧ isA M q11 9 x1 ∧ ((gI M q11 (Int32.toNatClampNeg x1)) = 0 → (B_Mo_enter_39 k2 post a0 x1 M)) ∧ (¬ (gI M q11 (Int32.toNatClampNeg x1)) = 0 → (isK M a0 7 ∧ ∃ q20, gR M a0 10 = some q20 ∧ isA M q20 8 x1 ∧ ((gI M q20 (Int32.toNatClampNeg x1)) = 0 → (B_Mo_enter_39 k2 post a0 x1 M)) ∧ (¬ (gI M q20 (Int32.toNatClampNeg x1)) = 0 → (isK M a0 7 ∧ ∃ q31, gR M a0 10 = some q31 ∧ isA M q31 8 x1 ∧ isK M a0 7 ∧ T_Mo_less a0 x1 (gI M q31 (Int32.toNatClampNeg x1)) M (fun M36 => B_Mo_enter_39 k2 post a0 x1 M36))))))))
set_option maxRecDepth 20000 in
theorem Z_Mo_enter_2 {x : Ctx} {post : Mem → Prop} (C : Ok x b_Mo_enter 6 "HeapTowerModel") (hR : xR x = rm_Mo_enter) (Rt : RetV x post 0 0) {k2 : Nat → Int32 → Mem → Prop} (K2 : ∀ (a0 : Nat) (x1 : Int32) (M : Mem), k2 a0 x1 M → J x 6 2 [(0, .ref (xd x a0)), (1, .int x1)] [] 0 0 M) (a0 : Nat) (x1 : Int32) (M : Mem) (h : B_Mo_enter_2 k2 post a0 x1 M) : J x 6 2 [(0, .ref (xd x a0)), (1, .int x1)] [] 0 0 M := by
  unfold B_Mo_enter_2 at h
  refine J_iload_n C 1 D_Mo_enter_2 rfl rfl ?_
  refine J_aload_n C 0 D_Mo_enter_3 rfl rfl ?_
  obtain ⟨c_4, h⟩ := h
  refine J_getI C fl_Mo_115 D_Mo_enter_4 c_4 ?_
  refine J_icmp_ge (tgt := 45) C D_Mo_enter_7 (by decide) (fun c_7 => ?_) (fun c_7 => ?_)
  · have h := h.1 c_7
    refine J_iconst (v := 0) C D_Mo_enter_45 rfl ?_
    refine J_istore_n (lv' := [(1, .int 0), (0, .ref (xd x a0))]) C 1 D_Mo_enter_46 rfl (by decide) rfl ?_
    obtain ⟨n, h⟩ := h
    exact J_sub [1, 0] rfl (Y_Mo_enter_47 C hR Rt  n _ _ _ h)
  · have h := h.2 c_7
    refine J_aload_n C 0 D_Mo_enter_10 rfl rfl ?_
    obtain ⟨c_11, q11, e_11, h⟩ := h
    refine J_getR C fl_Mo_32 D_Mo_enter_11 c_11 e_11 ?_
    refine J_iload_n C 1 D_Mo_enter_14 rfl rfl ?_
    obtain ⟨c_15, h⟩ := h
    refine J_zald C D_Mo_enter_15 c_15 ?_
    refine J_if_eq (tgt := 39) C D_Mo_enter_16 (by decide) (fun c_16 => ?_) (fun c_16 => ?_)
    · have h := h.1 c_16
      exact J_sub [0, 1] rfl (Z_Mo_enter_39 C hR Rt K2 _ _ _ h)
    · have h := h.2 c_16
      refine J_aload_n C 0 D_Mo_enter_19 rfl rfl ?_
      obtain ⟨c_20, q20, e_20, h⟩ := h
      refine J_getR C fl_Mo_29 D_Mo_enter_20 c_20 e_20 ?_
      refine J_iload_n C 1 D_Mo_enter_23 rfl rfl ?_
      obtain ⟨c_24, h⟩ := h
      refine J_iald C D_Mo_enter_24 c_24 ?_
      refine J_if_eq (tgt := 39) C D_Mo_enter_25 (by decide) (fun c_25 => ?_) (fun c_25 => ?_)
      · have h := h.1 c_25
        exact J_sub [0, 1] rfl (Z_Mo_enter_39 C hR Rt K2 _ _ _ h)
      · have h := h.2 c_25
        refine J_aload_n C 0 D_Mo_enter_28 rfl rfl ?_
        refine J_iload_n C 1 D_Mo_enter_29 rfl rfl ?_
        refine J_aload_n C 0 D_Mo_enter_30 rfl rfl ?_
        obtain ⟨c_31, q31, e_31, h⟩ := h
        refine J_getR C fl_Mo_29 D_Mo_enter_31 c_31 e_31 ?_
        refine J_iload_n C 1 D_Mo_enter_34 rfl rfl ?_
        obtain ⟨c_35, h⟩ := h
        refine J_iald C D_Mo_enter_35 c_35 ?_
        obtain ⟨c_36, h⟩ := h
        refine J_callVv C ml_Mo_124 (S_Mo_less _ _ _ _ _ h) (by rw [hR]; decide) rfl c_36 rfl (Nat.le_of_ble_eq_true rfl) D_Mo_enter_36 (fun M36 h => ?_)
        exact J_sub [0, 1] rfl (Z_Mo_enter_39 C hR Rt K2 _ _ _ h)
def L_Mo_enter_2 (post : Mem → Prop) : Nat → Nat → Int32 → Mem → Prop
  | 0, _, _, _ => False
  | n + 1, a0, x1, M => B_Mo_enter_2 (L_Mo_enter_2 post n) post a0 x1 M
theorem Y_Mo_enter_2 {x : Ctx} {post : Mem → Prop} (C : Ok x b_Mo_enter 6 "HeapTowerModel") (hR : xR x = rm_Mo_enter) (Rt : RetV x post 0 0) : ∀ (n : Nat) (a0 : Nat) (x1 : Int32) (M : Mem), L_Mo_enter_2 post n a0 x1 M → J x 6 2 [(0, .ref (xd x a0)), (1, .int x1)] [] 0 0 M := by
  intro n
  induction n with
  | zero => intro a0 x1 M h; exact h.elim
  | succ n ih => intro a0 x1 M h; exact Z_Mo_enter_2 C hR Rt ih _ _ _ h
def T_Mo_enter (a0 : Nat) (M : Mem) (post : Mem → Prop) : Prop := (∃ n, L_Mo_enter_2 post n a0 0 M)
set_option maxRecDepth 20000 in
theorem S_Mo_enter {l : Launch} {D : va_G} {B t g : Nat} {d : Nat → Nat} {ac : Nat → ClassId}  (a0 : Nat) (M : Mem) (post : Mem → Prop) (h : T_Mo_enter a0 M post) : Met l y_Mo_enter w_Mo_enter rm_Mo_enter (va_Pc [.ref (d a0)] (PRE D B d g t ac M)) (QV D B d g ac post) 0 0 (AB B) := by
  refine met_v (by decide +kernel) (Nat.le_of_ble_eq_true rfl) (fun x h1 hR h3 h4 h5 h6 h7 h8 C Rt Nm => ?_)
  subst h3 h4 h5 h6 h7 h8
  unfold T_Mo_enter at h
  show J x 6 0 [(0, .ref (xd x a0))] [] 0 0 M
  refine J_iconst (v := 0) C D_Mo_enter_0 rfl ?_
  refine J_istore_n (lv' := [(1, .int 0), (0, .ref (xd x a0))]) C 1 D_Mo_enter_1 rfl (by decide) rfl ?_
  obtain ⟨n, h⟩ := h
  exact J_sub [1, 0] rfl (Y_Mo_enter_2 C hR Rt  n _ _ _ h)
theorem D_Mo_spread_0 : decode b_Mo_spread 0 = .ok (.iload_n 2, 1) := by decide +kernel
theorem D_Mo_spread_1 : decode b_Mo_spread 1 = .ok (.aload_n 0, 1) := by decide +kernel
theorem D_Mo_spread_2 : decode b_Mo_spread 2 = .ok (.iload_n 1, 1) := by decide +kernel
theorem D_Mo_spread_3 : decode b_Mo_spread 3 = .ok (.invokevirtual 72, 3) := by decide +kernel
theorem D_Mo_spread_6 : decode b_Mo_spread 6 = .ok (.isub, 1) := by decide +kernel
theorem D_Mo_spread_7 : decode b_Mo_spread 7 = .ok (.istore_n 3, 1) := by decide +kernel
theorem D_Mo_spread_8 : decode b_Mo_spread 8 = .ok (.iconst 0, 1) := by decide +kernel
theorem D_Mo_spread_9 : decode b_Mo_spread 9 = .ok (.istore 4, 2) := by decide +kernel
theorem D_Mo_spread_11 : decode b_Mo_spread 11 = .ok (.iload 4, 2) := by decide +kernel
theorem D_Mo_spread_13 : decode b_Mo_spread 13 = .ok (.iload_n 3, 1) := by decide +kernel
theorem D_Mo_spread_14 : decode b_Mo_spread 14 = .ok (.if_icmp .gt 138, 3) := by decide +kernel
theorem D_Mo_spread_17 : decode b_Mo_spread 17 = .ok (.iconst 0, 1) := by decide +kernel
theorem D_Mo_spread_18 : decode b_Mo_spread 18 = .ok (.istore 5, 2) := by decide +kernel
theorem D_Mo_spread_20 : decode b_Mo_spread 20 = .ok (.iload 4, 2) := by decide +kernel
theorem D_Mo_spread_22 : decode b_Mo_spread 22 = .ok (.iload 5, 2) := by decide +kernel
theorem D_Mo_spread_24 : decode b_Mo_spread 24 = .ok (.iadd, 1) := by decide +kernel
theorem D_Mo_spread_25 : decode b_Mo_spread 25 = .ok (.iload_n 3, 1) := by decide +kernel
theorem D_Mo_spread_26 : decode b_Mo_spread 26 = .ok (.if_icmp .gt 120, 3) := by decide +kernel
theorem D_Mo_spread_29 : decode b_Mo_spread 29 = .ok (.iload_n 3, 1) := by decide +kernel
theorem D_Mo_spread_30 : decode b_Mo_spread 30 = .ok (.iload 4, 2) := by decide +kernel
theorem D_Mo_spread_32 : decode b_Mo_spread 32 = .ok (.isub, 1) := by decide +kernel
theorem D_Mo_spread_33 : decode b_Mo_spread 33 = .ok (.iload 5, 2) := by decide +kernel
theorem D_Mo_spread_35 : decode b_Mo_spread 35 = .ok (.isub, 1) := by decide +kernel
theorem D_Mo_spread_36 : decode b_Mo_spread 36 = .ok (.istore 6, 2) := by decide +kernel
theorem D_Mo_spread_38 : decode b_Mo_spread 38 = .ok (.aload_n 0, 1) := by decide +kernel
theorem D_Mo_spread_39 : decode b_Mo_spread 39 = .ok (.iload 4, 2) := by decide +kernel
theorem D_Mo_spread_41 : decode b_Mo_spread 41 = .ok (.iload 5, 2) := by decide +kernel
theorem D_Mo_spread_43 : decode b_Mo_spread 43 = .ok (.iload 6, 2) := by decide +kernel
theorem D_Mo_spread_45 : decode b_Mo_spread 45 = .ok (.invokevirtual 94, 3) := by decide +kernel
theorem D_Mo_spread_48 : decode b_Mo_spread 48 = .ok (.ifCond .ne 6, 3) := by decide +kernel
theorem D_Mo_spread_51 : decode b_Mo_spread 51 = .ok (.goto 89, 3) := by decide +kernel
theorem D_Mo_spread_54 : decode b_Mo_spread 54 = .ok (.iconst 0, 1) := by decide +kernel
theorem D_Mo_spread_55 : decode b_Mo_spread 55 = .ok (.istore 7, 2) := by decide +kernel
theorem D_Mo_spread_57 : decode b_Mo_spread 57 = .ok (.iload 7, 2) := by decide +kernel
theorem D_Mo_spread_59 : decode b_Mo_spread 59 = .ok (.aload_n 0, 1) := by decide +kernel
theorem D_Mo_spread_60 : decode b_Mo_spread 60 = .ok (.getfield 115, 3) := by decide +kernel
theorem D_Mo_spread_63 : decode b_Mo_spread 63 = .ok (.if_icmp .ge 17, 3) := by decide +kernel
theorem D_Mo_spread_66 : decode b_Mo_spread 66 = .ok (.aload_n 0, 1) := by decide +kernel
theorem D_Mo_spread_67 : decode b_Mo_spread 67 = .ok (.getfield 29, 3) := by decide +kernel
theorem D_Mo_spread_70 : decode b_Mo_spread 70 = .ok (.iload 7, 2) := by decide +kernel
theorem D_Mo_spread_72 : decode b_Mo_spread 72 = .ok (.iconst 0, 1) := by decide +kernel
theorem D_Mo_spread_73 : decode b_Mo_spread 73 = .ok (.iastore, 1) := by decide +kernel
theorem D_Mo_spread_74 : decode b_Mo_spread 74 = .ok (.iinc 7 1, 3) := by decide +kernel
theorem D_Mo_spread_77 : decode b_Mo_spread 77 = .ok (.goto (-20), 3) := by decide +kernel
theorem D_Mo_spread_80 : decode b_Mo_spread 80 = .ok (.iconst 0, 1) := by decide +kernel
theorem D_Mo_spread_81 : decode b_Mo_spread 81 = .ok (.istore 7, 2) := by decide +kernel
theorem D_Mo_spread_83 : decode b_Mo_spread 83 = .ok (.iload 7, 2) := by decide +kernel
theorem D_Mo_spread_85 : decode b_Mo_spread 85 = .ok (.sipush 1331, 3) := by decide +kernel
theorem D_Mo_spread_88 : decode b_Mo_spread 88 = .ok (.if_icmp .ge 48, 3) := by decide +kernel
theorem D_Mo_spread_91 : decode b_Mo_spread 91 = .ok (.aload_n 0, 1) := by decide +kernel
theorem D_Mo_spread_92 : decode b_Mo_spread 92 = .ok (.iload_n 1, 1) := by decide +kernel
theorem D_Mo_spread_93 : decode b_Mo_spread 93 = .ok (.iload 7, 2) := by decide +kernel
theorem D_Mo_spread_95 : decode b_Mo_spread 95 = .ok (.invokevirtual 69, 3) := by decide +kernel
theorem D_Mo_spread_98 : decode b_Mo_spread 98 = .ok (.ifCond .eq 32, 3) := by decide +kernel
theorem D_Mo_spread_101 : decode b_Mo_spread 101 = .ok (.aload_n 0, 1) := by decide +kernel
theorem D_Mo_spread_102 : decode b_Mo_spread 102 = .ok (.getfield 29, 3) := by decide +kernel
theorem D_Mo_spread_105 : decode b_Mo_spread 105 = .ok (.aload_n 0, 1) := by decide +kernel
theorem D_Mo_spread_106 : decode b_Mo_spread 106 = .ok (.getfield 23, 3) := by decide +kernel
theorem D_Mo_spread_109 : decode b_Mo_spread 109 = .ok (.iload 7, 2) := by decide +kernel
theorem D_Mo_spread_111 : decode b_Mo_spread 111 = .ok (.iload 4, 2) := by decide +kernel
theorem D_Mo_spread_113 : decode b_Mo_spread 113 = .ok (.iload 5, 2) := by decide +kernel
theorem D_Mo_spread_115 : decode b_Mo_spread 115 = .ok (.iload 6, 2) := by decide +kernel
theorem D_Mo_spread_117 : decode b_Mo_spread 117 = .ok (.invokestatic 97, 3) := by decide +kernel
theorem D_Mo_spread_120 : decode b_Mo_spread 120 = .ok (.iadd, 1) := by decide +kernel
theorem D_Mo_spread_121 : decode b_Mo_spread 121 = .ok (.iaload, 1) := by decide +kernel
theorem D_Mo_spread_122 : decode b_Mo_spread 122 = .ok (.aload_n 0, 1) := by decide +kernel
theorem D_Mo_spread_123 : decode b_Mo_spread 123 = .ok (.iload_n 1, 1) := by decide +kernel
theorem D_Mo_spread_124 : decode b_Mo_spread 124 = .ok (.iload 7, 2) := by decide +kernel
theorem D_Mo_spread_126 : decode b_Mo_spread 126 = .ok (.invokevirtual 69, 3) := by decide +kernel
theorem D_Mo_spread_129 : decode b_Mo_spread 129 = .ok (.iastore, 1) := by decide +kernel
theorem D_Mo_spread_130 : decode b_Mo_spread 130 = .ok (.iinc 7 1, 3) := by decide +kernel
theorem D_Mo_spread_133 : decode b_Mo_spread 133 = .ok (.goto (-50), 3) := by decide +kernel
theorem D_Mo_spread_136 : decode b_Mo_spread 136 = .ok (.aload_n 0, 1) := by decide +kernel
theorem D_Mo_spread_137 : decode b_Mo_spread 137 = .ok (.invokevirtual 130, 3) := by decide +kernel
theorem D_Mo_spread_140 : decode b_Mo_spread 140 = .ok (.iinc 5 1, 3) := by decide +kernel
theorem D_Mo_spread_143 : decode b_Mo_spread 143 = .ok (.goto (-123), 3) := by decide +kernel
theorem D_Mo_spread_146 : decode b_Mo_spread 146 = .ok (.iinc 4 1, 3) := by decide +kernel
theorem D_Mo_spread_149 : decode b_Mo_spread 149 = .ok (.goto (-138), 3) := by decide +kernel
theorem D_Mo_spread_152 : decode b_Mo_spread 152 = .ok (.return_, 1) := by decide +kernel
abbrev rm_Mo_spread : Room := { frames := 3, cells := 0, slots := 0, locals := 72 }
def B_Mo_spread_140 (k11 : Nat → Int32 → Int32 → Int32 → Mem → Prop) (k20 : Nat → Int32 → Int32 → Int32 → Int32 → Mem → Prop) (post : Mem → Prop) (a0 : Nat) (x1 : Int32) (x3 : Int32) (x4 : Int32) (x5 : Int32) (M : Mem) : Prop := (k20 a0 x1 x3 x4 (x5 + 1) M)
set_option maxRecDepth 20000 in
theorem Z_Mo_spread_140 {x : Ctx} {post : Mem → Prop} (C : Ok x b_Mo_spread 8 "HeapTowerModel") (hR : xR x = rm_Mo_spread) (Rt : RetV x post 0 0) {k11 : Nat → Int32 → Int32 → Int32 → Mem → Prop} (K11 : ∀ (a0 : Nat) (x1 : Int32) (x3 : Int32) (x4 : Int32) (M : Mem), k11 a0 x1 x3 x4 M → J x 8 11 [(0, .ref (xd x a0)), (1, .int x1), (3, .int x3), (4, .int x4)] [] 0 0 M) {k20 : Nat → Int32 → Int32 → Int32 → Int32 → Mem → Prop} (K20 : ∀ (a0 : Nat) (x1 : Int32) (x3 : Int32) (x4 : Int32) (x5 : Int32) (M : Mem), k20 a0 x1 x3 x4 x5 M → J x 8 20 [(0, .ref (xd x a0)), (1, .int x1), (3, .int x3), (4, .int x4), (5, .int x5)] [] 0 0 M) (a0 : Nat) (x1 : Int32) (x3 : Int32) (x4 : Int32) (x5 : Int32) (M : Mem) (h : B_Mo_spread_140 k11 k20 post a0 x1 x3 x4 x5 M) : J x 8 140 [(0, .ref (xd x a0)), (1, .int x1), (3, .int x3), (4, .int x4), (5, .int x5)] [] 0 0 M := by
  unfold B_Mo_spread_140 at h
  refine J_iinc (v := x5 + 1) (lv' := [(5, .int (x5 + 1)), (0, .ref (xd x a0)), (1, .int x1), (3, .int x3), (4, .int x4)]) C 5 4 D_Mo_spread_140 rfl rfl (by decide) rfl ?_
  refine J_goto (tgt := 20) C D_Mo_spread_143 (by decide) ?_
  exact J_sub [1, 2, 3, 4, 0] rfl (K20 _ _ _ _ _ _ h)
def B_Mo_spread_130 (k11 : Nat → Int32 → Int32 → Int32 → Mem → Prop) (k20 : Nat → Int32 → Int32 → Int32 → Int32 → Mem → Prop) (k83 : Nat → Int32 → Int32 → Int32 → Int32 → Int32 → Int32 → Mem → Prop) (post : Mem → Prop) (a0 : Nat) (x1 : Int32) (x3 : Int32) (x4 : Int32) (x5 : Int32) (x6 : Int32) (x7 : Int32) (M : Mem) : Prop := (k83 a0 x1 x3 x4 x5 x6 (x7 + 1) M)
set_option maxRecDepth 20000 in
theorem Z_Mo_spread_130 {x : Ctx} {post : Mem → Prop} (C : Ok x b_Mo_spread 8 "HeapTowerModel") (hR : xR x = rm_Mo_spread) (Rt : RetV x post 0 0) {k11 : Nat → Int32 → Int32 → Int32 → Mem → Prop} (K11 : ∀ (a0 : Nat) (x1 : Int32) (x3 : Int32) (x4 : Int32) (M : Mem), k11 a0 x1 x3 x4 M → J x 8 11 [(0, .ref (xd x a0)), (1, .int x1), (3, .int x3), (4, .int x4)] [] 0 0 M) {k20 : Nat → Int32 → Int32 → Int32 → Int32 → Mem → Prop} (K20 : ∀ (a0 : Nat) (x1 : Int32) (x3 : Int32) (x4 : Int32) (x5 : Int32) (M : Mem), k20 a0 x1 x3 x4 x5 M → J x 8 20 [(0, .ref (xd x a0)), (1, .int x1), (3, .int x3), (4, .int x4), (5, .int x5)] [] 0 0 M) {k83 : Nat → Int32 → Int32 → Int32 → Int32 → Int32 → Int32 → Mem → Prop} (K83 : ∀ (a0 : Nat) (x1 : Int32) (x3 : Int32) (x4 : Int32) (x5 : Int32) (x6 : Int32) (x7 : Int32) (M : Mem), k83 a0 x1 x3 x4 x5 x6 x7 M → J x 8 83 [(0, .ref (xd x a0)), (1, .int x1), (3, .int x3), (4, .int x4), (5, .int x5), (6, .int x6), (7, .int x7)] [] 0 0 M) (a0 : Nat) (x1 : Int32) (x3 : Int32) (x4 : Int32) (x5 : Int32) (x6 : Int32) (x7 : Int32) (M : Mem) (h : B_Mo_spread_130 k11 k20 k83 post a0 x1 x3 x4 x5 x6 x7 M) : J x 8 130 [(0, .ref (xd x a0)), (1, .int x1), (3, .int x3), (4, .int x4), (5, .int x5), (6, .int x6), (7, .int x7)] [] 0 0 M := by
  unfold B_Mo_spread_130 at h
  refine J_iinc (v := x7 + 1) (lv' := [(7, .int (x7 + 1)), (0, .ref (xd x a0)), (1, .int x1), (3, .int x3), (4, .int x4), (5, .int x5), (6, .int x6)]) C 7 6 D_Mo_spread_130 rfl rfl (by decide) rfl ?_
  refine J_goto (tgt := 83) C D_Mo_spread_133 (by decide) ?_
  exact J_sub [1, 2, 3, 4, 5, 6, 0] rfl (K83 _ _ _ _ _ _ _ _ h)
def B_Mo_spread_83 (k11 : Nat → Int32 → Int32 → Int32 → Mem → Prop) (k20 : Nat → Int32 → Int32 → Int32 → Int32 → Mem → Prop) (k83 : Nat → Int32 → Int32 → Int32 → Int32 → Int32 → Int32 → Mem → Prop) (post : Mem → Prop) (a0 : Nat) (x1 : Int32) (x3 : Int32) (x4 : Int32) (x5 : Int32) (x6 : Int32) (x7 : Int32) (M : Mem) : Prop := ((1331 ≤ x7 → (isK M a0 7 ∧ T_Mo_enter a0 M (fun M137 => B_Mo_spread_140 k11 k20 post a0 x1 x3 x4 x5 M137))) ∧ (¬ 1331 ≤ x7 → (isK M a0 7 ∧ T_Mo_get a0 x1 x7 M (fun r95 M95 => (r95 = 0 → (B_Mo_spread_130 k11 k20 k83 post a0 x1 x3 x4 x5 x6 x7 M95)) ∧ (¬ r95 = 0 → (isK M95 a0 7 ∧ ∃ q102, gR M95 a0 10 = some q102 ∧ isK M95 a0 7 ∧ ∃ q106, gR M95 a0 7 = some q106 ∧ T_Mo_powers x4 x5 x6 M95 (fun r117 M117 => isA M117 q106 8 (x7 + r117) ∧ isK M117 a0 7 ∧ T_Mo_get a0 x1 x7 M117 (fun r126 M126 => isA M126 q102 8 (gI M117 q106 (Int32.toNatClampNeg (x7 + r117))) ∧ B_Mo_spread_130 k11 k20 k83 post a0 x1 x3 x4 x5 x6 x7 (sI M126 q102 (Int32.toNatClampNeg (gI M117 q106 (Int32.toNatClampNeg (x7 + r117)))) r126)))))))))
set_option maxRecDepth 20000 in
theorem Z_Mo_spread_83 {x : Ctx} {post : Mem → Prop} (C : Ok x b_Mo_spread 8 "HeapTowerModel") (hR : xR x = rm_Mo_spread) (Rt : RetV x post 0 0) {k11 : Nat → Int32 → Int32 → Int32 → Mem → Prop} (K11 : ∀ (a0 : Nat) (x1 : Int32) (x3 : Int32) (x4 : Int32) (M : Mem), k11 a0 x1 x3 x4 M → J x 8 11 [(0, .ref (xd x a0)), (1, .int x1), (3, .int x3), (4, .int x4)] [] 0 0 M) {k20 : Nat → Int32 → Int32 → Int32 → Int32 → Mem → Prop} (K20 : ∀ (a0 : Nat) (x1 : Int32) (x3 : Int32) (x4 : Int32) (x5 : Int32) (M : Mem), k20 a0 x1 x3 x4 x5 M → J x 8 20 [(0, .ref (xd x a0)), (1, .int x1), (3, .int x3), (4, .int x4), (5, .int x5)] [] 0 0 M) {k83 : Nat → Int32 → Int32 → Int32 → Int32 → Int32 → Int32 → Mem → Prop} (K83 : ∀ (a0 : Nat) (x1 : Int32) (x3 : Int32) (x4 : Int32) (x5 : Int32) (x6 : Int32) (x7 : Int32) (M : Mem), k83 a0 x1 x3 x4 x5 x6 x7 M → J x 8 83 [(0, .ref (xd x a0)), (1, .int x1), (3, .int x3), (4, .int x4), (5, .int x5), (6, .int x6), (7, .int x7)] [] 0 0 M) (a0 : Nat) (x1 : Int32) (x3 : Int32) (x4 : Int32) (x5 : Int32) (x6 : Int32) (x7 : Int32) (M : Mem) (h : B_Mo_spread_83 k11 k20 k83 post a0 x1 x3 x4 x5 x6 x7 M) : J x 8 83 [(0, .ref (xd x a0)), (1, .int x1), (3, .int x3), (4, .int x4), (5, .int x5), (6, .int x6), (7, .int x7)] [] 0 0 M := by
  unfold B_Mo_spread_83 at h
  refine J_iload C 7 D_Mo_spread_83 rfl ?_
  refine J_sipush (v := 1331) C D_Mo_spread_85 rfl ?_
  refine J_icmp_ge (tgt := 136) C D_Mo_spread_88 (by decide) (fun c_88 => ?_) (fun c_88 => ?_)
  · have h := h.1 c_88
    refine J_aload_n C 0 D_Mo_spread_136 rfl rfl ?_
    obtain ⟨c_137, h⟩ := h
    refine J_callVv C ml_Mo_130 (S_Mo_enter _ _ _ h) (by rw [hR]; decide) rfl c_137 rfl (Nat.le_of_ble_eq_true rfl) D_Mo_spread_137 (fun M137 h => ?_)
    exact J_sub [0, 1, 2, 3, 4] rfl (Z_Mo_spread_140 C hR Rt K11 K20 _ _ _ _ _ _ h)
  · have h := h.2 c_88
    refine J_aload_n C 0 D_Mo_spread_91 rfl rfl ?_
    refine J_iload_n C 1 D_Mo_spread_92 rfl rfl ?_
    refine J_iload C 7 D_Mo_spread_93 rfl ?_
    obtain ⟨c_95, h⟩ := h
    refine J_callVi C ml_Mo_69 (S_Mo_get _ _ _ _ _ h) (by rw [hR]; decide) rfl c_95 rfl (Nat.le_of_ble_eq_true rfl) D_Mo_spread_95 (fun r95 M95 h => ?_)
    refine J_if_eq (tgt := 130) C D_Mo_spread_98 (by decide) (fun c_98 => ?_) (fun c_98 => ?_)
    · have h := h.1 c_98
      exact J_sub [0, 1, 2, 3, 4, 5, 6] rfl (Z_Mo_spread_130 C hR Rt K11 K20 K83 _ _ _ _ _ _ _ _ h)
    · have h := h.2 c_98
      refine J_aload_n C 0 D_Mo_spread_101 rfl rfl ?_
      obtain ⟨c_102, q102, e_102, h⟩ := h
      refine J_getR C fl_Mo_29 D_Mo_spread_102 c_102 e_102 ?_
      refine J_aload_n C 0 D_Mo_spread_105 rfl rfl ?_
      obtain ⟨c_106, q106, e_106, h⟩ := h
      refine J_getR C fl_Mo_23 D_Mo_spread_106 c_106 e_106 ?_
      refine J_iload C 7 D_Mo_spread_109 rfl ?_
      refine J_iload C 4 D_Mo_spread_111 rfl ?_
      refine J_iload C 5 D_Mo_spread_113 rfl ?_
      refine J_iload C 6 D_Mo_spread_115 rfl ?_
      refine J_callSi C ml_Mo_97 (S_Mo_powers _ _ _ _ _ h) (by rw [hR]; decide) rfl rfl (Nat.le_of_ble_eq_true rfl) D_Mo_spread_117 (fun r117 M117 h => ?_)
      refine J_iadd C D_Mo_spread_120 ?_
      obtain ⟨c_121, h⟩ := h
      refine J_iald C D_Mo_spread_121 c_121 ?_
      refine J_aload_n C 0 D_Mo_spread_122 rfl rfl ?_
      refine J_iload_n C 1 D_Mo_spread_123 rfl rfl ?_
      refine J_iload C 7 D_Mo_spread_124 rfl ?_
      obtain ⟨c_126, h⟩ := h
      refine J_callVi C ml_Mo_69 (S_Mo_get _ _ _ _ _ h) (by rw [hR]; decide) rfl c_126 rfl (Nat.le_of_ble_eq_true rfl) D_Mo_spread_126 (fun r126 M126 h => ?_)
      obtain ⟨c_129, h⟩ := h
      refine J_iast C D_Mo_spread_129 c_129 ?_
      exact J_sub [0, 1, 2, 3, 4, 5, 6] rfl (Z_Mo_spread_130 C hR Rt K11 K20 K83 _ _ _ _ _ _ _ _ h)
def L_Mo_spread_83 (k11 : Nat → Int32 → Int32 → Int32 → Mem → Prop) (k20 : Nat → Int32 → Int32 → Int32 → Int32 → Mem → Prop) (post : Mem → Prop) : Nat → Nat → Int32 → Int32 → Int32 → Int32 → Int32 → Int32 → Mem → Prop
  | 0, _, _, _, _, _, _, _, _ => False
  | n + 1, a0, x1, x3, x4, x5, x6, x7, M => B_Mo_spread_83 k11 k20 (L_Mo_spread_83 k11 k20 post n) post a0 x1 x3 x4 x5 x6 x7 M
theorem Y_Mo_spread_83 {x : Ctx} {post : Mem → Prop} (C : Ok x b_Mo_spread 8 "HeapTowerModel") (hR : xR x = rm_Mo_spread) (Rt : RetV x post 0 0) {k11 : Nat → Int32 → Int32 → Int32 → Mem → Prop} (K11 : ∀ (a0 : Nat) (x1 : Int32) (x3 : Int32) (x4 : Int32) (M : Mem), k11 a0 x1 x3 x4 M → J x 8 11 [(0, .ref (xd x a0)), (1, .int x1), (3, .int x3), (4, .int x4)] [] 0 0 M) {k20 : Nat → Int32 → Int32 → Int32 → Int32 → Mem → Prop} (K20 : ∀ (a0 : Nat) (x1 : Int32) (x3 : Int32) (x4 : Int32) (x5 : Int32) (M : Mem), k20 a0 x1 x3 x4 x5 M → J x 8 20 [(0, .ref (xd x a0)), (1, .int x1), (3, .int x3), (4, .int x4), (5, .int x5)] [] 0 0 M) : ∀ (n : Nat) (a0 : Nat) (x1 : Int32) (x3 : Int32) (x4 : Int32) (x5 : Int32) (x6 : Int32) (x7 : Int32) (M : Mem), L_Mo_spread_83 k11 k20 post n a0 x1 x3 x4 x5 x6 x7 M → J x 8 83 [(0, .ref (xd x a0)), (1, .int x1), (3, .int x3), (4, .int x4), (5, .int x5), (6, .int x6), (7, .int x7)] [] 0 0 M := by
  intro n
  induction n with
  | zero => intro a0 x1 x3 x4 x5 x6 x7 M h; exact h.elim
  | succ n ih => intro a0 x1 x3 x4 x5 x6 x7 M h; exact Z_Mo_spread_83 C hR Rt K11 K20 ih _ _ _ _ _ _ _ _ h
def B_Mo_spread_57 (k11 : Nat → Int32 → Int32 → Int32 → Mem → Prop) (k20 : Nat → Int32 → Int32 → Int32 → Int32 → Mem → Prop) (k57 : Nat → Int32 → Int32 → Int32 → Int32 → Int32 → Int32 → Mem → Prop) (post : Mem → Prop) (a0 : Nat) (x1 : Int32) (x3 : Int32) (x4 : Int32) (x5 : Int32) (x6 : Int32) (x7 : Int32) (M : Mem) : Prop := (isK M a0 7 ∧ ((gI M a0 8) ≤ x7 → (∃ n, L_Mo_spread_83 k11 k20 post n a0 x1 x3 x4 x5 x6 0 M)) ∧ (¬ (gI M a0 8) ≤ x7 → (isK M a0 7 ∧ ∃ q67, gR M a0 10 = some q67 ∧ isA M q67 8 x7 ∧ k57 a0 x1 x3 x4 x5 x6 (x7 + 1) (sI M q67 (Int32.toNatClampNeg x7) 0))))
set_option maxRecDepth 20000 in
theorem Z_Mo_spread_57 {x : Ctx} {post : Mem → Prop} (C : Ok x b_Mo_spread 8 "HeapTowerModel") (hR : xR x = rm_Mo_spread) (Rt : RetV x post 0 0) {k11 : Nat → Int32 → Int32 → Int32 → Mem → Prop} (K11 : ∀ (a0 : Nat) (x1 : Int32) (x3 : Int32) (x4 : Int32) (M : Mem), k11 a0 x1 x3 x4 M → J x 8 11 [(0, .ref (xd x a0)), (1, .int x1), (3, .int x3), (4, .int x4)] [] 0 0 M) {k20 : Nat → Int32 → Int32 → Int32 → Int32 → Mem → Prop} (K20 : ∀ (a0 : Nat) (x1 : Int32) (x3 : Int32) (x4 : Int32) (x5 : Int32) (M : Mem), k20 a0 x1 x3 x4 x5 M → J x 8 20 [(0, .ref (xd x a0)), (1, .int x1), (3, .int x3), (4, .int x4), (5, .int x5)] [] 0 0 M) {k57 : Nat → Int32 → Int32 → Int32 → Int32 → Int32 → Int32 → Mem → Prop} (K57 : ∀ (a0 : Nat) (x1 : Int32) (x3 : Int32) (x4 : Int32) (x5 : Int32) (x6 : Int32) (x7 : Int32) (M : Mem), k57 a0 x1 x3 x4 x5 x6 x7 M → J x 8 57 [(0, .ref (xd x a0)), (1, .int x1), (3, .int x3), (4, .int x4), (5, .int x5), (6, .int x6), (7, .int x7)] [] 0 0 M) (a0 : Nat) (x1 : Int32) (x3 : Int32) (x4 : Int32) (x5 : Int32) (x6 : Int32) (x7 : Int32) (M : Mem) (h : B_Mo_spread_57 k11 k20 k57 post a0 x1 x3 x4 x5 x6 x7 M) : J x 8 57 [(0, .ref (xd x a0)), (1, .int x1), (3, .int x3), (4, .int x4), (5, .int x5), (6, .int x6), (7, .int x7)] [] 0 0 M := by
  unfold B_Mo_spread_57 at h
  refine J_iload C 7 D_Mo_spread_57 rfl ?_
  refine J_aload_n C 0 D_Mo_spread_59 rfl rfl ?_
  obtain ⟨c_60, h⟩ := h
  refine J_getI C fl_Mo_115 D_Mo_spread_60 c_60 ?_
  refine J_icmp_ge (tgt := 80) C D_Mo_spread_63 (by decide) (fun c_63 => ?_) (fun c_63 => ?_)
  · have h := h.1 c_63
    refine J_iconst (v := 0) C D_Mo_spread_80 rfl ?_
    refine J_istore (lv' := [(7, .int 0), (0, .ref (xd x a0)), (1, .int x1), (3, .int x3), (4, .int x4), (5, .int x5), (6, .int x6)]) C 7 D_Mo_spread_81 (by decide) rfl ?_
    obtain ⟨n, h⟩ := h
    exact J_sub [1, 2, 3, 4, 5, 6, 0] rfl (Y_Mo_spread_83 C hR Rt K11 K20 n _ _ _ _ _ _ _ _ h)
  · have h := h.2 c_63
    refine J_aload_n C 0 D_Mo_spread_66 rfl rfl ?_
    obtain ⟨c_67, q67, e_67, h⟩ := h
    refine J_getR C fl_Mo_29 D_Mo_spread_67 c_67 e_67 ?_
    refine J_iload C 7 D_Mo_spread_70 rfl ?_
    refine J_iconst (v := 0) C D_Mo_spread_72 rfl ?_
    obtain ⟨c_73, h⟩ := h
    refine J_iast C D_Mo_spread_73 c_73 ?_
    refine J_iinc (v := x7 + 1) (lv' := [(7, .int (x7 + 1)), (0, .ref (xd x a0)), (1, .int x1), (3, .int x3), (4, .int x4), (5, .int x5), (6, .int x6)]) C 7 6 D_Mo_spread_74 rfl rfl (by decide) rfl ?_
    refine J_goto (tgt := 57) C D_Mo_spread_77 (by decide) ?_
    exact J_sub [1, 2, 3, 4, 5, 6, 0] rfl (K57 _ _ _ _ _ _ _ _ h)
def L_Mo_spread_57 (k11 : Nat → Int32 → Int32 → Int32 → Mem → Prop) (k20 : Nat → Int32 → Int32 → Int32 → Int32 → Mem → Prop) (post : Mem → Prop) : Nat → Nat → Int32 → Int32 → Int32 → Int32 → Int32 → Int32 → Mem → Prop
  | 0, _, _, _, _, _, _, _, _ => False
  | n + 1, a0, x1, x3, x4, x5, x6, x7, M => B_Mo_spread_57 k11 k20 (L_Mo_spread_57 k11 k20 post n) post a0 x1 x3 x4 x5 x6 x7 M
theorem Y_Mo_spread_57 {x : Ctx} {post : Mem → Prop} (C : Ok x b_Mo_spread 8 "HeapTowerModel") (hR : xR x = rm_Mo_spread) (Rt : RetV x post 0 0) {k11 : Nat → Int32 → Int32 → Int32 → Mem → Prop} (K11 : ∀ (a0 : Nat) (x1 : Int32) (x3 : Int32) (x4 : Int32) (M : Mem), k11 a0 x1 x3 x4 M → J x 8 11 [(0, .ref (xd x a0)), (1, .int x1), (3, .int x3), (4, .int x4)] [] 0 0 M) {k20 : Nat → Int32 → Int32 → Int32 → Int32 → Mem → Prop} (K20 : ∀ (a0 : Nat) (x1 : Int32) (x3 : Int32) (x4 : Int32) (x5 : Int32) (M : Mem), k20 a0 x1 x3 x4 x5 M → J x 8 20 [(0, .ref (xd x a0)), (1, .int x1), (3, .int x3), (4, .int x4), (5, .int x5)] [] 0 0 M) : ∀ (n : Nat) (a0 : Nat) (x1 : Int32) (x3 : Int32) (x4 : Int32) (x5 : Int32) (x6 : Int32) (x7 : Int32) (M : Mem), L_Mo_spread_57 k11 k20 post n a0 x1 x3 x4 x5 x6 x7 M → J x 8 57 [(0, .ref (xd x a0)), (1, .int x1), (3, .int x3), (4, .int x4), (5, .int x5), (6, .int x6), (7, .int x7)] [] 0 0 M := by
  intro n
  induction n with
  | zero => intro a0 x1 x3 x4 x5 x6 x7 M h; exact h.elim
  | succ n ih => intro a0 x1 x3 x4 x5 x6 x7 M h; exact Z_Mo_spread_57 C hR Rt K11 K20 ih _ _ _ _ _ _ _ _ h
def B_Mo_spread_20 (k11 : Nat → Int32 → Int32 → Int32 → Mem → Prop) (k20 : Nat → Int32 → Int32 → Int32 → Int32 → Mem → Prop) (post : Mem → Prop) (a0 : Nat) (x1 : Int32) (x3 : Int32) (x4 : Int32) (x5 : Int32) (M : Mem) : Prop := ((x3 < (x4 + x5) → (k11 a0 x1 x3 (x4 + 1) M)) ∧ (¬ x3 < (x4 + x5) → (isK M a0 7 ∧ T_Mo_isProduct a0 x4 x5 ((x3 - x4) - x5) M (fun r45 M45 => (¬ r45 = 0 → (∃ n, L_Mo_spread_57 k11 k20 post n a0 x1 x3 x4 x5 ((x3 - x4) - x5) 0 M45)) ∧ (r45 = 0 → (B_Mo_spread_140 k11 k20 post a0 x1 x3 x4 x5 M45))))))
set_option maxRecDepth 20000 in
theorem Z_Mo_spread_20 {x : Ctx} {post : Mem → Prop} (C : Ok x b_Mo_spread 8 "HeapTowerModel") (hR : xR x = rm_Mo_spread) (Rt : RetV x post 0 0) {k11 : Nat → Int32 → Int32 → Int32 → Mem → Prop} (K11 : ∀ (a0 : Nat) (x1 : Int32) (x3 : Int32) (x4 : Int32) (M : Mem), k11 a0 x1 x3 x4 M → J x 8 11 [(0, .ref (xd x a0)), (1, .int x1), (3, .int x3), (4, .int x4)] [] 0 0 M) {k20 : Nat → Int32 → Int32 → Int32 → Int32 → Mem → Prop} (K20 : ∀ (a0 : Nat) (x1 : Int32) (x3 : Int32) (x4 : Int32) (x5 : Int32) (M : Mem), k20 a0 x1 x3 x4 x5 M → J x 8 20 [(0, .ref (xd x a0)), (1, .int x1), (3, .int x3), (4, .int x4), (5, .int x5)] [] 0 0 M) (a0 : Nat) (x1 : Int32) (x3 : Int32) (x4 : Int32) (x5 : Int32) (M : Mem) (h : B_Mo_spread_20 k11 k20 post a0 x1 x3 x4 x5 M) : J x 8 20 [(0, .ref (xd x a0)), (1, .int x1), (3, .int x3), (4, .int x4), (5, .int x5)] [] 0 0 M := by
  unfold B_Mo_spread_20 at h
  refine J_iload C 4 D_Mo_spread_20 rfl ?_
  refine J_iload C 5 D_Mo_spread_22 rfl ?_
  refine J_iadd C D_Mo_spread_24 ?_
  refine J_iload_n C 3 D_Mo_spread_25 rfl rfl ?_
  refine J_icmp_gt (tgt := 146) C D_Mo_spread_26 (by decide) (fun c_26 => ?_) (fun c_26 => ?_)
  · have h := h.1 c_26
    refine J_iinc (v := x4 + 1) (lv' := [(4, .int (x4 + 1)), (0, .ref (xd x a0)), (1, .int x1), (3, .int x3), (5, .int x5)]) C 4 3 D_Mo_spread_146 rfl rfl (by decide) rfl ?_
    refine J_goto (tgt := 11) C D_Mo_spread_149 (by decide) ?_
    exact J_sub [1, 2, 3, 0] rfl (K11 _ _ _ _ _ h)
  · have h := h.2 c_26
    refine J_iload_n C 3 D_Mo_spread_29 rfl rfl ?_
    refine J_iload C 4 D_Mo_spread_30 rfl ?_
    refine J_isub C D_Mo_spread_32 ?_
    refine J_iload C 5 D_Mo_spread_33 rfl ?_
    refine J_isub C D_Mo_spread_35 ?_
    refine J_istore (lv' := [(6, .int ((x3 - x4) - x5)), (0, .ref (xd x a0)), (1, .int x1), (3, .int x3), (4, .int x4), (5, .int x5)]) C 6 D_Mo_spread_36 (by decide) rfl ?_
    refine J_aload_n C 0 D_Mo_spread_38 rfl rfl ?_
    refine J_iload C 4 D_Mo_spread_39 rfl ?_
    refine J_iload C 5 D_Mo_spread_41 rfl ?_
    refine J_iload C 6 D_Mo_spread_43 rfl ?_
    obtain ⟨c_45, h⟩ := h
    refine J_callVi C ml_Mo_94 (S_Mo_isProduct _ _ _ _ _ _ h) (by rw [hR]; decide) rfl c_45 rfl (Nat.le_of_ble_eq_true rfl) D_Mo_spread_45 (fun r45 M45 h => ?_)
    refine J_if_ne (tgt := 54) C D_Mo_spread_48 (by decide) (fun c_48 => ?_) (fun c_48 => ?_)
    · have h := h.1 c_48
      refine J_iconst (v := 0) C D_Mo_spread_54 rfl ?_
      refine J_istore (lv' := [(7, .int 0), (6, .int ((x3 - x4) - x5)), (0, .ref (xd x a0)), (1, .int x1), (3, .int x3), (4, .int x4), (5, .int x5)]) C 7 D_Mo_spread_55 (by decide) rfl ?_
      obtain ⟨n, h⟩ := h
      exact J_sub [2, 3, 4, 5, 6, 1, 0] rfl (Y_Mo_spread_57 C hR Rt K11 K20 n _ _ _ _ _ _ _ _ h)
    · have h := h.2 c_48
      refine J_goto (tgt := 140) C D_Mo_spread_51 (by decide) ?_
      exact J_sub [1, 2, 3, 4, 5] rfl (Z_Mo_spread_140 C hR Rt K11 K20 _ _ _ _ _ _ h)
def L_Mo_spread_20 (k11 : Nat → Int32 → Int32 → Int32 → Mem → Prop) (post : Mem → Prop) : Nat → Nat → Int32 → Int32 → Int32 → Int32 → Mem → Prop
  | 0, _, _, _, _, _, _ => False
  | n + 1, a0, x1, x3, x4, x5, M => B_Mo_spread_20 k11 (L_Mo_spread_20 k11 post n) post a0 x1 x3 x4 x5 M
theorem Y_Mo_spread_20 {x : Ctx} {post : Mem → Prop} (C : Ok x b_Mo_spread 8 "HeapTowerModel") (hR : xR x = rm_Mo_spread) (Rt : RetV x post 0 0) {k11 : Nat → Int32 → Int32 → Int32 → Mem → Prop} (K11 : ∀ (a0 : Nat) (x1 : Int32) (x3 : Int32) (x4 : Int32) (M : Mem), k11 a0 x1 x3 x4 M → J x 8 11 [(0, .ref (xd x a0)), (1, .int x1), (3, .int x3), (4, .int x4)] [] 0 0 M) : ∀ (n : Nat) (a0 : Nat) (x1 : Int32) (x3 : Int32) (x4 : Int32) (x5 : Int32) (M : Mem), L_Mo_spread_20 k11 post n a0 x1 x3 x4 x5 M → J x 8 20 [(0, .ref (xd x a0)), (1, .int x1), (3, .int x3), (4, .int x4), (5, .int x5)] [] 0 0 M := by
  intro n
  induction n with
  | zero => intro a0 x1 x3 x4 x5 M h; exact h.elim
  | succ n ih => intro a0 x1 x3 x4 x5 M h; exact Z_Mo_spread_20 C hR Rt K11 ih _ _ _ _ _ _ h
def B_Mo_spread_11 (k11 : Nat → Int32 → Int32 → Int32 → Mem → Prop) (post : Mem → Prop) (a0 : Nat) (x1 : Int32) (x3 : Int32) (x4 : Int32) (M : Mem) : Prop := ((x3 < x4 → (post M)) ∧ (¬ x3 < x4 → (∃ n, L_Mo_spread_20 k11 post n a0 x1 x3 x4 0 M)))
set_option maxRecDepth 20000 in
theorem Z_Mo_spread_11 {x : Ctx} {post : Mem → Prop} (C : Ok x b_Mo_spread 8 "HeapTowerModel") (hR : xR x = rm_Mo_spread) (Rt : RetV x post 0 0) {k11 : Nat → Int32 → Int32 → Int32 → Mem → Prop} (K11 : ∀ (a0 : Nat) (x1 : Int32) (x3 : Int32) (x4 : Int32) (M : Mem), k11 a0 x1 x3 x4 M → J x 8 11 [(0, .ref (xd x a0)), (1, .int x1), (3, .int x3), (4, .int x4)] [] 0 0 M) (a0 : Nat) (x1 : Int32) (x3 : Int32) (x4 : Int32) (M : Mem) (h : B_Mo_spread_11 k11 post a0 x1 x3 x4 M) : J x 8 11 [(0, .ref (xd x a0)), (1, .int x1), (3, .int x3), (4, .int x4)] [] 0 0 M := by
  unfold B_Mo_spread_11 at h
  refine J_iload C 4 D_Mo_spread_11 rfl ?_
  refine J_iload_n C 3 D_Mo_spread_13 rfl rfl ?_
  refine J_icmp_gt (tgt := 152) C D_Mo_spread_14 (by decide) (fun c_14 => ?_) (fun c_14 => ?_)
  · have h := h.1 c_14
    exact J_vret C Rt D_Mo_spread_152 h
  · have h := h.2 c_14
    refine J_iconst (v := 0) C D_Mo_spread_17 rfl ?_
    refine J_istore (lv' := [(5, .int 0), (0, .ref (xd x a0)), (1, .int x1), (3, .int x3), (4, .int x4)]) C 5 D_Mo_spread_18 (by decide) rfl ?_
    obtain ⟨n, h⟩ := h
    exact J_sub [1, 2, 3, 4, 0] rfl (Y_Mo_spread_20 C hR Rt K11 n _ _ _ _ _ _ h)
def L_Mo_spread_11 (post : Mem → Prop) : Nat → Nat → Int32 → Int32 → Int32 → Mem → Prop
  | 0, _, _, _, _, _ => False
  | n + 1, a0, x1, x3, x4, M => B_Mo_spread_11 (L_Mo_spread_11 post n) post a0 x1 x3 x4 M
theorem Y_Mo_spread_11 {x : Ctx} {post : Mem → Prop} (C : Ok x b_Mo_spread 8 "HeapTowerModel") (hR : xR x = rm_Mo_spread) (Rt : RetV x post 0 0) : ∀ (n : Nat) (a0 : Nat) (x1 : Int32) (x3 : Int32) (x4 : Int32) (M : Mem), L_Mo_spread_11 post n a0 x1 x3 x4 M → J x 8 11 [(0, .ref (xd x a0)), (1, .int x1), (3, .int x3), (4, .int x4)] [] 0 0 M := by
  intro n
  induction n with
  | zero => intro a0 x1 x3 x4 M h; exact h.elim
  | succ n ih => intro a0 x1 x3 x4 M h; exact Z_Mo_spread_11 C hR Rt ih _ _ _ _ _ h
def T_Mo_spread (a0 : Nat) (x1 : Int32) (x2 : Int32) (M : Mem) (post : Mem → Prop) : Prop := (isK M a0 7 ∧ T_Mo_degree a0 x1 M (fun r3 M3 => ∃ n, L_Mo_spread_11 post n a0 x1 (x2 - r3) 0 M3))
set_option maxRecDepth 20000 in
theorem S_Mo_spread {l : Launch} {D : va_G} {B t g : Nat} {d : Nat → Nat} {ac : Nat → ClassId}  (a0 : Nat) (x1 : Int32) (x2 : Int32) (M : Mem) (post : Mem → Prop) (h : T_Mo_spread a0 x1 x2 M post) : Met l y_Mo_spread w_Mo_spread rm_Mo_spread (va_Pc [.ref (d a0), .int x1, .int x2] (PRE D B d g t ac M)) (QV D B d g ac post) 0 0 (AB B) := by
  refine met_v (by decide +kernel) (Nat.le_of_ble_eq_true rfl) (fun x h1 hR h3 h4 h5 h6 h7 h8 C Rt Nm => ?_)
  subst h3 h4 h5 h6 h7 h8
  unfold T_Mo_spread at h
  show J x 8 0 [(0, .ref (xd x a0)), (1, .int x1), (2, .int x2)] [] 0 0 M
  refine J_iload_n C 2 D_Mo_spread_0 rfl rfl ?_
  refine J_aload_n C 0 D_Mo_spread_1 rfl rfl ?_
  refine J_iload_n C 1 D_Mo_spread_2 rfl rfl ?_
  obtain ⟨c_3, h⟩ := h
  refine J_callVi C ml_Mo_72 (S_Mo_degree _ _ _ _ h) (by rw [hR]; decide) rfl c_3 rfl (Nat.le_of_ble_eq_true rfl) D_Mo_spread_3 (fun r3 M3 h => ?_)
  refine J_isub C D_Mo_spread_6 ?_
  refine J_istore_n (lv' := [(3, .int (x2 - r3)), (0, .ref (xd x a0)), (1, .int x1), (2, .int x2)]) C 3 D_Mo_spread_7 rfl (by decide) rfl ?_
  refine J_iconst (v := 0) C D_Mo_spread_8 rfl ?_
  refine J_istore (lv' := [(4, .int 0), (3, .int (x2 - r3)), (0, .ref (xd x a0)), (1, .int x1), (2, .int x2)]) C 4 D_Mo_spread_9 (by decide) rfl ?_
  obtain ⟨n, h⟩ := h
  exact J_sub [2, 3, 1, 0] rfl (Y_Mo_spread_11 C hR Rt  n _ _ _ _ _ h)
theorem D_Mo_heap_0 : decode b_Mo_heap 0 = .ok (.aload_n 0, 1) := by decide +kernel
theorem D_Mo_heap_1 : decode b_Mo_heap 1 = .ok (.iload_n 1, 1) := by decide +kernel
theorem D_Mo_heap_2 : decode b_Mo_heap 2 = .ok (.invokevirtual 133, 3) := by decide +kernel
theorem D_Mo_heap_5 : decode b_Mo_heap 5 = .ok (.iconst 0, 1) := by decide +kernel
theorem D_Mo_heap_6 : decode b_Mo_heap 6 = .ok (.istore_n 2, 1) := by decide +kernel
theorem D_Mo_heap_7 : decode b_Mo_heap 7 = .ok (.iload_n 2, 1) := by decide +kernel
theorem D_Mo_heap_8 : decode b_Mo_heap 8 = .ok (.aload_n 0, 1) := by decide +kernel
theorem D_Mo_heap_9 : decode b_Mo_heap 9 = .ok (.getfield 84, 3) := by decide +kernel
theorem D_Mo_heap_12 : decode b_Mo_heap 12 = .ok (.if_icmp .ge 28, 3) := by decide +kernel
theorem D_Mo_heap_15 : decode b_Mo_heap 15 = .ok (.aload_n 0, 1) := by decide +kernel
theorem D_Mo_heap_16 : decode b_Mo_heap 16 = .ok (.iconst 1, 1) := by decide +kernel
theorem D_Mo_heap_17 : decode b_Mo_heap 17 = .ok (.iload_n 2, 1) := by decide +kernel
theorem D_Mo_heap_18 : decode b_Mo_heap 18 = .ok (.iadd, 1) := by decide +kernel
theorem D_Mo_heap_19 : decode b_Mo_heap 19 = .ok (.invokevirtual 72, 3) := by decide +kernel
theorem D_Mo_heap_22 : decode b_Mo_heap 22 = .ok (.iload_n 1, 1) := by decide +kernel
theorem D_Mo_heap_23 : decode b_Mo_heap 23 = .ok (.if_icmp .gt 11, 3) := by decide +kernel
theorem D_Mo_heap_26 : decode b_Mo_heap 26 = .ok (.aload_n 0, 1) := by decide +kernel
theorem D_Mo_heap_27 : decode b_Mo_heap 27 = .ok (.iconst 1, 1) := by decide +kernel
theorem D_Mo_heap_28 : decode b_Mo_heap 28 = .ok (.iload_n 2, 1) := by decide +kernel
theorem D_Mo_heap_29 : decode b_Mo_heap 29 = .ok (.iadd, 1) := by decide +kernel
theorem D_Mo_heap_30 : decode b_Mo_heap 30 = .ok (.iload_n 1, 1) := by decide +kernel
theorem D_Mo_heap_31 : decode b_Mo_heap 31 = .ok (.invokevirtual 136, 3) := by decide +kernel
theorem D_Mo_heap_34 : decode b_Mo_heap 34 = .ok (.iinc 2 1, 3) := by decide +kernel
theorem D_Mo_heap_37 : decode b_Mo_heap 37 = .ok (.goto (-30), 3) := by decide +kernel
theorem D_Mo_heap_40 : decode b_Mo_heap 40 = .ok (.return_, 1) := by decide +kernel
abbrev rm_Mo_heap : Room := { frames := 4, cells := 0, slots := 0, locals := 99 }
def B_Mo_heap_34 (k7 : Nat → Int32 → Int32 → Mem → Prop) (post : Mem → Prop) (a0 : Nat) (x1 : Int32) (x2 : Int32) (M : Mem) : Prop := (k7 a0 x1 (x2 + 1) M)
set_option maxRecDepth 20000 in
theorem Z_Mo_heap_34 {x : Ctx} {post : Mem → Prop} (C : Ok x b_Mo_heap 3 "HeapTowerModel") (hR : xR x = rm_Mo_heap) (Rt : RetV x post 0 0) {k7 : Nat → Int32 → Int32 → Mem → Prop} (K7 : ∀ (a0 : Nat) (x1 : Int32) (x2 : Int32) (M : Mem), k7 a0 x1 x2 M → J x 3 7 [(0, .ref (xd x a0)), (1, .int x1), (2, .int x2)] [] 0 0 M) (a0 : Nat) (x1 : Int32) (x2 : Int32) (M : Mem) (h : B_Mo_heap_34 k7 post a0 x1 x2 M) : J x 3 34 [(0, .ref (xd x a0)), (1, .int x1), (2, .int x2)] [] 0 0 M := by
  unfold B_Mo_heap_34 at h
  refine J_iinc (v := x2 + 1) (lv' := [(2, .int (x2 + 1)), (0, .ref (xd x a0)), (1, .int x1)]) C 2 2 D_Mo_heap_34 rfl rfl (by decide) rfl ?_
  refine J_goto (tgt := 7) C D_Mo_heap_37 (by decide) ?_
  exact J_sub [1, 2, 0] rfl (K7 _ _ _ _ h)
def B_Mo_heap_7 (k7 : Nat → Int32 → Int32 → Mem → Prop) (post : Mem → Prop) (a0 : Nat) (x1 : Int32) (x2 : Int32) (M : Mem) : Prop := (isK M a0 7 ∧ ((gI M a0 4) ≤ x2 → (post M)) ∧ (¬ (gI M a0 4) ≤ x2 → (isK M a0 7 ∧ T_Mo_degree a0 (1 + x2) M (fun r19 M19 => (x1 < r19 → (B_Mo_heap_34 k7 post a0 x1 x2 M19)) ∧ (¬ x1 < r19 → (isK M19 a0 7 ∧ T_Mo_spread a0 (1 + x2) x1 M19 (fun M31 => B_Mo_heap_34 k7 post a0 x1 x2 M31)))))))
set_option maxRecDepth 20000 in
theorem Z_Mo_heap_7 {x : Ctx} {post : Mem → Prop} (C : Ok x b_Mo_heap 3 "HeapTowerModel") (hR : xR x = rm_Mo_heap) (Rt : RetV x post 0 0) {k7 : Nat → Int32 → Int32 → Mem → Prop} (K7 : ∀ (a0 : Nat) (x1 : Int32) (x2 : Int32) (M : Mem), k7 a0 x1 x2 M → J x 3 7 [(0, .ref (xd x a0)), (1, .int x1), (2, .int x2)] [] 0 0 M) (a0 : Nat) (x1 : Int32) (x2 : Int32) (M : Mem) (h : B_Mo_heap_7 k7 post a0 x1 x2 M) : J x 3 7 [(0, .ref (xd x a0)), (1, .int x1), (2, .int x2)] [] 0 0 M := by
  unfold B_Mo_heap_7 at h
  refine J_iload_n C 2 D_Mo_heap_7 rfl rfl ?_
  refine J_aload_n C 0 D_Mo_heap_8 rfl rfl ?_
  obtain ⟨c_9, h⟩ := h
  refine J_getI C fl_Mo_84 D_Mo_heap_9 c_9 ?_
  refine J_icmp_ge (tgt := 40) C D_Mo_heap_12 (by decide) (fun c_12 => ?_) (fun c_12 => ?_)
  · have h := h.1 c_12
    exact J_vret C Rt D_Mo_heap_40 h
  · have h := h.2 c_12
    refine J_aload_n C 0 D_Mo_heap_15 rfl rfl ?_
    refine J_iconst (v := 1) C D_Mo_heap_16 rfl ?_
    refine J_iload_n C 2 D_Mo_heap_17 rfl rfl ?_
    refine J_iadd C D_Mo_heap_18 ?_
    obtain ⟨c_19, h⟩ := h
    refine J_callVi C ml_Mo_72 (S_Mo_degree _ _ _ _ h) (by rw [hR]; decide) rfl c_19 rfl (Nat.le_of_ble_eq_true rfl) D_Mo_heap_19 (fun r19 M19 h => ?_)
    refine J_iload_n C 1 D_Mo_heap_22 rfl rfl ?_
    refine J_icmp_gt (tgt := 34) C D_Mo_heap_23 (by decide) (fun c_23 => ?_) (fun c_23 => ?_)
    · have h := h.1 c_23
      exact J_sub [0, 1, 2] rfl (Z_Mo_heap_34 C hR Rt K7 _ _ _ _ h)
    · have h := h.2 c_23
      refine J_aload_n C 0 D_Mo_heap_26 rfl rfl ?_
      refine J_iconst (v := 1) C D_Mo_heap_27 rfl ?_
      refine J_iload_n C 2 D_Mo_heap_28 rfl rfl ?_
      refine J_iadd C D_Mo_heap_29 ?_
      refine J_iload_n C 1 D_Mo_heap_30 rfl rfl ?_
      obtain ⟨c_31, h⟩ := h
      refine J_callVv C ml_Mo_136 (S_Mo_spread _ _ _ _ _ h) (by rw [hR]; decide) rfl c_31 rfl (Nat.le_of_ble_eq_true rfl) D_Mo_heap_31 (fun M31 h => ?_)
      exact J_sub [0, 1, 2] rfl (Z_Mo_heap_34 C hR Rt K7 _ _ _ _ h)
def L_Mo_heap_7 (post : Mem → Prop) : Nat → Nat → Int32 → Int32 → Mem → Prop
  | 0, _, _, _, _ => False
  | n + 1, a0, x1, x2, M => B_Mo_heap_7 (L_Mo_heap_7 post n) post a0 x1 x2 M
theorem Y_Mo_heap_7 {x : Ctx} {post : Mem → Prop} (C : Ok x b_Mo_heap 3 "HeapTowerModel") (hR : xR x = rm_Mo_heap) (Rt : RetV x post 0 0) : ∀ (n : Nat) (a0 : Nat) (x1 : Int32) (x2 : Int32) (M : Mem), L_Mo_heap_7 post n a0 x1 x2 M → J x 3 7 [(0, .ref (xd x a0)), (1, .int x1), (2, .int x2)] [] 0 0 M := by
  intro n
  induction n with
  | zero => intro a0 x1 x2 M h; exact h.elim
  | succ n ih => intro a0 x1 x2 M h; exact Z_Mo_heap_7 C hR Rt ih _ _ _ _ h
def T_Mo_heap (a0 : Nat) (x1 : Int32) (M : Mem) (post : Mem → Prop) : Prop := (isK M a0 7 ∧ T_Mo_begin a0 x1 M (fun M2 => ∃ n, L_Mo_heap_7 post n a0 x1 0 M2))
set_option maxRecDepth 20000 in
theorem S_Mo_heap {l : Launch} {D : va_G} {B t g : Nat} {d : Nat → Nat} {ac : Nat → ClassId}  (a0 : Nat) (x1 : Int32) (M : Mem) (post : Mem → Prop) (h : T_Mo_heap a0 x1 M post) : Met l y_Mo_heap w_Mo_heap rm_Mo_heap (va_Pc [.ref (d a0), .int x1] (PRE D B d g t ac M)) (QV D B d g ac post) 0 0 (AB B) := by
  refine met_v (by decide +kernel) (Nat.le_of_ble_eq_true rfl) (fun x h1 hR h3 h4 h5 h6 h7 h8 C Rt Nm => ?_)
  subst h3 h4 h5 h6 h7 h8
  unfold T_Mo_heap at h
  show J x 3 0 [(0, .ref (xd x a0)), (1, .int x1)] [] 0 0 M
  refine J_aload_n C 0 D_Mo_heap_0 rfl rfl ?_
  refine J_iload_n C 1 D_Mo_heap_1 rfl rfl ?_
  obtain ⟨c_2, h⟩ := h
  refine J_callVv C ml_Mo_133 (S_Mo_begin _ _ _ _ h) (by rw [hR]; decide) rfl c_2 rfl (Nat.le_of_ble_eq_true rfl) D_Mo_heap_2 (fun M2 h => ?_)
  refine J_iconst (v := 0) C D_Mo_heap_5 rfl ?_
  refine J_istore_n (lv' := [(2, .int 0), (0, .ref (xd x a0)), (1, .int x1)]) C 2 D_Mo_heap_6 rfl (by decide) rfl ?_
  obtain ⟨n, h⟩ := h
  exact J_sub [1, 2, 0] rfl (Y_Mo_heap_7 C hR Rt  n _ _ _ _ h)
