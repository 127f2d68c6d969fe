theorem ml_HT_9 : MLI "HeapTower" 9 y_Pr_new b_Pr_new 3 0 := ⟨List.forall_mem_cons.mpr ⟨(gw_in (List.mem_of_getElem? (i := 88) (by decide +kernel)) (by decide +kernel)), List.forall_mem_cons.mpr ⟨(gw_in (List.mem_of_getElem? (i := 89) (by decide +kernel)) (by decide +kernel)), List.forall_mem_cons.mpr ⟨(gw_in (List.mem_of_getElem? (i := 68) (by decide +kernel)) (by decide +kernel)), List.forall_mem_cons.mpr ⟨(gw_in (List.mem_of_getElem? (i := 90) (by decide +kernel)) (by decide +kernel)), fun _ h => absurd h List.not_mem_nil⟩⟩⟩⟩, by decide, rfl⟩
theorem ml_HT_18 : MLI "HeapTower" 18 y_Nu_new b_Nu_new 1 0 := ⟨List.forall_mem_cons.mpr ⟨(gw_in (List.mem_of_getElem? (i := 133) (by decide +kernel)) (by decide +kernel)), List.forall_mem_cons.mpr ⟨(gw_in (List.mem_of_getElem? (i := 134) (by decide +kernel)) (by decide +kernel)), List.forall_mem_cons.mpr ⟨(gw_in (List.mem_of_getElem? (i := 69) (by decide +kernel)) (by decide +kernel)), List.forall_mem_cons.mpr ⟨(gw_in (List.mem_of_getElem? (i := 135) (by decide +kernel)) (by decide +kernel)), fun _ h => absurd h List.not_mem_nil⟩⟩⟩⟩, by decide, rfl⟩
theorem ml_HT_25 : MLI "HeapTower" 25 y_Ro_new b_Ro_new 3 2 := ⟨List.forall_mem_cons.mpr ⟨(gw_in (List.mem_of_getElem? (i := 151) (by decide +kernel)) (by decide +kernel)), List.forall_mem_cons.mpr ⟨(gw_in (List.mem_of_getElem? (i := 152) (by decide +kernel)) (by decide +kernel)), List.forall_mem_cons.mpr ⟨(gw_in (List.mem_of_getElem? (i := 70) (by decide +kernel)) (by decide +kernel)), List.forall_mem_cons.mpr ⟨(gw_in (List.mem_of_getElem? (i := 153) (by decide +kernel)) (by decide +kernel)), fun _ h => absurd h List.not_mem_nil⟩⟩⟩⟩, by decide, rfl⟩
theorem ml_HT_43 : MLI "HeapTower" 43 y_Po_new b_Po_new 2 1 := ⟨List.forall_mem_cons.mpr ⟨(gw_in (List.mem_of_getElem? (i := 185) (by decide +kernel)) (by decide +kernel)), List.forall_mem_cons.mpr ⟨(gw_in (List.mem_of_getElem? (i := 186) (by decide +kernel)) (by decide +kernel)), List.forall_mem_cons.mpr ⟨(gw_in (List.mem_of_getElem? (i := 71) (by decide +kernel)) (by decide +kernel)), List.forall_mem_cons.mpr ⟨(gw_in (List.mem_of_getElem? (i := 187) (by decide +kernel)) (by decide +kernel)), fun _ h => absurd h List.not_mem_nil⟩⟩⟩⟩, by decide, rfl⟩
theorem ml_HT_56 : MLI "HeapTower" 56 y_Ba_new b_Ba_new 5 4 := ⟨List.forall_mem_cons.mpr ⟨(gw_in (List.mem_of_getElem? (i := 199) (by decide +kernel)) (by decide +kernel)), List.forall_mem_cons.mpr ⟨(gw_in (List.mem_of_getElem? (i := 200) (by decide +kernel)) (by decide +kernel)), List.forall_mem_cons.mpr ⟨(gw_in (List.mem_of_getElem? (i := 72) (by decide +kernel)) (by decide +kernel)), List.forall_mem_cons.mpr ⟨(gw_in (List.mem_of_getElem? (i := 201) (by decide +kernel)) (by decide +kernel)), fun _ h => absurd h List.not_mem_nil⟩⟩⟩⟩, by decide, rfl⟩
theorem ml_HT_71 : MLI "HeapTower" 71 y_He_new b_He_new 3 2 := ⟨List.forall_mem_cons.mpr ⟨(gw_in (List.mem_of_getElem? (i := 245) (by decide +kernel)) (by decide +kernel)), List.forall_mem_cons.mpr ⟨(gw_in (List.mem_of_getElem? (i := 246) (by decide +kernel)) (by decide +kernel)), List.forall_mem_cons.mpr ⟨(gw_in (List.mem_of_getElem? (i := 73) (by decide +kernel)) (by decide +kernel)), List.forall_mem_cons.mpr ⟨(gw_in (List.mem_of_getElem? (i := 247) (by decide +kernel)) (by decide +kernel)), fun _ h => absurd h List.not_mem_nil⟩⟩⟩⟩, by decide, rfl⟩
theorem ml_Nu_15 : MLV "HeapTower$Numbers" 15 y_Nu_setPrime b_Nu_setPrime 3 none 1 2 := ⟨List.forall_mem_cons.mpr ⟨(gw_in (List.mem_of_getElem? (i := 137) (by decide +kernel)) (by decide +kernel)), List.forall_mem_cons.mpr ⟨(gw_in (List.mem_of_getElem? (i := 138) (by decide +kernel)) (by decide +kernel)), List.forall_mem_cons.mpr ⟨(gw_in (List.mem_of_getElem? (i := 139) (by decide +kernel)) (by decide +kernel)), List.forall_mem_cons.mpr ⟨(gw_in (List.mem_of_getElem? (i := 69) (by decide +kernel)) (by decide +kernel)), List.forall_mem_cons.mpr ⟨(gw_in (List.mem_of_getElem? (i := 140) (by decide +kernel)) (by decide +kernel)), fun _ h => absurd h List.not_mem_nil⟩⟩⟩⟩⟩, by decide, F_Nu, 2, rfl, by decide⟩
theorem ml_Pr_28 : MLV "HeapTower$Products" 28 y_Pr_arrange b_Pr_arrange 4 none 2 4 := ⟨List.forall_mem_cons.mpr ⟨(gw_in (List.mem_of_getElem? (i := 95) (by decide +kernel)) (by decide +kernel)), List.forall_mem_cons.mpr ⟨(gw_in (List.mem_of_getElem? (i := 96) (by decide +kernel)) (by decide +kernel)), List.forall_mem_cons.mpr ⟨(gw_in (List.mem_of_getElem? (i := 97) (by decide +kernel)) (by decide +kernel)), List.forall_mem_cons.mpr ⟨(gw_in (List.mem_of_getElem? (i := 68) (by decide +kernel)) (by decide +kernel)), List.forall_mem_cons.mpr ⟨(gw_in (List.mem_of_getElem? (i := 98) (by decide +kernel)) (by decide +kernel)), fun _ h => absurd h List.not_mem_nil⟩⟩⟩⟩⟩, by decide, F_Pr, 6, rfl, by decide⟩
theorem aw_Z : Cond.arrayClass .boolean ∈ gw := (gw_in (List.mem_of_getElem? (i := 867) (by decide +kernel)) (by decide +kernel))
theorem cl_He_15 : Cond.classLink "HeapTower$Heap" 15 "[[I" ∈ gw := (gw_in (List.mem_of_getElem? (i := 249) (by decide +kernel)) (by decide +kernel))
theorem cl_Ro_9 : Cond.classLink "HeapTower$Rows" 9 "[[I" ∈ gw := (gw_in (List.mem_of_getElem? (i := 155) (by decide +kernel)) (by decide +kernel))
theorem cl_HT_36 : Cond.classLink "HeapTower" 36 "[[I" ∈ gw := (gw_in (List.mem_of_getElem? (i := 182) (by decide +kernel)) (by decide +kernel))
theorem cl_HT_41 : Cond.classLink "HeapTower" 41 "HeapTower$Polynomial" ∈ gw := (gw_in (List.mem_of_getElem? (i := 183) (by decide +kernel)) (by decide +kernel))
theorem nw_HT_16 : NewC "HeapTower" 16 2 2 := ⟨R_Nu, F_Nu, t_Nu, iw_Nu, rfl, by decide, t_Nu_ok, (fun j hj => by rcases (show j = 0 ∨ j = 1 by omega) with rfl | rfl <;> first | exact Or.inl ⟨rfl, rfl⟩ | exact Or.inr ⟨rfl, rfl⟩), ⟨(gw_in (List.mem_of_getElem? (i := 131) (by decide +kernel)) (by decide +kernel)), (gw_in (List.mem_of_getElem? (i := 132) (by decide +kernel)) (by decide +kernel))⟩, (gw_in (List.mem_of_getElem? (i := 69) (by decide +kernel)) (by decide +kernel))⟩
theorem nw_HT_23 : NewC "HeapTower" 23 5 8 := ⟨R_Ro, F_Ro, t_Ro, iw_Ro, rfl, by decide, t_Ro_ok, (fun j hj => by rcases (show j = 0 ∨ j = 1 ∨ j = 2 ∨ j = 3 ∨ j = 4 ∨ j = 5 ∨ j = 6 ∨ j = 7 by omega) with rfl | rfl | rfl | rfl | rfl | rfl | rfl | rfl <;> first | exact Or.inl ⟨rfl, rfl⟩ | exact Or.inr ⟨rfl, rfl⟩), ⟨(gw_in (List.mem_of_getElem? (i := 149) (by decide +kernel)) (by decide +kernel)), (gw_in (List.mem_of_getElem? (i := 150) (by decide +kernel)) (by decide +kernel))⟩, (gw_in (List.mem_of_getElem? (i := 70) (by decide +kernel)) (by decide +kernel))⟩
theorem nw_HT_41 : NewC "HeapTower" 41 3 2 := ⟨R_Po, F_Po, t_Po, iw_Po, rfl, by decide, t_Po_ok, (fun j hj => by rcases (show j = 0 ∨ j = 1 by omega) with rfl | rfl <;> first | exact Or.inl ⟨rfl, rfl⟩ | exact Or.inr ⟨rfl, rfl⟩), ⟨(gw_in (List.mem_of_getElem? (i := 183) (by decide +kernel)) (by decide +kernel)), (gw_in (List.mem_of_getElem? (i := 184) (by decide +kernel)) (by decide +kernel))⟩, (gw_in (List.mem_of_getElem? (i := 71) (by decide +kernel)) (by decide +kernel))⟩
theorem nw_HT_54 : NewC "HeapTower" 54 0 13 := ⟨R_Ba, F_Ba, t_Ba, iw_Ba, rfl, by decide, t_Ba_ok, (fun j hj => by rcases (show j = 0 ∨ j = 1 ∨ j = 2 ∨ j = 3 ∨ j = 4 ∨ j = 5 ∨ j = 6 ∨ j = 7 ∨ j = 8 ∨ j = 9 ∨ j = 10 ∨ j = 11 ∨ j = 12 by omega) with rfl | rfl | rfl | rfl | rfl | rfl | rfl | rfl | rfl | rfl | rfl | rfl | rfl <;> first | exact Or.inl ⟨rfl, rfl⟩ | exact Or.inr ⟨rfl, rfl⟩), ⟨(gw_in (List.mem_of_getElem? (i := 197) (by decide +kernel)) (by decide +kernel)), (gw_in (List.mem_of_getElem? (i := 198) (by decide +kernel)) (by decide +kernel))⟩, (gw_in (List.mem_of_getElem? (i := 72) (by decide +kernel)) (by decide +kernel))⟩
theorem nw_HT_69 : NewC "HeapTower" 69 1 5 := ⟨R_He, F_He, t_He, iw_He, rfl, by decide, t_He_ok, (fun j hj => by rcases (show j = 0 ∨ j = 1 ∨ j = 2 ∨ j = 3 ∨ j = 4 by omega) with rfl | rfl | rfl | rfl | rfl <;> first | exact Or.inl ⟨rfl, rfl⟩ | exact Or.inr ⟨rfl, rfl⟩), ⟨(gw_in (List.mem_of_getElem? (i := 243) (by decide +kernel)) (by decide +kernel)), (gw_in (List.mem_of_getElem? (i := 244) (by decide +kernel)) (by decide +kernel))⟩, (gw_in (List.mem_of_getElem? (i := 73) (by decide +kernel)) (by decide +kernel))⟩
theorem nw_HT_7 : NewC "HeapTower" 7 4 6 := ⟨R_Pr, F_Pr, t_Pr, iw_Pr, rfl, by decide, t_Pr_ok, (fun j hj => by rcases (show j = 0 ∨ j = 1 ∨ j = 2 ∨ j = 3 ∨ j = 4 ∨ j = 5 by omega) with rfl | rfl | rfl | rfl | rfl | rfl <;> first | exact Or.inl ⟨rfl, rfl⟩ | exact Or.inr ⟨rfl, rfl⟩), ⟨(gw_in (List.mem_of_getElem? (i := 86) (by decide +kernel)) (by decide +kernel)), (gw_in (List.mem_of_getElem? (i := 87) (by decide +kernel)) (by decide +kernel))⟩, (gw_in (List.mem_of_getElem? (i := 68) (by decide +kernel)) (by decide +kernel))⟩
theorem ko_Ba_3 : (Cond.methodLink "HeapTower$Base" 3 Lib.objectInit ∈ gw ∧ Cond.instanceMethod Lib.objectInit ∈ gw) ∧ Cond.code Lib.objectInit ⟨#[0xb1]⟩ 1 none ∈ gw := ⟨⟨(gw_in (List.mem_of_getElem? (i := 202) (by decide +kernel)) (by decide +kernel)), (gw_in (List.mem_of_getElem? (i := 84) (by decide +kernel)) (by decide +kernel))⟩, (gw_in (List.mem_of_getElem? (i := 85) (by decide +kernel)) (by decide +kernel))⟩
theorem ko_He_3 : (Cond.methodLink "HeapTower$Heap" 3 Lib.objectInit ∈ gw ∧ Cond.instanceMethod Lib.objectInit ∈ gw) ∧ Cond.code Lib.objectInit ⟨#[0xb1]⟩ 1 none ∈ gw := ⟨⟨(gw_in (List.mem_of_getElem? (i := 248) (by decide +kernel)) (by decide +kernel)), (gw_in (List.mem_of_getElem? (i := 84) (by decide +kernel)) (by decide +kernel))⟩, (gw_in (List.mem_of_getElem? (i := 85) (by decide +kernel)) (by decide +kernel))⟩
theorem ko_Nu_3 : (Cond.methodLink "HeapTower$Numbers" 3 Lib.objectInit ∈ gw ∧ Cond.instanceMethod Lib.objectInit ∈ gw) ∧ Cond.code Lib.objectInit ⟨#[0xb1]⟩ 1 none ∈ gw := ⟨⟨(gw_in (List.mem_of_getElem? (i := 136) (by decide +kernel)) (by decide +kernel)), (gw_in (List.mem_of_getElem? (i := 84) (by decide +kernel)) (by decide +kernel))⟩, (gw_in (List.mem_of_getElem? (i := 85) (by decide +kernel)) (by decide +kernel))⟩
theorem ko_Po_3 : (Cond.methodLink "HeapTower$Polynomial" 3 Lib.objectInit ∈ gw ∧ Cond.instanceMethod Lib.objectInit ∈ gw) ∧ Cond.code Lib.objectInit ⟨#[0xb1]⟩ 1 none ∈ gw := ⟨⟨(gw_in (List.mem_of_getElem? (i := 188) (by decide +kernel)) (by decide +kernel)), (gw_in (List.mem_of_getElem? (i := 84) (by decide +kernel)) (by decide +kernel))⟩, (gw_in (List.mem_of_getElem? (i := 85) (by decide +kernel)) (by decide +kernel))⟩
theorem ko_Pr_3 : (Cond.methodLink "HeapTower$Products" 3 Lib.objectInit ∈ gw ∧ Cond.instanceMethod Lib.objectInit ∈ gw) ∧ Cond.code Lib.objectInit ⟨#[0xb1]⟩ 1 none ∈ gw := ⟨⟨(gw_in (List.mem_of_getElem? (i := 91) (by decide +kernel)) (by decide +kernel)), (gw_in (List.mem_of_getElem? (i := 84) (by decide +kernel)) (by decide +kernel))⟩, (gw_in (List.mem_of_getElem? (i := 85) (by decide +kernel)) (by decide +kernel))⟩
theorem ko_Ro_3 : (Cond.methodLink "HeapTower$Rows" 3 Lib.objectInit ∈ gw ∧ Cond.instanceMethod Lib.objectInit ∈ gw) ∧ Cond.code Lib.objectInit ⟨#[0xb1]⟩ 1 none ∈ gw := ⟨⟨(gw_in (List.mem_of_getElem? (i := 154) (by decide +kernel)) (by decide +kernel)), (gw_in (List.mem_of_getElem? (i := 84) (by decide +kernel)) (by decide +kernel))⟩, (gw_in (List.mem_of_getElem? (i := 85) (by decide +kernel)) (by decide +kernel))⟩
theorem ko_HT_1 : (Cond.methodLink "HeapTower" 1 Lib.objectInit ∈ gw ∧ Cond.instanceMethod Lib.objectInit ∈ gw) ∧ Cond.code Lib.objectInit ⟨#[0xb1]⟩ 1 none ∈ gw := ⟨⟨(gw_in (List.mem_of_getElem? (i := 83) (by decide +kernel)) (by decide +kernel)), (gw_in (List.mem_of_getElem? (i := 84) (by decide +kernel)) (by decide +kernel))⟩, (gw_in (List.mem_of_getElem? (i := 85) (by decide +kernel)) (by decide +kernel))⟩
theorem ko_Mo_1 : (Cond.methodLink "HeapTowerModel" 1 Lib.objectInit ∈ gw ∧ Cond.instanceMethod Lib.objectInit ∈ gw) ∧ Cond.code Lib.objectInit ⟨#[0xb1]⟩ 1 none ∈ gw := ⟨⟨(gw_in (List.mem_of_getElem? (i := 811) (by decide +kernel)) (by decide +kernel)), (gw_in (List.mem_of_getElem? (i := 84) (by decide +kernel)) (by decide +kernel))⟩, (gw_in (List.mem_of_getElem? (i := 85) (by decide +kernel)) (by decide +kernel))⟩
theorem D_Pr_new_0 : decode b_Pr_new 0 = .ok (.aload_n 0, 1) := by decide +kernel
theorem D_Pr_new_1 : decode b_Pr_new 1 = .ok (.invokespecial 3, 3) := by decide +kernel
theorem D_Pr_new_4 : decode b_Pr_new 4 = .ok (.aload_n 0, 1) := by decide +kernel
theorem D_Pr_new_5 : decode b_Pr_new 5 = .ok (.bipush 66, 2) := by decide +kernel
theorem D_Pr_new_7 : decode b_Pr_new 7 = .ok (.newarray .int, 2) := by decide +kernel
theorem D_Pr_new_9 : decode b_Pr_new 9 = .ok (.putfield 9, 3) := by decide +kernel
theorem D_Pr_new_12 : decode b_Pr_new 12 = .ok (.aload_n 0, 1) := by decide +kernel
theorem D_Pr_new_13 : decode b_Pr_new 13 = .ok (.bipush 66, 2) := by decide +kernel
theorem D_Pr_new_15 : decode b_Pr_new 15 = .ok (.newarray .int, 2) := by decide +kernel
theorem D_Pr_new_17 : decode b_Pr_new 17 = .ok (.putfield 15, 3) := by decide +kernel
theorem D_Pr_new_20 : decode b_Pr_new 20 = .ok (.aload_n 0, 1) := by decide +kernel
theorem D_Pr_new_21 : decode b_Pr_new 21 = .ok (.sipush 286, 3) := by decide +kernel
theorem D_Pr_new_24 : decode b_Pr_new 24 = .ok (.newarray .int, 2) := by decide +kernel
theorem D_Pr_new_26 : decode b_Pr_new 26 = .ok (.putfield 18, 3) := by decide +kernel
theorem D_Pr_new_29 : decode b_Pr_new 29 = .ok (.aload_n 0, 1) := by decide +kernel
theorem D_Pr_new_30 : decode b_Pr_new 30 = .ok (.bipush 11, 2) := by decide +kernel
theorem D_Pr_new_32 : decode b_Pr_new 32 = .ok (.newarray .int, 2) := by decide +kernel
theorem D_Pr_new_34 : decode b_Pr_new 34 = .ok (.putfield 21, 3) := by decide +kernel
theorem D_Pr_new_37 : decode b_Pr_new 37 = .ok (.iconst 0, 1) := by decide +kernel
theorem D_Pr_new_38 : decode b_Pr_new 38 = .ok (.istore_n 1, 1) := by decide +kernel
theorem D_Pr_new_39 : decode b_Pr_new 39 = .ok (.iload_n 1, 1) := by decide +kernel
theorem D_Pr_new_40 : decode b_Pr_new 40 = .ok (.bipush 10, 2) := by decide +kernel
theorem D_Pr_new_42 : decode b_Pr_new 42 = .ok (.if_icmp .gt 50, 3) := by decide +kernel
theorem D_Pr_new_45 : decode b_Pr_new 45 = .ok (.iconst 0, 1) := by decide +kernel
theorem D_Pr_new_46 : decode b_Pr_new 46 = .ok (.istore_n 2, 1) := by decide +kernel
theorem D_Pr_new_47 : decode b_Pr_new 47 = .ok (.iload_n 2, 1) := by decide +kernel
theorem D_Pr_new_48 : decode b_Pr_new 48 = .ok (.iload_n 1, 1) := by decide +kernel
theorem D_Pr_new_49 : decode b_Pr_new 49 = .ok (.if_icmp .gt 37, 3) := by decide +kernel
theorem D_Pr_new_52 : decode b_Pr_new 52 = .ok (.aload_n 0, 1) := by decide +kernel
theorem D_Pr_new_53 : decode b_Pr_new 53 = .ok (.getfield 9, 3) := by decide +kernel
theorem D_Pr_new_56 : decode b_Pr_new 56 = .ok (.iload_n 1, 1) := by decide +kernel
theorem D_Pr_new_57 : decode b_Pr_new 57 = .ok (.iload_n 2, 1) := by decide +kernel
theorem D_Pr_new_58 : decode b_Pr_new 58 = .ok (.isub, 1) := by decide +kernel
theorem D_Pr_new_59 : decode b_Pr_new 59 = .ok (.iload_n 2, 1) := by decide +kernel
theorem D_Pr_new_60 : decode b_Pr_new 60 = .ok (.invokestatic 24, 3) := by decide +kernel
theorem D_Pr_new_63 : decode b_Pr_new 63 = .ok (.iload_n 1, 1) := by decide +kernel
theorem D_Pr_new_64 : decode b_Pr_new 64 = .ok (.iload_n 2, 1) := by decide +kernel
theorem D_Pr_new_65 : decode b_Pr_new 65 = .ok (.isub, 1) := by decide +kernel
theorem D_Pr_new_66 : decode b_Pr_new 66 = .ok (.iastore, 1) := by decide +kernel
theorem D_Pr_new_67 : decode b_Pr_new 67 = .ok (.aload_n 0, 1) := by decide +kernel
theorem D_Pr_new_68 : decode b_Pr_new 68 = .ok (.getfield 15, 3) := by decide +kernel
theorem D_Pr_new_71 : decode b_Pr_new 71 = .ok (.iload_n 1, 1) := by decide +kernel
theorem D_Pr_new_72 : decode b_Pr_new 72 = .ok (.iload_n 2, 1) := by decide +kernel
theorem D_Pr_new_73 : decode b_Pr_new 73 = .ok (.isub, 1) := by decide +kernel
theorem D_Pr_new_74 : decode b_Pr_new 74 = .ok (.iload_n 2, 1) := by decide +kernel
theorem D_Pr_new_75 : decode b_Pr_new 75 = .ok (.invokestatic 24, 3) := by decide +kernel
theorem D_Pr_new_78 : decode b_Pr_new 78 = .ok (.iload_n 2, 1) := by decide +kernel
theorem D_Pr_new_79 : decode b_Pr_new 79 = .ok (.iastore, 1) := by decide +kernel
theorem D_Pr_new_80 : decode b_Pr_new 80 = .ok (.iinc 2 1, 3) := by decide +kernel
theorem D_Pr_new_83 : decode b_Pr_new 83 = .ok (.goto (-36), 3) := by decide +kernel
theorem D_Pr_new_86 : decode b_Pr_new 86 = .ok (.iinc 1 1, 3) := by decide +kernel
theorem D_Pr_new_89 : decode b_Pr_new 89 = .ok (.goto (-50), 3) := by decide +kernel
theorem D_Pr_new_92 : decode b_Pr_new 92 = .ok (.aload_n 0, 1) := by decide +kernel
theorem D_Pr_new_93 : decode b_Pr_new 93 = .ok (.iconst 3, 1) := by decide +kernel
theorem D_Pr_new_94 : decode b_Pr_new 94 = .ok (.iconst 0, 1) := by decide +kernel
theorem D_Pr_new_95 : decode b_Pr_new 95 = .ok (.invokevirtual 28, 3) := by decide +kernel
theorem D_Pr_new_98 : decode b_Pr_new 98 = .ok (.return_, 1) := by decide +kernel
abbrev rm_Pr_new : Room := { frames := 3, cells := 4, slots := 429, locals := 68 }
def B_Pr_new_47 (k39 : Nat → Int32 → Mem → Prop) (k47 : Nat → Int32 → Int32 → Mem → Prop) (post : Mem → Prop) (a0 : Nat) (x1 : Int32) (x2 : Int32) (M : Mem) : Prop := ((x1 < x2 → (k39 a0 (x1 + 1) M)) ∧ (¬ x1 < x2 → (isK M a0 4 ∧ ∃ q53, gR M a0 0 = some q53 ∧ T_Pr_place (x1 - x2) x2 M (fun r60 M60 => isA M60 q53 8 r60 ∧ ∀ M66, M66 = sI M60 q53 (Int32.toNatClampNeg r60) (x1 - x2) → (isK M66 a0 4 ∧ ∃ q68, gR M66 a0 1 = some q68 ∧ T_Pr_place (x1 - x2) x2 M66 (fun r75 M75 => isA M75 q68 8 r75 ∧ ∀ M79, M79 = sI M75 q68 (Int32.toNatClampNeg r75) x2 → (k47 a0 x1 (x2 + 1) M79)))))))
set_option maxRecDepth 20000 in
theorem Z_Pr_new_47 {x : Ctx} {post : Mem → Prop} (C : Ok x b_Pr_new 3 "HeapTower$Products") (hR : xR x = rm_Pr_new) (Rt : RetV x post 4 429) (Nm : (xh x).name = "<init>") (Cx : Cnx x) {k39 : Nat → Int32 → Mem → Prop} (K39 : ∀ (a0 : Nat) (x1 : Int32) (M : Mem), k39 a0 x1 M → J x 3 39 [(0, .ref (xd x a0)), (1, .int x1)] [] 4 429 M) {k47 : Nat → Int32 → Int32 → Mem → Prop} (K47 : ∀ (a0 : Nat) (x1 : Int32) (x2 : Int32) (M : Mem), k47 a0 x1 x2 M → J x 3 47 [(0, .ref (xd x a0)), (1, .int x1), (2, .int x2)] [] 4 429 M) (a0 : Nat) (x1 : Int32) (x2 : Int32) (M : Mem) (h : B_Pr_new_47 k39 k47 post a0 x1 x2 M) : J x 3 47 [(0, .ref (xd x a0)), (1, .int x1), (2, .int x2)] [] 4 429 M := by
  unfold B_Pr_new_47 at h
  refine J_iload_n C 2 D_Pr_new_47 rfl rfl ?_
  refine J_iload_n C 1 D_Pr_new_48 rfl rfl ?_
  refine J_icmp_gt (tgt := 86) C D_Pr_new_49 (by decide) (fun c_49 => ?_) (fun c_49 => ?_)
  · have h := h.1 c_49
    refine J_iinc (v := x1 + 1) (lv' := [(1, .int (x1 + 1)), (0, .ref (xd x a0)), (2, .int x2)]) C 1 1 D_Pr_new_86 rfl rfl (by decide) rfl ?_
    refine J_goto (tgt := 39) C D_Pr_new_89 (by decide) ?_
    exact J_sub [1, 0] rfl (K39 _ _ _ h)
  · have h := h.2 c_49
    refine J_aload_n C 0 D_Pr_new_52 rfl rfl ?_
    obtain ⟨c_53, q53, e_53, h⟩ := h
    refine J_getR C fl_Pr_9 D_Pr_new_53 c_53 e_53 ?_
    refine J_iload_n C 1 D_Pr_new_56 rfl rfl ?_
    refine J_iload_n C 2 D_Pr_new_57 rfl rfl ?_
    refine J_isub C D_Pr_new_58 ?_
    refine J_iload_n C 2 D_Pr_new_59 rfl rfl ?_
    refine J_callSi C ml_Pr_24 (S_Pr_place _ _ _ _ h) (by rw [hR]; decide) rfl rfl (Nat.le_of_ble_eq_true rfl) D_Pr_new_60 (fun r60 M60 h => ?_)
    refine J_iload_n C 1 D_Pr_new_63 rfl rfl ?_
    refine J_iload_n C 2 D_Pr_new_64 rfl rfl ?_
    refine J_isub C D_Pr_new_65 ?_
    obtain ⟨c_66, h⟩ := h
    refine J_iast C D_Pr_new_66 c_66 ?_
    refine J_name (fun M66 e_66 => ?_)
    have h := h _ e_66
    refine J_aload_n C 0 D_Pr_new_67 rfl rfl ?_
    obtain ⟨c_68, q68, e_68, h⟩ := h
    refine J_getR C fl_Pr_15 D_Pr_new_68 c_68 e_68 ?_
    refine J_iload_n C 1 D_Pr_new_71 rfl rfl ?_
    refine J_iload_n C 2 D_Pr_new_72 rfl rfl ?_
    refine J_isub C D_Pr_new_73 ?_
    refine J_iload_n C 2 D_Pr_new_74 rfl rfl ?_
    refine J_callSi C ml_Pr_24 (S_Pr_place _ _ _ _ h) (by rw [hR]; decide) rfl rfl (Nat.le_of_ble_eq_true rfl) D_Pr_new_75 (fun r75 M75 h => ?_)
    refine J_iload_n C 2 D_Pr_new_78 rfl rfl ?_
    obtain ⟨c_79, h⟩ := h
    refine J_iast C D_Pr_new_79 c_79 ?_
    refine J_name (fun M79 e_79 => ?_)
    have h := h _ e_79
    refine J_iinc (v := x2 + 1) (lv' := [(2, .int (x2 + 1)), (0, .ref (xd x a0)), (1, .int x1)]) C 2 2 D_Pr_new_80 rfl rfl (by decide) rfl ?_
    refine J_goto (tgt := 47) C D_Pr_new_83 (by decide) ?_
    exact J_sub [1, 2, 0] rfl (K47 _ _ _ _ h)
def L_Pr_new_47 (k39 : Nat → Int32 → Mem → Prop) (post : Mem → Prop) : Nat → Nat → Int32 → Int32 → Mem → Prop
  | 0, _, _, _, _ => False
  | n + 1, a0, x1, x2, M => B_Pr_new_47 k39 (L_Pr_new_47 k39 post n) post a0 x1 x2 M
theorem Y_Pr_new_47 {x : Ctx} {post : Mem → Prop} (C : Ok x b_Pr_new 3 "HeapTower$Products") (hR : xR x = rm_Pr_new) (Rt : RetV x post 4 429) (Nm : (xh x).name = "<init>") (Cx : Cnx x) {k39 : Nat → Int32 → Mem → Prop} (K39 : ∀ (a0 : Nat) (x1 : Int32) (M : Mem), k39 a0 x1 M → J x 3 39 [(0, .ref (xd x a0)), (1, .int x1)] [] 4 429 M) : ∀ (n : Nat) (a0 : Nat) (x1 : Int32) (x2 : Int32) (M : Mem), L_Pr_new_47 k39 post n a0 x1 x2 M → J x 3 47 [(0, .ref (xd x a0)), (1, .int x1), (2, .int x2)] [] 4 429 M := by
  intro n
  induction n with
  | zero => intro a0 x1 x2 M h; exact h.elim
  | succ n ih => intro a0 x1 x2 M h; exact Z_Pr_new_47 C hR Rt Nm Cx K39 ih _ _ _ _ h
def B_Pr_new_39 (k39 : Nat → Int32 → Mem → Prop) (post : Mem → Prop) (a0 : Nat) (x1 : Int32) (M : Mem) : Prop := ((10 < x1 → (isK M a0 4 ∧ T_Pr_arrange a0 3 0 M (fun M95 => post M95))) ∧ (¬ 10 < x1 → (∃ n, L_Pr_new_47 k39 post n a0 x1 0 M)))
set_option maxRecDepth 20000 in
theorem Z_Pr_new_39 {x : Ctx} {post : Mem → Prop} (C : Ok x b_Pr_new 3 "HeapTower$Products") (hR : xR x = rm_Pr_new) (Rt : RetV x post 4 429) (Nm : (xh x).name = "<init>") (Cx : Cnx x) {k39 : Nat → Int32 → Mem → Prop} (K39 : ∀ (a0 : Nat) (x1 : Int32) (M : Mem), k39 a0 x1 M → J x 3 39 [(0, .ref (xd x a0)), (1, .int x1)] [] 4 429 M) (a0 : Nat) (x1 : Int32) (M : Mem) (h : B_Pr_new_39 k39 post a0 x1 M) : J x 3 39 [(0, .ref (xd x a0)), (1, .int x1)] [] 4 429 M := by
  unfold B_Pr_new_39 at h
  refine J_iload_n C 1 D_Pr_new_39 rfl rfl ?_
  refine J_bipush (v := 10) C D_Pr_new_40 rfl ?_
  refine J_icmp_gt (tgt := 92) C D_Pr_new_42 (by decide) (fun c_42 => ?_) (fun c_42 => ?_)
  · have h := h.1 c_42
    refine J_aload_n C 0 D_Pr_new_92 rfl rfl ?_
    refine J_iconst (v := 3) C D_Pr_new_93 rfl ?_
    refine J_iconst (v := 0) C D_Pr_new_94 rfl ?_
    obtain ⟨c_95, h⟩ := h
    refine J_callVv C ml_Pr_28 (S_Pr_arrange _ _ _ _ _ h) (by rw [hR]; decide) rfl c_95 rfl (Nat.le_of_ble_eq_true rfl) D_Pr_new_95 (fun M95 h => ?_)
    exact J_vret C Rt D_Pr_new_98 h
  · have h := h.2 c_42
    refine J_iconst (v := 0) C D_Pr_new_45 rfl ?_
    refine J_istore_n (lv' := [(2, .int 0), (0, .ref (xd x a0)), (1, .int x1)]) C 2 D_Pr_new_46 rfl (by decide) rfl ?_
    obtain ⟨n, h⟩ := h
    exact J_sub [1, 2, 0] rfl (Y_Pr_new_47 C hR Rt Nm Cx K39 n _ _ _ _ h)
def L_Pr_new_39 (post : Mem → Prop) : Nat → Nat → Int32 → Mem → Prop
  | 0, _, _, _ => False
  | n + 1, a0, x1, M => B_Pr_new_39 (L_Pr_new_39 post n) post a0 x1 M
theorem Y_Pr_new_39 {x : Ctx} {post : Mem → Prop} (C : Ok x b_Pr_new 3 "HeapTower$Products") (hR : xR x = rm_Pr_new) (Rt : RetV x post 4 429) (Nm : (xh x).name = "<init>") (Cx : Cnx x) : ∀ (n : Nat) (a0 : Nat) (x1 : Int32) (M : Mem), L_Pr_new_39 post n a0 x1 M → J x 3 39 [(0, .ref (xd x a0)), (1, .int x1)] [] 4 429 M := by
  intro n
  induction n with
  | zero => intro a0 x1 M h; exact h.elim
  | succ n ih => intro a0 x1 M h; exact Z_Pr_new_39 C hR Rt Nm Cx ih _ _ _ h
def T_Pr_new (a0 : Nat) (M : Mem) (post : Mem → Prop) : Prop := (∀ M7, M7 = mk M 8 66 → (isK M7 a0 4 ∧ ∀ M9, M9 = sR M7 a0 0 (some (nC M)) → (∀ M15, M15 = mk M9 8 66 → (isK M15 a0 4 ∧ ∀ M17, M17 = sR M15 a0 1 (some (nC M9)) → (∀ M24, M24 = mk M17 8 286 → (isK M24 a0 4 ∧ ∀ M26, M26 = sR M24 a0 2 (some (nC M17)) → (∀ M32, M32 = mk M26 8 11 → (isK M32 a0 4 ∧ ∀ M34, M34 = sR M32 a0 3 (some (nC M26)) → (∃ n, L_Pr_new_39 post n a0 0 M34)))))))))
set_option maxRecDepth 20000 in
theorem S_Pr_new {l : Launch} {D : va_G} {B t g : Nat} {d : Nat → Nat} {ac : Nat → ClassId} (hd : ∀ c, d c = B + c) (hg : g = 0)  (a0 : Nat) (M : Mem) (post : Mem → Prop) (h : T_Pr_new a0 M post) : Met l y_Pr_new w_Pr_new rm_Pr_new (va_Pc [.ref (d a0)] (PRE D B d g t ac M)) (QV D B d g ac post) 4 429 (AB B) := by
  refine met_v (by decide +kernel) (Nat.le_of_ble_eq_true rfl) (fun x h1 hR h3 h4 h5 h6 h7 h8 C Rt Nm => ?_)
  subst h3 h4 h5 h6 h7 h8
  have Cx : Cnx x := ⟨hd, hg⟩
  unfold T_Pr_new at h
  show J x 3 0 [(0, .ref (xd x a0))] [] 0 0 M
  refine J_aload_n C 0 D_Pr_new_0 rfl rfl ?_
  refine J_obj C ko_Pr_3 D_Pr_new_1 (by rw [hR]; decide) (Nat.le_of_ble_eq_true rfl) ?_
  refine J_aload_n C 0 D_Pr_new_4 rfl rfl ?_
  refine J_bipush (v := 66) C D_Pr_new_5 rfl ?_
  refine J_newI C Cx 66 aw_I D_Pr_new_7 ⟨by decide, by decide⟩ (by decide) (by rw [hR]; decide) ?_
  refine J_name (fun M7 e_7 => ?_)
  have h := h _ e_7
  obtain ⟨c_9, h⟩ := h
  refine J_putRF C fl_Pr_9 Nm ⟨_, _, _, rfl, rfl⟩ D_Pr_new_9 c_9 ?_
  refine J_name (fun M9 e_9 => ?_)
  have h := h _ e_9
  refine J_aload_n C 0 D_Pr_new_12 rfl rfl ?_
  refine J_bipush (v := 66) C D_Pr_new_13 rfl ?_
  refine J_newI C Cx 66 aw_I D_Pr_new_15 ⟨by decide, by decide⟩ (by decide) (by rw [hR]; decide) ?_
  refine J_name (fun M15 e_15 => ?_)
  have h := h _ e_15
  obtain ⟨c_17, h⟩ := h
  refine J_putRF C fl_Pr_15 Nm ⟨_, _, _, rfl, rfl⟩ D_Pr_new_17 c_17 ?_
  refine J_name (fun M17 e_17 => ?_)
  have h := h _ e_17
  refine J_aload_n C 0 D_Pr_new_20 rfl rfl ?_
  refine J_sipush (v := 286) C D_Pr_new_21 rfl ?_
  refine J_newI C Cx 286 aw_I D_Pr_new_24 ⟨by decide, by decide⟩ (by decide) (by rw [hR]; decide) ?_
  refine J_name (fun M24 e_24 => ?_)
  have h := h _ e_24
  obtain ⟨c_26, h⟩ := h
  refine J_putRF C fl_Pr_18 Nm ⟨_, _, _, rfl, rfl⟩ D_Pr_new_26 c_26 ?_
  refine J_name (fun M26 e_26 => ?_)
  have h := h _ e_26
  refine J_aload_n C 0 D_Pr_new_29 rfl rfl ?_
  refine J_bipush (v := 11) C D_Pr_new_30 rfl ?_
  refine J_newI C Cx 11 aw_I D_Pr_new_32 ⟨by decide, by decide⟩ (by decide) (by rw [hR]; decide) ?_
  refine J_name (fun M32 e_32 => ?_)
  have h := h _ e_32
  obtain ⟨c_34, h⟩ := h
  refine J_putRF C fl_Pr_21 Nm ⟨_, _, _, rfl, rfl⟩ D_Pr_new_34 c_34 ?_
  refine J_name (fun M34 e_34 => ?_)
  have h := h _ e_34
  refine J_iconst (v := 0) C D_Pr_new_37 rfl ?_
  refine J_istore_n (lv' := [(1, .int 0), (0, .ref (xd x a0))]) C 1 D_Pr_new_38 rfl (by decide) rfl ?_
  obtain ⟨n, h⟩ := h
  exact J_sub [1, 0] rfl (Y_Pr_new_39 C hR Rt Nm Cx  n _ _ _ h)
theorem D_Nu_new_0 : decode b_Nu_new 0 = .ok (.aload_n 0, 1) := by decide +kernel
theorem D_Nu_new_1 : decode b_Nu_new 1 = .ok (.invokespecial 3, 3) := by decide +kernel
theorem D_Nu_new_4 : decode b_Nu_new 4 = .ok (.aload_n 0, 1) := by decide +kernel
theorem D_Nu_new_5 : decode b_Nu_new 5 = .ok (.bipush 97, 2) := by decide +kernel
theorem D_Nu_new_7 : decode b_Nu_new 7 = .ok (.newarray .int, 2) := by decide +kernel
theorem D_Nu_new_9 : decode b_Nu_new 9 = .ok (.putfield 9, 3) := by decide +kernel
theorem D_Nu_new_12 : decode b_Nu_new 12 = .ok (.aload_n 0, 1) := by decide +kernel
theorem D_Nu_new_13 : decode b_Nu_new 13 = .ok (.bipush 7, 2) := by decide +kernel
theorem D_Nu_new_15 : decode b_Nu_new 15 = .ok (.invokevirtual 15, 3) := by decide +kernel
theorem D_Nu_new_18 : decode b_Nu_new 18 = .ok (.return_, 1) := by decide +kernel
abbrev rm_Nu_new : Room := { frames := 1, cells := 1, slots := 97, locals := 22 }
def T_Nu_new (a0 : Nat) (M : Mem) (post : Mem → Prop) : Prop := (∀ M7, M7 = mk M 8 97 → (isK M7 a0 2 ∧ ∀ M9, M9 = sR M7 a0 0 (some (nC M)) → (isK M9 a0 2 ∧ T_Nu_setPrime a0 7 M9 (fun M15 => post M15))))
set_option maxRecDepth 20000 in
theorem S_Nu_new {l : Launch} {D : va_G} {B t g : Nat} {d : Nat → Nat} {ac : Nat → ClassId} (hd : ∀ c, d c = B + c) (hg : g = 0)  (a0 : Nat) (M : Mem) (post : Mem → Prop) (h : T_Nu_new a0 M post) : Met l y_Nu_new w_Nu_new rm_Nu_new (va_Pc [.ref (d a0)] (PRE D B d g t ac M)) (QV D B d g ac post) 1 97 (AB B) := by
  refine met_v (by decide +kernel) (Nat.le_of_ble_eq_true rfl) (fun x h1 hR h3 h4 h5 h6 h7 h8 C Rt Nm => ?_)
  subst h3 h4 h5 h6 h7 h8
  have Cx : Cnx x := ⟨hd, hg⟩
  unfold T_Nu_new at h
  show J x 1 0 [(0, .ref (xd x a0))] [] 0 0 M
  refine J_aload_n C 0 D_Nu_new_0 rfl rfl ?_
  refine J_obj C ko_Nu_3 D_Nu_new_1 (by rw [hR]; decide) (Nat.le_of_ble_eq_true rfl) ?_
  refine J_aload_n C 0 D_Nu_new_4 rfl rfl ?_
  refine J_bipush (v := 97) C D_Nu_new_5 rfl ?_
  refine J_newI C Cx 97 aw_I D_Nu_new_7 ⟨by decide, by decide⟩ (by decide) (by rw [hR]; decide) ?_
  refine J_name (fun M7 e_7 => ?_)
  have h := h _ e_7
  obtain ⟨c_9, h⟩ := h
  refine J_putRF C fl_Nu_9 Nm ⟨_, _, _, rfl, rfl⟩ D_Nu_new_9 c_9 ?_
  refine J_name (fun M9 e_9 => ?_)
  have h := h _ e_9
  refine J_aload_n C 0 D_Nu_new_12 rfl rfl ?_
  refine J_bipush (v := 7) C D_Nu_new_13 rfl ?_
  obtain ⟨c_15, h⟩ := h
  refine J_callVv C ml_Nu_15 (S_Nu_setPrime _ _ _ _ h) (by rw [hR]; decide) rfl c_15 rfl (Nat.le_of_ble_eq_true rfl) D_Nu_new_15 (fun M15 h => ?_)
  exact J_vret C Rt D_Nu_new_18 h
theorem D_Ro_new_0 : decode b_Ro_new 0 = .ok (.aload_n 0, 1) := by decide +kernel
theorem D_Ro_new_1 : decode b_Ro_new 1 = .ok (.invokespecial 3, 3) := by decide +kernel
theorem D_Ro_new_4 : decode b_Ro_new 4 = .ok (.aload_n 0, 1) := by decide +kernel
theorem D_Ro_new_5 : decode b_Ro_new 5 = .ok (.bipush 66, 2) := by decide +kernel
theorem D_Ro_new_7 : decode b_Ro_new 7 = .ok (.bipush 66, 2) := by decide +kernel
theorem D_Ro_new_9 : decode b_Ro_new 9 = .ok (.multianewarray 9 2, 4) := by decide +kernel
theorem D_Ro_new_13 : decode b_Ro_new 13 = .ok (.putfield 11, 3) := by decide +kernel
theorem D_Ro_new_16 : decode b_Ro_new 16 = .ok (.aload_n 0, 1) := by decide +kernel
theorem D_Ro_new_17 : decode b_Ro_new 17 = .ok (.bipush 66, 2) := by decide +kernel
theorem D_Ro_new_19 : decode b_Ro_new 19 = .ok (.newarray .int, 2) := by decide +kernel
theorem D_Ro_new_21 : decode b_Ro_new 21 = .ok (.putfield 16, 3) := by decide +kernel
theorem D_Ro_new_24 : decode b_Ro_new 24 = .ok (.aload_n 0, 1) := by decide +kernel
theorem D_Ro_new_25 : decode b_Ro_new 25 = .ok (.bipush 66, 2) := by decide +kernel
theorem D_Ro_new_27 : decode b_Ro_new 27 = .ok (.newarray .int, 2) := by decide +kernel
theorem D_Ro_new_29 : decode b_Ro_new 29 = .ok (.putfield 20, 3) := by decide +kernel
theorem D_Ro_new_32 : decode b_Ro_new 32 = .ok (.aload_n 0, 1) := by decide +kernel
theorem D_Ro_new_33 : decode b_Ro_new 33 = .ok (.aload_n 1, 1) := by decide +kernel
theorem D_Ro_new_34 : decode b_Ro_new 34 = .ok (.putfield 23, 3) := by decide +kernel
theorem D_Ro_new_37 : decode b_Ro_new 37 = .ok (.aload_n 0, 1) := by decide +kernel
theorem D_Ro_new_38 : decode b_Ro_new 38 = .ok (.aload_n 2, 1) := by decide +kernel
theorem D_Ro_new_39 : decode b_Ro_new 39 = .ok (.putfield 27, 3) := by decide +kernel
theorem D_Ro_new_42 : decode b_Ro_new 42 = .ok (.return_, 1) := by decide +kernel
abbrev rm_Ro_new : Room := { frames := 1, cells := 69, slots := 4554, locals := 20 }
def T_Ro_new (a0 : Nat) (a1 : Nat) (a2 : Nat) (M : Mem) (post : Mem → Prop) : Prop := (∀ M9, M9 = mk2 M 66 66 → (isK M9 a0 5 ∧ ∀ M13, M13 = sR M9 a0 2 (some (nC M)) → (∀ M19, M19 = mk M13 8 66 → (isK M19 a0 5 ∧ ∀ M21, M21 = sR M19 a0 3 (some (nC M13)) → (∀ M27, M27 = mk M21 8 66 → (isK M27 a0 5 ∧ ∀ M29, M29 = sR M27 a0 4 (some (nC M21)) → (isK M29 a0 5 ∧ ∀ M34, M34 = sR M29 a0 0 (some a1) → (isK M34 a0 5 ∧ ∀ M39, M39 = sR M34 a0 1 (some a2) → (post M39)))))))))
set_option maxRecDepth 20000 in
theorem S_Ro_new {l : Launch} {D : va_G} {B t g : Nat} {d : Nat → Nat} {ac : Nat → ClassId} (hd : ∀ c, d c = B + c) (hg : g = 0)  (a0 : Nat) (a1 : Nat) (a2 : Nat) (M : Mem) (post : Mem → Prop) (h : T_Ro_new a0 a1 a2 M post) : Met l y_Ro_new w_Ro_new rm_Ro_new (va_Pc [.ref (d a0), .ref (d a1), .ref (d a2)] (PRE D B d g t ac M)) (QV D B d g ac post) 69 4554 (AB B) := by
  refine met_v (by decide +kernel) (Nat.le_of_ble_eq_true rfl) (fun x h1 hR h3 h4 h5 h6 h7 h8 C Rt Nm => ?_)
  subst h3 h4 h5 h6 h7 h8
  have Cx : Cnx x := ⟨hd, hg⟩
  unfold T_Ro_new at h
  show J x 3 0 [(0, .ref (xd x a0)), (1, .ref (xd x a1)), (2, .ref (xd x a2))] [] 0 0 M
  refine J_aload_n C 0 D_Ro_new_0 rfl rfl ?_
  refine J_obj C ko_Ro_3 D_Ro_new_1 (by rw [hR]; decide) (Nat.le_of_ble_eq_true rfl) ?_
  refine J_aload_n C 0 D_Ro_new_4 rfl rfl ?_
  refine J_bipush (v := 66) C D_Ro_new_5 rfl ?_
  refine J_bipush (v := 66) C D_Ro_new_7 rfl ?_
  refine J_mna C Cx 66 66 ⟨cl_Ro_9, aw_I⟩ D_Ro_new_9 ⟨⟨by decide, by decide⟩, by decide, by decide⟩ ⟨by decide, by decide⟩ (by rw [hR]; decide) ?_
  refine J_name (fun M9 e_9 => ?_)
  have h := h _ e_9
  obtain ⟨c_13, h⟩ := h
  refine J_putRF C fl_Ro_11 Nm ⟨_, _, _, rfl, rfl⟩ D_Ro_new_13 c_13 ?_
  refine J_name (fun M13 e_13 => ?_)
  have h := h _ e_13
  refine J_aload_n C 0 D_Ro_new_16 rfl rfl ?_
  refine J_bipush (v := 66) C D_Ro_new_17 rfl ?_
  refine J_newI C Cx 66 aw_I D_Ro_new_19 ⟨by decide, by decide⟩ (by decide) (by rw [hR]; decide) ?_
  refine J_name (fun M19 e_19 => ?_)
  have h := h _ e_19
  obtain ⟨c_21, h⟩ := h
  refine J_putRF C fl_Ro_16 Nm ⟨_, _, _, rfl, rfl⟩ D_Ro_new_21 c_21 ?_
  refine J_name (fun M21 e_21 => ?_)
  have h := h _ e_21
  refine J_aload_n C 0 D_Ro_new_24 rfl rfl ?_
  refine J_bipush (v := 66) C D_Ro_new_25 rfl ?_
  refine J_newI C Cx 66 aw_I D_Ro_new_27 ⟨by decide, by decide⟩ (by decide) (by rw [hR]; decide) ?_
  refine J_name (fun M27 e_27 => ?_)
  have h := h _ e_27
  obtain ⟨c_29, h⟩ := h
  refine J_putRF C fl_Ro_20 Nm ⟨_, _, _, rfl, rfl⟩ D_Ro_new_29 c_29 ?_
  refine J_name (fun M29 e_29 => ?_)
  have h := h _ e_29
  refine J_aload_n C 0 D_Ro_new_32 rfl rfl ?_
  refine J_aload_n C 1 D_Ro_new_33 rfl rfl ?_
  obtain ⟨c_34, h⟩ := h
  refine J_putRF C fl_Ro_23 Nm ⟨_, _, _, rfl, rfl⟩ D_Ro_new_34 c_34 ?_
  refine J_name (fun M34 e_34 => ?_)
  have h := h _ e_34
  refine J_aload_n C 0 D_Ro_new_37 rfl rfl ?_
  refine J_aload_n C 2 D_Ro_new_38 rfl rfl ?_
  obtain ⟨c_39, h⟩ := h
  refine J_putRF C fl_Ro_27 Nm ⟨_, _, _, rfl, rfl⟩ D_Ro_new_39 c_39 ?_
  refine J_name (fun M39 e_39 => ?_)
  have h := h _ e_39
  exact J_vret C Rt D_Ro_new_42 h
theorem D_Po_new_0 : decode b_Po_new 0 = .ok (.aload_n 0, 1) := by decide +kernel
theorem D_Po_new_1 : decode b_Po_new 1 = .ok (.invokespecial 3, 3) := by decide +kernel
theorem D_Po_new_4 : decode b_Po_new 4 = .ok (.aload_n 0, 1) := by decide +kernel
theorem D_Po_new_5 : decode b_Po_new 5 = .ok (.sipush 286, 3) := by decide +kernel
theorem D_Po_new_8 : decode b_Po_new 8 = .ok (.newarray .int, 2) := by decide +kernel
theorem D_Po_new_10 : decode b_Po_new 10 = .ok (.putfield 9, 3) := by decide +kernel
theorem D_Po_new_13 : decode b_Po_new 13 = .ok (.aload_n 0, 1) := by decide +kernel
theorem D_Po_new_14 : decode b_Po_new 14 = .ok (.aload_n 1, 1) := by decide +kernel
theorem D_Po_new_15 : decode b_Po_new 15 = .ok (.putfield 15, 3) := by decide +kernel
theorem D_Po_new_18 : decode b_Po_new 18 = .ok (.return_, 1) := by decide +kernel
abbrev rm_Po_new : Room := { frames := 1, cells := 1, slots := 286, locals := 20 }
def T_Po_new (a0 : Nat) (a1 : Nat) (M : Mem) (post : Mem → Prop) : Prop := (∀ M8, M8 = mk M 8 286 → (isK M8 a0 3 ∧ ∀ M10, M10 = sR M8 a0 1 (some (nC M)) → (isK M10 a0 3 ∧ ∀ M15, M15 = sR M10 a0 0 (some a1) → (post M15))))
set_option maxRecDepth 20000 in
theorem S_Po_new {l : Launch} {D : va_G} {B t g : Nat} {d : Nat → Nat} {ac : Nat → ClassId} (hd : ∀ c, d c = B + c) (hg : g = 0)  (a0 : Nat) (a1 : Nat) (M : Mem) (post : Mem → Prop) (h : T_Po_new a0 a1 M post) : Met l y_Po_new w_Po_new rm_Po_new (va_Pc [.ref (d a0), .ref (d a1)] (PRE D B d g t ac M)) (QV D B d g ac post) 1 286 (AB B) := by
  refine met_v (by decide +kernel) (Nat.le_of_ble_eq_true rfl) (fun x h1 hR h3 h4 h5 h6 h7 h8 C Rt Nm => ?_)
  subst h3 h4 h5 h6 h7 h8
  have Cx : Cnx x := ⟨hd, hg⟩
  unfold T_Po_new at h
  show J x 2 0 [(0, .ref (xd x a0)), (1, .ref (xd x a1))] [] 0 0 M
  refine J_aload_n C 0 D_Po_new_0 rfl rfl ?_
  refine J_obj C ko_Po_3 D_Po_new_1 (by rw [hR]; decide) (Nat.le_of_ble_eq_true rfl) ?_
  refine J_aload_n C 0 D_Po_new_4 rfl rfl ?_
  refine J_sipush (v := 286) C D_Po_new_5 rfl ?_
  refine J_newI C Cx 286 aw_I D_Po_new_8 ⟨by decide, by decide⟩ (by decide) (by rw [hR]; decide) ?_
  refine J_name (fun M8 e_8 => ?_)
  have h := h _ e_8
  obtain ⟨c_10, h⟩ := h
  refine J_putRF C fl_Po_9 Nm ⟨_, _, _, rfl, rfl⟩ D_Po_new_10 c_10 ?_
  refine J_name (fun M10 e_10 => ?_)
  have h := h _ e_10
  refine J_aload_n C 0 D_Po_new_13 rfl rfl ?_
  refine J_aload_n C 1 D_Po_new_14 rfl rfl ?_
  obtain ⟨c_15, h⟩ := h
  refine J_putRF C fl_Po_15 Nm ⟨_, _, _, rfl, rfl⟩ D_Po_new_15 c_15 ?_
  refine J_name (fun M15 e_15 => ?_)
  have h := h _ e_15
  exact J_vret C Rt D_Po_new_18 h
theorem D_Ba_new_0 : decode b_Ba_new 0 = .ok (.aload_n 0, 1) := by decide +kernel
theorem D_Ba_new_1 : decode b_Ba_new 1 = .ok (.invokespecial 3, 3) := by decide +kernel
theorem D_Ba_new_4 : decode b_Ba_new 4 = .ok (.aload_n 0, 1) := by decide +kernel
theorem D_Ba_new_5 : decode b_Ba_new 5 = .ok (.bipush 67, 2) := by decide +kernel
theorem D_Ba_new_7 : decode b_Ba_new 7 = .ok (.newarray .int, 2) := by decide +kernel
theorem D_Ba_new_9 : decode b_Ba_new 9 = .ok (.putfield 9, 3) := by decide +kernel
theorem D_Ba_new_12 : decode b_Ba_new 12 = .ok (.aload_n 0, 1) := by decide +kernel
theorem D_Ba_new_13 : decode b_Ba_new 13 = .ok (.bipush 66, 2) := by decide +kernel
theorem D_Ba_new_15 : decode b_Ba_new 15 = .ok (.newarray .int, 2) := by decide +kernel
theorem D_Ba_new_17 : decode b_Ba_new 17 = .ok (.putfield 15, 3) := by decide +kernel
theorem D_Ba_new_20 : decode b_Ba_new 20 = .ok (.aload_n 0, 1) := by decide +kernel
theorem D_Ba_new_21 : decode b_Ba_new 21 = .ok (.bipush 11, 2) := by decide +kernel
theorem D_Ba_new_23 : decode b_Ba_new 23 = .ok (.newarray .int, 2) := by decide +kernel
theorem D_Ba_new_25 : decode b_Ba_new 25 = .ok (.putfield 18, 3) := by decide +kernel
theorem D_Ba_new_28 : decode b_Ba_new 28 = .ok (.aload_n 0, 1) := by decide +kernel
theorem D_Ba_new_29 : decode b_Ba_new 29 = .ok (.bipush 11, 2) := by decide +kernel
theorem D_Ba_new_31 : decode b_Ba_new 31 = .ok (.newarray .int, 2) := by decide +kernel
theorem D_Ba_new_33 : decode b_Ba_new 33 = .ok (.putfield 21, 3) := by decide +kernel
theorem D_Ba_new_36 : decode b_Ba_new 36 = .ok (.aload_n 0, 1) := by decide +kernel
theorem D_Ba_new_37 : decode b_Ba_new 37 = .ok (.bipush 11, 2) := by decide +kernel
theorem D_Ba_new_39 : decode b_Ba_new 39 = .ok (.newarray .int, 2) := by decide +kernel
theorem D_Ba_new_41 : decode b_Ba_new 41 = .ok (.putfield 24, 3) := by decide +kernel
theorem D_Ba_new_44 : decode b_Ba_new 44 = .ok (.aload_n 0, 1) := by decide +kernel
theorem D_Ba_new_45 : decode b_Ba_new 45 = .ok (.iconst 0, 1) := by decide +kernel
theorem D_Ba_new_46 : decode b_Ba_new 46 = .ok (.newarray .int, 2) := by decide +kernel
theorem D_Ba_new_48 : decode b_Ba_new 48 = .ok (.putfield 27, 3) := by decide +kernel
theorem D_Ba_new_51 : decode b_Ba_new 51 = .ok (.aload_n 0, 1) := by decide +kernel
theorem D_Ba_new_52 : decode b_Ba_new 52 = .ok (.iconst 0, 1) := by decide +kernel
theorem D_Ba_new_53 : decode b_Ba_new 53 = .ok (.newarray .int, 2) := by decide +kernel
theorem D_Ba_new_55 : decode b_Ba_new 55 = .ok (.putfield 30, 3) := by decide +kernel
theorem D_Ba_new_58 : decode b_Ba_new 58 = .ok (.aload_n 0, 1) := by decide +kernel
theorem D_Ba_new_59 : decode b_Ba_new 59 = .ok (.iconst (-1), 1) := by decide +kernel
theorem D_Ba_new_60 : decode b_Ba_new 60 = .ok (.putfield 33, 3) := by decide +kernel
theorem D_Ba_new_63 : decode b_Ba_new 63 = .ok (.aload_n 0, 1) := by decide +kernel
theorem D_Ba_new_64 : decode b_Ba_new 64 = .ok (.aload_n 1, 1) := by decide +kernel
theorem D_Ba_new_65 : decode b_Ba_new 65 = .ok (.putfield 37, 3) := by decide +kernel
theorem D_Ba_new_68 : decode b_Ba_new 68 = .ok (.aload_n 0, 1) := by decide +kernel
theorem D_Ba_new_69 : decode b_Ba_new 69 = .ok (.aload_n 2, 1) := by decide +kernel
theorem D_Ba_new_70 : decode b_Ba_new 70 = .ok (.putfield 41, 3) := by decide +kernel
theorem D_Ba_new_73 : decode b_Ba_new 73 = .ok (.aload_n 0, 1) := by decide +kernel
theorem D_Ba_new_74 : decode b_Ba_new 74 = .ok (.aload_n 3, 1) := by decide +kernel
theorem D_Ba_new_75 : decode b_Ba_new 75 = .ok (.putfield 45, 3) := by decide +kernel
theorem D_Ba_new_78 : decode b_Ba_new 78 = .ok (.aload_n 0, 1) := by decide +kernel
theorem D_Ba_new_79 : decode b_Ba_new 79 = .ok (.aload 4, 2) := by decide +kernel
theorem D_Ba_new_81 : decode b_Ba_new 81 = .ok (.putfield 49, 3) := by decide +kernel
theorem D_Ba_new_84 : decode b_Ba_new 84 = .ok (.return_, 1) := by decide +kernel
abbrev rm_Ba_new : Room := { frames := 1, cells := 7, slots := 166, locals := 20 }
def T_Ba_new (a0 : Nat) (a1 : Nat) (a2 : Nat) (a3 : Nat) (a4 : Nat) (M : Mem) (post : Mem → Prop) : Prop := (∀ M7, M7 = mk M 8 67 → (isK M7 a0 0 ∧ ∀ M9, M9 = sR M7 a0 4 (some (nC M)) → (∀ M15, M15 = mk M9 8 66 → (isK M15 a0 0 ∧ ∀ M17, M17 = sR M15 a0 5 (some (nC M9)) → (∀ M23, M23 = mk M17 8 11 → (isK M23 a0 0 ∧ ∀ M25, M25 = sR M23 a0 6 (some (nC M17)) → (∀ M31, M31 = mk M25 8 11 → (isK M31 a0 0 ∧ ∀ M33, M33 = sR M31 a0 7 (some (nC M25)) → (∀ M39, M39 = mk M33 8 11 → (isK M39 a0 0 ∧ ∀ M41, M41 = sR M39 a0 8 (some (nC M33)) → (∀ M46, M46 = mk M41 8 0 → (isK M46 a0 0 ∧ ∀ M48, M48 = sR M46 a0 9 (some (nC M41)) → (∀ M53, M53 = mk M48 8 0 → (isK M53 a0 0 ∧ ∀ M55, M55 = sR M53 a0 10 (some (nC M48)) → (isK M55 a0 0 ∧ ∀ M60, M60 = sI M55 a0 11 ((-1)) → (isK M60 a0 0 ∧ ∀ M65, M65 = sR M60 a0 0 (some a1) → (isK M65 a0 0 ∧ ∀ M70, M70 = sR M65 a0 1 (some a2) → (isK M70 a0 0 ∧ ∀ M75, M75 = sR M70 a0 2 (some a3) → (isK M75 a0 0 ∧ ∀ M81, M81 = sR M75 a0 3 (some a4) → (post M81))))))))))))))))))))
set_option maxRecDepth 20000 in
theorem S_Ba_new {l : Launch} {D : va_G} {B t g : Nat} {d : Nat → Nat} {ac : Nat → ClassId} (hd : ∀ c, d c = B + c) (hg : g = 0)  (a0 : Nat) (a1 : Nat) (a2 : Nat) (a3 : Nat) (a4 : Nat) (M : Mem) (post : Mem → Prop) (h : T_Ba_new a0 a1 a2 a3 a4 M post) : Met l y_Ba_new w_Ba_new rm_Ba_new (va_Pc [.ref (d a0), .ref (d a1), .ref (d a2), .ref (d a3), .ref (d a4)] (PRE D B d g t ac M)) (QV D B d g ac post) 7 166 (AB B) := by
  refine met_v (by decide +kernel) (Nat.le_of_ble_eq_true rfl) (fun x h1 hR h3 h4 h5 h6 h7 h8 C Rt Nm => ?_)
  subst h3 h4 h5 h6 h7 h8
  have Cx : Cnx x := ⟨hd, hg⟩
  unfold T_Ba_new at h
  show J x 5 0 [(0, .ref (xd x a0)), (1, .ref (xd x a1)), (2, .ref (xd x a2)), (3, .ref (xd x a3)), (4, .ref (xd x a4))] [] 0 0 M
  refine J_aload_n C 0 D_Ba_new_0 rfl rfl ?_
  refine J_obj C ko_Ba_3 D_Ba_new_1 (by rw [hR]; decide) (Nat.le_of_ble_eq_true rfl) ?_
  refine J_aload_n C 0 D_Ba_new_4 rfl rfl ?_
  refine J_bipush (v := 67) C D_Ba_new_5 rfl ?_
  refine J_newI C Cx 67 aw_I D_Ba_new_7 ⟨by decide, by decide⟩ (by decide) (by rw [hR]; decide) ?_
  refine J_name (fun M7 e_7 => ?_)
  have h := h _ e_7
  obtain ⟨c_9, h⟩ := h
  refine J_putRF C fl_Ba_9 Nm ⟨_, _, _, rfl, rfl⟩ D_Ba_new_9 c_9 ?_
  refine J_name (fun M9 e_9 => ?_)
  have h := h _ e_9
  refine J_aload_n C 0 D_Ba_new_12 rfl rfl ?_
  refine J_bipush (v := 66) C D_Ba_new_13 rfl ?_
  refine J_newI C Cx 66 aw_I D_Ba_new_15 ⟨by decide, by decide⟩ (by decide) (by rw [hR]; decide) ?_
  refine J_name (fun M15 e_15 => ?_)
  have h := h _ e_15
  obtain ⟨c_17, h⟩ := h
  refine J_putRF C fl_Ba_15 Nm ⟨_, _, _, rfl, rfl⟩ D_Ba_new_17 c_17 ?_
  refine J_name (fun M17 e_17 => ?_)
  have h := h _ e_17
  refine J_aload_n C 0 D_Ba_new_20 rfl rfl ?_
  refine J_bipush (v := 11) C D_Ba_new_21 rfl ?_
  refine J_newI C Cx 11 aw_I D_Ba_new_23 ⟨by decide, by decide⟩ (by decide) (by rw [hR]; decide) ?_
  refine J_name (fun M23 e_23 => ?_)
  have h := h _ e_23
  obtain ⟨c_25, h⟩ := h
  refine J_putRF C fl_Ba_18 Nm ⟨_, _, _, rfl, rfl⟩ D_Ba_new_25 c_25 ?_
  refine J_name (fun M25 e_25 => ?_)
  have h := h _ e_25
  refine J_aload_n C 0 D_Ba_new_28 rfl rfl ?_
  refine J_bipush (v := 11) C D_Ba_new_29 rfl ?_
  refine J_newI C Cx 11 aw_I D_Ba_new_31 ⟨by decide, by decide⟩ (by decide) (by rw [hR]; decide) ?_
  refine J_name (fun M31 e_31 => ?_)
  have h := h _ e_31
  obtain ⟨c_33, h⟩ := h
  refine J_putRF C fl_Ba_21 Nm ⟨_, _, _, rfl, rfl⟩ D_Ba_new_33 c_33 ?_
  refine J_name (fun M33 e_33 => ?_)
  have h := h _ e_33
  refine J_aload_n C 0 D_Ba_new_36 rfl rfl ?_
  refine J_bipush (v := 11) C D_Ba_new_37 rfl ?_
  refine J_newI C Cx 11 aw_I D_Ba_new_39 ⟨by decide, by decide⟩ (by decide) (by rw [hR]; decide) ?_
  refine J_name (fun M39 e_39 => ?_)
  have h := h _ e_39
  obtain ⟨c_41, h⟩ := h
  refine J_putRF C fl_Ba_24 Nm ⟨_, _, _, rfl, rfl⟩ D_Ba_new_41 c_41 ?_
  refine J_name (fun M41 e_41 => ?_)
  have h := h _ e_41
  refine J_aload_n C 0 D_Ba_new_44 rfl rfl ?_
  refine J_iconst (v := 0) C D_Ba_new_45 rfl ?_
  refine J_newI C Cx 0 aw_I D_Ba_new_46 ⟨by decide, by decide⟩ (by decide) (by rw [hR]; decide) ?_
  refine J_name (fun M46 e_46 => ?_)
  have h := h _ e_46
  obtain ⟨c_48, h⟩ := h
  refine J_putR C fl_Ba_27 D_Ba_new_48 c_48 ?_
  refine J_name (fun M48 e_48 => ?_)
  have h := h _ e_48
  refine J_aload_n C 0 D_Ba_new_51 rfl rfl ?_
  refine J_iconst (v := 0) C D_Ba_new_52 rfl ?_
  refine J_newI C Cx 0 aw_I D_Ba_new_53 ⟨by decide, by decide⟩ (by decide) (by rw [hR]; decide) ?_
  refine J_name (fun M53 e_53 => ?_)
  have h := h _ e_53
  obtain ⟨c_55, h⟩ := h
  refine J_putR C fl_Ba_30 D_Ba_new_55 c_55 ?_
  refine J_name (fun M55 e_55 => ?_)
  have h := h _ e_55
  refine J_aload_n C 0 D_Ba_new_58 rfl rfl ?_
  refine J_iconst (v := (-1)) C D_Ba_new_59 rfl ?_
  obtain ⟨c_60, h⟩ := h
  refine J_putI C fl_Ba_33 D_Ba_new_60 c_60 ?_
  refine J_name (fun M60 e_60 => ?_)
  have h := h _ e_60
  refine J_aload_n C 0 D_Ba_new_63 rfl rfl ?_
  refine J_aload_n C 1 D_Ba_new_64 rfl rfl ?_
  obtain ⟨c_65, h⟩ := h
  refine J_putRF C fl_Ba_37 Nm ⟨_, _, _, rfl, rfl⟩ D_Ba_new_65 c_65 ?_
  refine J_name (fun M65 e_65 => ?_)
  have h := h _ e_65
  refine J_aload_n C 0 D_Ba_new_68 rfl rfl ?_
  refine J_aload_n C 2 D_Ba_new_69 rfl rfl ?_
  obtain ⟨c_70, h⟩ := h
  refine J_putRF C fl_Ba_41 Nm ⟨_, _, _, rfl, rfl⟩ D_Ba_new_70 c_70 ?_
  refine J_name (fun M70 e_70 => ?_)
  have h := h _ e_70
  refine J_aload_n C 0 D_Ba_new_73 rfl rfl ?_
  refine J_aload_n C 3 D_Ba_new_74 rfl rfl ?_
  obtain ⟨c_75, h⟩ := h
  refine J_putRF C fl_Ba_45 Nm ⟨_, _, _, rfl, rfl⟩ D_Ba_new_75 c_75 ?_
  refine J_name (fun M75 e_75 => ?_)
  have h := h _ e_75
  refine J_aload_n C 0 D_Ba_new_78 rfl rfl ?_
  refine J_aload C 4 D_Ba_new_79 rfl ?_
  obtain ⟨c_81, h⟩ := h
  refine J_putRF C fl_Ba_49 Nm ⟨_, _, _, rfl, rfl⟩ D_Ba_new_81 c_81 ?_
  refine J_name (fun M81 e_81 => ?_)
  have h := h _ e_81
  exact J_vret C Rt D_Ba_new_84 h
theorem D_He_new_0 : decode b_He_new 0 = .ok (.aload_n 0, 1) := by decide +kernel
theorem D_He_new_1 : decode b_He_new 1 = .ok (.invokespecial 3, 3) := by decide +kernel
theorem D_He_new_4 : decode b_He_new 4 = .ok (.aload_n 0, 1) := by decide +kernel
theorem D_He_new_5 : decode b_He_new 5 = .ok (.bipush 6, 2) := by decide +kernel
theorem D_He_new_7 : decode b_He_new 7 = .ok (.newarray .int, 2) := by decide +kernel
theorem D_He_new_9 : decode b_He_new 9 = .ok (.putfield 9, 3) := by decide +kernel
theorem D_He_new_12 : decode b_He_new 12 = .ok (.aload_n 0, 1) := by decide +kernel
theorem D_He_new_13 : decode b_He_new 13 = .ok (.bipush 6, 2) := by decide +kernel
theorem D_He_new_15 : decode b_He_new 15 = .ok (.bipush 21, 2) := by decide +kernel
theorem D_He_new_17 : decode b_He_new 17 = .ok (.multianewarray 15 2, 4) := by decide +kernel
theorem D_He_new_21 : decode b_He_new 21 = .ok (.putfield 17, 3) := by decide +kernel
theorem D_He_new_24 : decode b_He_new 24 = .ok (.aload_n 0, 1) := by decide +kernel
theorem D_He_new_25 : decode b_He_new 25 = .ok (.aload_n 1, 1) := by decide +kernel
theorem D_He_new_26 : decode b_He_new 26 = .ok (.putfield 20, 3) := by decide +kernel
theorem D_He_new_29 : decode b_He_new 29 = .ok (.aload_n 0, 1) := by decide +kernel
theorem D_He_new_30 : decode b_He_new 30 = .ok (.aload_n 2, 1) := by decide +kernel
theorem D_He_new_31 : decode b_He_new 31 = .ok (.putfield 24, 3) := by decide +kernel
theorem D_He_new_34 : decode b_He_new 34 = .ok (.return_, 1) := by decide +kernel
abbrev rm_He_new : Room := { frames := 1, cells := 8, slots := 138, locals := 20 }
def T_He_new (a0 : Nat) (a1 : Nat) (a2 : Nat) (M : Mem) (post : Mem → Prop) : Prop := (∀ M7, M7 = mk M 8 6 → (isK M7 a0 1 ∧ ∀ M9, M9 = sR M7 a0 2 (some (nC M)) → (∀ M17, M17 = mk2 M9 6 21 → (isK M17 a0 1 ∧ ∀ M21, M21 = sR M17 a0 3 (some (nC M9)) → (isK M21 a0 1 ∧ ∀ M26, M26 = sR M21 a0 0 (some a1) → (isK M26 a0 1 ∧ ∀ M31, M31 = sR M26 a0 1 (some a2) → (post M31)))))))
set_option maxRecDepth 20000 in
theorem S_He_new {l : Launch} {D : va_G} {B t g : Nat} {d : Nat → Nat} {ac : Nat → ClassId} (hd : ∀ c, d c = B + c) (hg : g = 0)  (a0 : Nat) (a1 : Nat) (a2 : Nat) (M : Mem) (post : Mem → Prop) (h : T_He_new a0 a1 a2 M post) : Met l y_He_new w_He_new rm_He_new (va_Pc [.ref (d a0), .ref (d a1), .ref (d a2)] (PRE D B d g t ac M)) (QV D B d g ac post) 8 138 (AB B) := by
  refine met_v (by decide +kernel) (Nat.le_of_ble_eq_true rfl) (fun x h1 hR h3 h4 h5 h6 h7 h8 C Rt Nm => ?_)
  subst h3 h4 h5 h6 h7 h8
  have Cx : Cnx x := ⟨hd, hg⟩
  unfold T_He_new at h
  show J x 3 0 [(0, .ref (xd x a0)), (1, .ref (xd x a1)), (2, .ref (xd x a2))] [] 0 0 M
  refine J_aload_n C 0 D_He_new_0 rfl rfl ?_
  refine J_obj C ko_He_3 D_He_new_1 (by rw [hR]; decide) (Nat.le_of_ble_eq_true rfl) ?_
  refine J_aload_n C 0 D_He_new_4 rfl rfl ?_
  refine J_bipush (v := 6) C D_He_new_5 rfl ?_
  refine J_newI C Cx 6 aw_I D_He_new_7 ⟨by decide, by decide⟩ (by decide) (by rw [hR]; decide) ?_
  refine J_name (fun M7 e_7 => ?_)
  have h := h _ e_7
  obtain ⟨c_9, h⟩ := h
  refine J_putRF C fl_He_9 Nm ⟨_, _, _, rfl, rfl⟩ D_He_new_9 c_9 ?_
  refine J_name (fun M9 e_9 => ?_)
  have h := h _ e_9
  refine J_aload_n C 0 D_He_new_12 rfl rfl ?_
  refine J_bipush (v := 6) C D_He_new_13 rfl ?_
  refine J_bipush (v := 21) C D_He_new_15 rfl ?_
  refine J_mna C Cx 6 21 ⟨cl_He_15, aw_I⟩ D_He_new_17 ⟨⟨by decide, by decide⟩, by decide, by decide⟩ ⟨by decide, by decide⟩ (by rw [hR]; decide) ?_
  refine J_name (fun M17 e_17 => ?_)
  have h := h _ e_17
  obtain ⟨c_21, h⟩ := h
  refine J_putRF C fl_He_17 Nm ⟨_, _, _, rfl, rfl⟩ D_He_new_21 c_21 ?_
  refine J_name (fun M21 e_21 => ?_)
  have h := h _ e_21
  refine J_aload_n C 0 D_He_new_24 rfl rfl ?_
  refine J_aload_n C 1 D_He_new_25 rfl rfl ?_
  obtain ⟨c_26, h⟩ := h
  refine J_putRF C fl_He_20 Nm ⟨_, _, _, rfl, rfl⟩ D_He_new_26 c_26 ?_
  refine J_name (fun M26 e_26 => ?_)
  have h := h _ e_26
  refine J_aload_n C 0 D_He_new_29 rfl rfl ?_
  refine J_aload_n C 2 D_He_new_30 rfl rfl ?_
  obtain ⟨c_31, h⟩ := h
  refine J_putRF C fl_He_24 Nm ⟨_, _, _, rfl, rfl⟩ D_He_new_31 c_31 ?_
  refine J_name (fun M31 e_31 => ?_)
  have h := h _ e_31
  exact J_vret C Rt D_He_new_34 h
theorem D_HT_new_0 : decode b_HT_new 0 = .ok (.aload_n 0, 1) := by decide +kernel
theorem D_HT_new_1 : decode b_HT_new 1 = .ok (.invokespecial 1, 3) := by decide +kernel
theorem D_HT_new_4 : decode b_HT_new 4 = .ok (.aload_n 0, 1) := by decide +kernel
theorem D_HT_new_5 : decode b_HT_new 5 = .ok (.new 7, 3) := by decide +kernel
theorem D_HT_new_8 : decode b_HT_new 8 = .ok (.dup, 1) := by decide +kernel
theorem D_HT_new_9 : decode b_HT_new 9 = .ok (.invokespecial 9, 3) := by decide +kernel
theorem D_HT_new_12 : decode b_HT_new 12 = .ok (.putfield 10, 3) := by decide +kernel
theorem D_HT_new_15 : decode b_HT_new 15 = .ok (.aload_n 0, 1) := by decide +kernel
theorem D_HT_new_16 : decode b_HT_new 16 = .ok (.new 16, 3) := by decide +kernel
theorem D_HT_new_19 : decode b_HT_new 19 = .ok (.dup, 1) := by decide +kernel
theorem D_HT_new_20 : decode b_HT_new 20 = .ok (.invokespecial 18, 3) := by decide +kernel
theorem D_HT_new_23 : decode b_HT_new 23 = .ok (.putfield 19, 3) := by decide +kernel
theorem D_HT_new_26 : decode b_HT_new 26 = .ok (.aload_n 0, 1) := by decide +kernel
theorem D_HT_new_27 : decode b_HT_new 27 = .ok (.new 23, 3) := by decide +kernel
theorem D_HT_new_30 : decode b_HT_new 30 = .ok (.dup, 1) := by decide +kernel
theorem D_HT_new_31 : decode b_HT_new 31 = .ok (.aload_n 0, 1) := by decide +kernel
theorem D_HT_new_32 : decode b_HT_new 32 = .ok (.getfield 10, 3) := by decide +kernel
theorem D_HT_new_35 : decode b_HT_new 35 = .ok (.aload_n 0, 1) := by decide +kernel
theorem D_HT_new_36 : decode b_HT_new 36 = .ok (.getfield 19, 3) := by decide +kernel
theorem D_HT_new_39 : decode b_HT_new 39 = .ok (.invokespecial 25, 3) := by decide +kernel
theorem D_HT_new_42 : decode b_HT_new 42 = .ok (.putfield 28, 3) := by decide +kernel
theorem D_HT_new_45 : decode b_HT_new 45 = .ok (.aload_n 0, 1) := by decide +kernel
theorem D_HT_new_46 : decode b_HT_new 46 = .ok (.bipush 66, 2) := by decide +kernel
theorem D_HT_new_48 : decode b_HT_new 48 = .ok (.newarray .int, 2) := by decide +kernel
theorem D_HT_new_50 : decode b_HT_new 50 = .ok (.putfield 32, 3) := by decide +kernel
theorem D_HT_new_53 : decode b_HT_new 53 = .ok (.aload_n 0, 1) := by decide +kernel
theorem D_HT_new_54 : decode b_HT_new 54 = .ok (.bipush 45, 2) := by decide +kernel
theorem D_HT_new_56 : decode b_HT_new 56 = .ok (.bipush 36, 2) := by decide +kernel
theorem D_HT_new_58 : decode b_HT_new 58 = .ok (.multianewarray 36 2, 4) := by decide +kernel
theorem D_HT_new_62 : decode b_HT_new 62 = .ok (.putfield 38, 3) := by decide +kernel
theorem D_HT_new_65 : decode b_HT_new 65 = .ok (.aload_n 0, 1) := by decide +kernel
theorem D_HT_new_66 : decode b_HT_new 66 = .ok (.new 41, 3) := by decide +kernel
theorem D_HT_new_69 : decode b_HT_new 69 = .ok (.dup, 1) := by decide +kernel
theorem D_HT_new_70 : decode b_HT_new 70 = .ok (.aload_n 0, 1) := by decide +kernel
theorem D_HT_new_71 : decode b_HT_new 71 = .ok (.getfield 10, 3) := by decide +kernel
theorem D_HT_new_74 : decode b_HT_new 74 = .ok (.invokespecial 43, 3) := by decide +kernel
theorem D_HT_new_77 : decode b_HT_new 77 = .ok (.putfield 46, 3) := by decide +kernel
theorem D_HT_new_80 : decode b_HT_new 80 = .ok (.aload_n 0, 1) := by decide +kernel
theorem D_HT_new_81 : decode b_HT_new 81 = .ok (.bipush 6, 2) := by decide +kernel
theorem D_HT_new_83 : decode b_HT_new 83 = .ok (.anewarray 41, 3) := by decide +kernel
theorem D_HT_new_86 : decode b_HT_new 86 = .ok (.putfield 50, 3) := by decide +kernel
theorem D_HT_new_89 : decode b_HT_new 89 = .ok (.iconst 0, 1) := by decide +kernel
theorem D_HT_new_90 : decode b_HT_new 90 = .ok (.istore_n 1, 1) := by decide +kernel
theorem D_HT_new_91 : decode b_HT_new 91 = .ok (.iload_n 1, 1) := by decide +kernel
theorem D_HT_new_92 : decode b_HT_new 92 = .ok (.bipush 6, 2) := by decide +kernel
theorem D_HT_new_94 : decode b_HT_new 94 = .ok (.if_icmp .ge 26, 3) := by decide +kernel
theorem D_HT_new_97 : decode b_HT_new 97 = .ok (.aload_n 0, 1) := by decide +kernel
theorem D_HT_new_98 : decode b_HT_new 98 = .ok (.getfield 50, 3) := by decide +kernel
theorem D_HT_new_101 : decode b_HT_new 101 = .ok (.iload_n 1, 1) := by decide +kernel
theorem D_HT_new_102 : decode b_HT_new 102 = .ok (.new 41, 3) := by decide +kernel
theorem D_HT_new_105 : decode b_HT_new 105 = .ok (.dup, 1) := by decide +kernel
theorem D_HT_new_106 : decode b_HT_new 106 = .ok (.aload_n 0, 1) := by decide +kernel
theorem D_HT_new_107 : decode b_HT_new 107 = .ok (.getfield 10, 3) := by decide +kernel
theorem D_HT_new_110 : decode b_HT_new 110 = .ok (.invokespecial 43, 3) := by decide +kernel
theorem D_HT_new_113 : decode b_HT_new 113 = .ok (.aastore, 1) := by decide +kernel
theorem D_HT_new_114 : decode b_HT_new 114 = .ok (.iinc 1 1, 3) := by decide +kernel
theorem D_HT_new_117 : decode b_HT_new 117 = .ok (.goto (-26), 3) := by decide +kernel
theorem D_HT_new_120 : decode b_HT_new 120 = .ok (.bipush 66, 2) := by decide +kernel
theorem D_HT_new_122 : decode b_HT_new 122 = .ok (.newarray .int, 2) := by decide +kernel
theorem D_HT_new_124 : decode b_HT_new 124 = .ok (.astore_n 1, 1) := by decide +kernel
theorem D_HT_new_125 : decode b_HT_new 125 = .ok (.aload_n 0, 1) := by decide +kernel
theorem D_HT_new_126 : decode b_HT_new 126 = .ok (.new 54, 3) := by decide +kernel
theorem D_HT_new_129 : decode b_HT_new 129 = .ok (.dup, 1) := by decide +kernel
theorem D_HT_new_130 : decode b_HT_new 130 = .ok (.aload_n 0, 1) := by decide +kernel
theorem D_HT_new_131 : decode b_HT_new 131 = .ok (.getfield 10, 3) := by decide +kernel
theorem D_HT_new_134 : decode b_HT_new 134 = .ok (.aload_n 0, 1) := by decide +kernel
theorem D_HT_new_135 : decode b_HT_new 135 = .ok (.getfield 19, 3) := by decide +kernel
theorem D_HT_new_138 : decode b_HT_new 138 = .ok (.aload_n 0, 1) := by decide +kernel
theorem D_HT_new_139 : decode b_HT_new 139 = .ok (.getfield 28, 3) := by decide +kernel
theorem D_HT_new_142 : decode b_HT_new 142 = .ok (.aload_n 1, 1) := by decide +kernel
theorem D_HT_new_143 : decode b_HT_new 143 = .ok (.invokespecial 56, 3) := by decide +kernel
theorem D_HT_new_146 : decode b_HT_new 146 = .ok (.putfield 59, 3) := by decide +kernel
theorem D_HT_new_149 : decode b_HT_new 149 = .ok (.aload_n 0, 1) := by decide +kernel
theorem D_HT_new_150 : decode b_HT_new 150 = .ok (.new 54, 3) := by decide +kernel
theorem D_HT_new_153 : decode b_HT_new 153 = .ok (.dup, 1) := by decide +kernel
theorem D_HT_new_154 : decode b_HT_new 154 = .ok (.aload_n 0, 1) := by decide +kernel
theorem D_HT_new_155 : decode b_HT_new 155 = .ok (.getfield 10, 3) := by decide +kernel
theorem D_HT_new_158 : decode b_HT_new 158 = .ok (.aload_n 0, 1) := by decide +kernel
theorem D_HT_new_159 : decode b_HT_new 159 = .ok (.getfield 19, 3) := by decide +kernel
theorem D_HT_new_162 : decode b_HT_new 162 = .ok (.aload_n 0, 1) := by decide +kernel
theorem D_HT_new_163 : decode b_HT_new 163 = .ok (.getfield 28, 3) := by decide +kernel
theorem D_HT_new_166 : decode b_HT_new 166 = .ok (.aload_n 1, 1) := by decide +kernel
theorem D_HT_new_167 : decode b_HT_new 167 = .ok (.invokespecial 56, 3) := by decide +kernel
theorem D_HT_new_170 : decode b_HT_new 170 = .ok (.putfield 63, 3) := by decide +kernel
theorem D_HT_new_173 : decode b_HT_new 173 = .ok (.aload_n 0, 1) := by decide +kernel
theorem D_HT_new_174 : decode b_HT_new 174 = .ok (.new 54, 3) := by decide +kernel
theorem D_HT_new_177 : decode b_HT_new 177 = .ok (.dup, 1) := by decide +kernel
theorem D_HT_new_178 : decode b_HT_new 178 = .ok (.aload_n 0, 1) := by decide +kernel
theorem D_HT_new_179 : decode b_HT_new 179 = .ok (.getfield 10, 3) := by decide +kernel
theorem D_HT_new_182 : decode b_HT_new 182 = .ok (.aload_n 0, 1) := by decide +kernel
theorem D_HT_new_183 : decode b_HT_new 183 = .ok (.getfield 19, 3) := by decide +kernel
theorem D_HT_new_186 : decode b_HT_new 186 = .ok (.aload_n 0, 1) := by decide +kernel
theorem D_HT_new_187 : decode b_HT_new 187 = .ok (.getfield 28, 3) := by decide +kernel
theorem D_HT_new_190 : decode b_HT_new 190 = .ok (.aload_n 1, 1) := by decide +kernel
theorem D_HT_new_191 : decode b_HT_new 191 = .ok (.invokespecial 56, 3) := by decide +kernel
theorem D_HT_new_194 : decode b_HT_new 194 = .ok (.putfield 66, 3) := by decide +kernel
theorem D_HT_new_197 : decode b_HT_new 197 = .ok (.aload_n 0, 1) := by decide +kernel
theorem D_HT_new_198 : decode b_HT_new 198 = .ok (.new 69, 3) := by decide +kernel
theorem D_HT_new_201 : decode b_HT_new 201 = .ok (.dup, 1) := by decide +kernel
theorem D_HT_new_202 : decode b_HT_new 202 = .ok (.new 54, 3) := by decide +kernel
theorem D_HT_new_205 : decode b_HT_new 205 = .ok (.dup, 1) := by decide +kernel
theorem D_HT_new_206 : decode b_HT_new 206 = .ok (.aload_n 0, 1) := by decide +kernel
theorem D_HT_new_207 : decode b_HT_new 207 = .ok (.getfield 10, 3) := by decide +kernel
theorem D_HT_new_210 : decode b_HT_new 210 = .ok (.aload_n 0, 1) := by decide +kernel
theorem D_HT_new_211 : decode b_HT_new 211 = .ok (.getfield 19, 3) := by decide +kernel
theorem D_HT_new_214 : decode b_HT_new 214 = .ok (.aload_n 0, 1) := by decide +kernel
theorem D_HT_new_215 : decode b_HT_new 215 = .ok (.getfield 28, 3) := by decide +kernel
theorem D_HT_new_218 : decode b_HT_new 218 = .ok (.aload_n 1, 1) := by decide +kernel
theorem D_HT_new_219 : decode b_HT_new 219 = .ok (.invokespecial 56, 3) := by decide +kernel
theorem D_HT_new_222 : decode b_HT_new 222 = .ok (.aload_n 1, 1) := by decide +kernel
theorem D_HT_new_223 : decode b_HT_new 223 = .ok (.invokespecial 71, 3) := by decide +kernel
theorem D_HT_new_226 : decode b_HT_new 226 = .ok (.putfield 74, 3) := by decide +kernel
theorem D_HT_new_229 : decode b_HT_new 229 = .ok (.aload_n 0, 1) := by decide +kernel
theorem D_HT_new_230 : decode b_HT_new 230 = .ok (.new 69, 3) := by decide +kernel
theorem D_HT_new_233 : decode b_HT_new 233 = .ok (.dup, 1) := by decide +kernel
theorem D_HT_new_234 : decode b_HT_new 234 = .ok (.new 54, 3) := by decide +kernel
theorem D_HT_new_237 : decode b_HT_new 237 = .ok (.dup, 1) := by decide +kernel
theorem D_HT_new_238 : decode b_HT_new 238 = .ok (.aload_n 0, 1) := by decide +kernel
theorem D_HT_new_239 : decode b_HT_new 239 = .ok (.getfield 10, 3) := by decide +kernel
theorem D_HT_new_242 : decode b_HT_new 242 = .ok (.aload_n 0, 1) := by decide +kernel
theorem D_HT_new_243 : decode b_HT_new 243 = .ok (.getfield 19, 3) := by decide +kernel
theorem D_HT_new_246 : decode b_HT_new 246 = .ok (.aload_n 0, 1) := by decide +kernel
theorem D_HT_new_247 : decode b_HT_new 247 = .ok (.getfield 28, 3) := by decide +kernel
theorem D_HT_new_250 : decode b_HT_new 250 = .ok (.aload_n 1, 1) := by decide +kernel
theorem D_HT_new_251 : decode b_HT_new 251 = .ok (.invokespecial 56, 3) := by decide +kernel
theorem D_HT_new_254 : decode b_HT_new 254 = .ok (.aload_n 1, 1) := by decide +kernel
theorem D_HT_new_255 : decode b_HT_new 255 = .ok (.invokespecial 71, 3) := by decide +kernel
theorem D_HT_new_258 : decode b_HT_new 258 = .ok (.putfield 78, 3) := by decide +kernel
theorem D_HT_new_261 : decode b_HT_new 261 = .ok (.return_, 1) := by decide +kernel
abbrev rm_HT_new : Room := { frames := 4, cells := 198, slots := 10096, locals := 90 }
def T_HT_new (a0 : Nat) (M : Mem) (post : Mem → Prop) : Prop := (∀ M5u4, M5u4 = mk M 4 0 → (T_Pr_new (nC M) M5u4 (fun M9u6 => isK M9u6 a0 6 ∧ ∀ M12u7, M12u7 = sR M9u6 a0 0 (some (nC M)) → (∀ M16u9, M16u9 = mk M12u7 2 0 → (T_Nu_new (nC M12u7) M16u9 (fun M20u11 => isK M20u11 a0 6 ∧ ∀ M23u12, M23u12 = sR M20u11 a0 1 (some (nC M12u7)) → (∀ M27u14, M27u14 = mk M23u12 5 0 → (isK M27u14 a0 6 ∧ ∃ q32u17, gR M27u14 a0 0 = some q32u17 ∧ isK M27u14 a0 6 ∧ ∃ q36u19, gR M27u14 a0 1 = some q36u19 ∧ T_Ro_new (nC M23u12) q32u17 q36u19 M27u14 (fun M39u20 => isK M39u20 a0 6 ∧ ∀ M42u21, M42u21 = sR M39u20 a0 2 (some (nC M23u12)) → (∀ M48u24, M48u24 = mk M42u21 8 66 → (isK M48u24 a0 6 ∧ ∀ M50u25, M50u25 = sR M48u24 a0 3 (some (nC M42u21)) → (∀ M58u29, M58u29 = mk2 M50u25 45 36 → (isK M58u29 a0 6 ∧ ∀ M62u30, M62u30 = sR M58u29 a0 4 (some (nC M50u25)) → (∀ M66u32, M66u32 = mk M62u30 3 0 → (isK M66u32 a0 6 ∧ ∃ q71u35, gR M66u32 a0 0 = some q71u35 ∧ T_Po_new (nC M62u30) q71u35 M66u32 (fun M74u36 => isK M74u36 a0 6 ∧ ∀ M77u37, M77u37 = sR M74u36 a0 5 (some (nC M62u30)) → (∀ M83u40, M83u40 = mk M77u37 10 6 → (isK M83u40 a0 6 ∧ ∀ M86u41, M86u41 = sR M83u40 a0 6 (some (nC M77u37)) → (isK M86u41 a0 6 ∧ ∃ q98u48, gR M86u41 a0 6 = some q98u48 ∧ ∀ M102u50, M102u50 = mk M86u41 3 0 → (isK M102u50 a0 6 ∧ ∃ q107u53, gR M102u50 a0 0 = some q107u53 ∧ T_Po_new (nC M86u41) q107u53 M102u50 (fun M110u54 => isA M110u54 q98u48 10 0 ∧ isK M110u54 (nC M86u41) 3 ∧ ∀ M113u55, M113u55 = sR M110u54 q98u48 (Int32.toNatClampNeg 0) (some (nC M86u41)) → (isK M113u55 a0 6 ∧ ∃ q98u62, gR M113u55 a0 6 = some q98u62 ∧ ∀ M102u64, M102u64 = mk M113u55 3 0 → (isK M102u64 a0 6 ∧ ∃ q107u67, gR M102u64 a0 0 = some q107u67 ∧ T_Po_new (nC M113u55) q107u67 M102u64 (fun M110u68 => isA M110u68 q98u62 10 1 ∧ isK M110u68 (nC M113u55) 3 ∧ ∀ M113u69, M113u69 = sR M110u68 q98u62 (Int32.toNatClampNeg 1) (some (nC M113u55)) → (isK M113u69 a0 6 ∧ ∃ q98u76, gR M113u69 a0 6 = some q98u76 ∧ ∀ M102u78, M102u78 = mk M113u69 3 0 → (isK M102u78 a0 6 ∧ ∃ q107u81, gR M102u78 a0 0 = some q107u81 ∧ T_Po_new (nC M113u69) q107u81 M102u78 (fun M110u82 => isA M110u82 q98u76 10 2 ∧ isK M110u82 (nC M113u69) 3 ∧ ∀ M113u83, M113u83 = sR M110u82 q98u76 (Int32.toNatClampNeg 2) (some (nC M113u69)) → (isK M113u83 a0 6 ∧ ∃ q98u90, gR M113u83 a0 6 = some q98u90 ∧ ∀ M102u92, M102u92 = mk M113u83 3 0 → (isK M102u92 a0 6 ∧ ∃ q107u95, gR M102u92 a0 0 = some q107u95 ∧ T_Po_new (nC M113u83) q107u95 M102u92 (fun M110u96 => isA M110u96 q98u90 10 3 ∧ isK M110u96 (nC M113u83) 3 ∧ ∀ M113u97, M113u97 = sR M110u96 q98u90 (Int32.toNatClampNeg 3) (some (nC M113u83)) → (isK M113u97 a0 6 ∧ ∃ q98u104, gR M113u97 a0 6 = some q98u104 ∧ ∀ M102u106, M102u106 = mk M113u97 3 0 → (isK M102u106 a0 6 ∧ ∃ q107u109, gR M102u106 a0 0 = some q107u109 ∧ T_Po_new (nC M113u97) q107u109 M102u106 (fun M110u110 => isA M110u110 q98u104 10 4 ∧ isK M110u110 (nC M113u97) 3 ∧ ∀ M113u111, M113u111 = sR M110u110 q98u104 (Int32.toNatClampNeg 4) (some (nC M113u97)) → (isK M113u111 a0 6 ∧ ∃ q98u118, gR M113u111 a0 6 = some q98u118 ∧ ∀ M102u120, M102u120 = mk M113u111 3 0 → (isK M102u120 a0 6 ∧ ∃ q107u123, gR M102u120 a0 0 = some q107u123 ∧ T_Po_new (nC M113u111) q107u123 M102u120 (fun M110u124 => isA M110u124 q98u118 10 5 ∧ isK M110u124 (nC M113u111) 3 ∧ ∀ M113u125, M113u125 = sR M110u124 q98u118 (Int32.toNatClampNeg 5) (some (nC M113u111)) → (∀ M122u132, M122u132 = mk M113u125 8 66 → (∀ M126u135, M126u135 = mk M122u132 0 0 → (isK M126u135 a0 6 ∧ ∃ q131u138, gR M126u135 a0 0 = some q131u138 ∧ isK M126u135 a0 6 ∧ ∃ q135u140, gR M126u135 a0 1 = some q135u140 ∧ isK M126u135 a0 6 ∧ ∃ q139u142, gR M126u135 a0 2 = some q139u142 ∧ T_Ba_new (nC M122u132) q131u138 q135u140 q139u142 (nC M113u125) M126u135 (fun M143u144 => isK M143u144 a0 6 ∧ ∀ M146u145, M146u145 = sR M143u144 a0 7 (some (nC M122u132)) → (∀ M150u147, M150u147 = mk M146u145 0 0 → (isK M150u147 a0 6 ∧ ∃ q155u150, gR M150u147 a0 0 = some q155u150 ∧ isK M150u147 a0 6 ∧ ∃ q159u152, gR M150u147 a0 1 = some q159u152 ∧ isK M150u147 a0 6 ∧ ∃ q163u154, gR M150u147 a0 2 = some q163u154 ∧ T_Ba_new (nC M146u145) q155u150 q159u152 q163u154 (nC M113u125) M150u147 (fun M167u156 => isK M167u156 a0 6 ∧ ∀ M170u157, M170u157 = sR M167u156 a0 8 (some (nC M146u145)) → (∀ M174u159, M174u159 = mk M170u157 0 0 → (isK M174u159 a0 6 ∧ ∃ q179u162, gR M174u159 a0 0 = some q179u162 ∧ isK M174u159 a0 6 ∧ ∃ q183u164, gR M174u159 a0 1 = some q183u164 ∧ isK M174u159 a0 6 ∧ ∃ q187u166, gR M174u159 a0 2 = some q187u166 ∧ T_Ba_new (nC M170u157) q179u162 q183u164 q187u166 (nC M113u125) M174u159 (fun M191u168 => isK M191u168 a0 6 ∧ ∀ M194u169, M194u169 = sR M191u168 a0 9 (some (nC M170u157)) → (∀ M198u171, M198u171 = mk M194u169 1 0 → (∀ M202u173, M202u173 = mk M198u171 0 0 → (isK M202u173 a0 6 ∧ ∃ q207u176, gR M202u173 a0 0 = some q207u176 ∧ isK M202u173 a0 6 ∧ ∃ q211u178, gR M202u173 a0 1 = some q211u178 ∧ isK M202u173 a0 6 ∧ ∃ q215u180, gR M202u173 a0 2 = some q215u180 ∧ T_Ba_new (nC M198u171) q207u176 q211u178 q215u180 (nC M113u125) M202u173 (fun M219u182 => T_He_new (nC M194u169) (nC M198u171) (nC M113u125) M219u182 (fun M223u184 => isK M223u184 a0 6 ∧ ∀ M226u185, M226u185 = sR M223u184 a0 10 (some (nC M194u169)) → (∀ M230u187, M230u187 = mk M226u185 1 0 → (∀ M234u189, M234u189 = mk M230u187 0 0 → (isK M234u189 a0 6 ∧ ∃ q239u192, gR M234u189 a0 0 = some q239u192 ∧ isK M234u189 a0 6 ∧ ∃ q243u194, gR M234u189 a0 1 = some q243u194 ∧ isK M234u189 a0 6 ∧ ∃ q247u196, gR M234u189 a0 2 = some q247u196 ∧ T_Ba_new (nC M230u187) q239u192 q243u194 q247u196 (nC M113u125) M234u189 (fun M251u198 => T_He_new (nC M226u185) (nC M230u187) (nC M113u125) M251u198 (fun M255u200 => isK M255u200 a0 6 ∧ ∀ M258u201, M258u201 = sR M255u200 a0 11 (some (nC M226u185)) → (post M258u201)))))))))))))))))))))))))))))))))))))))))))))))))))))))))
set_option maxRecDepth 20000 in
theorem S_HT_new {l : Launch} {D : va_G} {B t g : Nat} {d : Nat → Nat} {ac : Nat → ClassId} (hd : ∀ c, d c = B + c) (hg : g = 0)  (a0 : Nat) (M : Mem) (post : Mem → Prop) (h : T_HT_new a0 M post) : Met l y_HT_new w_HT_new rm_HT_new (va_Pc [.ref (d a0)] (PRE D B d g t ac M)) (QV D B d g ac post) 198 10096 (AB B) := by
  refine met_v (by decide +kernel) (Nat.le_of_ble_eq_true rfl) (fun x h1 hR h3 h4 h5 h6 h7 h8 C Rt Nm => ?_)
  subst h3 h4 h5 h6 h7 h8
  have Cx : Cnx x := ⟨hd, hg⟩
  unfold T_HT_new at h
  show J x 2 0 [(0, .ref (xd x a0))] [] 0 0 M
  refine J_aload_n C 0 D_HT_new_0 rfl rfl ?_
  refine J_obj C ko_HT_1 D_HT_new_1 (by rw [hR]; decide) (Nat.le_of_ble_eq_true rfl) ?_
  refine J_aload_n C 0 D_HT_new_4 rfl rfl ?_
  refine J_new C Cx nw_HT_7 D_HT_new_5 (by rw [hR]; decide) ?_
  refine J_name (fun M5u4 e_5 => ?_)
  have h := h _ e_5
  refine J_dup C D_HT_new_8 rfl ?_
  refine J_callIv C ml_HT_9 (S_Pr_new Cx.1 Cx.2 _ _ _ h) (by rw [hR]; decide) rfl rfl (Nat.le_of_ble_eq_true rfl) D_HT_new_9 (fun M9u6 h => ?_)
  obtain ⟨c_12, h⟩ := h
  refine J_putRF C fl_HT_10 Nm ⟨_, _, _, rfl, rfl⟩ D_HT_new_12 c_12 ?_
  refine J_name (fun M12u7 e_12 => ?_)
  have h := h _ e_12
  refine J_aload_n C 0 D_HT_new_15 rfl rfl ?_
  refine J_new C Cx nw_HT_16 D_HT_new_16 (by rw [hR]; decide) ?_
  refine J_name (fun M16u9 e_16 => ?_)
  have h := h _ e_16
  refine J_dup C D_HT_new_19 rfl ?_
  refine J_callIv C ml_HT_18 (S_Nu_new Cx.1 Cx.2 _ _ _ h) (by rw [hR]; decide) rfl rfl (Nat.le_of_ble_eq_true rfl) D_HT_new_20 (fun M20u11 h => ?_)
  obtain ⟨c_23, h⟩ := h
  refine J_putRF C fl_HT_19 Nm ⟨_, _, _, rfl, rfl⟩ D_HT_new_23 c_23 ?_
  refine J_name (fun M23u12 e_23 => ?_)
  have h := h _ e_23
  refine J_aload_n C 0 D_HT_new_26 rfl rfl ?_
  refine J_new C Cx nw_HT_23 D_HT_new_27 (by rw [hR]; decide) ?_
  refine J_name (fun M27u14 e_27 => ?_)
  have h := h _ e_27
  refine J_dup C D_HT_new_30 rfl ?_
  refine J_aload_n C 0 D_HT_new_31 rfl rfl ?_
  obtain ⟨c_32, q32u17, e_32, h⟩ := h
  refine J_getR C fl_HT_10 D_HT_new_32 c_32 e_32 ?_
  refine J_aload_n C 0 D_HT_new_35 rfl rfl ?_
  obtain ⟨c_36, q36u19, e_36, h⟩ := h
  refine J_getR C fl_HT_19 D_HT_new_36 c_36 e_36 ?_
  refine J_callIv C ml_HT_25 (S_Ro_new Cx.1 Cx.2 _ _ _ _ _ h) (by rw [hR]; decide) rfl rfl (Nat.le_of_ble_eq_true rfl) D_HT_new_39 (fun M39u20 h => ?_)
  obtain ⟨c_42, h⟩ := h
  refine J_putRF C fl_HT_28 Nm ⟨_, _, _, rfl, rfl⟩ D_HT_new_42 c_42 ?_
  refine J_name (fun M42u21 e_42 => ?_)
  have h := h _ e_42
  refine J_aload_n C 0 D_HT_new_45 rfl rfl ?_
  refine J_bipush (v := 66) C D_HT_new_46 rfl ?_
  refine J_newI C Cx 66 aw_I D_HT_new_48 ⟨by decide, by decide⟩ (by decide) (by rw [hR]; decide) ?_
  refine J_name (fun M48u24 e_48 => ?_)
  have h := h _ e_48
  obtain ⟨c_50, h⟩ := h
  refine J_putRF C fl_HT_32 Nm ⟨_, _, _, rfl, rfl⟩ D_HT_new_50 c_50 ?_
  refine J_name (fun M50u25 e_50 => ?_)
  have h := h _ e_50
  refine J_aload_n C 0 D_HT_new_53 rfl rfl ?_
  refine J_bipush (v := 45) C D_HT_new_54 rfl ?_
  refine J_bipush (v := 36) C D_HT_new_56 rfl ?_
  refine J_mna C Cx 45 36 ⟨cl_HT_36, aw_I⟩ D_HT_new_58 ⟨⟨by decide, by decide⟩, by decide, by decide⟩ ⟨by decide, by decide⟩ (by rw [hR]; decide) ?_
  refine J_name (fun M58u29 e_58 => ?_)
  have h := h _ e_58
  obtain ⟨c_62, h⟩ := h
  refine J_putRF C fl_HT_38 Nm ⟨_, _, _, rfl, rfl⟩ D_HT_new_62 c_62 ?_
  refine J_name (fun M62u30 e_62 => ?_)
  have h := h _ e_62
  refine J_aload_n C 0 D_HT_new_65 rfl rfl ?_
  refine J_new C Cx nw_HT_41 D_HT_new_66 (by rw [hR]; decide) ?_
  refine J_name (fun M66u32 e_66 => ?_)
  have h := h _ e_66
  refine J_dup C D_HT_new_69 rfl ?_
  refine J_aload_n C 0 D_HT_new_70 rfl rfl ?_
  obtain ⟨c_71, q71u35, e_71, h⟩ := h
  refine J_getR C fl_HT_10 D_HT_new_71 c_71 e_71 ?_
  refine J_callIv C ml_HT_43 (S_Po_new Cx.1 Cx.2 _ _ _ _ h) (by rw [hR]; decide) rfl rfl (Nat.le_of_ble_eq_true rfl) D_HT_new_74 (fun M74u36 h => ?_)
  obtain ⟨c_77, h⟩ := h
  refine J_putRF C fl_HT_46 Nm ⟨_, _, _, rfl, rfl⟩ D_HT_new_77 c_77 ?_
  refine J_name (fun M77u37 e_77 => ?_)
  have h := h _ e_77
  refine J_aload_n C 0 D_HT_new_80 rfl rfl ?_
  refine J_bipush (v := 6) C D_HT_new_81 rfl ?_
  refine J_newP C Cx 6 cl_HT_41 D_HT_new_83 ⟨by decide, by decide⟩ (by decide) (by rw [hR]; decide) ?_
  refine J_name (fun M83u40 e_83 => ?_)
  have h := h _ e_83
  obtain ⟨c_86, h⟩ := h
  refine J_putRF C fl_HT_50 Nm ⟨_, _, _, rfl, rfl⟩ D_HT_new_86 c_86 ?_
  refine J_name (fun M86u41 e_86 => ?_)
  have h := h _ e_86
  refine J_iconst (v := 0) C D_HT_new_89 rfl ?_
  refine J_istore_n (lv' := [(1, .int 0), (0, .ref (xd x a0))]) C 1 D_HT_new_90 rfl (by decide) rfl ?_
  refine J_iload_n C 1 D_HT_new_91 rfl rfl ?_
  refine J_bipush (v := 6) C D_HT_new_92 rfl ?_
  refine J_icmp_ge (tgt := 120) C D_HT_new_94 (by decide) (fun c_94 => absurd c_94 (by decide)) (fun c_94 => ?_)
  refine J_aload_n C 0 D_HT_new_97 rfl rfl ?_
  obtain ⟨c_98, q98u48, e_98, h⟩ := h
  refine J_getR C fl_HT_50 D_HT_new_98 c_98 e_98 ?_
  refine J_iload_n C 1 D_HT_new_101 rfl rfl ?_
  refine J_new C Cx nw_HT_41 D_HT_new_102 (by rw [hR]; decide) ?_
  refine J_name (fun M102u50 e_102 => ?_)
  have h := h _ e_102
  refine J_dup C D_HT_new_105 rfl ?_
  refine J_aload_n C 0 D_HT_new_106 rfl rfl ?_
  obtain ⟨c_107, q107u53, e_107, h⟩ := h
  refine J_getR C fl_HT_10 D_HT_new_107 c_107 e_107 ?_
  refine J_callIv C ml_HT_43 (S_Po_new Cx.1 Cx.2 _ _ _ _ h) (by rw [hR]; decide) rfl rfl (Nat.le_of_ble_eq_true rfl) D_HT_new_110 (fun M110u54 h => ?_)
  obtain ⟨c_113, d_113, h⟩ := h
  refine J_aast C D_HT_new_113 c_113 d_113 ?_
  refine J_name (fun M113u55 e_113 => ?_)
  have h := h _ e_113
  refine J_iinc (v := 1) (lv' := [(1, .int 1), (0, .ref (xd x a0))]) C 1 0 D_HT_new_114 rfl rfl (by decide) rfl ?_
  refine J_goto (tgt := 91) C D_HT_new_117 (by decide) ?_
  refine J_iload_n C 1 D_HT_new_91 rfl rfl ?_
  refine J_bipush (v := 6) C D_HT_new_92 rfl ?_
  refine J_icmp_ge (tgt := 120) C D_HT_new_94 (by decide) (fun c_94 => absurd c_94 (by decide)) (fun c_94 => ?_)
  refine J_aload_n C 0 D_HT_new_97 rfl rfl ?_
  obtain ⟨c_98, q98u62, e_98, h⟩ := h
  refine J_getR C fl_HT_50 D_HT_new_98 c_98 e_98 ?_
  refine J_iload_n C 1 D_HT_new_101 rfl rfl ?_
  refine J_new C Cx nw_HT_41 D_HT_new_102 (by rw [hR]; decide) ?_
  refine J_name (fun M102u64 e_102 => ?_)
  have h := h _ e_102
  refine J_dup C D_HT_new_105 rfl ?_
  refine J_aload_n C 0 D_HT_new_106 rfl rfl ?_
  obtain ⟨c_107, q107u67, e_107, h⟩ := h
  refine J_getR C fl_HT_10 D_HT_new_107 c_107 e_107 ?_
  refine J_callIv C ml_HT_43 (S_Po_new Cx.1 Cx.2 _ _ _ _ h) (by rw [hR]; decide) rfl rfl (Nat.le_of_ble_eq_true rfl) D_HT_new_110 (fun M110u68 h => ?_)
  obtain ⟨c_113, d_113, h⟩ := h
  refine J_aast C D_HT_new_113 c_113 d_113 ?_
  refine J_name (fun M113u69 e_113 => ?_)
  have h := h _ e_113
  refine J_iinc (v := 2) (lv' := [(1, .int 2), (0, .ref (xd x a0))]) C 1 0 D_HT_new_114 rfl rfl (by decide) rfl ?_
  refine J_goto (tgt := 91) C D_HT_new_117 (by decide) ?_
  refine J_iload_n C 1 D_HT_new_91 rfl rfl ?_
  refine J_bipush (v := 6) C D_HT_new_92 rfl ?_
  refine J_icmp_ge (tgt := 120) C D_HT_new_94 (by decide) (fun c_94 => absurd c_94 (by decide)) (fun c_94 => ?_)
  refine J_aload_n C 0 D_HT_new_97 rfl rfl ?_
  obtain ⟨c_98, q98u76, e_98, h⟩ := h
  refine J_getR C fl_HT_50 D_HT_new_98 c_98 e_98 ?_
  refine J_iload_n C 1 D_HT_new_101 rfl rfl ?_
  refine J_new C Cx nw_HT_41 D_HT_new_102 (by rw [hR]; decide) ?_
  refine J_name (fun M102u78 e_102 => ?_)
  have h := h _ e_102
  refine J_dup C D_HT_new_105 rfl ?_
  refine J_aload_n C 0 D_HT_new_106 rfl rfl ?_
  obtain ⟨c_107, q107u81, e_107, h⟩ := h
  refine J_getR C fl_HT_10 D_HT_new_107 c_107 e_107 ?_
  refine J_callIv C ml_HT_43 (S_Po_new Cx.1 Cx.2 _ _ _ _ h) (by rw [hR]; decide) rfl rfl (Nat.le_of_ble_eq_true rfl) D_HT_new_110 (fun M110u82 h => ?_)
  obtain ⟨c_113, d_113, h⟩ := h
  refine J_aast C D_HT_new_113 c_113 d_113 ?_
  refine J_name (fun M113u83 e_113 => ?_)
  have h := h _ e_113
  refine J_iinc (v := 3) (lv' := [(1, .int 3), (0, .ref (xd x a0))]) C 1 0 D_HT_new_114 rfl rfl (by decide) rfl ?_
  refine J_goto (tgt := 91) C D_HT_new_117 (by decide) ?_
  refine J_iload_n C 1 D_HT_new_91 rfl rfl ?_
  refine J_bipush (v := 6) C D_HT_new_92 rfl ?_
  refine J_icmp_ge (tgt := 120) C D_HT_new_94 (by decide) (fun c_94 => absurd c_94 (by decide)) (fun c_94 => ?_)
  refine J_aload_n C 0 D_HT_new_97 rfl rfl ?_
  obtain ⟨c_98, q98u90, e_98, h⟩ := h
  refine J_getR C fl_HT_50 D_HT_new_98 c_98 e_98 ?_
  refine J_iload_n C 1 D_HT_new_101 rfl rfl ?_
  refine J_new C Cx nw_HT_41 D_HT_new_102 (by rw [hR]; decide) ?_
  refine J_name (fun M102u92 e_102 => ?_)
  have h := h _ e_102
  refine J_dup C D_HT_new_105 rfl ?_
  refine J_aload_n C 0 D_HT_new_106 rfl rfl ?_
  obtain ⟨c_107, q107u95, e_107, h⟩ := h
  refine J_getR C fl_HT_10 D_HT_new_107 c_107 e_107 ?_
  refine J_callIv C ml_HT_43 (S_Po_new Cx.1 Cx.2 _ _ _ _ h) (by rw [hR]; decide) rfl rfl (Nat.le_of_ble_eq_true rfl) D_HT_new_110 (fun M110u96 h => ?_)
  obtain ⟨c_113, d_113, h⟩ := h
  refine J_aast C D_HT_new_113 c_113 d_113 ?_
  refine J_name (fun M113u97 e_113 => ?_)
  have h := h _ e_113
  refine J_iinc (v := 4) (lv' := [(1, .int 4), (0, .ref (xd x a0))]) C 1 0 D_HT_new_114 rfl rfl (by decide) rfl ?_
  refine J_goto (tgt := 91) C D_HT_new_117 (by decide) ?_
  refine J_iload_n C 1 D_HT_new_91 rfl rfl ?_
  refine J_bipush (v := 6) C D_HT_new_92 rfl ?_
  refine J_icmp_ge (tgt := 120) C D_HT_new_94 (by decide) (fun c_94 => absurd c_94 (by decide)) (fun c_94 => ?_)
  refine J_aload_n C 0 D_HT_new_97 rfl rfl ?_
  obtain ⟨c_98, q98u104, e_98, h⟩ := h
  refine J_getR C fl_HT_50 D_HT_new_98 c_98 e_98 ?_
  refine J_iload_n C 1 D_HT_new_101 rfl rfl ?_
  refine J_new C Cx nw_HT_41 D_HT_new_102 (by rw [hR]; decide) ?_
  refine J_name (fun M102u106 e_102 => ?_)
  have h := h _ e_102
  refine J_dup C D_HT_new_105 rfl ?_
  refine J_aload_n C 0 D_HT_new_106 rfl rfl ?_
  obtain ⟨c_107, q107u109, e_107, h⟩ := h
  refine J_getR C fl_HT_10 D_HT_new_107 c_107 e_107 ?_
  refine J_callIv C ml_HT_43 (S_Po_new Cx.1 Cx.2 _ _ _ _ h) (by rw [hR]; decide) rfl rfl (Nat.le_of_ble_eq_true rfl) D_HT_new_110 (fun M110u110 h => ?_)
  obtain ⟨c_113, d_113, h⟩ := h
  refine J_aast C D_HT_new_113 c_113 d_113 ?_
  refine J_name (fun M113u111 e_113 => ?_)
  have h := h _ e_113
  refine J_iinc (v := 5) (lv' := [(1, .int 5), (0, .ref (xd x a0))]) C 1 0 D_HT_new_114 rfl rfl (by decide) rfl ?_
  refine J_goto (tgt := 91) C D_HT_new_117 (by decide) ?_
  refine J_iload_n C 1 D_HT_new_91 rfl rfl ?_
  refine J_bipush (v := 6) C D_HT_new_92 rfl ?_
  refine J_icmp_ge (tgt := 120) C D_HT_new_94 (by decide) (fun c_94 => absurd c_94 (by decide)) (fun c_94 => ?_)
  refine J_aload_n C 0 D_HT_new_97 rfl rfl ?_
  obtain ⟨c_98, q98u118, e_98, h⟩ := h
  refine J_getR C fl_HT_50 D_HT_new_98 c_98 e_98 ?_
  refine J_iload_n C 1 D_HT_new_101 rfl rfl ?_
  refine J_new C Cx nw_HT_41 D_HT_new_102 (by rw [hR]; decide) ?_
  refine J_name (fun M102u120 e_102 => ?_)
  have h := h _ e_102
  refine J_dup C D_HT_new_105 rfl ?_
  refine J_aload_n C 0 D_HT_new_106 rfl rfl ?_
  obtain ⟨c_107, q107u123, e_107, h⟩ := h
  refine J_getR C fl_HT_10 D_HT_new_107 c_107 e_107 ?_
  refine J_callIv C ml_HT_43 (S_Po_new Cx.1 Cx.2 _ _ _ _ h) (by rw [hR]; decide) rfl rfl (Nat.le_of_ble_eq_true rfl) D_HT_new_110 (fun M110u124 h => ?_)
  obtain ⟨c_113, d_113, h⟩ := h
  refine J_aast C D_HT_new_113 c_113 d_113 ?_
  refine J_name (fun M113u125 e_113 => ?_)
  have h := h _ e_113
  refine J_iinc (v := 6) (lv' := [(1, .int 6), (0, .ref (xd x a0))]) C 1 0 D_HT_new_114 rfl rfl (by decide) rfl ?_
  refine J_goto (tgt := 91) C D_HT_new_117 (by decide) ?_
  refine J_iload_n C 1 D_HT_new_91 rfl rfl ?_
  refine J_bipush (v := 6) C D_HT_new_92 rfl ?_
  refine J_icmp_ge (tgt := 120) C D_HT_new_94 (by decide) (fun c_94 => ?_) (fun c_94 => absurd (by decide) c_94)
  refine J_bipush (v := 66) C D_HT_new_120 rfl ?_
  refine J_newI C Cx 66 aw_I D_HT_new_122 ⟨by decide, by decide⟩ (by decide) (by rw [hR]; decide) ?_
  refine J_name (fun M122u132 e_122 => ?_)
  have h := h _ e_122
  refine J_astore_n (lv' := [(1, .ref (xd x (nC M113u125))), (0, .ref (xd x a0))]) C 1 D_HT_new_124 rfl (by decide) rfl ?_
  refine J_aload_n C 0 D_HT_new_125 rfl rfl ?_
  refine J_new C Cx nw_HT_54 D_HT_new_126 (by rw [hR]; decide) ?_
  refine J_name (fun M126u135 e_126 => ?_)
  have h := h _ e_126
  refine J_dup C D_HT_new_129 rfl ?_
  refine J_aload_n C 0 D_HT_new_130 rfl rfl ?_
  obtain ⟨c_131, q131u138, e_131, h⟩ := h
  refine J_getR C fl_HT_10 D_HT_new_131 c_131 e_131 ?_
  refine J_aload_n C 0 D_HT_new_134 rfl rfl ?_
  obtain ⟨c_135, q135u140, e_135, h⟩ := h
  refine J_getR C fl_HT_19 D_HT_new_135 c_135 e_135 ?_
  refine J_aload_n C 0 D_HT_new_138 rfl rfl ?_
  obtain ⟨c_139, q139u142, e_139, h⟩ := h
  refine J_getR C fl_HT_28 D_HT_new_139 c_139 e_139 ?_
  refine J_aload_n C 1 D_HT_new_142 rfl rfl ?_
  refine J_callIv C ml_HT_56 (S_Ba_new Cx.1 Cx.2 _ _ _ _ _ _ _ h) (by rw [hR]; decide) rfl rfl (Nat.le_of_ble_eq_true rfl) D_HT_new_143 (fun M143u144 h => ?_)
  obtain ⟨c_146, h⟩ := h
  refine J_putRF C fl_HT_59 Nm ⟨_, _, _, rfl, rfl⟩ D_HT_new_146 c_146 ?_
  refine J_name (fun M146u145 e_146 => ?_)
  have h := h _ e_146
  refine J_aload_n C 0 D_HT_new_149 rfl rfl ?_
  refine J_new C Cx nw_HT_54 D_HT_new_150 (by rw [hR]; decide) ?_
  refine J_name (fun M150u147 e_150 => ?_)
  have h := h _ e_150
  refine J_dup C D_HT_new_153 rfl ?_
  refine J_aload_n C 0 D_HT_new_154 rfl rfl ?_
  obtain ⟨c_155, q155u150, e_155, h⟩ := h
  refine J_getR C fl_HT_10 D_HT_new_155 c_155 e_155 ?_
  refine J_aload_n C 0 D_HT_new_158 rfl rfl ?_
  obtain ⟨c_159, q159u152, e_159, h⟩ := h
  refine J_getR C fl_HT_19 D_HT_new_159 c_159 e_159 ?_
  refine J_aload_n C 0 D_HT_new_162 rfl rfl ?_
  obtain ⟨c_163, q163u154, e_163, h⟩ := h
  refine J_getR C fl_HT_28 D_HT_new_163 c_163 e_163 ?_
  refine J_aload_n C 1 D_HT_new_166 rfl rfl ?_
  refine J_callIv C ml_HT_56 (S_Ba_new Cx.1 Cx.2 _ _ _ _ _ _ _ h) (by rw [hR]; decide) rfl rfl (Nat.le_of_ble_eq_true rfl) D_HT_new_167 (fun M167u156 h => ?_)
  obtain ⟨c_170, h⟩ := h
  refine J_putRF C fl_HT_63 Nm ⟨_, _, _, rfl, rfl⟩ D_HT_new_170 c_170 ?_
  refine J_name (fun M170u157 e_170 => ?_)
  have h := h _ e_170
  refine J_aload_n C 0 D_HT_new_173 rfl rfl ?_
  refine J_new C Cx nw_HT_54 D_HT_new_174 (by rw [hR]; decide) ?_
  refine J_name (fun M174u159 e_174 => ?_)
  have h := h _ e_174
  refine J_dup C D_HT_new_177 rfl ?_
  refine J_aload_n C 0 D_HT_new_178 rfl rfl ?_
  obtain ⟨c_179, q179u162, e_179, h⟩ := h
  refine J_getR C fl_HT_10 D_HT_new_179 c_179 e_179 ?_
  refine J_aload_n C 0 D_HT_new_182 rfl rfl ?_
  obtain ⟨c_183, q183u164, e_183, h⟩ := h
  refine J_getR C fl_HT_19 D_HT_new_183 c_183 e_183 ?_
  refine J_aload_n C 0 D_HT_new_186 rfl rfl ?_
  obtain ⟨c_187, q187u166, e_187, h⟩ := h
  refine J_getR C fl_HT_28 D_HT_new_187 c_187 e_187 ?_
  refine J_aload_n C 1 D_HT_new_190 rfl rfl ?_
  refine J_callIv C ml_HT_56 (S_Ba_new Cx.1 Cx.2 _ _ _ _ _ _ _ h) (by rw [hR]; decide) rfl rfl (Nat.le_of_ble_eq_true rfl) D_HT_new_191 (fun M191u168 h => ?_)
  obtain ⟨c_194, h⟩ := h
  refine J_putRF C fl_HT_66 Nm ⟨_, _, _, rfl, rfl⟩ D_HT_new_194 c_194 ?_
  refine J_name (fun M194u169 e_194 => ?_)
  have h := h _ e_194
  refine J_aload_n C 0 D_HT_new_197 rfl rfl ?_
  refine J_new C Cx nw_HT_69 D_HT_new_198 (by rw [hR]; decide) ?_
  refine J_name (fun M198u171 e_198 => ?_)
  have h := h _ e_198
  refine J_dup C D_HT_new_201 rfl ?_
  refine J_new C Cx nw_HT_54 D_HT_new_202 (by rw [hR]; decide) ?_
  refine J_name (fun M202u173 e_202 => ?_)
  have h := h _ e_202
  refine J_dup C D_HT_new_205 rfl ?_
  refine J_aload_n C 0 D_HT_new_206 rfl rfl ?_
  obtain ⟨c_207, q207u176, e_207, h⟩ := h
  refine J_getR C fl_HT_10 D_HT_new_207 c_207 e_207 ?_
  refine J_aload_n C 0 D_HT_new_210 rfl rfl ?_
  obtain ⟨c_211, q211u178, e_211, h⟩ := h
  refine J_getR C fl_HT_19 D_HT_new_211 c_211 e_211 ?_
  refine J_aload_n C 0 D_HT_new_214 rfl rfl ?_
  obtain ⟨c_215, q215u180, e_215, h⟩ := h
  refine J_getR C fl_HT_28 D_HT_new_215 c_215 e_215 ?_
  refine J_aload_n C 1 D_HT_new_218 rfl rfl ?_
  refine J_callIv C ml_HT_56 (S_Ba_new Cx.1 Cx.2 _ _ _ _ _ _ _ h) (by rw [hR]; decide) rfl rfl (Nat.le_of_ble_eq_true rfl) D_HT_new_219 (fun M219u182 h => ?_)
  refine J_aload_n C 1 D_HT_new_222 rfl rfl ?_
  refine J_callIv C ml_HT_71 (S_He_new Cx.1 Cx.2 _ _ _ _ _ h) (by rw [hR]; decide) rfl rfl (Nat.le_of_ble_eq_true rfl) D_HT_new_223 (fun M223u184 h => ?_)
  obtain ⟨c_226, h⟩ := h
  refine J_putR C fl_HT_74 D_HT_new_226 c_226 ?_
  refine J_name (fun M226u185 e_226 => ?_)
  have h := h _ e_226
  refine J_aload_n C 0 D_HT_new_229 rfl rfl ?_
  refine J_new C Cx nw_HT_69 D_HT_new_230 (by rw [hR]; decide) ?_
  refine J_name (fun M230u187 e_230 => ?_)
  have h := h _ e_230
  refine J_dup C D_HT_new_233 rfl ?_
  refine J_new C Cx nw_HT_54 D_HT_new_234 (by rw [hR]; decide) ?_
  refine J_name (fun M234u189 e_234 => ?_)
  have h := h _ e_234
  refine J_dup C D_HT_new_237 rfl ?_
  refine J_aload_n C 0 D_HT_new_238 rfl rfl ?_
  obtain ⟨c_239, q239u192, e_239, h⟩ := h
  refine J_getR C fl_HT_10 D_HT_new_239 c_239 e_239 ?_
  refine J_aload_n C 0 D_HT_new_242 rfl rfl ?_
  obtain ⟨c_243, q243u194, e_243, h⟩ := h
  refine J_getR C fl_HT_19 D_HT_new_243 c_243 e_243 ?_
  refine J_aload_n C 0 D_HT_new_246 rfl rfl ?_
  obtain ⟨c_247, q247u196, e_247, h⟩ := h
  refine J_getR C fl_HT_28 D_HT_new_247 c_247 e_247 ?_
  refine J_aload_n C 1 D_HT_new_250 rfl rfl ?_
  refine J_callIv C ml_HT_56 (S_Ba_new Cx.1 Cx.2 _ _ _ _ _ _ _ h) (by rw [hR]; decide) rfl rfl (Nat.le_of_ble_eq_true rfl) D_HT_new_251 (fun M251u198 h => ?_)
  refine J_aload_n C 1 D_HT_new_254 rfl rfl ?_
  refine J_callIv C ml_HT_71 (S_He_new Cx.1 Cx.2 _ _ _ _ _ h) (by rw [hR]; decide) rfl rfl (Nat.le_of_ble_eq_true rfl) D_HT_new_255 (fun M255u200 h => ?_)
  obtain ⟨c_258, h⟩ := h
  refine J_putR C fl_HT_78 D_HT_new_258 c_258 ?_
  refine J_name (fun M258u201 e_258 => ?_)
  have h := h _ e_258
  exact J_vret C Rt D_HT_new_261 h
theorem D_Mo_new_0 : decode b_Mo_new 0 = .ok (.aload_n 0, 1) := by decide +kernel
theorem D_Mo_new_1 : decode b_Mo_new 1 = .ok (.invokespecial 1, 3) := by decide +kernel
theorem D_Mo_new_4 : decode b_Mo_new 4 = .ok (.aload_n 0, 1) := by decide +kernel
theorem D_Mo_new_5 : decode b_Mo_new 5 = .ok (.sipush 27951, 3) := by decide +kernel
theorem D_Mo_new_8 : decode b_Mo_new 8 = .ok (.newarray .int, 2) := by decide +kernel
theorem D_Mo_new_10 : decode b_Mo_new 10 = .ok (.putfield 7, 3) := by decide +kernel
theorem D_Mo_new_13 : decode b_Mo_new 13 = .ok (.aload_n 0, 1) := by decide +kernel
theorem D_Mo_new_14 : decode b_Mo_new 14 = .ok (.iconst 3, 1) := by decide +kernel
theorem D_Mo_new_15 : decode b_Mo_new 15 = .ok (.putfield 13, 3) := by decide +kernel
theorem D_Mo_new_18 : decode b_Mo_new 18 = .ok (.aload_n 0, 1) := by decide +kernel
theorem D_Mo_new_19 : decode b_Mo_new 19 = .ok (.bipush 7, 2) := by decide +kernel
theorem D_Mo_new_21 : decode b_Mo_new 21 = .ok (.putfield 17, 3) := by decide +kernel
theorem D_Mo_new_24 : decode b_Mo_new 24 = .ok (.aload_n 0, 1) := by decide +kernel
theorem D_Mo_new_25 : decode b_Mo_new 25 = .ok (.bipush 66, 2) := by decide +kernel
theorem D_Mo_new_27 : decode b_Mo_new 27 = .ok (.newarray .int, 2) := by decide +kernel
theorem D_Mo_new_29 : decode b_Mo_new 29 = .ok (.putfield 20, 3) := by decide +kernel
theorem D_Mo_new_32 : decode b_Mo_new 32 = .ok (.aload_n 0, 1) := by decide +kernel
theorem D_Mo_new_33 : decode b_Mo_new 33 = .ok (.sipush 1331, 3) := by decide +kernel
theorem D_Mo_new_36 : decode b_Mo_new 36 = .ok (.newarray .int, 2) := by decide +kernel
theorem D_Mo_new_38 : decode b_Mo_new 38 = .ok (.putfield 23, 3) := by decide +kernel
theorem D_Mo_new_41 : decode b_Mo_new 41 = .ok (.aload_n 0, 1) := by decide +kernel
theorem D_Mo_new_42 : decode b_Mo_new 42 = .ok (.sipush 4356, 3) := by decide +kernel
theorem D_Mo_new_45 : decode b_Mo_new 45 = .ok (.newarray .int, 2) := by decide +kernel
theorem D_Mo_new_47 : decode b_Mo_new 47 = .ok (.putfield 26, 3) := by decide +kernel
theorem D_Mo_new_50 : decode b_Mo_new 50 = .ok (.aload_n 0, 1) := by decide +kernel
theorem D_Mo_new_51 : decode b_Mo_new 51 = .ok (.bipush 66, 2) := by decide +kernel
theorem D_Mo_new_53 : decode b_Mo_new 53 = .ok (.newarray .int, 2) := by decide +kernel
theorem D_Mo_new_55 : decode b_Mo_new 55 = .ok (.putfield 29, 3) := by decide +kernel
theorem D_Mo_new_58 : decode b_Mo_new 58 = .ok (.aload_n 0, 1) := by decide +kernel
theorem D_Mo_new_59 : decode b_Mo_new 59 = .ok (.bipush 66, 2) := by decide +kernel
theorem D_Mo_new_61 : decode b_Mo_new 61 = .ok (.newarray .boolean, 2) := by decide +kernel
theorem D_Mo_new_63 : decode b_Mo_new 63 = .ok (.putfield 32, 3) := by decide +kernel
theorem D_Mo_new_66 : decode b_Mo_new 66 = .ok (.aload_n 0, 1) := by decide +kernel
theorem D_Mo_new_67 : decode b_Mo_new 67 = .ok (.sipush 1331, 3) := by decide +kernel
theorem D_Mo_new_70 : decode b_Mo_new 70 = .ok (.newarray .boolean, 2) := by decide +kernel
theorem D_Mo_new_72 : decode b_Mo_new 72 = .ok (.putfield 36, 3) := by decide +kernel
theorem D_Mo_new_75 : decode b_Mo_new 75 = .ok (.aload_n 0, 1) := by decide +kernel
theorem D_Mo_new_76 : decode b_Mo_new 76 = .ok (.sipush 30000, 3) := by decide +kernel
theorem D_Mo_new_79 : decode b_Mo_new 79 = .ok (.newarray .int, 2) := by decide +kernel
theorem D_Mo_new_81 : decode b_Mo_new 81 = .ok (.putfield 39, 3) := by decide +kernel
theorem D_Mo_new_84 : decode b_Mo_new 84 = .ok (.aload_n 0, 1) := by decide +kernel
theorem D_Mo_new_85 : decode b_Mo_new 85 = .ok (.bipush 66, 2) := by decide +kernel
theorem D_Mo_new_87 : decode b_Mo_new 87 = .ok (.newarray .int, 2) := by decide +kernel
theorem D_Mo_new_89 : decode b_Mo_new 89 = .ok (.putfield 42, 3) := by decide +kernel
theorem D_Mo_new_92 : decode b_Mo_new 92 = .ok (.aload_n 0, 1) := by decide +kernel
theorem D_Mo_new_93 : decode b_Mo_new 93 = .ok (.bipush 66, 2) := by decide +kernel
theorem D_Mo_new_95 : decode b_Mo_new 95 = .ok (.newarray .int, 2) := by decide +kernel
theorem D_Mo_new_97 : decode b_Mo_new 97 = .ok (.putfield 45, 3) := by decide +kernel
theorem D_Mo_new_100 : decode b_Mo_new 100 = .ok (.return_, 1) := by decide +kernel
abbrev rm_Mo_new : Room := { frames := 1, cells := 10, slots := 65299, locals := 20 }
def T_Mo_new (a0 : Nat) (M : Mem) (post : Mem → Prop) : Prop := (∀ M8, M8 = mk M 8 27951 → (isK M8 a0 7 ∧ ∀ M10, M10 = sR M8 a0 0 (some (nC M)) → (isK M10 a0 7 ∧ ∀ M15, M15 = sI M10 a0 1 3 → (isK M15 a0 7 ∧ ∀ M21, M21 = sI M15 a0 2 7 → (∀ M27, M27 = mk M21 8 66 → (isK M27 a0 7 ∧ ∀ M29, M29 = sR M27 a0 6 (some (nC M21)) → (∀ M36, M36 = mk M29 8 1331 → (isK M36 a0 7 ∧ ∀ M38, M38 = sR M36 a0 7 (some (nC M29)) → (∀ M45, M45 = mk M38 8 4356 → (isK M45 a0 7 ∧ ∀ M47, M47 = sR M45 a0 9 (some (nC M38)) → (∀ M53, M53 = mk M47 8 66 → (isK M53 a0 7 ∧ ∀ M55, M55 = sR M53 a0 10 (some (nC M47)) → (∀ M61, M61 = mk M55 9 66 → (isK M61 a0 7 ∧ ∀ M63, M63 = sR M61 a0 11 (some (nC M55)) → (∀ M70, M70 = mk M63 9 1331 → (isK M70 a0 7 ∧ ∀ M72, M72 = sR M70 a0 13 (some (nC M63)) → (∀ M79, M79 = mk M72 8 30000 → (isK M79 a0 7 ∧ ∀ M81, M81 = sR M79 a0 14 (some (nC M72)) → (∀ M87, M87 = mk M81 8 66 → (isK M87 a0 7 ∧ ∀ M89, M89 = sR M87 a0 15 (some (nC M81)) → (∀ M95, M95 = mk M89 8 66 → (isK M95 a0 7 ∧ ∀ M97, M97 = sR M95 a0 17 (some (nC M89)) → (post M97)))))))))))))))))))))))
set_option maxRecDepth 20000 in
theorem S_Mo_new {l : Launch} {D : va_G} {B t g : Nat} {d : Nat → Nat} {ac : Nat → ClassId} (hd : ∀ c, d c = B + c) (hg : g = 0)  (a0 : Nat) (M : Mem) (post : Mem → Prop) (h : T_Mo_new a0 M post) : Met l y_Mo_new w_Mo_new rm_Mo_new (va_Pc [.ref (d a0)] (PRE D B d g t ac M)) (QV D B d g ac post) 10 65299 (AB B) := by
  refine met_v (by decide +kernel) (Nat.le_of_ble_eq_true rfl) (fun x h1 hR h3 h4 h5 h6 h7 h8 C Rt Nm => ?_)
  subst h3 h4 h5 h6 h7 h8
  have Cx : Cnx x := ⟨hd, hg⟩
  unfold T_Mo_new at h
  show J x 1 0 [(0, .ref (xd x a0))] [] 0 0 M
  refine J_aload_n C 0 D_Mo_new_0 rfl rfl ?_
  refine J_obj C ko_Mo_1 D_Mo_new_1 (by rw [hR]; decide) (Nat.le_of_ble_eq_true rfl) ?_
  refine J_aload_n C 0 D_Mo_new_4 rfl rfl ?_
  refine J_sipush (v := 27951) C D_Mo_new_5 rfl ?_
  refine J_newI C Cx 27951 aw_I D_Mo_new_8 ⟨by decide, by decide⟩ (by decide) (by rw [hR]; decide) ?_
  refine J_name (fun M8 e_8 => ?_)
  have h := h _ e_8
  obtain ⟨c_10, h⟩ := h
  refine J_putRF C fl_Mo_7 Nm ⟨_, _, _, rfl, rfl⟩ D_Mo_new_10 c_10 ?_
  refine J_name (fun M10 e_10 => ?_)
  have h := h _ e_10
  refine J_aload_n C 0 D_Mo_new_13 rfl rfl ?_
  refine J_iconst (v := 3) C D_Mo_new_14 rfl ?_
  obtain ⟨c_15, h⟩ := h
  refine J_putI C fl_Mo_13 D_Mo_new_15 c_15 ?_
  refine J_name (fun M15 e_15 => ?_)
  have h := h _ e_15
  refine J_aload_n C 0 D_Mo_new_18 rfl rfl ?_
  refine J_bipush (v := 7) C D_Mo_new_19 rfl ?_
  obtain ⟨c_21, h⟩ := h
  refine J_putI C fl_Mo_17 D_Mo_new_21 c_21 ?_
  refine J_name (fun M21 e_21 => ?_)
  have h := h _ e_21
  refine J_aload_n C 0 D_Mo_new_24 rfl rfl ?_
  refine J_bipush (v := 66) C D_Mo_new_25 rfl ?_
  refine J_newI C Cx 66 aw_I D_Mo_new_27 ⟨by decide, by decide⟩ (by decide) (by rw [hR]; decide) ?_
  refine J_name (fun M27 e_27 => ?_)
  have h := h _ e_27
  obtain ⟨c_29, h⟩ := h
  refine J_putRF C fl_Mo_20 Nm ⟨_, _, _, rfl, rfl⟩ D_Mo_new_29 c_29 ?_
  refine J_name (fun M29 e_29 => ?_)
  have h := h _ e_29
  refine J_aload_n C 0 D_Mo_new_32 rfl rfl ?_
  refine J_sipush (v := 1331) C D_Mo_new_33 rfl ?_
  refine J_newI C Cx 1331 aw_I D_Mo_new_36 ⟨by decide, by decide⟩ (by decide) (by rw [hR]; decide) ?_
  refine J_name (fun M36 e_36 => ?_)
  have h := h _ e_36
  obtain ⟨c_38, h⟩ := h
  refine J_putRF C fl_Mo_23 Nm ⟨_, _, _, rfl, rfl⟩ D_Mo_new_38 c_38 ?_
  refine J_name (fun M38 e_38 => ?_)
  have h := h _ e_38
  refine J_aload_n C 0 D_Mo_new_41 rfl rfl ?_
  refine J_sipush (v := 4356) C D_Mo_new_42 rfl ?_
  refine J_newI C Cx 4356 aw_I D_Mo_new_45 ⟨by decide, by decide⟩ (by decide) (by rw [hR]; decide) ?_
  refine J_name (fun M45 e_45 => ?_)
  have h := h _ e_45
  obtain ⟨c_47, h⟩ := h
  refine J_putRF C fl_Mo_26 Nm ⟨_, _, _, rfl, rfl⟩ D_Mo_new_47 c_47 ?_
  refine J_name (fun M47 e_47 => ?_)
  have h := h _ e_47
  refine J_aload_n C 0 D_Mo_new_50 rfl rfl ?_
  refine J_bipush (v := 66) C D_Mo_new_51 rfl ?_
  refine J_newI C Cx 66 aw_I D_Mo_new_53 ⟨by decide, by decide⟩ (by decide) (by rw [hR]; decide) ?_
  refine J_name (fun M53 e_53 => ?_)
  have h := h _ e_53
  obtain ⟨c_55, h⟩ := h
  refine J_putRF C fl_Mo_29 Nm ⟨_, _, _, rfl, rfl⟩ D_Mo_new_55 c_55 ?_
  refine J_name (fun M55 e_55 => ?_)
  have h := h _ e_55
  refine J_aload_n C 0 D_Mo_new_58 rfl rfl ?_
  refine J_bipush (v := 66) C D_Mo_new_59 rfl ?_
  refine J_newZ C Cx 66 aw_Z D_Mo_new_61 ⟨by decide, by decide⟩ (by decide) (by rw [hR]; decide) ?_
  refine J_name (fun M61 e_61 => ?_)
  have h := h _ e_61
  obtain ⟨c_63, h⟩ := h
  refine J_putRF C fl_Mo_32 Nm ⟨_, _, _, rfl, rfl⟩ D_Mo_new_63 c_63 ?_
  refine J_name (fun M63 e_63 => ?_)
  have h := h _ e_63
  refine J_aload_n C 0 D_Mo_new_66 rfl rfl ?_
  refine J_sipush (v := 1331) C D_Mo_new_67 rfl ?_
  refine J_newZ C Cx 1331 aw_Z D_Mo_new_70 ⟨by decide, by decide⟩ (by decide) (by rw [hR]; decide) ?_
  refine J_name (fun M70 e_70 => ?_)
  have h := h _ e_70
  obtain ⟨c_72, h⟩ := h
  refine J_putRF C fl_Mo_36 Nm ⟨_, _, _, rfl, rfl⟩ D_Mo_new_72 c_72 ?_
  refine J_name (fun M72 e_72 => ?_)
  have h := h _ e_72
  refine J_aload_n C 0 D_Mo_new_75 rfl rfl ?_
  refine J_sipush (v := 30000) C D_Mo_new_76 rfl ?_
  refine J_newI C Cx 30000 aw_I D_Mo_new_79 ⟨by decide, by decide⟩ (by decide) (by rw [hR]; decide) ?_
  refine J_name (fun M79 e_79 => ?_)
  have h := h _ e_79
  obtain ⟨c_81, h⟩ := h
  refine J_putRF C fl_Mo_39 Nm ⟨_, _, _, rfl, rfl⟩ D_Mo_new_81 c_81 ?_
  refine J_name (fun M81 e_81 => ?_)
  have h := h _ e_81
  refine J_aload_n C 0 D_Mo_new_84 rfl rfl ?_
  refine J_bipush (v := 66) C D_Mo_new_85 rfl ?_
  refine J_newI C Cx 66 aw_I D_Mo_new_87 ⟨by decide, by decide⟩ (by decide) (by rw [hR]; decide) ?_
  refine J_name (fun M87 e_87 => ?_)
  have h := h _ e_87
  obtain ⟨c_89, h⟩ := h
  refine J_putRF C fl_Mo_42 Nm ⟨_, _, _, rfl, rfl⟩ D_Mo_new_89 c_89 ?_
  refine J_name (fun M89 e_89 => ?_)
  have h := h _ e_89
  refine J_aload_n C 0 D_Mo_new_92 rfl rfl ?_
  refine J_bipush (v := 66) C D_Mo_new_93 rfl ?_
  refine J_newI C Cx 66 aw_I D_Mo_new_95 ⟨by decide, by decide⟩ (by decide) (by rw [hR]; decide) ?_
  refine J_name (fun M95 e_95 => ?_)
  have h := h _ e_95
  obtain ⟨c_97, h⟩ := h
  refine J_putRF C fl_Mo_45 Nm ⟨_, _, _, rfl, rfl⟩ D_Mo_new_97 c_97 ?_
  refine J_name (fun M97 e_97 => ?_)
  have h := h _ e_97
  exact J_vret C Rt D_Mo_new_100 h
