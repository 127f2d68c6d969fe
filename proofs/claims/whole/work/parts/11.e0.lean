theorem fl_Ba_11 : Fld "HeapTower$Base" 11 0 4 false true := ⟨R_Ba, F_Ba, 14, t_Ba, iw_Ba, rfl, by decide, rfl, rfl, by decide, rfl, (gw_in (List.mem_of_getElem? (i := 206) (by decide +kernel)) (by decide +kernel)), t_Ba_ok, n_Ba, rfl, (fun h => by cases h), fun _ => Or.inr ⟨_, rfl⟩⟩
theorem fl_Ba_15 : Fld "HeapTower$Base" 15 0 5 false true := ⟨R_Ba, F_Ba, 14, t_Ba, iw_Ba, rfl, by decide, rfl, rfl, by decide, rfl, (gw_in (List.mem_of_getElem? (i := 207) (by decide +kernel)) (by decide +kernel)), t_Ba_ok, n_Ba, rfl, (fun h => by cases h), fun _ => Or.inr ⟨_, rfl⟩⟩
theorem fl_Ba_18 : Fld "HeapTower$Base" 18 0 6 false true := ⟨R_Ba, F_Ba, 14, t_Ba, iw_Ba, rfl, by decide, rfl, rfl, by decide, rfl, (gw_in (List.mem_of_getElem? (i := 208) (by decide +kernel)) (by decide +kernel)), t_Ba_ok, n_Ba, rfl, (fun h => by cases h), fun _ => Or.inr ⟨_, rfl⟩⟩
theorem fl_Ba_21 : Fld "HeapTower$Base" 21 0 7 false true := ⟨R_Ba, F_Ba, 14, t_Ba, iw_Ba, rfl, by decide, rfl, rfl, by decide, rfl, (gw_in (List.mem_of_getElem? (i := 209) (by decide +kernel)) (by decide +kernel)), t_Ba_ok, n_Ba, rfl, (fun h => by cases h), fun _ => Or.inr ⟨_, rfl⟩⟩
theorem fl_Ba_24 : Fld "HeapTower$Base" 24 0 8 false true := ⟨R_Ba, F_Ba, 14, t_Ba, iw_Ba, rfl, by decide, rfl, rfl, by decide, rfl, (gw_in (List.mem_of_getElem? (i := 210) (by decide +kernel)) (by decide +kernel)), t_Ba_ok, n_Ba, rfl, (fun h => by cases h), fun _ => Or.inr ⟨_, rfl⟩⟩
theorem fl_Ba_27 : Fld "HeapTower$Base" 27 0 9 false true := ⟨R_Ba, F_Ba, 14, t_Ba, iw_Ba, rfl, by decide, rfl, rfl, by decide, rfl, (gw_in (List.mem_of_getElem? (i := 211) (by decide +kernel)) (by decide +kernel)), t_Ba_ok, n_Ba, rfl, (fun h => by cases h), fun _ => Or.inr ⟨_, rfl⟩⟩
theorem fl_Ba_33 : Fld "HeapTower$Base" 33 0 11 false true := ⟨R_Ba, F_Ba, 14, t_Ba, iw_Ba, rfl, by decide, rfl, rfl, by decide, rfl, (gw_in (List.mem_of_getElem? (i := 213) (by decide +kernel)) (by decide +kernel)), t_Ba_ok, n_Ba, rfl, (fun h => by cases h), fun _ => Or.inr ⟨_, rfl⟩⟩
theorem fl_Ba_36 : Fld "HeapTower$Base" 36 0 12 true false := ⟨R_Ba, F_Ba, 14, t_Ba, iw_Ba, rfl, by decide, rfl, rfl, by decide, rfl, (gw_in (List.mem_of_getElem? (i := 214) (by decide +kernel)) (by decide +kernel)), t_Ba_ok, n_Ba, rfl, fun _ => rfl, (fun h => by cases h)⟩
theorem fl_Ba_40 : Fld "HeapTower$Base" 40 0 0 false true := ⟨R_Ba, F_Ba, 14, t_Ba, iw_Ba, rfl, by decide, rfl, rfl, by decide, rfl, (gw_in (List.mem_of_getElem? (i := 202) (by decide +kernel)) (by decide +kernel)), t_Ba_ok, n_Ba, rfl, (fun h => by cases h), fun _ => Or.inl ⟨_, rfl⟩⟩
theorem fl_Ba_44 : Fld "HeapTower$Base" 44 0 1 false true := ⟨R_Ba, F_Ba, 14, t_Ba, iw_Ba, rfl, by decide, rfl, rfl, by decide, rfl, (gw_in (List.mem_of_getElem? (i := 203) (by decide +kernel)) (by decide +kernel)), t_Ba_ok, n_Ba, rfl, (fun h => by cases h), fun _ => Or.inl ⟨_, rfl⟩⟩
theorem fl_Ba_48 : Fld "HeapTower$Base" 48 0 2 false true := ⟨R_Ba, F_Ba, 14, t_Ba, iw_Ba, rfl, by decide, rfl, rfl, by decide, rfl, (gw_in (List.mem_of_getElem? (i := 204) (by decide +kernel)) (by decide +kernel)), t_Ba_ok, n_Ba, rfl, (fun h => by cases h), fun _ => Or.inl ⟨_, rfl⟩⟩
theorem fl_Ba_52 : Fld "HeapTower$Base" 52 0 3 false true := ⟨R_Ba, F_Ba, 14, t_Ba, iw_Ba, rfl, by decide, rfl, rfl, by decide, rfl, (gw_in (List.mem_of_getElem? (i := 205) (by decide +kernel)) (by decide +kernel)), t_Ba_ok, n_Ba, rfl, (fun h => by cases h), fun _ => Or.inr ⟨_, rfl⟩⟩
theorem fl_Ba_61 : Fld "HeapTower$Base" 61 0 13 true false := ⟨R_Ba, F_Ba, 14, t_Ba, iw_Ba, rfl, by decide, rfl, rfl, by decide, rfl, (gw_in (List.mem_of_getElem? (i := 215) (by decide +kernel)) (by decide +kernel)), t_Ba_ok, n_Ba, rfl, fun _ => rfl, (fun h => by cases h)⟩
theorem fn_Ba_124 : FldN "HeapTower$Base" 124 2 1 true := ⟨R_Nu, F_Nu, 2, iw_Nu, rfl, by decide, rfl, by decide, rfl, by decide⟩
theorem fn_Ba_126 : FldN "HeapTower$Base" 126 4 0 false := ⟨R_Pr, F_Pr, 6, iw_Pr, rfl, by decide, rfl, by decide, rfl, by decide⟩
theorem fn_Ba_129 : FldN "HeapTower$Base" 129 4 1 false := ⟨R_Pr, F_Pr, 6, iw_Pr, rfl, by decide, rfl, by decide, rfl, by decide⟩
theorem ml_Ba_55 : MLS "HeapTower$Base" 55 y_Ma_max b_Ma_max 2 (some .int) 2 := ⟨List.forall_mem_cons.mpr ⟨(gw_in (List.mem_of_getElem? (i := 331) (by decide +kernel)) (by decide +kernel)), List.forall_mem_cons.mpr ⟨(gw_in (List.mem_of_getElem? (i := 332) (by decide +kernel)) (by decide +kernel)), List.forall_mem_cons.mpr ⟨(gw_in (List.mem_of_getElem? (i := 74) (by decide +kernel)) (by decide +kernel)), List.forall_mem_cons.mpr ⟨(gw_in (List.mem_of_getElem? (i := 333) (by decide +kernel)) (by decide +kernel)), fun _ h => absurd h List.not_mem_nil⟩⟩⟩⟩, by decide⟩
theorem ml_Ba_64 : MLV "HeapTower$Base" 64 y_Pr_amount b_Pr_amount 2 (some .int) 1 4 := ⟨List.forall_mem_cons.mpr ⟨(gw_in (List.mem_of_getElem? (i := 549) (by decide +kernel)) (by decide +kernel)), List.forall_mem_cons.mpr ⟨(gw_in (List.mem_of_getElem? (i := 427) (by decide +kernel)) (by decide +kernel)), List.forall_mem_cons.mpr ⟨(gw_in (List.mem_of_getElem? (i := 428) (by decide +kernel)) (by decide +kernel)), List.forall_mem_cons.mpr ⟨(gw_in (List.mem_of_getElem? (i := 67) (by decide +kernel)) (by decide +kernel)), List.forall_mem_cons.mpr ⟨(gw_in (List.mem_of_getElem? (i := 429) (by decide +kernel)) (by decide +kernel)), fun _ h => absurd h List.not_mem_nil⟩⟩⟩⟩⟩, by decide, F_Pr, 6, rfl, by decide⟩
theorem ml_Ba_73 : MLS "HeapTower$Base" 73 y_Ar_fill2 b_Ar_fill2 4 none 2 := ⟨List.forall_mem_cons.mpr ⟨(gw_in (List.mem_of_getElem? (i := 576) (by decide +kernel)) (by decide +kernel)), List.forall_mem_cons.mpr ⟨(gw_in (List.mem_of_getElem? (i := 343) (by decide +kernel)) (by decide +kernel)), List.forall_mem_cons.mpr ⟨(gw_in (List.mem_of_getElem? (i := 75) (by decide +kernel)) (by decide +kernel)), List.forall_mem_cons.mpr ⟨(gw_in (List.mem_of_getElem? (i := 344) (by decide +kernel)) (by decide +kernel)), fun _ h => absurd h List.not_mem_nil⟩⟩⟩⟩, by decide⟩
theorem ml_Ba_79 : MLV "HeapTower$Base" 79 y_Ro_begin b_Ro_begin 3 none 1 5 := ⟨List.forall_mem_cons.mpr ⟨(gw_in (List.mem_of_getElem? (i := 534) (by decide +kernel)) (by decide +kernel)), List.forall_mem_cons.mpr ⟨(gw_in (List.mem_of_getElem? (i := 535) (by decide +kernel)) (by decide +kernel)), List.forall_mem_cons.mpr ⟨(gw_in (List.mem_of_getElem? (i := 536) (by decide +kernel)) (by decide +kernel)), List.forall_mem_cons.mpr ⟨(gw_in (List.mem_of_getElem? (i := 69) (by decide +kernel)) (by decide +kernel)), List.forall_mem_cons.mpr ⟨(gw_in (List.mem_of_getElem? (i := 537) (by decide +kernel)) (by decide +kernel)), fun _ h => absurd h List.not_mem_nil⟩⟩⟩⟩⟩, by decide, F_Ro, 8, rfl, by decide⟩
theorem ml_Ba_85 : MLV "HeapTower$Base" 85 y_Ba_inherit b_Ba_inherit 6 none 1 0 := ⟨List.forall_mem_cons.mpr ⟨(gw_in (List.mem_of_getElem? (i := 545) (by decide +kernel)) (by decide +kernel)), List.forall_mem_cons.mpr ⟨(gw_in (List.mem_of_getElem? (i := 547) (by decide +kernel)) (by decide +kernel)), List.forall_mem_cons.mpr ⟨(gw_in (List.mem_of_getElem? (i := 10) (by decide +kernel)) (by decide +kernel)), List.forall_mem_cons.mpr ⟨(gw_in (List.mem_of_getElem? (i := 71) (by decide +kernel)) (by decide +kernel)), List.forall_mem_cons.mpr ⟨(gw_in (List.mem_of_getElem? (i := 548) (by decide +kernel)) (by decide +kernel)), fun _ h => absurd h List.not_mem_nil⟩⟩⟩⟩⟩, by decide, F_Ba, 14, rfl, by decide⟩
theorem ml_Ba_88 : MLV "HeapTower$Base" 88 y_Ba_offerDifferences b_Ba_offerDifferences 8 none 1 0 := ⟨List.forall_mem_cons.mpr ⟨(gw_in (List.mem_of_getElem? (i := 561) (by decide +kernel)) (by decide +kernel)), List.forall_mem_cons.mpr ⟨(gw_in (List.mem_of_getElem? (i := 563) (by decide +kernel)) (by decide +kernel)), List.forall_mem_cons.mpr ⟨(gw_in (List.mem_of_getElem? (i := 12) (by decide +kernel)) (by decide +kernel)), List.forall_mem_cons.mpr ⟨(gw_in (List.mem_of_getElem? (i := 71) (by decide +kernel)) (by decide +kernel)), List.forall_mem_cons.mpr ⟨(gw_in (List.mem_of_getElem? (i := 564) (by decide +kernel)) (by decide +kernel)), fun _ h => absurd h List.not_mem_nil⟩⟩⟩⟩⟩, by decide, F_Ba, 14, rfl, by decide⟩
theorem ml_Ba_91 : MLV "HeapTower$Base" 91 y_Ba_reduce b_Ba_reduce 6 none 2 0 := ⟨List.forall_mem_cons.mpr ⟨(gw_in (List.mem_of_getElem? (i := 581) (by decide +kernel)) (by decide +kernel)), List.forall_mem_cons.mpr ⟨(gw_in (List.mem_of_getElem? (i := 582) (by decide +kernel)) (by decide +kernel)), List.forall_mem_cons.mpr ⟨(gw_in (List.mem_of_getElem? (i := 583) (by decide +kernel)) (by decide +kernel)), List.forall_mem_cons.mpr ⟨(gw_in (List.mem_of_getElem? (i := 71) (by decide +kernel)) (by decide +kernel)), List.forall_mem_cons.mpr ⟨(gw_in (List.mem_of_getElem? (i := 584) (by decide +kernel)) (by decide +kernel)), fun _ h => absurd h List.not_mem_nil⟩⟩⟩⟩⟩, by decide, F_Ba, 14, rfl, by decide⟩
theorem ml_Ba_95 : MLV "HeapTower$Base" 95 y_Ro_add b_Ro_add 6 (some .boolean) 1 5 := ⟨List.forall_mem_cons.mpr ⟨(gw_in (List.mem_of_getElem? (i := 586) (by decide +kernel)) (by decide +kernel)), List.forall_mem_cons.mpr ⟨(gw_in (List.mem_of_getElem? (i := 587) (by decide +kernel)) (by decide +kernel)), List.forall_mem_cons.mpr ⟨(gw_in (List.mem_of_getElem? (i := 588) (by decide +kernel)) (by decide +kernel)), List.forall_mem_cons.mpr ⟨(gw_in (List.mem_of_getElem? (i := 69) (by decide +kernel)) (by decide +kernel)), List.forall_mem_cons.mpr ⟨(gw_in (List.mem_of_getElem? (i := 589) (by decide +kernel)) (by decide +kernel)), fun _ h => absurd h List.not_mem_nil⟩⟩⟩⟩⟩, by decide, F_Ro, 8, rfl, by decide⟩
theorem ml_Ba_99 : MLV "HeapTower$Base" 99 y_Pr_at b_Pr_at 3 (some .int) 2 4 := ⟨List.forall_mem_cons.mpr ⟨(gw_in (List.mem_of_getElem? (i := 550) (by decide +kernel)) (by decide +kernel)), List.forall_mem_cons.mpr ⟨(gw_in (List.mem_of_getElem? (i := 431) (by decide +kernel)) (by decide +kernel)), List.forall_mem_cons.mpr ⟨(gw_in (List.mem_of_getElem? (i := 432) (by decide +kernel)) (by decide +kernel)), List.forall_mem_cons.mpr ⟨(gw_in (List.mem_of_getElem? (i := 67) (by decide +kernel)) (by decide +kernel)), List.forall_mem_cons.mpr ⟨(gw_in (List.mem_of_getElem? (i := 433) (by decide +kernel)) (by decide +kernel)), fun _ h => absurd h List.not_mem_nil⟩⟩⟩⟩⟩, by decide, F_Pr, 6, rfl, by decide⟩
theorem ml_Ba_114 : MLV "HeapTower$Base" 114 y_Nu_prime b_Nu_prime 1 (some .int) 0 2 := ⟨List.forall_mem_cons.mpr ⟨(gw_in (List.mem_of_getElem? (i := 585) (by decide +kernel)) (by decide +kernel)), List.forall_mem_cons.mpr ⟨(gw_in (List.mem_of_getElem? (i := 541) (by decide +kernel)) (by decide +kernel)), List.forall_mem_cons.mpr ⟨(gw_in (List.mem_of_getElem? (i := 542) (by decide +kernel)) (by decide +kernel)), List.forall_mem_cons.mpr ⟨(gw_in (List.mem_of_getElem? (i := 68) (by decide +kernel)) (by decide +kernel)), List.forall_mem_cons.mpr ⟨(gw_in (List.mem_of_getElem? (i := 543) (by decide +kernel)) (by decide +kernel)), fun _ h => absurd h List.not_mem_nil⟩⟩⟩⟩⟩, by decide, F_Nu, 2, rfl, by decide⟩
theorem ml_Ba_120 : MLV "HeapTower$Base" 120 y_Ba_addMoved b_Ba_addMoved 15 none 4 0 := ⟨List.forall_mem_cons.mpr ⟨(gw_in (List.mem_of_getElem? (i := 577) (by decide +kernel)) (by decide +kernel)), List.forall_mem_cons.mpr ⟨(gw_in (List.mem_of_getElem? (i := 579) (by decide +kernel)) (by decide +kernel)), List.forall_mem_cons.mpr ⟨(gw_in (List.mem_of_getElem? (i := 15) (by decide +kernel)) (by decide +kernel)), List.forall_mem_cons.mpr ⟨(gw_in (List.mem_of_getElem? (i := 71) (by decide +kernel)) (by decide +kernel)), List.forall_mem_cons.mpr ⟨(gw_in (List.mem_of_getElem? (i := 580) (by decide +kernel)) (by decide +kernel)), fun _ h => absurd h List.not_mem_nil⟩⟩⟩⟩⟩, by decide, F_Ba, 14, rfl, by decide⟩
theorem ml_Ba_132 : MLV "HeapTower$Base" 132 y_Ba_leaderBelow b_Ba_leaderBelow 4 (some .int) 3 0 := ⟨List.forall_mem_cons.mpr ⟨(gw_in (List.mem_of_getElem? (i := 551) (by decide +kernel)) (by decide +kernel)), List.forall_mem_cons.mpr ⟨(gw_in (List.mem_of_getElem? (i := 553) (by decide +kernel)) (by decide +kernel)), List.forall_mem_cons.mpr ⟨(gw_in (List.mem_of_getElem? (i := 11) (by decide +kernel)) (by decide +kernel)), List.forall_mem_cons.mpr ⟨(gw_in (List.mem_of_getElem? (i := 71) (by decide +kernel)) (by decide +kernel)), List.forall_mem_cons.mpr ⟨(gw_in (List.mem_of_getElem? (i := 554) (by decide +kernel)) (by decide +kernel)), fun _ h => absurd h List.not_mem_nil⟩⟩⟩⟩⟩, by decide, F_Ba, 14, rfl, by decide⟩
theorem ml_Ba_136 : MLV "HeapTower$Base" 136 y_Pr_power b_Pr_power 4 (some .int) 3 4 := ⟨List.forall_mem_cons.mpr ⟨(gw_in (List.mem_of_getElem? (i := 555) (by decide +kernel)) (by decide +kernel)), List.forall_mem_cons.mpr ⟨(gw_in (List.mem_of_getElem? (i := 436) (by decide +kernel)) (by decide +kernel)), List.forall_mem_cons.mpr ⟨(gw_in (List.mem_of_getElem? (i := 437) (by decide +kernel)) (by decide +kernel)), List.forall_mem_cons.mpr ⟨(gw_in (List.mem_of_getElem? (i := 67) (by decide +kernel)) (by decide +kernel)), List.forall_mem_cons.mpr ⟨(gw_in (List.mem_of_getElem? (i := 438) (by decide +kernel)) (by decide +kernel)), fun _ h => absurd h List.not_mem_nil⟩⟩⟩⟩⟩, by decide, F_Pr, 6, rfl, by decide⟩
theorem ml_Ba_139 : MLV "HeapTower$Base" 139 y_Pr_lowered b_Pr_lowered 3 (some .int) 2 4 := ⟨List.forall_mem_cons.mpr ⟨(gw_in (List.mem_of_getElem? (i := 557) (by decide +kernel)) (by decide +kernel)), List.forall_mem_cons.mpr ⟨(gw_in (List.mem_of_getElem? (i := 558) (by decide +kernel)) (by decide +kernel)), List.forall_mem_cons.mpr ⟨(gw_in (List.mem_of_getElem? (i := 559) (by decide +kernel)) (by decide +kernel)), List.forall_mem_cons.mpr ⟨(gw_in (List.mem_of_getElem? (i := 67) (by decide +kernel)) (by decide +kernel)), List.forall_mem_cons.mpr ⟨(gw_in (List.mem_of_getElem? (i := 560) (by decide +kernel)) (by decide +kernel)), fun _ h => absurd h List.not_mem_nil⟩⟩⟩⟩⟩, by decide, F_Pr, 6, rfl, by decide⟩
theorem ml_Ba_142 : MLV "HeapTower$Base" 142 y_Ba_isNews b_Ba_isNews 9 (some .boolean) 4 0 := ⟨List.forall_mem_cons.mpr ⟨(gw_in (List.mem_of_getElem? (i := 565) (by decide +kernel)) (by decide +kernel)), List.forall_mem_cons.mpr ⟨(gw_in (List.mem_of_getElem? (i := 567) (by decide +kernel)) (by decide +kernel)), List.forall_mem_cons.mpr ⟨(gw_in (List.mem_of_getElem? (i := 13) (by decide +kernel)) (by decide +kernel)), List.forall_mem_cons.mpr ⟨(gw_in (List.mem_of_getElem? (i := 71) (by decide +kernel)) (by decide +kernel)), List.forall_mem_cons.mpr ⟨(gw_in (List.mem_of_getElem? (i := 568) (by decide +kernel)) (by decide +kernel)), fun _ h => absurd h List.not_mem_nil⟩⟩⟩⟩⟩, by decide, F_Ba, 14, rfl, by decide⟩
theorem ml_Ba_146 : MLV "HeapTower$Base" 146 y_Ba_offerMoved b_Ba_offerMoved 4 none 3 0 := ⟨List.forall_mem_cons.mpr ⟨(gw_in (List.mem_of_getElem? (i := 572) (by decide +kernel)) (by decide +kernel)), List.forall_mem_cons.mpr ⟨(gw_in (List.mem_of_getElem? (i := 574) (by decide +kernel)) (by decide +kernel)), List.forall_mem_cons.mpr ⟨(gw_in (List.mem_of_getElem? (i := 14) (by decide +kernel)) (by decide +kernel)), List.forall_mem_cons.mpr ⟨(gw_in (List.mem_of_getElem? (i := 71) (by decide +kernel)) (by decide +kernel)), List.forall_mem_cons.mpr ⟨(gw_in (List.mem_of_getElem? (i := 575) (by decide +kernel)) (by decide +kernel)), fun _ h => absurd h List.not_mem_nil⟩⟩⟩⟩⟩, by decide, F_Ba, 14, rfl, by decide⟩
theorem ml_Ba_150 : MLS "HeapTower$Base" 150 y_Ma_min b_Ma_min 2 (some .int) 2 := ⟨List.forall_mem_cons.mpr ⟨(gw_in (List.mem_of_getElem? (i := 569) (by decide +kernel)) (by decide +kernel)), List.forall_mem_cons.mpr ⟨(gw_in (List.mem_of_getElem? (i := 570) (by decide +kernel)) (by decide +kernel)), List.forall_mem_cons.mpr ⟨(gw_in (List.mem_of_getElem? (i := 74) (by decide +kernel)) (by decide +kernel)), List.forall_mem_cons.mpr ⟨(gw_in (List.mem_of_getElem? (i := 571) (by decide +kernel)) (by decide +kernel)), fun _ h => absurd h List.not_mem_nil⟩⟩⟩⟩, by decide⟩
theorem D_Ba_forget_0 : decode b_Ba_forget 0 = .ok (.aload_n 0, 1) := by decide +kernel
theorem D_Ba_forget_1 : decode b_Ba_forget 1 = .ok (.getfield 36, 3) := by decide +kernel
theorem D_Ba_forget_4 : decode b_Ba_forget 4 = .ok (.iload_n 1, 1) := by decide +kernel
theorem D_Ba_forget_5 : decode b_Ba_forget 5 = .ok (.if_icmp .lt 38, 3) := by decide +kernel
theorem D_Ba_forget_8 : decode b_Ba_forget 8 = .ok (.aload_n 0, 1) := by decide +kernel
theorem D_Ba_forget_9 : decode b_Ba_forget 9 = .ok (.iload_n 1, 1) := by decide +kernel
theorem D_Ba_forget_10 : decode b_Ba_forget 10 = .ok (.iconst 0, 1) := by decide +kernel
theorem D_Ba_forget_11 : decode b_Ba_forget 11 = .ok (.invokestatic 55, 3) := by decide +kernel
theorem D_Ba_forget_14 : decode b_Ba_forget 14 = .ok (.iconst 1, 1) := by decide +kernel
theorem D_Ba_forget_15 : decode b_Ba_forget 15 = .ok (.isub, 1) := by decide +kernel
theorem D_Ba_forget_16 : decode b_Ba_forget 16 = .ok (.putfield 36, 3) := by decide +kernel
theorem D_Ba_forget_19 : decode b_Ba_forget 19 = .ok (.aload_n 0, 1) := by decide +kernel
theorem D_Ba_forget_20 : decode b_Ba_forget 20 = .ok (.aload_n 0, 1) := by decide +kernel
theorem D_Ba_forget_21 : decode b_Ba_forget 21 = .ok (.getfield 36, 3) := by decide +kernel
theorem D_Ba_forget_24 : decode b_Ba_forget 24 = .ok (.ifCond .ge 7, 3) := by decide +kernel
theorem D_Ba_forget_27 : decode b_Ba_forget 27 = .ok (.iconst 0, 1) := by decide +kernel
theorem D_Ba_forget_28 : decode b_Ba_forget 28 = .ok (.goto 12, 3) := by decide +kernel
theorem D_Ba_forget_31 : decode b_Ba_forget 31 = .ok (.aload_n 0, 1) := by decide +kernel
theorem D_Ba_forget_32 : decode b_Ba_forget 32 = .ok (.getfield 27, 3) := by decide +kernel
theorem D_Ba_forget_35 : decode b_Ba_forget 35 = .ok (.aload_n 0, 1) := by decide +kernel
theorem D_Ba_forget_36 : decode b_Ba_forget 36 = .ok (.getfield 36, 3) := by decide +kernel
theorem D_Ba_forget_39 : decode b_Ba_forget 39 = .ok (.iaload, 1) := by decide +kernel
theorem D_Ba_forget_40 : decode b_Ba_forget 40 = .ok (.putfield 61, 3) := by decide +kernel
theorem D_Ba_forget_43 : decode b_Ba_forget 43 = .ok (.return_, 1) := by decide +kernel
abbrev rm_Ba_forget : Room := { frames := 1, cells := 0, slots := 0, locals := 21 }
def B_Ba_forget_43 (post : Mem → Prop) (M : Mem) : Prop := (post M)
set_option maxRecDepth 20000 in
theorem Z_Ba_forget_43 {x : Ctx} {post : Mem → Prop} (C : Ok x b_Ba_forget 2 "HeapTower$Base") (hR : xR x = rm_Ba_forget) (Rt : RetV x post 0 0) (M : Mem) (h : B_Ba_forget_43 post M) : J x 2 43 [] [] 0 0 M := by
  unfold B_Ba_forget_43 at h
  exact J_vret C Rt D_Ba_forget_43 h
def B_Ba_forget_40 (post : Mem → Prop) (s0 : Int32) (t1 : Nat) (M : Mem) : Prop := (isK M t1 0 ∧ B_Ba_forget_43 post (sI M t1 13 s0))
set_option maxRecDepth 20000 in
theorem Z_Ba_forget_40 {x : Ctx} {post : Mem → Prop} (C : Ok x b_Ba_forget 2 "HeapTower$Base") (hR : xR x = rm_Ba_forget) (Rt : RetV x post 0 0) (s0 : Int32) (t1 : Nat) (M : Mem) (h : B_Ba_forget_40 post s0 t1 M) : J x 2 40 [] [.int s0, .ref (xB x + t1)] 0 0 M := by
  unfold B_Ba_forget_40 at h
  obtain ⟨c_40, h⟩ := h
  refine J_putI C fl_Ba_61 D_Ba_forget_40 c_40 ?_
  exact J_sub [] rfl (Z_Ba_forget_43 C hR Rt  _ h)
def T_Ba_forget (a0 : Nat) (x1 : Int32) (M : Mem) (post : Mem → Prop) : Prop := (isK M a0 0 ∧ ((gI M a0 12) < x1 → (B_Ba_forget_43 post M)) ∧ (¬ (gI M a0 12) < x1 → (T_Ma_max x1 0 M (fun r11 M11 => isK M11 a0 0 ∧ isK (sI M11 a0 12 (r11 - 1)) a0 0 ∧ (0 ≤ (gI (sI M11 a0 12 (r11 - 1)) a0 12) → (isK (sI M11 a0 12 (r11 - 1)) a0 0 ∧ ∃ q32, gR (sI M11 a0 12 (r11 - 1)) a0 9 = some q32 ∧ isK (sI M11 a0 12 (r11 - 1)) a0 0 ∧ isA (sI M11 a0 12 (r11 - 1)) q32 8 (gI (sI M11 a0 12 (r11 - 1)) a0 12) ∧ B_Ba_forget_40 post (gI (sI M11 a0 12 (r11 - 1)) q32 (Int32.toNatClampNeg (gI (sI M11 a0 12 (r11 - 1)) a0 12))) a0 (sI M11 a0 12 (r11 - 1)))) ∧ (¬ 0 ≤ (gI (sI M11 a0 12 (r11 - 1)) a0 12) → (B_Ba_forget_40 post 0 a0 (sI M11 a0 12 (r11 - 1))))))))
set_option maxRecDepth 20000 in
theorem S_Ba_forget {l : Launch} {D : va_G} {B t : Nat} {ac : Nat → ClassId} (a0 : Nat) (x1 : Int32) (M : Mem) (post : Mem → Prop) (h : T_Ba_forget a0 x1 M post) : Met l y_Ba_forget w_Ba_forget rm_Ba_forget (va_Pc [.ref (B + a0), .int x1] (PRE D B t ac M)) (QV D B ac post) 0 0 (AB B) := by
  refine met_v (by decide +kernel) (Nat.le_of_ble_eq_true rfl) (fun x h1 hR h3 h4 h5 h6 C Rt Nm => ?_)
  subst h3 h4 h5 h6
  unfold T_Ba_forget at h
  show J x 2 0 [(0, .ref (xB x + a0)), (1, .int x1)] [] 0 0 M
  refine J_aload_n C 0 D_Ba_forget_0 rfl rfl ?_
  obtain ⟨c_1, h⟩ := h
  refine J_getI C fl_Ba_36 D_Ba_forget_1 c_1 ?_
  refine J_iload_n C 1 D_Ba_forget_4 rfl rfl ?_
  refine J_icmp_lt (tgt := 43) C D_Ba_forget_5 (by decide) (fun c_5 => ?_) (fun c_5 => ?_)
  · have h := h.1 c_5
    exact J_sub [] rfl (Z_Ba_forget_43 C hR Rt  _ h)
  · have h := h.2 c_5
    refine J_aload_n C 0 D_Ba_forget_8 rfl rfl ?_
    refine J_iload_n C 1 D_Ba_forget_9 rfl rfl ?_
    refine J_iconst (v := 0) C D_Ba_forget_10 rfl ?_
    refine J_callSi C ml_Ba_55 (S_Ma_max _ _ _ _ h) (by rw [hR]; decide) rfl rfl (Nat.le_of_ble_eq_true rfl) D_Ba_forget_11 (fun r11 M11 h => ?_)
    refine J_iconst (v := 1) C D_Ba_forget_14 rfl ?_
    refine J_isub C D_Ba_forget_15 ?_
    obtain ⟨c_16, h⟩ := h
    refine J_putI C fl_Ba_36 D_Ba_forget_16 c_16 ?_
    refine J_aload_n C 0 D_Ba_forget_19 rfl rfl ?_
    refine J_aload_n C 0 D_Ba_forget_20 rfl rfl ?_
    obtain ⟨c_21, h⟩ := h
    refine J_getI C fl_Ba_36 D_Ba_forget_21 c_21 ?_
    refine J_if_ge (tgt := 31) C D_Ba_forget_24 (by decide) (fun c_24 => ?_) (fun c_24 => ?_)
    · have h := h.1 c_24
      refine J_aload_n C 0 D_Ba_forget_31 rfl rfl ?_
      obtain ⟨c_32, q32, e_32, h⟩ := h
      refine J_getR C fl_Ba_27 D_Ba_forget_32 c_32 e_32 ?_
      refine J_aload_n C 0 D_Ba_forget_35 rfl rfl ?_
      obtain ⟨c_36, h⟩ := h
      refine J_getI C fl_Ba_36 D_Ba_forget_36 c_36 ?_
      obtain ⟨c_39, h⟩ := h
      refine J_iald C D_Ba_forget_39 c_39 ?_
      exact J_sub [] rfl (Z_Ba_forget_40 C hR Rt  _ _ _ h)
    · have h := h.2 c_24
      refine J_iconst (v := 0) C D_Ba_forget_27 rfl ?_
      refine J_goto (tgt := 40) C D_Ba_forget_28 (by decide) ?_
      exact J_sub [] rfl (Z_Ba_forget_40 C hR Rt  _ _ _ h)
theorem D_Ba_reached_0 : decode b_Ba_reached 0 = .ok (.aload_n 0, 1) := by decide +kernel
theorem D_Ba_reached_1 : decode b_Ba_reached 1 = .ok (.getfield 36, 3) := by decide +kernel
theorem D_Ba_reached_4 : decode b_Ba_reached 4 = .ok (.ireturn, 1) := by decide +kernel
abbrev rm_Ba_reached : Room := { frames := 0, cells := 0, slots := 0, locals := 0 }
def T_Ba_reached (a0 : Nat) (M : Mem) (post : Int32 → Mem → Prop) : Prop := (isK M a0 0 ∧ post (gI M a0 12) M)
set_option maxRecDepth 20000 in
theorem S_Ba_reached {l : Launch} {D : va_G} {B t : Nat} {ac : Nat → ClassId} (a0 : Nat) (M : Mem) (post : Int32 → Mem → Prop) (h : T_Ba_reached a0 M post) : Met l y_Ba_reached w_Ba_reached rm_Ba_reached (va_Pc [.ref (B + a0)] (PRE D B t ac M)) (QI D B ac post) 0 0 (AB B) := by
  refine met_i (by decide +kernel) (Nat.le_of_ble_eq_true rfl) (fun x h1 hR h3 h4 h5 h6 C Rt => ?_)
  subst h3 h4 h5 h6
  unfold T_Ba_reached at h
  show J x 1 0 [(0, .ref (xB x + a0))] [] 0 0 M
  refine J_aload_n C 0 D_Ba_reached_0 rfl rfl ?_
  obtain ⟨c_1, h⟩ := h
  refine J_getI C fl_Ba_36 D_Ba_reached_1 c_1 ?_
  exact J_iret C Rt D_Ba_reached_4 rfl h
theorem D_Ba_leaderBelow_0 : decode b_Ba_leaderBelow 0 = .ok (.iload_n 1, 1) := by decide +kernel
theorem D_Ba_leaderBelow_1 : decode b_Ba_leaderBelow 1 = .ok (.ifCond .eq 16, 3) := by decide +kernel
theorem D_Ba_leaderBelow_4 : decode b_Ba_leaderBelow 4 = .ok (.aload_n 0, 1) := by decide +kernel
theorem D_Ba_leaderBelow_5 : decode b_Ba_leaderBelow 5 = .ok (.getfield 40, 3) := by decide +kernel
theorem D_Ba_leaderBelow_8 : decode b_Ba_leaderBelow 8 = .ok (.iload_n 1, 1) := by decide +kernel
theorem D_Ba_leaderBelow_9 : decode b_Ba_leaderBelow 9 = .ok (.iload_n 2, 1) := by decide +kernel
theorem D_Ba_leaderBelow_10 : decode b_Ba_leaderBelow 10 = .ok (.iload_n 3, 1) := by decide +kernel
theorem D_Ba_leaderBelow_11 : decode b_Ba_leaderBelow 11 = .ok (.invokevirtual 136, 3) := by decide +kernel
theorem D_Ba_leaderBelow_14 : decode b_Ba_leaderBelow 14 = .ok (.ifCond .ne 5, 3) := by decide +kernel
theorem D_Ba_leaderBelow_17 : decode b_Ba_leaderBelow 17 = .ok (.iconst 0, 1) := by decide +kernel
theorem D_Ba_leaderBelow_18 : decode b_Ba_leaderBelow 18 = .ok (.ireturn, 1) := by decide +kernel
theorem D_Ba_leaderBelow_19 : decode b_Ba_leaderBelow 19 = .ok (.aload_n 0, 1) := by decide +kernel
theorem D_Ba_leaderBelow_20 : decode b_Ba_leaderBelow 20 = .ok (.getfield 24, 3) := by decide +kernel
theorem D_Ba_leaderBelow_23 : decode b_Ba_leaderBelow 23 = .ok (.getstatic 70, 3) := by decide +kernel
theorem D_Ba_leaderBelow_26 : decode b_Ba_leaderBelow 26 = .ok (.iload_n 1, 1) := by decide +kernel
theorem D_Ba_leaderBelow_27 : decode b_Ba_leaderBelow 27 = .ok (.iconst 1, 1) := by decide +kernel
theorem D_Ba_leaderBelow_28 : decode b_Ba_leaderBelow 28 = .ok (.isub, 1) := by decide +kernel
theorem D_Ba_leaderBelow_29 : decode b_Ba_leaderBelow 29 = .ok (.iaload, 1) := by decide +kernel
theorem D_Ba_leaderBelow_30 : decode b_Ba_leaderBelow 30 = .ok (.aload_n 0, 1) := by decide +kernel
theorem D_Ba_leaderBelow_31 : decode b_Ba_leaderBelow 31 = .ok (.getfield 40, 3) := by decide +kernel
theorem D_Ba_leaderBelow_34 : decode b_Ba_leaderBelow 34 = .ok (.iload_n 2, 1) := by decide +kernel
theorem D_Ba_leaderBelow_35 : decode b_Ba_leaderBelow 35 = .ok (.iload_n 3, 1) := by decide +kernel
theorem D_Ba_leaderBelow_36 : decode b_Ba_leaderBelow 36 = .ok (.invokevirtual 139, 3) := by decide +kernel
theorem D_Ba_leaderBelow_39 : decode b_Ba_leaderBelow 39 = .ok (.iadd, 1) := by decide +kernel
theorem D_Ba_leaderBelow_40 : decode b_Ba_leaderBelow 40 = .ok (.iaload, 1) := by decide +kernel
theorem D_Ba_leaderBelow_41 : decode b_Ba_leaderBelow 41 = .ok (.ireturn, 1) := by decide +kernel
abbrev rm_Ba_leaderBelow : Room := { frames := 2, cells := 0, slots := 0, locals := 43 }
def B_Ba_leaderBelow_17 (post : Int32 → Mem → Prop) (M : Mem) : Prop := (post 0 M)
set_option maxRecDepth 20000 in
theorem Z_Ba_leaderBelow_17 {x : Ctx} {post : Int32 → Mem → Prop} (C : Ok x b_Ba_leaderBelow 4 "HeapTower$Base") (hR : xR x = rm_Ba_leaderBelow) (Rt : RetI x .int post 0 0) (M : Mem) (h : B_Ba_leaderBelow_17 post M) : J x 4 17 [] [] 0 0 M := by
  unfold B_Ba_leaderBelow_17 at h
  refine J_iconst (v := 0) C D_Ba_leaderBelow_17 rfl ?_
  exact J_iret C Rt D_Ba_leaderBelow_18 rfl h
def T_Ba_leaderBelow (a0 : Nat) (x1 : Int32) (x2 : Int32) (x3 : Int32) (M : Mem) (post : Int32 → Mem → Prop) : Prop := ((x1 = 0 → (B_Ba_leaderBelow_17 post M)) ∧ (¬ x1 = 0 → (isK M a0 0 ∧ ∃ q5, gR M a0 0 = some q5 ∧ isK M q5 4 ∧ T_Pr_power q5 x1 x2 x3 M (fun r11 M11 => (¬ r11 = 0 → (isK M11 a0 0 ∧ ∃ q20, gR M11 a0 8 = some q20 ∧ vp_in (x1 - 1) 12 ∧ isK M11 a0 0 ∧ ∃ q31, gR M11 a0 0 = some q31 ∧ isK M11 q31 4 ∧ T_Pr_lowered q31 x2 x3 M11 (fun r36 M36 => isA M36 q20 8 ((fst (Int32.toNatClampNeg (x1 - 1))) + r36) ∧ post (gI M36 q20 (Int32.toNatClampNeg ((fst (Int32.toNatClampNeg (x1 - 1))) + r36))) M36))) ∧ (r11 = 0 → (B_Ba_leaderBelow_17 post M11))))))
set_option maxRecDepth 20000 in
theorem S_Ba_leaderBelow {l : Launch} {D : va_G} {B t : Nat} {ac : Nat → ClassId} (a0 : Nat) (x1 : Int32) (x2 : Int32) (x3 : Int32) (M : Mem) (post : Int32 → Mem → Prop) (h : T_Ba_leaderBelow a0 x1 x2 x3 M post) : Met l y_Ba_leaderBelow w_Ba_leaderBelow rm_Ba_leaderBelow (va_Pc [.ref (B + a0), .int x1, .int x2, .int x3] (PRE D B t ac M)) (QI D B ac post) 0 0 (AB B) := by
  refine met_i (by decide +kernel) (Nat.le_of_ble_eq_true rfl) (fun x h1 hR h3 h4 h5 h6 C Rt => ?_)
  subst h3 h4 h5 h6
  unfold T_Ba_leaderBelow at h
  show J x 4 0 [(0, .ref (xB x + a0)), (1, .int x1), (2, .int x2), (3, .int x3)] [] 0 0 M
  refine J_iload_n C 1 D_Ba_leaderBelow_0 rfl rfl ?_
  refine J_if_eq (tgt := 17) C D_Ba_leaderBelow_1 (by decide) (fun c_1 => ?_) (fun c_1 => ?_)
  · have h := h.1 c_1
    exact J_sub [] rfl (Z_Ba_leaderBelow_17 C hR Rt  _ h)
  · have h := h.2 c_1
    refine J_aload_n C 0 D_Ba_leaderBelow_4 rfl rfl ?_
    obtain ⟨c_5, q5, e_5, h⟩ := h
    refine J_getR C fl_Ba_40 D_Ba_leaderBelow_5 c_5 e_5 ?_
    refine J_iload_n C 1 D_Ba_leaderBelow_8 rfl rfl ?_
    refine J_iload_n C 2 D_Ba_leaderBelow_9 rfl rfl ?_
    refine J_iload_n C 3 D_Ba_leaderBelow_10 rfl rfl ?_
    obtain ⟨c_11, h⟩ := h
    refine J_callVi C ml_Ba_136 (S_Pr_power _ _ _ _ _ _ h) (by rw [hR]; decide) rfl c_11 rfl (Nat.le_of_ble_eq_true rfl) D_Ba_leaderBelow_11 (fun r11 M11 h => ?_)
    refine J_if_ne (tgt := 19) C D_Ba_leaderBelow_14 (by decide) (fun c_14 => ?_) (fun c_14 => ?_)
    · have h := h.1 c_14
      refine J_aload_n C 0 D_Ba_leaderBelow_19 rfl rfl ?_
      obtain ⟨c_20, q20, e_20, h⟩ := h
      refine J_getR C fl_Ba_24 D_Ba_leaderBelow_20 c_20 e_20 ?_
      refine J_first C (by decide) D_Ba_leaderBelow_23 ?_
      refine J_iload_n C 1 D_Ba_leaderBelow_26 rfl rfl ?_
      refine J_iconst (v := 1) C D_Ba_leaderBelow_27 rfl ?_
      refine J_isub C D_Ba_leaderBelow_28 ?_
      obtain ⟨c_29, h⟩ := h
      refine J_fald C D_Ba_leaderBelow_29 c_29 ?_
      refine J_aload_n C 0 D_Ba_leaderBelow_30 rfl rfl ?_
      obtain ⟨c_31, q31, e_31, h⟩ := h
      refine J_getR C fl_Ba_40 D_Ba_leaderBelow_31 c_31 e_31 ?_
      refine J_iload_n C 2 D_Ba_leaderBelow_34 rfl rfl ?_
      refine J_iload_n C 3 D_Ba_leaderBelow_35 rfl rfl ?_
      obtain ⟨c_36, h⟩ := h
      refine J_callVi C ml_Ba_139 (S_Pr_lowered _ _ _ _ _ h) (by rw [hR]; decide) rfl c_36 rfl (Nat.le_of_ble_eq_true rfl) D_Ba_leaderBelow_36 (fun r36 M36 h => ?_)
      refine J_iadd C D_Ba_leaderBelow_39 ?_
      obtain ⟨c_40, h⟩ := h
      refine J_iald C D_Ba_leaderBelow_40 c_40 ?_
      exact J_iret C Rt D_Ba_leaderBelow_41 rfl h
    · have h := h.2 c_14
      exact J_sub [] rfl (Z_Ba_leaderBelow_17 C hR Rt  _ h)
theorem D_Ba_inherit_0 : decode b_Ba_inherit 0 = .ok (.iconst 0, 1) := by decide +kernel
theorem D_Ba_inherit_1 : decode b_Ba_inherit 1 = .ok (.istore_n 2, 1) := by decide +kernel
theorem D_Ba_inherit_2 : decode b_Ba_inherit 2 = .ok (.iload_n 2, 1) := by decide +kernel
theorem D_Ba_inherit_3 : decode b_Ba_inherit 3 = .ok (.aload_n 0, 1) := by decide +kernel
theorem D_Ba_inherit_4 : decode b_Ba_inherit 4 = .ok (.getfield 40, 3) := by decide +kernel
theorem D_Ba_inherit_7 : decode b_Ba_inherit 7 = .ok (.iload_n 1, 1) := by decide +kernel
theorem D_Ba_inherit_8 : decode b_Ba_inherit 8 = .ok (.invokevirtual 64, 3) := by decide +kernel
theorem D_Ba_inherit_11 : decode b_Ba_inherit 11 = .ok (.if_icmp .ge 66, 3) := by decide +kernel
theorem D_Ba_inherit_14 : decode b_Ba_inherit 14 = .ok (.aload_n 0, 1) := by decide +kernel
theorem D_Ba_inherit_15 : decode b_Ba_inherit 15 = .ok (.getfield 40, 3) := by decide +kernel
theorem D_Ba_inherit_18 : decode b_Ba_inherit 18 = .ok (.iload_n 1, 1) := by decide +kernel
theorem D_Ba_inherit_19 : decode b_Ba_inherit 19 = .ok (.iload_n 2, 1) := by decide +kernel
theorem D_Ba_inherit_20 : decode b_Ba_inherit 20 = .ok (.invokevirtual 99, 3) := by decide +kernel
theorem D_Ba_inherit_23 : decode b_Ba_inherit 23 = .ok (.istore_n 3, 1) := by decide +kernel
theorem D_Ba_inherit_24 : decode b_Ba_inherit 24 = .ok (.iconst 0, 1) := by decide +kernel
theorem D_Ba_inherit_25 : decode b_Ba_inherit 25 = .ok (.istore 4, 2) := by decide +kernel
theorem D_Ba_inherit_27 : decode b_Ba_inherit 27 = .ok (.iconst 0, 1) := by decide +kernel
theorem D_Ba_inherit_28 : decode b_Ba_inherit 28 = .ok (.istore 5, 2) := by decide +kernel
theorem D_Ba_inherit_30 : decode b_Ba_inherit 30 = .ok (.iload 5, 2) := by decide +kernel
theorem D_Ba_inherit_32 : decode b_Ba_inherit 32 = .ok (.iconst 3, 1) := by decide +kernel
theorem D_Ba_inherit_33 : decode b_Ba_inherit 33 = .ok (.if_icmp .ge 24, 3) := by decide +kernel
theorem D_Ba_inherit_36 : decode b_Ba_inherit 36 = .ok (.iload 4, 2) := by decide +kernel
theorem D_Ba_inherit_38 : decode b_Ba_inherit 38 = .ok (.ifCond .ne 19, 3) := by decide +kernel
theorem D_Ba_inherit_41 : decode b_Ba_inherit 41 = .ok (.aload_n 0, 1) := by decide +kernel
theorem D_Ba_inherit_42 : decode b_Ba_inherit 42 = .ok (.iload_n 1, 1) := by decide +kernel
theorem D_Ba_inherit_43 : decode b_Ba_inherit 43 = .ok (.iload_n 3, 1) := by decide +kernel
theorem D_Ba_inherit_44 : decode b_Ba_inherit 44 = .ok (.iload 5, 2) := by decide +kernel
theorem D_Ba_inherit_46 : decode b_Ba_inherit 46 = .ok (.invokevirtual 132, 3) := by decide +kernel
theorem D_Ba_inherit_49 : decode b_Ba_inherit 49 = .ok (.istore 4, 2) := by decide +kernel
theorem D_Ba_inherit_51 : decode b_Ba_inherit 51 = .ok (.iinc 5 1, 3) := by decide +kernel
theorem D_Ba_inherit_54 : decode b_Ba_inherit 54 = .ok (.goto (-24), 3) := by decide +kernel
theorem D_Ba_inherit_57 : decode b_Ba_inherit 57 = .ok (.aload_n 0, 1) := by decide +kernel
theorem D_Ba_inherit_58 : decode b_Ba_inherit 58 = .ok (.getfield 24, 3) := by decide +kernel
theorem D_Ba_inherit_61 : decode b_Ba_inherit 61 = .ok (.getstatic 70, 3) := by decide +kernel
theorem D_Ba_inherit_64 : decode b_Ba_inherit 64 = .ok (.iload_n 1, 1) := by decide +kernel
theorem D_Ba_inherit_65 : decode b_Ba_inherit 65 = .ok (.iaload, 1) := by decide +kernel
theorem D_Ba_inherit_66 : decode b_Ba_inherit 66 = .ok (.iload_n 3, 1) := by decide +kernel
theorem D_Ba_inherit_67 : decode b_Ba_inherit 67 = .ok (.iadd, 1) := by decide +kernel
theorem D_Ba_inherit_68 : decode b_Ba_inherit 68 = .ok (.iload 4, 2) := by decide +kernel
theorem D_Ba_inherit_70 : decode b_Ba_inherit 70 = .ok (.iastore, 1) := by decide +kernel
theorem D_Ba_inherit_71 : decode b_Ba_inherit 71 = .ok (.iinc 2 1, 3) := by decide +kernel
theorem D_Ba_inherit_74 : decode b_Ba_inherit 74 = .ok (.goto (-72), 3) := by decide +kernel
theorem D_Ba_inherit_77 : decode b_Ba_inherit 77 = .ok (.return_, 1) := by decide +kernel
abbrev rm_Ba_inherit : Room := { frames := 3, cells := 0, slots := 0, locals := 66 }
def B_Ba_inherit_57 (k2 : Nat → Int32 → Int32 → Mem → Prop) (post : Mem → Prop) (a0 : Nat) (x1 : Int32) (x2 : Int32) (x3 : Int32) (x4 : Int32) (M : Mem) : Prop := (isK M a0 0 ∧ ∃ q58, gR M a0 8 = some q58 ∧ vp_in x1 12 ∧ isA M q58 8 ((fst (Int32.toNatClampNeg x1)) + x3) ∧ k2 a0 x1 (x2 + 1) (sI M q58 (Int32.toNatClampNeg ((fst (Int32.toNatClampNeg x1)) + x3)) x4))
set_option maxRecDepth 20000 in
theorem Z_Ba_inherit_57 {x : Ctx} {post : Mem → Prop} (C : Ok x b_Ba_inherit 6 "HeapTower$Base") (hR : xR x = rm_Ba_inherit) (Rt : RetV x post 0 0) {k2 : Nat → Int32 → Int32 → Mem → Prop} (K2 : ∀ (a0 : Nat) (x1 : Int32) (x2 : Int32) (M : Mem), k2 a0 x1 x2 M → J x 6 2 [(0, .ref (xB x + a0)), (1, .int x1), (2, .int x2)] [] 0 0 M) (a0 : Nat) (x1 : Int32) (x2 : Int32) (x3 : Int32) (x4 : Int32) (M : Mem) (h : B_Ba_inherit_57 k2 post a0 x1 x2 x3 x4 M) : J x 6 57 [(0, .ref (xB x + a0)), (1, .int x1), (2, .int x2), (3, .int x3), (4, .int x4)] [] 0 0 M := by
  unfold B_Ba_inherit_57 at h
  refine J_aload_n C 0 D_Ba_inherit_57 rfl rfl ?_
  obtain ⟨c_58, q58, e_58, h⟩ := h
  refine J_getR C fl_Ba_24 D_Ba_inherit_58 c_58 e_58 ?_
  refine J_first C (by decide) D_Ba_inherit_61 ?_
  refine J_iload_n C 1 D_Ba_inherit_64 rfl rfl ?_
  obtain ⟨c_65, h⟩ := h
  refine J_fald C D_Ba_inherit_65 c_65 ?_
  refine J_iload_n C 3 D_Ba_inherit_66 rfl rfl ?_
  refine J_iadd C D_Ba_inherit_67 ?_
  refine J_iload C 4 D_Ba_inherit_68 rfl ?_
  obtain ⟨c_70, h⟩ := h
  refine J_iast C D_Ba_inherit_70 c_70 ?_
  refine J_iinc (v := x2 + 1) (lv' := [(2, .int (x2 + 1)), (0, .ref (xB x + a0)), (1, .int x1), (3, .int x3), (4, .int x4)]) C 2 2 D_Ba_inherit_71 rfl rfl (by decide) rfl ?_
  refine J_goto (tgt := 2) C D_Ba_inherit_74 (by decide) ?_
  exact J_sub [1, 2, 0] rfl (K2 _ _ _ _ h)
def B_Ba_inherit_30 (k2 : Nat → Int32 → Int32 → Mem → Prop) (k30 : Nat → Int32 → Int32 → Int32 → Int32 → Int32 → Mem → Prop) (post : Mem → Prop) (a0 : Nat) (x1 : Int32) (x2 : Int32) (x3 : Int32) (x4 : Int32) (x5 : Int32) (M : Mem) : Prop := ((3 ≤ x5 → (B_Ba_inherit_57 k2 post a0 x1 x2 x3 x4 M)) ∧ (¬ 3 ≤ x5 → ((¬ x4 = 0 → (B_Ba_inherit_57 k2 post a0 x1 x2 x3 x4 M)) ∧ (x4 = 0 → (isK M a0 0 ∧ T_Ba_leaderBelow a0 x1 x3 x5 M (fun r46 M46 => k30 a0 x1 x2 x3 r46 (x5 + 1) M46))))))
set_option maxRecDepth 20000 in
theorem Z_Ba_inherit_30 {x : Ctx} {post : Mem → Prop} (C : Ok x b_Ba_inherit 6 "HeapTower$Base") (hR : xR x = rm_Ba_inherit) (Rt : RetV x post 0 0) {k2 : Nat → Int32 → Int32 → Mem → Prop} (K2 : ∀ (a0 : Nat) (x1 : Int32) (x2 : Int32) (M : Mem), k2 a0 x1 x2 M → J x 6 2 [(0, .ref (xB x + a0)), (1, .int x1), (2, .int x2)] [] 0 0 M) {k30 : Nat → Int32 → Int32 → Int32 → Int32 → Int32 → Mem → Prop} (K30 : ∀ (a0 : Nat) (x1 : Int32) (x2 : Int32) (x3 : Int32) (x4 : Int32) (x5 : Int32) (M : Mem), k30 a0 x1 x2 x3 x4 x5 M → J x 6 30 [(0, .ref (xB x + a0)), (1, .int x1), (2, .int x2), (3, .int x3), (4, .int x4), (5, .int x5)] [] 0 0 M) (a0 : Nat) (x1 : Int32) (x2 : Int32) (x3 : Int32) (x4 : Int32) (x5 : Int32) (M : Mem) (h : B_Ba_inherit_30 k2 k30 post a0 x1 x2 x3 x4 x5 M) : J x 6 30 [(0, .ref (xB x + a0)), (1, .int x1), (2, .int x2), (3, .int x3), (4, .int x4), (5, .int x5)] [] 0 0 M := by
  unfold B_Ba_inherit_30 at h
  refine J_iload C 5 D_Ba_inherit_30 rfl ?_
  refine J_iconst (v := 3) C D_Ba_inherit_32 rfl ?_
  refine J_icmp_ge (tgt := 57) C D_Ba_inherit_33 (by decide) (fun c_33 => ?_) (fun c_33 => ?_)
  · have h := h.1 c_33
    exact J_sub [0, 1, 2, 3, 4] rfl (Z_Ba_inherit_57 C hR Rt K2 _ _ _ _ _ _ h)
  · have h := h.2 c_33
    refine J_iload C 4 D_Ba_inherit_36 rfl ?_
    refine J_if_ne (tgt := 57) C D_Ba_inherit_38 (by decide) (fun c_38 => ?_) (fun c_38 => ?_)
    · have h := h.1 c_38
      exact J_sub [0, 1, 2, 3, 4] rfl (Z_Ba_inherit_57 C hR Rt K2 _ _ _ _ _ _ h)
    · have h := h.2 c_38
      refine J_aload_n C 0 D_Ba_inherit_41 rfl rfl ?_
      refine J_iload_n C 1 D_Ba_inherit_42 rfl rfl ?_
      refine J_iload_n C 3 D_Ba_inherit_43 rfl rfl ?_
      refine J_iload C 5 D_Ba_inherit_44 rfl ?_
      obtain ⟨c_46, h⟩ := h
      refine J_callVi C ml_Ba_132 (S_Ba_leaderBelow _ _ _ _ _ _ h) (by rw [hR]; decide) rfl c_46 rfl (Nat.le_of_ble_eq_true rfl) D_Ba_inherit_46 (fun r46 M46 h => ?_)
      refine J_istore (lv' := [(4, .int r46), (0, .ref (xB x + a0)), (1, .int x1), (2, .int x2), (3, .int x3), (5, .int x5)]) C 4 D_Ba_inherit_49 (by decide) rfl ?_
      refine J_iinc (v := x5 + 1) (lv' := [(5, .int (x5 + 1)), (4, .int r46), (0, .ref (xB x + a0)), (1, .int x1), (2, .int x2), (3, .int x3)]) C 5 5 D_Ba_inherit_51 rfl rfl (by decide) rfl ?_
      refine J_goto (tgt := 30) C D_Ba_inherit_54 (by decide) ?_
      exact J_sub [2, 3, 4, 5, 1, 0] rfl (K30 _ _ _ _ _ _ _ h)
def L_Ba_inherit_30 (k2 : Nat → Int32 → Int32 → Mem → Prop) (post : Mem → Prop) : Nat → Nat → Int32 → Int32 → Int32 → Int32 → Int32 → Mem → Prop
  | 0, _, _, _, _, _, _, _ => False
  | n + 1, a0, x1, x2, x3, x4, x5, M => B_Ba_inherit_30 k2 (L_Ba_inherit_30 k2 post n) post a0 x1 x2 x3 x4 x5 M
theorem Y_Ba_inherit_30 {x : Ctx} {post : Mem → Prop} (C : Ok x b_Ba_inherit 6 "HeapTower$Base") (hR : xR x = rm_Ba_inherit) (Rt : RetV x post 0 0) {k2 : Nat → Int32 → Int32 → Mem → Prop} (K2 : ∀ (a0 : Nat) (x1 : Int32) (x2 : Int32) (M : Mem), k2 a0 x1 x2 M → J x 6 2 [(0, .ref (xB x + a0)), (1, .int x1), (2, .int x2)] [] 0 0 M) : ∀ (n : Nat) (a0 : Nat) (x1 : Int32) (x2 : Int32) (x3 : Int32) (x4 : Int32) (x5 : Int32) (M : Mem), L_Ba_inherit_30 k2 post n a0 x1 x2 x3 x4 x5 M → J x 6 30 [(0, .ref (xB x + a0)), (1, .int x1), (2, .int x2), (3, .int x3), (4, .int x4), (5, .int x5)] [] 0 0 M := by
  intro n
  induction n with
  | zero => intro a0 x1 x2 x3 x4 x5 M h; exact h.elim
  | succ n ih => intro a0 x1 x2 x3 x4 x5 M h; exact Z_Ba_inherit_30 C hR Rt K2 ih _ _ _ _ _ _ _ h
def B_Ba_inherit_2 (k2 : Nat → Int32 → Int32 → Mem → Prop) (post : Mem → Prop) (a0 : Nat) (x1 : Int32) (x2 : Int32) (M : Mem) : Prop := (isK M a0 0 ∧ ∃ q4, gR M a0 0 = some q4 ∧ isK M q4 4 ∧ T_Pr_amount q4 x1 M (fun r8 M8 => (r8 ≤ x2 → (post M8)) ∧ (¬ r8 ≤ x2 → (isK M8 a0 0 ∧ ∃ q15, gR M8 a0 0 = some q15 ∧ isK M8 q15 4 ∧ T_Pr_at q15 x1 x2 M8 (fun r20 M20 => ∃ n, L_Ba_inherit_30 k2 post n a0 x1 x2 r20 0 0 M20)))))
set_option maxRecDepth 20000 in
theorem Z_Ba_inherit_2 {x : Ctx} {post : Mem → Prop} (C : Ok x b_Ba_inherit 6 "HeapTower$Base") (hR : xR x = rm_Ba_inherit) (Rt : RetV x post 0 0) {k2 : Nat → Int32 → Int32 → Mem → Prop} (K2 : ∀ (a0 : Nat) (x1 : Int32) (x2 : Int32) (M : Mem), k2 a0 x1 x2 M → J x 6 2 [(0, .ref (xB x + a0)), (1, .int x1), (2, .int x2)] [] 0 0 M) (a0 : Nat) (x1 : Int32) (x2 : Int32) (M : Mem) (h : B_Ba_inherit_2 k2 post a0 x1 x2 M) : J x 6 2 [(0, .ref (xB x + a0)), (1, .int x1), (2, .int x2)] [] 0 0 M := by
  unfold B_Ba_inherit_2 at h
  refine J_iload_n C 2 D_Ba_inherit_2 rfl rfl ?_
  refine J_aload_n C 0 D_Ba_inherit_3 rfl rfl ?_
  obtain ⟨c_4, q4, e_4, h⟩ := h
  refine J_getR C fl_Ba_40 D_Ba_inherit_4 c_4 e_4 ?_
  refine J_iload_n C 1 D_Ba_inherit_7 rfl rfl ?_
  obtain ⟨c_8, h⟩ := h
  refine J_callVi C ml_Ba_64 (S_Pr_amount _ _ _ _ h) (by rw [hR]; decide) rfl c_8 rfl (Nat.le_of_ble_eq_true rfl) D_Ba_inherit_8 (fun r8 M8 h => ?_)
  refine J_icmp_ge (tgt := 77) C D_Ba_inherit_11 (by decide) (fun c_11 => ?_) (fun c_11 => ?_)
  · have h := h.1 c_11
    exact J_vret C Rt D_Ba_inherit_77 h
  · have h := h.2 c_11
    refine J_aload_n C 0 D_Ba_inherit_14 rfl rfl ?_
    obtain ⟨c_15, q15, e_15, h⟩ := h
    refine J_getR C fl_Ba_40 D_Ba_inherit_15 c_15 e_15 ?_
    refine J_iload_n C 1 D_Ba_inherit_18 rfl rfl ?_
    refine J_iload_n C 2 D_Ba_inherit_19 rfl rfl ?_
    obtain ⟨c_20, h⟩ := h
    refine J_callVi C ml_Ba_99 (S_Pr_at _ _ _ _ _ h) (by rw [hR]; decide) rfl c_20 rfl (Nat.le_of_ble_eq_true rfl) D_Ba_inherit_20 (fun r20 M20 h => ?_)
    refine J_istore_n (lv' := [(3, .int r20), (0, .ref (xB x + a0)), (1, .int x1), (2, .int x2)]) C 3 D_Ba_inherit_23 rfl (by decide) rfl ?_
    refine J_iconst (v := 0) C D_Ba_inherit_24 rfl ?_
    refine J_istore (lv' := [(4, .int 0), (3, .int r20), (0, .ref (xB x + a0)), (1, .int x1), (2, .int x2)]) C 4 D_Ba_inherit_25 (by decide) rfl ?_
    refine J_iconst (v := 0) C D_Ba_inherit_27 rfl ?_
    refine J_istore (lv' := [(5, .int 0), (4, .int 0), (3, .int r20), (0, .ref (xB x + a0)), (1, .int x1), (2, .int x2)]) C 5 D_Ba_inherit_28 (by decide) rfl ?_
    obtain ⟨n, h⟩ := h
    exact J_sub [3, 4, 5, 2, 1, 0] rfl (Y_Ba_inherit_30 C hR Rt K2 n _ _ _ _ _ _ _ h)
def L_Ba_inherit_2 (post : Mem → Prop) : Nat → Nat → Int32 → Int32 → Mem → Prop
  | 0, _, _, _, _ => False
  | n + 1, a0, x1, x2, M => B_Ba_inherit_2 (L_Ba_inherit_2 post n) post a0 x1 x2 M
theorem Y_Ba_inherit_2 {x : Ctx} {post : Mem → Prop} (C : Ok x b_Ba_inherit 6 "HeapTower$Base") (hR : xR x = rm_Ba_inherit) (Rt : RetV x post 0 0) : ∀ (n : Nat) (a0 : Nat) (x1 : Int32) (x2 : Int32) (M : Mem), L_Ba_inherit_2 post n a0 x1 x2 M → J x 6 2 [(0, .ref (xB x + a0)), (1, .int x1), (2, .int x2)] [] 0 0 M := by
  intro n
  induction n with
  | zero => intro a0 x1 x2 M h; exact h.elim
  | succ n ih => intro a0 x1 x2 M h; exact Z_Ba_inherit_2 C hR Rt ih _ _ _ _ h
def T_Ba_inherit (a0 : Nat) (x1 : Int32) (M : Mem) (post : Mem → Prop) : Prop := (∃ n, L_Ba_inherit_2 post n a0 x1 0 M)
set_option maxRecDepth 20000 in
theorem S_Ba_inherit {l : Launch} {D : va_G} {B t : Nat} {ac : Nat → ClassId} (a0 : Nat) (x1 : Int32) (M : Mem) (post : Mem → Prop) (h : T_Ba_inherit a0 x1 M post) : Met l y_Ba_inherit w_Ba_inherit rm_Ba_inherit (va_Pc [.ref (B + a0), .int x1] (PRE D B t ac M)) (QV D B ac post) 0 0 (AB B) := by
  refine met_v (by decide +kernel) (Nat.le_of_ble_eq_true rfl) (fun x h1 hR h3 h4 h5 h6 C Rt Nm => ?_)
  subst h3 h4 h5 h6
  unfold T_Ba_inherit at h
  show J x 6 0 [(0, .ref (xB x + a0)), (1, .int x1)] [] 0 0 M
  refine J_iconst (v := 0) C D_Ba_inherit_0 rfl ?_
  refine J_istore_n (lv' := [(2, .int 0), (0, .ref (xB x + a0)), (1, .int x1)]) C 2 D_Ba_inherit_1 rfl (by decide) rfl ?_
  obtain ⟨n, h⟩ := h
  exact J_sub [1, 2, 0] rfl (Y_Ba_inherit_2 C hR Rt  n _ _ _ _ h)
theorem D_Ba_isNews_0 : decode b_Ba_isNews 0 = .ok (.iconst 0, 1) := by decide +kernel
theorem D_Ba_isNews_1 : decode b_Ba_isNews 1 = .ok (.istore 5, 2) := by decide +kernel
theorem D_Ba_isNews_3 : decode b_Ba_isNews 3 = .ok (.iconst 0, 1) := by decide +kernel
theorem D_Ba_isNews_4 : decode b_Ba_isNews 4 = .ok (.istore 6, 2) := by decide +kernel
theorem D_Ba_isNews_6 : decode b_Ba_isNews 6 = .ok (.iload 6, 2) := by decide +kernel
theorem D_Ba_isNews_8 : decode b_Ba_isNews 8 = .ok (.iconst 3, 1) := by decide +kernel
theorem D_Ba_isNews_9 : decode b_Ba_isNews 9 = .ok (.if_icmp .ge 112, 3) := by decide +kernel
theorem D_Ba_isNews_12 : decode b_Ba_isNews 12 = .ok (.aload_n 0, 1) := by decide +kernel
theorem D_Ba_isNews_13 : decode b_Ba_isNews 13 = .ok (.getfield 40, 3) := by decide +kernel
theorem D_Ba_isNews_16 : decode b_Ba_isNews 16 = .ok (.aload_n 0, 1) := by decide +kernel
theorem D_Ba_isNews_17 : decode b_Ba_isNews 17 = .ok (.getfield 21, 3) := by decide +kernel
theorem D_Ba_isNews_20 : decode b_Ba_isNews 20 = .ok (.iload_n 3, 1) := by decide +kernel
theorem D_Ba_isNews_21 : decode b_Ba_isNews 21 = .ok (.iaload, 1) := by decide +kernel
theorem D_Ba_isNews_22 : decode b_Ba_isNews 22 = .ok (.aload_n 0, 1) := by decide +kernel
theorem D_Ba_isNews_23 : decode b_Ba_isNews 23 = .ok (.getfield 11, 3) := by decide +kernel
theorem D_Ba_isNews_26 : decode b_Ba_isNews 26 = .ok (.aload_n 0, 1) := by decide +kernel
theorem D_Ba_isNews_27 : decode b_Ba_isNews 27 = .ok (.getfield 18, 3) := by decide +kernel
theorem D_Ba_isNews_30 : decode b_Ba_isNews 30 = .ok (.iload_n 3, 1) := by decide +kernel
theorem D_Ba_isNews_31 : decode b_Ba_isNews 31 = .ok (.iaload, 1) := by decide +kernel
theorem D_Ba_isNews_32 : decode b_Ba_isNews 32 = .ok (.iaload, 1) := by decide +kernel
theorem D_Ba_isNews_33 : decode b_Ba_isNews 33 = .ok (.iload 6, 2) := by decide +kernel
theorem D_Ba_isNews_35 : decode b_Ba_isNews 35 = .ok (.invokevirtual 136, 3) := by decide +kernel
theorem D_Ba_isNews_38 : decode b_Ba_isNews 38 = .ok (.istore 7, 2) := by decide +kernel
theorem D_Ba_isNews_40 : decode b_Ba_isNews 40 = .ok (.aload_n 0, 1) := by decide +kernel
theorem D_Ba_isNews_41 : decode b_Ba_isNews 41 = .ok (.getfield 40, 3) := by decide +kernel
theorem D_Ba_isNews_44 : decode b_Ba_isNews 44 = .ok (.aload_n 0, 1) := by decide +kernel
theorem D_Ba_isNews_45 : decode b_Ba_isNews 45 = .ok (.getfield 21, 3) := by decide +kernel
theorem D_Ba_isNews_48 : decode b_Ba_isNews 48 = .ok (.iload 4, 2) := by decide +kernel
theorem D_Ba_isNews_50 : decode b_Ba_isNews 50 = .ok (.iaload, 1) := by decide +kernel
theorem D_Ba_isNews_51 : decode b_Ba_isNews 51 = .ok (.aload_n 0, 1) := by decide +kernel
theorem D_Ba_isNews_52 : decode b_Ba_isNews 52 = .ok (.getfield 11, 3) := by decide +kernel
theorem D_Ba_isNews_55 : decode b_Ba_isNews 55 = .ok (.aload_n 0, 1) := by decide +kernel
theorem D_Ba_isNews_56 : decode b_Ba_isNews 56 = .ok (.getfield 18, 3) := by decide +kernel
theorem D_Ba_isNews_59 : decode b_Ba_isNews 59 = .ok (.iload 4, 2) := by decide +kernel
theorem D_Ba_isNews_61 : decode b_Ba_isNews 61 = .ok (.iaload, 1) := by decide +kernel
theorem D_Ba_isNews_62 : decode b_Ba_isNews 62 = .ok (.iaload, 1) := by decide +kernel
theorem D_Ba_isNews_63 : decode b_Ba_isNews 63 = .ok (.iload 6, 2) := by decide +kernel
theorem D_Ba_isNews_65 : decode b_Ba_isNews 65 = .ok (.invokevirtual 136, 3) := by decide +kernel
theorem D_Ba_isNews_68 : decode b_Ba_isNews 68 = .ok (.istore 8, 2) := by decide +kernel
theorem D_Ba_isNews_70 : decode b_Ba_isNews 70 = .ok (.iload 7, 2) := by decide +kernel
theorem D_Ba_isNews_72 : decode b_Ba_isNews 72 = .ok (.iload 8, 2) := by decide +kernel
theorem D_Ba_isNews_74 : decode b_Ba_isNews 74 = .ok (.invokestatic 55, 3) := by decide +kernel
theorem D_Ba_isNews_77 : decode b_Ba_isNews 77 = .ok (.aload_n 0, 1) := by decide +kernel
theorem D_Ba_isNews_78 : decode b_Ba_isNews 78 = .ok (.getfield 40, 3) := by decide +kernel
theorem D_Ba_isNews_81 : decode b_Ba_isNews 81 = .ok (.iload_n 1, 1) := by decide +kernel
theorem D_Ba_isNews_82 : decode b_Ba_isNews 82 = .ok (.iload_n 2, 1) := by decide +kernel
theorem D_Ba_isNews_83 : decode b_Ba_isNews 83 = .ok (.iload 6, 2) := by decide +kernel
theorem D_Ba_isNews_85 : decode b_Ba_isNews 85 = .ok (.invokevirtual 136, 3) := by decide +kernel
theorem D_Ba_isNews_88 : decode b_Ba_isNews 88 = .ok (.if_icmp .eq 5, 3) := by decide +kernel
theorem D_Ba_isNews_91 : decode b_Ba_isNews 91 = .ok (.iconst 0, 1) := by decide +kernel
theorem D_Ba_isNews_92 : decode b_Ba_isNews 92 = .ok (.ireturn, 1) := by decide +kernel
theorem D_Ba_isNews_93 : decode b_Ba_isNews 93 = .ok (.iload 5, 2) := by decide +kernel
theorem D_Ba_isNews_95 : decode b_Ba_isNews 95 = .ok (.ifCond .ne 13, 3) := by decide +kernel
theorem D_Ba_isNews_98 : decode b_Ba_isNews 98 = .ok (.iload 7, 2) := by decide +kernel
theorem D_Ba_isNews_100 : decode b_Ba_isNews 100 = .ok (.iload 8, 2) := by decide +kernel
theorem D_Ba_isNews_102 : decode b_Ba_isNews 102 = .ok (.invokestatic 150, 3) := by decide +kernel
theorem D_Ba_isNews_105 : decode b_Ba_isNews 105 = .ok (.ifCond .le 7, 3) := by decide +kernel
theorem D_Ba_isNews_108 : decode b_Ba_isNews 108 = .ok (.iconst 1, 1) := by decide +kernel
theorem D_Ba_isNews_109 : decode b_Ba_isNews 109 = .ok (.goto 4, 3) := by decide +kernel
theorem D_Ba_isNews_112 : decode b_Ba_isNews 112 = .ok (.iconst 0, 1) := by decide +kernel
theorem D_Ba_isNews_113 : decode b_Ba_isNews 113 = .ok (.istore 5, 2) := by decide +kernel
theorem D_Ba_isNews_115 : decode b_Ba_isNews 115 = .ok (.iinc 6 1, 3) := by decide +kernel
theorem D_Ba_isNews_118 : decode b_Ba_isNews 118 = .ok (.goto (-112), 3) := by decide +kernel
theorem D_Ba_isNews_121 : decode b_Ba_isNews 121 = .ok (.iload 5, 2) := by decide +kernel
theorem D_Ba_isNews_123 : decode b_Ba_isNews 123 = .ok (.ireturn, 1) := by decide +kernel
abbrev rm_Ba_isNews : Room := { frames := 1, cells := 0, slots := 0, locals := 23 }
def B_Ba_isNews_113 (k6 : Nat → Int32 → Int32 → Int32 → Int32 → Int32 → Int32 → Mem → Prop) (post : Int32 → Mem → Prop) (a0 : Nat) (x1 : Int32) (x2 : Int32) (x3 : Int32) (x4 : Int32) (x6 : Int32) (s0 : Int32) (M : Mem) : Prop := (k6 a0 x1 x2 x3 x4 s0 (x6 + 1) M)
set_option maxRecDepth 20000 in
theorem Z_Ba_isNews_113 {x : Ctx} {post : Int32 → Mem → Prop} (C : Ok x b_Ba_isNews 9 "HeapTower$Base") (hR : xR x = rm_Ba_isNews) (Rt : RetI x .boolean post 0 0) {k6 : Nat → Int32 → Int32 → Int32 → Int32 → Int32 → Int32 → Mem → Prop} (K6 : ∀ (a0 : Nat) (x1 : Int32) (x2 : Int32) (x3 : Int32) (x4 : Int32) (x5 : Int32) (x6 : Int32) (M : Mem), k6 a0 x1 x2 x3 x4 x5 x6 M → J x 9 6 [(0, .ref (xB x + a0)), (1, .int x1), (2, .int x2), (3, .int x3), (4, .int x4), (5, .int x5), (6, .int x6)] [] 0 0 M) (a0 : Nat) (x1 : Int32) (x2 : Int32) (x3 : Int32) (x4 : Int32) (x6 : Int32) (s0 : Int32) (M : Mem) (h : B_Ba_isNews_113 k6 post a0 x1 x2 x3 x4 x6 s0 M) : J x 9 113 [(0, .ref (xB x + a0)), (1, .int x1), (2, .int x2), (3, .int x3), (4, .int x4), (6, .int x6)] [.int s0] 0 0 M := by
  unfold B_Ba_isNews_113 at h
  refine J_istore (lv' := [(5, .int s0), (0, .ref (xB x + a0)), (1, .int x1), (2, .int x2), (3, .int x3), (4, .int x4), (6, .int x6)]) C 5 D_Ba_isNews_113 (by decide) rfl ?_
  refine J_iinc (v := x6 + 1) (lv' := [(6, .int (x6 + 1)), (5, .int s0), (0, .ref (xB x + a0)), (1, .int x1), (2, .int x2), (3, .int x3), (4, .int x4)]) C 6 6 D_Ba_isNews_115 rfl rfl (by decide) rfl ?_
  refine J_goto (tgt := 6) C D_Ba_isNews_118 (by decide) ?_
  exact J_sub [2, 3, 4, 5, 6, 1, 0] rfl (K6 _ _ _ _ _ _ _ _ h)
def B_Ba_isNews_108 (k6 : Nat → Int32 → Int32 → Int32 → Int32 → Int32 → Int32 → Mem → Prop) (post : Int32 → Mem → Prop) (a0 : Nat) (x1 : Int32) (x2 : Int32) (x3 : Int32) (x4 : Int32) (x6 : Int32) (M : Mem) : Prop := (B_Ba_isNews_113 k6 post a0 x1 x2 x3 x4 x6 1 M)
set_option maxRecDepth 20000 in
theorem Z_Ba_isNews_108 {x : Ctx} {post : Int32 → Mem → Prop} (C : Ok x b_Ba_isNews 9 "HeapTower$Base") (hR : xR x = rm_Ba_isNews) (Rt : RetI x .boolean post 0 0) {k6 : Nat → Int32 → Int32 → Int32 → Int32 → Int32 → Int32 → Mem → Prop} (K6 : ∀ (a0 : Nat) (x1 : Int32) (x2 : Int32) (x3 : Int32) (x4 : Int32) (x5 : Int32) (x6 : Int32) (M : Mem), k6 a0 x1 x2 x3 x4 x5 x6 M → J x 9 6 [(0, .ref (xB x + a0)), (1, .int x1), (2, .int x2), (3, .int x3), (4, .int x4), (5, .int x5), (6, .int x6)] [] 0 0 M) (a0 : Nat) (x1 : Int32) (x2 : Int32) (x3 : Int32) (x4 : Int32) (x6 : Int32) (M : Mem) (h : B_Ba_isNews_108 k6 post a0 x1 x2 x3 x4 x6 M) : J x 9 108 [(0, .ref (xB x + a0)), (1, .int x1), (2, .int x2), (3, .int x3), (4, .int x4), (6, .int x6)] [] 0 0 M := by
  unfold B_Ba_isNews_108 at h
  refine J_iconst (v := 1) C D_Ba_isNews_108 rfl ?_
  refine J_goto (tgt := 113) C D_Ba_isNews_109 (by decide) ?_
  exact J_sub [0, 1, 2, 3, 4, 5] rfl (Z_Ba_isNews_113 C hR Rt K6 _ _ _ _ _ _ _ _ h)
def B_Ba_isNews_6 (k6 : Nat → Int32 → Int32 → Int32 → Int32 → Int32 → Int32 → Mem → Prop) (post : Int32 → Mem → Prop) (a0 : Nat) (x1 : Int32) (x2 : Int32) (x3 : Int32) (x4 : Int32) (x5 : Int32) (x6 : Int32) (M : Mem) : Prop := ((3 ≤ x6 → (narrow .boolean (.int x5) = .int x5 ∧ post x5 M)) ∧ (¬ 3 ≤ x6 → (isK M a0 0 ∧ ∃ q13, gR M a0 0 = some q13 ∧ isK M a0 0 ∧ ∃ q17, gR M a0 7 = some q17 ∧ isA M q17 8 x3 ∧ isK M a0 0 ∧ ∃ q23, gR M a0 4 = some q23 ∧ isK M a0 0 ∧ ∃ q27, gR M a0 6 = some q27 ∧ isA M q27 8 x3 ∧ isA M q23 8 (gI M q27 (Int32.toNatClampNeg x3)) ∧ isK M q13 4 ∧ T_Pr_power q13 (gI M q17 (Int32.toNatClampNeg x3)) (gI M q23 (Int32.toNatClampNeg (gI M q27 (Int32.toNatClampNeg x3)))) x6 M (fun r35 M35 => isK M35 a0 0 ∧ ∃ q41, gR M35 a0 0 = some q41 ∧ isK M35 a0 0 ∧ ∃ q45, gR M35 a0 7 = some q45 ∧ isA M35 q45 8 x4 ∧ isK M35 a0 0 ∧ ∃ q52, gR M35 a0 4 = some q52 ∧ isK M35 a0 0 ∧ ∃ q56, gR M35 a0 6 = some q56 ∧ isA M35 q56 8 x4 ∧ isA M35 q52 8 (gI M35 q56 (Int32.toNatClampNeg x4)) ∧ isK M35 q41 4 ∧ T_Pr_power q41 (gI M35 q45 (Int32.toNatClampNeg x4)) (gI M35 q52 (Int32.toNatClampNeg (gI M35 q56 (Int32.toNatClampNeg x4)))) x6 M35 (fun r65 M65 => T_Ma_max r35 r65 M65 (fun r74 M74 => isK M74 a0 0 ∧ ∃ q78, gR M74 a0 0 = some q78 ∧ isK M74 q78 4 ∧ T_Pr_power q78 x1 x2 x6 M74 (fun r85 M85 => (r74 = r85 → ((¬ x5 = 0 → (B_Ba_isNews_108 k6 post a0 x1 x2 x3 x4 x6 M85)) ∧ (x5 = 0 → (T_Ma_min r35 r65 M85 (fun r102 M102 => (r102 ≤ 0 → (B_Ba_isNews_113 k6 post a0 x1 x2 x3 x4 x6 0 M102)) ∧ (¬ r102 ≤ 0 → (B_Ba_isNews_108 k6 post a0 x1 x2 x3 x4 x6 M102))))))) ∧ (¬ r74 = r85 → (narrow .boolean (.int 0) = .int 0 ∧ post 0 M85)))))))))
set_option maxRecDepth 20000 in
theorem Z_Ba_isNews_6 {x : Ctx} {post : Int32 → Mem → Prop} (C : Ok x b_Ba_isNews 9 "HeapTower$Base") (hR : xR x = rm_Ba_isNews) (Rt : RetI x .boolean post 0 0) {k6 : Nat → Int32 → Int32 → Int32 → Int32 → Int32 → Int32 → Mem → Prop} (K6 : ∀ (a0 : Nat) (x1 : Int32) (x2 : Int32) (x3 : Int32) (x4 : Int32) (x5 : Int32) (x6 : Int32) (M : Mem), k6 a0 x1 x2 x3 x4 x5 x6 M → J x 9 6 [(0, .ref (xB x + a0)), (1, .int x1), (2, .int x2), (3, .int x3), (4, .int x4), (5, .int x5), (6, .int x6)] [] 0 0 M) (a0 : Nat) (x1 : Int32) (x2 : Int32) (x3 : Int32) (x4 : Int32) (x5 : Int32) (x6 : Int32) (M : Mem) (h : B_Ba_isNews_6 k6 post a0 x1 x2 x3 x4 x5 x6 M) : J x 9 6 [(0, .ref (xB x + a0)), (1, .int x1), (2, .int x2), (3, .int x3), (4, .int x4), (5, .int x5), (6, .int x6)] [] 0 0 M := by
  unfold B_Ba_isNews_6 at h
  refine J_iload C 6 D_Ba_isNews_6 rfl ?_
  refine J_iconst (v := 3) C D_Ba_isNews_8 rfl ?_
  refine J_icmp_ge (tgt := 121) C D_Ba_isNews_9 (by decide) (fun c_9 => ?_) (fun c_9 => ?_)
  · have h := h.1 c_9
    refine J_iload C 5 D_Ba_isNews_121 rfl ?_
    obtain ⟨c_123, h⟩ := h
    exact J_iret C Rt D_Ba_isNews_123 c_123 h
  · have h := h.2 c_9
    refine J_aload_n C 0 D_Ba_isNews_12 rfl rfl ?_
    obtain ⟨c_13, q13, e_13, h⟩ := h
    refine J_getR C fl_Ba_40 D_Ba_isNews_13 c_13 e_13 ?_
    refine J_aload_n C 0 D_Ba_isNews_16 rfl rfl ?_
    obtain ⟨c_17, q17, e_17, h⟩ := h
    refine J_getR C fl_Ba_21 D_Ba_isNews_17 c_17 e_17 ?_
    refine J_iload_n C 3 D_Ba_isNews_20 rfl rfl ?_
    obtain ⟨c_21, h⟩ := h
    refine J_iald C D_Ba_isNews_21 c_21 ?_
    refine J_aload_n C 0 D_Ba_isNews_22 rfl rfl ?_
    obtain ⟨c_23, q23, e_23, h⟩ := h
    refine J_getR C fl_Ba_11 D_Ba_isNews_23 c_23 e_23 ?_
    refine J_aload_n C 0 D_Ba_isNews_26 rfl rfl ?_
    obtain ⟨c_27, q27, e_27, h⟩ := h
    refine J_getR C fl_Ba_18 D_Ba_isNews_27 c_27 e_27 ?_
    refine J_iload_n C 3 D_Ba_isNews_30 rfl rfl ?_
    obtain ⟨c_31, h⟩ := h
    refine J_iald C D_Ba_isNews_31 c_31 ?_
    obtain ⟨c_32, h⟩ := h
    refine J_iald C D_Ba_isNews_32 c_32 ?_
    refine J_iload C 6 D_Ba_isNews_33 rfl ?_
    obtain ⟨c_35, h⟩ := h
    refine J_callVi C ml_Ba_136 (S_Pr_power _ _ _ _ _ _ h) (by rw [hR]; decide) rfl c_35 rfl (Nat.le_of_ble_eq_true rfl) D_Ba_isNews_35 (fun r35 M35 h => ?_)
    refine J_istore (lv' := [(7, .int r35), (0, .ref (xB x + a0)), (1, .int x1), (2, .int x2), (3, .int x3), (4, .int x4), (5, .int x5), (6, .int x6)]) C 7 D_Ba_isNews_38 (by decide) rfl ?_
    refine J_aload_n C 0 D_Ba_isNews_40 rfl rfl ?_
    obtain ⟨c_41, q41, e_41, h⟩ := h
    refine J_getR C fl_Ba_40 D_Ba_isNews_41 c_41 e_41 ?_
    refine J_aload_n C 0 D_Ba_isNews_44 rfl rfl ?_
    obtain ⟨c_45, q45, e_45, h⟩ := h
    refine J_getR C fl_Ba_21 D_Ba_isNews_45 c_45 e_45 ?_
    refine J_iload C 4 D_Ba_isNews_48 rfl ?_
    obtain ⟨c_50, h⟩ := h
    refine J_iald C D_Ba_isNews_50 c_50 ?_
    refine J_aload_n C 0 D_Ba_isNews_51 rfl rfl ?_
    obtain ⟨c_52, q52, e_52, h⟩ := h
    refine J_getR C fl_Ba_11 D_Ba_isNews_52 c_52 e_52 ?_
    refine J_aload_n C 0 D_Ba_isNews_55 rfl rfl ?_
    obtain ⟨c_56, q56, e_56, h⟩ := h
    refine J_getR C fl_Ba_18 D_Ba_isNews_56 c_56 e_56 ?_
    refine J_iload C 4 D_Ba_isNews_59 rfl ?_
    obtain ⟨c_61, h⟩ := h
    refine J_iald C D_Ba_isNews_61 c_61 ?_
    obtain ⟨c_62, h⟩ := h
    refine J_iald C D_Ba_isNews_62 c_62 ?_
    refine J_iload C 6 D_Ba_isNews_63 rfl ?_
    obtain ⟨c_65, h⟩ := h
    refine J_callVi C ml_Ba_136 (S_Pr_power _ _ _ _ _ _ h) (by rw [hR]; decide) rfl c_65 rfl (Nat.le_of_ble_eq_true rfl) D_Ba_isNews_65 (fun r65 M65 h => ?_)
    refine J_istore (lv' := [(8, .int r65), (7, .int r35), (0, .ref (xB x + a0)), (1, .int x1), (2, .int x2), (3, .int x3), (4, .int x4), (5, .int x5), (6, .int x6)]) C 8 D_Ba_isNews_68 (by decide) rfl ?_
    refine J_iload C 7 D_Ba_isNews_70 rfl ?_
    refine J_iload C 8 D_Ba_isNews_72 rfl ?_
    refine J_callSi C ml_Ba_55 (S_Ma_max _ _ _ _ h) (by rw [hR]; decide) rfl rfl (Nat.le_of_ble_eq_true rfl) D_Ba_isNews_74 (fun r74 M74 h => ?_)
    refine J_aload_n C 0 D_Ba_isNews_77 rfl rfl ?_
    obtain ⟨c_78, q78, e_78, h⟩ := h
    refine J_getR C fl_Ba_40 D_Ba_isNews_78 c_78 e_78 ?_
    refine J_iload_n C 1 D_Ba_isNews_81 rfl rfl ?_
    refine J_iload_n C 2 D_Ba_isNews_82 rfl rfl ?_
    refine J_iload C 6 D_Ba_isNews_83 rfl ?_
    obtain ⟨c_85, h⟩ := h
    refine J_callVi C ml_Ba_136 (S_Pr_power _ _ _ _ _ _ h) (by rw [hR]; decide) rfl c_85 rfl (Nat.le_of_ble_eq_true rfl) D_Ba_isNews_85 (fun r85 M85 h => ?_)
    refine J_icmp_eq (tgt := 93) C D_Ba_isNews_88 (by decide) (fun c_88 => ?_) (fun c_88 => ?_)
    · have h := h.1 c_88
      refine J_iload C 5 D_Ba_isNews_93 rfl ?_
      refine J_if_ne (tgt := 108) C D_Ba_isNews_95 (by decide) (fun c_95 => ?_) (fun c_95 => ?_)
      · have h := h.1 c_95
        exact J_sub [2, 3, 4, 5, 6, 8] rfl (Z_Ba_isNews_108 C hR Rt K6 _ _ _ _ _ _ _ h)
      · have h := h.2 c_95
        refine J_iload C 7 D_Ba_isNews_98 rfl ?_
        refine J_iload C 8 D_Ba_isNews_100 rfl ?_
        refine J_callSi C ml_Ba_150 (S_Ma_min _ _ _ _ h) (by rw [hR]; decide) rfl rfl (Nat.le_of_ble_eq_true rfl) D_Ba_isNews_102 (fun r102 M102 h => ?_)
        refine J_if_le (tgt := 112) C D_Ba_isNews_105 (by decide) (fun c_105 => ?_) (fun c_105 => ?_)
        · have h := h.1 c_105
          refine J_iconst (v := 0) C D_Ba_isNews_112 rfl ?_
          exact J_sub [2, 3, 4, 5, 6, 8] rfl (Z_Ba_isNews_113 C hR Rt K6 _ _ _ _ _ _ _ _ h)
        · have h := h.2 c_105
          exact J_sub [2, 3, 4, 5, 6, 8] rfl (Z_Ba_isNews_108 C hR Rt K6 _ _ _ _ _ _ _ h)
    · have h := h.2 c_88
      refine J_iconst (v := 0) C D_Ba_isNews_91 rfl ?_
      obtain ⟨c_92, h⟩ := h
      exact J_iret C Rt D_Ba_isNews_92 c_92 h
def L_Ba_isNews_6 (post : Int32 → Mem → Prop) : Nat → Nat → Int32 → Int32 → Int32 → Int32 → Int32 → Int32 → Mem → Prop
  | 0, _, _, _, _, _, _, _, _ => False
  | n + 1, a0, x1, x2, x3, x4, x5, x6, M => B_Ba_isNews_6 (L_Ba_isNews_6 post n) post a0 x1 x2 x3 x4 x5 x6 M
theorem Y_Ba_isNews_6 {x : Ctx} {post : Int32 → Mem → Prop} (C : Ok x b_Ba_isNews 9 "HeapTower$Base") (hR : xR x = rm_Ba_isNews) (Rt : RetI x .boolean post 0 0) : ∀ (n : Nat) (a0 : Nat) (x1 : Int32) (x2 : Int32) (x3 : Int32) (x4 : Int32) (x5 : Int32) (x6 : Int32) (M : Mem), L_Ba_isNews_6 post n a0 x1 x2 x3 x4 x5 x6 M → J x 9 6 [(0, .ref (xB x + a0)), (1, .int x1), (2, .int x2), (3, .int x3), (4, .int x4), (5, .int x5), (6, .int x6)] [] 0 0 M := by
  intro n
  induction n with
  | zero => intro a0 x1 x2 x3 x4 x5 x6 M h; exact h.elim
  | succ n ih => intro a0 x1 x2 x3 x4 x5 x6 M h; exact Z_Ba_isNews_6 C hR Rt ih _ _ _ _ _ _ _ _ h
def T_Ba_isNews (a0 : Nat) (x1 : Int32) (x2 : Int32) (x3 : Int32) (x4 : Int32) (M : Mem) (post : Int32 → Mem → Prop) : Prop := (∃ n, L_Ba_isNews_6 post n a0 x1 x2 x3 x4 0 0 M)
set_option maxRecDepth 20000 in
theorem S_Ba_isNews {l : Launch} {D : va_G} {B t : Nat} {ac : Nat → ClassId} (a0 : Nat) (x1 : Int32) (x2 : Int32) (x3 : Int32) (x4 : Int32) (M : Mem) (post : Int32 → Mem → Prop) (h : T_Ba_isNews a0 x1 x2 x3 x4 M post) : Met l y_Ba_isNews w_Ba_isNews rm_Ba_isNews (va_Pc [.ref (B + a0), .int x1, .int x2, .int x3, .int x4] (PRE D B t ac M)) (QI D B ac post) 0 0 (AB B) := by
  refine met_i (by decide +kernel) (Nat.le_of_ble_eq_true rfl) (fun x h1 hR h3 h4 h5 h6 C Rt => ?_)
  subst h3 h4 h5 h6
  unfold T_Ba_isNews at h
  show J x 9 0 [(0, .ref (xB x + a0)), (1, .int x1), (2, .int x2), (3, .int x3), (4, .int x4)] [] 0 0 M
  refine J_iconst (v := 0) C D_Ba_isNews_0 rfl ?_
  refine J_istore (lv' := [(5, .int 0), (0, .ref (xB x + a0)), (1, .int x1), (2, .int x2), (3, .int x3), (4, .int x4)]) C 5 D_Ba_isNews_1 (by decide) rfl ?_
  refine J_iconst (v := 0) C D_Ba_isNews_3 rfl ?_
  refine J_istore (lv' := [(6, .int 0), (5, .int 0), (0, .ref (xB x + a0)), (1, .int x1), (2, .int x2), (3, .int x3), (4, .int x4)]) C 6 D_Ba_isNews_4 (by decide) rfl ?_
  obtain ⟨n, h⟩ := h
  exact J_sub [2, 3, 4, 5, 6, 1, 0] rfl (Y_Ba_isNews_6 C hR Rt  n _ _ _ _ _ _ _ _ h)
theorem D_Ba_addMoved_0 : decode b_Ba_addMoved 0 = .ok (.aload_n 0, 1) := by decide +kernel
theorem D_Ba_addMoved_1 : decode b_Ba_addMoved 1 = .ok (.getfield 44, 3) := by decide +kernel
theorem D_Ba_addMoved_4 : decode b_Ba_addMoved 4 = .ok (.getfield 124, 3) := by decide +kernel
theorem D_Ba_addMoved_7 : decode b_Ba_addMoved 7 = .ok (.istore 5, 2) := by decide +kernel
theorem D_Ba_addMoved_9 : decode b_Ba_addMoved 9 = .ok (.aload_n 0, 1) := by decide +kernel
theorem D_Ba_addMoved_10 : decode b_Ba_addMoved 10 = .ok (.getfield 40, 3) := by decide +kernel
theorem D_Ba_addMoved_13 : decode b_Ba_addMoved 13 = .ok (.getfield 126, 3) := by decide +kernel
theorem D_Ba_addMoved_16 : decode b_Ba_addMoved 16 = .ok (.astore 6, 2) := by decide +kernel
theorem D_Ba_addMoved_18 : decode b_Ba_addMoved 18 = .ok (.aload_n 0, 1) := by decide +kernel
theorem D_Ba_addMoved_19 : decode b_Ba_addMoved 19 = .ok (.getfield 40, 3) := by decide +kernel
theorem D_Ba_addMoved_22 : decode b_Ba_addMoved 22 = .ok (.getfield 129, 3) := by decide +kernel
theorem D_Ba_addMoved_25 : decode b_Ba_addMoved 25 = .ok (.astore 7, 2) := by decide +kernel
theorem D_Ba_addMoved_27 : decode b_Ba_addMoved 27 = .ok (.aload_n 0, 1) := by decide +kernel
theorem D_Ba_addMoved_28 : decode b_Ba_addMoved 28 = .ok (.getfield 11, 3) := by decide +kernel
theorem D_Ba_addMoved_31 : decode b_Ba_addMoved 31 = .ok (.aload_n 0, 1) := by decide +kernel
theorem D_Ba_addMoved_32 : decode b_Ba_addMoved 32 = .ok (.getfield 18, 3) := by decide +kernel
theorem D_Ba_addMoved_35 : decode b_Ba_addMoved 35 = .ok (.iload_n 2, 1) := by decide +kernel
theorem D_Ba_addMoved_36 : decode b_Ba_addMoved 36 = .ok (.iaload, 1) := by decide +kernel
theorem D_Ba_addMoved_37 : decode b_Ba_addMoved 37 = .ok (.iaload, 1) := by decide +kernel
theorem D_Ba_addMoved_38 : decode b_Ba_addMoved 38 = .ok (.istore 8, 2) := by decide +kernel
theorem D_Ba_addMoved_40 : decode b_Ba_addMoved 40 = .ok (.aload 6, 2) := by decide +kernel
theorem D_Ba_addMoved_42 : decode b_Ba_addMoved 42 = .ok (.iload_n 3, 1) := by decide +kernel
theorem D_Ba_addMoved_43 : decode b_Ba_addMoved 43 = .ok (.iaload, 1) := by decide +kernel
theorem D_Ba_addMoved_44 : decode b_Ba_addMoved 44 = .ok (.aload 6, 2) := by decide +kernel
theorem D_Ba_addMoved_46 : decode b_Ba_addMoved 46 = .ok (.iload 8, 2) := by decide +kernel
theorem D_Ba_addMoved_48 : decode b_Ba_addMoved 48 = .ok (.iaload, 1) := by decide +kernel
theorem D_Ba_addMoved_49 : decode b_Ba_addMoved 49 = .ok (.isub, 1) := by decide +kernel
theorem D_Ba_addMoved_50 : decode b_Ba_addMoved 50 = .ok (.istore 9, 2) := by decide +kernel
theorem D_Ba_addMoved_52 : decode b_Ba_addMoved 52 = .ok (.aload 7, 2) := by decide +kernel
theorem D_Ba_addMoved_54 : decode b_Ba_addMoved 54 = .ok (.iload_n 3, 1) := by decide +kernel
theorem D_Ba_addMoved_55 : decode b_Ba_addMoved 55 = .ok (.iaload, 1) := by decide +kernel
theorem D_Ba_addMoved_56 : decode b_Ba_addMoved 56 = .ok (.aload 7, 2) := by decide +kernel
theorem D_Ba_addMoved_58 : decode b_Ba_addMoved 58 = .ok (.iload 8, 2) := by decide +kernel
theorem D_Ba_addMoved_60 : decode b_Ba_addMoved 60 = .ok (.iaload, 1) := by decide +kernel
theorem D_Ba_addMoved_61 : decode b_Ba_addMoved 61 = .ok (.isub, 1) := by decide +kernel
theorem D_Ba_addMoved_62 : decode b_Ba_addMoved 62 = .ok (.istore 10, 2) := by decide +kernel
theorem D_Ba_addMoved_64 : decode b_Ba_addMoved 64 = .ok (.aload_n 0, 1) := by decide +kernel
theorem D_Ba_addMoved_65 : decode b_Ba_addMoved 65 = .ok (.getfield 18, 3) := by decide +kernel
theorem D_Ba_addMoved_68 : decode b_Ba_addMoved 68 = .ok (.iload_n 2, 1) := by decide +kernel
theorem D_Ba_addMoved_69 : decode b_Ba_addMoved 69 = .ok (.iaload, 1) := by decide +kernel
theorem D_Ba_addMoved_70 : decode b_Ba_addMoved 70 = .ok (.istore 11, 2) := by decide +kernel
theorem D_Ba_addMoved_72 : decode b_Ba_addMoved 72 = .ok (.iload 11, 2) := by decide +kernel
theorem D_Ba_addMoved_74 : decode b_Ba_addMoved 74 = .ok (.aload_n 0, 1) := by decide +kernel
theorem D_Ba_addMoved_75 : decode b_Ba_addMoved 75 = .ok (.getfield 18, 3) := by decide +kernel
theorem D_Ba_addMoved_78 : decode b_Ba_addMoved 78 = .ok (.iload_n 2, 1) := by decide +kernel
theorem D_Ba_addMoved_79 : decode b_Ba_addMoved 79 = .ok (.iconst 1, 1) := by decide +kernel
theorem D_Ba_addMoved_80 : decode b_Ba_addMoved 80 = .ok (.iadd, 1) := by decide +kernel
theorem D_Ba_addMoved_81 : decode b_Ba_addMoved 81 = .ok (.iaload, 1) := by decide +kernel
theorem D_Ba_addMoved_82 : decode b_Ba_addMoved 82 = .ok (.if_icmp .ge 78, 3) := by decide +kernel
theorem D_Ba_addMoved_85 : decode b_Ba_addMoved 85 = .ok (.aload 7, 2) := by decide +kernel
theorem D_Ba_addMoved_87 : decode b_Ba_addMoved 87 = .ok (.aload_n 0, 1) := by decide +kernel
theorem D_Ba_addMoved_88 : decode b_Ba_addMoved 88 = .ok (.getfield 11, 3) := by decide +kernel
theorem D_Ba_addMoved_91 : decode b_Ba_addMoved 91 = .ok (.iload 11, 2) := by decide +kernel
theorem D_Ba_addMoved_93 : decode b_Ba_addMoved 93 = .ok (.iaload, 1) := by decide +kernel
theorem D_Ba_addMoved_94 : decode b_Ba_addMoved 94 = .ok (.iaload, 1) := by decide +kernel
theorem D_Ba_addMoved_95 : decode b_Ba_addMoved 95 = .ok (.iload 10, 2) := by decide +kernel
theorem D_Ba_addMoved_97 : decode b_Ba_addMoved 97 = .ok (.iadd, 1) := by decide +kernel
theorem D_Ba_addMoved_98 : decode b_Ba_addMoved 98 = .ok (.istore 12, 2) := by decide +kernel
theorem D_Ba_addMoved_100 : decode b_Ba_addMoved 100 = .ok (.aload 6, 2) := by decide +kernel
theorem D_Ba_addMoved_102 : decode b_Ba_addMoved 102 = .ok (.aload_n 0, 1) := by decide +kernel
theorem D_Ba_addMoved_103 : decode b_Ba_addMoved 103 = .ok (.getfield 11, 3) := by decide +kernel
theorem D_Ba_addMoved_106 : decode b_Ba_addMoved 106 = .ok (.iload 11, 2) := by decide +kernel
theorem D_Ba_addMoved_108 : decode b_Ba_addMoved 108 = .ok (.iaload, 1) := by decide +kernel
theorem D_Ba_addMoved_109 : decode b_Ba_addMoved 109 = .ok (.iaload, 1) := by decide +kernel
theorem D_Ba_addMoved_110 : decode b_Ba_addMoved 110 = .ok (.iload 9, 2) := by decide +kernel
theorem D_Ba_addMoved_112 : decode b_Ba_addMoved 112 = .ok (.iadd, 1) := by decide +kernel
theorem D_Ba_addMoved_113 : decode b_Ba_addMoved 113 = .ok (.iload 12, 2) := by decide +kernel
theorem D_Ba_addMoved_115 : decode b_Ba_addMoved 115 = .ok (.iadd, 1) := by decide +kernel
theorem D_Ba_addMoved_116 : decode b_Ba_addMoved 116 = .ok (.istore 13, 2) := by decide +kernel
theorem D_Ba_addMoved_118 : decode b_Ba_addMoved 118 = .ok (.iload 13, 2) := by decide +kernel
theorem D_Ba_addMoved_120 : decode b_Ba_addMoved 120 = .ok (.iload 13, 2) := by decide +kernel
theorem D_Ba_addMoved_122 : decode b_Ba_addMoved 122 = .ok (.iconst 1, 1) := by decide +kernel
theorem D_Ba_addMoved_123 : decode b_Ba_addMoved 123 = .ok (.iadd, 1) := by decide +kernel
theorem D_Ba_addMoved_124 : decode b_Ba_addMoved 124 = .ok (.imul, 1) := by decide +kernel
theorem D_Ba_addMoved_125 : decode b_Ba_addMoved 125 = .ok (.iconst 2, 1) := by decide +kernel
theorem D_Ba_addMoved_126 : decode b_Ba_addMoved 126 = .ok (.idiv, 1) := by decide +kernel
theorem D_Ba_addMoved_127 : decode b_Ba_addMoved 127 = .ok (.iload 12, 2) := by decide +kernel
theorem D_Ba_addMoved_129 : decode b_Ba_addMoved 129 = .ok (.iadd, 1) := by decide +kernel
theorem D_Ba_addMoved_130 : decode b_Ba_addMoved 130 = .ok (.istore 14, 2) := by decide +kernel
theorem D_Ba_addMoved_132 : decode b_Ba_addMoved 132 = .ok (.aload_n 1, 1) := by decide +kernel
theorem D_Ba_addMoved_133 : decode b_Ba_addMoved 133 = .ok (.iload 14, 2) := by decide +kernel
theorem D_Ba_addMoved_135 : decode b_Ba_addMoved 135 = .ok (.aload_n 1, 1) := by decide +kernel
theorem D_Ba_addMoved_136 : decode b_Ba_addMoved 136 = .ok (.iload 14, 2) := by decide +kernel
theorem D_Ba_addMoved_138 : decode b_Ba_addMoved 138 = .ok (.iaload, 1) := by decide +kernel
theorem D_Ba_addMoved_139 : decode b_Ba_addMoved 139 = .ok (.iload 4, 2) := by decide +kernel
theorem D_Ba_addMoved_141 : decode b_Ba_addMoved 141 = .ok (.aload_n 0, 1) := by decide +kernel
theorem D_Ba_addMoved_142 : decode b_Ba_addMoved 142 = .ok (.getfield 15, 3) := by decide +kernel
theorem D_Ba_addMoved_145 : decode b_Ba_addMoved 145 = .ok (.iload 11, 2) := by decide +kernel
theorem D_Ba_addMoved_147 : decode b_Ba_addMoved 147 = .ok (.iaload, 1) := by decide +kernel
theorem D_Ba_addMoved_148 : decode b_Ba_addMoved 148 = .ok (.imul, 1) := by decide +kernel
theorem D_Ba_addMoved_149 : decode b_Ba_addMoved 149 = .ok (.iadd, 1) := by decide +kernel
theorem D_Ba_addMoved_150 : decode b_Ba_addMoved 150 = .ok (.iload 5, 2) := by decide +kernel
theorem D_Ba_addMoved_152 : decode b_Ba_addMoved 152 = .ok (.irem, 1) := by decide +kernel
theorem D_Ba_addMoved_153 : decode b_Ba_addMoved 153 = .ok (.iastore, 1) := by decide +kernel
theorem D_Ba_addMoved_154 : decode b_Ba_addMoved 154 = .ok (.iinc 11 1, 3) := by decide +kernel
theorem D_Ba_addMoved_157 : decode b_Ba_addMoved 157 = .ok (.goto (-85), 3) := by decide +kernel
theorem D_Ba_addMoved_160 : decode b_Ba_addMoved 160 = .ok (.return_, 1) := by decide +kernel
abbrev rm_Ba_addMoved : Room := { frames := 0, cells := 0, slots := 0, locals := 0 }
def B_Ba_addMoved_72 (k72 : Nat → Nat → Int32 → Int32 → Int32 → Nat → Nat → Int32 → Int32 → Int32 → Mem → Prop) (post : Mem → Prop) (a0 : Nat) (a1 : Nat) (x2 : Int32) (x4 : Int32) (x5 : Int32) (a6 : Nat) (a7 : Nat) (x9 : Int32) (x10 : Int32) (x11 : Int32) (M : Mem) : Prop := (isK M a0 0 ∧ ∃ q75, gR M a0 6 = some q75 ∧ isA M q75 8 (x2 + 1) ∧ ((gI M q75 (Int32.toNatClampNeg (x2 + 1))) ≤ x11 → (post M)) ∧ (¬ (gI M q75 (Int32.toNatClampNeg (x2 + 1))) ≤ x11 → (isK M a0 0 ∧ ∃ q88, gR M a0 4 = some q88 ∧ isA M q88 8 x11 ∧ isA M a7 8 (gI M q88 (Int32.toNatClampNeg x11)) ∧ isK M a0 0 ∧ ∃ q103, gR M a0 4 = some q103 ∧ isA M q103 8 x11 ∧ isA M a6 8 (gI M q103 (Int32.toNatClampNeg x11)) ∧ ¬ (2 : Int32) = 0 ∧ isA M a1 8 ((((((gI M a6 (Int32.toNatClampNeg (gI M q103 (Int32.toNatClampNeg x11)))) + x9) + ((gI M a7 (Int32.toNatClampNeg (gI M q88 (Int32.toNatClampNeg x11)))) + x10)) * ((((gI M a6 (Int32.toNatClampNeg (gI M q103 (Int32.toNatClampNeg x11)))) + x9) + ((gI M a7 (Int32.toNatClampNeg (gI M q88 (Int32.toNatClampNeg x11)))) + x10)) + 1)) / 2) + ((gI M a7 (Int32.toNatClampNeg (gI M q88 (Int32.toNatClampNeg x11)))) + x10)) ∧ isK M a0 0 ∧ ∃ q142, gR M a0 5 = some q142 ∧ isA M q142 8 x11 ∧ ¬ (x5 : Int32) = 0 ∧ isA M a1 8 ((((((gI M a6 (Int32.toNatClampNeg (gI M q103 (Int32.toNatClampNeg x11)))) + x9) + ((gI M a7 (Int32.toNatClampNeg (gI M q88 (Int32.toNatClampNeg x11)))) + x10)) * ((((gI M a6 (Int32.toNatClampNeg (gI M q103 (Int32.toNatClampNeg x11)))) + x9) + ((gI M a7 (Int32.toNatClampNeg (gI M q88 (Int32.toNatClampNeg x11)))) + x10)) + 1)) / 2) + ((gI M a7 (Int32.toNatClampNeg (gI M q88 (Int32.toNatClampNeg x11)))) + x10)) ∧ k72 a0 a1 x2 x4 x5 a6 a7 x9 x10 (x11 + 1) (sI M a1 (Int32.toNatClampNeg ((((((gI M a6 (Int32.toNatClampNeg (gI M q103 (Int32.toNatClampNeg x11)))) + x9) + ((gI M a7 (Int32.toNatClampNeg (gI M q88 (Int32.toNatClampNeg x11)))) + x10)) * ((((gI M a6 (Int32.toNatClampNeg (gI M q103 (Int32.toNatClampNeg x11)))) + x9) + ((gI M a7 (Int32.toNatClampNeg (gI M q88 (Int32.toNatClampNeg x11)))) + x10)) + 1)) / 2) + ((gI M a7 (Int32.toNatClampNeg (gI M q88 (Int32.toNatClampNeg x11)))) + x10))) (((gI M a1 (Int32.toNatClampNeg ((((((gI M a6 (Int32.toNatClampNeg (gI M q103 (Int32.toNatClampNeg x11)))) + x9) + ((gI M a7 (Int32.toNatClampNeg (gI M q88 (Int32.toNatClampNeg x11)))) + x10)) * ((((gI M a6 (Int32.toNatClampNeg (gI M q103 (Int32.toNatClampNeg x11)))) + x9) + ((gI M a7 (Int32.toNatClampNeg (gI M q88 (Int32.toNatClampNeg x11)))) + x10)) + 1)) / 2) + ((gI M a7 (Int32.toNatClampNeg (gI M q88 (Int32.toNatClampNeg x11)))) + x10)))) + (x4 * (gI M q142 (Int32.toNatClampNeg x11)))) - ((gI M a1 (Int32.toNatClampNeg ((((((gI M a6 (Int32.toNatClampNeg (gI M q103 (Int32.toNatClampNeg x11)))) + x9) + ((gI M a7 (Int32.toNatClampNeg (gI M q88 (Int32.toNatClampNeg x11)))) + x10)) * ((((gI M a6 (Int32.toNatClampNeg (gI M q103 (Int32.toNatClampNeg x11)))) + x9) + ((gI M a7 (Int32.toNatClampNeg (gI M q88 (Int32.toNatClampNeg x11)))) + x10)) + 1)) / 2) + ((gI M a7 (Int32.toNatClampNeg (gI M q88 (Int32.toNatClampNeg x11)))) + x10)))) + (x4 * (gI M q142 (Int32.toNatClampNeg x11)))) / x5 * x5)))))
set_option maxRecDepth 20000 in
theorem Z_Ba_addMoved_72 {x : Ctx} {post : Mem → Prop} (C : Ok x b_Ba_addMoved 15 "HeapTower$Base") (hR : xR x = rm_Ba_addMoved) (Rt : RetV x post 0 0) {k72 : Nat → Nat → Int32 → Int32 → Int32 → Nat → Nat → Int32 → Int32 → Int32 → Mem → Prop} (K72 : ∀ (a0 : Nat) (a1 : Nat) (x2 : Int32) (x4 : Int32) (x5 : Int32) (a6 : Nat) (a7 : Nat) (x9 : Int32) (x10 : Int32) (x11 : Int32) (M : Mem), k72 a0 a1 x2 x4 x5 a6 a7 x9 x10 x11 M → J x 15 72 [(0, .ref (xB x + a0)), (1, .ref (xB x + a1)), (2, .int x2), (4, .int x4), (5, .int x5), (6, .ref (xB x + a6)), (7, .ref (xB x + a7)), (9, .int x9), (10, .int x10), (11, .int x11)] [] 0 0 M) (a0 : Nat) (a1 : Nat) (x2 : Int32) (x4 : Int32) (x5 : Int32) (a6 : Nat) (a7 : Nat) (x9 : Int32) (x10 : Int32) (x11 : Int32) (M : Mem) (h : B_Ba_addMoved_72 k72 post a0 a1 x2 x4 x5 a6 a7 x9 x10 x11 M) : J x 15 72 [(0, .ref (xB x + a0)), (1, .ref (xB x + a1)), (2, .int x2), (4, .int x4), (5, .int x5), (6, .ref (xB x + a6)), (7, .ref (xB x + a7)), (9, .int x9), (10, .int x10), (11, .int x11)] [] 0 0 M := by
  unfold B_Ba_addMoved_72 at h
  refine J_iload C 11 D_Ba_addMoved_72 rfl ?_
  refine J_aload_n C 0 D_Ba_addMoved_74 rfl rfl ?_
  obtain ⟨c_75, q75, e_75, h⟩ := h
  refine J_getR C fl_Ba_18 D_Ba_addMoved_75 c_75 e_75 ?_
  refine J_iload_n C 2 D_Ba_addMoved_78 rfl rfl ?_
  refine J_iconst (v := 1) C D_Ba_addMoved_79 rfl ?_
  refine J_iadd C D_Ba_addMoved_80 ?_
  obtain ⟨c_81, h⟩ := h
  refine J_iald C D_Ba_addMoved_81 c_81 ?_
  refine J_icmp_ge (tgt := 160) C D_Ba_addMoved_82 (by decide) (fun c_82 => ?_) (fun c_82 => ?_)
  · have h := h.1 c_82
    exact J_vret C Rt D_Ba_addMoved_160 h
  · have h := h.2 c_82
    refine J_aload C 7 D_Ba_addMoved_85 rfl ?_
    refine J_aload_n C 0 D_Ba_addMoved_87 rfl rfl ?_
    obtain ⟨c_88, q88, e_88, h⟩ := h
    refine J_getR C fl_Ba_11 D_Ba_addMoved_88 c_88 e_88 ?_
    refine J_iload C 11 D_Ba_addMoved_91 rfl ?_
    obtain ⟨c_93, h⟩ := h
    refine J_iald C D_Ba_addMoved_93 c_93 ?_
    obtain ⟨c_94, h⟩ := h
    refine J_iald C D_Ba_addMoved_94 c_94 ?_
    refine J_iload C 10 D_Ba_addMoved_95 rfl ?_
    refine J_iadd C D_Ba_addMoved_97 ?_
    refine J_istore (lv' := [(12, .int ((gI M a7 (Int32.toNatClampNeg (gI M q88 (Int32.toNatClampNeg x11)))) + x10)), (0, .ref (xB x + a0)), (1, .ref (xB x + a1)), (2, .int x2), (4, .int x4), (5, .int x5), (6, .ref (xB x + a6)), (7, .ref (xB x + a7)), (9, .int x9), (10, .int x10), (11, .int x11)]) C 12 D_Ba_addMoved_98 (by decide) rfl ?_
    refine J_aload C 6 D_Ba_addMoved_100 rfl ?_
    refine J_aload_n C 0 D_Ba_addMoved_102 rfl rfl ?_
    obtain ⟨c_103, q103, e_103, h⟩ := h
    refine J_getR C fl_Ba_11 D_Ba_addMoved_103 c_103 e_103 ?_
    refine J_iload C 11 D_Ba_addMoved_106 rfl ?_
    obtain ⟨c_108, h⟩ := h
    refine J_iald C D_Ba_addMoved_108 c_108 ?_
    obtain ⟨c_109, h⟩ := h
    refine J_iald C D_Ba_addMoved_109 c_109 ?_
    refine J_iload C 9 D_Ba_addMoved_110 rfl ?_
    refine J_iadd C D_Ba_addMoved_112 ?_
    refine J_iload C 12 D_Ba_addMoved_113 rfl ?_
    refine J_iadd C D_Ba_addMoved_115 ?_
    refine J_istore (lv' := [(13, .int (((gI M a6 (Int32.toNatClampNeg (gI M q103 (Int32.toNatClampNeg x11)))) + x9) + ((gI M a7 (Int32.toNatClampNeg (gI M q88 (Int32.toNatClampNeg x11)))) + x10))), (12, .int ((gI M a7 (Int32.toNatClampNeg (gI M q88 (Int32.toNatClampNeg x11)))) + x10)), (0, .ref (xB x + a0)), (1, .ref (xB x + a1)), (2, .int x2), (4, .int x4), (5, .int x5), (6, .ref (xB x + a6)), (7, .ref (xB x + a7)), (9, .int x9), (10, .int x10), (11, .int x11)]) C 13 D_Ba_addMoved_116 (by decide) rfl ?_
    refine J_iload C 13 D_Ba_addMoved_118 rfl ?_
    refine J_iload C 13 D_Ba_addMoved_120 rfl ?_
    refine J_iconst (v := 1) C D_Ba_addMoved_122 rfl ?_
    refine J_iadd C D_Ba_addMoved_123 ?_
    refine J_imul C D_Ba_addMoved_124 ?_
    refine J_iconst (v := 2) C D_Ba_addMoved_125 rfl ?_
    obtain ⟨c_126, h⟩ := h
    refine J_idiv C D_Ba_addMoved_126 c_126 ?_
    refine J_iload C 12 D_Ba_addMoved_127 rfl ?_
    refine J_iadd C D_Ba_addMoved_129 ?_
    refine J_istore (lv' := [(14, .int ((((((gI M a6 (Int32.toNatClampNeg (gI M q103 (Int32.toNatClampNeg x11)))) + x9) + ((gI M a7 (Int32.toNatClampNeg (gI M q88 (Int32.toNatClampNeg x11)))) + x10)) * ((((gI M a6 (Int32.toNatClampNeg (gI M q103 (Int32.toNatClampNeg x11)))) + x9) + ((gI M a7 (Int32.toNatClampNeg (gI M q88 (Int32.toNatClampNeg x11)))) + x10)) + 1)) / 2) + ((gI M a7 (Int32.toNatClampNeg (gI M q88 (Int32.toNatClampNeg x11)))) + x10))), (13, .int (((gI M a6 (Int32.toNatClampNeg (gI M q103 (Int32.toNatClampNeg x11)))) + x9) + ((gI M a7 (Int32.toNatClampNeg (gI M q88 (Int32.toNatClampNeg x11)))) + x10))), (12, .int ((gI M a7 (Int32.toNatClampNeg (gI M q88 (Int32.toNatClampNeg x11)))) + x10)), (0, .ref (xB x + a0)), (1, .ref (xB x + a1)), (2, .int x2), (4, .int x4), (5, .int x5), (6, .ref (xB x + a6)), (7, .ref (xB x + a7)), (9, .int x9), (10, .int x10), (11, .int x11)]) C 14 D_Ba_addMoved_130 (by decide) rfl ?_
    refine J_aload_n C 1 D_Ba_addMoved_132 rfl rfl ?_
    refine J_iload C 14 D_Ba_addMoved_133 rfl ?_
    refine J_aload_n C 1 D_Ba_addMoved_135 rfl rfl ?_
    refine J_iload C 14 D_Ba_addMoved_136 rfl ?_
    obtain ⟨c_138, h⟩ := h
    refine J_iald C D_Ba_addMoved_138 c_138 ?_
    refine J_iload C 4 D_Ba_addMoved_139 rfl ?_
    refine J_aload_n C 0 D_Ba_addMoved_141 rfl rfl ?_
    obtain ⟨c_142, q142, e_142, h⟩ := h
    refine J_getR C fl_Ba_15 D_Ba_addMoved_142 c_142 e_142 ?_
    refine J_iload C 11 D_Ba_addMoved_145 rfl ?_
    obtain ⟨c_147, h⟩ := h
    refine J_iald C D_Ba_addMoved_147 c_147 ?_
    refine J_imul C D_Ba_addMoved_148 ?_
    refine J_iadd C D_Ba_addMoved_149 ?_
    refine J_iload C 5 D_Ba_addMoved_150 rfl ?_
    obtain ⟨c_152, h⟩ := h
    refine J_irem C D_Ba_addMoved_152 c_152 ?_
    obtain ⟨c_153, h⟩ := h
    refine J_iast C D_Ba_addMoved_153 c_153 ?_
    refine J_iinc (v := x11 + 1) (lv' := [(11, .int (x11 + 1)), (14, .int ((((((gI M a6 (Int32.toNatClampNeg (gI M q103 (Int32.toNatClampNeg x11)))) + x9) + ((gI M a7 (Int32.toNatClampNeg (gI M q88 (Int32.toNatClampNeg x11)))) + x10)) * ((((gI M a6 (Int32.toNatClampNeg (gI M q103 (Int32.toNatClampNeg x11)))) + x9) + ((gI M a7 (Int32.toNatClampNeg (gI M q88 (Int32.toNatClampNeg x11)))) + x10)) + 1)) / 2) + ((gI M a7 (Int32.toNatClampNeg (gI M q88 (Int32.toNatClampNeg x11)))) + x10))), (13, .int (((gI M a6 (Int32.toNatClampNeg (gI M q103 (Int32.toNatClampNeg x11)))) + x9) + ((gI M a7 (Int32.toNatClampNeg (gI M q88 (Int32.toNatClampNeg x11)))) + x10))), (12, .int ((gI M a7 (Int32.toNatClampNeg (gI M q88 (Int32.toNatClampNeg x11)))) + x10)), (0, .ref (xB x + a0)), (1, .ref (xB x + a1)), (2, .int x2), (4, .int x4), (5, .int x5), (6, .ref (xB x + a6)), (7, .ref (xB x + a7)), (9, .int x9), (10, .int x10)]) C 11 12 D_Ba_addMoved_154 rfl rfl (by decide) rfl ?_
    refine J_goto (tgt := 72) C D_Ba_addMoved_157 (by decide) ?_
    exact J_sub [4, 5, 6, 7, 8, 9, 10, 11, 12, 0] rfl (K72 _ _ _ _ _ _ _ _ _ _ _ h)
def L_Ba_addMoved_72 (post : Mem → Prop) : Nat → Nat → Nat → Int32 → Int32 → Int32 → Nat → Nat → Int32 → Int32 → Int32 → Mem → Prop
  | 0, _, _, _, _, _, _, _, _, _, _, _ => False
  | n + 1, a0, a1, x2, x4, x5, a6, a7, x9, x10, x11, M => B_Ba_addMoved_72 (L_Ba_addMoved_72 post n) post a0 a1 x2 x4 x5 a6 a7 x9 x10 x11 M
theorem Y_Ba_addMoved_72 {x : Ctx} {post : Mem → Prop} (C : Ok x b_Ba_addMoved 15 "HeapTower$Base") (hR : xR x = rm_Ba_addMoved) (Rt : RetV x post 0 0) : ∀ (n : Nat) (a0 : Nat) (a1 : Nat) (x2 : Int32) (x4 : Int32) (x5 : Int32) (a6 : Nat) (a7 : Nat) (x9 : Int32) (x10 : Int32) (x11 : Int32) (M : Mem), L_Ba_addMoved_72 post n a0 a1 x2 x4 x5 a6 a7 x9 x10 x11 M → J x 15 72 [(0, .ref (xB x + a0)), (1, .ref (xB x + a1)), (2, .int x2), (4, .int x4), (5, .int x5), (6, .ref (xB x + a6)), (7, .ref (xB x + a7)), (9, .int x9), (10, .int x10), (11, .int x11)] [] 0 0 M := by
  intro n
  induction n with
  | zero => intro a0 a1 x2 x4 x5 a6 a7 x9 x10 x11 M h; exact h.elim
  | succ n ih => intro a0 a1 x2 x4 x5 a6 a7 x9 x10 x11 M h; exact Z_Ba_addMoved_72 C hR Rt ih _ _ _ _ _ _ _ _ _ _ _ h
def T_Ba_addMoved (a0 : Nat) (a1 : Nat) (x2 : Int32) (x3 : Int32) (x4 : Int32) (M : Mem) (post : Mem → Prop) : Prop := (isK M a0 0 ∧ ∃ q1, gR M a0 1 = some q1 ∧ isK M q1 2 ∧ isK M a0 0 ∧ ∃ q10, gR M a0 0 = some q10 ∧ isK M q10 4 ∧ ∃ q13, gR M q10 0 = some q13 ∧ isK M a0 0 ∧ ∃ q19, gR M a0 0 = some q19 ∧ isK M q19 4 ∧ ∃ q22, gR M q19 1 = some q22 ∧ isK M a0 0 ∧ ∃ q28, gR M a0 4 = some q28 ∧ isK M a0 0 ∧ ∃ q32, gR M a0 6 = some q32 ∧ isA M q32 8 x2 ∧ isA M q28 8 (gI M q32 (Int32.toNatClampNeg x2)) ∧ isA M q13 8 x3 ∧ isA M q13 8 (gI M q28 (Int32.toNatClampNeg (gI M q32 (Int32.toNatClampNeg x2)))) ∧ isA M q22 8 x3 ∧ isA M q22 8 (gI M q28 (Int32.toNatClampNeg (gI M q32 (Int32.toNatClampNeg x2)))) ∧ isK M a0 0 ∧ ∃ q65, gR M a0 6 = some q65 ∧ isA M q65 8 x2 ∧ ∃ n, L_Ba_addMoved_72 post n a0 a1 x2 x4 (gI M q1 1) q13 q22 ((gI M q13 (Int32.toNatClampNeg x3)) - (gI M q13 (Int32.toNatClampNeg (gI M q28 (Int32.toNatClampNeg (gI M q32 (Int32.toNatClampNeg x2))))))) ((gI M q22 (Int32.toNatClampNeg x3)) - (gI M q22 (Int32.toNatClampNeg (gI M q28 (Int32.toNatClampNeg (gI M q32 (Int32.toNatClampNeg x2))))))) (gI M q65 (Int32.toNatClampNeg x2)) M)
set_option maxRecDepth 20000 in
theorem S_Ba_addMoved {l : Launch} {D : va_G} {B t : Nat} {ac : Nat → ClassId} (a0 : Nat) (a1 : Nat) (x2 : Int32) (x3 : Int32) (x4 : Int32) (M : Mem) (post : Mem → Prop) (h : T_Ba_addMoved a0 a1 x2 x3 x4 M post) : Met l y_Ba_addMoved w_Ba_addMoved rm_Ba_addMoved (va_Pc [.ref (B + a0), .ref (B + a1), .int x2, .int x3, .int x4] (PRE D B t ac M)) (QV D B ac post) 0 0 (AB B) := by
  refine met_v (by decide +kernel) (Nat.le_of_ble_eq_true rfl) (fun x h1 hR h3 h4 h5 h6 C Rt Nm => ?_)
  subst h3 h4 h5 h6
  unfold T_Ba_addMoved at h
  show J x 15 0 [(0, .ref (xB x + a0)), (1, .ref (xB x + a1)), (2, .int x2), (3, .int x3), (4, .int x4)] [] 0 0 M
  refine J_aload_n C 0 D_Ba_addMoved_0 rfl rfl ?_
  obtain ⟨c_1, q1, e_1, h⟩ := h
  refine J_getR C fl_Ba_44 D_Ba_addMoved_1 c_1 e_1 ?_
  obtain ⟨c_4, h⟩ := h
  refine J_getIN C fn_Ba_124 D_Ba_addMoved_4 c_4 ?_
  refine J_istore (lv' := [(5, .int (gI M q1 1)), (0, .ref (xB x + a0)), (1, .ref (xB x + a1)), (2, .int x2), (3, .int x3), (4, .int x4)]) C 5 D_Ba_addMoved_7 (by decide) rfl ?_
  refine J_aload_n C 0 D_Ba_addMoved_9 rfl rfl ?_
  obtain ⟨c_10, q10, e_10, h⟩ := h
  refine J_getR C fl_Ba_40 D_Ba_addMoved_10 c_10 e_10 ?_
  obtain ⟨c_13, q13, e_13, h⟩ := h
  refine J_getRN C fn_Ba_126 D_Ba_addMoved_13 c_13 e_13 ?_
  refine J_astore (lv' := [(6, .ref (xB x + q13)), (5, .int (gI M q1 1)), (0, .ref (xB x + a0)), (1, .ref (xB x + a1)), (2, .int x2), (3, .int x3), (4, .int x4)]) C 6 D_Ba_addMoved_16 (by decide) rfl ?_
  refine J_aload_n C 0 D_Ba_addMoved_18 rfl rfl ?_
  obtain ⟨c_19, q19, e_19, h⟩ := h
  refine J_getR C fl_Ba_40 D_Ba_addMoved_19 c_19 e_19 ?_
  obtain ⟨c_22, q22, e_22, h⟩ := h
  refine J_getRN C fn_Ba_129 D_Ba_addMoved_22 c_22 e_22 ?_
  refine J_astore (lv' := [(7, .ref (xB x + q22)), (6, .ref (xB x + q13)), (5, .int (gI M q1 1)), (0, .ref (xB x + a0)), (1, .ref (xB x + a1)), (2, .int x2), (3, .int x3), (4, .int x4)]) C 7 D_Ba_addMoved_25 (by decide) rfl ?_
  refine J_aload_n C 0 D_Ba_addMoved_27 rfl rfl ?_
  obtain ⟨c_28, q28, e_28, h⟩ := h
  refine J_getR C fl_Ba_11 D_Ba_addMoved_28 c_28 e_28 ?_
  refine J_aload_n C 0 D_Ba_addMoved_31 rfl rfl ?_
  obtain ⟨c_32, q32, e_32, h⟩ := h
  refine J_getR C fl_Ba_18 D_Ba_addMoved_32 c_32 e_32 ?_
  refine J_iload_n C 2 D_Ba_addMoved_35 rfl rfl ?_
  obtain ⟨c_36, h⟩ := h
  refine J_iald C D_Ba_addMoved_36 c_36 ?_
  obtain ⟨c_37, h⟩ := h
  refine J_iald C D_Ba_addMoved_37 c_37 ?_
  refine J_istore (lv' := [(8, .int (gI M q28 (Int32.toNatClampNeg (gI M q32 (Int32.toNatClampNeg x2))))), (7, .ref (xB x + q22)), (6, .ref (xB x + q13)), (5, .int (gI M q1 1)), (0, .ref (xB x + a0)), (1, .ref (xB x + a1)), (2, .int x2), (3, .int x3), (4, .int x4)]) C 8 D_Ba_addMoved_38 (by decide) rfl ?_
  refine J_aload C 6 D_Ba_addMoved_40 rfl ?_
  refine J_iload_n C 3 D_Ba_addMoved_42 rfl rfl ?_
  obtain ⟨c_43, h⟩ := h
  refine J_iald C D_Ba_addMoved_43 c_43 ?_
  refine J_aload C 6 D_Ba_addMoved_44 rfl ?_
  refine J_iload C 8 D_Ba_addMoved_46 rfl ?_
  obtain ⟨c_48, h⟩ := h
  refine J_iald C D_Ba_addMoved_48 c_48 ?_
  refine J_isub C D_Ba_addMoved_49 ?_
  refine J_istore (lv' := [(9, .int ((gI M q13 (Int32.toNatClampNeg x3)) - (gI M q13 (Int32.toNatClampNeg (gI M q28 (Int32.toNatClampNeg (gI M q32 (Int32.toNatClampNeg x2)))))))), (8, .int (gI M q28 (Int32.toNatClampNeg (gI M q32 (Int32.toNatClampNeg x2))))), (7, .ref (xB x + q22)), (6, .ref (xB x + q13)), (5, .int (gI M q1 1)), (0, .ref (xB x + a0)), (1, .ref (xB x + a1)), (2, .int x2), (3, .int x3), (4, .int x4)]) C 9 D_Ba_addMoved_50 (by decide) rfl ?_
  refine J_aload C 7 D_Ba_addMoved_52 rfl ?_
  refine J_iload_n C 3 D_Ba_addMoved_54 rfl rfl ?_
  obtain ⟨c_55, h⟩ := h
  refine J_iald C D_Ba_addMoved_55 c_55 ?_
  refine J_aload C 7 D_Ba_addMoved_56 rfl ?_
  refine J_iload C 8 D_Ba_addMoved_58 rfl ?_
  obtain ⟨c_60, h⟩ := h
  refine J_iald C D_Ba_addMoved_60 c_60 ?_
  refine J_isub C D_Ba_addMoved_61 ?_
  refine J_istore (lv' := [(10, .int ((gI M q22 (Int32.toNatClampNeg x3)) - (gI M q22 (Int32.toNatClampNeg (gI M q28 (Int32.toNatClampNeg (gI M q32 (Int32.toNatClampNeg x2)))))))), (9, .int ((gI M q13 (Int32.toNatClampNeg x3)) - (gI M q13 (Int32.toNatClampNeg (gI M q28 (Int32.toNatClampNeg (gI M q32 (Int32.toNatClampNeg x2)))))))), (8, .int (gI M q28 (Int32.toNatClampNeg (gI M q32 (Int32.toNatClampNeg x2))))), (7, .ref (xB x + q22)), (6, .ref (xB x + q13)), (5, .int (gI M q1 1)), (0, .ref (xB x + a0)), (1, .ref (xB x + a1)), (2, .int x2), (3, .int x3), (4, .int x4)]) C 10 D_Ba_addMoved_62 (by decide) rfl ?_
  refine J_aload_n C 0 D_Ba_addMoved_64 rfl rfl ?_
  obtain ⟨c_65, q65, e_65, h⟩ := h
  refine J_getR C fl_Ba_18 D_Ba_addMoved_65 c_65 e_65 ?_
  refine J_iload_n C 2 D_Ba_addMoved_68 rfl rfl ?_
  obtain ⟨c_69, h⟩ := h
  refine J_iald C D_Ba_addMoved_69 c_69 ?_
  refine J_istore (lv' := [(11, .int (gI M q65 (Int32.toNatClampNeg x2))), (10, .int ((gI M q22 (Int32.toNatClampNeg x3)) - (gI M q22 (Int32.toNatClampNeg (gI M q28 (Int32.toNatClampNeg (gI M q32 (Int32.toNatClampNeg x2)))))))), (9, .int ((gI M q13 (Int32.toNatClampNeg x3)) - (gI M q13 (Int32.toNatClampNeg (gI M q28 (Int32.toNatClampNeg (gI M q32 (Int32.toNatClampNeg x2)))))))), (8, .int (gI M q28 (Int32.toNatClampNeg (gI M q32 (Int32.toNatClampNeg x2))))), (7, .ref (xB x + q22)), (6, .ref (xB x + q13)), (5, .int (gI M q1 1)), (0, .ref (xB x + a0)), (1, .ref (xB x + a1)), (2, .int x2), (3, .int x3), (4, .int x4)]) C 11 D_Ba_addMoved_70 (by decide) rfl ?_
  obtain ⟨n, h⟩ := h
  exact J_sub [7, 8, 9, 11, 6, 5, 4, 2, 1, 0] rfl (Y_Ba_addMoved_72 C hR Rt  n _ _ _ _ _ _ _ _ _ _ _ h)
theorem D_Ba_reduce_0 : decode b_Ba_reduce 0 = .ok (.iconst 0, 1) := by decide +kernel
theorem D_Ba_reduce_1 : decode b_Ba_reduce 1 = .ok (.istore_n 3, 1) := by decide +kernel
theorem D_Ba_reduce_2 : decode b_Ba_reduce 2 = .ok (.iload_n 3, 1) := by decide +kernel
theorem D_Ba_reduce_3 : decode b_Ba_reduce 3 = .ok (.aload_n 0, 1) := by decide +kernel
theorem D_Ba_reduce_4 : decode b_Ba_reduce 4 = .ok (.getfield 40, 3) := by decide +kernel
theorem D_Ba_reduce_7 : decode b_Ba_reduce 7 = .ok (.iload_n 1, 1) := by decide +kernel
theorem D_Ba_reduce_8 : decode b_Ba_reduce 8 = .ok (.invokevirtual 64, 3) := by decide +kernel
theorem D_Ba_reduce_11 : decode b_Ba_reduce 11 = .ok (.if_icmp .ge 74, 3) := by decide +kernel
theorem D_Ba_reduce_14 : decode b_Ba_reduce 14 = .ok (.aload_n 0, 1) := by decide +kernel
theorem D_Ba_reduce_15 : decode b_Ba_reduce 15 = .ok (.getfield 40, 3) := by decide +kernel
theorem D_Ba_reduce_18 : decode b_Ba_reduce 18 = .ok (.iload_n 1, 1) := by decide +kernel
theorem D_Ba_reduce_19 : decode b_Ba_reduce 19 = .ok (.iload_n 3, 1) := by decide +kernel
theorem D_Ba_reduce_20 : decode b_Ba_reduce 20 = .ok (.invokevirtual 99, 3) := by decide +kernel
theorem D_Ba_reduce_23 : decode b_Ba_reduce 23 = .ok (.istore 4, 2) := by decide +kernel
theorem D_Ba_reduce_25 : decode b_Ba_reduce 25 = .ok (.aload_n 2, 1) := by decide +kernel
theorem D_Ba_reduce_26 : decode b_Ba_reduce 26 = .ok (.iload 4, 2) := by decide +kernel
theorem D_Ba_reduce_28 : decode b_Ba_reduce 28 = .ok (.iaload, 1) := by decide +kernel
theorem D_Ba_reduce_29 : decode b_Ba_reduce 29 = .ok (.ifCond .ne 7, 3) := by decide +kernel
theorem D_Ba_reduce_32 : decode b_Ba_reduce 32 = .ok (.iconst 0, 1) := by decide +kernel
theorem D_Ba_reduce_33 : decode b_Ba_reduce 33 = .ok (.goto 16, 3) := by decide +kernel
theorem D_Ba_reduce_36 : decode b_Ba_reduce 36 = .ok (.aload_n 0, 1) := by decide +kernel
theorem D_Ba_reduce_37 : decode b_Ba_reduce 37 = .ok (.getfield 24, 3) := by decide +kernel
theorem D_Ba_reduce_40 : decode b_Ba_reduce 40 = .ok (.getstatic 70, 3) := by decide +kernel
theorem D_Ba_reduce_43 : decode b_Ba_reduce 43 = .ok (.iload_n 1, 1) := by decide +kernel
theorem D_Ba_reduce_44 : decode b_Ba_reduce 44 = .ok (.iaload, 1) := by decide +kernel
theorem D_Ba_reduce_45 : decode b_Ba_reduce 45 = .ok (.iload 4, 2) := by decide +kernel
theorem D_Ba_reduce_47 : decode b_Ba_reduce 47 = .ok (.iadd, 1) := by decide +kernel
theorem D_Ba_reduce_48 : decode b_Ba_reduce 48 = .ok (.iaload, 1) := by decide +kernel
theorem D_Ba_reduce_49 : decode b_Ba_reduce 49 = .ok (.istore 5, 2) := by decide +kernel
theorem D_Ba_reduce_51 : decode b_Ba_reduce 51 = .ok (.iload 5, 2) := by decide +kernel
theorem D_Ba_reduce_53 : decode b_Ba_reduce 53 = .ok (.ifCond .le 26, 3) := by decide +kernel
theorem D_Ba_reduce_56 : decode b_Ba_reduce 56 = .ok (.aload_n 0, 1) := by decide +kernel
theorem D_Ba_reduce_57 : decode b_Ba_reduce 57 = .ok (.aload_n 2, 1) := by decide +kernel
theorem D_Ba_reduce_58 : decode b_Ba_reduce 58 = .ok (.iload 5, 2) := by decide +kernel
theorem D_Ba_reduce_60 : decode b_Ba_reduce 60 = .ok (.iconst 1, 1) := by decide +kernel
theorem D_Ba_reduce_61 : decode b_Ba_reduce 61 = .ok (.isub, 1) := by decide +kernel
theorem D_Ba_reduce_62 : decode b_Ba_reduce 62 = .ok (.iload 4, 2) := by decide +kernel
theorem D_Ba_reduce_64 : decode b_Ba_reduce 64 = .ok (.aload_n 0, 1) := by decide +kernel
theorem D_Ba_reduce_65 : decode b_Ba_reduce 65 = .ok (.getfield 44, 3) := by decide +kernel
theorem D_Ba_reduce_68 : decode b_Ba_reduce 68 = .ok (.invokevirtual 114, 3) := by decide +kernel
theorem D_Ba_reduce_71 : decode b_Ba_reduce 71 = .ok (.aload_n 2, 1) := by decide +kernel
theorem D_Ba_reduce_72 : decode b_Ba_reduce 72 = .ok (.iload 4, 2) := by decide +kernel
theorem D_Ba_reduce_74 : decode b_Ba_reduce 74 = .ok (.iaload, 1) := by decide +kernel
theorem D_Ba_reduce_75 : decode b_Ba_reduce 75 = .ok (.isub, 1) := by decide +kernel
theorem D_Ba_reduce_76 : decode b_Ba_reduce 76 = .ok (.invokevirtual 120, 3) := by decide +kernel
theorem D_Ba_reduce_79 : decode b_Ba_reduce 79 = .ok (.iinc 3 1, 3) := by decide +kernel
theorem D_Ba_reduce_82 : decode b_Ba_reduce 82 = .ok (.goto (-80), 3) := by decide +kernel
theorem D_Ba_reduce_85 : decode b_Ba_reduce 85 = .ok (.return_, 1) := by decide +kernel
abbrev rm_Ba_reduce : Room := { frames := 1, cells := 0, slots := 0, locals := 34 }
def B_Ba_reduce_79 (k2 : Nat → Int32 → Nat → Int32 → Mem → Prop) (post : Mem → Prop) (a0 : Nat) (x1 : Int32) (a2 : Nat) (x3 : Int32) (M : Mem) : Prop := (k2 a0 x1 a2 (x3 + 1) M)
set_option maxRecDepth 20000 in
theorem Z_Ba_reduce_79 {x : Ctx} {post : Mem → Prop} (C : Ok x b_Ba_reduce 6 "HeapTower$Base") (hR : xR x = rm_Ba_reduce) (Rt : RetV x post 0 0) {k2 : Nat → Int32 → Nat → Int32 → Mem → Prop} (K2 : ∀ (a0 : Nat) (x1 : Int32) (a2 : Nat) (x3 : Int32) (M : Mem), k2 a0 x1 a2 x3 M → J x 6 2 [(0, .ref (xB x + a0)), (1, .int x1), (2, .ref (xB x + a2)), (3, .int x3)] [] 0 0 M) (a0 : Nat) (x1 : Int32) (a2 : Nat) (x3 : Int32) (M : Mem) (h : B_Ba_reduce_79 k2 post a0 x1 a2 x3 M) : J x 6 79 [(0, .ref (xB x + a0)), (1, .int x1), (2, .ref (xB x + a2)), (3, .int x3)] [] 0 0 M := by
  unfold B_Ba_reduce_79 at h
  refine J_iinc (v := x3 + 1) (lv' := [(3, .int (x3 + 1)), (0, .ref (xB x + a0)), (1, .int x1), (2, .ref (xB x + a2))]) C 3 3 D_Ba_reduce_79 rfl rfl (by decide) rfl ?_
  refine J_goto (tgt := 2) C D_Ba_reduce_82 (by decide) ?_
  exact J_sub [1, 2, 3, 0] rfl (K2 _ _ _ _ _ h)
def B_Ba_reduce_49 (k2 : Nat → Int32 → Nat → Int32 → Mem → Prop) (post : Mem → Prop) (a0 : Nat) (x1 : Int32) (a2 : Nat) (x3 : Int32) (x4 : Int32) (s0 : Int32) (M : Mem) : Prop := ((s0 ≤ 0 → (B_Ba_reduce_79 k2 post a0 x1 a2 x3 M)) ∧ (¬ s0 ≤ 0 → (isK M a0 0 ∧ ∃ q65, gR M a0 1 = some q65 ∧ isK M q65 2 ∧ T_Nu_prime q65 M (fun r68 M68 => isA M68 a2 8 x4 ∧ isK M68 a0 0 ∧ T_Ba_addMoved a0 a2 (s0 - 1) x4 (r68 - (gI M68 a2 (Int32.toNatClampNeg x4))) M68 (fun M76 => B_Ba_reduce_79 k2 post a0 x1 a2 x3 M76)))))
set_option maxRecDepth 20000 in
theorem Z_Ba_reduce_49 {x : Ctx} {post : Mem → Prop} (C : Ok x b_Ba_reduce 6 "HeapTower$Base") (hR : xR x = rm_Ba_reduce) (Rt : RetV x post 0 0) {k2 : Nat → Int32 → Nat → Int32 → Mem → Prop} (K2 : ∀ (a0 : Nat) (x1 : Int32) (a2 : Nat) (x3 : Int32) (M : Mem), k2 a0 x1 a2 x3 M → J x 6 2 [(0, .ref (xB x + a0)), (1, .int x1), (2, .ref (xB x + a2)), (3, .int x3)] [] 0 0 M) (a0 : Nat) (x1 : Int32) (a2 : Nat) (x3 : Int32) (x4 : Int32) (s0 : Int32) (M : Mem) (h : B_Ba_reduce_49 k2 post a0 x1 a2 x3 x4 s0 M) : J x 6 49 [(0, .ref (xB x + a0)), (1, .int x1), (2, .ref (xB x + a2)), (3, .int x3), (4, .int x4)] [.int s0] 0 0 M := by
  unfold B_Ba_reduce_49 at h
  refine J_istore (lv' := [(5, .int s0), (0, .ref (xB x + a0)), (1, .int x1), (2, .ref (xB x + a2)), (3, .int x3), (4, .int x4)]) C 5 D_Ba_reduce_49 (by decide) rfl ?_
  refine J_iload C 5 D_Ba_reduce_51 rfl ?_
  refine J_if_le (tgt := 79) C D_Ba_reduce_53 (by decide) (fun c_53 => ?_) (fun c_53 => ?_)
  · have h := h.1 c_53
    exact J_sub [1, 2, 3, 4] rfl (Z_Ba_reduce_79 C hR Rt K2 _ _ _ _ _ h)
  · have h := h.2 c_53
    refine J_aload_n C 0 D_Ba_reduce_56 rfl rfl ?_
    refine J_aload_n C 2 D_Ba_reduce_57 rfl rfl ?_
    refine J_iload C 5 D_Ba_reduce_58 rfl ?_
    refine J_iconst (v := 1) C D_Ba_reduce_60 rfl ?_
    refine J_isub C D_Ba_reduce_61 ?_
    refine J_iload C 4 D_Ba_reduce_62 rfl ?_
    refine J_aload_n C 0 D_Ba_reduce_64 rfl rfl ?_
    obtain ⟨c_65, q65, e_65, h⟩ := h
    refine J_getR C fl_Ba_44 D_Ba_reduce_65 c_65 e_65 ?_
    obtain ⟨c_68, h⟩ := h
    refine J_callVi C ml_Ba_114 (S_Nu_prime _ _ _ h) (by rw [hR]; decide) rfl c_68 rfl (Nat.le_of_ble_eq_true rfl) D_Ba_reduce_68 (fun r68 M68 h => ?_)
    refine J_aload_n C 2 D_Ba_reduce_71 rfl rfl ?_
    refine J_iload C 4 D_Ba_reduce_72 rfl ?_
    obtain ⟨c_74, h⟩ := h
    refine J_iald C D_Ba_reduce_74 c_74 ?_
    refine J_isub C D_Ba_reduce_75 ?_
    obtain ⟨c_76, h⟩ := h
    refine J_callVv C ml_Ba_120 (S_Ba_addMoved _ _ _ _ _ _ _ h) (by rw [hR]; decide) rfl c_76 rfl (Nat.le_of_ble_eq_true rfl) D_Ba_reduce_76 (fun M76 h => ?_)
    exact J_sub [1, 2, 3, 4] rfl (Z_Ba_reduce_79 C hR Rt K2 _ _ _ _ _ h)
def B_Ba_reduce_2 (k2 : Nat → Int32 → Nat → Int32 → Mem → Prop) (post : Mem → Prop) (a0 : Nat) (x1 : Int32) (a2 : Nat) (x3 : Int32) (M : Mem) : Prop := (isK M a0 0 ∧ ∃ q4, gR M a0 0 = some q4 ∧ isK M q4 4 ∧ T_Pr_amount q4 x1 M (fun r8 M8 => (r8 ≤ x3 → (post M8)) ∧ (¬ r8 ≤ x3 → (isK M8 a0 0 ∧ ∃ q15, gR M8 a0 0 = some q15 ∧ isK M8 q15 4 ∧ T_Pr_at q15 x1 x3 M8 (fun r20 M20 => isA M20 a2 8 r20 ∧ (¬ (gI M20 a2 (Int32.toNatClampNeg r20)) = 0 → (isK M20 a0 0 ∧ ∃ q37, gR M20 a0 8 = some q37 ∧ vp_in x1 12 ∧ isA M20 q37 8 ((fst (Int32.toNatClampNeg x1)) + r20) ∧ B_Ba_reduce_49 k2 post a0 x1 a2 x3 r20 (gI M20 q37 (Int32.toNatClampNeg ((fst (Int32.toNatClampNeg x1)) + r20))) M20)) ∧ ((gI M20 a2 (Int32.toNatClampNeg r20)) = 0 → (B_Ba_reduce_49 k2 post a0 x1 a2 x3 r20 0 M20)))))))
set_option maxRecDepth 20000 in
theorem Z_Ba_reduce_2 {x : Ctx} {post : Mem → Prop} (C : Ok x b_Ba_reduce 6 "HeapTower$Base") (hR : xR x = rm_Ba_reduce) (Rt : RetV x post 0 0) {k2 : Nat → Int32 → Nat → Int32 → Mem → Prop} (K2 : ∀ (a0 : Nat) (x1 : Int32) (a2 : Nat) (x3 : Int32) (M : Mem), k2 a0 x1 a2 x3 M → J x 6 2 [(0, .ref (xB x + a0)), (1, .int x1), (2, .ref (xB x + a2)), (3, .int x3)] [] 0 0 M) (a0 : Nat) (x1 : Int32) (a2 : Nat) (x3 : Int32) (M : Mem) (h : B_Ba_reduce_2 k2 post a0 x1 a2 x3 M) : J x 6 2 [(0, .ref (xB x + a0)), (1, .int x1), (2, .ref (xB x + a2)), (3, .int x3)] [] 0 0 M := by
  unfold B_Ba_reduce_2 at h
  refine J_iload_n C 3 D_Ba_reduce_2 rfl rfl ?_
  refine J_aload_n C 0 D_Ba_reduce_3 rfl rfl ?_
  obtain ⟨c_4, q4, e_4, h⟩ := h
  refine J_getR C fl_Ba_40 D_Ba_reduce_4 c_4 e_4 ?_
  refine J_iload_n C 1 D_Ba_reduce_7 rfl rfl ?_
  obtain ⟨c_8, h⟩ := h
  refine J_callVi C ml_Ba_64 (S_Pr_amount _ _ _ _ h) (by rw [hR]; decide) rfl c_8 rfl (Nat.le_of_ble_eq_true rfl) D_Ba_reduce_8 (fun r8 M8 h => ?_)
  refine J_icmp_ge (tgt := 85) C D_Ba_reduce_11 (by decide) (fun c_11 => ?_) (fun c_11 => ?_)
  · have h := h.1 c_11
    exact J_vret C Rt D_Ba_reduce_85 h
  · have h := h.2 c_11
    refine J_aload_n C 0 D_Ba_reduce_14 rfl rfl ?_
    obtain ⟨c_15, q15, e_15, h⟩ := h
    refine J_getR C fl_Ba_40 D_Ba_reduce_15 c_15 e_15 ?_
    refine J_iload_n C 1 D_Ba_reduce_18 rfl rfl ?_
    refine J_iload_n C 3 D_Ba_reduce_19 rfl rfl ?_
    obtain ⟨c_20, h⟩ := h
    refine J_callVi C ml_Ba_99 (S_Pr_at _ _ _ _ _ h) (by rw [hR]; decide) rfl c_20 rfl (Nat.le_of_ble_eq_true rfl) D_Ba_reduce_20 (fun r20 M20 h => ?_)
    refine J_istore (lv' := [(4, .int r20), (0, .ref (xB x + a0)), (1, .int x1), (2, .ref (xB x + a2)), (3, .int x3)]) C 4 D_Ba_reduce_23 (by decide) rfl ?_
    refine J_aload_n C 2 D_Ba_reduce_25 rfl rfl ?_
    refine J_iload C 4 D_Ba_reduce_26 rfl ?_
    obtain ⟨c_28, h⟩ := h
    refine J_iald C D_Ba_reduce_28 c_28 ?_
    refine J_if_ne (tgt := 36) C D_Ba_reduce_29 (by decide) (fun c_29 => ?_) (fun c_29 => ?_)
    · have h := h.1 c_29
      refine J_aload_n C 0 D_Ba_reduce_36 rfl rfl ?_
      obtain ⟨c_37, q37, e_37, h⟩ := h
      refine J_getR C fl_Ba_24 D_Ba_reduce_37 c_37 e_37 ?_
      refine J_first C (by decide) D_Ba_reduce_40 ?_
      refine J_iload_n C 1 D_Ba_reduce_43 rfl rfl ?_
      obtain ⟨c_44, h⟩ := h
      refine J_fald C D_Ba_reduce_44 c_44 ?_
      refine J_iload C 4 D_Ba_reduce_45 rfl ?_
      refine J_iadd C D_Ba_reduce_47 ?_
      obtain ⟨c_48, h⟩ := h
      refine J_iald C D_Ba_reduce_48 c_48 ?_
      exact J_sub [1, 2, 3, 4, 0] rfl (Z_Ba_reduce_49 C hR Rt K2 _ _ _ _ _ _ _ h)
    · have h := h.2 c_29
      refine J_iconst (v := 0) C D_Ba_reduce_32 rfl ?_
      refine J_goto (tgt := 49) C D_Ba_reduce_33 (by decide) ?_
      exact J_sub [1, 2, 3, 4, 0] rfl (Z_Ba_reduce_49 C hR Rt K2 _ _ _ _ _ _ _ h)
def L_Ba_reduce_2 (post : Mem → Prop) : Nat → Nat → Int32 → Nat → Int32 → Mem → Prop
  | 0, _, _, _, _, _ => False
  | n + 1, a0, x1, a2, x3, M => B_Ba_reduce_2 (L_Ba_reduce_2 post n) post a0 x1 a2 x3 M
theorem Y_Ba_reduce_2 {x : Ctx} {post : Mem → Prop} (C : Ok x b_Ba_reduce 6 "HeapTower$Base") (hR : xR x = rm_Ba_reduce) (Rt : RetV x post 0 0) : ∀ (n : Nat) (a0 : Nat) (x1 : Int32) (a2 : Nat) (x3 : Int32) (M : Mem), L_Ba_reduce_2 post n a0 x1 a2 x3 M → J x 6 2 [(0, .ref (xB x + a0)), (1, .int x1), (2, .ref (xB x + a2)), (3, .int x3)] [] 0 0 M := by
  intro n
  induction n with
  | zero => intro a0 x1 a2 x3 M h; exact h.elim
  | succ n ih => intro a0 x1 a2 x3 M h; exact Z_Ba_reduce_2 C hR Rt ih _ _ _ _ _ h
def T_Ba_reduce (a0 : Nat) (x1 : Int32) (a2 : Nat) (M : Mem) (post : Mem → Prop) : Prop := (∃ n, L_Ba_reduce_2 post n a0 x1 a2 0 M)
set_option maxRecDepth 20000 in
theorem S_Ba_reduce {l : Launch} {D : va_G} {B t : Nat} {ac : Nat → ClassId} (a0 : Nat) (x1 : Int32) (a2 : Nat) (M : Mem) (post : Mem → Prop) (h : T_Ba_reduce a0 x1 a2 M post) : Met l y_Ba_reduce w_Ba_reduce rm_Ba_reduce (va_Pc [.ref (B + a0), .int x1, .ref (B + a2)] (PRE D B t ac M)) (QV D B ac post) 0 0 (AB B) := by
  refine met_v (by decide +kernel) (Nat.le_of_ble_eq_true rfl) (fun x h1 hR h3 h4 h5 h6 C Rt Nm => ?_)
  subst h3 h4 h5 h6
  unfold T_Ba_reduce at h
  show J x 6 0 [(0, .ref (xB x + a0)), (1, .int x1), (2, .ref (xB x + a2))] [] 0 0 M
  refine J_iconst (v := 0) C D_Ba_reduce_0 rfl ?_
  refine J_istore_n (lv' := [(3, .int 0), (0, .ref (xB x + a0)), (1, .int x1), (2, .ref (xB x + a2))]) C 3 D_Ba_reduce_1 rfl (by decide) rfl ?_
  obtain ⟨n, h⟩ := h
  exact J_sub [1, 2, 3, 0] rfl (Y_Ba_reduce_2 C hR Rt  n _ _ _ _ _ h)
theorem D_Ba_offerMoved_0 : decode b_Ba_offerMoved 0 = .ok (.aload_n 0, 1) := by decide +kernel
theorem D_Ba_offerMoved_1 : decode b_Ba_offerMoved 1 = .ok (.getfield 52, 3) := by decide +kernel
theorem D_Ba_offerMoved_4 : decode b_Ba_offerMoved 4 = .ok (.iconst 0, 1) := by decide +kernel
theorem D_Ba_offerMoved_5 : decode b_Ba_offerMoved 5 = .ok (.invokestatic 73, 3) := by decide +kernel
theorem D_Ba_offerMoved_8 : decode b_Ba_offerMoved 8 = .ok (.aload_n 0, 1) := by decide +kernel
theorem D_Ba_offerMoved_9 : decode b_Ba_offerMoved 9 = .ok (.aload_n 0, 1) := by decide +kernel
theorem D_Ba_offerMoved_10 : decode b_Ba_offerMoved 10 = .ok (.getfield 52, 3) := by decide +kernel
theorem D_Ba_offerMoved_13 : decode b_Ba_offerMoved 13 = .ok (.iload_n 3, 1) := by decide +kernel
theorem D_Ba_offerMoved_14 : decode b_Ba_offerMoved 14 = .ok (.iload_n 2, 1) := by decide +kernel
theorem D_Ba_offerMoved_15 : decode b_Ba_offerMoved 15 = .ok (.iconst 1, 1) := by decide +kernel
theorem D_Ba_offerMoved_16 : decode b_Ba_offerMoved 16 = .ok (.invokevirtual 120, 3) := by decide +kernel
theorem D_Ba_offerMoved_19 : decode b_Ba_offerMoved 19 = .ok (.aload_n 0, 1) := by decide +kernel
theorem D_Ba_offerMoved_20 : decode b_Ba_offerMoved 20 = .ok (.iload_n 1, 1) := by decide +kernel
theorem D_Ba_offerMoved_21 : decode b_Ba_offerMoved 21 = .ok (.aload_n 0, 1) := by decide +kernel
theorem D_Ba_offerMoved_22 : decode b_Ba_offerMoved 22 = .ok (.getfield 52, 3) := by decide +kernel
theorem D_Ba_offerMoved_25 : decode b_Ba_offerMoved 25 = .ok (.invokevirtual 91, 3) := by decide +kernel
theorem D_Ba_offerMoved_28 : decode b_Ba_offerMoved 28 = .ok (.aload_n 0, 1) := by decide +kernel
theorem D_Ba_offerMoved_29 : decode b_Ba_offerMoved 29 = .ok (.getfield 48, 3) := by decide +kernel
theorem D_Ba_offerMoved_32 : decode b_Ba_offerMoved 32 = .ok (.aload_n 0, 1) := by decide +kernel
theorem D_Ba_offerMoved_33 : decode b_Ba_offerMoved 33 = .ok (.getfield 52, 3) := by decide +kernel
theorem D_Ba_offerMoved_36 : decode b_Ba_offerMoved 36 = .ok (.invokevirtual 95, 3) := by decide +kernel
theorem D_Ba_offerMoved_39 : decode b_Ba_offerMoved 39 = .ok (.pop, 1) := by decide +kernel
theorem D_Ba_offerMoved_40 : decode b_Ba_offerMoved 40 = .ok (.return_, 1) := by decide +kernel
abbrev rm_Ba_offerMoved : Room := { frames := 2, cells := 0, slots := 0, locals := 59 }
def T_Ba_offerMoved (a0 : Nat) (x1 : Int32) (x2 : Int32) (x3 : Int32) (M : Mem) (post : Mem → Prop) : Prop := (isK M a0 0 ∧ ∃ q1, gR M a0 3 = some q1 ∧ T_Ar_fill2 q1 0 M (fun M5 => isK M5 a0 0 ∧ ∃ q10, gR M5 a0 3 = some q10 ∧ isK M5 a0 0 ∧ T_Ba_addMoved a0 q10 x3 x2 1 M5 (fun M16 => isK M16 a0 0 ∧ ∃ q22, gR M16 a0 3 = some q22 ∧ isK M16 a0 0 ∧ T_Ba_reduce a0 x1 q22 M16 (fun M25 => isK M25 a0 0 ∧ ∃ q29, gR M25 a0 2 = some q29 ∧ isK M25 a0 0 ∧ ∃ q33, gR M25 a0 3 = some q33 ∧ isK M25 q29 5 ∧ T_Ro_add q29 q33 M25 (fun r36 M36 => post M36)))))
set_option maxRecDepth 20000 in
theorem S_Ba_offerMoved {l : Launch} {D : va_G} {B t : Nat} {ac : Nat → ClassId} (a0 : Nat) (x1 : Int32) (x2 : Int32) (x3 : Int32) (M : Mem) (post : Mem → Prop) (h : T_Ba_offerMoved a0 x1 x2 x3 M post) : Met l y_Ba_offerMoved w_Ba_offerMoved rm_Ba_offerMoved (va_Pc [.ref (B + a0), .int x1, .int x2, .int x3] (PRE D B t ac M)) (QV D B ac post) 0 0 (AB B) := by
  refine met_v (by decide +kernel) (Nat.le_of_ble_eq_true rfl) (fun x h1 hR h3 h4 h5 h6 C Rt Nm => ?_)
  subst h3 h4 h5 h6
  unfold T_Ba_offerMoved at h
  show J x 4 0 [(0, .ref (xB x + a0)), (1, .int x1), (2, .int x2), (3, .int x3)] [] 0 0 M
  refine J_aload_n C 0 D_Ba_offerMoved_0 rfl rfl ?_
  obtain ⟨c_1, q1, e_1, h⟩ := h
  refine J_getR C fl_Ba_52 D_Ba_offerMoved_1 c_1 e_1 ?_
  refine J_iconst (v := 0) C D_Ba_offerMoved_4 rfl ?_
  refine J_callSv C ml_Ba_73 (S_Ar_fill2 _ _ _ _ h) (by rw [hR]; decide) rfl rfl (Nat.le_of_ble_eq_true rfl) D_Ba_offerMoved_5 (fun M5 h => ?_)
  refine J_aload_n C 0 D_Ba_offerMoved_8 rfl rfl ?_
  refine J_aload_n C 0 D_Ba_offerMoved_9 rfl rfl ?_
  obtain ⟨c_10, q10, e_10, h⟩ := h
  refine J_getR C fl_Ba_52 D_Ba_offerMoved_10 c_10 e_10 ?_
  refine J_iload_n C 3 D_Ba_offerMoved_13 rfl rfl ?_
  refine J_iload_n C 2 D_Ba_offerMoved_14 rfl rfl ?_
  refine J_iconst (v := 1) C D_Ba_offerMoved_15 rfl ?_
  obtain ⟨c_16, h⟩ := h
  refine J_callVv C ml_Ba_120 (S_Ba_addMoved _ _ _ _ _ _ _ h) (by rw [hR]; decide) rfl c_16 rfl (Nat.le_of_ble_eq_true rfl) D_Ba_offerMoved_16 (fun M16 h => ?_)
  refine J_aload_n C 0 D_Ba_offerMoved_19 rfl rfl ?_
  refine J_iload_n C 1 D_Ba_offerMoved_20 rfl rfl ?_
  refine J_aload_n C 0 D_Ba_offerMoved_21 rfl rfl ?_
  obtain ⟨c_22, q22, e_22, h⟩ := h
  refine J_getR C fl_Ba_52 D_Ba_offerMoved_22 c_22 e_22 ?_
  obtain ⟨c_25, h⟩ := h
  refine J_callVv C ml_Ba_91 (S_Ba_reduce _ _ _ _ _ h) (by rw [hR]; decide) rfl c_25 rfl (Nat.le_of_ble_eq_true rfl) D_Ba_offerMoved_25 (fun M25 h => ?_)
  refine J_aload_n C 0 D_Ba_offerMoved_28 rfl rfl ?_
  obtain ⟨c_29, q29, e_29, h⟩ := h
  refine J_getR C fl_Ba_48 D_Ba_offerMoved_29 c_29 e_29 ?_
  refine J_aload_n C 0 D_Ba_offerMoved_32 rfl rfl ?_
  obtain ⟨c_33, q33, e_33, h⟩ := h
  refine J_getR C fl_Ba_52 D_Ba_offerMoved_33 c_33 e_33 ?_
  obtain ⟨c_36, h⟩ := h
  refine J_callVi C ml_Ba_95 (S_Ro_add _ _ _ _ h) (by rw [hR]; decide) rfl c_36 rfl (Nat.le_of_ble_eq_true rfl) D_Ba_offerMoved_36 (fun r36 M36 h => ?_)
  refine J_pop C D_Ba_offerMoved_39 rfl ?_
  exact J_vret C Rt D_Ba_offerMoved_40 h
theorem D_Ba_offerDifferences_0 : decode b_Ba_offerDifferences 0 = .ok (.iconst 0, 1) := by decide +kernel
theorem D_Ba_offerDifferences_1 : decode b_Ba_offerDifferences 1 = .ok (.istore_n 2, 1) := by decide +kernel
theorem D_Ba_offerDifferences_2 : decode b_Ba_offerDifferences 2 = .ok (.aload_n 0, 1) := by decide +kernel
theorem D_Ba_offerDifferences_3 : decode b_Ba_offerDifferences 3 = .ok (.getfield 61, 3) := by decide +kernel
theorem D_Ba_offerDifferences_6 : decode b_Ba_offerDifferences 6 = .ok (.iconst 1, 1) := by decide +kernel
theorem D_Ba_offerDifferences_7 : decode b_Ba_offerDifferences 7 = .ok (.if_icmp .le 129, 3) := by decide +kernel
theorem D_Ba_offerDifferences_10 : decode b_Ba_offerDifferences 10 = .ok (.iload_n 2, 1) := by decide +kernel
theorem D_Ba_offerDifferences_11 : decode b_Ba_offerDifferences 11 = .ok (.aload_n 0, 1) := by decide +kernel
theorem D_Ba_offerDifferences_12 : decode b_Ba_offerDifferences 12 = .ok (.getfield 40, 3) := by decide +kernel
theorem D_Ba_offerDifferences_15 : decode b_Ba_offerDifferences 15 = .ok (.iload_n 1, 1) := by decide +kernel
theorem D_Ba_offerDifferences_16 : decode b_Ba_offerDifferences 16 = .ok (.invokevirtual 64, 3) := by decide +kernel
theorem D_Ba_offerDifferences_19 : decode b_Ba_offerDifferences 19 = .ok (.if_icmp .ge 117, 3) := by decide +kernel
theorem D_Ba_offerDifferences_22 : decode b_Ba_offerDifferences 22 = .ok (.aload_n 0, 1) := by decide +kernel
theorem D_Ba_offerDifferences_23 : decode b_Ba_offerDifferences 23 = .ok (.getfield 40, 3) := by decide +kernel
theorem D_Ba_offerDifferences_26 : decode b_Ba_offerDifferences 26 = .ok (.iload_n 1, 1) := by decide +kernel
theorem D_Ba_offerDifferences_27 : decode b_Ba_offerDifferences 27 = .ok (.iload_n 2, 1) := by decide +kernel
theorem D_Ba_offerDifferences_28 : decode b_Ba_offerDifferences 28 = .ok (.invokevirtual 99, 3) := by decide +kernel
theorem D_Ba_offerDifferences_31 : decode b_Ba_offerDifferences 31 = .ok (.istore_n 3, 1) := by decide +kernel
theorem D_Ba_offerDifferences_32 : decode b_Ba_offerDifferences 32 = .ok (.aload_n 0, 1) := by decide +kernel
theorem D_Ba_offerDifferences_33 : decode b_Ba_offerDifferences 33 = .ok (.getfield 24, 3) := by decide +kernel
theorem D_Ba_offerDifferences_36 : decode b_Ba_offerDifferences 36 = .ok (.getstatic 70, 3) := by decide +kernel
theorem D_Ba_offerDifferences_39 : decode b_Ba_offerDifferences 39 = .ok (.iload_n 1, 1) := by decide +kernel
theorem D_Ba_offerDifferences_40 : decode b_Ba_offerDifferences 40 = .ok (.iaload, 1) := by decide +kernel
theorem D_Ba_offerDifferences_41 : decode b_Ba_offerDifferences 41 = .ok (.iload_n 3, 1) := by decide +kernel
theorem D_Ba_offerDifferences_42 : decode b_Ba_offerDifferences 42 = .ok (.iadd, 1) := by decide +kernel
theorem D_Ba_offerDifferences_43 : decode b_Ba_offerDifferences 43 = .ok (.iaload, 1) := by decide +kernel
theorem D_Ba_offerDifferences_44 : decode b_Ba_offerDifferences 44 = .ok (.istore 4, 2) := by decide +kernel
theorem D_Ba_offerDifferences_46 : decode b_Ba_offerDifferences 46 = .ok (.iload 4, 2) := by decide +kernel
theorem D_Ba_offerDifferences_48 : decode b_Ba_offerDifferences 48 = .ok (.istore 5, 2) := by decide +kernel
theorem D_Ba_offerDifferences_50 : decode b_Ba_offerDifferences 50 = .ok (.iconst 1, 1) := by decide +kernel
theorem D_Ba_offerDifferences_51 : decode b_Ba_offerDifferences 51 = .ok (.istore 6, 2) := by decide +kernel
theorem D_Ba_offerDifferences_53 : decode b_Ba_offerDifferences 53 = .ok (.iload 6, 2) := by decide +kernel
theorem D_Ba_offerDifferences_55 : decode b_Ba_offerDifferences 55 = .ok (.iconst 3, 1) := by decide +kernel
theorem D_Ba_offerDifferences_56 : decode b_Ba_offerDifferences 56 = .ok (.if_icmp .ge 74, 3) := by decide +kernel
theorem D_Ba_offerDifferences_59 : decode b_Ba_offerDifferences 59 = .ok (.iload 4, 2) := by decide +kernel
theorem D_Ba_offerDifferences_61 : decode b_Ba_offerDifferences 61 = .ok (.ifCond .le 69, 3) := by decide +kernel
theorem D_Ba_offerDifferences_64 : decode b_Ba_offerDifferences 64 = .ok (.aload_n 0, 1) := by decide +kernel
theorem D_Ba_offerDifferences_65 : decode b_Ba_offerDifferences 65 = .ok (.iload_n 1, 1) := by decide +kernel
theorem D_Ba_offerDifferences_66 : decode b_Ba_offerDifferences 66 = .ok (.iload_n 3, 1) := by decide +kernel
theorem D_Ba_offerDifferences_67 : decode b_Ba_offerDifferences 67 = .ok (.iload 6, 2) := by decide +kernel
theorem D_Ba_offerDifferences_69 : decode b_Ba_offerDifferences 69 = .ok (.invokevirtual 132, 3) := by decide +kernel
theorem D_Ba_offerDifferences_72 : decode b_Ba_offerDifferences 72 = .ok (.istore 7, 2) := by decide +kernel
theorem D_Ba_offerDifferences_74 : decode b_Ba_offerDifferences 74 = .ok (.iload 7, 2) := by decide +kernel
theorem D_Ba_offerDifferences_76 : decode b_Ba_offerDifferences 76 = .ok (.ifCond .le 48, 3) := by decide +kernel
theorem D_Ba_offerDifferences_79 : decode b_Ba_offerDifferences 79 = .ok (.iload 7, 2) := by decide +kernel
theorem D_Ba_offerDifferences_81 : decode b_Ba_offerDifferences 81 = .ok (.iload 4, 2) := by decide +kernel
theorem D_Ba_offerDifferences_83 : decode b_Ba_offerDifferences 83 = .ok (.if_icmp .eq 41, 3) := by decide +kernel
theorem D_Ba_offerDifferences_86 : decode b_Ba_offerDifferences 86 = .ok (.iload 7, 2) := by decide +kernel
theorem D_Ba_offerDifferences_88 : decode b_Ba_offerDifferences 88 = .ok (.iload 5, 2) := by decide +kernel
theorem D_Ba_offerDifferences_90 : decode b_Ba_offerDifferences 90 = .ok (.if_icmp .eq 34, 3) := by decide +kernel
theorem D_Ba_offerDifferences_93 : decode b_Ba_offerDifferences 93 = .ok (.aload_n 0, 1) := by decide +kernel
theorem D_Ba_offerDifferences_94 : decode b_Ba_offerDifferences 94 = .ok (.iload_n 1, 1) := by decide +kernel
theorem D_Ba_offerDifferences_95 : decode b_Ba_offerDifferences 95 = .ok (.iload_n 3, 1) := by decide +kernel
theorem D_Ba_offerDifferences_96 : decode b_Ba_offerDifferences 96 = .ok (.iload 4, 2) := by decide +kernel
theorem D_Ba_offerDifferences_98 : decode b_Ba_offerDifferences 98 = .ok (.iconst 1, 1) := by decide +kernel
theorem D_Ba_offerDifferences_99 : decode b_Ba_offerDifferences 99 = .ok (.isub, 1) := by decide +kernel
theorem D_Ba_offerDifferences_100 : decode b_Ba_offerDifferences 100 = .ok (.iload 7, 2) := by decide +kernel
theorem D_Ba_offerDifferences_102 : decode b_Ba_offerDifferences 102 = .ok (.iconst 1, 1) := by decide +kernel
theorem D_Ba_offerDifferences_103 : decode b_Ba_offerDifferences 103 = .ok (.isub, 1) := by decide +kernel
theorem D_Ba_offerDifferences_104 : decode b_Ba_offerDifferences 104 = .ok (.invokevirtual 142, 3) := by decide +kernel
theorem D_Ba_offerDifferences_107 : decode b_Ba_offerDifferences 107 = .ok (.ifCond .eq 17, 3) := by decide +kernel
theorem D_Ba_offerDifferences_110 : decode b_Ba_offerDifferences 110 = .ok (.aload_n 0, 1) := by decide +kernel
theorem D_Ba_offerDifferences_111 : decode b_Ba_offerDifferences 111 = .ok (.iload_n 1, 1) := by decide +kernel
theorem D_Ba_offerDifferences_112 : decode b_Ba_offerDifferences 112 = .ok (.iload_n 3, 1) := by decide +kernel
theorem D_Ba_offerDifferences_113 : decode b_Ba_offerDifferences 113 = .ok (.iload 7, 2) := by decide +kernel
theorem D_Ba_offerDifferences_115 : decode b_Ba_offerDifferences 115 = .ok (.iconst 1, 1) := by decide +kernel
theorem D_Ba_offerDifferences_116 : decode b_Ba_offerDifferences 116 = .ok (.isub, 1) := by decide +kernel
theorem D_Ba_offerDifferences_117 : decode b_Ba_offerDifferences 117 = .ok (.invokevirtual 146, 3) := by decide +kernel
theorem D_Ba_offerDifferences_120 : decode b_Ba_offerDifferences 120 = .ok (.iload 7, 2) := by decide +kernel
theorem D_Ba_offerDifferences_122 : decode b_Ba_offerDifferences 122 = .ok (.istore 5, 2) := by decide +kernel
theorem D_Ba_offerDifferences_124 : decode b_Ba_offerDifferences 124 = .ok (.iinc 6 1, 3) := by decide +kernel
theorem D_Ba_offerDifferences_127 : decode b_Ba_offerDifferences 127 = .ok (.goto (-74), 3) := by decide +kernel
theorem D_Ba_offerDifferences_130 : decode b_Ba_offerDifferences 130 = .ok (.iinc 2 1, 3) := by decide +kernel
theorem D_Ba_offerDifferences_133 : decode b_Ba_offerDifferences 133 = .ok (.goto (-131), 3) := by decide +kernel
theorem D_Ba_offerDifferences_136 : decode b_Ba_offerDifferences 136 = .ok (.return_, 1) := by decide +kernel
abbrev rm_Ba_offerDifferences : Room := { frames := 3, cells := 0, slots := 0, locals := 82 }
def B_Ba_offerDifferences_136 (post : Mem → Prop) (M : Mem) : Prop := (post M)
set_option maxRecDepth 20000 in
theorem Z_Ba_offerDifferences_136 {x : Ctx} {post : Mem → Prop} (C : Ok x b_Ba_offerDifferences 8 "HeapTower$Base") (hR : xR x = rm_Ba_offerDifferences) (Rt : RetV x post 0 0) (M : Mem) (h : B_Ba_offerDifferences_136 post M) : J x 8 136 [] [] 0 0 M := by
  unfold B_Ba_offerDifferences_136 at h
  exact J_vret C Rt D_Ba_offerDifferences_136 h
def B_Ba_offerDifferences_130 (k2 : Nat → Int32 → Int32 → Mem → Prop) (post : Mem → Prop) (a0 : Nat) (x1 : Int32) (x2 : Int32) (M : Mem) : Prop := (k2 a0 x1 (x2 + 1) M)
set_option maxRecDepth 20000 in
theorem Z_Ba_offerDifferences_130 {x : Ctx} {post : Mem → Prop} (C : Ok x b_Ba_offerDifferences 8 "HeapTower$Base") (hR : xR x = rm_Ba_offerDifferences) (Rt : RetV x post 0 0) {k2 : Nat → Int32 → Int32 → Mem → Prop} (K2 : ∀ (a0 : Nat) (x1 : Int32) (x2 : Int32) (M : Mem), k2 a0 x1 x2 M → J x 8 2 [(0, .ref (xB x + a0)), (1, .int x1), (2, .int x2)] [] 0 0 M) (a0 : Nat) (x1 : Int32) (x2 : Int32) (M : Mem) (h : B_Ba_offerDifferences_130 k2 post a0 x1 x2 M) : J x 8 130 [(0, .ref (xB x + a0)), (1, .int x1), (2, .int x2)] [] 0 0 M := by
  unfold B_Ba_offerDifferences_130 at h
  refine J_iinc (v := x2 + 1) (lv' := [(2, .int (x2 + 1)), (0, .ref (xB x + a0)), (1, .int x1)]) C 2 2 D_Ba_offerDifferences_130 rfl rfl (by decide) rfl ?_
  refine J_goto (tgt := 2) C D_Ba_offerDifferences_133 (by decide) ?_
  exact J_sub [1, 2, 0] rfl (K2 _ _ _ _ h)
def B_Ba_offerDifferences_124 (k2 : Nat → Int32 → Int32 → Mem → Prop) (k53 : Nat → Int32 → Int32 → Int32 → Int32 → Int32 → Int32 → Mem → Prop) (post : Mem → Prop) (a0 : Nat) (x1 : Int32) (x2 : Int32) (x3 : Int32) (x4 : Int32) (x5 : Int32) (x6 : Int32) (M : Mem) : Prop := (k53 a0 x1 x2 x3 x4 x5 (x6 + 1) M)
set_option maxRecDepth 20000 in
theorem Z_Ba_offerDifferences_124 {x : Ctx} {post : Mem → Prop} (C : Ok x b_Ba_offerDifferences 8 "HeapTower$Base") (hR : xR x = rm_Ba_offerDifferences) (Rt : RetV x post 0 0) {k2 : Nat → Int32 → Int32 → Mem → Prop} (K2 : ∀ (a0 : Nat) (x1 : Int32) (x2 : Int32) (M : Mem), k2 a0 x1 x2 M → J x 8 2 [(0, .ref (xB x + a0)), (1, .int x1), (2, .int x2)] [] 0 0 M) {k53 : Nat → Int32 → Int32 → Int32 → Int32 → Int32 → Int32 → Mem → Prop} (K53 : ∀ (a0 : Nat) (x1 : Int32) (x2 : Int32) (x3 : Int32) (x4 : Int32) (x5 : Int32) (x6 : Int32) (M : Mem), k53 a0 x1 x2 x3 x4 x5 x6 M → J x 8 53 [(0, .ref (xB x + a0)), (1, .int x1), (2, .int x2), (3, .int x3), (4, .int x4), (5, .int x5), (6, .int x6)] [] 0 0 M) (a0 : Nat) (x1 : Int32) (x2 : Int32) (x3 : Int32) (x4 : Int32) (x5 : Int32) (x6 : Int32) (M : Mem) (h : B_Ba_offerDifferences_124 k2 k53 post a0 x1 x2 x3 x4 x5 x6 M) : J x 8 124 [(0, .ref (xB x + a0)), (1, .int x1), (2, .int x2), (3, .int x3), (4, .int x4), (5, .int x5), (6, .int x6)] [] 0 0 M := by
  unfold B_Ba_offerDifferences_124 at h
  refine J_iinc (v := x6 + 1) (lv' := [(6, .int (x6 + 1)), (0, .ref (xB x + a0)), (1, .int x1), (2, .int x2), (3, .int x3), (4, .int x4), (5, .int x5)]) C 6 6 D_Ba_offerDifferences_124 rfl rfl (by decide) rfl ?_
  refine J_goto (tgt := 53) C D_Ba_offerDifferences_127 (by decide) ?_
  exact J_sub [1, 2, 3, 4, 5, 6, 0] rfl (K53 _ _ _ _ _ _ _ _ h)
def B_Ba_offerDifferences_53 (k2 : Nat → Int32 → Int32 → Mem → Prop) (k53 : Nat → Int32 → Int32 → Int32 → Int32 → Int32 → Int32 → Mem → Prop) (post : Mem → Prop) (a0 : Nat) (x1 : Int32) (x2 : Int32) (x3 : Int32) (x4 : Int32) (x5 : Int32) (x6 : Int32) (M : Mem) : Prop := ((3 ≤ x6 → (B_Ba_offerDifferences_130 k2 post a0 x1 x2 M)) ∧ (¬ 3 ≤ x6 → ((x4 ≤ 0 → (B_Ba_offerDifferences_130 k2 post a0 x1 x2 M)) ∧ (¬ x4 ≤ 0 → (isK M a0 0 ∧ T_Ba_leaderBelow a0 x1 x3 x6 M (fun r69 M69 => (r69 ≤ 0 → (B_Ba_offerDifferences_124 k2 k53 post a0 x1 x2 x3 x4 x5 x6 M69)) ∧ (¬ r69 ≤ 0 → ((r69 = x4 → (B_Ba_offerDifferences_124 k2 k53 post a0 x1 x2 x3 x4 x5 x6 M69)) ∧ (¬ r69 = x4 → ((r69 = x5 → (B_Ba_offerDifferences_124 k2 k53 post a0 x1 x2 x3 x4 x5 x6 M69)) ∧ (¬ r69 = x5 → (isK M69 a0 0 ∧ T_Ba_isNews a0 x1 x3 (x4 - 1) (r69 - 1) M69 (fun r104 M104 => (r104 = 0 → (B_Ba_offerDifferences_124 k2 k53 post a0 x1 x2 x3 x4 x5 x6 M104)) ∧ (¬ r104 = 0 → (isK M104 a0 0 ∧ T_Ba_offerMoved a0 x1 x3 (r69 - 1) M104 (fun M117 => B_Ba_offerDifferences_124 k2 k53 post a0 x1 x2 x3 x4 r69 x6 M117))))))))))))))))
set_option maxRecDepth 20000 in
theorem Z_Ba_offerDifferences_53 {x : Ctx} {post : Mem → Prop} (C : Ok x b_Ba_offerDifferences 8 "HeapTower$Base") (hR : xR x = rm_Ba_offerDifferences) (Rt : RetV x post 0 0) {k2 : Nat → Int32 → Int32 → Mem → Prop} (K2 : ∀ (a0 : Nat) (x1 : Int32) (x2 : Int32) (M : Mem), k2 a0 x1 x2 M → J x 8 2 [(0, .ref (xB x + a0)), (1, .int x1), (2, .int x2)] [] 0 0 M) {k53 : Nat → Int32 → Int32 → Int32 → Int32 → Int32 → Int32 → Mem → Prop} (K53 : ∀ (a0 : Nat) (x1 : Int32) (x2 : Int32) (x3 : Int32) (x4 : Int32) (x5 : Int32) (x6 : Int32) (M : Mem), k53 a0 x1 x2 x3 x4 x5 x6 M → J x 8 53 [(0, .ref (xB x + a0)), (1, .int x1), (2, .int x2), (3, .int x3), (4, .int x4), (5, .int x5), (6, .int x6)] [] 0 0 M) (a0 : Nat) (x1 : Int32) (x2 : Int32) (x3 : Int32) (x4 : Int32) (x5 : Int32) (x6 : Int32) (M : Mem) (h : B_Ba_offerDifferences_53 k2 k53 post a0 x1 x2 x3 x4 x5 x6 M) : J x 8 53 [(0, .ref (xB x + a0)), (1, .int x1), (2, .int x2), (3, .int x3), (4, .int x4), (5, .int x5), (6, .int x6)] [] 0 0 M := by
  unfold B_Ba_offerDifferences_53 at h
  refine J_iload C 6 D_Ba_offerDifferences_53 rfl ?_
  refine J_iconst (v := 3) C D_Ba_offerDifferences_55 rfl ?_
  refine J_icmp_ge (tgt := 130) C D_Ba_offerDifferences_56 (by decide) (fun c_56 => ?_) (fun c_56 => ?_)
  · have h := h.1 c_56
    exact J_sub [0, 1, 2] rfl (Z_Ba_offerDifferences_130 C hR Rt K2 _ _ _ _ h)
  · have h := h.2 c_56
    refine J_iload C 4 D_Ba_offerDifferences_59 rfl ?_
    refine J_if_le (tgt := 130) C D_Ba_offerDifferences_61 (by decide) (fun c_61 => ?_) (fun c_61 => ?_)
    · have h := h.1 c_61
      exact J_sub [0, 1, 2] rfl (Z_Ba_offerDifferences_130 C hR Rt K2 _ _ _ _ h)
    · have h := h.2 c_61
      refine J_aload_n C 0 D_Ba_offerDifferences_64 rfl rfl ?_
      refine J_iload_n C 1 D_Ba_offerDifferences_65 rfl rfl ?_
      refine J_iload_n C 3 D_Ba_offerDifferences_66 rfl rfl ?_
      refine J_iload C 6 D_Ba_offerDifferences_67 rfl ?_
      obtain ⟨c_69, h⟩ := h
      refine J_callVi C ml_Ba_132 (S_Ba_leaderBelow _ _ _ _ _ _ h) (by rw [hR]; decide) rfl c_69 rfl (Nat.le_of_ble_eq_true rfl) D_Ba_offerDifferences_69 (fun r69 M69 h => ?_)
      refine J_istore (lv' := [(7, .int r69), (0, .ref (xB x + a0)), (1, .int x1), (2, .int x2), (3, .int x3), (4, .int x4), (5, .int x5), (6, .int x6)]) C 7 D_Ba_offerDifferences_72 (by decide) rfl ?_
      refine J_iload C 7 D_Ba_offerDifferences_74 rfl ?_
      refine J_if_le (tgt := 124) C D_Ba_offerDifferences_76 (by decide) (fun c_76 => ?_) (fun c_76 => ?_)
      · have h := h.1 c_76
        exact J_sub [1, 2, 3, 4, 5, 6, 7] rfl (Z_Ba_offerDifferences_124 C hR Rt K2 K53 _ _ _ _ _ _ _ _ h)
      · have h := h.2 c_76
        refine J_iload C 7 D_Ba_offerDifferences_79 rfl ?_
        refine J_iload C 4 D_Ba_offerDifferences_81 rfl ?_
        refine J_icmp_eq (tgt := 124) C D_Ba_offerDifferences_83 (by decide) (fun c_83 => ?_) (fun c_83 => ?_)
        · have h := h.1 c_83
          exact J_sub [1, 2, 3, 4, 5, 6, 7] rfl (Z_Ba_offerDifferences_124 C hR Rt K2 K53 _ _ _ _ _ _ _ _ h)
        · have h := h.2 c_83
          refine J_iload C 7 D_Ba_offerDifferences_86 rfl ?_
          refine J_iload C 5 D_Ba_offerDifferences_88 rfl ?_
          refine J_icmp_eq (tgt := 124) C D_Ba_offerDifferences_90 (by decide) (fun c_90 => ?_) (fun c_90 => ?_)
          · have h := h.1 c_90
            exact J_sub [1, 2, 3, 4, 5, 6, 7] rfl (Z_Ba_offerDifferences_124 C hR Rt K2 K53 _ _ _ _ _ _ _ _ h)
          · have h := h.2 c_90
            refine J_aload_n C 0 D_Ba_offerDifferences_93 rfl rfl ?_
            refine J_iload_n C 1 D_Ba_offerDifferences_94 rfl rfl ?_
            refine J_iload_n C 3 D_Ba_offerDifferences_95 rfl rfl ?_
            refine J_iload C 4 D_Ba_offerDifferences_96 rfl ?_
            refine J_iconst (v := 1) C D_Ba_offerDifferences_98 rfl ?_
            refine J_isub C D_Ba_offerDifferences_99 ?_
            refine J_iload C 7 D_Ba_offerDifferences_100 rfl ?_
            refine J_iconst (v := 1) C D_Ba_offerDifferences_102 rfl ?_
            refine J_isub C D_Ba_offerDifferences_103 ?_
            obtain ⟨c_104, h⟩ := h
            refine J_callVi C ml_Ba_142 (S_Ba_isNews _ _ _ _ _ _ _ h) (by rw [hR]; decide) rfl c_104 rfl (Nat.le_of_ble_eq_true rfl) D_Ba_offerDifferences_104 (fun r104 M104 h => ?_)
            refine J_if_eq (tgt := 124) C D_Ba_offerDifferences_107 (by decide) (fun c_107 => ?_) (fun c_107 => ?_)
            · have h := h.1 c_107
              exact J_sub [1, 2, 3, 4, 5, 6, 7] rfl (Z_Ba_offerDifferences_124 C hR Rt K2 K53 _ _ _ _ _ _ _ _ h)
            · have h := h.2 c_107
              refine J_aload_n C 0 D_Ba_offerDifferences_110 rfl rfl ?_
              refine J_iload_n C 1 D_Ba_offerDifferences_111 rfl rfl ?_
              refine J_iload_n C 3 D_Ba_offerDifferences_112 rfl rfl ?_
              refine J_iload C 7 D_Ba_offerDifferences_113 rfl ?_
              refine J_iconst (v := 1) C D_Ba_offerDifferences_115 rfl ?_
              refine J_isub C D_Ba_offerDifferences_116 ?_
              obtain ⟨c_117, h⟩ := h
              refine J_callVv C ml_Ba_146 (S_Ba_offerMoved _ _ _ _ _ _ h) (by rw [hR]; decide) rfl c_117 rfl (Nat.le_of_ble_eq_true rfl) D_Ba_offerDifferences_117 (fun M117 h => ?_)
              refine J_iload C 7 D_Ba_offerDifferences_120 rfl ?_
              refine J_istore (lv' := [(5, .int r69), (7, .int r69), (0, .ref (xB x + a0)), (1, .int x1), (2, .int x2), (3, .int x3), (4, .int x4), (6, .int x6)]) C 5 D_Ba_offerDifferences_122 (by decide) rfl ?_
              exact J_sub [2, 3, 4, 5, 6, 0, 7] rfl (Z_Ba_offerDifferences_124 C hR Rt K2 K53 _ _ _ _ _ _ _ _ h)
def L_Ba_offerDifferences_53 (k2 : Nat → Int32 → Int32 → Mem → Prop) (post : Mem → Prop) : Nat → Nat → Int32 → Int32 → Int32 → Int32 → Int32 → Int32 → Mem → Prop
  | 0, _, _, _, _, _, _, _, _ => False
  | n + 1, a0, x1, x2, x3, x4, x5, x6, M => B_Ba_offerDifferences_53 k2 (L_Ba_offerDifferences_53 k2 post n) post a0 x1 x2 x3 x4 x5 x6 M
theorem Y_Ba_offerDifferences_53 {x : Ctx} {post : Mem → Prop} (C : Ok x b_Ba_offerDifferences 8 "HeapTower$Base") (hR : xR x = rm_Ba_offerDifferences) (Rt : RetV x post 0 0) {k2 : Nat → Int32 → Int32 → Mem → Prop} (K2 : ∀ (a0 : Nat) (x1 : Int32) (x2 : Int32) (M : Mem), k2 a0 x1 x2 M → J x 8 2 [(0, .ref (xB x + a0)), (1, .int x1), (2, .int x2)] [] 0 0 M) : ∀ (n : Nat) (a0 : Nat) (x1 : Int32) (x2 : Int32) (x3 : Int32) (x4 : Int32) (x5 : Int32) (x6 : Int32) (M : Mem), L_Ba_offerDifferences_53 k2 post n a0 x1 x2 x3 x4 x5 x6 M → J x 8 53 [(0, .ref (xB x + a0)), (1, .int x1), (2, .int x2), (3, .int x3), (4, .int x4), (5, .int x5), (6, .int x6)] [] 0 0 M := by
  intro n
  induction n with
  | zero => intro a0 x1 x2 x3 x4 x5 x6 M h; exact h.elim
  | succ n ih => intro a0 x1 x2 x3 x4 x5 x6 M h; exact Z_Ba_offerDifferences_53 C hR Rt K2 ih _ _ _ _ _ _ _ _ h
def B_Ba_offerDifferences_2 (k2 : Nat → Int32 → Int32 → Mem → Prop) (post : Mem → Prop) (a0 : Nat) (x1 : Int32) (x2 : Int32) (M : Mem) : Prop := (isK M a0 0 ∧ ((gI M a0 13) ≤ 1 → (B_Ba_offerDifferences_136 post M)) ∧ (¬ (gI M a0 13) ≤ 1 → (isK M a0 0 ∧ ∃ q12, gR M a0 0 = some q12 ∧ isK M q12 4 ∧ T_Pr_amount q12 x1 M (fun r16 M16 => (r16 ≤ x2 → (B_Ba_offerDifferences_136 post M16)) ∧ (¬ r16 ≤ x2 → (isK M16 a0 0 ∧ ∃ q23, gR M16 a0 0 = some q23 ∧ isK M16 q23 4 ∧ T_Pr_at q23 x1 x2 M16 (fun r28 M28 => isK M28 a0 0 ∧ ∃ q33, gR M28 a0 8 = some q33 ∧ vp_in x1 12 ∧ isA M28 q33 8 ((fst (Int32.toNatClampNeg x1)) + r28) ∧ ∃ n, L_Ba_offerDifferences_53 k2 post n a0 x1 x2 r28 (gI M28 q33 (Int32.toNatClampNeg ((fst (Int32.toNatClampNeg x1)) + r28))) (gI M28 q33 (Int32.toNatClampNeg ((fst (Int32.toNatClampNeg x1)) + r28))) 1 M28)))))))
set_option maxRecDepth 20000 in
theorem Z_Ba_offerDifferences_2 {x : Ctx} {post : Mem → Prop} (C : Ok x b_Ba_offerDifferences 8 "HeapTower$Base") (hR : xR x = rm_Ba_offerDifferences) (Rt : RetV x post 0 0) {k2 : Nat → Int32 → Int32 → Mem → Prop} (K2 : ∀ (a0 : Nat) (x1 : Int32) (x2 : Int32) (M : Mem), k2 a0 x1 x2 M → J x 8 2 [(0, .ref (xB x + a0)), (1, .int x1), (2, .int x2)] [] 0 0 M) (a0 : Nat) (x1 : Int32) (x2 : Int32) (M : Mem) (h : B_Ba_offerDifferences_2 k2 post a0 x1 x2 M) : J x 8 2 [(0, .ref (xB x + a0)), (1, .int x1), (2, .int x2)] [] 0 0 M := by
  unfold B_Ba_offerDifferences_2 at h
  refine J_aload_n C 0 D_Ba_offerDifferences_2 rfl rfl ?_
  obtain ⟨c_3, h⟩ := h
  refine J_getI C fl_Ba_61 D_Ba_offerDifferences_3 c_3 ?_
  refine J_iconst (v := 1) C D_Ba_offerDifferences_6 rfl ?_
  refine J_icmp_le (tgt := 136) C D_Ba_offerDifferences_7 (by decide) (fun c_7 => ?_) (fun c_7 => ?_)
  · have h := h.1 c_7
    exact J_sub [] rfl (Z_Ba_offerDifferences_136 C hR Rt  _ h)
  · have h := h.2 c_7
    refine J_iload_n C 2 D_Ba_offerDifferences_10 rfl rfl ?_
    refine J_aload_n C 0 D_Ba_offerDifferences_11 rfl rfl ?_
    obtain ⟨c_12, q12, e_12, h⟩ := h
    refine J_getR C fl_Ba_40 D_Ba_offerDifferences_12 c_12 e_12 ?_
    refine J_iload_n C 1 D_Ba_offerDifferences_15 rfl rfl ?_
    obtain ⟨c_16, h⟩ := h
    refine J_callVi C ml_Ba_64 (S_Pr_amount _ _ _ _ h) (by rw [hR]; decide) rfl c_16 rfl (Nat.le_of_ble_eq_true rfl) D_Ba_offerDifferences_16 (fun r16 M16 h => ?_)
    refine J_icmp_ge (tgt := 136) C D_Ba_offerDifferences_19 (by decide) (fun c_19 => ?_) (fun c_19 => ?_)
    · have h := h.1 c_19
      exact J_sub [] rfl (Z_Ba_offerDifferences_136 C hR Rt  _ h)
    · have h := h.2 c_19
      refine J_aload_n C 0 D_Ba_offerDifferences_22 rfl rfl ?_
      obtain ⟨c_23, q23, e_23, h⟩ := h
      refine J_getR C fl_Ba_40 D_Ba_offerDifferences_23 c_23 e_23 ?_
      refine J_iload_n C 1 D_Ba_offerDifferences_26 rfl rfl ?_
      refine J_iload_n C 2 D_Ba_offerDifferences_27 rfl rfl ?_
      obtain ⟨c_28, h⟩ := h
      refine J_callVi C ml_Ba_99 (S_Pr_at _ _ _ _ _ h) (by rw [hR]; decide) rfl c_28 rfl (Nat.le_of_ble_eq_true rfl) D_Ba_offerDifferences_28 (fun r28 M28 h => ?_)
      refine J_istore_n (lv' := [(3, .int r28), (0, .ref (xB x + a0)), (1, .int x1), (2, .int x2)]) C 3 D_Ba_offerDifferences_31 rfl (by decide) rfl ?_
      refine J_aload_n C 0 D_Ba_offerDifferences_32 rfl rfl ?_
      obtain ⟨c_33, q33, e_33, h⟩ := h
      refine J_getR C fl_Ba_24 D_Ba_offerDifferences_33 c_33 e_33 ?_
      refine J_first C (by decide) D_Ba_offerDifferences_36 ?_
      refine J_iload_n C 1 D_Ba_offerDifferences_39 rfl rfl ?_
      obtain ⟨c_40, h⟩ := h
      refine J_fald C D_Ba_offerDifferences_40 c_40 ?_
      refine J_iload_n C 3 D_Ba_offerDifferences_41 rfl rfl ?_
      refine J_iadd C D_Ba_offerDifferences_42 ?_
      obtain ⟨c_43, h⟩ := h
      refine J_iald C D_Ba_offerDifferences_43 c_43 ?_
      refine J_istore (lv' := [(4, .int (gI M28 q33 (Int32.toNatClampNeg ((fst (Int32.toNatClampNeg x1)) + r28)))), (3, .int r28), (0, .ref (xB x + a0)), (1, .int x1), (2, .int x2)]) C 4 D_Ba_offerDifferences_44 (by decide) rfl ?_
      refine J_iload C 4 D_Ba_offerDifferences_46 rfl ?_
      refine J_istore (lv' := [(5, .int (gI M28 q33 (Int32.toNatClampNeg ((fst (Int32.toNatClampNeg x1)) + r28)))), (4, .int (gI M28 q33 (Int32.toNatClampNeg ((fst (Int32.toNatClampNeg x1)) + r28)))), (3, .int r28), (0, .ref (xB x + a0)), (1, .int x1), (2, .int x2)]) C 5 D_Ba_offerDifferences_48 (by decide) rfl ?_
      refine J_iconst (v := 1) C D_Ba_offerDifferences_50 rfl ?_
      refine J_istore (lv' := [(6, .int 1), (5, .int (gI M28 q33 (Int32.toNatClampNeg ((fst (Int32.toNatClampNeg x1)) + r28)))), (4, .int (gI M28 q33 (Int32.toNatClampNeg ((fst (Int32.toNatClampNeg x1)) + r28)))), (3, .int r28), (0, .ref (xB x + a0)), (1, .int x1), (2, .int x2)]) C 6 D_Ba_offerDifferences_51 (by decide) rfl ?_
      obtain ⟨n, h⟩ := h
      exact J_sub [4, 5, 6, 3, 2, 1, 0] rfl (Y_Ba_offerDifferences_53 C hR Rt K2 n _ _ _ _ _ _ _ _ h)
def L_Ba_offerDifferences_2 (post : Mem → Prop) : Nat → Nat → Int32 → Int32 → Mem → Prop
  | 0, _, _, _, _ => False
  | n + 1, a0, x1, x2, M => B_Ba_offerDifferences_2 (L_Ba_offerDifferences_2 post n) post a0 x1 x2 M
theorem Y_Ba_offerDifferences_2 {x : Ctx} {post : Mem → Prop} (C : Ok x b_Ba_offerDifferences 8 "HeapTower$Base") (hR : xR x = rm_Ba_offerDifferences) (Rt : RetV x post 0 0) : ∀ (n : Nat) (a0 : Nat) (x1 : Int32) (x2 : Int32) (M : Mem), L_Ba_offerDifferences_2 post n a0 x1 x2 M → J x 8 2 [(0, .ref (xB x + a0)), (1, .int x1), (2, .int x2)] [] 0 0 M := by
  intro n
  induction n with
  | zero => intro a0 x1 x2 M h; exact h.elim
  | succ n ih => intro a0 x1 x2 M h; exact Z_Ba_offerDifferences_2 C hR Rt ih _ _ _ _ h
def T_Ba_offerDifferences (a0 : Nat) (x1 : Int32) (M : Mem) (post : Mem → Prop) : Prop := (∃ n, L_Ba_offerDifferences_2 post n a0 x1 0 M)
set_option maxRecDepth 20000 in
theorem S_Ba_offerDifferences {l : Launch} {D : va_G} {B t : Nat} {ac : Nat → ClassId} (a0 : Nat) (x1 : Int32) (M : Mem) (post : Mem → Prop) (h : T_Ba_offerDifferences a0 x1 M post) : Met l y_Ba_offerDifferences w_Ba_offerDifferences rm_Ba_offerDifferences (va_Pc [.ref (B + a0), .int x1] (PRE D B t ac M)) (QV D B ac post) 0 0 (AB B) := by
  refine met_v (by decide +kernel) (Nat.le_of_ble_eq_true rfl) (fun x h1 hR h3 h4 h5 h6 C Rt Nm => ?_)
  subst h3 h4 h5 h6
  unfold T_Ba_offerDifferences at h
  show J x 8 0 [(0, .ref (xB x + a0)), (1, .int x1)] [] 0 0 M
  refine J_iconst (v := 0) C D_Ba_offerDifferences_0 rfl ?_
  refine J_istore_n (lv' := [(2, .int 0), (0, .ref (xB x + a0)), (1, .int x1)]) C 2 D_Ba_offerDifferences_1 rfl (by decide) rfl ?_
  obtain ⟨n, h⟩ := h
  exact J_sub [1, 2, 0] rfl (Y_Ba_offerDifferences_2 C hR Rt  n _ _ _ _ h)
theorem D_Ba_open_0 : decode b_Ba_open 0 = .ok (.aload_n 0, 1) := by decide +kernel
theorem D_Ba_open_1 : decode b_Ba_open 1 = .ok (.getfield 48, 3) := by decide +kernel
theorem D_Ba_open_4 : decode b_Ba_open 4 = .ok (.iload_n 1, 1) := by decide +kernel
theorem D_Ba_open_5 : decode b_Ba_open 5 = .ok (.invokevirtual 79, 3) := by decide +kernel
theorem D_Ba_open_8 : decode b_Ba_open 8 = .ok (.aload_n 0, 1) := by decide +kernel
theorem D_Ba_open_9 : decode b_Ba_open 9 = .ok (.getfield 33, 3) := by decide +kernel
theorem D_Ba_open_12 : decode b_Ba_open 12 = .ok (.iload_n 1, 1) := by decide +kernel
theorem D_Ba_open_13 : decode b_Ba_open 13 = .ok (.iconst 0, 1) := by decide +kernel
theorem D_Ba_open_14 : decode b_Ba_open 14 = .ok (.iastore, 1) := by decide +kernel
theorem D_Ba_open_15 : decode b_Ba_open 15 = .ok (.aload_n 0, 1) := by decide +kernel
theorem D_Ba_open_16 : decode b_Ba_open 16 = .ok (.iload_n 1, 1) := by decide +kernel
theorem D_Ba_open_17 : decode b_Ba_open 17 = .ok (.invokevirtual 85, 3) := by decide +kernel
theorem D_Ba_open_20 : decode b_Ba_open 20 = .ok (.aload_n 0, 1) := by decide +kernel
theorem D_Ba_open_21 : decode b_Ba_open 21 = .ok (.iload_n 1, 1) := by decide +kernel
theorem D_Ba_open_22 : decode b_Ba_open 22 = .ok (.invokevirtual 88, 3) := by decide +kernel
theorem D_Ba_open_25 : decode b_Ba_open 25 = .ok (.return_, 1) := by decide +kernel
abbrev rm_Ba_open : Room := { frames := 4, cells := 0, slots := 0, locals := 109 }
def T_Ba_open (a0 : Nat) (x1 : Int32) (M : Mem) (post : Mem → Prop) : Prop := (isK M a0 0 ∧ ∃ q1, gR M a0 2 = some q1 ∧ isK M q1 5 ∧ T_Ro_begin q1 x1 M (fun M5 => isK M5 a0 0 ∧ ∃ q9, gR M5 a0 11 = some q9 ∧ isA M5 q9 8 x1 ∧ isK (sI M5 q9 (Int32.toNatClampNeg x1) 0) a0 0 ∧ T_Ba_inherit a0 x1 (sI M5 q9 (Int32.toNatClampNeg x1) 0) (fun M17 => isK M17 a0 0 ∧ T_Ba_offerDifferences a0 x1 M17 (fun M22 => post M22))))
set_option maxRecDepth 20000 in
theorem S_Ba_open {l : Launch} {D : va_G} {B t : Nat} {ac : Nat → ClassId} (a0 : Nat) (x1 : Int32) (M : Mem) (post : Mem → Prop) (h : T_Ba_open a0 x1 M post) : Met l y_Ba_open w_Ba_open rm_Ba_open (va_Pc [.ref (B + a0), .int x1] (PRE D B t ac M)) (QV D B ac post) 0 0 (AB B) := by
  refine met_v (by decide +kernel) (Nat.le_of_ble_eq_true rfl) (fun x h1 hR h3 h4 h5 h6 C Rt Nm => ?_)
  subst h3 h4 h5 h6
  unfold T_Ba_open at h
  show J x 2 0 [(0, .ref (xB x + a0)), (1, .int x1)] [] 0 0 M
  refine J_aload_n C 0 D_Ba_open_0 rfl rfl ?_
  obtain ⟨c_1, q1, e_1, h⟩ := h
  refine J_getR C fl_Ba_48 D_Ba_open_1 c_1 e_1 ?_
  refine J_iload_n C 1 D_Ba_open_4 rfl rfl ?_
  obtain ⟨c_5, h⟩ := h
  refine J_callVv C ml_Ba_79 (S_Ro_begin _ _ _ _ h) (by rw [hR]; decide) rfl c_5 rfl (Nat.le_of_ble_eq_true rfl) D_Ba_open_5 (fun M5 h => ?_)
  refine J_aload_n C 0 D_Ba_open_8 rfl rfl ?_
  obtain ⟨c_9, q9, e_9, h⟩ := h
  refine J_getR C fl_Ba_33 D_Ba_open_9 c_9 e_9 ?_
  refine J_iload_n C 1 D_Ba_open_12 rfl rfl ?_
  refine J_iconst (v := 0) C D_Ba_open_13 rfl ?_
  obtain ⟨c_14, h⟩ := h
  refine J_iast C D_Ba_open_14 c_14 ?_
  refine J_aload_n C 0 D_Ba_open_15 rfl rfl ?_
  refine J_iload_n C 1 D_Ba_open_16 rfl rfl ?_
  obtain ⟨c_17, h⟩ := h
  refine J_callVv C ml_Ba_85 (S_Ba_inherit _ _ _ _ h) (by rw [hR]; decide) rfl c_17 rfl (Nat.le_of_ble_eq_true rfl) D_Ba_open_17 (fun M17 h => ?_)
  refine J_aload_n C 0 D_Ba_open_20 rfl rfl ?_
  refine J_iload_n C 1 D_Ba_open_21 rfl rfl ?_
  obtain ⟨c_22, h⟩ := h
  refine J_callVv C ml_Ba_88 (S_Ba_offerDifferences _ _ _ _ h) (by rw [hR]; decide) rfl c_22 rfl (Nat.le_of_ble_eq_true rfl) D_Ba_open_22 (fun M22 h => ?_)
  exact J_vret C Rt D_Ba_open_25 h
theorem D_Ba_offer_0 : decode b_Ba_offer 0 = .ok (.aload_n 0, 1) := by decide +kernel
theorem D_Ba_offer_1 : decode b_Ba_offer 1 = .ok (.iload_n 1, 1) := by decide +kernel
theorem D_Ba_offer_2 : decode b_Ba_offer 2 = .ok (.aload_n 2, 1) := by decide +kernel
theorem D_Ba_offer_3 : decode b_Ba_offer 3 = .ok (.invokevirtual 91, 3) := by decide +kernel
theorem D_Ba_offer_6 : decode b_Ba_offer 6 = .ok (.aload_n 0, 1) := by decide +kernel
theorem D_Ba_offer_7 : decode b_Ba_offer 7 = .ok (.getfield 48, 3) := by decide +kernel
theorem D_Ba_offer_10 : decode b_Ba_offer 10 = .ok (.aload_n 2, 1) := by decide +kernel
theorem D_Ba_offer_11 : decode b_Ba_offer 11 = .ok (.invokevirtual 95, 3) := by decide +kernel
theorem D_Ba_offer_14 : decode b_Ba_offer 14 = .ok (.ifCond .eq 13, 3) := by decide +kernel
theorem D_Ba_offer_17 : decode b_Ba_offer 17 = .ok (.aload_n 0, 1) := by decide +kernel
theorem D_Ba_offer_18 : decode b_Ba_offer 18 = .ok (.getfield 33, 3) := by decide +kernel
theorem D_Ba_offer_21 : decode b_Ba_offer 21 = .ok (.iload_n 1, 1) := by decide +kernel
theorem D_Ba_offer_22 : decode b_Ba_offer 22 = .ok (.dup2, 1) := by decide +kernel
theorem D_Ba_offer_23 : decode b_Ba_offer 23 = .ok (.iaload, 1) := by decide +kernel
theorem D_Ba_offer_24 : decode b_Ba_offer 24 = .ok (.iconst 1, 1) := by decide +kernel
theorem D_Ba_offer_25 : decode b_Ba_offer 25 = .ok (.iadd, 1) := by decide +kernel
theorem D_Ba_offer_26 : decode b_Ba_offer 26 = .ok (.iastore, 1) := by decide +kernel
theorem D_Ba_offer_27 : decode b_Ba_offer 27 = .ok (.return_, 1) := by decide +kernel
abbrev rm_Ba_offer : Room := { frames := 2, cells := 0, slots := 0, locals := 59 }
def B_Ba_offer_27 (post : Mem → Prop) (M : Mem) : Prop := (post M)
set_option maxRecDepth 20000 in
theorem Z_Ba_offer_27 {x : Ctx} {post : Mem → Prop} (C : Ok x b_Ba_offer 3 "HeapTower$Base") (hR : xR x = rm_Ba_offer) (Rt : RetV x post 0 0) (M : Mem) (h : B_Ba_offer_27 post M) : J x 3 27 [] [] 0 0 M := by
  unfold B_Ba_offer_27 at h
  exact J_vret C Rt D_Ba_offer_27 h
def T_Ba_offer (a0 : Nat) (x1 : Int32) (a2 : Nat) (M : Mem) (post : Mem → Prop) : Prop := (isK M a0 0 ∧ T_Ba_reduce a0 x1 a2 M (fun M3 => isK M3 a0 0 ∧ ∃ q7, gR M3 a0 2 = some q7 ∧ isK M3 q7 5 ∧ T_Ro_add q7 a2 M3 (fun r11 M11 => (r11 = 0 → (B_Ba_offer_27 post M11)) ∧ (¬ r11 = 0 → (isK M11 a0 0 ∧ ∃ q18, gR M11 a0 11 = some q18 ∧ isA M11 q18 8 x1 ∧ isA M11 q18 8 x1 ∧ B_Ba_offer_27 post (sI M11 q18 (Int32.toNatClampNeg x1) ((gI M11 q18 (Int32.toNatClampNeg x1)) + 1)))))))
set_option maxRecDepth 20000 in
theorem S_Ba_offer {l : Launch} {D : va_G} {B t : Nat} {ac : Nat → ClassId} (a0 : Nat) (x1 : Int32) (a2 : Nat) (M : Mem) (post : Mem → Prop) (h : T_Ba_offer a0 x1 a2 M post) : Met l y_Ba_offer w_Ba_offer rm_Ba_offer (va_Pc [.ref (B + a0), .int x1, .ref (B + a2)] (PRE D B t ac M)) (QV D B ac post) 0 0 (AB B) := by
  refine met_v (by decide +kernel) (Nat.le_of_ble_eq_true rfl) (fun x h1 hR h3 h4 h5 h6 C Rt Nm => ?_)
  subst h3 h4 h5 h6
  unfold T_Ba_offer at h
  show J x 3 0 [(0, .ref (xB x + a0)), (1, .int x1), (2, .ref (xB x + a2))] [] 0 0 M
  refine J_aload_n C 0 D_Ba_offer_0 rfl rfl ?_
  refine J_iload_n C 1 D_Ba_offer_1 rfl rfl ?_
  refine J_aload_n C 2 D_Ba_offer_2 rfl rfl ?_
  obtain ⟨c_3, h⟩ := h
  refine J_callVv C ml_Ba_91 (S_Ba_reduce _ _ _ _ _ h) (by rw [hR]; decide) rfl c_3 rfl (Nat.le_of_ble_eq_true rfl) D_Ba_offer_3 (fun M3 h => ?_)
  refine J_aload_n C 0 D_Ba_offer_6 rfl rfl ?_
  obtain ⟨c_7, q7, e_7, h⟩ := h
  refine J_getR C fl_Ba_48 D_Ba_offer_7 c_7 e_7 ?_
  refine J_aload_n C 2 D_Ba_offer_10 rfl rfl ?_
  obtain ⟨c_11, h⟩ := h
  refine J_callVi C ml_Ba_95 (S_Ro_add _ _ _ _ h) (by rw [hR]; decide) rfl c_11 rfl (Nat.le_of_ble_eq_true rfl) D_Ba_offer_11 (fun r11 M11 h => ?_)
  refine J_if_eq (tgt := 27) C D_Ba_offer_14 (by decide) (fun c_14 => ?_) (fun c_14 => ?_)
  · have h := h.1 c_14
    exact J_sub [] rfl (Z_Ba_offer_27 C hR Rt  _ h)
  · have h := h.2 c_14
    refine J_aload_n C 0 D_Ba_offer_17 rfl rfl ?_
    obtain ⟨c_18, q18, e_18, h⟩ := h
    refine J_getR C fl_Ba_33 D_Ba_offer_18 c_18 e_18 ?_
    refine J_iload_n C 1 D_Ba_offer_21 rfl rfl ?_
    refine J_dup2 C D_Ba_offer_22 rfl rfl ?_
    obtain ⟨c_23, h⟩ := h
    refine J_iald C D_Ba_offer_23 c_23 ?_
    refine J_iconst (v := 1) C D_Ba_offer_24 rfl ?_
    refine J_iadd C D_Ba_offer_25 ?_
    obtain ⟨c_26, h⟩ := h
    refine J_iast C D_Ba_offer_26 c_26 ?_
    exact J_sub [] rfl (Z_Ba_offer_27 C hR Rt  _ h)
