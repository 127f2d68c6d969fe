theorem fl_Ba_9 : Fld "HeapTower$Base" 9 0 4 false true := ⟨R_Ba, F_Ba, 13, t_Ba, iw_Ba, rfl, by decide, rfl, rfl, by decide, rfl, (gw_in (List.mem_of_getElem? (i := 207) (by decide +kernel)) (by decide +kernel)), t_Ba_ok, n_Ba, rfl, (fun h => by cases h), fun _ => Or.inr ⟨_, rfl⟩⟩
theorem fl_Ba_15 : Fld "HeapTower$Base" 15 0 5 false true := ⟨R_Ba, F_Ba, 13, t_Ba, iw_Ba, rfl, by decide, rfl, rfl, by decide, rfl, (gw_in (List.mem_of_getElem? (i := 208) (by decide +kernel)) (by decide +kernel)), t_Ba_ok, n_Ba, rfl, (fun h => by cases h), fun _ => Or.inr ⟨_, rfl⟩⟩
theorem fl_Ba_18 : Fld "HeapTower$Base" 18 0 6 false true := ⟨R_Ba, F_Ba, 13, t_Ba, iw_Ba, rfl, by decide, rfl, rfl, by decide, rfl, (gw_in (List.mem_of_getElem? (i := 209) (by decide +kernel)) (by decide +kernel)), t_Ba_ok, n_Ba, rfl, (fun h => by cases h), fun _ => Or.inr ⟨_, rfl⟩⟩
theorem fl_Ba_24 : Fld "HeapTower$Base" 24 0 8 false true := ⟨R_Ba, F_Ba, 13, t_Ba, iw_Ba, rfl, by decide, rfl, rfl, by decide, rfl, (gw_in (List.mem_of_getElem? (i := 211) (by decide +kernel)) (by decide +kernel)), t_Ba_ok, n_Ba, rfl, (fun h => by cases h), fun _ => Or.inr ⟨_, rfl⟩⟩
theorem fl_Ba_27 : Fld "HeapTower$Base" 27 0 9 false false := ⟨R_Ba, F_Ba, 13, t_Ba, iw_Ba, rfl, by decide, rfl, rfl, by decide, rfl, (gw_in (List.mem_of_getElem? (i := 212) (by decide +kernel)) (by decide +kernel)), t_Ba_ok, n_Ba, rfl, (fun h => by cases h), fun _ => Or.inr ⟨_, rfl⟩⟩
theorem fl_Ba_30 : Fld "HeapTower$Base" 30 0 10 false false := ⟨R_Ba, F_Ba, 13, t_Ba, iw_Ba, rfl, by decide, rfl, rfl, by decide, rfl, (gw_in (List.mem_of_getElem? (i := 213) (by decide +kernel)) (by decide +kernel)), t_Ba_ok, n_Ba, rfl, (fun h => by cases h), fun _ => Or.inr ⟨_, rfl⟩⟩
theorem fl_Ba_33 : Fld "HeapTower$Base" 33 0 11 true false := ⟨R_Ba, F_Ba, 13, t_Ba, iw_Ba, rfl, by decide, rfl, rfl, by decide, rfl, (gw_in (List.mem_of_getElem? (i := 214) (by decide +kernel)) (by decide +kernel)), t_Ba_ok, n_Ba, rfl, fun _ => rfl, (fun h => by cases h)⟩
theorem fl_Ba_37 : Fld "HeapTower$Base" 37 0 0 false true := ⟨R_Ba, F_Ba, 13, t_Ba, iw_Ba, rfl, by decide, rfl, rfl, by decide, rfl, (gw_in (List.mem_of_getElem? (i := 203) (by decide +kernel)) (by decide +kernel)), t_Ba_ok, n_Ba, rfl, (fun h => by cases h), fun _ => Or.inl ⟨_, rfl⟩⟩
theorem fl_Ba_41 : Fld "HeapTower$Base" 41 0 1 false true := ⟨R_Ba, F_Ba, 13, t_Ba, iw_Ba, rfl, by decide, rfl, rfl, by decide, rfl, (gw_in (List.mem_of_getElem? (i := 204) (by decide +kernel)) (by decide +kernel)), t_Ba_ok, n_Ba, rfl, (fun h => by cases h), fun _ => Or.inl ⟨_, rfl⟩⟩
theorem fl_Ba_45 : Fld "HeapTower$Base" 45 0 2 false true := ⟨R_Ba, F_Ba, 13, t_Ba, iw_Ba, rfl, by decide, rfl, rfl, by decide, rfl, (gw_in (List.mem_of_getElem? (i := 205) (by decide +kernel)) (by decide +kernel)), t_Ba_ok, n_Ba, rfl, (fun h => by cases h), fun _ => Or.inl ⟨_, rfl⟩⟩
theorem fl_Ba_49 : Fld "HeapTower$Base" 49 0 3 false true := ⟨R_Ba, F_Ba, 13, t_Ba, iw_Ba, rfl, by decide, rfl, rfl, by decide, rfl, (gw_in (List.mem_of_getElem? (i := 206) (by decide +kernel)) (by decide +kernel)), t_Ba_ok, n_Ba, rfl, (fun h => by cases h), fun _ => Or.inr ⟨_, rfl⟩⟩
theorem fl_Ba_58 : Fld "HeapTower$Base" 58 0 12 true false := ⟨R_Ba, F_Ba, 13, t_Ba, iw_Ba, rfl, by decide, rfl, rfl, by decide, rfl, (gw_in (List.mem_of_getElem? (i := 215) (by decide +kernel)) (by decide +kernel)), t_Ba_ok, n_Ba, rfl, fun _ => rfl, (fun h => by cases h)⟩
theorem fn_Ba_124 : FldN "HeapTower$Base" 124 2 1 true := ⟨R_Nu, F_Nu, 2, iw_Nu, rfl, by decide, rfl, by decide, rfl, by decide⟩
theorem fn_Ba_126 : FldN "HeapTower$Base" 126 4 0 false := ⟨R_Pr, F_Pr, 6, iw_Pr, rfl, by decide, rfl, by decide, rfl, by decide⟩
theorem fn_Ba_129 : FldN "HeapTower$Base" 129 4 1 false := ⟨R_Pr, F_Pr, 6, iw_Pr, rfl, by decide, rfl, by decide, rfl, by decide⟩
theorem ml_Ba_52 : MLS "HeapTower$Base" 52 y_Ma_max b_Ma_max 2 (some .int) 2 := ⟨List.forall_mem_cons.mpr ⟨(gw_in (List.mem_of_getElem? (i := 329) (by decide +kernel)) (by decide +kernel)), List.forall_mem_cons.mpr ⟨(gw_in (List.mem_of_getElem? (i := 330) (by decide +kernel)) (by decide +kernel)), List.forall_mem_cons.mpr ⟨(gw_in (List.mem_of_getElem? (i := 75) (by decide +kernel)) (by decide +kernel)), List.forall_mem_cons.mpr ⟨(gw_in (List.mem_of_getElem? (i := 331) (by decide +kernel)) (by decide +kernel)), fun _ h => absurd h List.not_mem_nil⟩⟩⟩⟩, by decide⟩
theorem ml_Ba_61 : MLV "HeapTower$Base" 61 y_Pr_amount b_Pr_amount 2 (some .int) 1 4 := ⟨List.forall_mem_cons.mpr ⟨(gw_in (List.mem_of_getElem? (i := 551) (by decide +kernel)) (by decide +kernel)), List.forall_mem_cons.mpr ⟨(gw_in (List.mem_of_getElem? (i := 425) (by decide +kernel)) (by decide +kernel)), List.forall_mem_cons.mpr ⟨(gw_in (List.mem_of_getElem? (i := 426) (by decide +kernel)) (by decide +kernel)), List.forall_mem_cons.mpr ⟨(gw_in (List.mem_of_getElem? (i := 68) (by decide +kernel)) (by decide +kernel)), List.forall_mem_cons.mpr ⟨(gw_in (List.mem_of_getElem? (i := 427) (by decide +kernel)) (by decide +kernel)), fun _ h => absurd h List.not_mem_nil⟩⟩⟩⟩⟩, by decide, F_Pr, 6, rfl, by decide⟩
theorem ml_Ba_70 : MLS "HeapTower$Base" 70 y_Ar_fill2 b_Ar_fill2 4 none 2 := ⟨List.forall_mem_cons.mpr ⟨(gw_in (List.mem_of_getElem? (i := 578) (by decide +kernel)) (by decide +kernel)), List.forall_mem_cons.mpr ⟨(gw_in (List.mem_of_getElem? (i := 341) (by decide +kernel)) (by decide +kernel)), List.forall_mem_cons.mpr ⟨(gw_in (List.mem_of_getElem? (i := 76) (by decide +kernel)) (by decide +kernel)), List.forall_mem_cons.mpr ⟨(gw_in (List.mem_of_getElem? (i := 342) (by decide +kernel)) (by decide +kernel)), fun _ h => absurd h List.not_mem_nil⟩⟩⟩⟩, by decide⟩
theorem ml_Ba_76 : MLV "HeapTower$Base" 76 y_Ba_makeRoom b_Ba_makeRoom 1 none 0 0 := ⟨List.forall_mem_cons.mpr ⟨(gw_in (List.mem_of_getElem? (i := 532) (by decide +kernel)) (by decide +kernel)), List.forall_mem_cons.mpr ⟨(gw_in (List.mem_of_getElem? (i := 534) (by decide +kernel)) (by decide +kernel)), List.forall_mem_cons.mpr ⟨(gw_in (List.mem_of_getElem? (i := 10) (by decide +kernel)) (by decide +kernel)), List.forall_mem_cons.mpr ⟨(gw_in (List.mem_of_getElem? (i := 72) (by decide +kernel)) (by decide +kernel)), List.forall_mem_cons.mpr ⟨(gw_in (List.mem_of_getElem? (i := 535) (by decide +kernel)) (by decide +kernel)), fun _ h => absurd h List.not_mem_nil⟩⟩⟩⟩⟩, by decide, F_Ba, 13, rfl, by decide⟩
theorem ml_Ba_79 : MLV "HeapTower$Base" 79 y_Ro_begin b_Ro_begin 3 none 1 5 := ⟨List.forall_mem_cons.mpr ⟨(gw_in (List.mem_of_getElem? (i := 536) (by decide +kernel)) (by decide +kernel)), List.forall_mem_cons.mpr ⟨(gw_in (List.mem_of_getElem? (i := 537) (by decide +kernel)) (by decide +kernel)), List.forall_mem_cons.mpr ⟨(gw_in (List.mem_of_getElem? (i := 538) (by decide +kernel)) (by decide +kernel)), List.forall_mem_cons.mpr ⟨(gw_in (List.mem_of_getElem? (i := 70) (by decide +kernel)) (by decide +kernel)), List.forall_mem_cons.mpr ⟨(gw_in (List.mem_of_getElem? (i := 539) (by decide +kernel)) (by decide +kernel)), fun _ h => absurd h List.not_mem_nil⟩⟩⟩⟩⟩, by decide, F_Ro, 8, rfl, by decide⟩
theorem ml_Ba_85 : MLV "HeapTower$Base" 85 y_Ba_inherit b_Ba_inherit 6 none 1 0 := ⟨List.forall_mem_cons.mpr ⟨(gw_in (List.mem_of_getElem? (i := 547) (by decide +kernel)) (by decide +kernel)), List.forall_mem_cons.mpr ⟨(gw_in (List.mem_of_getElem? (i := 549) (by decide +kernel)) (by decide +kernel)), List.forall_mem_cons.mpr ⟨(gw_in (List.mem_of_getElem? (i := 11) (by decide +kernel)) (by decide +kernel)), List.forall_mem_cons.mpr ⟨(gw_in (List.mem_of_getElem? (i := 72) (by decide +kernel)) (by decide +kernel)), List.forall_mem_cons.mpr ⟨(gw_in (List.mem_of_getElem? (i := 550) (by decide +kernel)) (by decide +kernel)), fun _ h => absurd h List.not_mem_nil⟩⟩⟩⟩⟩, by decide, F_Ba, 13, rfl, by decide⟩
theorem ml_Ba_88 : MLV "HeapTower$Base" 88 y_Ba_offerDifferences b_Ba_offerDifferences 8 none 1 0 := ⟨List.forall_mem_cons.mpr ⟨(gw_in (List.mem_of_getElem? (i := 563) (by decide +kernel)) (by decide +kernel)), List.forall_mem_cons.mpr ⟨(gw_in (List.mem_of_getElem? (i := 565) (by decide +kernel)) (by decide +kernel)), List.forall_mem_cons.mpr ⟨(gw_in (List.mem_of_getElem? (i := 13) (by decide +kernel)) (by decide +kernel)), List.forall_mem_cons.mpr ⟨(gw_in (List.mem_of_getElem? (i := 72) (by decide +kernel)) (by decide +kernel)), List.forall_mem_cons.mpr ⟨(gw_in (List.mem_of_getElem? (i := 566) (by decide +kernel)) (by decide +kernel)), fun _ h => absurd h List.not_mem_nil⟩⟩⟩⟩⟩, by decide, F_Ba, 13, rfl, by decide⟩
theorem ml_Ba_91 : MLV "HeapTower$Base" 91 y_Ba_reduce b_Ba_reduce 6 none 2 0 := ⟨List.forall_mem_cons.mpr ⟨(gw_in (List.mem_of_getElem? (i := 583) (by decide +kernel)) (by decide +kernel)), List.forall_mem_cons.mpr ⟨(gw_in (List.mem_of_getElem? (i := 584) (by decide +kernel)) (by decide +kernel)), List.forall_mem_cons.mpr ⟨(gw_in (List.mem_of_getElem? (i := 585) (by decide +kernel)) (by decide +kernel)), List.forall_mem_cons.mpr ⟨(gw_in (List.mem_of_getElem? (i := 72) (by decide +kernel)) (by decide +kernel)), List.forall_mem_cons.mpr ⟨(gw_in (List.mem_of_getElem? (i := 586) (by decide +kernel)) (by decide +kernel)), fun _ h => absurd h List.not_mem_nil⟩⟩⟩⟩⟩, by decide, F_Ba, 13, rfl, by decide⟩
theorem ml_Ba_95 : MLV "HeapTower$Base" 95 y_Ro_add b_Ro_add 6 (some .boolean) 1 5 := ⟨List.forall_mem_cons.mpr ⟨(gw_in (List.mem_of_getElem? (i := 588) (by decide +kernel)) (by decide +kernel)), List.forall_mem_cons.mpr ⟨(gw_in (List.mem_of_getElem? (i := 589) (by decide +kernel)) (by decide +kernel)), List.forall_mem_cons.mpr ⟨(gw_in (List.mem_of_getElem? (i := 590) (by decide +kernel)) (by decide +kernel)), List.forall_mem_cons.mpr ⟨(gw_in (List.mem_of_getElem? (i := 70) (by decide +kernel)) (by decide +kernel)), List.forall_mem_cons.mpr ⟨(gw_in (List.mem_of_getElem? (i := 591) (by decide +kernel)) (by decide +kernel)), fun _ h => absurd h List.not_mem_nil⟩⟩⟩⟩⟩, by decide, F_Ro, 8, rfl, by decide⟩
theorem ml_Ba_99 : MLV "HeapTower$Base" 99 y_Pr_at b_Pr_at 3 (some .int) 2 4 := ⟨List.forall_mem_cons.mpr ⟨(gw_in (List.mem_of_getElem? (i := 552) (by decide +kernel)) (by decide +kernel)), List.forall_mem_cons.mpr ⟨(gw_in (List.mem_of_getElem? (i := 429) (by decide +kernel)) (by decide +kernel)), List.forall_mem_cons.mpr ⟨(gw_in (List.mem_of_getElem? (i := 430) (by decide +kernel)) (by decide +kernel)), List.forall_mem_cons.mpr ⟨(gw_in (List.mem_of_getElem? (i := 68) (by decide +kernel)) (by decide +kernel)), List.forall_mem_cons.mpr ⟨(gw_in (List.mem_of_getElem? (i := 431) (by decide +kernel)) (by decide +kernel)), fun _ h => absurd h List.not_mem_nil⟩⟩⟩⟩⟩, by decide, F_Pr, 6, rfl, by decide⟩
theorem ml_Ba_114 : MLV "HeapTower$Base" 114 y_Nu_prime b_Nu_prime 1 (some .int) 0 2 := ⟨List.forall_mem_cons.mpr ⟨(gw_in (List.mem_of_getElem? (i := 587) (by decide +kernel)) (by decide +kernel)), List.forall_mem_cons.mpr ⟨(gw_in (List.mem_of_getElem? (i := 543) (by decide +kernel)) (by decide +kernel)), List.forall_mem_cons.mpr ⟨(gw_in (List.mem_of_getElem? (i := 544) (by decide +kernel)) (by decide +kernel)), List.forall_mem_cons.mpr ⟨(gw_in (List.mem_of_getElem? (i := 69) (by decide +kernel)) (by decide +kernel)), List.forall_mem_cons.mpr ⟨(gw_in (List.mem_of_getElem? (i := 545) (by decide +kernel)) (by decide +kernel)), fun _ h => absurd h List.not_mem_nil⟩⟩⟩⟩⟩, by decide, F_Nu, 2, rfl, by decide⟩
theorem ml_Ba_120 : MLV "HeapTower$Base" 120 y_Ba_addMoved b_Ba_addMoved 16 none 4 0 := ⟨List.forall_mem_cons.mpr ⟨(gw_in (List.mem_of_getElem? (i := 579) (by decide +kernel)) (by decide +kernel)), List.forall_mem_cons.mpr ⟨(gw_in (List.mem_of_getElem? (i := 581) (by decide +kernel)) (by decide +kernel)), List.forall_mem_cons.mpr ⟨(gw_in (List.mem_of_getElem? (i := 16) (by decide +kernel)) (by decide +kernel)), List.forall_mem_cons.mpr ⟨(gw_in (List.mem_of_getElem? (i := 72) (by decide +kernel)) (by decide +kernel)), List.forall_mem_cons.mpr ⟨(gw_in (List.mem_of_getElem? (i := 582) (by decide +kernel)) (by decide +kernel)), fun _ h => absurd h List.not_mem_nil⟩⟩⟩⟩⟩, by decide, F_Ba, 13, rfl, by decide⟩
theorem ml_Ba_132 : MLV "HeapTower$Base" 132 y_Ba_leaderBelow b_Ba_leaderBelow 4 (some .int) 3 0 := ⟨List.forall_mem_cons.mpr ⟨(gw_in (List.mem_of_getElem? (i := 553) (by decide +kernel)) (by decide +kernel)), List.forall_mem_cons.mpr ⟨(gw_in (List.mem_of_getElem? (i := 555) (by decide +kernel)) (by decide +kernel)), List.forall_mem_cons.mpr ⟨(gw_in (List.mem_of_getElem? (i := 12) (by decide +kernel)) (by decide +kernel)), List.forall_mem_cons.mpr ⟨(gw_in (List.mem_of_getElem? (i := 72) (by decide +kernel)) (by decide +kernel)), List.forall_mem_cons.mpr ⟨(gw_in (List.mem_of_getElem? (i := 556) (by decide +kernel)) (by decide +kernel)), fun _ h => absurd h List.not_mem_nil⟩⟩⟩⟩⟩, by decide, F_Ba, 13, rfl, by decide⟩
theorem ml_Ba_136 : MLV "HeapTower$Base" 136 y_Pr_power b_Pr_power 4 (some .int) 3 4 := ⟨List.forall_mem_cons.mpr ⟨(gw_in (List.mem_of_getElem? (i := 557) (by decide +kernel)) (by decide +kernel)), List.forall_mem_cons.mpr ⟨(gw_in (List.mem_of_getElem? (i := 434) (by decide +kernel)) (by decide +kernel)), List.forall_mem_cons.mpr ⟨(gw_in (List.mem_of_getElem? (i := 435) (by decide +kernel)) (by decide +kernel)), List.forall_mem_cons.mpr ⟨(gw_in (List.mem_of_getElem? (i := 68) (by decide +kernel)) (by decide +kernel)), List.forall_mem_cons.mpr ⟨(gw_in (List.mem_of_getElem? (i := 436) (by decide +kernel)) (by decide +kernel)), fun _ h => absurd h List.not_mem_nil⟩⟩⟩⟩⟩, by decide, F_Pr, 6, rfl, by decide⟩
theorem ml_Ba_139 : MLV "HeapTower$Base" 139 y_Pr_lowered b_Pr_lowered 3 (some .int) 2 4 := ⟨List.forall_mem_cons.mpr ⟨(gw_in (List.mem_of_getElem? (i := 559) (by decide +kernel)) (by decide +kernel)), List.forall_mem_cons.mpr ⟨(gw_in (List.mem_of_getElem? (i := 560) (by decide +kernel)) (by decide +kernel)), List.forall_mem_cons.mpr ⟨(gw_in (List.mem_of_getElem? (i := 561) (by decide +kernel)) (by decide +kernel)), List.forall_mem_cons.mpr ⟨(gw_in (List.mem_of_getElem? (i := 68) (by decide +kernel)) (by decide +kernel)), List.forall_mem_cons.mpr ⟨(gw_in (List.mem_of_getElem? (i := 562) (by decide +kernel)) (by decide +kernel)), fun _ h => absurd h List.not_mem_nil⟩⟩⟩⟩⟩, by decide, F_Pr, 6, rfl, by decide⟩
theorem ml_Ba_142 : MLV "HeapTower$Base" 142 y_Ba_isNews b_Ba_isNews 11 (some .boolean) 4 0 := ⟨List.forall_mem_cons.mpr ⟨(gw_in (List.mem_of_getElem? (i := 567) (by decide +kernel)) (by decide +kernel)), List.forall_mem_cons.mpr ⟨(gw_in (List.mem_of_getElem? (i := 569) (by decide +kernel)) (by decide +kernel)), List.forall_mem_cons.mpr ⟨(gw_in (List.mem_of_getElem? (i := 14) (by decide +kernel)) (by decide +kernel)), List.forall_mem_cons.mpr ⟨(gw_in (List.mem_of_getElem? (i := 72) (by decide +kernel)) (by decide +kernel)), List.forall_mem_cons.mpr ⟨(gw_in (List.mem_of_getElem? (i := 570) (by decide +kernel)) (by decide +kernel)), fun _ h => absurd h List.not_mem_nil⟩⟩⟩⟩⟩, by decide, F_Ba, 13, rfl, by decide⟩
theorem ml_Ba_146 : MLV "HeapTower$Base" 146 y_Ba_offerMoved b_Ba_offerMoved 4 none 3 0 := ⟨List.forall_mem_cons.mpr ⟨(gw_in (List.mem_of_getElem? (i := 574) (by decide +kernel)) (by decide +kernel)), List.forall_mem_cons.mpr ⟨(gw_in (List.mem_of_getElem? (i := 576) (by decide +kernel)) (by decide +kernel)), List.forall_mem_cons.mpr ⟨(gw_in (List.mem_of_getElem? (i := 15) (by decide +kernel)) (by decide +kernel)), List.forall_mem_cons.mpr ⟨(gw_in (List.mem_of_getElem? (i := 72) (by decide +kernel)) (by decide +kernel)), List.forall_mem_cons.mpr ⟨(gw_in (List.mem_of_getElem? (i := 577) (by decide +kernel)) (by decide +kernel)), fun _ h => absurd h List.not_mem_nil⟩⟩⟩⟩⟩, by decide, F_Ba, 13, rfl, by decide⟩
theorem ml_Ba_150 : MLS "HeapTower$Base" 150 y_Ma_min b_Ma_min 2 (some .int) 2 := ⟨List.forall_mem_cons.mpr ⟨(gw_in (List.mem_of_getElem? (i := 571) (by decide +kernel)) (by decide +kernel)), List.forall_mem_cons.mpr ⟨(gw_in (List.mem_of_getElem? (i := 572) (by decide +kernel)) (by decide +kernel)), List.forall_mem_cons.mpr ⟨(gw_in (List.mem_of_getElem? (i := 75) (by decide +kernel)) (by decide +kernel)), List.forall_mem_cons.mpr ⟨(gw_in (List.mem_of_getElem? (i := 573) (by decide +kernel)) (by decide +kernel)), fun _ h => absurd h List.not_mem_nil⟩⟩⟩⟩, by decide⟩
theorem aw_I : Cond.arrayClass .int ∈ gw := (gw_in (List.mem_of_getElem? (i := 130) (by decide +kernel)) (by decide +kernel))
theorem D_Ba_forget_0 : decode b_Ba_forget 0 = .ok (.aload_n 0, 1) := by decide +kernel
theorem D_Ba_forget_1 : decode b_Ba_forget 1 = .ok (.getfield 33, 3) := by decide +kernel
theorem D_Ba_forget_4 : decode b_Ba_forget 4 = .ok (.iload_n 1, 1) := by decide +kernel
theorem D_Ba_forget_5 : decode b_Ba_forget 5 = .ok (.if_icmp .lt 38, 3) := by decide +kernel
theorem D_Ba_forget_8 : decode b_Ba_forget 8 = .ok (.aload_n 0, 1) := by decide +kernel
theorem D_Ba_forget_9 : decode b_Ba_forget 9 = .ok (.iload_n 1, 1) := by decide +kernel
theorem D_Ba_forget_10 : decode b_Ba_forget 10 = .ok (.iconst 0, 1) := by decide +kernel
theorem D_Ba_forget_11 : decode b_Ba_forget 11 = .ok (.invokestatic 52, 3) := by decide +kernel
theorem D_Ba_forget_14 : decode b_Ba_forget 14 = .ok (.iconst 1, 1) := by decide +kernel
theorem D_Ba_forget_15 : decode b_Ba_forget 15 = .ok (.isub, 1) := by decide +kernel
theorem D_Ba_forget_16 : decode b_Ba_forget 16 = .ok (.putfield 33, 3) := by decide +kernel
theorem D_Ba_forget_19 : decode b_Ba_forget 19 = .ok (.aload_n 0, 1) := by decide +kernel
theorem D_Ba_forget_20 : decode b_Ba_forget 20 = .ok (.aload_n 0, 1) := by decide +kernel
theorem D_Ba_forget_21 : decode b_Ba_forget 21 = .ok (.getfield 33, 3) := by decide +kernel
theorem D_Ba_forget_24 : decode b_Ba_forget 24 = .ok (.ifCond .ge 7, 3) := by decide +kernel
theorem D_Ba_forget_27 : decode b_Ba_forget 27 = .ok (.iconst 0, 1) := by decide +kernel
theorem D_Ba_forget_28 : decode b_Ba_forget 28 = .ok (.goto 12, 3) := by decide +kernel
theorem D_Ba_forget_31 : decode b_Ba_forget 31 = .ok (.aload_n 0, 1) := by decide +kernel
theorem D_Ba_forget_32 : decode b_Ba_forget 32 = .ok (.getfield 18, 3) := by decide +kernel
theorem D_Ba_forget_35 : decode b_Ba_forget 35 = .ok (.aload_n 0, 1) := by decide +kernel
theorem D_Ba_forget_36 : decode b_Ba_forget 36 = .ok (.getfield 33, 3) := by decide +kernel
theorem D_Ba_forget_39 : decode b_Ba_forget 39 = .ok (.iaload, 1) := by decide +kernel
theorem D_Ba_forget_40 : decode b_Ba_forget 40 = .ok (.putfield 58, 3) := by decide +kernel
theorem D_Ba_forget_43 : decode b_Ba_forget 43 = .ok (.return_, 1) := by decide +kernel
abbrev rm_Ba_forget : Room := { frames := 1, cells := 0, slots := 0, locals := 21 }
def B_Ba_forget_43 (post : Mem → Prop) (M : Mem) : Prop := (post M)
set_option maxRecDepth 20000 in
theorem Z_Ba_forget_43 {x : Ctx} {post : Mem → Prop} (C : Ok x b_Ba_forget 2 "HeapTower$Base") (hR : xR x = rm_Ba_forget) (Rt : RetV x post 0 0) (M : Mem) (h : B_Ba_forget_43 post M) : J x 2 43 [] [] 0 0 M := by
  unfold B_Ba_forget_43 at h
  exact J_vret C Rt D_Ba_forget_43 h
def B_Ba_forget_40 (post : Mem → Prop) (s0 : Int32) (t1 : Nat) (M : Mem) : Prop := (isK M t1 0 ∧ B_Ba_forget_43 post (sI M t1 12 s0))
set_option maxRecDepth 20000 in
theorem Z_Ba_forget_40 {x : Ctx} {post : Mem → Prop} (C : Ok x b_Ba_forget 2 "HeapTower$Base") (hR : xR x = rm_Ba_forget) (Rt : RetV x post 0 0) (s0 : Int32) (t1 : Nat) (M : Mem) (h : B_Ba_forget_40 post s0 t1 M) : J x 2 40 [] [.int s0, .ref (xd x t1)] 0 0 M := by
  unfold B_Ba_forget_40 at h
  obtain ⟨c_40, h⟩ := h
  refine J_putI C fl_Ba_58 D_Ba_forget_40 c_40 ?_
  exact J_sub [] rfl (Z_Ba_forget_43 C hR Rt  _ h)
def T_Ba_forget (a0 : Nat) (x1 : Int32) (M : Mem) (post : Mem → Prop) : Prop := (isK M a0 0 ∧ ((gI M a0 11) < x1 → (B_Ba_forget_43 post M)) ∧ (¬ (gI M a0 11) < x1 → (T_Ma_max x1 0 M (fun r11 M11 => isK M11 a0 0 ∧ isK (sI M11 a0 11 (r11 - 1)) a0 0 ∧ (0 ≤ (gI (sI M11 a0 11 (r11 - 1)) a0 11) → (isK (sI M11 a0 11 (r11 - 1)) a0 0 ∧ ∃ q32, gR (sI M11 a0 11 (r11 - 1)) a0 6 = some q32 ∧ isK (sI M11 a0 11 (r11 - 1)) a0 0 ∧ isA (sI M11 a0 11 (r11 - 1)) q32 8 (gI (sI M11 a0 11 (r11 - 1)) a0 11) ∧ B_Ba_forget_40 post (gI (sI M11 a0 11 (r11 - 1)) q32 (Int32.toNatClampNeg (gI (sI M11 a0 11 (r11 - 1)) a0 11))) a0 (sI M11 a0 11 (r11 - 1)))) ∧ (¬ 0 ≤ (gI (sI M11 a0 11 (r11 - 1)) a0 11) → (B_Ba_forget_40 post 0 a0 (sI M11 a0 11 (r11 - 1))))))))
set_option maxRecDepth 20000 in
theorem S_Ba_forget {l : Launch} {D : va_G} {B t g : Nat} {d : Nat → Nat} {ac : Nat → ClassId}  (a0 : Nat) (x1 : Int32) (M : Mem) (post : Mem → Prop) (h : T_Ba_forget a0 x1 M post) : Met l y_Ba_forget w_Ba_forget rm_Ba_forget (va_Pc [.ref (d a0), .int x1] (PRE D B d g t ac M)) (QV D B d g ac post) 0 0 (AB B) := by
  refine met_v (by decide +kernel) (Nat.le_of_ble_eq_true rfl) (fun x h1 hR h3 h4 h5 h6 h7 h8 C Rt Nm => ?_)
  subst h3 h4 h5 h6 h7 h8
  unfold T_Ba_forget at h
  show J x 2 0 [(0, .ref (xd x a0)), (1, .int x1)] [] 0 0 M
  refine J_aload_n C 0 D_Ba_forget_0 rfl rfl ?_
  obtain ⟨c_1, h⟩ := h
  refine J_getI C fl_Ba_33 D_Ba_forget_1 c_1 ?_
  refine J_iload_n C 1 D_Ba_forget_4 rfl rfl ?_
  refine J_icmp_lt (tgt := 43) C D_Ba_forget_5 (by decide) (fun c_5 => ?_) (fun c_5 => ?_)
  · have h := h.1 c_5
    exact J_sub [] rfl (Z_Ba_forget_43 C hR Rt  _ h)
  · have h := h.2 c_5
    refine J_aload_n C 0 D_Ba_forget_8 rfl rfl ?_
    refine J_iload_n C 1 D_Ba_forget_9 rfl rfl ?_
    refine J_iconst (v := 0) C D_Ba_forget_10 rfl ?_
    refine J_callSi C ml_Ba_52 (S_Ma_max _ _ _ _ h) (by rw [hR]; decide) rfl rfl (Nat.le_of_ble_eq_true rfl) D_Ba_forget_11 (fun r11 M11 h => ?_)
    refine J_iconst (v := 1) C D_Ba_forget_14 rfl ?_
    refine J_isub C D_Ba_forget_15 ?_
    obtain ⟨c_16, h⟩ := h
    refine J_putI C fl_Ba_33 D_Ba_forget_16 c_16 ?_
    refine J_aload_n C 0 D_Ba_forget_19 rfl rfl ?_
    refine J_aload_n C 0 D_Ba_forget_20 rfl rfl ?_
    obtain ⟨c_21, h⟩ := h
    refine J_getI C fl_Ba_33 D_Ba_forget_21 c_21 ?_
    refine J_if_ge (tgt := 31) C D_Ba_forget_24 (by decide) (fun c_24 => ?_) (fun c_24 => ?_)
    · have h := h.1 c_24
      refine J_aload_n C 0 D_Ba_forget_31 rfl rfl ?_
      obtain ⟨c_32, q32, e_32, h⟩ := h
      refine J_getR C fl_Ba_18 D_Ba_forget_32 c_32 e_32 ?_
      refine J_aload_n C 0 D_Ba_forget_35 rfl rfl ?_
      obtain ⟨c_36, h⟩ := h
      refine J_getI C fl_Ba_33 D_Ba_forget_36 c_36 ?_
      obtain ⟨c_39, h⟩ := h
      refine J_iald C D_Ba_forget_39 c_39 ?_
      exact J_sub [] rfl (Z_Ba_forget_40 C hR Rt  _ _ _ h)
    · have h := h.2 c_24
      refine J_iconst (v := 0) C D_Ba_forget_27 rfl ?_
      refine J_goto (tgt := 40) C D_Ba_forget_28 (by decide) ?_
      exact J_sub [] rfl (Z_Ba_forget_40 C hR Rt  _ _ _ h)
theorem D_Ba_reached_0 : decode b_Ba_reached 0 = .ok (.aload_n 0, 1) := by decide +kernel
theorem D_Ba_reached_1 : decode b_Ba_reached 1 = .ok (.getfield 33, 3) := by decide +kernel
theorem D_Ba_reached_4 : decode b_Ba_reached 4 = .ok (.ireturn, 1) := by decide +kernel
abbrev rm_Ba_reached : Room := { frames := 0, cells := 0, slots := 0, locals := 0 }
def T_Ba_reached (a0 : Nat) (M : Mem) (post : Int32 → Mem → Prop) : Prop := (isK M a0 0 ∧ post (gI M a0 11) M)
set_option maxRecDepth 20000 in
theorem S_Ba_reached {l : Launch} {D : va_G} {B t g : Nat} {d : Nat → Nat} {ac : Nat → ClassId}  (a0 : Nat) (M : Mem) (post : Int32 → Mem → Prop) (h : T_Ba_reached a0 M post) : Met l y_Ba_reached w_Ba_reached rm_Ba_reached (va_Pc [.ref (d a0)] (PRE D B d g t ac M)) (QI D B d g ac post) 0 0 (AB B) := by
  refine met_i (by decide +kernel) (Nat.le_of_ble_eq_true rfl) (fun x h1 hR h3 h4 h5 h6 h7 h8 C Rt => ?_)
  subst h3 h4 h5 h6 h7 h8
  unfold T_Ba_reached at h
  show J x 1 0 [(0, .ref (xd x a0))] [] 0 0 M
  refine J_aload_n C 0 D_Ba_reached_0 rfl rfl ?_
  obtain ⟨c_1, h⟩ := h
  refine J_getI C fl_Ba_33 D_Ba_reached_1 c_1 ?_
  exact J_iret C Rt D_Ba_reached_4 rfl h
theorem D_Ba_makeRoom_0 : decode b_Ba_makeRoom 0 = .ok (.aload_n 0, 1) := by decide +kernel
theorem D_Ba_makeRoom_1 : decode b_Ba_makeRoom 1 = .ok (.getfield 27, 3) := by decide +kernel
theorem D_Ba_makeRoom_4 : decode b_Ba_makeRoom 4 = .ok (.arraylength, 1) := by decide +kernel
theorem D_Ba_makeRoom_5 : decode b_Ba_makeRoom 5 = .ok (.ifCond .ne 21, 3) := by decide +kernel
theorem D_Ba_makeRoom_8 : decode b_Ba_makeRoom 8 = .ok (.aload_n 0, 1) := by decide +kernel
theorem D_Ba_makeRoom_9 : decode b_Ba_makeRoom 9 = .ok (.sipush 2560, 3) := by decide +kernel
theorem D_Ba_makeRoom_12 : decode b_Ba_makeRoom 12 = .ok (.newarray .int, 2) := by decide +kernel
theorem D_Ba_makeRoom_14 : decode b_Ba_makeRoom 14 = .ok (.putfield 27, 3) := by decide +kernel
theorem D_Ba_makeRoom_17 : decode b_Ba_makeRoom 17 = .ok (.aload_n 0, 1) := by decide +kernel
theorem D_Ba_makeRoom_18 : decode b_Ba_makeRoom 18 = .ok (.sipush 286, 3) := by decide +kernel
theorem D_Ba_makeRoom_21 : decode b_Ba_makeRoom 21 = .ok (.newarray .int, 2) := by decide +kernel
theorem D_Ba_makeRoom_23 : decode b_Ba_makeRoom 23 = .ok (.putfield 30, 3) := by decide +kernel
theorem D_Ba_makeRoom_26 : decode b_Ba_makeRoom 26 = .ok (.return_, 1) := by decide +kernel
/-- the two lazy arrays are made, if they haven't been -/
def T_Ba_makeRoom (a0 : Nat) (M : Mem) (post : Mem → Prop) : Prop := isK M a0 0 ∧ ∃ t l, (gR M a0 9 = some t ∧ gR M a0 10 = some l) ∧ (isK M t 12 ∧ ln M t = 2560) ∧ (isK M l 12 ∧ ln M l = 286) ∧ (nC M ≤ 1000 ∧ Uq M) ∧ (gI M t 2147483648 = 1 → post M) ∧ (¬ gI M t 2147483648 = 1 → ¬ gI M l 2147483648 = 1 ∧ post (sA (sA M t zf) l zf))
theorem S_Ba_makeRoom {l : Launch} {D : va_G} {B t g : Nat} {d : Nat → Nat} {ac : Nat → ClassId} (a0 : Nat) (M : Mem) (post : Mem → Prop) (hN : nC M + g ≤ 2800) (h : T_Ba_makeRoom a0 M post) : Met l y_Ba_makeRoom w_Ba_makeRoom (rmD 0 0 (nC M + g)) (va_Pc [.ref (d a0)] (PRE D B d g t ac M)) (QVD D B ac post) (2800 - (nC M + g)) (2560 * (2800 - (nC M + g))) (AB B) := by
  refine met_vD (by decide +kernel) (Nat.le_of_ble_eq_true rfl) hN (fun x h1 hR h3 h4 h5 h6 h7 h8 C Bd Rt hN => ?_)
  subst h3 h4 h5 h6 h7 h8
  obtain ⟨kb, t1, l1, ⟨gt, gl⟩, ⟨kt, lt⟩, ⟨kl, ll⟩, ⟨n1, uq⟩, hy, hno⟩ := h
  show J x 1 0 [(0, .ref (xd x a0))] [] (iC x M) (iS 0 x M) M
  have hcl : ∀ a k v, a < nC M → gR M a k = some v → v < nC M := fun a k v h1 h2 => (uq a k v h1 h2).1
  have uT : t1 = a0 + 6 := by
    rcases (uq a0 9 t1 kb.1 gt).2 kt.2 with ⟨_, z, _⟩ | ⟨z, _⟩
    · exact z
    · exact absurd z (by decide)
  have uL : l1 = a0 + 7 := by
    rcases (uq a0 10 l1 kb.1 gl).2 kl.2 with ⟨z, _⟩ | ⟨_, z, _⟩
    · exact absurd z (by decide)
    · exact z
  have huT : ∀ a j, a < nC M → gR M a j = some t1 → a = a0 ∧ j = 9 := fun a j z1 z2 => by
    rcases (uq a j t1 z1 z2).2 kt.2 with ⟨w1, w2, _⟩ | ⟨_, _, w⟩
    · exact ⟨by omega, w1⟩
    · rw [lt] at w; exact absurd w (by decide)
  have huL : ∀ a j, a < nC M → gR M a j = some l1 → a = a0 ∧ j = 10 := fun a j z1 z2 => by
    rcases (uq a j l1 z1 z2).2 kl.2 with ⟨_, _, w⟩ | ⟨w1, w2, _⟩
    · rw [ll] at w; exact absurd w (by decide)
    · exact ⟨by omega, w1⟩
  refine J_aload_n C 0 D_Ba_makeRoom_0 rfl rfl ?_
  refine J_getR C fl_Ba_27 D_Ba_makeRoom_1 kb gt ?_
  refine J_ylen C D_Ba_makeRoom_4 kt ?_
  refine J_if_ne (tgt := 26) C D_Ba_makeRoom_5 (by decide) (fun q => ?_) (fun q => ?_)
  · have hf : gI M t1 2147483648 = 1 := Classical.byContradiction (fun z => by
      rw [if_neg z] at q
      exact q rfl)
    exact JD_vret C Rt hN D_Ba_makeRoom_26 (hy hf)
  · have hf : ¬ gI M t1 2147483648 = 1 := fun z => by
      rw [if_pos z, lt] at q
      exact absurd q (by decide)
    obtain ⟨hf2, hp⟩ := hno hf
    have e0 : (xs x).heap.size = xB x + (nC M + xg x) := Rt.2.2
    have eC : iC x M = 0 := by unfold iC; omega
    have eS : iS 0 x M = 0 := by unfold iS; rw [eC]
    rw [eC, eS]
    refine J_gC (fun hg => ?_)
    have hgn := gC_le M
    have hb1 := Bd.2.1
    have hb2 := Bd.2.2
    refine J_aload_n C 0 D_Ba_makeRoom_8 rfl rfl ?_
    refine J_sipush (v := 2560) C D_Ba_makeRoom_9 rfl ?_
    obtain ⟨d2, hd2⟩ : ∃ d2 : Nat → Nat, ∀ c, d2 c = if c = t1 then xB x + nC M + xg x else xd x c := ⟨_, fun _ => rfl⟩
    refine J_grow C 2560 hd2 aw_I fl_Ba_27 D_Ba_makeRoom_12 D_Ba_makeRoom_14 ⟨by decide, by decide⟩ (by decide) (by decide) ⟨by omega, by omega⟩ kb gt kt lt hf hcl huT ?_
    have ea : xd x a0 = d2 a0 := ((hd2 a0).trans (if_neg (by omega))).symm
    rw [ea]
    obtain ⟨x2, hx2⟩ : ∃ x2, x2 = wd x d2 (xg x + 1) := ⟨_, rfl⟩
    have s2 : Sm x x2 := ⟨_, _, hx2⟩
    have C2 := s2.ok C
    have b2 : xB x2 = xB x := by rw [hx2]
    have g2 : xg x2 = xg x + 1 := by rw [hx2]
    have v2 : xd x2 = d2 := by rw [hx2]
    have r2 : xR x2 = xR x := by rw [hx2]
    have p2 : xs x2 = xs x := by rw [hx2]
    rw [← hx2, ← v2]
    refine J_aload_n C2 0 D_Ba_makeRoom_17 rfl rfl ?_
    refine J_sipush (v := 286) C2 D_Ba_makeRoom_18 rfl ?_
    obtain ⟨d3, hd3⟩ : ∃ d3 : Nat → Nat, ∀ c, d3 c = if c = l1 then xB x2 + nC (sA M t1 zf) + xg x2 else xd x2 c := ⟨_, fun _ => rfl⟩
    have hne : l1 ≠ t1 := by omega
    refine J_grow (x := x2) (M := sA M t1 zf) C2 286 hd3 aw_I fl_Ba_30 D_Ba_makeRoom_21 D_Ba_makeRoom_23 ⟨by decide, by decide⟩ (by decide) (by decide) ⟨by rw [r2]; omega, by rw [r2]; omega⟩ kb gl kl ll (fun z => hf2 (by
      have z' : (if l1 = t1 then zf else M.2.1 l1) 2147483648 = 1 := z
      rw [if_neg hne] at z'; exact z')) hcl huL ?_
    obtain ⟨x3, hx3⟩ : ∃ x3, x3 = wd x2 d3 (xg x2 + 1) := ⟨_, rfl⟩
    have s3 : Sm x2 x3 := ⟨_, _, hx3⟩
    have b3 : xB x3 = xB x2 := by rw [hx3]
    have g3 : xg x3 = xg x2 + 1 := by rw [hx3]
    have p3 : xs x3 = xs x2 := by rw [hx3]
    have nn : nC (sA (sA M t1 zf) l1 zf) = nC M := rfl
    rw [← hx3]
    have i3 : iC x3 (sA (sA M t1 zf) l1 zf) = 2 := by
      unfold iC; rw [nn, b3, g3, p3, b2, g2, p2]; omega
    have j3 : iS 0 x3 (sA (sA M t1 zf) l1 zf) = 5120 := by unfold iS; rw [i3]
    have k := JD_vret (lv := [(0, .ref (xd x2 a0))]) (nL := 1) (s3.ok C2) (s3.rv (s2.rv Rt)) (M := sA (sA M t1 zf) l1 zf) (by rw [nn, g3, g2]; omega) D_Ba_makeRoom_26 hp
    rw [i3, j3] at k
    exact J_widen (by omega) (by omega) k
theorem D_Ba_leaderBelow_0 : decode b_Ba_leaderBelow 0 = .ok (.iload_n 1, 1) := by decide +kernel
theorem D_Ba_leaderBelow_1 : decode b_Ba_leaderBelow 1 = .ok (.ifCond .eq 16, 3) := by decide +kernel
theorem D_Ba_leaderBelow_4 : decode b_Ba_leaderBelow 4 = .ok (.aload_n 0, 1) := by decide +kernel
theorem D_Ba_leaderBelow_5 : decode b_Ba_leaderBelow 5 = .ok (.getfield 37, 3) := by decide +kernel
theorem D_Ba_leaderBelow_8 : decode b_Ba_leaderBelow 8 = .ok (.iload_n 1, 1) := by decide +kernel
theorem D_Ba_leaderBelow_9 : decode b_Ba_leaderBelow 9 = .ok (.iload_n 2, 1) := by decide +kernel
theorem D_Ba_leaderBelow_10 : decode b_Ba_leaderBelow 10 = .ok (.iload_n 3, 1) := by decide +kernel
theorem D_Ba_leaderBelow_11 : decode b_Ba_leaderBelow 11 = .ok (.invokevirtual 136, 3) := by decide +kernel
theorem D_Ba_leaderBelow_14 : decode b_Ba_leaderBelow 14 = .ok (.ifCond .ne 5, 3) := by decide +kernel
theorem D_Ba_leaderBelow_17 : decode b_Ba_leaderBelow 17 = .ok (.iconst 0, 1) := by decide +kernel
theorem D_Ba_leaderBelow_18 : decode b_Ba_leaderBelow 18 = .ok (.ireturn, 1) := by decide +kernel
theorem D_Ba_leaderBelow_19 : decode b_Ba_leaderBelow 19 = .ok (.aload_n 0, 1) := by decide +kernel
theorem D_Ba_leaderBelow_20 : decode b_Ba_leaderBelow 20 = .ok (.getfield 30, 3) := by decide +kernel
theorem D_Ba_leaderBelow_23 : decode b_Ba_leaderBelow 23 = .ok (.getstatic 67, 3) := by decide +kernel
theorem D_Ba_leaderBelow_26 : decode b_Ba_leaderBelow 26 = .ok (.iload_n 1, 1) := by decide +kernel
theorem D_Ba_leaderBelow_27 : decode b_Ba_leaderBelow 27 = .ok (.iconst 1, 1) := by decide +kernel
theorem D_Ba_leaderBelow_28 : decode b_Ba_leaderBelow 28 = .ok (.isub, 1) := by decide +kernel
theorem D_Ba_leaderBelow_29 : decode b_Ba_leaderBelow 29 = .ok (.iaload, 1) := by decide +kernel
theorem D_Ba_leaderBelow_30 : decode b_Ba_leaderBelow 30 = .ok (.aload_n 0, 1) := by decide +kernel
theorem D_Ba_leaderBelow_31 : decode b_Ba_leaderBelow 31 = .ok (.getfield 37, 3) := by decide +kernel
theorem D_Ba_leaderBelow_34 : decode b_Ba_leaderBelow 34 = .ok (.iload_n 2, 1) := by decide +kernel
theorem D_Ba_leaderBelow_35 : decode b_Ba_leaderBelow 35 = .ok (.iload_n 3, 1) := by decide +kernel
theorem D_Ba_leaderBelow_36 : decode b_Ba_leaderBelow 36 = .ok (.invokevirtual 139, 3) := by decide +kernel
theorem D_Ba_leaderBelow_39 : decode b_Ba_leaderBelow 39 = .ok (.iadd, 1) := by decide +kernel
theorem D_Ba_leaderBelow_40 : decode b_Ba_leaderBelow 40 = .ok (.iaload, 1) := by decide +kernel
theorem D_Ba_leaderBelow_41 : decode b_Ba_leaderBelow 41 = .ok (.ireturn, 1) := by decide +kernel
abbrev rm_Ba_leaderBelow : Room := { frames := 2, cells := 0, slots := 0, locals := 43 }
def B_Ba_leaderBelow_17 (post : Int32 → Mem → Prop) (M : Mem) : Prop := (post 0 M)
set_option maxRecDepth 20000 in
theorem Z_Ba_leaderBelow_17 {x : Ctx} {post : Int32 → Mem → Prop} (C : Ok x b_Ba_leaderBelow 4 "HeapTower$Base") (hR : xR x = rm_Ba_leaderBelow) (Rt : RetI x .int post 0 0) (M : Mem) (h : B_Ba_leaderBelow_17 post M) : J x 4 17 [] [] 0 0 M := by
  unfold B_Ba_leaderBelow_17 at h
  refine J_iconst (v := 0) C D_Ba_leaderBelow_17 rfl ?_
  exact J_iret C Rt D_Ba_leaderBelow_18 rfl h
def T_Ba_leaderBelow (a0 : Nat) (x1 : Int32) (x2 : Int32) (x3 : Int32) (M : Mem) (post : Int32 → Mem → Prop) : Prop := ((x1 = 0 → (B_Ba_leaderBelow_17 post M)) ∧ (¬ x1 = 0 → (isK M a0 0 ∧ ∃ q5, gR M a0 0 = some q5 ∧ isK M q5 4 ∧ T_Pr_power q5 x1 x2 x3 M (fun r11 M11 => (¬ r11 = 0 → (isK M11 a0 0 ∧ ∃ q20, gR M11 a0 10 = some q20 ∧ vp_in (x1 - 1) 12 ∧ isK M11 a0 0 ∧ ∃ q31, gR M11 a0 0 = some q31 ∧ isK M11 q31 4 ∧ T_Pr_lowered q31 x2 x3 M11 (fun r36 M36 => isZ M36 q20 ((fst (Int32.toNatClampNeg (x1 - 1))) + r36) ∧ post (gI M36 q20 (Int32.toNatClampNeg ((fst (Int32.toNatClampNeg (x1 - 1))) + r36))) M36))) ∧ (r11 = 0 → (B_Ba_leaderBelow_17 post M11))))))
set_option maxRecDepth 20000 in
theorem S_Ba_leaderBelow {l : Launch} {D : va_G} {B t g : Nat} {d : Nat → Nat} {ac : Nat → ClassId}  (a0 : Nat) (x1 : Int32) (x2 : Int32) (x3 : Int32) (M : Mem) (post : Int32 → Mem → Prop) (h : T_Ba_leaderBelow a0 x1 x2 x3 M post) : Met l y_Ba_leaderBelow w_Ba_leaderBelow rm_Ba_leaderBelow (va_Pc [.ref (d a0), .int x1, .int x2, .int x3] (PRE D B d g t ac M)) (QI D B d g ac post) 0 0 (AB B) := by
  refine met_i (by decide +kernel) (Nat.le_of_ble_eq_true rfl) (fun x h1 hR h3 h4 h5 h6 h7 h8 C Rt => ?_)
  subst h3 h4 h5 h6 h7 h8
  unfold T_Ba_leaderBelow at h
  show J x 4 0 [(0, .ref (xd x a0)), (1, .int x1), (2, .int x2), (3, .int x3)] [] 0 0 M
  refine J_iload_n C 1 D_Ba_leaderBelow_0 rfl rfl ?_
  refine J_if_eq (tgt := 17) C D_Ba_leaderBelow_1 (by decide) (fun c_1 => ?_) (fun c_1 => ?_)
  · have h := h.1 c_1
    exact J_sub [] rfl (Z_Ba_leaderBelow_17 C hR Rt  _ h)
  · have h := h.2 c_1
    refine J_aload_n C 0 D_Ba_leaderBelow_4 rfl rfl ?_
    obtain ⟨c_5, q5, e_5, h⟩ := h
    refine J_getR C fl_Ba_37 D_Ba_leaderBelow_5 c_5 e_5 ?_
    refine J_iload_n C 1 D_Ba_leaderBelow_8 rfl rfl ?_
    refine J_iload_n C 2 D_Ba_leaderBelow_9 rfl rfl ?_
    refine J_iload_n C 3 D_Ba_leaderBelow_10 rfl rfl ?_
    obtain ⟨c_11, h⟩ := h
    refine J_callVi C ml_Ba_136 (S_Pr_power _ _ _ _ _ _ h) (by rw [hR]; decide) rfl c_11 rfl (Nat.le_of_ble_eq_true rfl) D_Ba_leaderBelow_11 (fun r11 M11 h => ?_)
    refine J_if_ne (tgt := 19) C D_Ba_leaderBelow_14 (by decide) (fun c_14 => ?_) (fun c_14 => ?_)
    · have h := h.1 c_14
      refine J_aload_n C 0 D_Ba_leaderBelow_19 rfl rfl ?_
      obtain ⟨c_20, q20, e_20, h⟩ := h
      refine J_getR C fl_Ba_30 D_Ba_leaderBelow_20 c_20 e_20 ?_
      refine J_first C (by decide) D_Ba_leaderBelow_23 ?_
      refine J_iload_n C 1 D_Ba_leaderBelow_26 rfl rfl ?_
      refine J_iconst (v := 1) C D_Ba_leaderBelow_27 rfl ?_
      refine J_isub C D_Ba_leaderBelow_28 ?_
      obtain ⟨c_29, h⟩ := h
      refine J_fald C D_Ba_leaderBelow_29 c_29 ?_
      refine J_aload_n C 0 D_Ba_leaderBelow_30 rfl rfl ?_
      obtain ⟨c_31, q31, e_31, h⟩ := h
      refine J_getR C fl_Ba_37 D_Ba_leaderBelow_31 c_31 e_31 ?_
      refine J_iload_n C 2 D_Ba_leaderBelow_34 rfl rfl ?_
      refine J_iload_n C 3 D_Ba_leaderBelow_35 rfl rfl ?_
      obtain ⟨c_36, h⟩ := h
      refine J_callVi C ml_Ba_139 (S_Pr_lowered _ _ _ _ _ h) (by rw [hR]; decide) rfl c_36 rfl (Nat.le_of_ble_eq_true rfl) D_Ba_leaderBelow_36 (fun r36 M36 h => ?_)
      refine J_iadd C D_Ba_leaderBelow_39 ?_
      obtain ⟨c_40, h⟩ := h
      refine J_yald C D_Ba_leaderBelow_40 c_40 ?_
      exact J_iret C Rt D_Ba_leaderBelow_41 rfl h
    · have h := h.2 c_14
      exact J_sub [] rfl (Z_Ba_leaderBelow_17 C hR Rt  _ h)
theorem D_Ba_inherit_0 : decode b_Ba_inherit 0 = .ok (.iconst 0, 1) := by decide +kernel
theorem D_Ba_inherit_1 : decode b_Ba_inherit 1 = .ok (.istore_n 2, 1) := by decide +kernel
theorem D_Ba_inherit_2 : decode b_Ba_inherit 2 = .ok (.iload_n 2, 1) := by decide +kernel
theorem D_Ba_inherit_3 : decode b_Ba_inherit 3 = .ok (.aload_n 0, 1) := by decide +kernel
theorem D_Ba_inherit_4 : decode b_Ba_inherit 4 = .ok (.getfield 37, 3) := by decide +kernel
theorem D_Ba_inherit_7 : decode b_Ba_inherit 7 = .ok (.iload_n 1, 1) := by decide +kernel
theorem D_Ba_inherit_8 : decode b_Ba_inherit 8 = .ok (.invokevirtual 61, 3) := by decide +kernel
theorem D_Ba_inherit_11 : decode b_Ba_inherit 11 = .ok (.if_icmp .ge 66, 3) := by decide +kernel
theorem D_Ba_inherit_14 : decode b_Ba_inherit 14 = .ok (.aload_n 0, 1) := by decide +kernel
theorem D_Ba_inherit_15 : decode b_Ba_inherit 15 = .ok (.getfield 37, 3) := by decide +kernel
theorem D_Ba_inherit_18 : decode b_Ba_inherit 18 = .ok (.iload_n 1, 1) := by decide +kernel
theorem D_Ba_inherit_19 : decode b_Ba_inherit 19 = .ok (.iload_n 2, 1) := by decide +kernel
theorem D_Ba_inherit_20 : decode b_Ba_inherit 20 = .ok (.invokevirtual 99, 3) := by decide +kernel
theorem D_Ba_inherit_23 : decode b_Ba_inherit 23 = .ok (.istore_n 3, 1) := by decide +kernel
theorem D_Ba_inherit_24 : decode b_Ba_inherit 24 = .ok (.iconst 0, 1) := by decide +kernel
theorem D_Ba_inherit_25 : decode b_Ba_inherit 25 = .ok (.istore 4, 2) := by decide +kernel
theorem D_Ba_inherit_27 : decode b_Ba_inherit 27 = .ok (.iconst 0, 1) := by decide +kernel
theorem D_Ba_inherit_28 : decode b_Ba_inherit 28 = .ok (.istore 5, 2) := by decide +kernel
theorem D_Ba_inherit_30 : decode b_Ba_inherit 30 = .ok (.iload 5, 2) := by decide +kernel
theorem D_Ba_inherit_32 : decode b_Ba_inherit 32 = .ok (.iconst 3, 1) := by decide +kernel
theorem D_Ba_inherit_33 : decode b_Ba_inherit 33 = .ok (.if_icmp .ge 24, 3) := by decide +kernel
theorem D_Ba_inherit_36 : decode b_Ba_inherit 36 = .ok (.iload 4, 2) := by decide +kernel
theorem D_Ba_inherit_38 : decode b_Ba_inherit 38 = .ok (.ifCond .ne 19, 3) := by decide +kernel
theorem D_Ba_inherit_41 : decode b_Ba_inherit 41 = .ok (.aload_n 0, 1) := by decide +kernel
theorem D_Ba_inherit_42 : decode b_Ba_inherit 42 = .ok (.iload_n 1, 1) := by decide +kernel
theorem D_Ba_inherit_43 : decode b_Ba_inherit 43 = .ok (.iload_n 3, 1) := by decide +kernel
theorem D_Ba_inherit_44 : decode b_Ba_inherit 44 = .ok (.iload 5, 2) := by decide +kernel
theorem D_Ba_inherit_46 : decode b_Ba_inherit 46 = .ok (.invokevirtual 132, 3) := by decide +kernel
theorem D_Ba_inherit_49 : decode b_Ba_inherit 49 = .ok (.istore 4, 2) := by decide +kernel
theorem D_Ba_inherit_51 : decode b_Ba_inherit 51 = .ok (.iinc 5 1, 3) := by decide +kernel
theorem D_Ba_inherit_54 : decode b_Ba_inherit 54 = .ok (.goto (-24), 3) := by decide +kernel
theorem D_Ba_inherit_57 : decode b_Ba_inherit 57 = .ok (.aload_n 0, 1) := by decide +kernel
theorem D_Ba_inherit_58 : decode b_Ba_inherit 58 = .ok (.getfield 30, 3) := by decide +kernel
theorem D_Ba_inherit_61 : decode b_Ba_inherit 61 = .ok (.getstatic 67, 3) := by decide +kernel
theorem D_Ba_inherit_64 : decode b_Ba_inherit 64 = .ok (.iload_n 1, 1) := by decide +kernel
theorem D_Ba_inherit_65 : decode b_Ba_inherit 65 = .ok (.iaload, 1) := by decide +kernel
theorem D_Ba_inherit_66 : decode b_Ba_inherit 66 = .ok (.iload_n 3, 1) := by decide +kernel
theorem D_Ba_inherit_67 : decode b_Ba_inherit 67 = .ok (.iadd, 1) := by decide +kernel
theorem D_Ba_inherit_68 : decode b_Ba_inherit 68 = .ok (.iload 4, 2) := by decide +kernel
theorem D_Ba_inherit_70 : decode b_Ba_inherit 70 = .ok (.iastore, 1) := by decide +kernel
theorem D_Ba_inherit_71 : decode b_Ba_inherit 71 = .ok (.iinc 2 1, 3) := by decide +kernel
theorem D_Ba_inherit_74 : decode b_Ba_inherit 74 = .ok (.goto (-72), 3) := by decide +kernel
theorem D_Ba_inherit_77 : decode b_Ba_inherit 77 = .ok (.return_, 1) := by decide +kernel
abbrev rm_Ba_inherit : Room := { frames := 3, cells := 0, slots := 0, locals := 66 }
def B_Ba_inherit_57 (k2 : Nat → Int32 → Int32 → Mem → Prop) (post : Mem → Prop) (a0 : Nat) (x1 : Int32) (x2 : Int32) (x3 : Int32) (x4 : Int32) (M : Mem) : Prop := (isK M a0 0 ∧ ∃ q58, gR M a0 10 = some q58 ∧ vp_in x1 12 ∧ isZ M q58 ((fst (Int32.toNatClampNeg x1)) + x3) ∧ k2 a0 x1 (x2 + 1) (sI M q58 (Int32.toNatClampNeg ((fst (Int32.toNatClampNeg x1)) + x3)) x4))
set_option maxRecDepth 20000 in
theorem Z_Ba_inherit_57 {x : Ctx} {post : Mem → Prop} (C : Ok x b_Ba_inherit 6 "HeapTower$Base") (hR : xR x = rm_Ba_inherit) (Rt : RetV x post 0 0) {k2 : Nat → Int32 → Int32 → Mem → Prop} (K2 : ∀ (a0 : Nat) (x1 : Int32) (x2 : Int32) (M : Mem), k2 a0 x1 x2 M → J x 6 2 [(0, .ref (xd x a0)), (1, .int x1), (2, .int x2)] [] 0 0 M) (a0 : Nat) (x1 : Int32) (x2 : Int32) (x3 : Int32) (x4 : Int32) (M : Mem) (h : B_Ba_inherit_57 k2 post a0 x1 x2 x3 x4 M) : J x 6 57 [(0, .ref (xd x a0)), (1, .int x1), (2, .int x2), (3, .int x3), (4, .int x4)] [] 0 0 M := by
  unfold B_Ba_inherit_57 at h
  refine J_aload_n C 0 D_Ba_inherit_57 rfl rfl ?_
  obtain ⟨c_58, q58, e_58, h⟩ := h
  refine J_getR C fl_Ba_30 D_Ba_inherit_58 c_58 e_58 ?_
  refine J_first C (by decide) D_Ba_inherit_61 ?_
  refine J_iload_n C 1 D_Ba_inherit_64 rfl rfl ?_
  obtain ⟨c_65, h⟩ := h
  refine J_fald C D_Ba_inherit_65 c_65 ?_
  refine J_iload_n C 3 D_Ba_inherit_66 rfl rfl ?_
  refine J_iadd C D_Ba_inherit_67 ?_
  refine J_iload C 4 D_Ba_inherit_68 rfl ?_
  obtain ⟨c_70, h⟩ := h
  refine J_yast C D_Ba_inherit_70 c_70 ?_
  refine J_iinc (v := x2 + 1) (lv' := [(2, .int (x2 + 1)), (0, .ref (xd x a0)), (1, .int x1), (3, .int x3), (4, .int x4)]) C 2 2 D_Ba_inherit_71 rfl rfl (by decide) rfl ?_
  refine J_goto (tgt := 2) C D_Ba_inherit_74 (by decide) ?_
  exact J_sub [1, 2, 0] rfl (K2 _ _ _ _ h)
def B_Ba_inherit_30 (k2 : Nat → Int32 → Int32 → Mem → Prop) (k30 : Nat → Int32 → Int32 → Int32 → Int32 → Int32 → Mem → Prop) (post : Mem → Prop) (a0 : Nat) (x1 : Int32) (x2 : Int32) (x3 : Int32) (x4 : Int32) (x5 : Int32) (M : Mem) : Prop := ((3 ≤ x5 → (B_Ba_inherit_57 k2 post a0 x1 x2 x3 x4 M)) ∧ (¬ 3 ≤ x5 → ((¬ x4 = 0 → (B_Ba_inherit_57 k2 post a0 x1 x2 x3 x4 M)) ∧ (x4 = 0 → (isK M a0 0 ∧ T_Ba_leaderBelow a0 x1 x3 x5 M (fun r46 M46 => k30 a0 x1 x2 x3 r46 (x5 + 1) M46))))))
set_option maxRecDepth 20000 in
theorem Z_Ba_inherit_30 {x : Ctx} {post : Mem → Prop} (C : Ok x b_Ba_inherit 6 "HeapTower$Base") (hR : xR x = rm_Ba_inherit) (Rt : RetV x post 0 0) {k2 : Nat → Int32 → Int32 → Mem → Prop} (K2 : ∀ (a0 : Nat) (x1 : Int32) (x2 : Int32) (M : Mem), k2 a0 x1 x2 M → J x 6 2 [(0, .ref (xd x a0)), (1, .int x1), (2, .int x2)] [] 0 0 M) {k30 : Nat → Int32 → Int32 → Int32 → Int32 → Int32 → Mem → Prop} (K30 : ∀ (a0 : Nat) (x1 : Int32) (x2 : Int32) (x3 : Int32) (x4 : Int32) (x5 : Int32) (M : Mem), k30 a0 x1 x2 x3 x4 x5 M → J x 6 30 [(0, .ref (xd x a0)), (1, .int x1), (2, .int x2), (3, .int x3), (4, .int x4), (5, .int x5)] [] 0 0 M) (a0 : Nat) (x1 : Int32) (x2 : Int32) (x3 : Int32) (x4 : Int32) (x5 : Int32) (M : Mem) (h : B_Ba_inherit_30 k2 k30 post a0 x1 x2 x3 x4 x5 M) : J x 6 30 [(0, .ref (xd x a0)), (1, .int x1), (2, .int x2), (3, .int x3), (4, .int x4), (5, .int x5)] [] 0 0 M := by
  unfold B_Ba_inherit_30 at h
  refine J_iload C 5 D_Ba_inherit_30 rfl ?_
  refine J_iconst (v := 3) C D_Ba_inherit_32 rfl ?_
  refine J_icmp_ge (tgt := 57) C D_Ba_inherit_33 (by decide) (fun c_33 => ?_) (fun c_33 => ?_)
  · have h := h.1 c_33
    exact J_sub [0, 1, 2, 3, 4] rfl (Z_Ba_inherit_57 C hR Rt K2 _ _ _ _ _ _ h)
  · have h := h.2 c_33
    refine J_iload C 4 D_Ba_inherit_36 rfl ?_
    refine J_if_ne (tgt := 57) C D_Ba_inherit_38 (by decide) (fun c_38 => ?_) (fun c_38 => ?_)
    · have h := h.1 c_38
      exact J_sub [0, 1, 2, 3, 4] rfl (Z_Ba_inherit_57 C hR Rt K2 _ _ _ _ _ _ h)
    · have h := h.2 c_38
      refine J_aload_n C 0 D_Ba_inherit_41 rfl rfl ?_
      refine J_iload_n C 1 D_Ba_inherit_42 rfl rfl ?_
      refine J_iload_n C 3 D_Ba_inherit_43 rfl rfl ?_
      refine J_iload C 5 D_Ba_inherit_44 rfl ?_
      obtain ⟨c_46, h⟩ := h
      refine J_callVi C ml_Ba_132 (S_Ba_leaderBelow _ _ _ _ _ _ h) (by rw [hR]; decide) rfl c_46 rfl (Nat.le_of_ble_eq_true rfl) D_Ba_inherit_46 (fun r46 M46 h => ?_)
      refine J_istore (lv' := [(4, .int r46), (0, .ref (xd x a0)), (1, .int x1), (2, .int x2), (3, .int x3), (5, .int x5)]) C 4 D_Ba_inherit_49 (by decide) rfl ?_
      refine J_iinc (v := x5 + 1) (lv' := [(5, .int (x5 + 1)), (4, .int r46), (0, .ref (xd x a0)), (1, .int x1), (2, .int x2), (3, .int x3)]) C 5 5 D_Ba_inherit_51 rfl rfl (by decide) rfl ?_
      refine J_goto (tgt := 30) C D_Ba_inherit_54 (by decide) ?_
      exact J_sub [2, 3, 4, 5, 1, 0] rfl (K30 _ _ _ _ _ _ _ h)
def L_Ba_inherit_30 (k2 : Nat → Int32 → Int32 → Mem → Prop) (post : Mem → Prop) : Nat → Nat → Int32 → Int32 → Int32 → Int32 → Int32 → Mem → Prop
  | 0, _, _, _, _, _, _, _ => False
  | n + 1, a0, x1, x2, x3, x4, x5, M => B_Ba_inherit_30 k2 (L_Ba_inherit_30 k2 post n) post a0 x1 x2 x3 x4 x5 M
theorem Y_Ba_inherit_30 {x : Ctx} {post : Mem → Prop} (C : Ok x b_Ba_inherit 6 "HeapTower$Base") (hR : xR x = rm_Ba_inherit) (Rt : RetV x post 0 0) {k2 : Nat → Int32 → Int32 → Mem → Prop} (K2 : ∀ (a0 : Nat) (x1 : Int32) (x2 : Int32) (M : Mem), k2 a0 x1 x2 M → J x 6 2 [(0, .ref (xd x a0)), (1, .int x1), (2, .int x2)] [] 0 0 M) : ∀ (n : Nat) (a0 : Nat) (x1 : Int32) (x2 : Int32) (x3 : Int32) (x4 : Int32) (x5 : Int32) (M : Mem), L_Ba_inherit_30 k2 post n a0 x1 x2 x3 x4 x5 M → J x 6 30 [(0, .ref (xd x a0)), (1, .int x1), (2, .int x2), (3, .int x3), (4, .int x4), (5, .int x5)] [] 0 0 M := by
  intro n
  induction n with
  | zero => intro a0 x1 x2 x3 x4 x5 M h; exact h.elim
  | succ n ih => intro a0 x1 x2 x3 x4 x5 M h; exact Z_Ba_inherit_30 C hR Rt K2 ih _ _ _ _ _ _ _ h
def B_Ba_inherit_2 (k2 : Nat → Int32 → Int32 → Mem → Prop) (post : Mem → Prop) (a0 : Nat) (x1 : Int32) (x2 : Int32) (M : Mem) : Prop := (isK M a0 0 ∧ ∃ q4, gR M a0 0 = some q4 ∧ isK M q4 4 ∧ T_Pr_amount q4 x1 M (fun r8 M8 => (r8 ≤ x2 → (post M8)) ∧ (¬ r8 ≤ x2 → (isK M8 a0 0 ∧ ∃ q15, gR M8 a0 0 = some q15 ∧ isK M8 q15 4 ∧ T_Pr_at q15 x1 x2 M8 (fun r20 M20 => ∃ n, L_Ba_inherit_30 k2 post n a0 x1 x2 r20 0 0 M20)))))
set_option maxRecDepth 20000 in
theorem Z_Ba_inherit_2 {x : Ctx} {post : Mem → Prop} (C : Ok x b_Ba_inherit 6 "HeapTower$Base") (hR : xR x = rm_Ba_inherit) (Rt : RetV x post 0 0) {k2 : Nat → Int32 → Int32 → Mem → Prop} (K2 : ∀ (a0 : Nat) (x1 : Int32) (x2 : Int32) (M : Mem), k2 a0 x1 x2 M → J x 6 2 [(0, .ref (xd x a0)), (1, .int x1), (2, .int x2)] [] 0 0 M) (a0 : Nat) (x1 : Int32) (x2 : Int32) (M : Mem) (h : B_Ba_inherit_2 k2 post a0 x1 x2 M) : J x 6 2 [(0, .ref (xd x a0)), (1, .int x1), (2, .int x2)] [] 0 0 M := by
  unfold B_Ba_inherit_2 at h
  refine J_iload_n C 2 D_Ba_inherit_2 rfl rfl ?_
  refine J_aload_n C 0 D_Ba_inherit_3 rfl rfl ?_
  obtain ⟨c_4, q4, e_4, h⟩ := h
  refine J_getR C fl_Ba_37 D_Ba_inherit_4 c_4 e_4 ?_
  refine J_iload_n C 1 D_Ba_inherit_7 rfl rfl ?_
  obtain ⟨c_8, h⟩ := h
  refine J_callVi C ml_Ba_61 (S_Pr_amount _ _ _ _ h) (by rw [hR]; decide) rfl c_8 rfl (Nat.le_of_ble_eq_true rfl) D_Ba_inherit_8 (fun r8 M8 h => ?_)
  refine J_icmp_ge (tgt := 77) C D_Ba_inherit_11 (by decide) (fun c_11 => ?_) (fun c_11 => ?_)
  · have h := h.1 c_11
    exact J_vret C Rt D_Ba_inherit_77 h
  · have h := h.2 c_11
    refine J_aload_n C 0 D_Ba_inherit_14 rfl rfl ?_
    obtain ⟨c_15, q15, e_15, h⟩ := h
    refine J_getR C fl_Ba_37 D_Ba_inherit_15 c_15 e_15 ?_
    refine J_iload_n C 1 D_Ba_inherit_18 rfl rfl ?_
    refine J_iload_n C 2 D_Ba_inherit_19 rfl rfl ?_
    obtain ⟨c_20, h⟩ := h
    refine J_callVi C ml_Ba_99 (S_Pr_at _ _ _ _ _ h) (by rw [hR]; decide) rfl c_20 rfl (Nat.le_of_ble_eq_true rfl) D_Ba_inherit_20 (fun r20 M20 h => ?_)
    refine J_istore_n (lv' := [(3, .int r20), (0, .ref (xd x a0)), (1, .int x1), (2, .int x2)]) C 3 D_Ba_inherit_23 rfl (by decide) rfl ?_
    refine J_iconst (v := 0) C D_Ba_inherit_24 rfl ?_
    refine J_istore (lv' := [(4, .int 0), (3, .int r20), (0, .ref (xd x a0)), (1, .int x1), (2, .int x2)]) C 4 D_Ba_inherit_25 (by decide) rfl ?_
    refine J_iconst (v := 0) C D_Ba_inherit_27 rfl ?_
    refine J_istore (lv' := [(5, .int 0), (4, .int 0), (3, .int r20), (0, .ref (xd x a0)), (1, .int x1), (2, .int x2)]) C 5 D_Ba_inherit_28 (by decide) rfl ?_
    obtain ⟨n, h⟩ := h
    exact J_sub [3, 4, 5, 2, 1, 0] rfl (Y_Ba_inherit_30 C hR Rt K2 n _ _ _ _ _ _ _ h)
def L_Ba_inherit_2 (post : Mem → Prop) : Nat → Nat → Int32 → Int32 → Mem → Prop
  | 0, _, _, _, _ => False
  | n + 1, a0, x1, x2, M => B_Ba_inherit_2 (L_Ba_inherit_2 post n) post a0 x1 x2 M
theorem Y_Ba_inherit_2 {x : Ctx} {post : Mem → Prop} (C : Ok x b_Ba_inherit 6 "HeapTower$Base") (hR : xR x = rm_Ba_inherit) (Rt : RetV x post 0 0) : ∀ (n : Nat) (a0 : Nat) (x1 : Int32) (x2 : Int32) (M : Mem), L_Ba_inherit_2 post n a0 x1 x2 M → J x 6 2 [(0, .ref (xd x a0)), (1, .int x1), (2, .int x2)] [] 0 0 M := by
  intro n
  induction n with
  | zero => intro a0 x1 x2 M h; exact h.elim
  | succ n ih => intro a0 x1 x2 M h; exact Z_Ba_inherit_2 C hR Rt ih _ _ _ _ h
def T_Ba_inherit (a0 : Nat) (x1 : Int32) (M : Mem) (post : Mem → Prop) : Prop := (∃ n, L_Ba_inherit_2 post n a0 x1 0 M)
set_option maxRecDepth 20000 in
theorem S_Ba_inherit {l : Launch} {D : va_G} {B t g : Nat} {d : Nat → Nat} {ac : Nat → ClassId}  (a0 : Nat) (x1 : Int32) (M : Mem) (post : Mem → Prop) (h : T_Ba_inherit a0 x1 M post) : Met l y_Ba_inherit w_Ba_inherit rm_Ba_inherit (va_Pc [.ref (d a0), .int x1] (PRE D B d g t ac M)) (QV D B d g ac post) 0 0 (AB B) := by
  refine met_v (by decide +kernel) (Nat.le_of_ble_eq_true rfl) (fun x h1 hR h3 h4 h5 h6 h7 h8 C Rt Nm => ?_)
  subst h3 h4 h5 h6 h7 h8
  unfold T_Ba_inherit at h
  show J x 6 0 [(0, .ref (xd x a0)), (1, .int x1)] [] 0 0 M
  refine J_iconst (v := 0) C D_Ba_inherit_0 rfl ?_
  refine J_istore_n (lv' := [(2, .int 0), (0, .ref (xd x a0)), (1, .int x1)]) C 2 D_Ba_inherit_1 rfl (by decide) rfl ?_
  obtain ⟨n, h⟩ := h
  exact J_sub [1, 2, 0] rfl (Y_Ba_inherit_2 C hR Rt  n _ _ _ _ h)
theorem D_Ba_isNews_0 : decode b_Ba_isNews 0 = .ok (.aload_n 0, 1) := by decide +kernel
theorem D_Ba_isNews_1 : decode b_Ba_isNews 1 = .ok (.getfield 27, 3) := by decide +kernel
theorem D_Ba_isNews_4 : decode b_Ba_isNews 4 = .ok (.aload_n 0, 1) := by decide +kernel
theorem D_Ba_isNews_5 : decode b_Ba_isNews 5 = .ok (.getfield 9, 3) := by decide +kernel
theorem D_Ba_isNews_8 : decode b_Ba_isNews 8 = .ok (.iload_n 3, 1) := by decide +kernel
theorem D_Ba_isNews_9 : decode b_Ba_isNews 9 = .ok (.iaload, 1) := by decide +kernel
theorem D_Ba_isNews_10 : decode b_Ba_isNews 10 = .ok (.iaload, 1) := by decide +kernel
theorem D_Ba_isNews_11 : decode b_Ba_isNews 11 = .ok (.bipush 127, 2) := by decide +kernel
theorem D_Ba_isNews_13 : decode b_Ba_isNews 13 = .ok (.iand, 1) := by decide +kernel
theorem D_Ba_isNews_14 : decode b_Ba_isNews 14 = .ok (.istore 5, 2) := by decide +kernel
theorem D_Ba_isNews_16 : decode b_Ba_isNews 16 = .ok (.aload_n 0, 1) := by decide +kernel
theorem D_Ba_isNews_17 : decode b_Ba_isNews 17 = .ok (.getfield 27, 3) := by decide +kernel
theorem D_Ba_isNews_20 : decode b_Ba_isNews 20 = .ok (.aload_n 0, 1) := by decide +kernel
theorem D_Ba_isNews_21 : decode b_Ba_isNews 21 = .ok (.getfield 9, 3) := by decide +kernel
theorem D_Ba_isNews_24 : decode b_Ba_isNews 24 = .ok (.iload 4, 2) := by decide +kernel
theorem D_Ba_isNews_26 : decode b_Ba_isNews 26 = .ok (.iaload, 1) := by decide +kernel
theorem D_Ba_isNews_27 : decode b_Ba_isNews 27 = .ok (.iaload, 1) := by decide +kernel
theorem D_Ba_isNews_28 : decode b_Ba_isNews 28 = .ok (.bipush 127, 2) := by decide +kernel
theorem D_Ba_isNews_30 : decode b_Ba_isNews 30 = .ok (.iand, 1) := by decide +kernel
theorem D_Ba_isNews_31 : decode b_Ba_isNews 31 = .ok (.istore 6, 2) := by decide +kernel
theorem D_Ba_isNews_33 : decode b_Ba_isNews 33 = .ok (.iconst 0, 1) := by decide +kernel
theorem D_Ba_isNews_34 : decode b_Ba_isNews 34 = .ok (.istore 7, 2) := by decide +kernel
theorem D_Ba_isNews_36 : decode b_Ba_isNews 36 = .ok (.iconst 0, 1) := by decide +kernel
theorem D_Ba_isNews_37 : decode b_Ba_isNews 37 = .ok (.istore 8, 2) := by decide +kernel
theorem D_Ba_isNews_39 : decode b_Ba_isNews 39 = .ok (.iload 8, 2) := by decide +kernel
theorem D_Ba_isNews_41 : decode b_Ba_isNews 41 = .ok (.iconst 3, 1) := by decide +kernel
theorem D_Ba_isNews_42 : decode b_Ba_isNews 42 = .ok (.if_icmp .ge 93, 3) := by decide +kernel
theorem D_Ba_isNews_45 : decode b_Ba_isNews 45 = .ok (.aload_n 0, 1) := by decide +kernel
theorem D_Ba_isNews_46 : decode b_Ba_isNews 46 = .ok (.getfield 37, 3) := by decide +kernel
theorem D_Ba_isNews_49 : decode b_Ba_isNews 49 = .ok (.aload_n 0, 1) := by decide +kernel
theorem D_Ba_isNews_50 : decode b_Ba_isNews 50 = .ok (.getfield 15, 3) := by decide +kernel
theorem D_Ba_isNews_53 : decode b_Ba_isNews 53 = .ok (.iload_n 3, 1) := by decide +kernel
theorem D_Ba_isNews_54 : decode b_Ba_isNews 54 = .ok (.iaload, 1) := by decide +kernel
theorem D_Ba_isNews_55 : decode b_Ba_isNews 55 = .ok (.iload 5, 2) := by decide +kernel
theorem D_Ba_isNews_57 : decode b_Ba_isNews 57 = .ok (.iload 8, 2) := by decide +kernel
theorem D_Ba_isNews_59 : decode b_Ba_isNews 59 = .ok (.invokevirtual 136, 3) := by decide +kernel
theorem D_Ba_isNews_62 : decode b_Ba_isNews 62 = .ok (.istore 9, 2) := by decide +kernel
theorem D_Ba_isNews_64 : decode b_Ba_isNews 64 = .ok (.aload_n 0, 1) := by decide +kernel
theorem D_Ba_isNews_65 : decode b_Ba_isNews 65 = .ok (.getfield 37, 3) := by decide +kernel
theorem D_Ba_isNews_68 : decode b_Ba_isNews 68 = .ok (.aload_n 0, 1) := by decide +kernel
theorem D_Ba_isNews_69 : decode b_Ba_isNews 69 = .ok (.getfield 15, 3) := by decide +kernel
theorem D_Ba_isNews_72 : decode b_Ba_isNews 72 = .ok (.iload 4, 2) := by decide +kernel
theorem D_Ba_isNews_74 : decode b_Ba_isNews 74 = .ok (.iaload, 1) := by decide +kernel
theorem D_Ba_isNews_75 : decode b_Ba_isNews 75 = .ok (.iload 6, 2) := by decide +kernel
theorem D_Ba_isNews_77 : decode b_Ba_isNews 77 = .ok (.iload 8, 2) := by decide +kernel
theorem D_Ba_isNews_79 : decode b_Ba_isNews 79 = .ok (.invokevirtual 136, 3) := by decide +kernel
theorem D_Ba_isNews_82 : decode b_Ba_isNews 82 = .ok (.istore 10, 2) := by decide +kernel
theorem D_Ba_isNews_84 : decode b_Ba_isNews 84 = .ok (.iload 9, 2) := by decide +kernel
theorem D_Ba_isNews_86 : decode b_Ba_isNews 86 = .ok (.iload 10, 2) := by decide +kernel
theorem D_Ba_isNews_88 : decode b_Ba_isNews 88 = .ok (.invokestatic 52, 3) := by decide +kernel
theorem D_Ba_isNews_91 : decode b_Ba_isNews 91 = .ok (.aload_n 0, 1) := by decide +kernel
theorem D_Ba_isNews_92 : decode b_Ba_isNews 92 = .ok (.getfield 37, 3) := by decide +kernel
theorem D_Ba_isNews_95 : decode b_Ba_isNews 95 = .ok (.iload_n 1, 1) := by decide +kernel
theorem D_Ba_isNews_96 : decode b_Ba_isNews 96 = .ok (.iload_n 2, 1) := by decide +kernel
theorem D_Ba_isNews_97 : decode b_Ba_isNews 97 = .ok (.iload 8, 2) := by decide +kernel
theorem D_Ba_isNews_99 : decode b_Ba_isNews 99 = .ok (.invokevirtual 136, 3) := by decide +kernel
theorem D_Ba_isNews_102 : decode b_Ba_isNews 102 = .ok (.if_icmp .eq 5, 3) := by decide +kernel
theorem D_Ba_isNews_105 : decode b_Ba_isNews 105 = .ok (.iconst 0, 1) := by decide +kernel
theorem D_Ba_isNews_106 : decode b_Ba_isNews 106 = .ok (.ireturn, 1) := by decide +kernel
theorem D_Ba_isNews_107 : decode b_Ba_isNews 107 = .ok (.iload 7, 2) := by decide +kernel
theorem D_Ba_isNews_109 : decode b_Ba_isNews 109 = .ok (.ifCond .ne 13, 3) := by decide +kernel
theorem D_Ba_isNews_112 : decode b_Ba_isNews 112 = .ok (.iload 9, 2) := by decide +kernel
theorem D_Ba_isNews_114 : decode b_Ba_isNews 114 = .ok (.iload 10, 2) := by decide +kernel
theorem D_Ba_isNews_116 : decode b_Ba_isNews 116 = .ok (.invokestatic 150, 3) := by decide +kernel
theorem D_Ba_isNews_119 : decode b_Ba_isNews 119 = .ok (.ifCond .le 7, 3) := by decide +kernel
theorem D_Ba_isNews_122 : decode b_Ba_isNews 122 = .ok (.iconst 1, 1) := by decide +kernel
theorem D_Ba_isNews_123 : decode b_Ba_isNews 123 = .ok (.goto 4, 3) := by decide +kernel
theorem D_Ba_isNews_126 : decode b_Ba_isNews 126 = .ok (.iconst 0, 1) := by decide +kernel
theorem D_Ba_isNews_127 : decode b_Ba_isNews 127 = .ok (.istore 7, 2) := by decide +kernel
theorem D_Ba_isNews_129 : decode b_Ba_isNews 129 = .ok (.iinc 8 1, 3) := by decide +kernel
theorem D_Ba_isNews_132 : decode b_Ba_isNews 132 = .ok (.goto (-93), 3) := by decide +kernel
theorem D_Ba_isNews_135 : decode b_Ba_isNews 135 = .ok (.iload 7, 2) := by decide +kernel
theorem D_Ba_isNews_137 : decode b_Ba_isNews 137 = .ok (.ireturn, 1) := by decide +kernel
abbrev rm_Ba_isNews : Room := { frames := 1, cells := 0, slots := 0, locals := 23 }
def B_Ba_isNews_127 (k39 : Nat → Int32 → Int32 → Int32 → Int32 → Int32 → Int32 → Int32 → Int32 → Mem → Prop) (post : Int32 → Mem → Prop) (a0 : Nat) (x1 : Int32) (x2 : Int32) (x3 : Int32) (x4 : Int32) (x5 : Int32) (x6 : Int32) (x8 : Int32) (s0 : Int32) (M : Mem) : Prop := (k39 a0 x1 x2 x3 x4 x5 x6 s0 (x8 + 1) M)
set_option maxRecDepth 20000 in
theorem Z_Ba_isNews_127 {x : Ctx} {post : Int32 → Mem → Prop} (C : Ok x b_Ba_isNews 11 "HeapTower$Base") (hR : xR x = rm_Ba_isNews) (Rt : RetI x .boolean post 0 0) {k39 : Nat → Int32 → Int32 → Int32 → Int32 → Int32 → Int32 → Int32 → Int32 → Mem → Prop} (K39 : ∀ (a0 : Nat) (x1 : Int32) (x2 : Int32) (x3 : Int32) (x4 : Int32) (x5 : Int32) (x6 : Int32) (x7 : Int32) (x8 : Int32) (M : Mem), k39 a0 x1 x2 x3 x4 x5 x6 x7 x8 M → J x 11 39 [(0, .ref (xd x a0)), (1, .int x1), (2, .int x2), (3, .int x3), (4, .int x4), (5, .int x5), (6, .int x6), (7, .int x7), (8, .int x8)] [] 0 0 M) (a0 : Nat) (x1 : Int32) (x2 : Int32) (x3 : Int32) (x4 : Int32) (x5 : Int32) (x6 : Int32) (x8 : Int32) (s0 : Int32) (M : Mem) (h : B_Ba_isNews_127 k39 post a0 x1 x2 x3 x4 x5 x6 x8 s0 M) : J x 11 127 [(0, .ref (xd x a0)), (1, .int x1), (2, .int x2), (3, .int x3), (4, .int x4), (5, .int x5), (6, .int x6), (8, .int x8)] [.int s0] 0 0 M := by
  unfold B_Ba_isNews_127 at h
  refine J_istore (lv' := [(7, .int s0), (0, .ref (xd x a0)), (1, .int x1), (2, .int x2), (3, .int x3), (4, .int x4), (5, .int x5), (6, .int x6), (8, .int x8)]) C 7 D_Ba_isNews_127 (by decide) rfl ?_
  refine J_iinc (v := x8 + 1) (lv' := [(8, .int (x8 + 1)), (7, .int s0), (0, .ref (xd x a0)), (1, .int x1), (2, .int x2), (3, .int x3), (4, .int x4), (5, .int x5), (6, .int x6)]) C 8 8 D_Ba_isNews_129 rfl rfl (by decide) rfl ?_
  refine J_goto (tgt := 39) C D_Ba_isNews_132 (by decide) ?_
  exact J_sub [2, 3, 4, 5, 6, 7, 8, 1, 0] rfl (K39 _ _ _ _ _ _ _ _ _ _ h)
def B_Ba_isNews_122 (k39 : Nat → Int32 → Int32 → Int32 → Int32 → Int32 → Int32 → Int32 → Int32 → Mem → Prop) (post : Int32 → Mem → Prop) (a0 : Nat) (x1 : Int32) (x2 : Int32) (x3 : Int32) (x4 : Int32) (x5 : Int32) (x6 : Int32) (x8 : Int32) (M : Mem) : Prop := (B_Ba_isNews_127 k39 post a0 x1 x2 x3 x4 x5 x6 x8 1 M)
set_option maxRecDepth 20000 in
theorem Z_Ba_isNews_122 {x : Ctx} {post : Int32 → Mem → Prop} (C : Ok x b_Ba_isNews 11 "HeapTower$Base") (hR : xR x = rm_Ba_isNews) (Rt : RetI x .boolean post 0 0) {k39 : Nat → Int32 → Int32 → Int32 → Int32 → Int32 → Int32 → Int32 → Int32 → Mem → Prop} (K39 : ∀ (a0 : Nat) (x1 : Int32) (x2 : Int32) (x3 : Int32) (x4 : Int32) (x5 : Int32) (x6 : Int32) (x7 : Int32) (x8 : Int32) (M : Mem), k39 a0 x1 x2 x3 x4 x5 x6 x7 x8 M → J x 11 39 [(0, .ref (xd x a0)), (1, .int x1), (2, .int x2), (3, .int x3), (4, .int x4), (5, .int x5), (6, .int x6), (7, .int x7), (8, .int x8)] [] 0 0 M) (a0 : Nat) (x1 : Int32) (x2 : Int32) (x3 : Int32) (x4 : Int32) (x5 : Int32) (x6 : Int32) (x8 : Int32) (M : Mem) (h : B_Ba_isNews_122 k39 post a0 x1 x2 x3 x4 x5 x6 x8 M) : J x 11 122 [(0, .ref (xd x a0)), (1, .int x1), (2, .int x2), (3, .int x3), (4, .int x4), (5, .int x5), (6, .int x6), (8, .int x8)] [] 0 0 M := by
  unfold B_Ba_isNews_122 at h
  refine J_iconst (v := 1) C D_Ba_isNews_122 rfl ?_
  refine J_goto (tgt := 127) C D_Ba_isNews_123 (by decide) ?_
  exact J_sub [0, 1, 2, 3, 4, 5, 6, 7] rfl (Z_Ba_isNews_127 C hR Rt K39 _ _ _ _ _ _ _ _ _ _ h)
def B_Ba_isNews_39 (k39 : Nat → Int32 → Int32 → Int32 → Int32 → Int32 → Int32 → Int32 → Int32 → Mem → Prop) (post : Int32 → Mem → Prop) (a0 : Nat) (x1 : Int32) (x2 : Int32) (x3 : Int32) (x4 : Int32) (x5 : Int32) (x6 : Int32) (x7 : Int32) (x8 : Int32) (M : Mem) : Prop := ((3 ≤ x8 → (narrow .boolean (.int x7) = .int x7 ∧ post x7 M)) ∧ (¬ 3 ≤ x8 → (isK M a0 0 ∧ ∃ q46, gR M a0 0 = some q46 ∧ isK M a0 0 ∧ ∃ q50, gR M a0 5 = some q50 ∧ isA M q50 8 x3 ∧ isK M q46 4 ∧ T_Pr_power q46 (gI M q50 (Int32.toNatClampNeg x3)) x5 x8 M (fun r59 M59 => isK M59 a0 0 ∧ ∃ q65, gR M59 a0 0 = some q65 ∧ isK M59 a0 0 ∧ ∃ q69, gR M59 a0 5 = some q69 ∧ isA M59 q69 8 x4 ∧ isK M59 q65 4 ∧ T_Pr_power q65 (gI M59 q69 (Int32.toNatClampNeg x4)) x6 x8 M59 (fun r79 M79 => T_Ma_max r59 r79 M79 (fun r88 M88 => isK M88 a0 0 ∧ ∃ q92, gR M88 a0 0 = some q92 ∧ isK M88 q92 4 ∧ T_Pr_power q92 x1 x2 x8 M88 (fun r99 M99 => (r88 = r99 → ((¬ x7 = 0 → (B_Ba_isNews_122 k39 post a0 x1 x2 x3 x4 x5 x6 x8 M99)) ∧ (x7 = 0 → (T_Ma_min r59 r79 M99 (fun r116 M116 => (r116 ≤ 0 → (B_Ba_isNews_127 k39 post a0 x1 x2 x3 x4 x5 x6 x8 0 M116)) ∧ (¬ r116 ≤ 0 → (B_Ba_isNews_122 k39 post a0 x1 x2 x3 x4 x5 x6 x8 M116))))))) ∧ (¬ r88 = r99 → (narrow .boolean (.int 0) = .int 0 ∧ post 0 M99)))))))))
set_option maxRecDepth 20000 in
theorem Z_Ba_isNews_39 {x : Ctx} {post : Int32 → Mem → Prop} (C : Ok x b_Ba_isNews 11 "HeapTower$Base") (hR : xR x = rm_Ba_isNews) (Rt : RetI x .boolean post 0 0) {k39 : Nat → Int32 → Int32 → Int32 → Int32 → Int32 → Int32 → Int32 → Int32 → Mem → Prop} (K39 : ∀ (a0 : Nat) (x1 : Int32) (x2 : Int32) (x3 : Int32) (x4 : Int32) (x5 : Int32) (x6 : Int32) (x7 : Int32) (x8 : Int32) (M : Mem), k39 a0 x1 x2 x3 x4 x5 x6 x7 x8 M → J x 11 39 [(0, .ref (xd x a0)), (1, .int x1), (2, .int x2), (3, .int x3), (4, .int x4), (5, .int x5), (6, .int x6), (7, .int x7), (8, .int x8)] [] 0 0 M) (a0 : Nat) (x1 : Int32) (x2 : Int32) (x3 : Int32) (x4 : Int32) (x5 : Int32) (x6 : Int32) (x7 : Int32) (x8 : Int32) (M : Mem) (h : B_Ba_isNews_39 k39 post a0 x1 x2 x3 x4 x5 x6 x7 x8 M) : J x 11 39 [(0, .ref (xd x a0)), (1, .int x1), (2, .int x2), (3, .int x3), (4, .int x4), (5, .int x5), (6, .int x6), (7, .int x7), (8, .int x8)] [] 0 0 M := by
  unfold B_Ba_isNews_39 at h
  refine J_iload C 8 D_Ba_isNews_39 rfl ?_
  refine J_iconst (v := 3) C D_Ba_isNews_41 rfl ?_
  refine J_icmp_ge (tgt := 135) C D_Ba_isNews_42 (by decide) (fun c_42 => ?_) (fun c_42 => ?_)
  · have h := h.1 c_42
    refine J_iload C 7 D_Ba_isNews_135 rfl ?_
    obtain ⟨c_137, h⟩ := h
    exact J_iret C Rt D_Ba_isNews_137 c_137 h
  · have h := h.2 c_42
    refine J_aload_n C 0 D_Ba_isNews_45 rfl rfl ?_
    obtain ⟨c_46, q46, e_46, h⟩ := h
    refine J_getR C fl_Ba_37 D_Ba_isNews_46 c_46 e_46 ?_
    refine J_aload_n C 0 D_Ba_isNews_49 rfl rfl ?_
    obtain ⟨c_50, q50, e_50, h⟩ := h
    refine J_getR C fl_Ba_15 D_Ba_isNews_50 c_50 e_50 ?_
    refine J_iload_n C 3 D_Ba_isNews_53 rfl rfl ?_
    obtain ⟨c_54, h⟩ := h
    refine J_iald C D_Ba_isNews_54 c_54 ?_
    refine J_iload C 5 D_Ba_isNews_55 rfl ?_
    refine J_iload C 8 D_Ba_isNews_57 rfl ?_
    obtain ⟨c_59, h⟩ := h
    refine J_callVi C ml_Ba_136 (S_Pr_power _ _ _ _ _ _ h) (by rw [hR]; decide) rfl c_59 rfl (Nat.le_of_ble_eq_true rfl) D_Ba_isNews_59 (fun r59 M59 h => ?_)
    refine J_istore (lv' := [(9, .int r59), (0, .ref (xd x a0)), (1, .int x1), (2, .int x2), (3, .int x3), (4, .int x4), (5, .int x5), (6, .int x6), (7, .int x7), (8, .int x8)]) C 9 D_Ba_isNews_62 (by decide) rfl ?_
    refine J_aload_n C 0 D_Ba_isNews_64 rfl rfl ?_
    obtain ⟨c_65, q65, e_65, h⟩ := h
    refine J_getR C fl_Ba_37 D_Ba_isNews_65 c_65 e_65 ?_
    refine J_aload_n C 0 D_Ba_isNews_68 rfl rfl ?_
    obtain ⟨c_69, q69, e_69, h⟩ := h
    refine J_getR C fl_Ba_15 D_Ba_isNews_69 c_69 e_69 ?_
    refine J_iload C 4 D_Ba_isNews_72 rfl ?_
    obtain ⟨c_74, h⟩ := h
    refine J_iald C D_Ba_isNews_74 c_74 ?_
    refine J_iload C 6 D_Ba_isNews_75 rfl ?_
    refine J_iload C 8 D_Ba_isNews_77 rfl ?_
    obtain ⟨c_79, h⟩ := h
    refine J_callVi C ml_Ba_136 (S_Pr_power _ _ _ _ _ _ h) (by rw [hR]; decide) rfl c_79 rfl (Nat.le_of_ble_eq_true rfl) D_Ba_isNews_79 (fun r79 M79 h => ?_)
    refine J_istore (lv' := [(10, .int r79), (9, .int r59), (0, .ref (xd x a0)), (1, .int x1), (2, .int x2), (3, .int x3), (4, .int x4), (5, .int x5), (6, .int x6), (7, .int x7), (8, .int x8)]) C 10 D_Ba_isNews_82 (by decide) rfl ?_
    refine J_iload C 9 D_Ba_isNews_84 rfl ?_
    refine J_iload C 10 D_Ba_isNews_86 rfl ?_
    refine J_callSi C ml_Ba_52 (S_Ma_max _ _ _ _ h) (by rw [hR]; decide) rfl rfl (Nat.le_of_ble_eq_true rfl) D_Ba_isNews_88 (fun r88 M88 h => ?_)
    refine J_aload_n C 0 D_Ba_isNews_91 rfl rfl ?_
    obtain ⟨c_92, q92, e_92, h⟩ := h
    refine J_getR C fl_Ba_37 D_Ba_isNews_92 c_92 e_92 ?_
    refine J_iload_n C 1 D_Ba_isNews_95 rfl rfl ?_
    refine J_iload_n C 2 D_Ba_isNews_96 rfl rfl ?_
    refine J_iload C 8 D_Ba_isNews_97 rfl ?_
    obtain ⟨c_99, h⟩ := h
    refine J_callVi C ml_Ba_136 (S_Pr_power _ _ _ _ _ _ h) (by rw [hR]; decide) rfl c_99 rfl (Nat.le_of_ble_eq_true rfl) D_Ba_isNews_99 (fun r99 M99 h => ?_)
    refine J_icmp_eq (tgt := 107) C D_Ba_isNews_102 (by decide) (fun c_102 => ?_) (fun c_102 => ?_)
    · have h := h.1 c_102
      refine J_iload C 7 D_Ba_isNews_107 rfl ?_
      refine J_if_ne (tgt := 122) C D_Ba_isNews_109 (by decide) (fun c_109 => ?_) (fun c_109 => ?_)
      · have h := h.1 c_109
        exact J_sub [2, 3, 4, 5, 6, 7, 8, 10] rfl (Z_Ba_isNews_122 C hR Rt K39 _ _ _ _ _ _ _ _ _ h)
      · have h := h.2 c_109
        refine J_iload C 9 D_Ba_isNews_112 rfl ?_
        refine J_iload C 10 D_Ba_isNews_114 rfl ?_
        refine J_callSi C ml_Ba_150 (S_Ma_min _ _ _ _ h) (by rw [hR]; decide) rfl rfl (Nat.le_of_ble_eq_true rfl) D_Ba_isNews_116 (fun r116 M116 h => ?_)
        refine J_if_le (tgt := 126) C D_Ba_isNews_119 (by decide) (fun c_119 => ?_) (fun c_119 => ?_)
        · have h := h.1 c_119
          refine J_iconst (v := 0) C D_Ba_isNews_126 rfl ?_
          exact J_sub [2, 3, 4, 5, 6, 7, 8, 10] rfl (Z_Ba_isNews_127 C hR Rt K39 _ _ _ _ _ _ _ _ _ _ h)
        · have h := h.2 c_119
          exact J_sub [2, 3, 4, 5, 6, 7, 8, 10] rfl (Z_Ba_isNews_122 C hR Rt K39 _ _ _ _ _ _ _ _ _ h)
    · have h := h.2 c_102
      refine J_iconst (v := 0) C D_Ba_isNews_105 rfl ?_
      obtain ⟨c_106, h⟩ := h
      exact J_iret C Rt D_Ba_isNews_106 c_106 h
def L_Ba_isNews_39 (post : Int32 → Mem → Prop) : Nat → Nat → Int32 → Int32 → Int32 → Int32 → Int32 → Int32 → Int32 → Int32 → Mem → Prop
  | 0, _, _, _, _, _, _, _, _, _, _ => False
  | n + 1, a0, x1, x2, x3, x4, x5, x6, x7, x8, M => B_Ba_isNews_39 (L_Ba_isNews_39 post n) post a0 x1 x2 x3 x4 x5 x6 x7 x8 M
theorem Y_Ba_isNews_39 {x : Ctx} {post : Int32 → Mem → Prop} (C : Ok x b_Ba_isNews 11 "HeapTower$Base") (hR : xR x = rm_Ba_isNews) (Rt : RetI x .boolean post 0 0) : ∀ (n : Nat) (a0 : Nat) (x1 : Int32) (x2 : Int32) (x3 : Int32) (x4 : Int32) (x5 : Int32) (x6 : Int32) (x7 : Int32) (x8 : Int32) (M : Mem), L_Ba_isNews_39 post n a0 x1 x2 x3 x4 x5 x6 x7 x8 M → J x 11 39 [(0, .ref (xd x a0)), (1, .int x1), (2, .int x2), (3, .int x3), (4, .int x4), (5, .int x5), (6, .int x6), (7, .int x7), (8, .int x8)] [] 0 0 M := by
  intro n
  induction n with
  | zero => intro a0 x1 x2 x3 x4 x5 x6 x7 x8 M h; exact h.elim
  | succ n ih => intro a0 x1 x2 x3 x4 x5 x6 x7 x8 M h; exact Z_Ba_isNews_39 C hR Rt ih _ _ _ _ _ _ _ _ _ _ h
def T_Ba_isNews (a0 : Nat) (x1 : Int32) (x2 : Int32) (x3 : Int32) (x4 : Int32) (M : Mem) (post : Int32 → Mem → Prop) : Prop := (isK M a0 0 ∧ ∃ q1, gR M a0 9 = some q1 ∧ isK M a0 0 ∧ ∃ q5, gR M a0 4 = some q5 ∧ isA M q5 8 x3 ∧ isZ M q1 (gI M q5 (Int32.toNatClampNeg x3)) ∧ isK M a0 0 ∧ ∃ q17, gR M a0 9 = some q17 ∧ isK M a0 0 ∧ ∃ q21, gR M a0 4 = some q21 ∧ isA M q21 8 x4 ∧ isZ M q17 (gI M q21 (Int32.toNatClampNeg x4)) ∧ ∃ n, L_Ba_isNews_39 post n a0 x1 x2 x3 x4 ((gI M q1 (Int32.toNatClampNeg (gI M q5 (Int32.toNatClampNeg x3)))) &&& 127) ((gI M q17 (Int32.toNatClampNeg (gI M q21 (Int32.toNatClampNeg x4)))) &&& 127) 0 0 M)
set_option maxRecDepth 20000 in
theorem S_Ba_isNews {l : Launch} {D : va_G} {B t g : Nat} {d : Nat → Nat} {ac : Nat → ClassId}  (a0 : Nat) (x1 : Int32) (x2 : Int32) (x3 : Int32) (x4 : Int32) (M : Mem) (post : Int32 → Mem → Prop) (h : T_Ba_isNews a0 x1 x2 x3 x4 M post) : Met l y_Ba_isNews w_Ba_isNews rm_Ba_isNews (va_Pc [.ref (d a0), .int x1, .int x2, .int x3, .int x4] (PRE D B d g t ac M)) (QI D B d g ac post) 0 0 (AB B) := by
  refine met_i (by decide +kernel) (Nat.le_of_ble_eq_true rfl) (fun x h1 hR h3 h4 h5 h6 h7 h8 C Rt => ?_)
  subst h3 h4 h5 h6 h7 h8
  unfold T_Ba_isNews at h
  show J x 11 0 [(0, .ref (xd x a0)), (1, .int x1), (2, .int x2), (3, .int x3), (4, .int x4)] [] 0 0 M
  refine J_aload_n C 0 D_Ba_isNews_0 rfl rfl ?_
  obtain ⟨c_1, q1, e_1, h⟩ := h
  refine J_getR C fl_Ba_27 D_Ba_isNews_1 c_1 e_1 ?_
  refine J_aload_n C 0 D_Ba_isNews_4 rfl rfl ?_
  obtain ⟨c_5, q5, e_5, h⟩ := h
  refine J_getR C fl_Ba_9 D_Ba_isNews_5 c_5 e_5 ?_
  refine J_iload_n C 3 D_Ba_isNews_8 rfl rfl ?_
  obtain ⟨c_9, h⟩ := h
  refine J_iald C D_Ba_isNews_9 c_9 ?_
  obtain ⟨c_10, h⟩ := h
  refine J_yald C D_Ba_isNews_10 c_10 ?_
  refine J_bipush (v := 127) C D_Ba_isNews_11 rfl ?_
  refine J_iand C D_Ba_isNews_13 ?_
  refine J_istore (lv' := [(5, .int ((gI M q1 (Int32.toNatClampNeg (gI M q5 (Int32.toNatClampNeg x3)))) &&& 127)), (0, .ref (xd x a0)), (1, .int x1), (2, .int x2), (3, .int x3), (4, .int x4)]) C 5 D_Ba_isNews_14 (by decide) rfl ?_
  refine J_aload_n C 0 D_Ba_isNews_16 rfl rfl ?_
  obtain ⟨c_17, q17, e_17, h⟩ := h
  refine J_getR C fl_Ba_27 D_Ba_isNews_17 c_17 e_17 ?_
  refine J_aload_n C 0 D_Ba_isNews_20 rfl rfl ?_
  obtain ⟨c_21, q21, e_21, h⟩ := h
  refine J_getR C fl_Ba_9 D_Ba_isNews_21 c_21 e_21 ?_
  refine J_iload C 4 D_Ba_isNews_24 rfl ?_
  obtain ⟨c_26, h⟩ := h
  refine J_iald C D_Ba_isNews_26 c_26 ?_
  obtain ⟨c_27, h⟩ := h
  refine J_yald C D_Ba_isNews_27 c_27 ?_
  refine J_bipush (v := 127) C D_Ba_isNews_28 rfl ?_
  refine J_iand C D_Ba_isNews_30 ?_
  refine J_istore (lv' := [(6, .int ((gI M q17 (Int32.toNatClampNeg (gI M q21 (Int32.toNatClampNeg x4)))) &&& 127)), (5, .int ((gI M q1 (Int32.toNatClampNeg (gI M q5 (Int32.toNatClampNeg x3)))) &&& 127)), (0, .ref (xd x a0)), (1, .int x1), (2, .int x2), (3, .int x3), (4, .int x4)]) C 6 D_Ba_isNews_31 (by decide) rfl ?_
  refine J_iconst (v := 0) C D_Ba_isNews_33 rfl ?_
  refine J_istore (lv' := [(7, .int 0), (6, .int ((gI M q17 (Int32.toNatClampNeg (gI M q21 (Int32.toNatClampNeg x4)))) &&& 127)), (5, .int ((gI M q1 (Int32.toNatClampNeg (gI M q5 (Int32.toNatClampNeg x3)))) &&& 127)), (0, .ref (xd x a0)), (1, .int x1), (2, .int x2), (3, .int x3), (4, .int x4)]) C 7 D_Ba_isNews_34 (by decide) rfl ?_
  refine J_iconst (v := 0) C D_Ba_isNews_36 rfl ?_
  refine J_istore (lv' := [(8, .int 0), (7, .int 0), (6, .int ((gI M q17 (Int32.toNatClampNeg (gI M q21 (Int32.toNatClampNeg x4)))) &&& 127)), (5, .int ((gI M q1 (Int32.toNatClampNeg (gI M q5 (Int32.toNatClampNeg x3)))) &&& 127)), (0, .ref (xd x a0)), (1, .int x1), (2, .int x2), (3, .int x3), (4, .int x4)]) C 8 D_Ba_isNews_37 (by decide) rfl ?_
  obtain ⟨n, h⟩ := h
  exact J_sub [4, 5, 6, 7, 8, 3, 2, 1, 0] rfl (Y_Ba_isNews_39 C hR Rt  n _ _ _ _ _ _ _ _ _ _ h)
theorem D_Ba_addMoved_0 : decode b_Ba_addMoved 0 = .ok (.aload_n 0, 1) := by decide +kernel
theorem D_Ba_addMoved_1 : decode b_Ba_addMoved 1 = .ok (.getfield 41, 3) := by decide +kernel
theorem D_Ba_addMoved_4 : decode b_Ba_addMoved 4 = .ok (.getfield 124, 3) := by decide +kernel
theorem D_Ba_addMoved_7 : decode b_Ba_addMoved 7 = .ok (.istore 5, 2) := by decide +kernel
theorem D_Ba_addMoved_9 : decode b_Ba_addMoved 9 = .ok (.aload_n 0, 1) := by decide +kernel
theorem D_Ba_addMoved_10 : decode b_Ba_addMoved 10 = .ok (.getfield 37, 3) := by decide +kernel
theorem D_Ba_addMoved_13 : decode b_Ba_addMoved 13 = .ok (.getfield 126, 3) := by decide +kernel
theorem D_Ba_addMoved_16 : decode b_Ba_addMoved 16 = .ok (.astore 6, 2) := by decide +kernel
theorem D_Ba_addMoved_18 : decode b_Ba_addMoved 18 = .ok (.aload_n 0, 1) := by decide +kernel
theorem D_Ba_addMoved_19 : decode b_Ba_addMoved 19 = .ok (.getfield 37, 3) := by decide +kernel
theorem D_Ba_addMoved_22 : decode b_Ba_addMoved 22 = .ok (.getfield 129, 3) := by decide +kernel
theorem D_Ba_addMoved_25 : decode b_Ba_addMoved 25 = .ok (.astore 7, 2) := by decide +kernel
theorem D_Ba_addMoved_27 : decode b_Ba_addMoved 27 = .ok (.aload_n 0, 1) := by decide +kernel
theorem D_Ba_addMoved_28 : decode b_Ba_addMoved 28 = .ok (.getfield 27, 3) := by decide +kernel
theorem D_Ba_addMoved_31 : decode b_Ba_addMoved 31 = .ok (.aload_n 0, 1) := by decide +kernel
theorem D_Ba_addMoved_32 : decode b_Ba_addMoved 32 = .ok (.getfield 9, 3) := by decide +kernel
theorem D_Ba_addMoved_35 : decode b_Ba_addMoved 35 = .ok (.iload_n 2, 1) := by decide +kernel
theorem D_Ba_addMoved_36 : decode b_Ba_addMoved 36 = .ok (.iaload, 1) := by decide +kernel
theorem D_Ba_addMoved_37 : decode b_Ba_addMoved 37 = .ok (.iaload, 1) := by decide +kernel
theorem D_Ba_addMoved_38 : decode b_Ba_addMoved 38 = .ok (.bipush 127, 2) := by decide +kernel
theorem D_Ba_addMoved_40 : decode b_Ba_addMoved 40 = .ok (.iand, 1) := by decide +kernel
theorem D_Ba_addMoved_41 : decode b_Ba_addMoved 41 = .ok (.istore 8, 2) := by decide +kernel
theorem D_Ba_addMoved_43 : decode b_Ba_addMoved 43 = .ok (.aload 6, 2) := by decide +kernel
theorem D_Ba_addMoved_45 : decode b_Ba_addMoved 45 = .ok (.iload_n 3, 1) := by decide +kernel
theorem D_Ba_addMoved_46 : decode b_Ba_addMoved 46 = .ok (.iaload, 1) := by decide +kernel
theorem D_Ba_addMoved_47 : decode b_Ba_addMoved 47 = .ok (.aload 6, 2) := by decide +kernel
theorem D_Ba_addMoved_49 : decode b_Ba_addMoved 49 = .ok (.iload 8, 2) := by decide +kernel
theorem D_Ba_addMoved_51 : decode b_Ba_addMoved 51 = .ok (.iaload, 1) := by decide +kernel
theorem D_Ba_addMoved_52 : decode b_Ba_addMoved 52 = .ok (.isub, 1) := by decide +kernel
theorem D_Ba_addMoved_53 : decode b_Ba_addMoved 53 = .ok (.istore 9, 2) := by decide +kernel
theorem D_Ba_addMoved_55 : decode b_Ba_addMoved 55 = .ok (.aload 7, 2) := by decide +kernel
theorem D_Ba_addMoved_57 : decode b_Ba_addMoved 57 = .ok (.iload_n 3, 1) := by decide +kernel
theorem D_Ba_addMoved_58 : decode b_Ba_addMoved 58 = .ok (.iaload, 1) := by decide +kernel
theorem D_Ba_addMoved_59 : decode b_Ba_addMoved 59 = .ok (.aload 7, 2) := by decide +kernel
theorem D_Ba_addMoved_61 : decode b_Ba_addMoved 61 = .ok (.iload 8, 2) := by decide +kernel
theorem D_Ba_addMoved_63 : decode b_Ba_addMoved 63 = .ok (.iaload, 1) := by decide +kernel
theorem D_Ba_addMoved_64 : decode b_Ba_addMoved 64 = .ok (.isub, 1) := by decide +kernel
theorem D_Ba_addMoved_65 : decode b_Ba_addMoved 65 = .ok (.istore 10, 2) := by decide +kernel
theorem D_Ba_addMoved_67 : decode b_Ba_addMoved 67 = .ok (.aload_n 0, 1) := by decide +kernel
theorem D_Ba_addMoved_68 : decode b_Ba_addMoved 68 = .ok (.getfield 9, 3) := by decide +kernel
theorem D_Ba_addMoved_71 : decode b_Ba_addMoved 71 = .ok (.iload_n 2, 1) := by decide +kernel
theorem D_Ba_addMoved_72 : decode b_Ba_addMoved 72 = .ok (.iaload, 1) := by decide +kernel
theorem D_Ba_addMoved_73 : decode b_Ba_addMoved 73 = .ok (.istore 11, 2) := by decide +kernel
theorem D_Ba_addMoved_75 : decode b_Ba_addMoved 75 = .ok (.iload 11, 2) := by decide +kernel
theorem D_Ba_addMoved_77 : decode b_Ba_addMoved 77 = .ok (.aload_n 0, 1) := by decide +kernel
theorem D_Ba_addMoved_78 : decode b_Ba_addMoved 78 = .ok (.getfield 9, 3) := by decide +kernel
theorem D_Ba_addMoved_81 : decode b_Ba_addMoved 81 = .ok (.iload_n 2, 1) := by decide +kernel
theorem D_Ba_addMoved_82 : decode b_Ba_addMoved 82 = .ok (.iconst 1, 1) := by decide +kernel
theorem D_Ba_addMoved_83 : decode b_Ba_addMoved 83 = .ok (.iadd, 1) := by decide +kernel
theorem D_Ba_addMoved_84 : decode b_Ba_addMoved 84 = .ok (.iaload, 1) := by decide +kernel
theorem D_Ba_addMoved_85 : decode b_Ba_addMoved 85 = .ok (.if_icmp .ge 83, 3) := by decide +kernel
theorem D_Ba_addMoved_88 : decode b_Ba_addMoved 88 = .ok (.aload_n 0, 1) := by decide +kernel
theorem D_Ba_addMoved_89 : decode b_Ba_addMoved 89 = .ok (.getfield 27, 3) := by decide +kernel
theorem D_Ba_addMoved_92 : decode b_Ba_addMoved 92 = .ok (.iload 11, 2) := by decide +kernel
theorem D_Ba_addMoved_94 : decode b_Ba_addMoved 94 = .ok (.iaload, 1) := by decide +kernel
theorem D_Ba_addMoved_95 : decode b_Ba_addMoved 95 = .ok (.bipush 127, 2) := by decide +kernel
theorem D_Ba_addMoved_97 : decode b_Ba_addMoved 97 = .ok (.iand, 1) := by decide +kernel
theorem D_Ba_addMoved_98 : decode b_Ba_addMoved 98 = .ok (.istore 12, 2) := by decide +kernel
theorem D_Ba_addMoved_100 : decode b_Ba_addMoved 100 = .ok (.aload 7, 2) := by decide +kernel
theorem D_Ba_addMoved_102 : decode b_Ba_addMoved 102 = .ok (.iload 12, 2) := by decide +kernel
theorem D_Ba_addMoved_104 : decode b_Ba_addMoved 104 = .ok (.iaload, 1) := by decide +kernel
theorem D_Ba_addMoved_105 : decode b_Ba_addMoved 105 = .ok (.iload 10, 2) := by decide +kernel
theorem D_Ba_addMoved_107 : decode b_Ba_addMoved 107 = .ok (.iadd, 1) := by decide +kernel
theorem D_Ba_addMoved_108 : decode b_Ba_addMoved 108 = .ok (.istore 13, 2) := by decide +kernel
theorem D_Ba_addMoved_110 : decode b_Ba_addMoved 110 = .ok (.aload 6, 2) := by decide +kernel
theorem D_Ba_addMoved_112 : decode b_Ba_addMoved 112 = .ok (.iload 12, 2) := by decide +kernel
theorem D_Ba_addMoved_114 : decode b_Ba_addMoved 114 = .ok (.iaload, 1) := by decide +kernel
theorem D_Ba_addMoved_115 : decode b_Ba_addMoved 115 = .ok (.iload 9, 2) := by decide +kernel
theorem D_Ba_addMoved_117 : decode b_Ba_addMoved 117 = .ok (.iadd, 1) := by decide +kernel
theorem D_Ba_addMoved_118 : decode b_Ba_addMoved 118 = .ok (.iload 13, 2) := by decide +kernel
theorem D_Ba_addMoved_120 : decode b_Ba_addMoved 120 = .ok (.iadd, 1) := by decide +kernel
theorem D_Ba_addMoved_121 : decode b_Ba_addMoved 121 = .ok (.istore 14, 2) := by decide +kernel
theorem D_Ba_addMoved_123 : decode b_Ba_addMoved 123 = .ok (.iload 14, 2) := by decide +kernel
theorem D_Ba_addMoved_125 : decode b_Ba_addMoved 125 = .ok (.iload 14, 2) := by decide +kernel
theorem D_Ba_addMoved_127 : decode b_Ba_addMoved 127 = .ok (.iconst 1, 1) := by decide +kernel
theorem D_Ba_addMoved_128 : decode b_Ba_addMoved 128 = .ok (.iadd, 1) := by decide +kernel
theorem D_Ba_addMoved_129 : decode b_Ba_addMoved 129 = .ok (.imul, 1) := by decide +kernel
theorem D_Ba_addMoved_130 : decode b_Ba_addMoved 130 = .ok (.iconst 2, 1) := by decide +kernel
theorem D_Ba_addMoved_131 : decode b_Ba_addMoved 131 = .ok (.idiv, 1) := by decide +kernel
theorem D_Ba_addMoved_132 : decode b_Ba_addMoved 132 = .ok (.iload 13, 2) := by decide +kernel
theorem D_Ba_addMoved_134 : decode b_Ba_addMoved 134 = .ok (.iadd, 1) := by decide +kernel
theorem D_Ba_addMoved_135 : decode b_Ba_addMoved 135 = .ok (.istore 15, 2) := by decide +kernel
theorem D_Ba_addMoved_137 : decode b_Ba_addMoved 137 = .ok (.aload_n 1, 1) := by decide +kernel
theorem D_Ba_addMoved_138 : decode b_Ba_addMoved 138 = .ok (.iload 15, 2) := by decide +kernel
theorem D_Ba_addMoved_140 : decode b_Ba_addMoved 140 = .ok (.aload_n 1, 1) := by decide +kernel
theorem D_Ba_addMoved_141 : decode b_Ba_addMoved 141 = .ok (.iload 15, 2) := by decide +kernel
theorem D_Ba_addMoved_143 : decode b_Ba_addMoved 143 = .ok (.iaload, 1) := by decide +kernel
theorem D_Ba_addMoved_144 : decode b_Ba_addMoved 144 = .ok (.iload 4, 2) := by decide +kernel
theorem D_Ba_addMoved_146 : decode b_Ba_addMoved 146 = .ok (.aload_n 0, 1) := by decide +kernel
theorem D_Ba_addMoved_147 : decode b_Ba_addMoved 147 = .ok (.getfield 27, 3) := by decide +kernel
theorem D_Ba_addMoved_150 : decode b_Ba_addMoved 150 = .ok (.iload 11, 2) := by decide +kernel
theorem D_Ba_addMoved_152 : decode b_Ba_addMoved 152 = .ok (.iaload, 1) := by decide +kernel
theorem D_Ba_addMoved_153 : decode b_Ba_addMoved 153 = .ok (.bipush 7, 2) := by decide +kernel
theorem D_Ba_addMoved_155 : decode b_Ba_addMoved 155 = .ok (.ishr, 1) := by decide +kernel
theorem D_Ba_addMoved_156 : decode b_Ba_addMoved 156 = .ok (.imul, 1) := by decide +kernel
theorem D_Ba_addMoved_157 : decode b_Ba_addMoved 157 = .ok (.iadd, 1) := by decide +kernel
theorem D_Ba_addMoved_158 : decode b_Ba_addMoved 158 = .ok (.iload 5, 2) := by decide +kernel
theorem D_Ba_addMoved_160 : decode b_Ba_addMoved 160 = .ok (.irem, 1) := by decide +kernel
theorem D_Ba_addMoved_161 : decode b_Ba_addMoved 161 = .ok (.iastore, 1) := by decide +kernel
theorem D_Ba_addMoved_162 : decode b_Ba_addMoved 162 = .ok (.iinc 11 1, 3) := by decide +kernel
theorem D_Ba_addMoved_165 : decode b_Ba_addMoved 165 = .ok (.goto (-90), 3) := by decide +kernel
theorem D_Ba_addMoved_168 : decode b_Ba_addMoved 168 = .ok (.return_, 1) := by decide +kernel
abbrev rm_Ba_addMoved : Room := { frames := 0, cells := 0, slots := 0, locals := 0 }
def B_Ba_addMoved_75 (k75 : Nat → Nat → Int32 → Int32 → Int32 → Nat → Nat → Int32 → Int32 → Int32 → Mem → Prop) (post : Mem → Prop) (a0 : Nat) (a1 : Nat) (x2 : Int32) (x4 : Int32) (x5 : Int32) (a6 : Nat) (a7 : Nat) (x9 : Int32) (x10 : Int32) (x11 : Int32) (M : Mem) : Prop := (isK M a0 0 ∧ ∃ q78, gR M a0 4 = some q78 ∧ isA M q78 8 (x2 + 1) ∧ ((gI M q78 (Int32.toNatClampNeg (x2 + 1))) ≤ x11 → (post M)) ∧ (¬ (gI M q78 (Int32.toNatClampNeg (x2 + 1))) ≤ x11 → (isK M a0 0 ∧ ∃ q89, gR M a0 9 = some q89 ∧ isZ M q89 x11 ∧ isA M a7 8 ((gI M q89 (Int32.toNatClampNeg x11)) &&& 127) ∧ isA M a6 8 ((gI M q89 (Int32.toNatClampNeg x11)) &&& 127) ∧ ¬ (2 : Int32) = 0 ∧ isA M a1 8 ((((((gI M a6 (Int32.toNatClampNeg ((gI M q89 (Int32.toNatClampNeg x11)) &&& 127))) + x9) + ((gI M a7 (Int32.toNatClampNeg ((gI M q89 (Int32.toNatClampNeg x11)) &&& 127))) + x10)) * ((((gI M a6 (Int32.toNatClampNeg ((gI M q89 (Int32.toNatClampNeg x11)) &&& 127))) + x9) + ((gI M a7 (Int32.toNatClampNeg ((gI M q89 (Int32.toNatClampNeg x11)) &&& 127))) + x10)) + 1)) / 2) + ((gI M a7 (Int32.toNatClampNeg ((gI M q89 (Int32.toNatClampNeg x11)) &&& 127))) + x10)) ∧ isK M a0 0 ∧ ∃ q147, gR M a0 9 = some q147 ∧ isZ M q147 x11 ∧ ¬ (x5 : Int32) = 0 ∧ isA M a1 8 ((((((gI M a6 (Int32.toNatClampNeg ((gI M q89 (Int32.toNatClampNeg x11)) &&& 127))) + x9) + ((gI M a7 (Int32.toNatClampNeg ((gI M q89 (Int32.toNatClampNeg x11)) &&& 127))) + x10)) * ((((gI M a6 (Int32.toNatClampNeg ((gI M q89 (Int32.toNatClampNeg x11)) &&& 127))) + x9) + ((gI M a7 (Int32.toNatClampNeg ((gI M q89 (Int32.toNatClampNeg x11)) &&& 127))) + x10)) + 1)) / 2) + ((gI M a7 (Int32.toNatClampNeg ((gI M q89 (Int32.toNatClampNeg x11)) &&& 127))) + x10)) ∧ k75 a0 a1 x2 x4 x5 a6 a7 x9 x10 (x11 + 1) (sI M a1 (Int32.toNatClampNeg ((((((gI M a6 (Int32.toNatClampNeg ((gI M q89 (Int32.toNatClampNeg x11)) &&& 127))) + x9) + ((gI M a7 (Int32.toNatClampNeg ((gI M q89 (Int32.toNatClampNeg x11)) &&& 127))) + x10)) * ((((gI M a6 (Int32.toNatClampNeg ((gI M q89 (Int32.toNatClampNeg x11)) &&& 127))) + x9) + ((gI M a7 (Int32.toNatClampNeg ((gI M q89 (Int32.toNatClampNeg x11)) &&& 127))) + x10)) + 1)) / 2) + ((gI M a7 (Int32.toNatClampNeg ((gI M q89 (Int32.toNatClampNeg x11)) &&& 127))) + x10))) (((gI M a1 (Int32.toNatClampNeg ((((((gI M a6 (Int32.toNatClampNeg ((gI M q89 (Int32.toNatClampNeg x11)) &&& 127))) + x9) + ((gI M a7 (Int32.toNatClampNeg ((gI M q89 (Int32.toNatClampNeg x11)) &&& 127))) + x10)) * ((((gI M a6 (Int32.toNatClampNeg ((gI M q89 (Int32.toNatClampNeg x11)) &&& 127))) + x9) + ((gI M a7 (Int32.toNatClampNeg ((gI M q89 (Int32.toNatClampNeg x11)) &&& 127))) + x10)) + 1)) / 2) + ((gI M a7 (Int32.toNatClampNeg ((gI M q89 (Int32.toNatClampNeg x11)) &&& 127))) + x10)))) + (x4 * (((gI M q147 (Int32.toNatClampNeg x11)) : Int32) >>> ((7 : Int32) &&& 31)))) - ((gI M a1 (Int32.toNatClampNeg ((((((gI M a6 (Int32.toNatClampNeg ((gI M q89 (Int32.toNatClampNeg x11)) &&& 127))) + x9) + ((gI M a7 (Int32.toNatClampNeg ((gI M q89 (Int32.toNatClampNeg x11)) &&& 127))) + x10)) * ((((gI M a6 (Int32.toNatClampNeg ((gI M q89 (Int32.toNatClampNeg x11)) &&& 127))) + x9) + ((gI M a7 (Int32.toNatClampNeg ((gI M q89 (Int32.toNatClampNeg x11)) &&& 127))) + x10)) + 1)) / 2) + ((gI M a7 (Int32.toNatClampNeg ((gI M q89 (Int32.toNatClampNeg x11)) &&& 127))) + x10)))) + (x4 * (((gI M q147 (Int32.toNatClampNeg x11)) : Int32) >>> ((7 : Int32) &&& 31)))) / x5 * x5)))))
set_option maxRecDepth 20000 in
theorem Z_Ba_addMoved_75 {x : Ctx} {post : Mem → Prop} (C : Ok x b_Ba_addMoved 16 "HeapTower$Base") (hR : xR x = rm_Ba_addMoved) (Rt : RetV x post 0 0) {k75 : Nat → Nat → Int32 → Int32 → Int32 → Nat → Nat → Int32 → Int32 → Int32 → Mem → Prop} (K75 : ∀ (a0 : Nat) (a1 : Nat) (x2 : Int32) (x4 : Int32) (x5 : Int32) (a6 : Nat) (a7 : Nat) (x9 : Int32) (x10 : Int32) (x11 : Int32) (M : Mem), k75 a0 a1 x2 x4 x5 a6 a7 x9 x10 x11 M → J x 16 75 [(0, .ref (xd x a0)), (1, .ref (xd x a1)), (2, .int x2), (4, .int x4), (5, .int x5), (6, .ref (xd x a6)), (7, .ref (xd x a7)), (9, .int x9), (10, .int x10), (11, .int x11)] [] 0 0 M) (a0 : Nat) (a1 : Nat) (x2 : Int32) (x4 : Int32) (x5 : Int32) (a6 : Nat) (a7 : Nat) (x9 : Int32) (x10 : Int32) (x11 : Int32) (M : Mem) (h : B_Ba_addMoved_75 k75 post a0 a1 x2 x4 x5 a6 a7 x9 x10 x11 M) : J x 16 75 [(0, .ref (xd x a0)), (1, .ref (xd x a1)), (2, .int x2), (4, .int x4), (5, .int x5), (6, .ref (xd x a6)), (7, .ref (xd x a7)), (9, .int x9), (10, .int x10), (11, .int x11)] [] 0 0 M := by
  unfold B_Ba_addMoved_75 at h
  refine J_iload C 11 D_Ba_addMoved_75 rfl ?_
  refine J_aload_n C 0 D_Ba_addMoved_77 rfl rfl ?_
  obtain ⟨c_78, q78, e_78, h⟩ := h
  refine J_getR C fl_Ba_9 D_Ba_addMoved_78 c_78 e_78 ?_
  refine J_iload_n C 2 D_Ba_addMoved_81 rfl rfl ?_
  refine J_iconst (v := 1) C D_Ba_addMoved_82 rfl ?_
  refine J_iadd C D_Ba_addMoved_83 ?_
  obtain ⟨c_84, h⟩ := h
  refine J_iald C D_Ba_addMoved_84 c_84 ?_
  refine J_icmp_ge (tgt := 168) C D_Ba_addMoved_85 (by decide) (fun c_85 => ?_) (fun c_85 => ?_)
  · have h := h.1 c_85
    exact J_vret C Rt D_Ba_addMoved_168 h
  · have h := h.2 c_85
    refine J_aload_n C 0 D_Ba_addMoved_88 rfl rfl ?_
    obtain ⟨c_89, q89, e_89, h⟩ := h
    refine J_getR C fl_Ba_27 D_Ba_addMoved_89 c_89 e_89 ?_
    refine J_iload C 11 D_Ba_addMoved_92 rfl ?_
    obtain ⟨c_94, h⟩ := h
    refine J_yald C D_Ba_addMoved_94 c_94 ?_
    refine J_bipush (v := 127) C D_Ba_addMoved_95 rfl ?_
    refine J_iand C D_Ba_addMoved_97 ?_
    refine J_istore (lv' := [(12, .int ((gI M q89 (Int32.toNatClampNeg x11)) &&& 127)), (0, .ref (xd x a0)), (1, .ref (xd x a1)), (2, .int x2), (4, .int x4), (5, .int x5), (6, .ref (xd x a6)), (7, .ref (xd x a7)), (9, .int x9), (10, .int x10), (11, .int x11)]) C 12 D_Ba_addMoved_98 (by decide) rfl ?_
    refine J_aload C 7 D_Ba_addMoved_100 rfl ?_
    refine J_iload C 12 D_Ba_addMoved_102 rfl ?_
    obtain ⟨c_104, h⟩ := h
    refine J_iald C D_Ba_addMoved_104 c_104 ?_
    refine J_iload C 10 D_Ba_addMoved_105 rfl ?_
    refine J_iadd C D_Ba_addMoved_107 ?_
    refine J_istore (lv' := [(13, .int ((gI M a7 (Int32.toNatClampNeg ((gI M q89 (Int32.toNatClampNeg x11)) &&& 127))) + x10)), (12, .int ((gI M q89 (Int32.toNatClampNeg x11)) &&& 127)), (0, .ref (xd x a0)), (1, .ref (xd x a1)), (2, .int x2), (4, .int x4), (5, .int x5), (6, .ref (xd x a6)), (7, .ref (xd x a7)), (9, .int x9), (10, .int x10), (11, .int x11)]) C 13 D_Ba_addMoved_108 (by decide) rfl ?_
    refine J_aload C 6 D_Ba_addMoved_110 rfl ?_
    refine J_iload C 12 D_Ba_addMoved_112 rfl ?_
    obtain ⟨c_114, h⟩ := h
    refine J_iald C D_Ba_addMoved_114 c_114 ?_
    refine J_iload C 9 D_Ba_addMoved_115 rfl ?_
    refine J_iadd C D_Ba_addMoved_117 ?_
    refine J_iload C 13 D_Ba_addMoved_118 rfl ?_
    refine J_iadd C D_Ba_addMoved_120 ?_
    refine J_istore (lv' := [(14, .int (((gI M a6 (Int32.toNatClampNeg ((gI M q89 (Int32.toNatClampNeg x11)) &&& 127))) + x9) + ((gI M a7 (Int32.toNatClampNeg ((gI M q89 (Int32.toNatClampNeg x11)) &&& 127))) + x10))), (13, .int ((gI M a7 (Int32.toNatClampNeg ((gI M q89 (Int32.toNatClampNeg x11)) &&& 127))) + x10)), (12, .int ((gI M q89 (Int32.toNatClampNeg x11)) &&& 127)), (0, .ref (xd x a0)), (1, .ref (xd x a1)), (2, .int x2), (4, .int x4), (5, .int x5), (6, .ref (xd x a6)), (7, .ref (xd x a7)), (9, .int x9), (10, .int x10), (11, .int x11)]) C 14 D_Ba_addMoved_121 (by decide) rfl ?_
    refine J_iload C 14 D_Ba_addMoved_123 rfl ?_
    refine J_iload C 14 D_Ba_addMoved_125 rfl ?_
    refine J_iconst (v := 1) C D_Ba_addMoved_127 rfl ?_
    refine J_iadd C D_Ba_addMoved_128 ?_
    refine J_imul C D_Ba_addMoved_129 ?_
    refine J_iconst (v := 2) C D_Ba_addMoved_130 rfl ?_
    obtain ⟨c_131, h⟩ := h
    refine J_idiv C D_Ba_addMoved_131 c_131 ?_
    refine J_iload C 13 D_Ba_addMoved_132 rfl ?_
    refine J_iadd C D_Ba_addMoved_134 ?_
    refine J_istore (lv' := [(15, .int ((((((gI M a6 (Int32.toNatClampNeg ((gI M q89 (Int32.toNatClampNeg x11)) &&& 127))) + x9) + ((gI M a7 (Int32.toNatClampNeg ((gI M q89 (Int32.toNatClampNeg x11)) &&& 127))) + x10)) * ((((gI M a6 (Int32.toNatClampNeg ((gI M q89 (Int32.toNatClampNeg x11)) &&& 127))) + x9) + ((gI M a7 (Int32.toNatClampNeg ((gI M q89 (Int32.toNatClampNeg x11)) &&& 127))) + x10)) + 1)) / 2) + ((gI M a7 (Int32.toNatClampNeg ((gI M q89 (Int32.toNatClampNeg x11)) &&& 127))) + x10))), (14, .int (((gI M a6 (Int32.toNatClampNeg ((gI M q89 (Int32.toNatClampNeg x11)) &&& 127))) + x9) + ((gI M a7 (Int32.toNatClampNeg ((gI M q89 (Int32.toNatClampNeg x11)) &&& 127))) + x10))), (13, .int ((gI M a7 (Int32.toNatClampNeg ((gI M q89 (Int32.toNatClampNeg x11)) &&& 127))) + x10)), (12, .int ((gI M q89 (Int32.toNatClampNeg x11)) &&& 127)), (0, .ref (xd x a0)), (1, .ref (xd x a1)), (2, .int x2), (4, .int x4), (5, .int x5), (6, .ref (xd x a6)), (7, .ref (xd x a7)), (9, .int x9), (10, .int x10), (11, .int x11)]) C 15 D_Ba_addMoved_135 (by decide) rfl ?_
    refine J_aload_n C 1 D_Ba_addMoved_137 rfl rfl ?_
    refine J_iload C 15 D_Ba_addMoved_138 rfl ?_
    refine J_aload_n C 1 D_Ba_addMoved_140 rfl rfl ?_
    refine J_iload C 15 D_Ba_addMoved_141 rfl ?_
    obtain ⟨c_143, h⟩ := h
    refine J_iald C D_Ba_addMoved_143 c_143 ?_
    refine J_iload C 4 D_Ba_addMoved_144 rfl ?_
    refine J_aload_n C 0 D_Ba_addMoved_146 rfl rfl ?_
    obtain ⟨c_147, q147, e_147, h⟩ := h
    refine J_getR C fl_Ba_27 D_Ba_addMoved_147 c_147 e_147 ?_
    refine J_iload C 11 D_Ba_addMoved_150 rfl ?_
    obtain ⟨c_152, h⟩ := h
    refine J_yald C D_Ba_addMoved_152 c_152 ?_
    refine J_bipush (v := 7) C D_Ba_addMoved_153 rfl ?_
    refine J_ishr C D_Ba_addMoved_155 ?_
    refine J_imul C D_Ba_addMoved_156 ?_
    refine J_iadd C D_Ba_addMoved_157 ?_
    refine J_iload C 5 D_Ba_addMoved_158 rfl ?_
    obtain ⟨c_160, h⟩ := h
    refine J_irem C D_Ba_addMoved_160 c_160 ?_
    obtain ⟨c_161, h⟩ := h
    refine J_iast C D_Ba_addMoved_161 c_161 ?_
    refine J_iinc (v := x11 + 1) (lv' := [(11, .int (x11 + 1)), (15, .int ((((((gI M a6 (Int32.toNatClampNeg ((gI M q89 (Int32.toNatClampNeg x11)) &&& 127))) + x9) + ((gI M a7 (Int32.toNatClampNeg ((gI M q89 (Int32.toNatClampNeg x11)) &&& 127))) + x10)) * ((((gI M a6 (Int32.toNatClampNeg ((gI M q89 (Int32.toNatClampNeg x11)) &&& 127))) + x9) + ((gI M a7 (Int32.toNatClampNeg ((gI M q89 (Int32.toNatClampNeg x11)) &&& 127))) + x10)) + 1)) / 2) + ((gI M a7 (Int32.toNatClampNeg ((gI M q89 (Int32.toNatClampNeg x11)) &&& 127))) + x10))), (14, .int (((gI M a6 (Int32.toNatClampNeg ((gI M q89 (Int32.toNatClampNeg x11)) &&& 127))) + x9) + ((gI M a7 (Int32.toNatClampNeg ((gI M q89 (Int32.toNatClampNeg x11)) &&& 127))) + x10))), (13, .int ((gI M a7 (Int32.toNatClampNeg ((gI M q89 (Int32.toNatClampNeg x11)) &&& 127))) + x10)), (12, .int ((gI M q89 (Int32.toNatClampNeg x11)) &&& 127)), (0, .ref (xd x a0)), (1, .ref (xd x a1)), (2, .int x2), (4, .int x4), (5, .int x5), (6, .ref (xd x a6)), (7, .ref (xd x a7)), (9, .int x9), (10, .int x10)]) C 11 13 D_Ba_addMoved_162 rfl rfl (by decide) rfl ?_
    refine J_goto (tgt := 75) C D_Ba_addMoved_165 (by decide) ?_
    exact J_sub [5, 6, 7, 8, 9, 10, 11, 12, 13, 0] rfl (K75 _ _ _ _ _ _ _ _ _ _ _ h)
def L_Ba_addMoved_75 (post : Mem → Prop) : Nat → Nat → Nat → Int32 → Int32 → Int32 → Nat → Nat → Int32 → Int32 → Int32 → Mem → Prop
  | 0, _, _, _, _, _, _, _, _, _, _, _ => False
  | n + 1, a0, a1, x2, x4, x5, a6, a7, x9, x10, x11, M => B_Ba_addMoved_75 (L_Ba_addMoved_75 post n) post a0 a1 x2 x4 x5 a6 a7 x9 x10 x11 M
theorem Y_Ba_addMoved_75 {x : Ctx} {post : Mem → Prop} (C : Ok x b_Ba_addMoved 16 "HeapTower$Base") (hR : xR x = rm_Ba_addMoved) (Rt : RetV x post 0 0) : ∀ (n : Nat) (a0 : Nat) (a1 : Nat) (x2 : Int32) (x4 : Int32) (x5 : Int32) (a6 : Nat) (a7 : Nat) (x9 : Int32) (x10 : Int32) (x11 : Int32) (M : Mem), L_Ba_addMoved_75 post n a0 a1 x2 x4 x5 a6 a7 x9 x10 x11 M → J x 16 75 [(0, .ref (xd x a0)), (1, .ref (xd x a1)), (2, .int x2), (4, .int x4), (5, .int x5), (6, .ref (xd x a6)), (7, .ref (xd x a7)), (9, .int x9), (10, .int x10), (11, .int x11)] [] 0 0 M := by
  intro n
  induction n with
  | zero => intro a0 a1 x2 x4 x5 a6 a7 x9 x10 x11 M h; exact h.elim
  | succ n ih => intro a0 a1 x2 x4 x5 a6 a7 x9 x10 x11 M h; exact Z_Ba_addMoved_75 C hR Rt ih _ _ _ _ _ _ _ _ _ _ _ h
def T_Ba_addMoved (a0 : Nat) (a1 : Nat) (x2 : Int32) (x3 : Int32) (x4 : Int32) (M : Mem) (post : Mem → Prop) : Prop := (isK M a0 0 ∧ ∃ q1, gR M a0 1 = some q1 ∧ isK M q1 2 ∧ isK M a0 0 ∧ ∃ q10, gR M a0 0 = some q10 ∧ isK M q10 4 ∧ ∃ q13, gR M q10 0 = some q13 ∧ isK M a0 0 ∧ ∃ q19, gR M a0 0 = some q19 ∧ isK M q19 4 ∧ ∃ q22, gR M q19 1 = some q22 ∧ isK M a0 0 ∧ ∃ q28, gR M a0 9 = some q28 ∧ isK M a0 0 ∧ ∃ q32, gR M a0 4 = some q32 ∧ isA M q32 8 x2 ∧ isZ M q28 (gI M q32 (Int32.toNatClampNeg x2)) ∧ isA M q13 8 x3 ∧ isA M q13 8 ((gI M q28 (Int32.toNatClampNeg (gI M q32 (Int32.toNatClampNeg x2)))) &&& 127) ∧ isA M q22 8 x3 ∧ isA M q22 8 ((gI M q28 (Int32.toNatClampNeg (gI M q32 (Int32.toNatClampNeg x2)))) &&& 127) ∧ isK M a0 0 ∧ ∃ q68, gR M a0 4 = some q68 ∧ isA M q68 8 x2 ∧ ∃ n, L_Ba_addMoved_75 post n a0 a1 x2 x4 (gI M q1 1) q13 q22 ((gI M q13 (Int32.toNatClampNeg x3)) - (gI M q13 (Int32.toNatClampNeg ((gI M q28 (Int32.toNatClampNeg (gI M q32 (Int32.toNatClampNeg x2)))) &&& 127)))) ((gI M q22 (Int32.toNatClampNeg x3)) - (gI M q22 (Int32.toNatClampNeg ((gI M q28 (Int32.toNatClampNeg (gI M q32 (Int32.toNatClampNeg x2)))) &&& 127)))) (gI M q68 (Int32.toNatClampNeg x2)) M)
set_option maxRecDepth 20000 in
theorem S_Ba_addMoved {l : Launch} {D : va_G} {B t g : Nat} {d : Nat → Nat} {ac : Nat → ClassId}  (a0 : Nat) (a1 : Nat) (x2 : Int32) (x3 : Int32) (x4 : Int32) (M : Mem) (post : Mem → Prop) (h : T_Ba_addMoved a0 a1 x2 x3 x4 M post) : Met l y_Ba_addMoved w_Ba_addMoved rm_Ba_addMoved (va_Pc [.ref (d a0), .ref (d a1), .int x2, .int x3, .int x4] (PRE D B d g t ac M)) (QV D B d g ac post) 0 0 (AB B) := by
  refine met_v (by decide +kernel) (Nat.le_of_ble_eq_true rfl) (fun x h1 hR h3 h4 h5 h6 h7 h8 C Rt Nm => ?_)
  subst h3 h4 h5 h6 h7 h8
  unfold T_Ba_addMoved at h
  show J x 16 0 [(0, .ref (xd x a0)), (1, .ref (xd x a1)), (2, .int x2), (3, .int x3), (4, .int x4)] [] 0 0 M
  refine J_aload_n C 0 D_Ba_addMoved_0 rfl rfl ?_
  obtain ⟨c_1, q1, e_1, h⟩ := h
  refine J_getR C fl_Ba_41 D_Ba_addMoved_1 c_1 e_1 ?_
  obtain ⟨c_4, h⟩ := h
  refine J_getIN C fn_Ba_124 D_Ba_addMoved_4 c_4 ?_
  refine J_istore (lv' := [(5, .int (gI M q1 1)), (0, .ref (xd x a0)), (1, .ref (xd x a1)), (2, .int x2), (3, .int x3), (4, .int x4)]) C 5 D_Ba_addMoved_7 (by decide) rfl ?_
  refine J_aload_n C 0 D_Ba_addMoved_9 rfl rfl ?_
  obtain ⟨c_10, q10, e_10, h⟩ := h
  refine J_getR C fl_Ba_37 D_Ba_addMoved_10 c_10 e_10 ?_
  obtain ⟨c_13, q13, e_13, h⟩ := h
  refine J_getRN C fn_Ba_126 D_Ba_addMoved_13 c_13 e_13 ?_
  refine J_astore (lv' := [(6, .ref (xd x q13)), (5, .int (gI M q1 1)), (0, .ref (xd x a0)), (1, .ref (xd x a1)), (2, .int x2), (3, .int x3), (4, .int x4)]) C 6 D_Ba_addMoved_16 (by decide) rfl ?_
  refine J_aload_n C 0 D_Ba_addMoved_18 rfl rfl ?_
  obtain ⟨c_19, q19, e_19, h⟩ := h
  refine J_getR C fl_Ba_37 D_Ba_addMoved_19 c_19 e_19 ?_
  obtain ⟨c_22, q22, e_22, h⟩ := h
  refine J_getRN C fn_Ba_129 D_Ba_addMoved_22 c_22 e_22 ?_
  refine J_astore (lv' := [(7, .ref (xd x q22)), (6, .ref (xd x q13)), (5, .int (gI M q1 1)), (0, .ref (xd x a0)), (1, .ref (xd x a1)), (2, .int x2), (3, .int x3), (4, .int x4)]) C 7 D_Ba_addMoved_25 (by decide) rfl ?_
  refine J_aload_n C 0 D_Ba_addMoved_27 rfl rfl ?_
  obtain ⟨c_28, q28, e_28, h⟩ := h
  refine J_getR C fl_Ba_27 D_Ba_addMoved_28 c_28 e_28 ?_
  refine J_aload_n C 0 D_Ba_addMoved_31 rfl rfl ?_
  obtain ⟨c_32, q32, e_32, h⟩ := h
  refine J_getR C fl_Ba_9 D_Ba_addMoved_32 c_32 e_32 ?_
  refine J_iload_n C 2 D_Ba_addMoved_35 rfl rfl ?_
  obtain ⟨c_36, h⟩ := h
  refine J_iald C D_Ba_addMoved_36 c_36 ?_
  obtain ⟨c_37, h⟩ := h
  refine J_yald C D_Ba_addMoved_37 c_37 ?_
  refine J_bipush (v := 127) C D_Ba_addMoved_38 rfl ?_
  refine J_iand C D_Ba_addMoved_40 ?_
  refine J_istore (lv' := [(8, .int ((gI M q28 (Int32.toNatClampNeg (gI M q32 (Int32.toNatClampNeg x2)))) &&& 127)), (7, .ref (xd x q22)), (6, .ref (xd x q13)), (5, .int (gI M q1 1)), (0, .ref (xd x a0)), (1, .ref (xd x a1)), (2, .int x2), (3, .int x3), (4, .int x4)]) C 8 D_Ba_addMoved_41 (by decide) rfl ?_
  refine J_aload C 6 D_Ba_addMoved_43 rfl ?_
  refine J_iload_n C 3 D_Ba_addMoved_45 rfl rfl ?_
  obtain ⟨c_46, h⟩ := h
  refine J_iald C D_Ba_addMoved_46 c_46 ?_
  refine J_aload C 6 D_Ba_addMoved_47 rfl ?_
  refine J_iload C 8 D_Ba_addMoved_49 rfl ?_
  obtain ⟨c_51, h⟩ := h
  refine J_iald C D_Ba_addMoved_51 c_51 ?_
  refine J_isub C D_Ba_addMoved_52 ?_
  refine J_istore (lv' := [(9, .int ((gI M q13 (Int32.toNatClampNeg x3)) - (gI M q13 (Int32.toNatClampNeg ((gI M q28 (Int32.toNatClampNeg (gI M q32 (Int32.toNatClampNeg x2)))) &&& 127))))), (8, .int ((gI M q28 (Int32.toNatClampNeg (gI M q32 (Int32.toNatClampNeg x2)))) &&& 127)), (7, .ref (xd x q22)), (6, .ref (xd x q13)), (5, .int (gI M q1 1)), (0, .ref (xd x a0)), (1, .ref (xd x a1)), (2, .int x2), (3, .int x3), (4, .int x4)]) C 9 D_Ba_addMoved_53 (by decide) rfl ?_
  refine J_aload C 7 D_Ba_addMoved_55 rfl ?_
  refine J_iload_n C 3 D_Ba_addMoved_57 rfl rfl ?_
  obtain ⟨c_58, h⟩ := h
  refine J_iald C D_Ba_addMoved_58 c_58 ?_
  refine J_aload C 7 D_Ba_addMoved_59 rfl ?_
  refine J_iload C 8 D_Ba_addMoved_61 rfl ?_
  obtain ⟨c_63, h⟩ := h
  refine J_iald C D_Ba_addMoved_63 c_63 ?_
  refine J_isub C D_Ba_addMoved_64 ?_
  refine J_istore (lv' := [(10, .int ((gI M q22 (Int32.toNatClampNeg x3)) - (gI M q22 (Int32.toNatClampNeg ((gI M q28 (Int32.toNatClampNeg (gI M q32 (Int32.toNatClampNeg x2)))) &&& 127))))), (9, .int ((gI M q13 (Int32.toNatClampNeg x3)) - (gI M q13 (Int32.toNatClampNeg ((gI M q28 (Int32.toNatClampNeg (gI M q32 (Int32.toNatClampNeg x2)))) &&& 127))))), (8, .int ((gI M q28 (Int32.toNatClampNeg (gI M q32 (Int32.toNatClampNeg x2)))) &&& 127)), (7, .ref (xd x q22)), (6, .ref (xd x q13)), (5, .int (gI M q1 1)), (0, .ref (xd x a0)), (1, .ref (xd x a1)), (2, .int x2), (3, .int x3), (4, .int x4)]) C 10 D_Ba_addMoved_65 (by decide) rfl ?_
  refine J_aload_n C 0 D_Ba_addMoved_67 rfl rfl ?_
  obtain ⟨c_68, q68, e_68, h⟩ := h
  refine J_getR C fl_Ba_9 D_Ba_addMoved_68 c_68 e_68 ?_
  refine J_iload_n C 2 D_Ba_addMoved_71 rfl rfl ?_
  obtain ⟨c_72, h⟩ := h
  refine J_iald C D_Ba_addMoved_72 c_72 ?_
  refine J_istore (lv' := [(11, .int (gI M q68 (Int32.toNatClampNeg x2))), (10, .int ((gI M q22 (Int32.toNatClampNeg x3)) - (gI M q22 (Int32.toNatClampNeg ((gI M q28 (Int32.toNatClampNeg (gI M q32 (Int32.toNatClampNeg x2)))) &&& 127))))), (9, .int ((gI M q13 (Int32.toNatClampNeg x3)) - (gI M q13 (Int32.toNatClampNeg ((gI M q28 (Int32.toNatClampNeg (gI M q32 (Int32.toNatClampNeg x2)))) &&& 127))))), (8, .int ((gI M q28 (Int32.toNatClampNeg (gI M q32 (Int32.toNatClampNeg x2)))) &&& 127)), (7, .ref (xd x q22)), (6, .ref (xd x q13)), (5, .int (gI M q1 1)), (0, .ref (xd x a0)), (1, .ref (xd x a1)), (2, .int x2), (3, .int x3), (4, .int x4)]) C 11 D_Ba_addMoved_73 (by decide) rfl ?_
  obtain ⟨n, h⟩ := h
  exact J_sub [7, 8, 9, 11, 6, 5, 4, 2, 1, 0] rfl (Y_Ba_addMoved_75 C hR Rt  n _ _ _ _ _ _ _ _ _ _ _ h)
theorem D_Ba_reduce_0 : decode b_Ba_reduce 0 = .ok (.iconst 0, 1) := by decide +kernel
theorem D_Ba_reduce_1 : decode b_Ba_reduce 1 = .ok (.istore_n 3, 1) := by decide +kernel
theorem D_Ba_reduce_2 : decode b_Ba_reduce 2 = .ok (.iload_n 3, 1) := by decide +kernel
theorem D_Ba_reduce_3 : decode b_Ba_reduce 3 = .ok (.aload_n 0, 1) := by decide +kernel
theorem D_Ba_reduce_4 : decode b_Ba_reduce 4 = .ok (.getfield 37, 3) := by decide +kernel
theorem D_Ba_reduce_7 : decode b_Ba_reduce 7 = .ok (.iload_n 1, 1) := by decide +kernel
theorem D_Ba_reduce_8 : decode b_Ba_reduce 8 = .ok (.invokevirtual 61, 3) := by decide +kernel
theorem D_Ba_reduce_11 : decode b_Ba_reduce 11 = .ok (.if_icmp .ge 74, 3) := by decide +kernel
theorem D_Ba_reduce_14 : decode b_Ba_reduce 14 = .ok (.aload_n 0, 1) := by decide +kernel
theorem D_Ba_reduce_15 : decode b_Ba_reduce 15 = .ok (.getfield 37, 3) := by decide +kernel
theorem D_Ba_reduce_18 : decode b_Ba_reduce 18 = .ok (.iload_n 1, 1) := by decide +kernel
theorem D_Ba_reduce_19 : decode b_Ba_reduce 19 = .ok (.iload_n 3, 1) := by decide +kernel
theorem D_Ba_reduce_20 : decode b_Ba_reduce 20 = .ok (.invokevirtual 99, 3) := by decide +kernel
theorem D_Ba_reduce_23 : decode b_Ba_reduce 23 = .ok (.istore 4, 2) := by decide +kernel
theorem D_Ba_reduce_25 : decode b_Ba_reduce 25 = .ok (.aload_n 2, 1) := by decide +kernel
theorem D_Ba_reduce_26 : decode b_Ba_reduce 26 = .ok (.iload 4, 2) := by decide +kernel
theorem D_Ba_reduce_28 : decode b_Ba_reduce 28 = .ok (.iaload, 1) := by decide +kernel
theorem D_Ba_reduce_29 : decode b_Ba_reduce 29 = .ok (.ifCond .ne 7, 3) := by decide +kernel
theorem D_Ba_reduce_32 : decode b_Ba_reduce 32 = .ok (.iconst 0, 1) := by decide +kernel
theorem D_Ba_reduce_33 : decode b_Ba_reduce 33 = .ok (.goto 16, 3) := by decide +kernel
theorem D_Ba_reduce_36 : decode b_Ba_reduce 36 = .ok (.aload_n 0, 1) := by decide +kernel
theorem D_Ba_reduce_37 : decode b_Ba_reduce 37 = .ok (.getfield 30, 3) := by decide +kernel
theorem D_Ba_reduce_40 : decode b_Ba_reduce 40 = .ok (.getstatic 67, 3) := by decide +kernel
theorem D_Ba_reduce_43 : decode b_Ba_reduce 43 = .ok (.iload_n 1, 1) := by decide +kernel
theorem D_Ba_reduce_44 : decode b_Ba_reduce 44 = .ok (.iaload, 1) := by decide +kernel
theorem D_Ba_reduce_45 : decode b_Ba_reduce 45 = .ok (.iload 4, 2) := by decide +kernel
theorem D_Ba_reduce_47 : decode b_Ba_reduce 47 = .ok (.iadd, 1) := by decide +kernel
theorem D_Ba_reduce_48 : decode b_Ba_reduce 48 = .ok (.iaload, 1) := by decide +kernel
theorem D_Ba_reduce_49 : decode b_Ba_reduce 49 = .ok (.istore 5, 2) := by decide +kernel
theorem D_Ba_reduce_51 : decode b_Ba_reduce 51 = .ok (.iload 5, 2) := by decide +kernel
theorem D_Ba_reduce_53 : decode b_Ba_reduce 53 = .ok (.ifCond .le 26, 3) := by decide +kernel
theorem D_Ba_reduce_56 : decode b_Ba_reduce 56 = .ok (.aload_n 0, 1) := by decide +kernel
theorem D_Ba_reduce_57 : decode b_Ba_reduce 57 = .ok (.aload_n 2, 1) := by decide +kernel
theorem D_Ba_reduce_58 : decode b_Ba_reduce 58 = .ok (.iload 5, 2) := by decide +kernel
theorem D_Ba_reduce_60 : decode b_Ba_reduce 60 = .ok (.iconst 1, 1) := by decide +kernel
theorem D_Ba_reduce_61 : decode b_Ba_reduce 61 = .ok (.isub, 1) := by decide +kernel
theorem D_Ba_reduce_62 : decode b_Ba_reduce 62 = .ok (.iload 4, 2) := by decide +kernel
theorem D_Ba_reduce_64 : decode b_Ba_reduce 64 = .ok (.aload_n 0, 1) := by decide +kernel
theorem D_Ba_reduce_65 : decode b_Ba_reduce 65 = .ok (.getfield 41, 3) := by decide +kernel
theorem D_Ba_reduce_68 : decode b_Ba_reduce 68 = .ok (.invokevirtual 114, 3) := by decide +kernel
theorem D_Ba_reduce_71 : decode b_Ba_reduce 71 = .ok (.aload_n 2, 1) := by decide +kernel
theorem D_Ba_reduce_72 : decode b_Ba_reduce 72 = .ok (.iload 4, 2) := by decide +kernel
theorem D_Ba_reduce_74 : decode b_Ba_reduce 74 = .ok (.iaload, 1) := by decide +kernel
theorem D_Ba_reduce_75 : decode b_Ba_reduce 75 = .ok (.isub, 1) := by decide +kernel
theorem D_Ba_reduce_76 : decode b_Ba_reduce 76 = .ok (.invokevirtual 120, 3) := by decide +kernel
theorem D_Ba_reduce_79 : decode b_Ba_reduce 79 = .ok (.iinc 3 1, 3) := by decide +kernel
theorem D_Ba_reduce_82 : decode b_Ba_reduce 82 = .ok (.goto (-80), 3) := by decide +kernel
theorem D_Ba_reduce_85 : decode b_Ba_reduce 85 = .ok (.return_, 1) := by decide +kernel
abbrev rm_Ba_reduce : Room := { frames := 1, cells := 0, slots := 0, locals := 35 }
def B_Ba_reduce_79 (k2 : Nat → Int32 → Nat → Int32 → Mem → Prop) (post : Mem → Prop) (a0 : Nat) (x1 : Int32) (a2 : Nat) (x3 : Int32) (M : Mem) : Prop := (k2 a0 x1 a2 (x3 + 1) M)
set_option maxRecDepth 20000 in
theorem Z_Ba_reduce_79 {x : Ctx} {post : Mem → Prop} (C : Ok x b_Ba_reduce 6 "HeapTower$Base") (hR : xR x = rm_Ba_reduce) (Rt : RetV x post 0 0) {k2 : Nat → Int32 → Nat → Int32 → Mem → Prop} (K2 : ∀ (a0 : Nat) (x1 : Int32) (a2 : Nat) (x3 : Int32) (M : Mem), k2 a0 x1 a2 x3 M → J x 6 2 [(0, .ref (xd x a0)), (1, .int x1), (2, .ref (xd x a2)), (3, .int x3)] [] 0 0 M) (a0 : Nat) (x1 : Int32) (a2 : Nat) (x3 : Int32) (M : Mem) (h : B_Ba_reduce_79 k2 post a0 x1 a2 x3 M) : J x 6 79 [(0, .ref (xd x a0)), (1, .int x1), (2, .ref (xd x a2)), (3, .int x3)] [] 0 0 M := by
  unfold B_Ba_reduce_79 at h
  refine J_iinc (v := x3 + 1) (lv' := [(3, .int (x3 + 1)), (0, .ref (xd x a0)), (1, .int x1), (2, .ref (xd x a2))]) C 3 3 D_Ba_reduce_79 rfl rfl (by decide) rfl ?_
  refine J_goto (tgt := 2) C D_Ba_reduce_82 (by decide) ?_
  exact J_sub [1, 2, 3, 0] rfl (K2 _ _ _ _ _ h)
def B_Ba_reduce_49 (k2 : Nat → Int32 → Nat → Int32 → Mem → Prop) (post : Mem → Prop) (a0 : Nat) (x1 : Int32) (a2 : Nat) (x3 : Int32) (x4 : Int32) (s0 : Int32) (M : Mem) : Prop := ((s0 ≤ 0 → (B_Ba_reduce_79 k2 post a0 x1 a2 x3 M)) ∧ (¬ s0 ≤ 0 → (isK M a0 0 ∧ ∃ q65, gR M a0 1 = some q65 ∧ isK M q65 2 ∧ T_Nu_prime q65 M (fun r68 M68 => isA M68 a2 8 x4 ∧ isK M68 a0 0 ∧ T_Ba_addMoved a0 a2 (s0 - 1) x4 (r68 - (gI M68 a2 (Int32.toNatClampNeg x4))) M68 (fun M76 => B_Ba_reduce_79 k2 post a0 x1 a2 x3 M76)))))
set_option maxRecDepth 20000 in
theorem Z_Ba_reduce_49 {x : Ctx} {post : Mem → Prop} (C : Ok x b_Ba_reduce 6 "HeapTower$Base") (hR : xR x = rm_Ba_reduce) (Rt : RetV x post 0 0) {k2 : Nat → Int32 → Nat → Int32 → Mem → Prop} (K2 : ∀ (a0 : Nat) (x1 : Int32) (a2 : Nat) (x3 : Int32) (M : Mem), k2 a0 x1 a2 x3 M → J x 6 2 [(0, .ref (xd x a0)), (1, .int x1), (2, .ref (xd x a2)), (3, .int x3)] [] 0 0 M) (a0 : Nat) (x1 : Int32) (a2 : Nat) (x3 : Int32) (x4 : Int32) (s0 : Int32) (M : Mem) (h : B_Ba_reduce_49 k2 post a0 x1 a2 x3 x4 s0 M) : J x 6 49 [(0, .ref (xd x a0)), (1, .int x1), (2, .ref (xd x a2)), (3, .int x3), (4, .int x4)] [.int s0] 0 0 M := by
  unfold B_Ba_reduce_49 at h
  refine J_istore (lv' := [(5, .int s0), (0, .ref (xd x a0)), (1, .int x1), (2, .ref (xd x a2)), (3, .int x3), (4, .int x4)]) C 5 D_Ba_reduce_49 (by decide) rfl ?_
  refine J_iload C 5 D_Ba_reduce_51 rfl ?_
  refine J_if_le (tgt := 79) C D_Ba_reduce_53 (by decide) (fun c_53 => ?_) (fun c_53 => ?_)
  · have h := h.1 c_53
    exact J_sub [1, 2, 3, 4] rfl (Z_Ba_reduce_79 C hR Rt K2 _ _ _ _ _ h)
  · have h := h.2 c_53
    refine J_aload_n C 0 D_Ba_reduce_56 rfl rfl ?_
    refine J_aload_n C 2 D_Ba_reduce_57 rfl rfl ?_
    refine J_iload C 5 D_Ba_reduce_58 rfl ?_
    refine J_iconst (v := 1) C D_Ba_reduce_60 rfl ?_
    refine J_isub C D_Ba_reduce_61 ?_
    refine J_iload C 4 D_Ba_reduce_62 rfl ?_
    refine J_aload_n C 0 D_Ba_reduce_64 rfl rfl ?_
    obtain ⟨c_65, q65, e_65, h⟩ := h
    refine J_getR C fl_Ba_41 D_Ba_reduce_65 c_65 e_65 ?_
    obtain ⟨c_68, h⟩ := h
    refine J_callVi C ml_Ba_114 (S_Nu_prime _ _ _ h) (by rw [hR]; decide) rfl c_68 rfl (Nat.le_of_ble_eq_true rfl) D_Ba_reduce_68 (fun r68 M68 h => ?_)
    refine J_aload_n C 2 D_Ba_reduce_71 rfl rfl ?_
    refine J_iload C 4 D_Ba_reduce_72 rfl ?_
    obtain ⟨c_74, h⟩ := h
    refine J_iald C D_Ba_reduce_74 c_74 ?_
    refine J_isub C D_Ba_reduce_75 ?_
    obtain ⟨c_76, h⟩ := h
    refine J_callVv C ml_Ba_120 (S_Ba_addMoved _ _ _ _ _ _ _ h) (by rw [hR]; decide) rfl c_76 rfl (Nat.le_of_ble_eq_true rfl) D_Ba_reduce_76 (fun M76 h => ?_)
    exact J_sub [1, 2, 3, 4] rfl (Z_Ba_reduce_79 C hR Rt K2 _ _ _ _ _ h)
def B_Ba_reduce_2 (k2 : Nat → Int32 → Nat → Int32 → Mem → Prop) (post : Mem → Prop) (a0 : Nat) (x1 : Int32) (a2 : Nat) (x3 : Int32) (M : Mem) : Prop := (isK M a0 0 ∧ ∃ q4, gR M a0 0 = some q4 ∧ isK M q4 4 ∧ T_Pr_amount q4 x1 M (fun r8 M8 => (r8 ≤ x3 → (post M8)) ∧ (¬ r8 ≤ x3 → (isK M8 a0 0 ∧ ∃ q15, gR M8 a0 0 = some q15 ∧ isK M8 q15 4 ∧ T_Pr_at q15 x1 x3 M8 (fun r20 M20 => isA M20 a2 8 r20 ∧ (¬ (gI M20 a2 (Int32.toNatClampNeg r20)) = 0 → (isK M20 a0 0 ∧ ∃ q37, gR M20 a0 10 = some q37 ∧ vp_in x1 12 ∧ isZ M20 q37 ((fst (Int32.toNatClampNeg x1)) + r20) ∧ B_Ba_reduce_49 k2 post a0 x1 a2 x3 r20 (gI M20 q37 (Int32.toNatClampNeg ((fst (Int32.toNatClampNeg x1)) + r20))) M20)) ∧ ((gI M20 a2 (Int32.toNatClampNeg r20)) = 0 → (B_Ba_reduce_49 k2 post a0 x1 a2 x3 r20 0 M20)))))))
set_option maxRecDepth 20000 in
theorem Z_Ba_reduce_2 {x : Ctx} {post : Mem → Prop} (C : Ok x b_Ba_reduce 6 "HeapTower$Base") (hR : xR x = rm_Ba_reduce) (Rt : RetV x post 0 0) {k2 : Nat → Int32 → Nat → Int32 → Mem → Prop} (K2 : ∀ (a0 : Nat) (x1 : Int32) (a2 : Nat) (x3 : Int32) (M : Mem), k2 a0 x1 a2 x3 M → J x 6 2 [(0, .ref (xd x a0)), (1, .int x1), (2, .ref (xd x a2)), (3, .int x3)] [] 0 0 M) (a0 : Nat) (x1 : Int32) (a2 : Nat) (x3 : Int32) (M : Mem) (h : B_Ba_reduce_2 k2 post a0 x1 a2 x3 M) : J x 6 2 [(0, .ref (xd x a0)), (1, .int x1), (2, .ref (xd x a2)), (3, .int x3)] [] 0 0 M := by
  unfold B_Ba_reduce_2 at h
  refine J_iload_n C 3 D_Ba_reduce_2 rfl rfl ?_
  refine J_aload_n C 0 D_Ba_reduce_3 rfl rfl ?_
  obtain ⟨c_4, q4, e_4, h⟩ := h
  refine J_getR C fl_Ba_37 D_Ba_reduce_4 c_4 e_4 ?_
  refine J_iload_n C 1 D_Ba_reduce_7 rfl rfl ?_
  obtain ⟨c_8, h⟩ := h
  refine J_callVi C ml_Ba_61 (S_Pr_amount _ _ _ _ h) (by rw [hR]; decide) rfl c_8 rfl (Nat.le_of_ble_eq_true rfl) D_Ba_reduce_8 (fun r8 M8 h => ?_)
  refine J_icmp_ge (tgt := 85) C D_Ba_reduce_11 (by decide) (fun c_11 => ?_) (fun c_11 => ?_)
  · have h := h.1 c_11
    exact J_vret C Rt D_Ba_reduce_85 h
  · have h := h.2 c_11
    refine J_aload_n C 0 D_Ba_reduce_14 rfl rfl ?_
    obtain ⟨c_15, q15, e_15, h⟩ := h
    refine J_getR C fl_Ba_37 D_Ba_reduce_15 c_15 e_15 ?_
    refine J_iload_n C 1 D_Ba_reduce_18 rfl rfl ?_
    refine J_iload_n C 3 D_Ba_reduce_19 rfl rfl ?_
    obtain ⟨c_20, h⟩ := h
    refine J_callVi C ml_Ba_99 (S_Pr_at _ _ _ _ _ h) (by rw [hR]; decide) rfl c_20 rfl (Nat.le_of_ble_eq_true rfl) D_Ba_reduce_20 (fun r20 M20 h => ?_)
    refine J_istore (lv' := [(4, .int r20), (0, .ref (xd x a0)), (1, .int x1), (2, .ref (xd x a2)), (3, .int x3)]) C 4 D_Ba_reduce_23 (by decide) rfl ?_
    refine J_aload_n C 2 D_Ba_reduce_25 rfl rfl ?_
    refine J_iload C 4 D_Ba_reduce_26 rfl ?_
    obtain ⟨c_28, h⟩ := h
    refine J_iald C D_Ba_reduce_28 c_28 ?_
    refine J_if_ne (tgt := 36) C D_Ba_reduce_29 (by decide) (fun c_29 => ?_) (fun c_29 => ?_)
    · have h := h.1 c_29
      refine J_aload_n C 0 D_Ba_reduce_36 rfl rfl ?_
      obtain ⟨c_37, q37, e_37, h⟩ := h
      refine J_getR C fl_Ba_30 D_Ba_reduce_37 c_37 e_37 ?_
      refine J_first C (by decide) D_Ba_reduce_40 ?_
      refine J_iload_n C 1 D_Ba_reduce_43 rfl rfl ?_
      obtain ⟨c_44, h⟩ := h
      refine J_fald C D_Ba_reduce_44 c_44 ?_
      refine J_iload C 4 D_Ba_reduce_45 rfl ?_
      refine J_iadd C D_Ba_reduce_47 ?_
      obtain ⟨c_48, h⟩ := h
      refine J_yald C D_Ba_reduce_48 c_48 ?_
      exact J_sub [1, 2, 3, 4, 0] rfl (Z_Ba_reduce_49 C hR Rt K2 _ _ _ _ _ _ _ h)
    · have h := h.2 c_29
      refine J_iconst (v := 0) C D_Ba_reduce_32 rfl ?_
      refine J_goto (tgt := 49) C D_Ba_reduce_33 (by decide) ?_
      exact J_sub [1, 2, 3, 4, 0] rfl (Z_Ba_reduce_49 C hR Rt K2 _ _ _ _ _ _ _ h)
def L_Ba_reduce_2 (post : Mem → Prop) : Nat → Nat → Int32 → Nat → Int32 → Mem → Prop
  | 0, _, _, _, _, _ => False
  | n + 1, a0, x1, a2, x3, M => B_Ba_reduce_2 (L_Ba_reduce_2 post n) post a0 x1 a2 x3 M
theorem Y_Ba_reduce_2 {x : Ctx} {post : Mem → Prop} (C : Ok x b_Ba_reduce 6 "HeapTower$Base") (hR : xR x = rm_Ba_reduce) (Rt : RetV x post 0 0) : ∀ (n : Nat) (a0 : Nat) (x1 : Int32) (a2 : Nat) (x3 : Int32) (M : Mem), L_Ba_reduce_2 post n a0 x1 a2 x3 M → J x 6 2 [(0, .ref (xd x a0)), (1, .int x1), (2, .ref (xd x a2)), (3, .int x3)] [] 0 0 M := by
  intro n
  induction n with
  | zero => intro a0 x1 a2 x3 M h; exact h.elim
  | succ n ih => intro a0 x1 a2 x3 M h; exact Z_Ba_reduce_2 C hR Rt ih _ _ _ _ _ h
def T_Ba_reduce (a0 : Nat) (x1 : Int32) (a2 : Nat) (M : Mem) (post : Mem → Prop) : Prop := (∃ n, L_Ba_reduce_2 post n a0 x1 a2 0 M)
set_option maxRecDepth 20000 in
theorem S_Ba_reduce {l : Launch} {D : va_G} {B t g : Nat} {d : Nat → Nat} {ac : Nat → ClassId}  (a0 : Nat) (x1 : Int32) (a2 : Nat) (M : Mem) (post : Mem → Prop) (h : T_Ba_reduce a0 x1 a2 M post) : Met l y_Ba_reduce w_Ba_reduce rm_Ba_reduce (va_Pc [.ref (d a0), .int x1, .ref (d a2)] (PRE D B d g t ac M)) (QV D B d g ac post) 0 0 (AB B) := by
  refine met_v (by decide +kernel) (Nat.le_of_ble_eq_true rfl) (fun x h1 hR h3 h4 h5 h6 h7 h8 C Rt Nm => ?_)
  subst h3 h4 h5 h6 h7 h8
  unfold T_Ba_reduce at h
  show J x 6 0 [(0, .ref (xd x a0)), (1, .int x1), (2, .ref (xd x a2))] [] 0 0 M
  refine J_iconst (v := 0) C D_Ba_reduce_0 rfl ?_
  refine J_istore_n (lv' := [(3, .int 0), (0, .ref (xd x a0)), (1, .int x1), (2, .ref (xd x a2))]) C 3 D_Ba_reduce_1 rfl (by decide) rfl ?_
  obtain ⟨n, h⟩ := h
  exact J_sub [1, 2, 3, 0] rfl (Y_Ba_reduce_2 C hR Rt  n _ _ _ _ _ h)
theorem D_Ba_offerMoved_0 : decode b_Ba_offerMoved 0 = .ok (.aload_n 0, 1) := by decide +kernel
theorem D_Ba_offerMoved_1 : decode b_Ba_offerMoved 1 = .ok (.getfield 49, 3) := by decide +kernel
theorem D_Ba_offerMoved_4 : decode b_Ba_offerMoved 4 = .ok (.iconst 0, 1) := by decide +kernel
theorem D_Ba_offerMoved_5 : decode b_Ba_offerMoved 5 = .ok (.invokestatic 70, 3) := by decide +kernel
theorem D_Ba_offerMoved_8 : decode b_Ba_offerMoved 8 = .ok (.aload_n 0, 1) := by decide +kernel
theorem D_Ba_offerMoved_9 : decode b_Ba_offerMoved 9 = .ok (.aload_n 0, 1) := by decide +kernel
theorem D_Ba_offerMoved_10 : decode b_Ba_offerMoved 10 = .ok (.getfield 49, 3) := by decide +kernel
theorem D_Ba_offerMoved_13 : decode b_Ba_offerMoved 13 = .ok (.iload_n 3, 1) := by decide +kernel
theorem D_Ba_offerMoved_14 : decode b_Ba_offerMoved 14 = .ok (.iload_n 2, 1) := by decide +kernel
theorem D_Ba_offerMoved_15 : decode b_Ba_offerMoved 15 = .ok (.iconst 1, 1) := by decide +kernel
theorem D_Ba_offerMoved_16 : decode b_Ba_offerMoved 16 = .ok (.invokevirtual 120, 3) := by decide +kernel
theorem D_Ba_offerMoved_19 : decode b_Ba_offerMoved 19 = .ok (.aload_n 0, 1) := by decide +kernel
theorem D_Ba_offerMoved_20 : decode b_Ba_offerMoved 20 = .ok (.iload_n 1, 1) := by decide +kernel
theorem D_Ba_offerMoved_21 : decode b_Ba_offerMoved 21 = .ok (.aload_n 0, 1) := by decide +kernel
theorem D_Ba_offerMoved_22 : decode b_Ba_offerMoved 22 = .ok (.getfield 49, 3) := by decide +kernel
theorem D_Ba_offerMoved_25 : decode b_Ba_offerMoved 25 = .ok (.invokevirtual 91, 3) := by decide +kernel
theorem D_Ba_offerMoved_28 : decode b_Ba_offerMoved 28 = .ok (.aload_n 0, 1) := by decide +kernel
theorem D_Ba_offerMoved_29 : decode b_Ba_offerMoved 29 = .ok (.getfield 45, 3) := by decide +kernel
theorem D_Ba_offerMoved_32 : decode b_Ba_offerMoved 32 = .ok (.aload_n 0, 1) := by decide +kernel
theorem D_Ba_offerMoved_33 : decode b_Ba_offerMoved 33 = .ok (.getfield 49, 3) := by decide +kernel
theorem D_Ba_offerMoved_36 : decode b_Ba_offerMoved 36 = .ok (.invokevirtual 95, 3) := by decide +kernel
theorem D_Ba_offerMoved_39 : decode b_Ba_offerMoved 39 = .ok (.pop, 1) := by decide +kernel
theorem D_Ba_offerMoved_40 : decode b_Ba_offerMoved 40 = .ok (.return_, 1) := by decide +kernel
abbrev rm_Ba_offerMoved : Room := { frames := 2, cells := 0, slots := 0, locals := 60 }
def T_Ba_offerMoved (a0 : Nat) (x1 : Int32) (x2 : Int32) (x3 : Int32) (M : Mem) (post : Mem → Prop) : Prop := (isK M a0 0 ∧ ∃ q1, gR M a0 3 = some q1 ∧ T_Ar_fill2 q1 0 M (fun M5 => isK M5 a0 0 ∧ ∃ q10, gR M5 a0 3 = some q10 ∧ isK M5 a0 0 ∧ T_Ba_addMoved a0 q10 x3 x2 1 M5 (fun M16 => isK M16 a0 0 ∧ ∃ q22, gR M16 a0 3 = some q22 ∧ isK M16 a0 0 ∧ T_Ba_reduce a0 x1 q22 M16 (fun M25 => isK M25 a0 0 ∧ ∃ q29, gR M25 a0 2 = some q29 ∧ isK M25 a0 0 ∧ ∃ q33, gR M25 a0 3 = some q33 ∧ isK M25 q29 5 ∧ T_Ro_add q29 q33 M25 (fun r36 M36 => post M36)))))
set_option maxRecDepth 20000 in
theorem S_Ba_offerMoved {l : Launch} {D : va_G} {B t g : Nat} {d : Nat → Nat} {ac : Nat → ClassId}  (a0 : Nat) (x1 : Int32) (x2 : Int32) (x3 : Int32) (M : Mem) (post : Mem → Prop) (h : T_Ba_offerMoved a0 x1 x2 x3 M post) : Met l y_Ba_offerMoved w_Ba_offerMoved rm_Ba_offerMoved (va_Pc [.ref (d a0), .int x1, .int x2, .int x3] (PRE D B d g t ac M)) (QV D B d g ac post) 0 0 (AB B) := by
  refine met_v (by decide +kernel) (Nat.le_of_ble_eq_true rfl) (fun x h1 hR h3 h4 h5 h6 h7 h8 C Rt Nm => ?_)
  subst h3 h4 h5 h6 h7 h8
  unfold T_Ba_offerMoved at h
  show J x 4 0 [(0, .ref (xd x a0)), (1, .int x1), (2, .int x2), (3, .int x3)] [] 0 0 M
  refine J_aload_n C 0 D_Ba_offerMoved_0 rfl rfl ?_
  obtain ⟨c_1, q1, e_1, h⟩ := h
  refine J_getR C fl_Ba_49 D_Ba_offerMoved_1 c_1 e_1 ?_
  refine J_iconst (v := 0) C D_Ba_offerMoved_4 rfl ?_
  refine J_callSv C ml_Ba_70 (S_Ar_fill2 _ _ _ _ h) (by rw [hR]; decide) rfl rfl (Nat.le_of_ble_eq_true rfl) D_Ba_offerMoved_5 (fun M5 h => ?_)
  refine J_aload_n C 0 D_Ba_offerMoved_8 rfl rfl ?_
  refine J_aload_n C 0 D_Ba_offerMoved_9 rfl rfl ?_
  obtain ⟨c_10, q10, e_10, h⟩ := h
  refine J_getR C fl_Ba_49 D_Ba_offerMoved_10 c_10 e_10 ?_
  refine J_iload_n C 3 D_Ba_offerMoved_13 rfl rfl ?_
  refine J_iload_n C 2 D_Ba_offerMoved_14 rfl rfl ?_
  refine J_iconst (v := 1) C D_Ba_offerMoved_15 rfl ?_
  obtain ⟨c_16, h⟩ := h
  refine J_callVv C ml_Ba_120 (S_Ba_addMoved _ _ _ _ _ _ _ h) (by rw [hR]; decide) rfl c_16 rfl (Nat.le_of_ble_eq_true rfl) D_Ba_offerMoved_16 (fun M16 h => ?_)
  refine J_aload_n C 0 D_Ba_offerMoved_19 rfl rfl ?_
  refine J_iload_n C 1 D_Ba_offerMoved_20 rfl rfl ?_
  refine J_aload_n C 0 D_Ba_offerMoved_21 rfl rfl ?_
  obtain ⟨c_22, q22, e_22, h⟩ := h
  refine J_getR C fl_Ba_49 D_Ba_offerMoved_22 c_22 e_22 ?_
  obtain ⟨c_25, h⟩ := h
  refine J_callVv C ml_Ba_91 (S_Ba_reduce _ _ _ _ _ h) (by rw [hR]; decide) rfl c_25 rfl (Nat.le_of_ble_eq_true rfl) D_Ba_offerMoved_25 (fun M25 h => ?_)
  refine J_aload_n C 0 D_Ba_offerMoved_28 rfl rfl ?_
  obtain ⟨c_29, q29, e_29, h⟩ := h
  refine J_getR C fl_Ba_45 D_Ba_offerMoved_29 c_29 e_29 ?_
  refine J_aload_n C 0 D_Ba_offerMoved_32 rfl rfl ?_
  obtain ⟨c_33, q33, e_33, h⟩ := h
  refine J_getR C fl_Ba_49 D_Ba_offerMoved_33 c_33 e_33 ?_
  obtain ⟨c_36, h⟩ := h
  refine J_callVi C ml_Ba_95 (S_Ro_add _ _ _ _ h) (by rw [hR]; decide) rfl c_36 rfl (Nat.le_of_ble_eq_true rfl) D_Ba_offerMoved_36 (fun r36 M36 h => ?_)
  refine J_pop C D_Ba_offerMoved_39 rfl ?_
  exact J_vret C Rt D_Ba_offerMoved_40 h
theorem D_Ba_offerDifferences_0 : decode b_Ba_offerDifferences 0 = .ok (.iconst 0, 1) := by decide +kernel
theorem D_Ba_offerDifferences_1 : decode b_Ba_offerDifferences 1 = .ok (.istore_n 2, 1) := by decide +kernel
theorem D_Ba_offerDifferences_2 : decode b_Ba_offerDifferences 2 = .ok (.aload_n 0, 1) := by decide +kernel
theorem D_Ba_offerDifferences_3 : decode b_Ba_offerDifferences 3 = .ok (.getfield 58, 3) := by decide +kernel
theorem D_Ba_offerDifferences_6 : decode b_Ba_offerDifferences 6 = .ok (.iconst 1, 1) := by decide +kernel
theorem D_Ba_offerDifferences_7 : decode b_Ba_offerDifferences 7 = .ok (.if_icmp .le 129, 3) := by decide +kernel
theorem D_Ba_offerDifferences_10 : decode b_Ba_offerDifferences 10 = .ok (.iload_n 2, 1) := by decide +kernel
theorem D_Ba_offerDifferences_11 : decode b_Ba_offerDifferences 11 = .ok (.aload_n 0, 1) := by decide +kernel
theorem D_Ba_offerDifferences_12 : decode b_Ba_offerDifferences 12 = .ok (.getfield 37, 3) := by decide +kernel
theorem D_Ba_offerDifferences_15 : decode b_Ba_offerDifferences 15 = .ok (.iload_n 1, 1) := by decide +kernel
theorem D_Ba_offerDifferences_16 : decode b_Ba_offerDifferences 16 = .ok (.invokevirtual 61, 3) := by decide +kernel
theorem D_Ba_offerDifferences_19 : decode b_Ba_offerDifferences 19 = .ok (.if_icmp .ge 117, 3) := by decide +kernel
theorem D_Ba_offerDifferences_22 : decode b_Ba_offerDifferences 22 = .ok (.aload_n 0, 1) := by decide +kernel
theorem D_Ba_offerDifferences_23 : decode b_Ba_offerDifferences 23 = .ok (.getfield 37, 3) := by decide +kernel
theorem D_Ba_offerDifferences_26 : decode b_Ba_offerDifferences 26 = .ok (.iload_n 1, 1) := by decide +kernel
theorem D_Ba_offerDifferences_27 : decode b_Ba_offerDifferences 27 = .ok (.iload_n 2, 1) := by decide +kernel
theorem D_Ba_offerDifferences_28 : decode b_Ba_offerDifferences 28 = .ok (.invokevirtual 99, 3) := by decide +kernel
theorem D_Ba_offerDifferences_31 : decode b_Ba_offerDifferences 31 = .ok (.istore_n 3, 1) := by decide +kernel
theorem D_Ba_offerDifferences_32 : decode b_Ba_offerDifferences 32 = .ok (.aload_n 0, 1) := by decide +kernel
theorem D_Ba_offerDifferences_33 : decode b_Ba_offerDifferences 33 = .ok (.getfield 30, 3) := by decide +kernel
theorem D_Ba_offerDifferences_36 : decode b_Ba_offerDifferences 36 = .ok (.getstatic 67, 3) := by decide +kernel
theorem D_Ba_offerDifferences_39 : decode b_Ba_offerDifferences 39 = .ok (.iload_n 1, 1) := by decide +kernel
theorem D_Ba_offerDifferences_40 : decode b_Ba_offerDifferences 40 = .ok (.iaload, 1) := by decide +kernel
theorem D_Ba_offerDifferences_41 : decode b_Ba_offerDifferences 41 = .ok (.iload_n 3, 1) := by decide +kernel
theorem D_Ba_offerDifferences_42 : decode b_Ba_offerDifferences 42 = .ok (.iadd, 1) := by decide +kernel
theorem D_Ba_offerDifferences_43 : decode b_Ba_offerDifferences 43 = .ok (.iaload, 1) := by decide +kernel
theorem D_Ba_offerDifferences_44 : decode b_Ba_offerDifferences 44 = .ok (.istore 4, 2) := by decide +kernel
theorem D_Ba_offerDifferences_46 : decode b_Ba_offerDifferences 46 = .ok (.iload 4, 2) := by decide +kernel
theorem D_Ba_offerDifferences_48 : decode b_Ba_offerDifferences 48 = .ok (.istore 5, 2) := by decide +kernel
theorem D_Ba_offerDifferences_50 : decode b_Ba_offerDifferences 50 = .ok (.iconst 1, 1) := by decide +kernel
theorem D_Ba_offerDifferences_51 : decode b_Ba_offerDifferences 51 = .ok (.istore 6, 2) := by decide +kernel
theorem D_Ba_offerDifferences_53 : decode b_Ba_offerDifferences 53 = .ok (.iload 6, 2) := by decide +kernel
theorem D_Ba_offerDifferences_55 : decode b_Ba_offerDifferences 55 = .ok (.iconst 3, 1) := by decide +kernel
theorem D_Ba_offerDifferences_56 : decode b_Ba_offerDifferences 56 = .ok (.if_icmp .ge 74, 3) := by decide +kernel
theorem D_Ba_offerDifferences_59 : decode b_Ba_offerDifferences 59 = .ok (.iload 4, 2) := by decide +kernel
theorem D_Ba_offerDifferences_61 : decode b_Ba_offerDifferences 61 = .ok (.ifCond .le 69, 3) := by decide +kernel
theorem D_Ba_offerDifferences_64 : decode b_Ba_offerDifferences 64 = .ok (.aload_n 0, 1) := by decide +kernel
theorem D_Ba_offerDifferences_65 : decode b_Ba_offerDifferences 65 = .ok (.iload_n 1, 1) := by decide +kernel
theorem D_Ba_offerDifferences_66 : decode b_Ba_offerDifferences 66 = .ok (.iload_n 3, 1) := by decide +kernel
theorem D_Ba_offerDifferences_67 : decode b_Ba_offerDifferences 67 = .ok (.iload 6, 2) := by decide +kernel
theorem D_Ba_offerDifferences_69 : decode b_Ba_offerDifferences 69 = .ok (.invokevirtual 132, 3) := by decide +kernel
theorem D_Ba_offerDifferences_72 : decode b_Ba_offerDifferences 72 = .ok (.istore 7, 2) := by decide +kernel
theorem D_Ba_offerDifferences_74 : decode b_Ba_offerDifferences 74 = .ok (.iload 7, 2) := by decide +kernel
theorem D_Ba_offerDifferences_76 : decode b_Ba_offerDifferences 76 = .ok (.ifCond .le 48, 3) := by decide +kernel
theorem D_Ba_offerDifferences_79 : decode b_Ba_offerDifferences 79 = .ok (.iload 7, 2) := by decide +kernel
theorem D_Ba_offerDifferences_81 : decode b_Ba_offerDifferences 81 = .ok (.iload 4, 2) := by decide +kernel
theorem D_Ba_offerDifferences_83 : decode b_Ba_offerDifferences 83 = .ok (.if_icmp .eq 41, 3) := by decide +kernel
theorem D_Ba_offerDifferences_86 : decode b_Ba_offerDifferences 86 = .ok (.iload 7, 2) := by decide +kernel
theorem D_Ba_offerDifferences_88 : decode b_Ba_offerDifferences 88 = .ok (.iload 5, 2) := by decide +kernel
theorem D_Ba_offerDifferences_90 : decode b_Ba_offerDifferences 90 = .ok (.if_icmp .eq 34, 3) := by decide +kernel
theorem D_Ba_offerDifferences_93 : decode b_Ba_offerDifferences 93 = .ok (.aload_n 0, 1) := by decide +kernel
theorem D_Ba_offerDifferences_94 : decode b_Ba_offerDifferences 94 = .ok (.iload_n 1, 1) := by decide +kernel
theorem D_Ba_offerDifferences_95 : decode b_Ba_offerDifferences 95 = .ok (.iload_n 3, 1) := by decide +kernel
theorem D_Ba_offerDifferences_96 : decode b_Ba_offerDifferences 96 = .ok (.iload 4, 2) := by decide +kernel
theorem D_Ba_offerDifferences_98 : decode b_Ba_offerDifferences 98 = .ok (.iconst 1, 1) := by decide +kernel
theorem D_Ba_offerDifferences_99 : decode b_Ba_offerDifferences 99 = .ok (.isub, 1) := by decide +kernel
theorem D_Ba_offerDifferences_100 : decode b_Ba_offerDifferences 100 = .ok (.iload 7, 2) := by decide +kernel
theorem D_Ba_offerDifferences_102 : decode b_Ba_offerDifferences 102 = .ok (.iconst 1, 1) := by decide +kernel
theorem D_Ba_offerDifferences_103 : decode b_Ba_offerDifferences 103 = .ok (.isub, 1) := by decide +kernel
theorem D_Ba_offerDifferences_104 : decode b_Ba_offerDifferences 104 = .ok (.invokevirtual 142, 3) := by decide +kernel
theorem D_Ba_offerDifferences_107 : decode b_Ba_offerDifferences 107 = .ok (.ifCond .eq 17, 3) := by decide +kernel
theorem D_Ba_offerDifferences_110 : decode b_Ba_offerDifferences 110 = .ok (.aload_n 0, 1) := by decide +kernel
theorem D_Ba_offerDifferences_111 : decode b_Ba_offerDifferences 111 = .ok (.iload_n 1, 1) := by decide +kernel
theorem D_Ba_offerDifferences_112 : decode b_Ba_offerDifferences 112 = .ok (.iload_n 3, 1) := by decide +kernel
theorem D_Ba_offerDifferences_113 : decode b_Ba_offerDifferences 113 = .ok (.iload 7, 2) := by decide +kernel
theorem D_Ba_offerDifferences_115 : decode b_Ba_offerDifferences 115 = .ok (.iconst 1, 1) := by decide +kernel
theorem D_Ba_offerDifferences_116 : decode b_Ba_offerDifferences 116 = .ok (.isub, 1) := by decide +kernel
theorem D_Ba_offerDifferences_117 : decode b_Ba_offerDifferences 117 = .ok (.invokevirtual 146, 3) := by decide +kernel
theorem D_Ba_offerDifferences_120 : decode b_Ba_offerDifferences 120 = .ok (.iload 7, 2) := by decide +kernel
theorem D_Ba_offerDifferences_122 : decode b_Ba_offerDifferences 122 = .ok (.istore 5, 2) := by decide +kernel
theorem D_Ba_offerDifferences_124 : decode b_Ba_offerDifferences 124 = .ok (.iinc 6 1, 3) := by decide +kernel
theorem D_Ba_offerDifferences_127 : decode b_Ba_offerDifferences 127 = .ok (.goto (-74), 3) := by decide +kernel
theorem D_Ba_offerDifferences_130 : decode b_Ba_offerDifferences 130 = .ok (.iinc 2 1, 3) := by decide +kernel
theorem D_Ba_offerDifferences_133 : decode b_Ba_offerDifferences 133 = .ok (.goto (-131), 3) := by decide +kernel
theorem D_Ba_offerDifferences_136 : decode b_Ba_offerDifferences 136 = .ok (.return_, 1) := by decide +kernel
abbrev rm_Ba_offerDifferences : Room := { frames := 3, cells := 0, slots := 0, locals := 83 }
def B_Ba_offerDifferences_136 (post : Mem → Prop) (M : Mem) : Prop := (post M)
set_option maxRecDepth 20000 in
theorem Z_Ba_offerDifferences_136 {x : Ctx} {post : Mem → Prop} (C : Ok x b_Ba_offerDifferences 8 "HeapTower$Base") (hR : xR x = rm_Ba_offerDifferences) (Rt : RetV x post 0 0) (M : Mem) (h : B_Ba_offerDifferences_136 post M) : J x 8 136 [] [] 0 0 M := by
  unfold B_Ba_offerDifferences_136 at h
  exact J_vret C Rt D_Ba_offerDifferences_136 h
def B_Ba_offerDifferences_130 (k2 : Nat → Int32 → Int32 → Mem → Prop) (post : Mem → Prop) (a0 : Nat) (x1 : Int32) (x2 : Int32) (M : Mem) : Prop := (k2 a0 x1 (x2 + 1) M)
set_option maxRecDepth 20000 in
theorem Z_Ba_offerDifferences_130 {x : Ctx} {post : Mem → Prop} (C : Ok x b_Ba_offerDifferences 8 "HeapTower$Base") (hR : xR x = rm_Ba_offerDifferences) (Rt : RetV x post 0 0) {k2 : Nat → Int32 → Int32 → Mem → Prop} (K2 : ∀ (a0 : Nat) (x1 : Int32) (x2 : Int32) (M : Mem), k2 a0 x1 x2 M → J x 8 2 [(0, .ref (xd x a0)), (1, .int x1), (2, .int x2)] [] 0 0 M) (a0 : Nat) (x1 : Int32) (x2 : Int32) (M : Mem) (h : B_Ba_offerDifferences_130 k2 post a0 x1 x2 M) : J x 8 130 [(0, .ref (xd x a0)), (1, .int x1), (2, .int x2)] [] 0 0 M := by
  unfold B_Ba_offerDifferences_130 at h
  refine J_iinc (v := x2 + 1) (lv' := [(2, .int (x2 + 1)), (0, .ref (xd x a0)), (1, .int x1)]) C 2 2 D_Ba_offerDifferences_130 rfl rfl (by decide) rfl ?_
  refine J_goto (tgt := 2) C D_Ba_offerDifferences_133 (by decide) ?_
  exact J_sub [1, 2, 0] rfl (K2 _ _ _ _ h)
def B_Ba_offerDifferences_124 (k2 : Nat → Int32 → Int32 → Mem → Prop) (k53 : Nat → Int32 → Int32 → Int32 → Int32 → Int32 → Int32 → Mem → Prop) (post : Mem → Prop) (a0 : Nat) (x1 : Int32) (x2 : Int32) (x3 : Int32) (x4 : Int32) (x5 : Int32) (x6 : Int32) (M : Mem) : Prop := (k53 a0 x1 x2 x3 x4 x5 (x6 + 1) M)
set_option maxRecDepth 20000 in
theorem Z_Ba_offerDifferences_124 {x : Ctx} {post : Mem → Prop} (C : Ok x b_Ba_offerDifferences 8 "HeapTower$Base") (hR : xR x = rm_Ba_offerDifferences) (Rt : RetV x post 0 0) {k2 : Nat → Int32 → Int32 → Mem → Prop} (K2 : ∀ (a0 : Nat) (x1 : Int32) (x2 : Int32) (M : Mem), k2 a0 x1 x2 M → J x 8 2 [(0, .ref (xd x a0)), (1, .int x1), (2, .int x2)] [] 0 0 M) {k53 : Nat → Int32 → Int32 → Int32 → Int32 → Int32 → Int32 → Mem → Prop} (K53 : ∀ (a0 : Nat) (x1 : Int32) (x2 : Int32) (x3 : Int32) (x4 : Int32) (x5 : Int32) (x6 : Int32) (M : Mem), k53 a0 x1 x2 x3 x4 x5 x6 M → J x 8 53 [(0, .ref (xd x a0)), (1, .int x1), (2, .int x2), (3, .int x3), (4, .int x4), (5, .int x5), (6, .int x6)] [] 0 0 M) (a0 : Nat) (x1 : Int32) (x2 : Int32) (x3 : Int32) (x4 : Int32) (x5 : Int32) (x6 : Int32) (M : Mem) (h : B_Ba_offerDifferences_124 k2 k53 post a0 x1 x2 x3 x4 x5 x6 M) : J x 8 124 [(0, .ref (xd x a0)), (1, .int x1), (2, .int x2), (3, .int x3), (4, .int x4), (5, .int x5), (6, .int x6)] [] 0 0 M := by
  unfold B_Ba_offerDifferences_124 at h
  refine J_iinc (v := x6 + 1) (lv' := [(6, .int (x6 + 1)), (0, .ref (xd x a0)), (1, .int x1), (2, .int x2), (3, .int x3), (4, .int x4), (5, .int x5)]) C 6 6 D_Ba_offerDifferences_124 rfl rfl (by decide) rfl ?_
  refine J_goto (tgt := 53) C D_Ba_offerDifferences_127 (by decide) ?_
  exact J_sub [1, 2, 3, 4, 5, 6, 0] rfl (K53 _ _ _ _ _ _ _ _ h)
def B_Ba_offerDifferences_53 (k2 : Nat → Int32 → Int32 → Mem → Prop) (k53 : Nat → Int32 → Int32 → Int32 → Int32 → Int32 → Int32 → Mem → Prop) (post : Mem → Prop) (a0 : Nat) (x1 : Int32) (x2 : Int32) (x3 : Int32) (x4 : Int32) (x5 : Int32) (x6 : Int32) (M : Mem) : Prop := ((3 ≤ x6 → (B_Ba_offerDifferences_130 k2 post a0 x1 x2 M)) ∧ (¬ 3 ≤ x6 → ((x4 ≤ 0 → (B_Ba_offerDifferences_130 k2 post a0 x1 x2 M)) ∧ (¬ x4 ≤ 0 → (isK M a0 0 ∧ T_Ba_leaderBelow a0 x1 x3 x6 M (fun r69 M69 => (r69 ≤ 0 → (B_Ba_offerDifferences_124 k2 k53 post a0 x1 x2 x3 x4 x5 x6 M69)) ∧ (¬ r69 ≤ 0 → ((r69 = x4 → (B_Ba_offerDifferences_124 k2 k53 post a0 x1 x2 x3 x4 x5 x6 M69)) ∧ (¬ r69 = x4 → ((r69 = x5 → (B_Ba_offerDifferences_124 k2 k53 post a0 x1 x2 x3 x4 x5 x6 M69)) ∧ (¬ r69 = x5 → (isK M69 a0 0 ∧ T_Ba_isNews a0 x1 x3 (x4 - 1) (r69 - 1) M69 (fun r104 M104 => (r104 = 0 → (B_Ba_offerDifferences_124 k2 k53 post a0 x1 x2 x3 x4 x5 x6 M104)) ∧ (¬ r104 = 0 → (isK M104 a0 0 ∧ T_Ba_offerMoved a0 x1 x3 (r69 - 1) M104 (fun M117 => B_Ba_offerDifferences_124 k2 k53 post a0 x1 x2 x3 x4 r69 x6 M117))))))))))))))))
set_option maxRecDepth 20000 in
theorem Z_Ba_offerDifferences_53 {x : Ctx} {post : Mem → Prop} (C : Ok x b_Ba_offerDifferences 8 "HeapTower$Base") (hR : xR x = rm_Ba_offerDifferences) (Rt : RetV x post 0 0) {k2 : Nat → Int32 → Int32 → Mem → Prop} (K2 : ∀ (a0 : Nat) (x1 : Int32) (x2 : Int32) (M : Mem), k2 a0 x1 x2 M → J x 8 2 [(0, .ref (xd x a0)), (1, .int x1), (2, .int x2)] [] 0 0 M) {k53 : Nat → Int32 → Int32 → Int32 → Int32 → Int32 → Int32 → Mem → Prop} (K53 : ∀ (a0 : Nat) (x1 : Int32) (x2 : Int32) (x3 : Int32) (x4 : Int32) (x5 : Int32) (x6 : Int32) (M : Mem), k53 a0 x1 x2 x3 x4 x5 x6 M → J x 8 53 [(0, .ref (xd x a0)), (1, .int x1), (2, .int x2), (3, .int x3), (4, .int x4), (5, .int x5), (6, .int x6)] [] 0 0 M) (a0 : Nat) (x1 : Int32) (x2 : Int32) (x3 : Int32) (x4 : Int32) (x5 : Int32) (x6 : Int32) (M : Mem) (h : B_Ba_offerDifferences_53 k2 k53 post a0 x1 x2 x3 x4 x5 x6 M) : J x 8 53 [(0, .ref (xd x a0)), (1, .int x1), (2, .int x2), (3, .int x3), (4, .int x4), (5, .int x5), (6, .int x6)] [] 0 0 M := by
  unfold B_Ba_offerDifferences_53 at h
  refine J_iload C 6 D_Ba_offerDifferences_53 rfl ?_
  refine J_iconst (v := 3) C D_Ba_offerDifferences_55 rfl ?_
  refine J_icmp_ge (tgt := 130) C D_Ba_offerDifferences_56 (by decide) (fun c_56 => ?_) (fun c_56 => ?_)
  · have h := h.1 c_56
    exact J_sub [0, 1, 2] rfl (Z_Ba_offerDifferences_130 C hR Rt K2 _ _ _ _ h)
  · have h := h.2 c_56
    refine J_iload C 4 D_Ba_offerDifferences_59 rfl ?_
    refine J_if_le (tgt := 130) C D_Ba_offerDifferences_61 (by decide) (fun c_61 => ?_) (fun c_61 => ?_)
    · have h := h.1 c_61
      exact J_sub [0, 1, 2] rfl (Z_Ba_offerDifferences_130 C hR Rt K2 _ _ _ _ h)
    · have h := h.2 c_61
      refine J_aload_n C 0 D_Ba_offerDifferences_64 rfl rfl ?_
      refine J_iload_n C 1 D_Ba_offerDifferences_65 rfl rfl ?_
      refine J_iload_n C 3 D_Ba_offerDifferences_66 rfl rfl ?_
      refine J_iload C 6 D_Ba_offerDifferences_67 rfl ?_
      obtain ⟨c_69, h⟩ := h
      refine J_callVi C ml_Ba_132 (S_Ba_leaderBelow _ _ _ _ _ _ h) (by rw [hR]; decide) rfl c_69 rfl (Nat.le_of_ble_eq_true rfl) D_Ba_offerDifferences_69 (fun r69 M69 h => ?_)
      refine J_istore (lv' := [(7, .int r69), (0, .ref (xd x a0)), (1, .int x1), (2, .int x2), (3, .int x3), (4, .int x4), (5, .int x5), (6, .int x6)]) C 7 D_Ba_offerDifferences_72 (by decide) rfl ?_
      refine J_iload C 7 D_Ba_offerDifferences_74 rfl ?_
      refine J_if_le (tgt := 124) C D_Ba_offerDifferences_76 (by decide) (fun c_76 => ?_) (fun c_76 => ?_)
      · have h := h.1 c_76
        exact J_sub [1, 2, 3, 4, 5, 6, 7] rfl (Z_Ba_offerDifferences_124 C hR Rt K2 K53 _ _ _ _ _ _ _ _ h)
      · have h := h.2 c_76
        refine J_iload C 7 D_Ba_offerDifferences_79 rfl ?_
        refine J_iload C 4 D_Ba_offerDifferences_81 rfl ?_
        refine J_icmp_eq (tgt := 124) C D_Ba_offerDifferences_83 (by decide) (fun c_83 => ?_) (fun c_83 => ?_)
        · have h := h.1 c_83
          exact J_sub [1, 2, 3, 4, 5, 6, 7] rfl (Z_Ba_offerDifferences_124 C hR Rt K2 K53 _ _ _ _ _ _ _ _ h)
        · have h := h.2 c_83
          refine J_iload C 7 D_Ba_offerDifferences_86 rfl ?_
          refine J_iload C 5 D_Ba_offerDifferences_88 rfl ?_
          refine J_icmp_eq (tgt := 124) C D_Ba_offerDifferences_90 (by decide) (fun c_90 => ?_) (fun c_90 => ?_)
          · have h := h.1 c_90
            exact J_sub [1, 2, 3, 4, 5, 6, 7] rfl (Z_Ba_offerDifferences_124 C hR Rt K2 K53 _ _ _ _ _ _ _ _ h)
          · have h := h.2 c_90
            refine J_aload_n C 0 D_Ba_offerDifferences_93 rfl rfl ?_
            refine J_iload_n C 1 D_Ba_offerDifferences_94 rfl rfl ?_
            refine J_iload_n C 3 D_Ba_offerDifferences_95 rfl rfl ?_
            refine J_iload C 4 D_Ba_offerDifferences_96 rfl ?_
            refine J_iconst (v := 1) C D_Ba_offerDifferences_98 rfl ?_
            refine J_isub C D_Ba_offerDifferences_99 ?_
            refine J_iload C 7 D_Ba_offerDifferences_100 rfl ?_
            refine J_iconst (v := 1) C D_Ba_offerDifferences_102 rfl ?_
            refine J_isub C D_Ba_offerDifferences_103 ?_
            obtain ⟨c_104, h⟩ := h
            refine J_callVi C ml_Ba_142 (S_Ba_isNews _ _ _ _ _ _ _ h) (by rw [hR]; decide) rfl c_104 rfl (Nat.le_of_ble_eq_true rfl) D_Ba_offerDifferences_104 (fun r104 M104 h => ?_)
            refine J_if_eq (tgt := 124) C D_Ba_offerDifferences_107 (by decide) (fun c_107 => ?_) (fun c_107 => ?_)
            · have h := h.1 c_107
              exact J_sub [1, 2, 3, 4, 5, 6, 7] rfl (Z_Ba_offerDifferences_124 C hR Rt K2 K53 _ _ _ _ _ _ _ _ h)
            · have h := h.2 c_107
              refine J_aload_n C 0 D_Ba_offerDifferences_110 rfl rfl ?_
              refine J_iload_n C 1 D_Ba_offerDifferences_111 rfl rfl ?_
              refine J_iload_n C 3 D_Ba_offerDifferences_112 rfl rfl ?_
              refine J_iload C 7 D_Ba_offerDifferences_113 rfl ?_
              refine J_iconst (v := 1) C D_Ba_offerDifferences_115 rfl ?_
              refine J_isub C D_Ba_offerDifferences_116 ?_
              obtain ⟨c_117, h⟩ := h
              refine J_callVv C ml_Ba_146 (S_Ba_offerMoved _ _ _ _ _ _ h) (by rw [hR]; decide) rfl c_117 rfl (Nat.le_of_ble_eq_true rfl) D_Ba_offerDifferences_117 (fun M117 h => ?_)
              refine J_iload C 7 D_Ba_offerDifferences_120 rfl ?_
              refine J_istore (lv' := [(5, .int r69), (7, .int r69), (0, .ref (xd x a0)), (1, .int x1), (2, .int x2), (3, .int x3), (4, .int x4), (6, .int x6)]) C 5 D_Ba_offerDifferences_122 (by decide) rfl ?_
              exact J_sub [2, 3, 4, 5, 6, 0, 7] rfl (Z_Ba_offerDifferences_124 C hR Rt K2 K53 _ _ _ _ _ _ _ _ h)
def L_Ba_offerDifferences_53 (k2 : Nat → Int32 → Int32 → Mem → Prop) (post : Mem → Prop) : Nat → Nat → Int32 → Int32 → Int32 → Int32 → Int32 → Int32 → Mem → Prop
  | 0, _, _, _, _, _, _, _, _ => False
  | n + 1, a0, x1, x2, x3, x4, x5, x6, M => B_Ba_offerDifferences_53 k2 (L_Ba_offerDifferences_53 k2 post n) post a0 x1 x2 x3 x4 x5 x6 M
theorem Y_Ba_offerDifferences_53 {x : Ctx} {post : Mem → Prop} (C : Ok x b_Ba_offerDifferences 8 "HeapTower$Base") (hR : xR x = rm_Ba_offerDifferences) (Rt : RetV x post 0 0) {k2 : Nat → Int32 → Int32 → Mem → Prop} (K2 : ∀ (a0 : Nat) (x1 : Int32) (x2 : Int32) (M : Mem), k2 a0 x1 x2 M → J x 8 2 [(0, .ref (xd x a0)), (1, .int x1), (2, .int x2)] [] 0 0 M) : ∀ (n : Nat) (a0 : Nat) (x1 : Int32) (x2 : Int32) (x3 : Int32) (x4 : Int32) (x5 : Int32) (x6 : Int32) (M : Mem), L_Ba_offerDifferences_53 k2 post n a0 x1 x2 x3 x4 x5 x6 M → J x 8 53 [(0, .ref (xd x a0)), (1, .int x1), (2, .int x2), (3, .int x3), (4, .int x4), (5, .int x5), (6, .int x6)] [] 0 0 M := by
  intro n
  induction n with
  | zero => intro a0 x1 x2 x3 x4 x5 x6 M h; exact h.elim
  | succ n ih => intro a0 x1 x2 x3 x4 x5 x6 M h; exact Z_Ba_offerDifferences_53 C hR Rt K2 ih _ _ _ _ _ _ _ _ h
def B_Ba_offerDifferences_2 (k2 : Nat → Int32 → Int32 → Mem → Prop) (post : Mem → Prop) (a0 : Nat) (x1 : Int32) (x2 : Int32) (M : Mem) : Prop := (isK M a0 0 ∧ ((gI M a0 12) ≤ 1 → (B_Ba_offerDifferences_136 post M)) ∧ (¬ (gI M a0 12) ≤ 1 → (isK M a0 0 ∧ ∃ q12, gR M a0 0 = some q12 ∧ isK M q12 4 ∧ T_Pr_amount q12 x1 M (fun r16 M16 => (r16 ≤ x2 → (B_Ba_offerDifferences_136 post M16)) ∧ (¬ r16 ≤ x2 → (isK M16 a0 0 ∧ ∃ q23, gR M16 a0 0 = some q23 ∧ isK M16 q23 4 ∧ T_Pr_at q23 x1 x2 M16 (fun r28 M28 => isK M28 a0 0 ∧ ∃ q33, gR M28 a0 10 = some q33 ∧ vp_in x1 12 ∧ isZ M28 q33 ((fst (Int32.toNatClampNeg x1)) + r28) ∧ ∃ n, L_Ba_offerDifferences_53 k2 post n a0 x1 x2 r28 (gI M28 q33 (Int32.toNatClampNeg ((fst (Int32.toNatClampNeg x1)) + r28))) (gI M28 q33 (Int32.toNatClampNeg ((fst (Int32.toNatClampNeg x1)) + r28))) 1 M28)))))))
set_option maxRecDepth 20000 in
theorem Z_Ba_offerDifferences_2 {x : Ctx} {post : Mem → Prop} (C : Ok x b_Ba_offerDifferences 8 "HeapTower$Base") (hR : xR x = rm_Ba_offerDifferences) (Rt : RetV x post 0 0) {k2 : Nat → Int32 → Int32 → Mem → Prop} (K2 : ∀ (a0 : Nat) (x1 : Int32) (x2 : Int32) (M : Mem), k2 a0 x1 x2 M → J x 8 2 [(0, .ref (xd x a0)), (1, .int x1), (2, .int x2)] [] 0 0 M) (a0 : Nat) (x1 : Int32) (x2 : Int32) (M : Mem) (h : B_Ba_offerDifferences_2 k2 post a0 x1 x2 M) : J x 8 2 [(0, .ref (xd x a0)), (1, .int x1), (2, .int x2)] [] 0 0 M := by
  unfold B_Ba_offerDifferences_2 at h
  refine J_aload_n C 0 D_Ba_offerDifferences_2 rfl rfl ?_
  obtain ⟨c_3, h⟩ := h
  refine J_getI C fl_Ba_58 D_Ba_offerDifferences_3 c_3 ?_
  refine J_iconst (v := 1) C D_Ba_offerDifferences_6 rfl ?_
  refine J_icmp_le (tgt := 136) C D_Ba_offerDifferences_7 (by decide) (fun c_7 => ?_) (fun c_7 => ?_)
  · have h := h.1 c_7
    exact J_sub [] rfl (Z_Ba_offerDifferences_136 C hR Rt  _ h)
  · have h := h.2 c_7
    refine J_iload_n C 2 D_Ba_offerDifferences_10 rfl rfl ?_
    refine J_aload_n C 0 D_Ba_offerDifferences_11 rfl rfl ?_
    obtain ⟨c_12, q12, e_12, h⟩ := h
    refine J_getR C fl_Ba_37 D_Ba_offerDifferences_12 c_12 e_12 ?_
    refine J_iload_n C 1 D_Ba_offerDifferences_15 rfl rfl ?_
    obtain ⟨c_16, h⟩ := h
    refine J_callVi C ml_Ba_61 (S_Pr_amount _ _ _ _ h) (by rw [hR]; decide) rfl c_16 rfl (Nat.le_of_ble_eq_true rfl) D_Ba_offerDifferences_16 (fun r16 M16 h => ?_)
    refine J_icmp_ge (tgt := 136) C D_Ba_offerDifferences_19 (by decide) (fun c_19 => ?_) (fun c_19 => ?_)
    · have h := h.1 c_19
      exact J_sub [] rfl (Z_Ba_offerDifferences_136 C hR Rt  _ h)
    · have h := h.2 c_19
      refine J_aload_n C 0 D_Ba_offerDifferences_22 rfl rfl ?_
      obtain ⟨c_23, q23, e_23, h⟩ := h
      refine J_getR C fl_Ba_37 D_Ba_offerDifferences_23 c_23 e_23 ?_
      refine J_iload_n C 1 D_Ba_offerDifferences_26 rfl rfl ?_
      refine J_iload_n C 2 D_Ba_offerDifferences_27 rfl rfl ?_
      obtain ⟨c_28, h⟩ := h
      refine J_callVi C ml_Ba_99 (S_Pr_at _ _ _ _ _ h) (by rw [hR]; decide) rfl c_28 rfl (Nat.le_of_ble_eq_true rfl) D_Ba_offerDifferences_28 (fun r28 M28 h => ?_)
      refine J_istore_n (lv' := [(3, .int r28), (0, .ref (xd x a0)), (1, .int x1), (2, .int x2)]) C 3 D_Ba_offerDifferences_31 rfl (by decide) rfl ?_
      refine J_aload_n C 0 D_Ba_offerDifferences_32 rfl rfl ?_
      obtain ⟨c_33, q33, e_33, h⟩ := h
      refine J_getR C fl_Ba_30 D_Ba_offerDifferences_33 c_33 e_33 ?_
      refine J_first C (by decide) D_Ba_offerDifferences_36 ?_
      refine J_iload_n C 1 D_Ba_offerDifferences_39 rfl rfl ?_
      obtain ⟨c_40, h⟩ := h
      refine J_fald C D_Ba_offerDifferences_40 c_40 ?_
      refine J_iload_n C 3 D_Ba_offerDifferences_41 rfl rfl ?_
      refine J_iadd C D_Ba_offerDifferences_42 ?_
      obtain ⟨c_43, h⟩ := h
      refine J_yald C D_Ba_offerDifferences_43 c_43 ?_
      refine J_istore (lv' := [(4, .int (gI M28 q33 (Int32.toNatClampNeg ((fst (Int32.toNatClampNeg x1)) + r28)))), (3, .int r28), (0, .ref (xd x a0)), (1, .int x1), (2, .int x2)]) C 4 D_Ba_offerDifferences_44 (by decide) rfl ?_
      refine J_iload C 4 D_Ba_offerDifferences_46 rfl ?_
      refine J_istore (lv' := [(5, .int (gI M28 q33 (Int32.toNatClampNeg ((fst (Int32.toNatClampNeg x1)) + r28)))), (4, .int (gI M28 q33 (Int32.toNatClampNeg ((fst (Int32.toNatClampNeg x1)) + r28)))), (3, .int r28), (0, .ref (xd x a0)), (1, .int x1), (2, .int x2)]) C 5 D_Ba_offerDifferences_48 (by decide) rfl ?_
      refine J_iconst (v := 1) C D_Ba_offerDifferences_50 rfl ?_
      refine J_istore (lv' := [(6, .int 1), (5, .int (gI M28 q33 (Int32.toNatClampNeg ((fst (Int32.toNatClampNeg x1)) + r28)))), (4, .int (gI M28 q33 (Int32.toNatClampNeg ((fst (Int32.toNatClampNeg x1)) + r28)))), (3, .int r28), (0, .ref (xd x a0)), (1, .int x1), (2, .int x2)]) C 6 D_Ba_offerDifferences_51 (by decide) rfl ?_
      obtain ⟨n, h⟩ := h
      exact J_sub [4, 5, 6, 3, 2, 1, 0] rfl (Y_Ba_offerDifferences_53 C hR Rt K2 n _ _ _ _ _ _ _ _ h)
def L_Ba_offerDifferences_2 (post : Mem → Prop) : Nat → Nat → Int32 → Int32 → Mem → Prop
  | 0, _, _, _, _ => False
  | n + 1, a0, x1, x2, M => B_Ba_offerDifferences_2 (L_Ba_offerDifferences_2 post n) post a0 x1 x2 M
theorem Y_Ba_offerDifferences_2 {x : Ctx} {post : Mem → Prop} (C : Ok x b_Ba_offerDifferences 8 "HeapTower$Base") (hR : xR x = rm_Ba_offerDifferences) (Rt : RetV x post 0 0) : ∀ (n : Nat) (a0 : Nat) (x1 : Int32) (x2 : Int32) (M : Mem), L_Ba_offerDifferences_2 post n a0 x1 x2 M → J x 8 2 [(0, .ref (xd x a0)), (1, .int x1), (2, .int x2)] [] 0 0 M := by
  intro n
  induction n with
  | zero => intro a0 x1 x2 M h; exact h.elim
  | succ n ih => intro a0 x1 x2 M h; exact Z_Ba_offerDifferences_2 C hR Rt ih _ _ _ _ h
def T_Ba_offerDifferences (a0 : Nat) (x1 : Int32) (M : Mem) (post : Mem → Prop) : Prop := (∃ n, L_Ba_offerDifferences_2 post n a0 x1 0 M)
set_option maxRecDepth 20000 in
theorem S_Ba_offerDifferences {l : Launch} {D : va_G} {B t g : Nat} {d : Nat → Nat} {ac : Nat → ClassId}  (a0 : Nat) (x1 : Int32) (M : Mem) (post : Mem → Prop) (h : T_Ba_offerDifferences a0 x1 M post) : Met l y_Ba_offerDifferences w_Ba_offerDifferences rm_Ba_offerDifferences (va_Pc [.ref (d a0), .int x1] (PRE D B d g t ac M)) (QV D B d g ac post) 0 0 (AB B) := by
  refine met_v (by decide +kernel) (Nat.le_of_ble_eq_true rfl) (fun x h1 hR h3 h4 h5 h6 h7 h8 C Rt Nm => ?_)
  subst h3 h4 h5 h6 h7 h8
  unfold T_Ba_offerDifferences at h
  show J x 8 0 [(0, .ref (xd x a0)), (1, .int x1)] [] 0 0 M
  refine J_iconst (v := 0) C D_Ba_offerDifferences_0 rfl ?_
  refine J_istore_n (lv' := [(2, .int 0), (0, .ref (xd x a0)), (1, .int x1)]) C 2 D_Ba_offerDifferences_1 rfl (by decide) rfl ?_
  obtain ⟨n, h⟩ := h
  exact J_sub [1, 2, 0] rfl (Y_Ba_offerDifferences_2 C hR Rt  n _ _ _ _ h)
theorem D_Ba_open_0 : decode b_Ba_open 0 = .ok (.aload_n 0, 1) := by decide +kernel
theorem D_Ba_open_1 : decode b_Ba_open 1 = .ok (.invokevirtual 76, 3) := by decide +kernel
theorem D_Ba_open_4 : decode b_Ba_open 4 = .ok (.aload_n 0, 1) := by decide +kernel
theorem D_Ba_open_5 : decode b_Ba_open 5 = .ok (.getfield 45, 3) := by decide +kernel
theorem D_Ba_open_8 : decode b_Ba_open 8 = .ok (.iload_n 1, 1) := by decide +kernel
theorem D_Ba_open_9 : decode b_Ba_open 9 = .ok (.invokevirtual 79, 3) := by decide +kernel
theorem D_Ba_open_12 : decode b_Ba_open 12 = .ok (.aload_n 0, 1) := by decide +kernel
theorem D_Ba_open_13 : decode b_Ba_open 13 = .ok (.getfield 24, 3) := by decide +kernel
theorem D_Ba_open_16 : decode b_Ba_open 16 = .ok (.iload_n 1, 1) := by decide +kernel
theorem D_Ba_open_17 : decode b_Ba_open 17 = .ok (.iconst 0, 1) := by decide +kernel
theorem D_Ba_open_18 : decode b_Ba_open 18 = .ok (.iastore, 1) := by decide +kernel
theorem D_Ba_open_19 : decode b_Ba_open 19 = .ok (.aload_n 0, 1) := by decide +kernel
theorem D_Ba_open_20 : decode b_Ba_open 20 = .ok (.iload_n 1, 1) := by decide +kernel
theorem D_Ba_open_21 : decode b_Ba_open 21 = .ok (.invokevirtual 85, 3) := by decide +kernel
theorem D_Ba_open_24 : decode b_Ba_open 24 = .ok (.aload_n 0, 1) := by decide +kernel
theorem D_Ba_open_25 : decode b_Ba_open 25 = .ok (.iload_n 1, 1) := by decide +kernel
theorem D_Ba_open_26 : decode b_Ba_open 26 = .ok (.invokevirtual 88, 3) := by decide +kernel
theorem D_Ba_open_29 : decode b_Ba_open 29 = .ok (.return_, 1) := by decide +kernel
def T_Ba_open (a0 : Nat) (x1 : Int32) (M : Mem) (post : Mem → Prop) : Prop := (isK M a0 0 ∧ isK M a0 0 ∧ T_Ba_makeRoom a0 M (fun M1 => isK M1 a0 0 ∧ isK M1 a0 0 ∧ ∃ q5, gR M1 a0 2 = some q5 ∧ isK M1 q5 5 ∧ T_Ro_begin q5 x1 M1 (fun M9 => isK M9 a0 0 ∧ ∃ q13, gR M9 a0 8 = some q13 ∧ isA M9 q13 8 x1 ∧ isK (sI M9 q13 (Int32.toNatClampNeg x1) 0) a0 0 ∧ T_Ba_inherit a0 x1 (sI M9 q13 (Int32.toNatClampNeg x1) 0) (fun M21 => isK M21 a0 0 ∧ T_Ba_offerDifferences a0 x1 M21 (fun M26 => post M26)))))
set_option maxRecDepth 20000 in
theorem S_Ba_open {l : Launch} {D : va_G} {B t g : Nat} {d : Nat → Nat} {ac : Nat → ClassId} (a0 : Nat) (x1 : Int32) (M : Mem) (post : Mem → Prop) (hN : nC M + g ≤ 2800) (h : T_Ba_open a0 x1 M post) : Met l y_Ba_open w_Ba_open (rmD 4 110 (nC M + g)) (va_Pc [.ref (d a0), .int x1] (PRE D B d g t ac M)) (QVD D B ac post) (2800 - (nC M + g)) (2560 * (2800 - (nC M + g))) (AB B) := by
  refine met_vD (by decide +kernel) (Nat.le_of_ble_eq_true rfl) hN (fun x h1 hR h3 h4 h5 h6 h7 h8 C Bd Rt hN => ?_)
  subst h3 h4 h5 h6 h7 h8
  unfold T_Ba_open at h
  show J x 2 0 [(0, .ref (xd x a0)), (1, .int x1)] [] (iC x M) (iS 0 x M) M
  refine J_aload_n C 0 D_Ba_open_0 rfl rfl ?_
  obtain ⟨c_1, h⟩ := h
  refine J_sub [0, 1] rfl ?_
  obtain ⟨i_1_0, h⟩ := h
  refine JD_callVv C Bd hN ml_Ba_76 (S_Ba_makeRoom _ _ _ hN h) (by rw [hR.1, hR.2]; decide) rfl c_1 rfl (Nat.le_of_ble_eq_true rfl) D_Ba_open_1 (fun x ex M1 hN hq h => ?_)
  have C := ex.ok C
  have hR := ex.fr hR
  have Bd := ex.bd Bd
  have Rt := ex.rv Rt
  obtain ⟨j_1_0, h⟩ := h
  rw [hq a0 0 (by decide) i_1_0 j_1_0]
  refine J_aload_n C 0 D_Ba_open_4 rfl rfl ?_
  obtain ⟨c_5, q5, e_5, h⟩ := h
  refine J_getR C fl_Ba_45 D_Ba_open_5 c_5 e_5 ?_
  refine J_iload_n C 1 D_Ba_open_8 rfl rfl ?_
  obtain ⟨c_9, h⟩ := h
  refine JS_callVv C Bd hN ml_Ba_79 (S_Ro_begin _ _ _ _ h) ⟨rfl, rfl⟩ (by rw [hR.1, hR.2]; decide) rfl c_9 rfl (Nat.le_of_ble_eq_true rfl) D_Ba_open_9 (fun M9 hN h => ?_)
  refine J_aload_n C 0 D_Ba_open_12 rfl rfl ?_
  obtain ⟨c_13, q13, e_13, h⟩ := h
  refine J_getR C fl_Ba_24 D_Ba_open_13 c_13 e_13 ?_
  refine J_iload_n C 1 D_Ba_open_16 rfl rfl ?_
  refine J_iconst (v := 0) C D_Ba_open_17 rfl ?_
  obtain ⟨c_18, h⟩ := h
  refine J_iast C D_Ba_open_18 c_18 ?_
  refine J_aload_n C 0 D_Ba_open_19 rfl rfl ?_
  refine J_iload_n C 1 D_Ba_open_20 rfl rfl ?_
  obtain ⟨c_21, h⟩ := h
  refine JS_callVv C Bd hN ml_Ba_85 (S_Ba_inherit _ _ _ _ h) ⟨rfl, rfl⟩ (by rw [hR.1, hR.2]; decide) rfl c_21 rfl (Nat.le_of_ble_eq_true rfl) D_Ba_open_21 (fun M21 hN h => ?_)
  refine J_aload_n C 0 D_Ba_open_24 rfl rfl ?_
  refine J_iload_n C 1 D_Ba_open_25 rfl rfl ?_
  obtain ⟨c_26, h⟩ := h
  refine JS_callVv C Bd hN ml_Ba_88 (S_Ba_offerDifferences _ _ _ _ h) ⟨rfl, rfl⟩ (by rw [hR.1, hR.2]; decide) rfl c_26 rfl (Nat.le_of_ble_eq_true rfl) D_Ba_open_26 (fun M26 hN h => ?_)
  exact JD_vret C Rt hN D_Ba_open_29 h
