theorem fl_HT_10 : Fld "HeapTower" 10 6 0 false true := ⟨R_HT, F_HT, 12, t_HT, iw_HT, rfl, by decide, rfl, rfl, by decide, rfl, (gw_in (List.mem_of_getElem? (i := 266) (by decide +kernel)) (by decide +kernel)), t_HT_ok, n_HT, rfl, (fun h => by cases h), fun _ => Or.inl ⟨_, rfl⟩⟩
theorem fl_HT_19 : Fld "HeapTower" 19 6 1 false true := ⟨R_HT, F_HT, 12, t_HT, iw_HT, rfl, by decide, rfl, rfl, by decide, rfl, (gw_in (List.mem_of_getElem? (i := 267) (by decide +kernel)) (by decide +kernel)), t_HT_ok, n_HT, rfl, (fun h => by cases h), fun _ => Or.inl ⟨_, rfl⟩⟩
theorem fl_HT_32 : Fld "HeapTower" 32 6 3 false true := ⟨R_HT, F_HT, 12, t_HT, iw_HT, rfl, by decide, rfl, rfl, by decide, rfl, (gw_in (List.mem_of_getElem? (i := 269) (by decide +kernel)) (by decide +kernel)), t_HT_ok, n_HT, rfl, (fun h => by cases h), fun _ => Or.inr ⟨_, rfl⟩⟩
theorem fl_HT_46 : Fld "HeapTower" 46 6 5 false true := ⟨R_HT, F_HT, 12, t_HT, iw_HT, rfl, by decide, rfl, rfl, by decide, rfl, (gw_in (List.mem_of_getElem? (i := 271) (by decide +kernel)) (by decide +kernel)), t_HT_ok, n_HT, rfl, (fun h => by cases h), fun _ => Or.inl ⟨_, rfl⟩⟩
theorem fl_HT_50 : Fld "HeapTower" 50 6 6 false true := ⟨R_HT, F_HT, 12, t_HT, iw_HT, rfl, by decide, rfl, rfl, by decide, rfl, (gw_in (List.mem_of_getElem? (i := 272) (by decide +kernel)) (by decide +kernel)), t_HT_ok, n_HT, rfl, (fun h => by cases h), fun _ => Or.inr ⟨_, rfl⟩⟩
theorem fl_HT_59 : Fld "HeapTower" 59 6 7 false true := ⟨R_HT, F_HT, 12, t_HT, iw_HT, rfl, by decide, rfl, rfl, by decide, rfl, (gw_in (List.mem_of_getElem? (i := 273) (by decide +kernel)) (by decide +kernel)), t_HT_ok, n_HT, rfl, (fun h => by cases h), fun _ => Or.inl ⟨_, rfl⟩⟩
theorem fl_HT_63 : Fld "HeapTower" 63 6 8 false true := ⟨R_HT, F_HT, 12, t_HT, iw_HT, rfl, by decide, rfl, rfl, by decide, rfl, (gw_in (List.mem_of_getElem? (i := 274) (by decide +kernel)) (by decide +kernel)), t_HT_ok, n_HT, rfl, (fun h => by cases h), fun _ => Or.inl ⟨_, rfl⟩⟩
theorem fl_HT_66 : Fld "HeapTower" 66 6 9 false true := ⟨R_HT, F_HT, 12, t_HT, iw_HT, rfl, by decide, rfl, rfl, by decide, rfl, (gw_in (List.mem_of_getElem? (i := 275) (by decide +kernel)) (by decide +kernel)), t_HT_ok, n_HT, rfl, (fun h => by cases h), fun _ => Or.inl ⟨_, rfl⟩⟩
theorem fl_HT_74 : Fld "HeapTower" 74 6 10 false false := ⟨R_HT, F_HT, 12, t_HT, iw_HT, rfl, by decide, rfl, rfl, by decide, rfl, (gw_in (List.mem_of_getElem? (i := 276) (by decide +kernel)) (by decide +kernel)), t_HT_ok, n_HT, rfl, (fun h => by cases h), fun _ => Or.inl ⟨_, rfl⟩⟩
theorem fl_HT_78 : Fld "HeapTower" 78 6 11 false false := ⟨R_HT, F_HT, 12, t_HT, iw_HT, rfl, by decide, rfl, rfl, by decide, rfl, (gw_in (List.mem_of_getElem? (i := 277) (by decide +kernel)) (by decide +kernel)), t_HT_ok, n_HT, rfl, (fun h => by cases h), fun _ => Or.inl ⟨_, rfl⟩⟩
theorem ml_HT_81 : MLS "HeapTower" 81 y_Nu_isPrime b_Nu_isPrime 2 (some .boolean) 1 := ⟨List.forall_mem_cons.mpr ⟨(gw_in (List.mem_of_getElem? (i := 307) (by decide +kernel)) (by decide +kernel)), List.forall_mem_cons.mpr ⟨(gw_in (List.mem_of_getElem? (i := 308) (by decide +kernel)) (by decide +kernel)), List.forall_mem_cons.mpr ⟨(gw_in (List.mem_of_getElem? (i := 69) (by decide +kernel)) (by decide +kernel)), List.forall_mem_cons.mpr ⟨(gw_in (List.mem_of_getElem? (i := 309) (by decide +kernel)) (by decide +kernel)), fun _ h => absurd h List.not_mem_nil⟩⟩⟩⟩, by decide⟩
theorem ml_HT_86 : MLV "HeapTower" 86 y_Nu_setPrime b_Nu_setPrime 3 none 1 2 := ⟨List.forall_mem_cons.mpr ⟨(gw_in (List.mem_of_getElem? (i := 311) (by decide +kernel)) (by decide +kernel)), List.forall_mem_cons.mpr ⟨(gw_in (List.mem_of_getElem? (i := 138) (by decide +kernel)) (by decide +kernel)), List.forall_mem_cons.mpr ⟨(gw_in (List.mem_of_getElem? (i := 139) (by decide +kernel)) (by decide +kernel)), List.forall_mem_cons.mpr ⟨(gw_in (List.mem_of_getElem? (i := 69) (by decide +kernel)) (by decide +kernel)), List.forall_mem_cons.mpr ⟨(gw_in (List.mem_of_getElem? (i := 140) (by decide +kernel)) (by decide +kernel)), fun _ h => absurd h List.not_mem_nil⟩⟩⟩⟩⟩, by decide, F_Nu, 2, rfl, by decide⟩
theorem ml_HT_90 : MLV "HeapTower" 90 y_Pr_orderNow b_Pr_orderNow 1 (some .int) 0 4 := ⟨List.forall_mem_cons.mpr ⟨(gw_in (List.mem_of_getElem? (i := 312) (by decide +kernel)) (by decide +kernel)), List.forall_mem_cons.mpr ⟨(gw_in (List.mem_of_getElem? (i := 313) (by decide +kernel)) (by decide +kernel)), List.forall_mem_cons.mpr ⟨(gw_in (List.mem_of_getElem? (i := 314) (by decide +kernel)) (by decide +kernel)), List.forall_mem_cons.mpr ⟨(gw_in (List.mem_of_getElem? (i := 68) (by decide +kernel)) (by decide +kernel)), List.forall_mem_cons.mpr ⟨(gw_in (List.mem_of_getElem? (i := 315) (by decide +kernel)) (by decide +kernel)), fun _ h => absurd h List.not_mem_nil⟩⟩⟩⟩⟩, by decide, F_Pr, 6, rfl, by decide⟩
theorem ml_HT_94 : MLV "HeapTower" 94 y_Pr_arrange b_Pr_arrange 4 none 2 4 := ⟨List.forall_mem_cons.mpr ⟨(gw_in (List.mem_of_getElem? (i := 316) (by decide +kernel)) (by decide +kernel)), List.forall_mem_cons.mpr ⟨(gw_in (List.mem_of_getElem? (i := 96) (by decide +kernel)) (by decide +kernel)), List.forall_mem_cons.mpr ⟨(gw_in (List.mem_of_getElem? (i := 97) (by decide +kernel)) (by decide +kernel)), List.forall_mem_cons.mpr ⟨(gw_in (List.mem_of_getElem? (i := 68) (by decide +kernel)) (by decide +kernel)), List.forall_mem_cons.mpr ⟨(gw_in (List.mem_of_getElem? (i := 98) (by decide +kernel)) (by decide +kernel)), fun _ h => absurd h List.not_mem_nil⟩⟩⟩⟩⟩, by decide, F_Pr, 6, rfl, by decide⟩
theorem ml_HT_98 : MLV "HeapTower" 98 y_He_empty b_He_empty 1 none 0 1 := ⟨List.forall_mem_cons.mpr ⟨(gw_in (List.mem_of_getElem? (i := 317) (by decide +kernel)) (by decide +kernel)), List.forall_mem_cons.mpr ⟨(gw_in (List.mem_of_getElem? (i := 318) (by decide +kernel)) (by decide +kernel)), List.forall_mem_cons.mpr ⟨(gw_in (List.mem_of_getElem? (i := 319) (by decide +kernel)) (by decide +kernel)), List.forall_mem_cons.mpr ⟨(gw_in (List.mem_of_getElem? (i := 73) (by decide +kernel)) (by decide +kernel)), List.forall_mem_cons.mpr ⟨(gw_in (List.mem_of_getElem? (i := 320) (by decide +kernel)) (by decide +kernel)), fun _ h => absurd h List.not_mem_nil⟩⟩⟩⟩⟩, by decide, F_He, 5, rfl, by decide⟩
theorem ml_HT_101 : MLV "HeapTower" 101 y_HT_clearClaims b_HT_clearClaims 2 none 0 6 := ⟨List.forall_mem_cons.mpr ⟨(gw_in (List.mem_of_getElem? (i := 332) (by decide +kernel)) (by decide +kernel)), List.forall_mem_cons.mpr ⟨(gw_in (List.mem_of_getElem? (i := 334) (by decide +kernel)) (by decide +kernel)), List.forall_mem_cons.mpr ⟨(gw_in (List.mem_of_getElem? (i := 2) (by decide +kernel)) (by decide +kernel)), List.forall_mem_cons.mpr ⟨(gw_in (List.mem_of_getElem? (i := 67) (by decide +kernel)) (by decide +kernel)), List.forall_mem_cons.mpr ⟨(gw_in (List.mem_of_getElem? (i := 335) (by decide +kernel)) (by decide +kernel)), fun _ h => absurd h List.not_mem_nil⟩⟩⟩⟩⟩, by decide, F_HT, 12, rfl, by decide⟩
theorem ml_HT_104 : MLV "HeapTower" 104 y_Po_clear b_Po_clear 1 none 0 3 := ⟨List.forall_mem_cons.mpr ⟨(gw_in (List.mem_of_getElem? (i := 336) (by decide +kernel)) (by decide +kernel)), List.forall_mem_cons.mpr ⟨(gw_in (List.mem_of_getElem? (i := 337) (by decide +kernel)) (by decide +kernel)), List.forall_mem_cons.mpr ⟨(gw_in (List.mem_of_getElem? (i := 338) (by decide +kernel)) (by decide +kernel)), List.forall_mem_cons.mpr ⟨(gw_in (List.mem_of_getElem? (i := 71) (by decide +kernel)) (by decide +kernel)), List.forall_mem_cons.mpr ⟨(gw_in (List.mem_of_getElem? (i := 339) (by decide +kernel)) (by decide +kernel)), fun _ h => absurd h List.not_mem_nil⟩⟩⟩⟩⟩, by decide, F_Po, 2, rfl, by decide⟩
theorem ml_HT_107 : MLV "HeapTower" 107 y_HT_forgetAllBases b_HT_forgetAllBases 1 none 0 6 := ⟨List.forall_mem_cons.mpr ⟨(gw_in (List.mem_of_getElem? (i := 343) (by decide +kernel)) (by decide +kernel)), List.forall_mem_cons.mpr ⟨(gw_in (List.mem_of_getElem? (i := 345) (by decide +kernel)) (by decide +kernel)), List.forall_mem_cons.mpr ⟨(gw_in (List.mem_of_getElem? (i := 3) (by decide +kernel)) (by decide +kernel)), List.forall_mem_cons.mpr ⟨(gw_in (List.mem_of_getElem? (i := 67) (by decide +kernel)) (by decide +kernel)), List.forall_mem_cons.mpr ⟨(gw_in (List.mem_of_getElem? (i := 346) (by decide +kernel)) (by decide +kernel)), fun _ h => absurd h List.not_mem_nil⟩⟩⟩⟩⟩, by decide, F_HT, 12, rfl, by decide⟩
theorem ml_HT_110 : MLV "HeapTower" 110 y_Pr_letterCount b_Pr_letterCount 1 (some .int) 0 4 := ⟨List.forall_mem_cons.mpr ⟨(gw_in (List.mem_of_getElem? (i := 353) (by decide +kernel)) (by decide +kernel)), List.forall_mem_cons.mpr ⟨(gw_in (List.mem_of_getElem? (i := 354) (by decide +kernel)) (by decide +kernel)), List.forall_mem_cons.mpr ⟨(gw_in (List.mem_of_getElem? (i := 355) (by decide +kernel)) (by decide +kernel)), List.forall_mem_cons.mpr ⟨(gw_in (List.mem_of_getElem? (i := 68) (by decide +kernel)) (by decide +kernel)), List.forall_mem_cons.mpr ⟨(gw_in (List.mem_of_getElem? (i := 356) (by decide +kernel)) (by decide +kernel)), fun _ h => absurd h List.not_mem_nil⟩⟩⟩⟩⟩, by decide, F_Pr, 6, rfl, by decide⟩
theorem ml_HT_113 : MLV "HeapTower" 113 y_HT_isProduct b_HT_isProduct 5 (some .boolean) 3 6 := ⟨List.forall_mem_cons.mpr ⟨(gw_in (List.mem_of_getElem? (i := 361) (by decide +kernel)) (by decide +kernel)), List.forall_mem_cons.mpr ⟨(gw_in (List.mem_of_getElem? (i := 363) (by decide +kernel)) (by decide +kernel)), List.forall_mem_cons.mpr ⟨(gw_in (List.mem_of_getElem? (i := 4) (by decide +kernel)) (by decide +kernel)), List.forall_mem_cons.mpr ⟨(gw_in (List.mem_of_getElem? (i := 67) (by decide +kernel)) (by decide +kernel)), List.forall_mem_cons.mpr ⟨(gw_in (List.mem_of_getElem? (i := 364) (by decide +kernel)) (by decide +kernel)), fun _ h => absurd h List.not_mem_nil⟩⟩⟩⟩⟩, by decide, F_HT, 12, rfl, by decide⟩
theorem ml_HT_117 : MLS "HeapTower" 117 y_Pr_place b_Pr_place 2 (some .int) 2 := ⟨List.forall_mem_cons.mpr ⟨(gw_in (List.mem_of_getElem? (i := 365) (by decide +kernel)) (by decide +kernel)), List.forall_mem_cons.mpr ⟨(gw_in (List.mem_of_getElem? (i := 93) (by decide +kernel)) (by decide +kernel)), List.forall_mem_cons.mpr ⟨(gw_in (List.mem_of_getElem? (i := 68) (by decide +kernel)) (by decide +kernel)), List.forall_mem_cons.mpr ⟨(gw_in (List.mem_of_getElem? (i := 94) (by decide +kernel)) (by decide +kernel)), fun _ h => absurd h List.not_mem_nil⟩⟩⟩⟩, by decide⟩
theorem ml_HT_121 : MLV "HeapTower" 121 y_Po_numberAt b_Po_numberAt 3 (some .int) 2 3 := ⟨List.forall_mem_cons.mpr ⟨(gw_in (List.mem_of_getElem? (i := 366) (by decide +kernel)) (by decide +kernel)), List.forall_mem_cons.mpr ⟨(gw_in (List.mem_of_getElem? (i := 367) (by decide +kernel)) (by decide +kernel)), List.forall_mem_cons.mpr ⟨(gw_in (List.mem_of_getElem? (i := 368) (by decide +kernel)) (by decide +kernel)), List.forall_mem_cons.mpr ⟨(gw_in (List.mem_of_getElem? (i := 71) (by decide +kernel)) (by decide +kernel)), List.forall_mem_cons.mpr ⟨(gw_in (List.mem_of_getElem? (i := 369) (by decide +kernel)) (by decide +kernel)), fun _ h => absurd h List.not_mem_nil⟩⟩⟩⟩⟩, by decide, F_Po, 2, rfl, by decide⟩
theorem ml_HT_124 : MLV "HeapTower" 124 y_Nu_modulo b_Nu_modulo 2 (some .int) 1 2 := ⟨List.forall_mem_cons.mpr ⟨(gw_in (List.mem_of_getElem? (i := 371) (by decide +kernel)) (by decide +kernel)), List.forall_mem_cons.mpr ⟨(gw_in (List.mem_of_getElem? (i := 372) (by decide +kernel)) (by decide +kernel)), List.forall_mem_cons.mpr ⟨(gw_in (List.mem_of_getElem? (i := 373) (by decide +kernel)) (by decide +kernel)), List.forall_mem_cons.mpr ⟨(gw_in (List.mem_of_getElem? (i := 69) (by decide +kernel)) (by decide +kernel)), List.forall_mem_cons.mpr ⟨(gw_in (List.mem_of_getElem? (i := 374) (by decide +kernel)) (by decide +kernel)), fun _ h => absurd h List.not_mem_nil⟩⟩⟩⟩⟩, by decide, F_Nu, 2, rfl, by decide⟩
theorem ml_HT_128 : MLV "HeapTower" 128 y_Po_setNumber b_Po_setNumber 4 none 3 3 := ⟨List.forall_mem_cons.mpr ⟨(gw_in (List.mem_of_getElem? (i := 378) (by decide +kernel)) (by decide +kernel)), List.forall_mem_cons.mpr ⟨(gw_in (List.mem_of_getElem? (i := 379) (by decide +kernel)) (by decide +kernel)), List.forall_mem_cons.mpr ⟨(gw_in (List.mem_of_getElem? (i := 380) (by decide +kernel)) (by decide +kernel)), List.forall_mem_cons.mpr ⟨(gw_in (List.mem_of_getElem? (i := 71) (by decide +kernel)) (by decide +kernel)), List.forall_mem_cons.mpr ⟨(gw_in (List.mem_of_getElem? (i := 381) (by decide +kernel)) (by decide +kernel)), fun _ h => absurd h List.not_mem_nil⟩⟩⟩⟩⟩, by decide, F_Po, 2, rfl, by decide⟩
theorem ml_HT_132 : MLV "HeapTower" 132 y_HT_draftChanged b_HT_draftChanged 1 none 0 6 := ⟨List.forall_mem_cons.mpr ⟨(gw_in (List.mem_of_getElem? (i := 382) (by decide +kernel)) (by decide +kernel)), List.forall_mem_cons.mpr ⟨(gw_in (List.mem_of_getElem? (i := 384) (by decide +kernel)) (by decide +kernel)), List.forall_mem_cons.mpr ⟨(gw_in (List.mem_of_getElem? (i := 5) (by decide +kernel)) (by decide +kernel)), List.forall_mem_cons.mpr ⟨(gw_in (List.mem_of_getElem? (i := 67) (by decide +kernel)) (by decide +kernel)), List.forall_mem_cons.mpr ⟨(gw_in (List.mem_of_getElem? (i := 385) (by decide +kernel)) (by decide +kernel)), fun _ h => absurd h List.not_mem_nil⟩⟩⟩⟩⟩, by decide, F_HT, 12, rfl, by decide⟩
theorem ml_HT_135 : MLV "HeapTower" 135 y_Po_size b_Po_size 3 (some .int) 0 3 := ⟨List.forall_mem_cons.mpr ⟨(gw_in (List.mem_of_getElem? (i := 394) (by decide +kernel)) (by decide +kernel)), List.forall_mem_cons.mpr ⟨(gw_in (List.mem_of_getElem? (i := 395) (by decide +kernel)) (by decide +kernel)), List.forall_mem_cons.mpr ⟨(gw_in (List.mem_of_getElem? (i := 396) (by decide +kernel)) (by decide +kernel)), List.forall_mem_cons.mpr ⟨(gw_in (List.mem_of_getElem? (i := 71) (by decide +kernel)) (by decide +kernel)), List.forall_mem_cons.mpr ⟨(gw_in (List.mem_of_getElem? (i := 397) (by decide +kernel)) (by decide +kernel)), fun _ h => absurd h List.not_mem_nil⟩⟩⟩⟩⟩, by decide, F_Po, 2, rfl, by decide⟩
theorem ml_HT_138 : MLV "HeapTower" 138 y_Po_degree b_Po_degree 2 (some .int) 0 3 := ⟨List.forall_mem_cons.mpr ⟨(gw_in (List.mem_of_getElem? (i := 402) (by decide +kernel)) (by decide +kernel)), List.forall_mem_cons.mpr ⟨(gw_in (List.mem_of_getElem? (i := 403) (by decide +kernel)) (by decide +kernel)), List.forall_mem_cons.mpr ⟨(gw_in (List.mem_of_getElem? (i := 404) (by decide +kernel)) (by decide +kernel)), List.forall_mem_cons.mpr ⟨(gw_in (List.mem_of_getElem? (i := 71) (by decide +kernel)) (by decide +kernel)), List.forall_mem_cons.mpr ⟨(gw_in (List.mem_of_getElem? (i := 405) (by decide +kernel)) (by decide +kernel)), fun _ h => absurd h List.not_mem_nil⟩⟩⟩⟩⟩, by decide, F_Po, 2, rfl, by decide⟩
theorem ml_HT_141 : MLV "HeapTower" 141 y_Po_isEven b_Po_isEven 2 (some .boolean) 0 3 := ⟨List.forall_mem_cons.mpr ⟨(gw_in (List.mem_of_getElem? (i := 410) (by decide +kernel)) (by decide +kernel)), List.forall_mem_cons.mpr ⟨(gw_in (List.mem_of_getElem? (i := 411) (by decide +kernel)) (by decide +kernel)), List.forall_mem_cons.mpr ⟨(gw_in (List.mem_of_getElem? (i := 412) (by decide +kernel)) (by decide +kernel)), List.forall_mem_cons.mpr ⟨(gw_in (List.mem_of_getElem? (i := 71) (by decide +kernel)) (by decide +kernel)), List.forall_mem_cons.mpr ⟨(gw_in (List.mem_of_getElem? (i := 413) (by decide +kernel)) (by decide +kernel)), fun _ h => absurd h List.not_mem_nil⟩⟩⟩⟩⟩, by decide, F_Po, 2, rfl, by decide⟩
theorem ml_HT_145 : MLV "HeapTower" 145 y_HT_headOfDraft b_HT_headOfDraft 3 (some .int) 0 6 := ⟨List.forall_mem_cons.mpr ⟨(gw_in (List.mem_of_getElem? (i := 416) (by decide +kernel)) (by decide +kernel)), List.forall_mem_cons.mpr ⟨(gw_in (List.mem_of_getElem? (i := 418) (by decide +kernel)) (by decide +kernel)), List.forall_mem_cons.mpr ⟨(gw_in (List.mem_of_getElem? (i := 7) (by decide +kernel)) (by decide +kernel)), List.forall_mem_cons.mpr ⟨(gw_in (List.mem_of_getElem? (i := 67) (by decide +kernel)) (by decide +kernel)), List.forall_mem_cons.mpr ⟨(gw_in (List.mem_of_getElem? (i := 419) (by decide +kernel)) (by decide +kernel)), fun _ h => absurd h List.not_mem_nil⟩⟩⟩⟩⟩, by decide, F_HT, 12, rfl, by decide⟩
theorem ml_HT_148 : MLV "HeapTower" 148 y_Po_moveUp b_Po_moveUp 4 none 2 3 := ⟨List.forall_mem_cons.mpr ⟨(gw_in (List.mem_of_getElem? (i := 441) (by decide +kernel)) (by decide +kernel)), List.forall_mem_cons.mpr ⟨(gw_in (List.mem_of_getElem? (i := 442) (by decide +kernel)) (by decide +kernel)), List.forall_mem_cons.mpr ⟨(gw_in (List.mem_of_getElem? (i := 443) (by decide +kernel)) (by decide +kernel)), List.forall_mem_cons.mpr ⟨(gw_in (List.mem_of_getElem? (i := 71) (by decide +kernel)) (by decide +kernel)), List.forall_mem_cons.mpr ⟨(gw_in (List.mem_of_getElem? (i := 444) (by decide +kernel)) (by decide +kernel)), fun _ h => absurd h List.not_mem_nil⟩⟩⟩⟩⟩, by decide, F_Po, 2, rfl, by decide⟩
theorem ml_HT_151 : MLV "HeapTower" 151 y_He_isFull b_He_isFull 1 (some .boolean) 0 1 := ⟨List.forall_mem_cons.mpr ⟨(gw_in (List.mem_of_getElem? (i := 464) (by decide +kernel)) (by decide +kernel)), List.forall_mem_cons.mpr ⟨(gw_in (List.mem_of_getElem? (i := 465) (by decide +kernel)) (by decide +kernel)), List.forall_mem_cons.mpr ⟨(gw_in (List.mem_of_getElem? (i := 466) (by decide +kernel)) (by decide +kernel)), List.forall_mem_cons.mpr ⟨(gw_in (List.mem_of_getElem? (i := 73) (by decide +kernel)) (by decide +kernel)), List.forall_mem_cons.mpr ⟨(gw_in (List.mem_of_getElem? (i := 467) (by decide +kernel)) (by decide +kernel)), fun _ h => absurd h List.not_mem_nil⟩⟩⟩⟩⟩, by decide, F_He, 5, rfl, by decide⟩
theorem ml_HT_154 : MLV "HeapTower" 154 y_He_size b_He_size 1 (some .int) 0 1 := ⟨List.forall_mem_cons.mpr ⟨(gw_in (List.mem_of_getElem? (i := 468) (by decide +kernel)) (by decide +kernel)), List.forall_mem_cons.mpr ⟨(gw_in (List.mem_of_getElem? (i := 469) (by decide +kernel)) (by decide +kernel)), List.forall_mem_cons.mpr ⟨(gw_in (List.mem_of_getElem? (i := 470) (by decide +kernel)) (by decide +kernel)), List.forall_mem_cons.mpr ⟨(gw_in (List.mem_of_getElem? (i := 73) (by decide +kernel)) (by decide +kernel)), List.forall_mem_cons.mpr ⟨(gw_in (List.mem_of_getElem? (i := 471) (by decide +kernel)) (by decide +kernel)), fun _ h => absurd h List.not_mem_nil⟩⟩⟩⟩⟩, by decide, F_He, 5, rfl, by decide⟩
theorem ml_HT_155 : MLV "HeapTower" 155 y_He_append b_He_append 3 none 2 1 := ⟨List.forall_mem_cons.mpr ⟨(gw_in (List.mem_of_getElem? (i := 472) (by decide +kernel)) (by decide +kernel)), List.forall_mem_cons.mpr ⟨(gw_in (List.mem_of_getElem? (i := 473) (by decide +kernel)) (by decide +kernel)), List.forall_mem_cons.mpr ⟨(gw_in (List.mem_of_getElem? (i := 474) (by decide +kernel)) (by decide +kernel)), List.forall_mem_cons.mpr ⟨(gw_in (List.mem_of_getElem? (i := 73) (by decide +kernel)) (by decide +kernel)), List.forall_mem_cons.mpr ⟨(gw_in (List.mem_of_getElem? (i := 475) (by decide +kernel)) (by decide +kernel)), fun _ h => absurd h List.not_mem_nil⟩⟩⟩⟩⟩, by decide, F_He, 5, rfl, by decide⟩
theorem ml_HT_159 : MLV "HeapTower" 159 y_HT_heapChanged b_HT_heapChanged 2 none 1 6 := ⟨List.forall_mem_cons.mpr ⟨(gw_in (List.mem_of_getElem? (i := 483) (by decide +kernel)) (by decide +kernel)), List.forall_mem_cons.mpr ⟨(gw_in (List.mem_of_getElem? (i := 485) (by decide +kernel)) (by decide +kernel)), List.forall_mem_cons.mpr ⟨(gw_in (List.mem_of_getElem? (i := 9) (by decide +kernel)) (by decide +kernel)), List.forall_mem_cons.mpr ⟨(gw_in (List.mem_of_getElem? (i := 67) (by decide +kernel)) (by decide +kernel)), List.forall_mem_cons.mpr ⟨(gw_in (List.mem_of_getElem? (i := 486) (by decide +kernel)) (by decide +kernel)), fun _ h => absurd h List.not_mem_nil⟩⟩⟩⟩⟩, by decide, F_HT, 12, rfl, by decide⟩
theorem ml_HT_162 : MLV "HeapTower" 162 y_He_degreeOf b_He_degreeOf 2 (some .int) 1 1 := ⟨List.forall_mem_cons.mpr ⟨(gw_in (List.mem_of_getElem? (i := 491) (by decide +kernel)) (by decide +kernel)), List.forall_mem_cons.mpr ⟨(gw_in (List.mem_of_getElem? (i := 492) (by decide +kernel)) (by decide +kernel)), List.forall_mem_cons.mpr ⟨(gw_in (List.mem_of_getElem? (i := 493) (by decide +kernel)) (by decide +kernel)), List.forall_mem_cons.mpr ⟨(gw_in (List.mem_of_getElem? (i := 73) (by decide +kernel)) (by decide +kernel)), List.forall_mem_cons.mpr ⟨(gw_in (List.mem_of_getElem? (i := 494) (by decide +kernel)) (by decide +kernel)), fun _ h => absurd h List.not_mem_nil⟩⟩⟩⟩⟩, by decide, F_He, 5, rfl, by decide⟩
theorem ml_HT_165 : MLV "HeapTower" 165 y_He_removeLatest b_He_removeLatest 1 none 0 1 := ⟨List.forall_mem_cons.mpr ⟨(gw_in (List.mem_of_getElem? (i := 495) (by decide +kernel)) (by decide +kernel)), List.forall_mem_cons.mpr ⟨(gw_in (List.mem_of_getElem? (i := 496) (by decide +kernel)) (by decide +kernel)), List.forall_mem_cons.mpr ⟨(gw_in (List.mem_of_getElem? (i := 497) (by decide +kernel)) (by decide +kernel)), List.forall_mem_cons.mpr ⟨(gw_in (List.mem_of_getElem? (i := 73) (by decide +kernel)) (by decide +kernel)), List.forall_mem_cons.mpr ⟨(gw_in (List.mem_of_getElem? (i := 498) (by decide +kernel)) (by decide +kernel)), fun _ h => absurd h List.not_mem_nil⟩⟩⟩⟩⟩, by decide, F_He, 5, rfl, by decide⟩
theorem ml_HT_168 : MLV "HeapTower" 168 y_He_has b_He_has 2 (some .boolean) 1 1 := ⟨List.forall_mem_cons.mpr ⟨(gw_in (List.mem_of_getElem? (i := 503) (by decide +kernel)) (by decide +kernel)), List.forall_mem_cons.mpr ⟨(gw_in (List.mem_of_getElem? (i := 504) (by decide +kernel)) (by decide +kernel)), List.forall_mem_cons.mpr ⟨(gw_in (List.mem_of_getElem? (i := 505) (by decide +kernel)) (by decide +kernel)), List.forall_mem_cons.mpr ⟨(gw_in (List.mem_of_getElem? (i := 73) (by decide +kernel)) (by decide +kernel)), List.forall_mem_cons.mpr ⟨(gw_in (List.mem_of_getElem? (i := 506) (by decide +kernel)) (by decide +kernel)), fun _ h => absurd h List.not_mem_nil⟩⟩⟩⟩⟩, by decide, F_He, 5, rfl, by decide⟩
theorem ml_HT_171 : MLV "HeapTower" 171 y_He_load b_He_load 3 none 2 1 := ⟨List.forall_mem_cons.mpr ⟨(gw_in (List.mem_of_getElem? (i := 507) (by decide +kernel)) (by decide +kernel)), List.forall_mem_cons.mpr ⟨(gw_in (List.mem_of_getElem? (i := 508) (by decide +kernel)) (by decide +kernel)), List.forall_mem_cons.mpr ⟨(gw_in (List.mem_of_getElem? (i := 509) (by decide +kernel)) (by decide +kernel)), List.forall_mem_cons.mpr ⟨(gw_in (List.mem_of_getElem? (i := 73) (by decide +kernel)) (by decide +kernel)), List.forall_mem_cons.mpr ⟨(gw_in (List.mem_of_getElem? (i := 510) (by decide +kernel)) (by decide +kernel)), fun _ h => absurd h List.not_mem_nil⟩⟩⟩⟩⟩, by decide, F_He, 5, rfl, by decide⟩
theorem ml_HT_175 : MLV "HeapTower" 175 y_Po_setPart b_Po_setPart 4 none 2 3 := ⟨List.forall_mem_cons.mpr ⟨(gw_in (List.mem_of_getElem? (i := 512) (by decide +kernel)) (by decide +kernel)), List.forall_mem_cons.mpr ⟨(gw_in (List.mem_of_getElem? (i := 513) (by decide +kernel)) (by decide +kernel)), List.forall_mem_cons.mpr ⟨(gw_in (List.mem_of_getElem? (i := 514) (by decide +kernel)) (by decide +kernel)), List.forall_mem_cons.mpr ⟨(gw_in (List.mem_of_getElem? (i := 71) (by decide +kernel)) (by decide +kernel)), List.forall_mem_cons.mpr ⟨(gw_in (List.mem_of_getElem? (i := 515) (by decide +kernel)) (by decide +kernel)), fun _ h => absurd h List.not_mem_nil⟩⟩⟩⟩⟩, by decide, F_Po, 2, rfl, by decide⟩
theorem ml_HT_224 : MLV "HeapTower" 224 y_Ba_forget b_Ba_forget 2 none 1 0 := ⟨List.forall_mem_cons.mpr ⟨(gw_in (List.mem_of_getElem? (i := 348) (by decide +kernel)) (by decide +kernel)), List.forall_mem_cons.mpr ⟨(gw_in (List.mem_of_getElem? (i := 326) (by decide +kernel)) (by decide +kernel)), List.forall_mem_cons.mpr ⟨(gw_in (List.mem_of_getElem? (i := 327) (by decide +kernel)) (by decide +kernel)), List.forall_mem_cons.mpr ⟨(gw_in (List.mem_of_getElem? (i := 72) (by decide +kernel)) (by decide +kernel)), List.forall_mem_cons.mpr ⟨(gw_in (List.mem_of_getElem? (i := 328) (by decide +kernel)) (by decide +kernel)), fun _ h => absurd h List.not_mem_nil⟩⟩⟩⟩⟩, by decide, F_Ba, 13, rfl, by decide⟩
theorem ml_HT_254 : MLV "HeapTower" 254 y_He_forgetBase b_He_forgetBase 1 none 0 1 := ⟨List.forall_mem_cons.mpr ⟨(gw_in (List.mem_of_getElem? (i := 347) (by decide +kernel)) (by decide +kernel)), List.forall_mem_cons.mpr ⟨(gw_in (List.mem_of_getElem? (i := 322) (by decide +kernel)) (by decide +kernel)), List.forall_mem_cons.mpr ⟨(gw_in (List.mem_of_getElem? (i := 323) (by decide +kernel)) (by decide +kernel)), List.forall_mem_cons.mpr ⟨(gw_in (List.mem_of_getElem? (i := 73) (by decide +kernel)) (by decide +kernel)), List.forall_mem_cons.mpr ⟨(gw_in (List.mem_of_getElem? (i := 324) (by decide +kernel)) (by decide +kernel)), fun _ h => absurd h List.not_mem_nil⟩⟩⟩⟩⟩, by decide, F_He, 5, rfl, by decide⟩
theorem ml_HT_257 : MLV "HeapTower" 257 y_Po_headPlace b_Po_headPlace 3 (some .int) 0 3 := ⟨List.forall_mem_cons.mpr ⟨(gw_in (List.mem_of_getElem? (i := 420) (by decide +kernel)) (by decide +kernel)), List.forall_mem_cons.mpr ⟨(gw_in (List.mem_of_getElem? (i := 421) (by decide +kernel)) (by decide +kernel)), List.forall_mem_cons.mpr ⟨(gw_in (List.mem_of_getElem? (i := 422) (by decide +kernel)) (by decide +kernel)), List.forall_mem_cons.mpr ⟨(gw_in (List.mem_of_getElem? (i := 71) (by decide +kernel)) (by decide +kernel)), List.forall_mem_cons.mpr ⟨(gw_in (List.mem_of_getElem? (i := 423) (by decide +kernel)) (by decide +kernel)), fun _ h => absurd h List.not_mem_nil⟩⟩⟩⟩⟩, by decide, F_Po, 2, rfl, by decide⟩
theorem ml_HT_260 : MLV "HeapTower" 260 y_Pr_power b_Pr_power 4 (some .int) 3 4 := ⟨List.forall_mem_cons.mpr ⟨(gw_in (List.mem_of_getElem? (i := 433) (by decide +kernel)) (by decide +kernel)), List.forall_mem_cons.mpr ⟨(gw_in (List.mem_of_getElem? (i := 434) (by decide +kernel)) (by decide +kernel)), List.forall_mem_cons.mpr ⟨(gw_in (List.mem_of_getElem? (i := 435) (by decide +kernel)) (by decide +kernel)), List.forall_mem_cons.mpr ⟨(gw_in (List.mem_of_getElem? (i := 68) (by decide +kernel)) (by decide +kernel)), List.forall_mem_cons.mpr ⟨(gw_in (List.mem_of_getElem? (i := 436) (by decide +kernel)) (by decide +kernel)), fun _ h => absurd h List.not_mem_nil⟩⟩⟩⟩⟩, by decide, F_Pr, 6, rfl, by decide⟩
theorem kw_HT_85 : Cond.constant "HeapTower" 85 (-1000000) ∈ gw := (gw_in (List.mem_of_getElem? (i := 310) (by decide +kernel)) (by decide +kernel))
theorem D_HT_clearClaims_0 : decode b_HT_clearClaims 0 = .ok (.iconst 0, 1) := by decide +kernel
theorem D_HT_clearClaims_1 : decode b_HT_clearClaims 1 = .ok (.istore_n 1, 1) := by decide +kernel
theorem D_HT_clearClaims_2 : decode b_HT_clearClaims 2 = .ok (.iload_n 1, 1) := by decide +kernel
theorem D_HT_clearClaims_3 : decode b_HT_clearClaims 3 = .ok (.bipush 6, 2) := by decide +kernel
theorem D_HT_clearClaims_5 : decode b_HT_clearClaims 5 = .ok (.if_icmp .ge 18, 3) := by decide +kernel
theorem D_HT_clearClaims_8 : decode b_HT_clearClaims 8 = .ok (.aload_n 0, 1) := by decide +kernel
theorem D_HT_clearClaims_9 : decode b_HT_clearClaims 9 = .ok (.getfield 50, 3) := by decide +kernel
theorem D_HT_clearClaims_12 : decode b_HT_clearClaims 12 = .ok (.iload_n 1, 1) := by decide +kernel
theorem D_HT_clearClaims_13 : decode b_HT_clearClaims 13 = .ok (.aaload, 1) := by decide +kernel
theorem D_HT_clearClaims_14 : decode b_HT_clearClaims 14 = .ok (.invokevirtual 104, 3) := by decide +kernel
theorem D_HT_clearClaims_17 : decode b_HT_clearClaims 17 = .ok (.iinc 1 1, 3) := by decide +kernel
theorem D_HT_clearClaims_20 : decode b_HT_clearClaims 20 = .ok (.goto (-18), 3) := by decide +kernel
theorem D_HT_clearClaims_23 : decode b_HT_clearClaims 23 = .ok (.return_, 1) := by decide +kernel
abbrev rm_HT_clearClaims : Room := { frames := 2, cells := 0, slots := 0, locals := 43 }
def B_HT_clearClaims_2 (k2 : Nat → Int32 → Mem → Prop) (post : Mem → Prop) (a0 : Nat) (x1 : Int32) (M : Mem) : Prop := ((6 ≤ x1 → (post M)) ∧ (¬ 6 ≤ x1 → (isK M a0 6 ∧ ∃ q9, gR M a0 6 = some q9 ∧ isA M q9 10 x1 ∧ ∃ q13, gR M q9 (Int32.toNatClampNeg x1) = some q13 ∧ isK M q13 3 ∧ T_Po_clear q13 M (fun M14 => k2 a0 (x1 + 1) M14))))
set_option maxRecDepth 20000 in
theorem Z_HT_clearClaims_2 {x : Ctx} {post : Mem → Prop} (C : Ok x b_HT_clearClaims 2 "HeapTower") (hR : xR x = rm_HT_clearClaims) (Rt : RetV x post 0 0) {k2 : Nat → Int32 → Mem → Prop} (K2 : ∀ (a0 : Nat) (x1 : Int32) (M : Mem), k2 a0 x1 M → J x 2 2 [(0, .ref (xd x a0)), (1, .int x1)] [] 0 0 M) (a0 : Nat) (x1 : Int32) (M : Mem) (h : B_HT_clearClaims_2 k2 post a0 x1 M) : J x 2 2 [(0, .ref (xd x a0)), (1, .int x1)] [] 0 0 M := by
  unfold B_HT_clearClaims_2 at h
  refine J_iload_n C 1 D_HT_clearClaims_2 rfl rfl ?_
  refine J_bipush (v := 6) C D_HT_clearClaims_3 rfl ?_
  refine J_icmp_ge (tgt := 23) C D_HT_clearClaims_5 (by decide) (fun c_5 => ?_) (fun c_5 => ?_)
  · have h := h.1 c_5
    exact J_vret C Rt D_HT_clearClaims_23 h
  · have h := h.2 c_5
    refine J_aload_n C 0 D_HT_clearClaims_8 rfl rfl ?_
    obtain ⟨c_9, q9, e_9, h⟩ := h
    refine J_getR C fl_HT_50 D_HT_clearClaims_9 c_9 e_9 ?_
    refine J_iload_n C 1 D_HT_clearClaims_12 rfl rfl ?_
    obtain ⟨c_13, q13, e_13, h⟩ := h
    refine J_aaldP C D_HT_clearClaims_13 c_13 e_13 ?_
    obtain ⟨c_14, h⟩ := h
    refine J_callVv C ml_HT_104 (S_Po_clear _ _ _ h) (by rw [hR]; decide) rfl c_14 rfl (Nat.le_of_ble_eq_true rfl) D_HT_clearClaims_14 (fun M14 h => ?_)
    refine J_iinc (v := x1 + 1) (lv' := [(1, .int (x1 + 1)), (0, .ref (xd x a0))]) C 1 1 D_HT_clearClaims_17 rfl rfl (by decide) rfl ?_
    refine J_goto (tgt := 2) C D_HT_clearClaims_20 (by decide) ?_
    exact J_sub [1, 0] rfl (K2 _ _ _ h)
def L_HT_clearClaims_2 (post : Mem → Prop) : Nat → Nat → Int32 → Mem → Prop
  | 0, _, _, _ => False
  | n + 1, a0, x1, M => B_HT_clearClaims_2 (L_HT_clearClaims_2 post n) post a0 x1 M
theorem Y_HT_clearClaims_2 {x : Ctx} {post : Mem → Prop} (C : Ok x b_HT_clearClaims 2 "HeapTower") (hR : xR x = rm_HT_clearClaims) (Rt : RetV x post 0 0) : ∀ (n : Nat) (a0 : Nat) (x1 : Int32) (M : Mem), L_HT_clearClaims_2 post n a0 x1 M → J x 2 2 [(0, .ref (xd x a0)), (1, .int x1)] [] 0 0 M := by
  intro n
  induction n with
  | zero => intro a0 x1 M h; exact h.elim
  | succ n ih => intro a0 x1 M h; exact Z_HT_clearClaims_2 C hR Rt ih _ _ _ h
def T_HT_clearClaims (a0 : Nat) (M : Mem) (post : Mem → Prop) : Prop := (∃ n, L_HT_clearClaims_2 post n a0 0 M)
set_option maxRecDepth 20000 in
theorem S_HT_clearClaims {l : Launch} {D : va_G} {B t g : Nat} {d : Nat → Nat} {ac : Nat → ClassId}  (a0 : Nat) (M : Mem) (post : Mem → Prop) (h : T_HT_clearClaims a0 M post) : Met l y_HT_clearClaims w_HT_clearClaims rm_HT_clearClaims (va_Pc [.ref (d a0)] (PRE D B d g t ac M)) (QV D B d g ac post) 0 0 (AB B) := by
  refine met_v (by decide +kernel) (Nat.le_of_ble_eq_true rfl) (fun x h1 hR h3 h4 h5 h6 h7 h8 C Rt Nm => ?_)
  subst h3 h4 h5 h6 h7 h8
  unfold T_HT_clearClaims at h
  show J x 2 0 [(0, .ref (xd x a0))] [] 0 0 M
  refine J_iconst (v := 0) C D_HT_clearClaims_0 rfl ?_
  refine J_istore_n (lv' := [(1, .int 0), (0, .ref (xd x a0))]) C 1 D_HT_clearClaims_1 rfl (by decide) rfl ?_
  obtain ⟨n, h⟩ := h
  exact J_sub [1, 0] rfl (Y_HT_clearClaims_2 C hR Rt  n _ _ _ h)
theorem D_HT_forgetAllBases_0 : decode b_HT_forgetAllBases 0 = .ok (.aload_n 0, 1) := by decide +kernel
theorem D_HT_forgetAllBases_1 : decode b_HT_forgetAllBases 1 = .ok (.getfield 74, 3) := by decide +kernel
theorem D_HT_forgetAllBases_4 : decode b_HT_forgetAllBases 4 = .ok (.invokevirtual 254, 3) := by decide +kernel
theorem D_HT_forgetAllBases_7 : decode b_HT_forgetAllBases 7 = .ok (.aload_n 0, 1) := by decide +kernel
theorem D_HT_forgetAllBases_8 : decode b_HT_forgetAllBases 8 = .ok (.getfield 78, 3) := by decide +kernel
theorem D_HT_forgetAllBases_11 : decode b_HT_forgetAllBases 11 = .ok (.invokevirtual 254, 3) := by decide +kernel
theorem D_HT_forgetAllBases_14 : decode b_HT_forgetAllBases 14 = .ok (.aload_n 0, 1) := by decide +kernel
theorem D_HT_forgetAllBases_15 : decode b_HT_forgetAllBases 15 = .ok (.getfield 59, 3) := by decide +kernel
theorem D_HT_forgetAllBases_18 : decode b_HT_forgetAllBases 18 = .ok (.iconst 0, 1) := by decide +kernel
theorem D_HT_forgetAllBases_19 : decode b_HT_forgetAllBases 19 = .ok (.invokevirtual 224, 3) := by decide +kernel
theorem D_HT_forgetAllBases_22 : decode b_HT_forgetAllBases 22 = .ok (.aload_n 0, 1) := by decide +kernel
theorem D_HT_forgetAllBases_23 : decode b_HT_forgetAllBases 23 = .ok (.getfield 63, 3) := by decide +kernel
theorem D_HT_forgetAllBases_26 : decode b_HT_forgetAllBases 26 = .ok (.iconst 0, 1) := by decide +kernel
theorem D_HT_forgetAllBases_27 : decode b_HT_forgetAllBases 27 = .ok (.invokevirtual 224, 3) := by decide +kernel
theorem D_HT_forgetAllBases_30 : decode b_HT_forgetAllBases 30 = .ok (.aload_n 0, 1) := by decide +kernel
theorem D_HT_forgetAllBases_31 : decode b_HT_forgetAllBases 31 = .ok (.getfield 66, 3) := by decide +kernel
theorem D_HT_forgetAllBases_34 : decode b_HT_forgetAllBases 34 = .ok (.iconst 0, 1) := by decide +kernel
theorem D_HT_forgetAllBases_35 : decode b_HT_forgetAllBases 35 = .ok (.invokevirtual 224, 3) := by decide +kernel
theorem D_HT_forgetAllBases_38 : decode b_HT_forgetAllBases 38 = .ok (.return_, 1) := by decide +kernel
abbrev rm_HT_forgetAllBases : Room := { frames := 3, cells := 0, slots := 0, locals := 62 }
def T_HT_forgetAllBases (a0 : Nat) (M : Mem) (post : Mem → Prop) : Prop := (isK M a0 6 ∧ ∃ q1, gR M a0 10 = some q1 ∧ isK M q1 1 ∧ T_He_forgetBase q1 M (fun M4 => isK M4 a0 6 ∧ ∃ q8, gR M4 a0 11 = some q8 ∧ isK M4 q8 1 ∧ T_He_forgetBase q8 M4 (fun M11 => isK M11 a0 6 ∧ ∃ q15, gR M11 a0 7 = some q15 ∧ isK M11 q15 0 ∧ T_Ba_forget q15 0 M11 (fun M19 => isK M19 a0 6 ∧ ∃ q23, gR M19 a0 8 = some q23 ∧ isK M19 q23 0 ∧ T_Ba_forget q23 0 M19 (fun M27 => isK M27 a0 6 ∧ ∃ q31, gR M27 a0 9 = some q31 ∧ isK M27 q31 0 ∧ T_Ba_forget q31 0 M27 (fun M35 => post M35))))))
set_option maxRecDepth 20000 in
theorem S_HT_forgetAllBases {l : Launch} {D : va_G} {B t g : Nat} {d : Nat → Nat} {ac : Nat → ClassId}  (a0 : Nat) (M : Mem) (post : Mem → Prop) (h : T_HT_forgetAllBases a0 M post) : Met l y_HT_forgetAllBases w_HT_forgetAllBases rm_HT_forgetAllBases (va_Pc [.ref (d a0)] (PRE D B d g t ac M)) (QV D B d g ac post) 0 0 (AB B) := by
  refine met_v (by decide +kernel) (Nat.le_of_ble_eq_true rfl) (fun x h1 hR h3 h4 h5 h6 h7 h8 C Rt Nm => ?_)
  subst h3 h4 h5 h6 h7 h8
  unfold T_HT_forgetAllBases at h
  show J x 1 0 [(0, .ref (xd x a0))] [] 0 0 M
  refine J_aload_n C 0 D_HT_forgetAllBases_0 rfl rfl ?_
  obtain ⟨c_1, q1, e_1, h⟩ := h
  refine J_getR C fl_HT_74 D_HT_forgetAllBases_1 c_1 e_1 ?_
  obtain ⟨c_4, h⟩ := h
  refine J_callVv C ml_HT_254 (S_He_forgetBase _ _ _ h) (by rw [hR]; decide) rfl c_4 rfl (Nat.le_of_ble_eq_true rfl) D_HT_forgetAllBases_4 (fun M4 h => ?_)
  refine J_aload_n C 0 D_HT_forgetAllBases_7 rfl rfl ?_
  obtain ⟨c_8, q8, e_8, h⟩ := h
  refine J_getR C fl_HT_78 D_HT_forgetAllBases_8 c_8 e_8 ?_
  obtain ⟨c_11, h⟩ := h
  refine J_callVv C ml_HT_254 (S_He_forgetBase _ _ _ h) (by rw [hR]; decide) rfl c_11 rfl (Nat.le_of_ble_eq_true rfl) D_HT_forgetAllBases_11 (fun M11 h => ?_)
  refine J_aload_n C 0 D_HT_forgetAllBases_14 rfl rfl ?_
  obtain ⟨c_15, q15, e_15, h⟩ := h
  refine J_getR C fl_HT_59 D_HT_forgetAllBases_15 c_15 e_15 ?_
  refine J_iconst (v := 0) C D_HT_forgetAllBases_18 rfl ?_
  obtain ⟨c_19, h⟩ := h
  refine J_callVv C ml_HT_224 (S_Ba_forget _ _ _ _ h) (by rw [hR]; decide) rfl c_19 rfl (Nat.le_of_ble_eq_true rfl) D_HT_forgetAllBases_19 (fun M19 h => ?_)
  refine J_aload_n C 0 D_HT_forgetAllBases_22 rfl rfl ?_
  obtain ⟨c_23, q23, e_23, h⟩ := h
  refine J_getR C fl_HT_63 D_HT_forgetAllBases_23 c_23 e_23 ?_
  refine J_iconst (v := 0) C D_HT_forgetAllBases_26 rfl ?_
  obtain ⟨c_27, h⟩ := h
  refine J_callVv C ml_HT_224 (S_Ba_forget _ _ _ _ h) (by rw [hR]; decide) rfl c_27 rfl (Nat.le_of_ble_eq_true rfl) D_HT_forgetAllBases_27 (fun M27 h => ?_)
  refine J_aload_n C 0 D_HT_forgetAllBases_30 rfl rfl ?_
  obtain ⟨c_31, q31, e_31, h⟩ := h
  refine J_getR C fl_HT_66 D_HT_forgetAllBases_31 c_31 e_31 ?_
  refine J_iconst (v := 0) C D_HT_forgetAllBases_34 rfl ?_
  obtain ⟨c_35, h⟩ := h
  refine J_callVv C ml_HT_224 (S_Ba_forget _ _ _ _ h) (by rw [hR]; decide) rfl c_35 rfl (Nat.le_of_ble_eq_true rfl) D_HT_forgetAllBases_35 (fun M35 h => ?_)
  exact J_vret C Rt D_HT_forgetAllBases_38 h
theorem D_HT_letters_0 : decode b_HT_letters 0 = .ok (.iload_n 1, 1) := by decide +kernel
theorem D_HT_letters_1 : decode b_HT_letters 1 = .ok (.iconst 1, 1) := by decide +kernel
theorem D_HT_letters_2 : decode b_HT_letters 2 = .ok (.if_icmp .lt 15, 3) := by decide +kernel
theorem D_HT_letters_5 : decode b_HT_letters 5 = .ok (.iload_n 1, 1) := by decide +kernel
theorem D_HT_letters_6 : decode b_HT_letters 6 = .ok (.iconst 3, 1) := by decide +kernel
theorem D_HT_letters_7 : decode b_HT_letters 7 = .ok (.if_icmp .gt 10, 3) := by decide +kernel
theorem D_HT_letters_10 : decode b_HT_letters 10 = .ok (.iload_n 2, 1) := by decide +kernel
theorem D_HT_letters_11 : decode b_HT_letters 11 = .ok (.invokestatic 81, 3) := by decide +kernel
theorem D_HT_letters_14 : decode b_HT_letters 14 = .ok (.ifCond .ne 6, 3) := by decide +kernel
theorem D_HT_letters_17 : decode b_HT_letters 17 = .ok (.ldc 85, 2) := by decide +kernel
theorem D_HT_letters_19 : decode b_HT_letters 19 = .ok (.ireturn, 1) := by decide +kernel
theorem D_HT_letters_20 : decode b_HT_letters 20 = .ok (.aload_n 0, 1) := by decide +kernel
theorem D_HT_letters_21 : decode b_HT_letters 21 = .ok (.getfield 19, 3) := by decide +kernel
theorem D_HT_letters_24 : decode b_HT_letters 24 = .ok (.iload_n 2, 1) := by decide +kernel
theorem D_HT_letters_25 : decode b_HT_letters 25 = .ok (.invokevirtual 86, 3) := by decide +kernel
theorem D_HT_letters_28 : decode b_HT_letters 28 = .ok (.aload_n 0, 1) := by decide +kernel
theorem D_HT_letters_29 : decode b_HT_letters 29 = .ok (.getfield 10, 3) := by decide +kernel
theorem D_HT_letters_32 : decode b_HT_letters 32 = .ok (.iload_n 1, 1) := by decide +kernel
theorem D_HT_letters_33 : decode b_HT_letters 33 = .ok (.aload_n 0, 1) := by decide +kernel
theorem D_HT_letters_34 : decode b_HT_letters 34 = .ok (.getfield 10, 3) := by decide +kernel
theorem D_HT_letters_37 : decode b_HT_letters 37 = .ok (.invokevirtual 90, 3) := by decide +kernel
theorem D_HT_letters_40 : decode b_HT_letters 40 = .ok (.invokevirtual 94, 3) := by decide +kernel
theorem D_HT_letters_43 : decode b_HT_letters 43 = .ok (.aload_n 0, 1) := by decide +kernel
theorem D_HT_letters_44 : decode b_HT_letters 44 = .ok (.getfield 74, 3) := by decide +kernel
theorem D_HT_letters_47 : decode b_HT_letters 47 = .ok (.invokevirtual 98, 3) := by decide +kernel
theorem D_HT_letters_50 : decode b_HT_letters 50 = .ok (.aload_n 0, 1) := by decide +kernel
theorem D_HT_letters_51 : decode b_HT_letters 51 = .ok (.getfield 78, 3) := by decide +kernel
theorem D_HT_letters_54 : decode b_HT_letters 54 = .ok (.invokevirtual 98, 3) := by decide +kernel
theorem D_HT_letters_57 : decode b_HT_letters 57 = .ok (.aload_n 0, 1) := by decide +kernel
theorem D_HT_letters_58 : decode b_HT_letters 58 = .ok (.invokevirtual 101, 3) := by decide +kernel
theorem D_HT_letters_61 : decode b_HT_letters 61 = .ok (.aload_n 0, 1) := by decide +kernel
theorem D_HT_letters_62 : decode b_HT_letters 62 = .ok (.getfield 46, 3) := by decide +kernel
theorem D_HT_letters_65 : decode b_HT_letters 65 = .ok (.invokevirtual 104, 3) := by decide +kernel
theorem D_HT_letters_68 : decode b_HT_letters 68 = .ok (.aload_n 0, 1) := by decide +kernel
theorem D_HT_letters_69 : decode b_HT_letters 69 = .ok (.invokevirtual 107, 3) := by decide +kernel
theorem D_HT_letters_72 : decode b_HT_letters 72 = .ok (.iconst 1, 1) := by decide +kernel
theorem D_HT_letters_73 : decode b_HT_letters 73 = .ok (.ireturn, 1) := by decide +kernel
abbrev rm_HT_letters : Room := { frames := 4, cells := 0, slots := 0, locals := 82 }
def B_HT_letters_17 (post : Int32 → Mem → Prop) (M : Mem) : Prop := (post ((-1000000)) M)
set_option maxRecDepth 20000 in
theorem Z_HT_letters_17 {x : Ctx} {post : Int32 → Mem → Prop} (C : Ok x b_HT_letters 3 "HeapTower") (hR : xR x = rm_HT_letters) (Rt : RetI x .int post 0 0) (M : Mem) (h : B_HT_letters_17 post M) : J x 3 17 [] [] 0 0 M := by
  unfold B_HT_letters_17 at h
  refine J_ldc (v := (-1000000)) C D_HT_letters_17 kw_HT_85 ?_
  exact J_iret C Rt D_HT_letters_19 rfl h
def T_HT_letters (a0 : Nat) (x1 : Int32) (x2 : Int32) (M : Mem) (post : Int32 → Mem → Prop) : Prop := ((x1 < 1 → (B_HT_letters_17 post M)) ∧ (¬ x1 < 1 → ((3 < x1 → (B_HT_letters_17 post M)) ∧ (¬ 3 < x1 → (T_Nu_isPrime x2 M (fun r11 M11 => (¬ r11 = 0 → (isK M11 a0 6 ∧ ∃ q21, gR M11 a0 1 = some q21 ∧ isK M11 q21 2 ∧ T_Nu_setPrime q21 x2 M11 (fun M25 => isK M25 a0 6 ∧ ∃ q29, gR M25 a0 0 = some q29 ∧ isK M25 a0 6 ∧ ∃ q34, gR M25 a0 0 = some q34 ∧ isK M25 q34 4 ∧ T_Pr_orderNow q34 M25 (fun r37 M37 => isK M37 q29 4 ∧ T_Pr_arrange q29 x1 r37 M37 (fun M40 => isK M40 a0 6 ∧ ∃ q44, gR M40 a0 10 = some q44 ∧ isK M40 q44 1 ∧ T_He_empty q44 M40 (fun M47 => isK M47 a0 6 ∧ ∃ q51, gR M47 a0 11 = some q51 ∧ isK M47 q51 1 ∧ T_He_empty q51 M47 (fun M54 => isK M54 a0 6 ∧ T_HT_clearClaims a0 M54 (fun M58 => isK M58 a0 6 ∧ ∃ q62, gR M58 a0 5 = some q62 ∧ isK M58 q62 3 ∧ T_Po_clear q62 M58 (fun M65 => isK M65 a0 6 ∧ T_HT_forgetAllBases a0 M65 (fun M69 => post 1 M69)))))))))) ∧ (r11 = 0 → (B_HT_letters_17 post M11))))))))
set_option maxRecDepth 20000 in
theorem S_HT_letters {l : Launch} {D : va_G} {B t g : Nat} {d : Nat → Nat} {ac : Nat → ClassId}  (a0 : Nat) (x1 : Int32) (x2 : Int32) (M : Mem) (post : Int32 → Mem → Prop) (h : T_HT_letters a0 x1 x2 M post) : Met l y_HT_letters w_HT_letters rm_HT_letters (va_Pc [.ref (d a0), .int x1, .int x2] (PRE D B d g t ac M)) (QI D B d g ac post) 0 0 (AB B) := by
  refine met_i (by decide +kernel) (Nat.le_of_ble_eq_true rfl) (fun x h1 hR h3 h4 h5 h6 h7 h8 C Rt => ?_)
  subst h3 h4 h5 h6 h7 h8
  unfold T_HT_letters at h
  show J x 3 0 [(0, .ref (xd x a0)), (1, .int x1), (2, .int x2)] [] 0 0 M
  refine J_iload_n C 1 D_HT_letters_0 rfl rfl ?_
  refine J_iconst (v := 1) C D_HT_letters_1 rfl ?_
  refine J_icmp_lt (tgt := 17) C D_HT_letters_2 (by decide) (fun c_2 => ?_) (fun c_2 => ?_)
  · have h := h.1 c_2
    exact J_sub [] rfl (Z_HT_letters_17 C hR Rt  _ h)
  · have h := h.2 c_2
    refine J_iload_n C 1 D_HT_letters_5 rfl rfl ?_
    refine J_iconst (v := 3) C D_HT_letters_6 rfl ?_
    refine J_icmp_gt (tgt := 17) C D_HT_letters_7 (by decide) (fun c_7 => ?_) (fun c_7 => ?_)
    · have h := h.1 c_7
      exact J_sub [] rfl (Z_HT_letters_17 C hR Rt  _ h)
    · have h := h.2 c_7
      refine J_iload_n C 2 D_HT_letters_10 rfl rfl ?_
      refine J_callSi C ml_HT_81 (S_Nu_isPrime _ _ _ h) (by rw [hR]; decide) rfl rfl (Nat.le_of_ble_eq_true rfl) D_HT_letters_11 (fun r11 M11 h => ?_)
      refine J_if_ne (tgt := 20) C D_HT_letters_14 (by decide) (fun c_14 => ?_) (fun c_14 => ?_)
      · have h := h.1 c_14
        refine J_aload_n C 0 D_HT_letters_20 rfl rfl ?_
        obtain ⟨c_21, q21, e_21, h⟩ := h
        refine J_getR C fl_HT_19 D_HT_letters_21 c_21 e_21 ?_
        refine J_iload_n C 2 D_HT_letters_24 rfl rfl ?_
        obtain ⟨c_25, h⟩ := h
        refine J_callVv C ml_HT_86 (S_Nu_setPrime _ _ _ _ h) (by rw [hR]; decide) rfl c_25 rfl (Nat.le_of_ble_eq_true rfl) D_HT_letters_25 (fun M25 h => ?_)
        refine J_aload_n C 0 D_HT_letters_28 rfl rfl ?_
        obtain ⟨c_29, q29, e_29, h⟩ := h
        refine J_getR C fl_HT_10 D_HT_letters_29 c_29 e_29 ?_
        refine J_iload_n C 1 D_HT_letters_32 rfl rfl ?_
        refine J_aload_n C 0 D_HT_letters_33 rfl rfl ?_
        obtain ⟨c_34, q34, e_34, h⟩ := h
        refine J_getR C fl_HT_10 D_HT_letters_34 c_34 e_34 ?_
        obtain ⟨c_37, h⟩ := h
        refine J_callVi C ml_HT_90 (S_Pr_orderNow _ _ _ h) (by rw [hR]; decide) rfl c_37 rfl (Nat.le_of_ble_eq_true rfl) D_HT_letters_37 (fun r37 M37 h => ?_)
        obtain ⟨c_40, h⟩ := h
        refine J_callVv C ml_HT_94 (S_Pr_arrange _ _ _ _ _ h) (by rw [hR]; decide) rfl c_40 rfl (Nat.le_of_ble_eq_true rfl) D_HT_letters_40 (fun M40 h => ?_)
        refine J_aload_n C 0 D_HT_letters_43 rfl rfl ?_
        obtain ⟨c_44, q44, e_44, h⟩ := h
        refine J_getR C fl_HT_74 D_HT_letters_44 c_44 e_44 ?_
        obtain ⟨c_47, h⟩ := h
        refine J_callVv C ml_HT_98 (S_He_empty _ _ _ h) (by rw [hR]; decide) rfl c_47 rfl (Nat.le_of_ble_eq_true rfl) D_HT_letters_47 (fun M47 h => ?_)
        refine J_aload_n C 0 D_HT_letters_50 rfl rfl ?_
        obtain ⟨c_51, q51, e_51, h⟩ := h
        refine J_getR C fl_HT_78 D_HT_letters_51 c_51 e_51 ?_
        obtain ⟨c_54, h⟩ := h
        refine J_callVv C ml_HT_98 (S_He_empty _ _ _ h) (by rw [hR]; decide) rfl c_54 rfl (Nat.le_of_ble_eq_true rfl) D_HT_letters_54 (fun M54 h => ?_)
        refine J_aload_n C 0 D_HT_letters_57 rfl rfl ?_
        obtain ⟨c_58, h⟩ := h
        refine J_callVv C ml_HT_101 (S_HT_clearClaims _ _ _ h) (by rw [hR]; decide) rfl c_58 rfl (Nat.le_of_ble_eq_true rfl) D_HT_letters_58 (fun M58 h => ?_)
        refine J_aload_n C 0 D_HT_letters_61 rfl rfl ?_
        obtain ⟨c_62, q62, e_62, h⟩ := h
        refine J_getR C fl_HT_46 D_HT_letters_62 c_62 e_62 ?_
        obtain ⟨c_65, h⟩ := h
        refine J_callVv C ml_HT_104 (S_Po_clear _ _ _ h) (by rw [hR]; decide) rfl c_65 rfl (Nat.le_of_ble_eq_true rfl) D_HT_letters_65 (fun M65 h => ?_)
        refine J_aload_n C 0 D_HT_letters_68 rfl rfl ?_
        obtain ⟨c_69, h⟩ := h
        refine J_callVv C ml_HT_107 (S_HT_forgetAllBases _ _ _ h) (by rw [hR]; decide) rfl c_69 rfl (Nat.le_of_ble_eq_true rfl) D_HT_letters_69 (fun M69 h => ?_)
        refine J_iconst (v := 1) C D_HT_letters_72 rfl ?_
        exact J_iret C Rt D_HT_letters_73 rfl h
      · have h := h.2 c_14
        exact J_sub [] rfl (Z_HT_letters_17 C hR Rt  _ h)
theorem D_HT_order_0 : decode b_HT_order 0 = .ok (.iload_n 1, 1) := by decide +kernel
theorem D_HT_order_1 : decode b_HT_order 1 = .ok (.ifCond .eq 11, 3) := by decide +kernel
theorem D_HT_order_4 : decode b_HT_order 4 = .ok (.iload_n 1, 1) := by decide +kernel
theorem D_HT_order_5 : decode b_HT_order 5 = .ok (.iconst 1, 1) := by decide +kernel
theorem D_HT_order_6 : decode b_HT_order 6 = .ok (.if_icmp .eq 6, 3) := by decide +kernel
theorem D_HT_order_9 : decode b_HT_order 9 = .ok (.ldc 85, 2) := by decide +kernel
theorem D_HT_order_11 : decode b_HT_order 11 = .ok (.ireturn, 1) := by decide +kernel
theorem D_HT_order_12 : decode b_HT_order 12 = .ok (.aload_n 0, 1) := by decide +kernel
theorem D_HT_order_13 : decode b_HT_order 13 = .ok (.getfield 10, 3) := by decide +kernel
theorem D_HT_order_16 : decode b_HT_order 16 = .ok (.invokevirtual 90, 3) := by decide +kernel
theorem D_HT_order_19 : decode b_HT_order 19 = .ok (.istore_n 2, 1) := by decide +kernel
theorem D_HT_order_20 : decode b_HT_order 20 = .ok (.iload_n 1, 1) := by decide +kernel
theorem D_HT_order_21 : decode b_HT_order 21 = .ok (.iload_n 2, 1) := by decide +kernel
theorem D_HT_order_22 : decode b_HT_order 22 = .ok (.if_icmp .eq 22, 3) := by decide +kernel
theorem D_HT_order_25 : decode b_HT_order 25 = .ok (.aload_n 0, 1) := by decide +kernel
theorem D_HT_order_26 : decode b_HT_order 26 = .ok (.getfield 10, 3) := by decide +kernel
theorem D_HT_order_29 : decode b_HT_order 29 = .ok (.aload_n 0, 1) := by decide +kernel
theorem D_HT_order_30 : decode b_HT_order 30 = .ok (.getfield 10, 3) := by decide +kernel
theorem D_HT_order_33 : decode b_HT_order 33 = .ok (.invokevirtual 110, 3) := by decide +kernel
theorem D_HT_order_36 : decode b_HT_order 36 = .ok (.iload_n 1, 1) := by decide +kernel
theorem D_HT_order_37 : decode b_HT_order 37 = .ok (.invokevirtual 94, 3) := by decide +kernel
theorem D_HT_order_40 : decode b_HT_order 40 = .ok (.aload_n 0, 1) := by decide +kernel
theorem D_HT_order_41 : decode b_HT_order 41 = .ok (.invokevirtual 107, 3) := by decide +kernel
theorem D_HT_order_44 : decode b_HT_order 44 = .ok (.iload_n 2, 1) := by decide +kernel
theorem D_HT_order_45 : decode b_HT_order 45 = .ok (.ireturn, 1) := by decide +kernel
abbrev rm_HT_order : Room := { frames := 4, cells := 0, slots := 0, locals := 82 }
def B_HT_order_44 (post : Int32 → Mem → Prop) (x2 : Int32) (M : Mem) : Prop := (post x2 M)
set_option maxRecDepth 20000 in
theorem Z_HT_order_44 {x : Ctx} {post : Int32 → Mem → Prop} (C : Ok x b_HT_order 3 "HeapTower") (hR : xR x = rm_HT_order) (Rt : RetI x .int post 0 0) (x2 : Int32) (M : Mem) (h : B_HT_order_44 post x2 M) : J x 3 44 [(2, .int x2)] [] 0 0 M := by
  unfold B_HT_order_44 at h
  refine J_iload_n C 2 D_HT_order_44 rfl rfl ?_
  exact J_iret C Rt D_HT_order_45 rfl h
def B_HT_order_12 (post : Int32 → Mem → Prop) (a0 : Nat) (x1 : Int32) (M : Mem) : Prop := (isK M a0 6 ∧ ∃ q13, gR M a0 0 = some q13 ∧ isK M q13 4 ∧ T_Pr_orderNow q13 M (fun r16 M16 => (x1 = r16 → (B_HT_order_44 post r16 M16)) ∧ (¬ x1 = r16 → (isK M16 a0 6 ∧ ∃ q26, gR M16 a0 0 = some q26 ∧ isK M16 a0 6 ∧ ∃ q30, gR M16 a0 0 = some q30 ∧ isK M16 q30 4 ∧ T_Pr_letterCount q30 M16 (fun r33 M33 => isK M33 q26 4 ∧ T_Pr_arrange q26 r33 x1 M33 (fun M37 => isK M37 a0 6 ∧ T_HT_forgetAllBases a0 M37 (fun M41 => B_HT_order_44 post r16 M41)))))))
set_option maxRecDepth 20000 in
theorem Z_HT_order_12 {x : Ctx} {post : Int32 → Mem → Prop} (C : Ok x b_HT_order 3 "HeapTower") (hR : xR x = rm_HT_order) (Rt : RetI x .int post 0 0) (a0 : Nat) (x1 : Int32) (M : Mem) (h : B_HT_order_12 post a0 x1 M) : J x 3 12 [(0, .ref (xd x a0)), (1, .int x1)] [] 0 0 M := by
  unfold B_HT_order_12 at h
  refine J_aload_n C 0 D_HT_order_12 rfl rfl ?_
  obtain ⟨c_13, q13, e_13, h⟩ := h
  refine J_getR C fl_HT_10 D_HT_order_13 c_13 e_13 ?_
  obtain ⟨c_16, h⟩ := h
  refine J_callVi C ml_HT_90 (S_Pr_orderNow _ _ _ h) (by rw [hR]; decide) rfl c_16 rfl (Nat.le_of_ble_eq_true rfl) D_HT_order_16 (fun r16 M16 h => ?_)
  refine J_istore_n (lv' := [(2, .int r16), (0, .ref (xd x a0)), (1, .int x1)]) C 2 D_HT_order_19 rfl (by decide) rfl ?_
  refine J_iload_n C 1 D_HT_order_20 rfl rfl ?_
  refine J_iload_n C 2 D_HT_order_21 rfl rfl ?_
  refine J_icmp_eq (tgt := 44) C D_HT_order_22 (by decide) (fun c_22 => ?_) (fun c_22 => ?_)
  · have h := h.1 c_22
    exact J_sub [0] rfl (Z_HT_order_44 C hR Rt  _ _ h)
  · have h := h.2 c_22
    refine J_aload_n C 0 D_HT_order_25 rfl rfl ?_
    obtain ⟨c_26, q26, e_26, h⟩ := h
    refine J_getR C fl_HT_10 D_HT_order_26 c_26 e_26 ?_
    refine J_aload_n C 0 D_HT_order_29 rfl rfl ?_
    obtain ⟨c_30, q30, e_30, h⟩ := h
    refine J_getR C fl_HT_10 D_HT_order_30 c_30 e_30 ?_
    obtain ⟨c_33, h⟩ := h
    refine J_callVi C ml_HT_110 (S_Pr_letterCount _ _ _ h) (by rw [hR]; decide) rfl c_33 rfl (Nat.le_of_ble_eq_true rfl) D_HT_order_33 (fun r33 M33 h => ?_)
    refine J_iload_n C 1 D_HT_order_36 rfl rfl ?_
    obtain ⟨c_37, h⟩ := h
    refine J_callVv C ml_HT_94 (S_Pr_arrange _ _ _ _ _ h) (by rw [hR]; decide) rfl c_37 rfl (Nat.le_of_ble_eq_true rfl) D_HT_order_37 (fun M37 h => ?_)
    refine J_aload_n C 0 D_HT_order_40 rfl rfl ?_
    obtain ⟨c_41, h⟩ := h
    refine J_callVv C ml_HT_107 (S_HT_forgetAllBases _ _ _ h) (by rw [hR]; decide) rfl c_41 rfl (Nat.le_of_ble_eq_true rfl) D_HT_order_41 (fun M41 h => ?_)
    exact J_sub [0] rfl (Z_HT_order_44 C hR Rt  _ _ h)
def T_HT_order (a0 : Nat) (x1 : Int32) (M : Mem) (post : Int32 → Mem → Prop) : Prop := ((x1 = 0 → (B_HT_order_12 post a0 x1 M)) ∧ (¬ x1 = 0 → ((x1 = 1 → (B_HT_order_12 post a0 x1 M)) ∧ (¬ x1 = 1 → (post ((-1000000)) M)))))
set_option maxRecDepth 20000 in
theorem S_HT_order {l : Launch} {D : va_G} {B t g : Nat} {d : Nat → Nat} {ac : Nat → ClassId}  (a0 : Nat) (x1 : Int32) (M : Mem) (post : Int32 → Mem → Prop) (h : T_HT_order a0 x1 M post) : Met l y_HT_order w_HT_order rm_HT_order (va_Pc [.ref (d a0), .int x1] (PRE D B d g t ac M)) (QI D B d g ac post) 0 0 (AB B) := by
  refine met_i (by decide +kernel) (Nat.le_of_ble_eq_true rfl) (fun x h1 hR h3 h4 h5 h6 h7 h8 C Rt => ?_)
  subst h3 h4 h5 h6 h7 h8
  unfold T_HT_order at h
  show J x 3 0 [(0, .ref (xd x a0)), (1, .int x1)] [] 0 0 M
  refine J_iload_n C 1 D_HT_order_0 rfl rfl ?_
  refine J_if_eq (tgt := 12) C D_HT_order_1 (by decide) (fun c_1 => ?_) (fun c_1 => ?_)
  · have h := h.1 c_1
    exact J_sub [0, 1] rfl (Z_HT_order_12 C hR Rt  _ _ _ h)
  · have h := h.2 c_1
    refine J_iload_n C 1 D_HT_order_4 rfl rfl ?_
    refine J_iconst (v := 1) C D_HT_order_5 rfl ?_
    refine J_icmp_eq (tgt := 12) C D_HT_order_6 (by decide) (fun c_6 => ?_) (fun c_6 => ?_)
    · have h := h.1 c_6
      exact J_sub [0, 1] rfl (Z_HT_order_12 C hR Rt  _ _ _ h)
    · have h := h.2 c_6
      refine J_ldc (v := (-1000000)) C D_HT_order_9 kw_HT_85 ?_
      exact J_iret C Rt D_HT_order_11 rfl h
theorem D_HT_isProduct_0 : decode b_HT_isProduct 0 = .ok (.aload_n 0, 1) := by decide +kernel
theorem D_HT_isProduct_1 : decode b_HT_isProduct 1 = .ok (.getfield 10, 3) := by decide +kernel
theorem D_HT_isProduct_4 : decode b_HT_isProduct 4 = .ok (.invokevirtual 110, 3) := by decide +kernel
theorem D_HT_isProduct_7 : decode b_HT_isProduct 7 = .ok (.istore 4, 2) := by decide +kernel
theorem D_HT_isProduct_9 : decode b_HT_isProduct 9 = .ok (.iload_n 1, 1) := by decide +kernel
theorem D_HT_isProduct_10 : decode b_HT_isProduct 10 = .ok (.ifCond .lt 31, 3) := by decide +kernel
theorem D_HT_isProduct_13 : decode b_HT_isProduct 13 = .ok (.iload_n 2, 1) := by decide +kernel
theorem D_HT_isProduct_14 : decode b_HT_isProduct 14 = .ok (.ifCond .lt 27, 3) := by decide +kernel
theorem D_HT_isProduct_17 : decode b_HT_isProduct 17 = .ok (.iload_n 3, 1) := by decide +kernel
theorem D_HT_isProduct_18 : decode b_HT_isProduct 18 = .ok (.ifCond .lt 23, 3) := by decide +kernel
theorem D_HT_isProduct_21 : decode b_HT_isProduct 21 = .ok (.iload 4, 2) := by decide +kernel
theorem D_HT_isProduct_23 : decode b_HT_isProduct 23 = .ok (.iconst 2, 1) := by decide +kernel
theorem D_HT_isProduct_24 : decode b_HT_isProduct 24 = .ok (.if_icmp .ge 7, 3) := by decide +kernel
theorem D_HT_isProduct_27 : decode b_HT_isProduct 27 = .ok (.iload_n 2, 1) := by decide +kernel
theorem D_HT_isProduct_28 : decode b_HT_isProduct 28 = .ok (.ifCond .ne 13, 3) := by decide +kernel
theorem D_HT_isProduct_31 : decode b_HT_isProduct 31 = .ok (.iload 4, 2) := by decide +kernel
theorem D_HT_isProduct_33 : decode b_HT_isProduct 33 = .ok (.iconst 3, 1) := by decide +kernel
theorem D_HT_isProduct_34 : decode b_HT_isProduct 34 = .ok (.if_icmp .ge 9, 3) := by decide +kernel
theorem D_HT_isProduct_37 : decode b_HT_isProduct 37 = .ok (.iload_n 3, 1) := by decide +kernel
theorem D_HT_isProduct_38 : decode b_HT_isProduct 38 = .ok (.ifCond .eq 5, 3) := by decide +kernel
theorem D_HT_isProduct_41 : decode b_HT_isProduct 41 = .ok (.iconst 0, 1) := by decide +kernel
theorem D_HT_isProduct_42 : decode b_HT_isProduct 42 = .ok (.ireturn, 1) := by decide +kernel
theorem D_HT_isProduct_43 : decode b_HT_isProduct 43 = .ok (.iload_n 1, 1) := by decide +kernel
theorem D_HT_isProduct_44 : decode b_HT_isProduct 44 = .ok (.bipush 10, 2) := by decide +kernel
theorem D_HT_isProduct_46 : decode b_HT_isProduct 46 = .ok (.if_icmp .gt 29, 3) := by decide +kernel
theorem D_HT_isProduct_49 : decode b_HT_isProduct 49 = .ok (.iload_n 2, 1) := by decide +kernel
theorem D_HT_isProduct_50 : decode b_HT_isProduct 50 = .ok (.bipush 10, 2) := by decide +kernel
theorem D_HT_isProduct_52 : decode b_HT_isProduct 52 = .ok (.if_icmp .gt 23, 3) := by decide +kernel
theorem D_HT_isProduct_55 : decode b_HT_isProduct 55 = .ok (.iload_n 3, 1) := by decide +kernel
theorem D_HT_isProduct_56 : decode b_HT_isProduct 56 = .ok (.bipush 10, 2) := by decide +kernel
theorem D_HT_isProduct_58 : decode b_HT_isProduct 58 = .ok (.if_icmp .gt 17, 3) := by decide +kernel
theorem D_HT_isProduct_61 : decode b_HT_isProduct 61 = .ok (.iload_n 1, 1) := by decide +kernel
theorem D_HT_isProduct_62 : decode b_HT_isProduct 62 = .ok (.iload_n 2, 1) := by decide +kernel
theorem D_HT_isProduct_63 : decode b_HT_isProduct 63 = .ok (.iadd, 1) := by decide +kernel
theorem D_HT_isProduct_64 : decode b_HT_isProduct 64 = .ok (.iload_n 3, 1) := by decide +kernel
theorem D_HT_isProduct_65 : decode b_HT_isProduct 65 = .ok (.iadd, 1) := by decide +kernel
theorem D_HT_isProduct_66 : decode b_HT_isProduct 66 = .ok (.bipush 10, 2) := by decide +kernel
theorem D_HT_isProduct_68 : decode b_HT_isProduct 68 = .ok (.if_icmp .gt 7, 3) := by decide +kernel
theorem D_HT_isProduct_71 : decode b_HT_isProduct 71 = .ok (.iconst 1, 1) := by decide +kernel
theorem D_HT_isProduct_72 : decode b_HT_isProduct 72 = .ok (.goto 4, 3) := by decide +kernel
theorem D_HT_isProduct_75 : decode b_HT_isProduct 75 = .ok (.iconst 0, 1) := by decide +kernel
theorem D_HT_isProduct_76 : decode b_HT_isProduct 76 = .ok (.ireturn, 1) := by decide +kernel
abbrev rm_HT_isProduct : Room := { frames := 1, cells := 0, slots := 0, locals := 20 }
def B_HT_isProduct_41 (post : Int32 → Mem → Prop) (M : Mem) : Prop := (narrow .boolean (.int 0) = .int 0 ∧ post 0 M)
set_option maxRecDepth 20000 in
theorem Z_HT_isProduct_41 {x : Ctx} {post : Int32 → Mem → Prop} (C : Ok x b_HT_isProduct 5 "HeapTower") (hR : xR x = rm_HT_isProduct) (Rt : RetI x .boolean post 0 0) (M : Mem) (h : B_HT_isProduct_41 post M) : J x 5 41 [] [] 0 0 M := by
  unfold B_HT_isProduct_41 at h
  refine J_iconst (v := 0) C D_HT_isProduct_41 rfl ?_
  obtain ⟨c_42, h⟩ := h
  exact J_iret C Rt D_HT_isProduct_42 c_42 h
def B_HT_isProduct_76 (post : Int32 → Mem → Prop) (s0 : Int32) (M : Mem) : Prop := (narrow .boolean (.int s0) = .int s0 ∧ post s0 M)
set_option maxRecDepth 20000 in
theorem Z_HT_isProduct_76 {x : Ctx} {post : Int32 → Mem → Prop} (C : Ok x b_HT_isProduct 5 "HeapTower") (hR : xR x = rm_HT_isProduct) (Rt : RetI x .boolean post 0 0) (s0 : Int32) (M : Mem) (h : B_HT_isProduct_76 post s0 M) : J x 5 76 [] [.int s0] 0 0 M := by
  unfold B_HT_isProduct_76 at h
  obtain ⟨c_76, h⟩ := h
  exact J_iret C Rt D_HT_isProduct_76 c_76 h
def B_HT_isProduct_75 (post : Int32 → Mem → Prop) (M : Mem) : Prop := (B_HT_isProduct_76 post 0 M)
set_option maxRecDepth 20000 in
theorem Z_HT_isProduct_75 {x : Ctx} {post : Int32 → Mem → Prop} (C : Ok x b_HT_isProduct 5 "HeapTower") (hR : xR x = rm_HT_isProduct) (Rt : RetI x .boolean post 0 0) (M : Mem) (h : B_HT_isProduct_75 post M) : J x 5 75 [] [] 0 0 M := by
  unfold B_HT_isProduct_75 at h
  refine J_iconst (v := 0) C D_HT_isProduct_75 rfl ?_
  exact J_sub [] rfl (Z_HT_isProduct_76 C hR Rt  _ _ h)
def B_HT_isProduct_43 (post : Int32 → Mem → Prop) (x1 : Int32) (x2 : Int32) (x3 : Int32) (M : Mem) : Prop := ((10 < x1 → (B_HT_isProduct_75 post M)) ∧ (¬ 10 < x1 → ((10 < x2 → (B_HT_isProduct_75 post M)) ∧ (¬ 10 < x2 → ((10 < x3 → (B_HT_isProduct_75 post M)) ∧ (¬ 10 < x3 → ((10 < ((x1 + x2) + x3) → (B_HT_isProduct_75 post M)) ∧ (¬ 10 < ((x1 + x2) + x3) → (B_HT_isProduct_76 post 1 M)))))))))
set_option maxRecDepth 20000 in
theorem Z_HT_isProduct_43 {x : Ctx} {post : Int32 → Mem → Prop} (C : Ok x b_HT_isProduct 5 "HeapTower") (hR : xR x = rm_HT_isProduct) (Rt : RetI x .boolean post 0 0) (x1 : Int32) (x2 : Int32) (x3 : Int32) (M : Mem) (h : B_HT_isProduct_43 post x1 x2 x3 M) : J x 5 43 [(1, .int x1), (2, .int x2), (3, .int x3)] [] 0 0 M := by
  unfold B_HT_isProduct_43 at h
  refine J_iload_n C 1 D_HT_isProduct_43 rfl rfl ?_
  refine J_bipush (v := 10) C D_HT_isProduct_44 rfl ?_
  refine J_icmp_gt (tgt := 75) C D_HT_isProduct_46 (by decide) (fun c_46 => ?_) (fun c_46 => ?_)
  · have h := h.1 c_46
    exact J_sub [] rfl (Z_HT_isProduct_75 C hR Rt  _ h)
  · have h := h.2 c_46
    refine J_iload_n C 2 D_HT_isProduct_49 rfl rfl ?_
    refine J_bipush (v := 10) C D_HT_isProduct_50 rfl ?_
    refine J_icmp_gt (tgt := 75) C D_HT_isProduct_52 (by decide) (fun c_52 => ?_) (fun c_52 => ?_)
    · have h := h.1 c_52
      exact J_sub [] rfl (Z_HT_isProduct_75 C hR Rt  _ h)
    · have h := h.2 c_52
      refine J_iload_n C 3 D_HT_isProduct_55 rfl rfl ?_
      refine J_bipush (v := 10) C D_HT_isProduct_56 rfl ?_
      refine J_icmp_gt (tgt := 75) C D_HT_isProduct_58 (by decide) (fun c_58 => ?_) (fun c_58 => ?_)
      · have h := h.1 c_58
        exact J_sub [] rfl (Z_HT_isProduct_75 C hR Rt  _ h)
      · have h := h.2 c_58
        refine J_iload_n C 1 D_HT_isProduct_61 rfl rfl ?_
        refine J_iload_n C 2 D_HT_isProduct_62 rfl rfl ?_
        refine J_iadd C D_HT_isProduct_63 ?_
        refine J_iload_n C 3 D_HT_isProduct_64 rfl rfl ?_
        refine J_iadd C D_HT_isProduct_65 ?_
        refine J_bipush (v := 10) C D_HT_isProduct_66 rfl ?_
        refine J_icmp_gt (tgt := 75) C D_HT_isProduct_68 (by decide) (fun c_68 => ?_) (fun c_68 => ?_)
        · have h := h.1 c_68
          exact J_sub [] rfl (Z_HT_isProduct_75 C hR Rt  _ h)
        · have h := h.2 c_68
          refine J_iconst (v := 1) C D_HT_isProduct_71 rfl ?_
          refine J_goto (tgt := 76) C D_HT_isProduct_72 (by decide) ?_
          exact J_sub [] rfl (Z_HT_isProduct_76 C hR Rt  _ _ h)
def B_HT_isProduct_31 (post : Int32 → Mem → Prop) (x1 : Int32) (x2 : Int32) (x3 : Int32) (x4 : Int32) (M : Mem) : Prop := ((3 ≤ x4 → (B_HT_isProduct_43 post x1 x2 x3 M)) ∧ (¬ 3 ≤ x4 → ((x3 = 0 → (B_HT_isProduct_43 post x1 x2 x3 M)) ∧ (¬ x3 = 0 → (B_HT_isProduct_41 post M)))))
set_option maxRecDepth 20000 in
theorem Z_HT_isProduct_31 {x : Ctx} {post : Int32 → Mem → Prop} (C : Ok x b_HT_isProduct 5 "HeapTower") (hR : xR x = rm_HT_isProduct) (Rt : RetI x .boolean post 0 0) (x1 : Int32) (x2 : Int32) (x3 : Int32) (x4 : Int32) (M : Mem) (h : B_HT_isProduct_31 post x1 x2 x3 x4 M) : J x 5 31 [(1, .int x1), (2, .int x2), (3, .int x3), (4, .int x4)] [] 0 0 M := by
  unfold B_HT_isProduct_31 at h
  refine J_iload C 4 D_HT_isProduct_31 rfl ?_
  refine J_iconst (v := 3) C D_HT_isProduct_33 rfl ?_
  refine J_icmp_ge (tgt := 43) C D_HT_isProduct_34 (by decide) (fun c_34 => ?_) (fun c_34 => ?_)
  · have h := h.1 c_34
    exact J_sub [0, 1, 2] rfl (Z_HT_isProduct_43 C hR Rt  _ _ _ _ h)
  · have h := h.2 c_34
    refine J_iload_n C 3 D_HT_isProduct_37 rfl rfl ?_
    refine J_if_eq (tgt := 43) C D_HT_isProduct_38 (by decide) (fun c_38 => ?_) (fun c_38 => ?_)
    · have h := h.1 c_38
      exact J_sub [0, 1, 2] rfl (Z_HT_isProduct_43 C hR Rt  _ _ _ _ h)
    · have h := h.2 c_38
      exact J_sub [] rfl (Z_HT_isProduct_41 C hR Rt  _ h)
def T_HT_isProduct (a0 : Nat) (x1 : Int32) (x2 : Int32) (x3 : Int32) (M : Mem) (post : Int32 → Mem → Prop) : Prop := (isK M a0 6 ∧ ∃ q1, gR M a0 0 = some q1 ∧ isK M q1 4 ∧ T_Pr_letterCount q1 M (fun r4 M4 => (x1 < 0 → (B_HT_isProduct_41 post M4)) ∧ (¬ x1 < 0 → ((x2 < 0 → (B_HT_isProduct_41 post M4)) ∧ (¬ x2 < 0 → ((x3 < 0 → (B_HT_isProduct_41 post M4)) ∧ (¬ x3 < 0 → ((2 ≤ r4 → (B_HT_isProduct_31 post x1 x2 x3 r4 M4)) ∧ (¬ 2 ≤ r4 → ((¬ x2 = 0 → (B_HT_isProduct_41 post M4)) ∧ (x2 = 0 → (B_HT_isProduct_31 post x1 x2 x3 r4 M4))))))))))))
set_option maxRecDepth 20000 in
theorem S_HT_isProduct {l : Launch} {D : va_G} {B t g : Nat} {d : Nat → Nat} {ac : Nat → ClassId}  (a0 : Nat) (x1 : Int32) (x2 : Int32) (x3 : Int32) (M : Mem) (post : Int32 → Mem → Prop) (h : T_HT_isProduct a0 x1 x2 x3 M post) : Met l y_HT_isProduct w_HT_isProduct rm_HT_isProduct (va_Pc [.ref (d a0), .int x1, .int x2, .int x3] (PRE D B d g t ac M)) (QI D B d g ac post) 0 0 (AB B) := by
  refine met_i (by decide +kernel) (Nat.le_of_ble_eq_true rfl) (fun x h1 hR h3 h4 h5 h6 h7 h8 C Rt => ?_)
  subst h3 h4 h5 h6 h7 h8
  unfold T_HT_isProduct at h
  show J x 5 0 [(0, .ref (xd x a0)), (1, .int x1), (2, .int x2), (3, .int x3)] [] 0 0 M
  refine J_aload_n C 0 D_HT_isProduct_0 rfl rfl ?_
  obtain ⟨c_1, q1, e_1, h⟩ := h
  refine J_getR C fl_HT_10 D_HT_isProduct_1 c_1 e_1 ?_
  obtain ⟨c_4, h⟩ := h
  refine J_callVi C ml_HT_110 (S_Pr_letterCount _ _ _ h) (by rw [hR]; decide) rfl c_4 rfl (Nat.le_of_ble_eq_true rfl) D_HT_isProduct_4 (fun r4 M4 h => ?_)
  refine J_istore (lv' := [(4, .int r4), (0, .ref (xd x a0)), (1, .int x1), (2, .int x2), (3, .int x3)]) C 4 D_HT_isProduct_7 (by decide) rfl ?_
  refine J_iload_n C 1 D_HT_isProduct_9 rfl rfl ?_
  refine J_if_lt (tgt := 41) C D_HT_isProduct_10 (by decide) (fun c_10 => ?_) (fun c_10 => ?_)
  · have h := h.1 c_10
    exact J_sub [] rfl (Z_HT_isProduct_41 C hR Rt  _ h)
  · have h := h.2 c_10
    refine J_iload_n C 2 D_HT_isProduct_13 rfl rfl ?_
    refine J_if_lt (tgt := 41) C D_HT_isProduct_14 (by decide) (fun c_14 => ?_) (fun c_14 => ?_)
    · have h := h.1 c_14
      exact J_sub [] rfl (Z_HT_isProduct_41 C hR Rt  _ h)
    · have h := h.2 c_14
      refine J_iload_n C 3 D_HT_isProduct_17 rfl rfl ?_
      refine J_if_lt (tgt := 41) C D_HT_isProduct_18 (by decide) (fun c_18 => ?_) (fun c_18 => ?_)
      · have h := h.1 c_18
        exact J_sub [] rfl (Z_HT_isProduct_41 C hR Rt  _ h)
      · have h := h.2 c_18
        refine J_iload C 4 D_HT_isProduct_21 rfl ?_
        refine J_iconst (v := 2) C D_HT_isProduct_23 rfl ?_
        refine J_icmp_ge (tgt := 31) C D_HT_isProduct_24 (by decide) (fun c_24 => ?_) (fun c_24 => ?_)
        · have h := h.1 c_24
          exact J_sub [2, 3, 4, 0] rfl (Z_HT_isProduct_31 C hR Rt  _ _ _ _ _ h)
        · have h := h.2 c_24
          refine J_iload_n C 2 D_HT_isProduct_27 rfl rfl ?_
          refine J_if_ne (tgt := 41) C D_HT_isProduct_28 (by decide) (fun c_28 => ?_) (fun c_28 => ?_)
          · have h := h.1 c_28
            exact J_sub [] rfl (Z_HT_isProduct_41 C hR Rt  _ h)
          · have h := h.2 c_28
            exact J_sub [2, 3, 4, 0] rfl (Z_HT_isProduct_31 C hR Rt  _ _ _ _ _ h)
theorem D_HT_draftChanged_0 : decode b_HT_draftChanged 0 = .ok (.aload_n 0, 1) := by decide +kernel
theorem D_HT_draftChanged_1 : decode b_HT_draftChanged 1 = .ok (.getfield 66, 3) := by decide +kernel
theorem D_HT_draftChanged_4 : decode b_HT_draftChanged 4 = .ok (.iconst 0, 1) := by decide +kernel
theorem D_HT_draftChanged_5 : decode b_HT_draftChanged 5 = .ok (.invokevirtual 224, 3) := by decide +kernel
theorem D_HT_draftChanged_8 : decode b_HT_draftChanged 8 = .ok (.return_, 1) := by decide +kernel
abbrev rm_HT_draftChanged : Room := { frames := 2, cells := 0, slots := 0, locals := 42 }
def T_HT_draftChanged (a0 : Nat) (M : Mem) (post : Mem → Prop) : Prop := (isK M a0 6 ∧ ∃ q1, gR M a0 9 = some q1 ∧ isK M q1 0 ∧ T_Ba_forget q1 0 M (fun M5 => post M5))
set_option maxRecDepth 20000 in
theorem S_HT_draftChanged {l : Launch} {D : va_G} {B t g : Nat} {d : Nat → Nat} {ac : Nat → ClassId}  (a0 : Nat) (M : Mem) (post : Mem → Prop) (h : T_HT_draftChanged a0 M post) : Met l y_HT_draftChanged w_HT_draftChanged rm_HT_draftChanged (va_Pc [.ref (d a0)] (PRE D B d g t ac M)) (QV D B d g ac post) 0 0 (AB B) := by
  refine met_v (by decide +kernel) (Nat.le_of_ble_eq_true rfl) (fun x h1 hR h3 h4 h5 h6 h7 h8 C Rt Nm => ?_)
  subst h3 h4 h5 h6 h7 h8
  unfold T_HT_draftChanged at h
  show J x 1 0 [(0, .ref (xd x a0))] [] 0 0 M
  refine J_aload_n C 0 D_HT_draftChanged_0 rfl rfl ?_
  obtain ⟨c_1, q1, e_1, h⟩ := h
  refine J_getR C fl_HT_66 D_HT_draftChanged_1 c_1 e_1 ?_
  refine J_iconst (v := 0) C D_HT_draftChanged_4 rfl ?_
  obtain ⟨c_5, h⟩ := h
  refine J_callVv C ml_HT_224 (S_Ba_forget _ _ _ _ h) (by rw [hR]; decide) rfl c_5 rfl (Nat.le_of_ble_eq_true rfl) D_HT_draftChanged_5 (fun M5 h => ?_)
  exact J_vret C Rt D_HT_draftChanged_8 h
theorem D_HT_term_0 : decode b_HT_term 0 = .ok (.aload_n 0, 1) := by decide +kernel
theorem D_HT_term_1 : decode b_HT_term 1 = .ok (.iload_n 2, 1) := by decide +kernel
theorem D_HT_term_2 : decode b_HT_term 2 = .ok (.iload_n 3, 1) := by decide +kernel
theorem D_HT_term_3 : decode b_HT_term 3 = .ok (.iload 4, 2) := by decide +kernel
theorem D_HT_term_5 : decode b_HT_term 5 = .ok (.invokevirtual 113, 3) := by decide +kernel
theorem D_HT_term_8 : decode b_HT_term 8 = .ok (.ifCond .ne 6, 3) := by decide +kernel
theorem D_HT_term_11 : decode b_HT_term 11 = .ok (.ldc 85, 2) := by decide +kernel
theorem D_HT_term_13 : decode b_HT_term 13 = .ok (.ireturn, 1) := by decide +kernel
theorem D_HT_term_14 : decode b_HT_term 14 = .ok (.iload_n 2, 1) := by decide +kernel
theorem D_HT_term_15 : decode b_HT_term 15 = .ok (.iload_n 3, 1) := by decide +kernel
theorem D_HT_term_16 : decode b_HT_term 16 = .ok (.iadd, 1) := by decide +kernel
theorem D_HT_term_17 : decode b_HT_term 17 = .ok (.iload 4, 2) := by decide +kernel
theorem D_HT_term_19 : decode b_HT_term 19 = .ok (.iadd, 1) := by decide +kernel
theorem D_HT_term_20 : decode b_HT_term 20 = .ok (.istore 5, 2) := by decide +kernel
theorem D_HT_term_22 : decode b_HT_term 22 = .ok (.iload_n 3, 1) := by decide +kernel
theorem D_HT_term_23 : decode b_HT_term 23 = .ok (.iload 4, 2) := by decide +kernel
theorem D_HT_term_25 : decode b_HT_term 25 = .ok (.invokestatic 117, 3) := by decide +kernel
theorem D_HT_term_28 : decode b_HT_term 28 = .ok (.istore 6, 2) := by decide +kernel
theorem D_HT_term_30 : decode b_HT_term 30 = .ok (.aload_n 0, 1) := by decide +kernel
theorem D_HT_term_31 : decode b_HT_term 31 = .ok (.getfield 19, 3) := by decide +kernel
theorem D_HT_term_34 : decode b_HT_term 34 = .ok (.aload_n 0, 1) := by decide +kernel
theorem D_HT_term_35 : decode b_HT_term 35 = .ok (.getfield 46, 3) := by decide +kernel
theorem D_HT_term_38 : decode b_HT_term 38 = .ok (.iload 5, 2) := by decide +kernel
theorem D_HT_term_40 : decode b_HT_term 40 = .ok (.iload 6, 2) := by decide +kernel
theorem D_HT_term_42 : decode b_HT_term 42 = .ok (.invokevirtual 121, 3) := by decide +kernel
theorem D_HT_term_45 : decode b_HT_term 45 = .ok (.aload_n 0, 1) := by decide +kernel
theorem D_HT_term_46 : decode b_HT_term 46 = .ok (.getfield 19, 3) := by decide +kernel
theorem D_HT_term_49 : decode b_HT_term 49 = .ok (.iload_n 1, 1) := by decide +kernel
theorem D_HT_term_50 : decode b_HT_term 50 = .ok (.invokevirtual 124, 3) := by decide +kernel
theorem D_HT_term_53 : decode b_HT_term 53 = .ok (.iadd, 1) := by decide +kernel
theorem D_HT_term_54 : decode b_HT_term 54 = .ok (.invokevirtual 124, 3) := by decide +kernel
theorem D_HT_term_57 : decode b_HT_term 57 = .ok (.istore 7, 2) := by decide +kernel
theorem D_HT_term_59 : decode b_HT_term 59 = .ok (.aload_n 0, 1) := by decide +kernel
theorem D_HT_term_60 : decode b_HT_term 60 = .ok (.getfield 46, 3) := by decide +kernel
theorem D_HT_term_63 : decode b_HT_term 63 = .ok (.iload 5, 2) := by decide +kernel
theorem D_HT_term_65 : decode b_HT_term 65 = .ok (.iload 6, 2) := by decide +kernel
theorem D_HT_term_67 : decode b_HT_term 67 = .ok (.iload 7, 2) := by decide +kernel
theorem D_HT_term_69 : decode b_HT_term 69 = .ok (.invokevirtual 128, 3) := by decide +kernel
theorem D_HT_term_72 : decode b_HT_term 72 = .ok (.aload_n 0, 1) := by decide +kernel
theorem D_HT_term_73 : decode b_HT_term 73 = .ok (.invokevirtual 132, 3) := by decide +kernel
theorem D_HT_term_76 : decode b_HT_term 76 = .ok (.iload 7, 2) := by decide +kernel
theorem D_HT_term_78 : decode b_HT_term 78 = .ok (.ireturn, 1) := by decide +kernel
abbrev rm_HT_term : Room := { frames := 3, cells := 0, slots := 0, locals := 62 }
def T_HT_term (a0 : Nat) (x1 : Int32) (x2 : Int32) (x3 : Int32) (x4 : Int32) (M : Mem) (post : Int32 → Mem → Prop) : Prop := (isK M a0 6 ∧ T_HT_isProduct a0 x2 x3 x4 M (fun r5 M5 => (¬ r5 = 0 → (T_Pr_place x3 x4 M5 (fun r25 M25 => isK M25 a0 6 ∧ ∃ q31, gR M25 a0 1 = some q31 ∧ isK M25 a0 6 ∧ ∃ q35, gR M25 a0 5 = some q35 ∧ isK M25 q35 3 ∧ T_Po_numberAt q35 ((x2 + x3) + x4) r25 M25 (fun r42 M42 => isK M42 a0 6 ∧ ∃ q46, gR M42 a0 1 = some q46 ∧ isK M42 q46 2 ∧ T_Nu_modulo q46 x1 M42 (fun r50 M50 => isK M50 q31 2 ∧ T_Nu_modulo q31 (r42 + r50) M50 (fun r54 M54 => isK M54 a0 6 ∧ ∃ q60, gR M54 a0 5 = some q60 ∧ isK M54 q60 3 ∧ T_Po_setNumber q60 ((x2 + x3) + x4) r25 r54 M54 (fun M69 => isK M69 a0 6 ∧ T_HT_draftChanged a0 M69 (fun M73 => post r54 M73)))))))) ∧ (r5 = 0 → (post ((-1000000)) M5))))
set_option maxRecDepth 20000 in
theorem S_HT_term {l : Launch} {D : va_G} {B t g : Nat} {d : Nat → Nat} {ac : Nat → ClassId}  (a0 : Nat) (x1 : Int32) (x2 : Int32) (x3 : Int32) (x4 : Int32) (M : Mem) (post : Int32 → Mem → Prop) (h : T_HT_term a0 x1 x2 x3 x4 M post) : Met l y_HT_term w_HT_term rm_HT_term (va_Pc [.ref (d a0), .int x1, .int x2, .int x3, .int x4] (PRE D B d g t ac M)) (QI D B d g ac post) 0 0 (AB B) := by
  refine met_i (by decide +kernel) (Nat.le_of_ble_eq_true rfl) (fun x h1 hR h3 h4 h5 h6 h7 h8 C Rt => ?_)
  subst h3 h4 h5 h6 h7 h8
  unfold T_HT_term at h
  show J x 8 0 [(0, .ref (xd x a0)), (1, .int x1), (2, .int x2), (3, .int x3), (4, .int x4)] [] 0 0 M
  refine J_aload_n C 0 D_HT_term_0 rfl rfl ?_
  refine J_iload_n C 2 D_HT_term_1 rfl rfl ?_
  refine J_iload_n C 3 D_HT_term_2 rfl rfl ?_
  refine J_iload C 4 D_HT_term_3 rfl ?_
  obtain ⟨c_5, h⟩ := h
  refine J_callVi C ml_HT_113 (S_HT_isProduct _ _ _ _ _ _ h) (by rw [hR]; decide) rfl c_5 rfl (Nat.le_of_ble_eq_true rfl) D_HT_term_5 (fun r5 M5 h => ?_)
  refine J_if_ne (tgt := 14) C D_HT_term_8 (by decide) (fun c_8 => ?_) (fun c_8 => ?_)
  · have h := h.1 c_8
    refine J_iload_n C 2 D_HT_term_14 rfl rfl ?_
    refine J_iload_n C 3 D_HT_term_15 rfl rfl ?_
    refine J_iadd C D_HT_term_16 ?_
    refine J_iload C 4 D_HT_term_17 rfl ?_
    refine J_iadd C D_HT_term_19 ?_
    refine J_istore (lv' := [(5, .int ((x2 + x3) + x4)), (0, .ref (xd x a0)), (1, .int x1), (2, .int x2), (3, .int x3), (4, .int x4)]) C 5 D_HT_term_20 (by decide) rfl ?_
    refine J_iload_n C 3 D_HT_term_22 rfl rfl ?_
    refine J_iload C 4 D_HT_term_23 rfl ?_
    refine J_callSi C ml_HT_117 (S_Pr_place _ _ _ _ h) (by rw [hR]; decide) rfl rfl (Nat.le_of_ble_eq_true rfl) D_HT_term_25 (fun r25 M25 h => ?_)
    refine J_istore (lv' := [(6, .int r25), (5, .int ((x2 + x3) + x4)), (0, .ref (xd x a0)), (1, .int x1), (2, .int x2), (3, .int x3), (4, .int x4)]) C 6 D_HT_term_28 (by decide) rfl ?_
    refine J_aload_n C 0 D_HT_term_30 rfl rfl ?_
    obtain ⟨c_31, q31, e_31, h⟩ := h
    refine J_getR C fl_HT_19 D_HT_term_31 c_31 e_31 ?_
    refine J_aload_n C 0 D_HT_term_34 rfl rfl ?_
    obtain ⟨c_35, q35, e_35, h⟩ := h
    refine J_getR C fl_HT_46 D_HT_term_35 c_35 e_35 ?_
    refine J_iload C 5 D_HT_term_38 rfl ?_
    refine J_iload C 6 D_HT_term_40 rfl ?_
    obtain ⟨c_42, h⟩ := h
    refine J_callVi C ml_HT_121 (S_Po_numberAt _ _ _ _ _ h) (by rw [hR]; decide) rfl c_42 rfl (Nat.le_of_ble_eq_true rfl) D_HT_term_42 (fun r42 M42 h => ?_)
    refine J_aload_n C 0 D_HT_term_45 rfl rfl ?_
    obtain ⟨c_46, q46, e_46, h⟩ := h
    refine J_getR C fl_HT_19 D_HT_term_46 c_46 e_46 ?_
    refine J_iload_n C 1 D_HT_term_49 rfl rfl ?_
    obtain ⟨c_50, h⟩ := h
    refine J_callVi C ml_HT_124 (S_Nu_modulo _ _ _ _ h) (by rw [hR]; decide) rfl c_50 rfl (Nat.le_of_ble_eq_true rfl) D_HT_term_50 (fun r50 M50 h => ?_)
    refine J_iadd C D_HT_term_53 ?_
    obtain ⟨c_54, h⟩ := h
    refine J_callVi C ml_HT_124 (S_Nu_modulo _ _ _ _ h) (by rw [hR]; decide) rfl c_54 rfl (Nat.le_of_ble_eq_true rfl) D_HT_term_54 (fun r54 M54 h => ?_)
    refine J_istore (lv' := [(7, .int r54), (6, .int r25), (5, .int ((x2 + x3) + x4)), (0, .ref (xd x a0)), (1, .int x1), (2, .int x2), (3, .int x3), (4, .int x4)]) C 7 D_HT_term_57 (by decide) rfl ?_
    refine J_aload_n C 0 D_HT_term_59 rfl rfl ?_
    obtain ⟨c_60, q60, e_60, h⟩ := h
    refine J_getR C fl_HT_46 D_HT_term_60 c_60 e_60 ?_
    refine J_iload C 5 D_HT_term_63 rfl ?_
    refine J_iload C 6 D_HT_term_65 rfl ?_
    refine J_iload C 7 D_HT_term_67 rfl ?_
    obtain ⟨c_69, h⟩ := h
    refine J_callVv C ml_HT_128 (S_Po_setNumber _ _ _ _ _ _ h) (by rw [hR]; decide) rfl c_69 rfl (Nat.le_of_ble_eq_true rfl) D_HT_term_69 (fun M69 h => ?_)
    refine J_aload_n C 0 D_HT_term_72 rfl rfl ?_
    obtain ⟨c_73, h⟩ := h
    refine J_callVv C ml_HT_132 (S_HT_draftChanged _ _ _ h) (by rw [hR]; decide) rfl c_73 rfl (Nat.le_of_ble_eq_true rfl) D_HT_term_73 (fun M73 h => ?_)
    refine J_iload C 7 D_HT_term_76 rfl ?_
    exact J_iret C Rt D_HT_term_78 rfl h
  · have h := h.2 c_8
    refine J_ldc (v := (-1000000)) C D_HT_term_11 kw_HT_85 ?_
    exact J_iret C Rt D_HT_term_13 rfl h
theorem D_HT_number_0 : decode b_HT_number 0 = .ok (.aload_n 0, 1) := by decide +kernel
theorem D_HT_number_1 : decode b_HT_number 1 = .ok (.iload_n 1, 1) := by decide +kernel
theorem D_HT_number_2 : decode b_HT_number 2 = .ok (.iload_n 2, 1) := by decide +kernel
theorem D_HT_number_3 : decode b_HT_number 3 = .ok (.iload_n 3, 1) := by decide +kernel
theorem D_HT_number_4 : decode b_HT_number 4 = .ok (.invokevirtual 113, 3) := by decide +kernel
theorem D_HT_number_7 : decode b_HT_number 7 = .ok (.ifCond .eq 23, 3) := by decide +kernel
theorem D_HT_number_10 : decode b_HT_number 10 = .ok (.aload_n 0, 1) := by decide +kernel
theorem D_HT_number_11 : decode b_HT_number 11 = .ok (.getfield 46, 3) := by decide +kernel
theorem D_HT_number_14 : decode b_HT_number 14 = .ok (.iload_n 1, 1) := by decide +kernel
theorem D_HT_number_15 : decode b_HT_number 15 = .ok (.iload_n 2, 1) := by decide +kernel
theorem D_HT_number_16 : decode b_HT_number 16 = .ok (.iadd, 1) := by decide +kernel
theorem D_HT_number_17 : decode b_HT_number 17 = .ok (.iload_n 3, 1) := by decide +kernel
theorem D_HT_number_18 : decode b_HT_number 18 = .ok (.iadd, 1) := by decide +kernel
theorem D_HT_number_19 : decode b_HT_number 19 = .ok (.iload_n 2, 1) := by decide +kernel
theorem D_HT_number_20 : decode b_HT_number 20 = .ok (.iload_n 3, 1) := by decide +kernel
theorem D_HT_number_21 : decode b_HT_number 21 = .ok (.invokestatic 117, 3) := by decide +kernel
theorem D_HT_number_24 : decode b_HT_number 24 = .ok (.invokevirtual 121, 3) := by decide +kernel
theorem D_HT_number_27 : decode b_HT_number 27 = .ok (.goto 5, 3) := by decide +kernel
theorem D_HT_number_30 : decode b_HT_number 30 = .ok (.ldc 85, 2) := by decide +kernel
theorem D_HT_number_32 : decode b_HT_number 32 = .ok (.ireturn, 1) := by decide +kernel
abbrev rm_HT_number : Room := { frames := 2, cells := 0, slots := 0, locals := 44 }
def B_HT_number_32 (post : Int32 → Mem → Prop) (s0 : Int32) (M : Mem) : Prop := (post s0 M)
set_option maxRecDepth 20000 in
theorem Z_HT_number_32 {x : Ctx} {post : Int32 → Mem → Prop} (C : Ok x b_HT_number 4 "HeapTower") (hR : xR x = rm_HT_number) (Rt : RetI x .int post 0 0) (s0 : Int32) (M : Mem) (h : B_HT_number_32 post s0 M) : J x 4 32 [] [.int s0] 0 0 M := by
  unfold B_HT_number_32 at h
  exact J_iret C Rt D_HT_number_32 rfl h
def T_HT_number (a0 : Nat) (x1 : Int32) (x2 : Int32) (x3 : Int32) (M : Mem) (post : Int32 → Mem → Prop) : Prop := (isK M a0 6 ∧ T_HT_isProduct a0 x1 x2 x3 M (fun r4 M4 => (r4 = 0 → (B_HT_number_32 post ((-1000000)) M4)) ∧ (¬ r4 = 0 → (isK M4 a0 6 ∧ ∃ q11, gR M4 a0 5 = some q11 ∧ T_Pr_place x2 x3 M4 (fun r21 M21 => isK M21 q11 3 ∧ T_Po_numberAt q11 ((x1 + x2) + x3) r21 M21 (fun r24 M24 => B_HT_number_32 post r24 M24))))))
set_option maxRecDepth 20000 in
theorem S_HT_number {l : Launch} {D : va_G} {B t g : Nat} {d : Nat → Nat} {ac : Nat → ClassId}  (a0 : Nat) (x1 : Int32) (x2 : Int32) (x3 : Int32) (M : Mem) (post : Int32 → Mem → Prop) (h : T_HT_number a0 x1 x2 x3 M post) : Met l y_HT_number w_HT_number rm_HT_number (va_Pc [.ref (d a0), .int x1, .int x2, .int x3] (PRE D B d g t ac M)) (QI D B d g ac post) 0 0 (AB B) := by
  refine met_i (by decide +kernel) (Nat.le_of_ble_eq_true rfl) (fun x h1 hR h3 h4 h5 h6 h7 h8 C Rt => ?_)
  subst h3 h4 h5 h6 h7 h8
  unfold T_HT_number at h
  show J x 4 0 [(0, .ref (xd x a0)), (1, .int x1), (2, .int x2), (3, .int x3)] [] 0 0 M
  refine J_aload_n C 0 D_HT_number_0 rfl rfl ?_
  refine J_iload_n C 1 D_HT_number_1 rfl rfl ?_
  refine J_iload_n C 2 D_HT_number_2 rfl rfl ?_
  refine J_iload_n C 3 D_HT_number_3 rfl rfl ?_
  obtain ⟨c_4, h⟩ := h
  refine J_callVi C ml_HT_113 (S_HT_isProduct _ _ _ _ _ _ h) (by rw [hR]; decide) rfl c_4 rfl (Nat.le_of_ble_eq_true rfl) D_HT_number_4 (fun r4 M4 h => ?_)
  refine J_if_eq (tgt := 30) C D_HT_number_7 (by decide) (fun c_7 => ?_) (fun c_7 => ?_)
  · have h := h.1 c_7
    refine J_ldc (v := (-1000000)) C D_HT_number_30 kw_HT_85 ?_
    exact J_sub [] rfl (Z_HT_number_32 C hR Rt  _ _ h)
  · have h := h.2 c_7
    refine J_aload_n C 0 D_HT_number_10 rfl rfl ?_
    obtain ⟨c_11, q11, e_11, h⟩ := h
    refine J_getR C fl_HT_46 D_HT_number_11 c_11 e_11 ?_
    refine J_iload_n C 1 D_HT_number_14 rfl rfl ?_
    refine J_iload_n C 2 D_HT_number_15 rfl rfl ?_
    refine J_iadd C D_HT_number_16 ?_
    refine J_iload_n C 3 D_HT_number_17 rfl rfl ?_
    refine J_iadd C D_HT_number_18 ?_
    refine J_iload_n C 2 D_HT_number_19 rfl rfl ?_
    refine J_iload_n C 3 D_HT_number_20 rfl rfl ?_
    refine J_callSi C ml_HT_117 (S_Pr_place _ _ _ _ h) (by rw [hR]; decide) rfl rfl (Nat.le_of_ble_eq_true rfl) D_HT_number_21 (fun r21 M21 h => ?_)
    obtain ⟨c_24, h⟩ := h
    refine J_callVi C ml_HT_121 (S_Po_numberAt _ _ _ _ _ h) (by rw [hR]; decide) rfl c_24 rfl (Nat.le_of_ble_eq_true rfl) D_HT_number_24 (fun r24 M24 h => ?_)
    refine J_goto (tgt := 32) C D_HT_number_27 (by decide) ?_
    exact J_sub [] rfl (Z_HT_number_32 C hR Rt  _ _ h)
theorem D_HT_wipe_0 : decode b_HT_wipe 0 = .ok (.aload_n 0, 1) := by decide +kernel
theorem D_HT_wipe_1 : decode b_HT_wipe 1 = .ok (.getfield 46, 3) := by decide +kernel
theorem D_HT_wipe_4 : decode b_HT_wipe 4 = .ok (.invokevirtual 135, 3) := by decide +kernel
theorem D_HT_wipe_7 : decode b_HT_wipe 7 = .ok (.istore_n 1, 1) := by decide +kernel
theorem D_HT_wipe_8 : decode b_HT_wipe 8 = .ok (.aload_n 0, 1) := by decide +kernel
theorem D_HT_wipe_9 : decode b_HT_wipe 9 = .ok (.getfield 46, 3) := by decide +kernel
theorem D_HT_wipe_12 : decode b_HT_wipe 12 = .ok (.invokevirtual 104, 3) := by decide +kernel
theorem D_HT_wipe_15 : decode b_HT_wipe 15 = .ok (.aload_n 0, 1) := by decide +kernel
theorem D_HT_wipe_16 : decode b_HT_wipe 16 = .ok (.invokevirtual 132, 3) := by decide +kernel
theorem D_HT_wipe_19 : decode b_HT_wipe 19 = .ok (.iload_n 1, 1) := by decide +kernel
theorem D_HT_wipe_20 : decode b_HT_wipe 20 = .ok (.ireturn, 1) := by decide +kernel
abbrev rm_HT_wipe : Room := { frames := 3, cells := 0, slots := 0, locals := 62 }
def T_HT_wipe (a0 : Nat) (M : Mem) (post : Int32 → Mem → Prop) : Prop := (isK M a0 6 ∧ ∃ q1, gR M a0 5 = some q1 ∧ isK M q1 3 ∧ T_Po_size q1 M (fun r4 M4 => isK M4 a0 6 ∧ ∃ q9, gR M4 a0 5 = some q9 ∧ isK M4 q9 3 ∧ T_Po_clear q9 M4 (fun M12 => isK M12 a0 6 ∧ T_HT_draftChanged a0 M12 (fun M16 => post r4 M16))))
set_option maxRecDepth 20000 in
theorem S_HT_wipe {l : Launch} {D : va_G} {B t g : Nat} {d : Nat → Nat} {ac : Nat → ClassId}  (a0 : Nat) (M : Mem) (post : Int32 → Mem → Prop) (h : T_HT_wipe a0 M post) : Met l y_HT_wipe w_HT_wipe rm_HT_wipe (va_Pc [.ref (d a0)] (PRE D B d g t ac M)) (QI D B d g ac post) 0 0 (AB B) := by
  refine met_i (by decide +kernel) (Nat.le_of_ble_eq_true rfl) (fun x h1 hR h3 h4 h5 h6 h7 h8 C Rt => ?_)
  subst h3 h4 h5 h6 h7 h8
  unfold T_HT_wipe at h
  show J x 2 0 [(0, .ref (xd x a0))] [] 0 0 M
  refine J_aload_n C 0 D_HT_wipe_0 rfl rfl ?_
  obtain ⟨c_1, q1, e_1, h⟩ := h
  refine J_getR C fl_HT_46 D_HT_wipe_1 c_1 e_1 ?_
  obtain ⟨c_4, h⟩ := h
  refine J_callVi C ml_HT_135 (S_Po_size _ _ _ h) (by rw [hR]; decide) rfl c_4 rfl (Nat.le_of_ble_eq_true rfl) D_HT_wipe_4 (fun r4 M4 h => ?_)
  refine J_istore_n (lv' := [(1, .int r4), (0, .ref (xd x a0))]) C 1 D_HT_wipe_7 rfl (by decide) rfl ?_
  refine J_aload_n C 0 D_HT_wipe_8 rfl rfl ?_
  obtain ⟨c_9, q9, e_9, h⟩ := h
  refine J_getR C fl_HT_46 D_HT_wipe_9 c_9 e_9 ?_
  obtain ⟨c_12, h⟩ := h
  refine J_callVv C ml_HT_104 (S_Po_clear _ _ _ h) (by rw [hR]; decide) rfl c_12 rfl (Nat.le_of_ble_eq_true rfl) D_HT_wipe_12 (fun M12 h => ?_)
  refine J_aload_n C 0 D_HT_wipe_15 rfl rfl ?_
  obtain ⟨c_16, h⟩ := h
  refine J_callVv C ml_HT_132 (S_HT_draftChanged _ _ _ h) (by rw [hR]; decide) rfl c_16 rfl (Nat.le_of_ble_eq_true rfl) D_HT_wipe_16 (fun M16 h => ?_)
  refine J_iload_n C 1 D_HT_wipe_19 rfl rfl ?_
  exact J_iret C Rt D_HT_wipe_20 rfl h
theorem D_HT_headOfDraft_0 : decode b_HT_headOfDraft 0 = .ok (.aload_n 0, 1) := by decide +kernel
theorem D_HT_headOfDraft_1 : decode b_HT_headOfDraft 1 = .ok (.getfield 46, 3) := by decide +kernel
theorem D_HT_headOfDraft_4 : decode b_HT_headOfDraft 4 = .ok (.invokevirtual 138, 3) := by decide +kernel
theorem D_HT_headOfDraft_7 : decode b_HT_headOfDraft 7 = .ok (.istore_n 1, 1) := by decide +kernel
theorem D_HT_headOfDraft_8 : decode b_HT_headOfDraft 8 = .ok (.aload_n 0, 1) := by decide +kernel
theorem D_HT_headOfDraft_9 : decode b_HT_headOfDraft 9 = .ok (.getfield 46, 3) := by decide +kernel
theorem D_HT_headOfDraft_12 : decode b_HT_headOfDraft 12 = .ok (.invokevirtual 257, 3) := by decide +kernel
theorem D_HT_headOfDraft_15 : decode b_HT_headOfDraft 15 = .ok (.istore_n 2, 1) := by decide +kernel
theorem D_HT_headOfDraft_16 : decode b_HT_headOfDraft 16 = .ok (.iload_n 1, 1) := by decide +kernel
theorem D_HT_headOfDraft_17 : decode b_HT_headOfDraft 17 = .ok (.ifCond .lt 7, 3) := by decide +kernel
theorem D_HT_headOfDraft_20 : decode b_HT_headOfDraft 20 = .ok (.iload_n 2, 1) := by decide +kernel
theorem D_HT_headOfDraft_21 : decode b_HT_headOfDraft 21 = .ok (.ifCond .ge 5, 3) := by decide +kernel
theorem D_HT_headOfDraft_24 : decode b_HT_headOfDraft 24 = .ok (.iconst (-1), 1) := by decide +kernel
theorem D_HT_headOfDraft_25 : decode b_HT_headOfDraft 25 = .ok (.ireturn, 1) := by decide +kernel
theorem D_HT_headOfDraft_26 : decode b_HT_headOfDraft 26 = .ok (.sipush 10000, 3) := by decide +kernel
theorem D_HT_headOfDraft_29 : decode b_HT_headOfDraft 29 = .ok (.aload_n 0, 1) := by decide +kernel
theorem D_HT_headOfDraft_30 : decode b_HT_headOfDraft 30 = .ok (.getfield 10, 3) := by decide +kernel
theorem D_HT_headOfDraft_33 : decode b_HT_headOfDraft 33 = .ok (.iload_n 1, 1) := by decide +kernel
theorem D_HT_headOfDraft_34 : decode b_HT_headOfDraft 34 = .ok (.iload_n 2, 1) := by decide +kernel
theorem D_HT_headOfDraft_35 : decode b_HT_headOfDraft 35 = .ok (.iconst 0, 1) := by decide +kernel
theorem D_HT_headOfDraft_36 : decode b_HT_headOfDraft 36 = .ok (.invokevirtual 260, 3) := by decide +kernel
theorem D_HT_headOfDraft_39 : decode b_HT_headOfDraft 39 = .ok (.imul, 1) := by decide +kernel
theorem D_HT_headOfDraft_40 : decode b_HT_headOfDraft 40 = .ok (.bipush 100, 2) := by decide +kernel
theorem D_HT_headOfDraft_42 : decode b_HT_headOfDraft 42 = .ok (.aload_n 0, 1) := by decide +kernel
theorem D_HT_headOfDraft_43 : decode b_HT_headOfDraft 43 = .ok (.getfield 10, 3) := by decide +kernel
theorem D_HT_headOfDraft_46 : decode b_HT_headOfDraft 46 = .ok (.iload_n 1, 1) := by decide +kernel
theorem D_HT_headOfDraft_47 : decode b_HT_headOfDraft 47 = .ok (.iload_n 2, 1) := by decide +kernel
theorem D_HT_headOfDraft_48 : decode b_HT_headOfDraft 48 = .ok (.iconst 1, 1) := by decide +kernel
theorem D_HT_headOfDraft_49 : decode b_HT_headOfDraft 49 = .ok (.invokevirtual 260, 3) := by decide +kernel
theorem D_HT_headOfDraft_52 : decode b_HT_headOfDraft 52 = .ok (.imul, 1) := by decide +kernel
theorem D_HT_headOfDraft_53 : decode b_HT_headOfDraft 53 = .ok (.iadd, 1) := by decide +kernel
theorem D_HT_headOfDraft_54 : decode b_HT_headOfDraft 54 = .ok (.aload_n 0, 1) := by decide +kernel
theorem D_HT_headOfDraft_55 : decode b_HT_headOfDraft 55 = .ok (.getfield 10, 3) := by decide +kernel
theorem D_HT_headOfDraft_58 : decode b_HT_headOfDraft 58 = .ok (.iload_n 1, 1) := by decide +kernel
theorem D_HT_headOfDraft_59 : decode b_HT_headOfDraft 59 = .ok (.iload_n 2, 1) := by decide +kernel
theorem D_HT_headOfDraft_60 : decode b_HT_headOfDraft 60 = .ok (.iconst 2, 1) := by decide +kernel
theorem D_HT_headOfDraft_61 : decode b_HT_headOfDraft 61 = .ok (.invokevirtual 260, 3) := by decide +kernel
theorem D_HT_headOfDraft_64 : decode b_HT_headOfDraft 64 = .ok (.iadd, 1) := by decide +kernel
theorem D_HT_headOfDraft_65 : decode b_HT_headOfDraft 65 = .ok (.ireturn, 1) := by decide +kernel
abbrev rm_HT_headOfDraft : Room := { frames := 3, cells := 0, slots := 0, locals := 66 }
def B_HT_headOfDraft_24 (post : Int32 → Mem → Prop) (M : Mem) : Prop := (post ((-1)) M)
set_option maxRecDepth 20000 in
theorem Z_HT_headOfDraft_24 {x : Ctx} {post : Int32 → Mem → Prop} (C : Ok x b_HT_headOfDraft 3 "HeapTower") (hR : xR x = rm_HT_headOfDraft) (Rt : RetI x .int post 0 0) (M : Mem) (h : B_HT_headOfDraft_24 post M) : J x 3 24 [] [] 0 0 M := by
  unfold B_HT_headOfDraft_24 at h
  refine J_iconst (v := (-1)) C D_HT_headOfDraft_24 rfl ?_
  exact J_iret C Rt D_HT_headOfDraft_25 rfl h
def T_HT_headOfDraft (a0 : Nat) (M : Mem) (post : Int32 → Mem → Prop) : Prop := (isK M a0 6 ∧ ∃ q1, gR M a0 5 = some q1 ∧ isK M q1 3 ∧ T_Po_degree q1 M (fun r4 M4 => isK M4 a0 6 ∧ ∃ q9, gR M4 a0 5 = some q9 ∧ isK M4 q9 3 ∧ T_Po_headPlace q9 M4 (fun r12 M12 => (r4 < 0 → (B_HT_headOfDraft_24 post M12)) ∧ (¬ r4 < 0 → ((0 ≤ r12 → (isK M12 a0 6 ∧ ∃ q30, gR M12 a0 0 = some q30 ∧ isK M12 q30 4 ∧ T_Pr_power q30 r4 r12 0 M12 (fun r36 M36 => isK M36 a0 6 ∧ ∃ q43, gR M36 a0 0 = some q43 ∧ isK M36 q43 4 ∧ T_Pr_power q43 r4 r12 1 M36 (fun r49 M49 => isK M49 a0 6 ∧ ∃ q55, gR M49 a0 0 = some q55 ∧ isK M49 q55 4 ∧ T_Pr_power q55 r4 r12 2 M49 (fun r61 M61 => post (((10000 * r36) + (100 * r49)) + r61) M61))))) ∧ (¬ 0 ≤ r12 → (B_HT_headOfDraft_24 post M12)))))))
set_option maxRecDepth 20000 in
theorem S_HT_headOfDraft {l : Launch} {D : va_G} {B t g : Nat} {d : Nat → Nat} {ac : Nat → ClassId}  (a0 : Nat) (M : Mem) (post : Int32 → Mem → Prop) (h : T_HT_headOfDraft a0 M post) : Met l y_HT_headOfDraft w_HT_headOfDraft rm_HT_headOfDraft (va_Pc [.ref (d a0)] (PRE D B d g t ac M)) (QI D B d g ac post) 0 0 (AB B) := by
  refine met_i (by decide +kernel) (Nat.le_of_ble_eq_true rfl) (fun x h1 hR h3 h4 h5 h6 h7 h8 C Rt => ?_)
  subst h3 h4 h5 h6 h7 h8
  unfold T_HT_headOfDraft at h
  show J x 3 0 [(0, .ref (xd x a0))] [] 0 0 M
  refine J_aload_n C 0 D_HT_headOfDraft_0 rfl rfl ?_
  obtain ⟨c_1, q1, e_1, h⟩ := h
  refine J_getR C fl_HT_46 D_HT_headOfDraft_1 c_1 e_1 ?_
  obtain ⟨c_4, h⟩ := h
  refine J_callVi C ml_HT_138 (S_Po_degree _ _ _ h) (by rw [hR]; decide) rfl c_4 rfl (Nat.le_of_ble_eq_true rfl) D_HT_headOfDraft_4 (fun r4 M4 h => ?_)
  refine J_istore_n (lv' := [(1, .int r4), (0, .ref (xd x a0))]) C 1 D_HT_headOfDraft_7 rfl (by decide) rfl ?_
  refine J_aload_n C 0 D_HT_headOfDraft_8 rfl rfl ?_
  obtain ⟨c_9, q9, e_9, h⟩ := h
  refine J_getR C fl_HT_46 D_HT_headOfDraft_9 c_9 e_9 ?_
  obtain ⟨c_12, h⟩ := h
  refine J_callVi C ml_HT_257 (S_Po_headPlace _ _ _ h) (by rw [hR]; decide) rfl c_12 rfl (Nat.le_of_ble_eq_true rfl) D_HT_headOfDraft_12 (fun r12 M12 h => ?_)
  refine J_istore_n (lv' := [(2, .int r12), (1, .int r4), (0, .ref (xd x a0))]) C 2 D_HT_headOfDraft_15 rfl (by decide) rfl ?_
  refine J_iload_n C 1 D_HT_headOfDraft_16 rfl rfl ?_
  refine J_if_lt (tgt := 24) C D_HT_headOfDraft_17 (by decide) (fun c_17 => ?_) (fun c_17 => ?_)
  · have h := h.1 c_17
    exact J_sub [] rfl (Z_HT_headOfDraft_24 C hR Rt  _ h)
  · have h := h.2 c_17
    refine J_iload_n C 2 D_HT_headOfDraft_20 rfl rfl ?_
    refine J_if_ge (tgt := 26) C D_HT_headOfDraft_21 (by decide) (fun c_21 => ?_) (fun c_21 => ?_)
    · have h := h.1 c_21
      refine J_sipush (v := 10000) C D_HT_headOfDraft_26 rfl ?_
      refine J_aload_n C 0 D_HT_headOfDraft_29 rfl rfl ?_
      obtain ⟨c_30, q30, e_30, h⟩ := h
      refine J_getR C fl_HT_10 D_HT_headOfDraft_30 c_30 e_30 ?_
      refine J_iload_n C 1 D_HT_headOfDraft_33 rfl rfl ?_
      refine J_iload_n C 2 D_HT_headOfDraft_34 rfl rfl ?_
      refine J_iconst (v := 0) C D_HT_headOfDraft_35 rfl ?_
      obtain ⟨c_36, h⟩ := h
      refine J_callVi C ml_HT_260 (S_Pr_power _ _ _ _ _ _ h) (by rw [hR]; decide) rfl c_36 rfl (Nat.le_of_ble_eq_true rfl) D_HT_headOfDraft_36 (fun r36 M36 h => ?_)
      refine J_imul C D_HT_headOfDraft_39 ?_
      refine J_bipush (v := 100) C D_HT_headOfDraft_40 rfl ?_
      refine J_aload_n C 0 D_HT_headOfDraft_42 rfl rfl ?_
      obtain ⟨c_43, q43, e_43, h⟩ := h
      refine J_getR C fl_HT_10 D_HT_headOfDraft_43 c_43 e_43 ?_
      refine J_iload_n C 1 D_HT_headOfDraft_46 rfl rfl ?_
      refine J_iload_n C 2 D_HT_headOfDraft_47 rfl rfl ?_
      refine J_iconst (v := 1) C D_HT_headOfDraft_48 rfl ?_
      obtain ⟨c_49, h⟩ := h
      refine J_callVi C ml_HT_260 (S_Pr_power _ _ _ _ _ _ h) (by rw [hR]; decide) rfl c_49 rfl (Nat.le_of_ble_eq_true rfl) D_HT_headOfDraft_49 (fun r49 M49 h => ?_)
      refine J_imul C D_HT_headOfDraft_52 ?_
      refine J_iadd C D_HT_headOfDraft_53 ?_
      refine J_aload_n C 0 D_HT_headOfDraft_54 rfl rfl ?_
      obtain ⟨c_55, q55, e_55, h⟩ := h
      refine J_getR C fl_HT_10 D_HT_headOfDraft_55 c_55 e_55 ?_
      refine J_iload_n C 1 D_HT_headOfDraft_58 rfl rfl ?_
      refine J_iload_n C 2 D_HT_headOfDraft_59 rfl rfl ?_
      refine J_iconst (v := 2) C D_HT_headOfDraft_60 rfl ?_
      obtain ⟨c_61, h⟩ := h
      refine J_callVi C ml_HT_260 (S_Pr_power _ _ _ _ _ _ h) (by rw [hR]; decide) rfl c_61 rfl (Nat.le_of_ble_eq_true rfl) D_HT_headOfDraft_61 (fun r61 M61 h => ?_)
      refine J_iadd C D_HT_headOfDraft_64 ?_
      exact J_iret C Rt D_HT_headOfDraft_65 rfl h
    · have h := h.2 c_21
      exact J_sub [] rfl (Z_HT_headOfDraft_24 C hR Rt  _ h)
theorem D_HT_draft_0 : decode b_HT_draft 0 = .ok (.iload_n 1, 1) := by decide +kernel
theorem D_HT_draft_1 : decode b_HT_draft 1 = .ok (.tableswitch 68 0 3 #[31, 39, 47, 63], 31) := by decide +kernel
theorem D_HT_draft_32 : decode b_HT_draft 32 = .ok (.aload_n 0, 1) := by decide +kernel
theorem D_HT_draft_33 : decode b_HT_draft 33 = .ok (.getfield 46, 3) := by decide +kernel
theorem D_HT_draft_36 : decode b_HT_draft 36 = .ok (.invokevirtual 135, 3) := by decide +kernel
theorem D_HT_draft_39 : decode b_HT_draft 39 = .ok (.ireturn, 1) := by decide +kernel
theorem D_HT_draft_40 : decode b_HT_draft 40 = .ok (.aload_n 0, 1) := by decide +kernel
theorem D_HT_draft_41 : decode b_HT_draft 41 = .ok (.getfield 46, 3) := by decide +kernel
theorem D_HT_draft_44 : decode b_HT_draft 44 = .ok (.invokevirtual 138, 3) := by decide +kernel
theorem D_HT_draft_47 : decode b_HT_draft 47 = .ok (.ireturn, 1) := by decide +kernel
theorem D_HT_draft_48 : decode b_HT_draft 48 = .ok (.aload_n 0, 1) := by decide +kernel
theorem D_HT_draft_49 : decode b_HT_draft 49 = .ok (.getfield 46, 3) := by decide +kernel
theorem D_HT_draft_52 : decode b_HT_draft 52 = .ok (.invokevirtual 141, 3) := by decide +kernel
theorem D_HT_draft_55 : decode b_HT_draft 55 = .ok (.ifCond .eq 7, 3) := by decide +kernel
theorem D_HT_draft_58 : decode b_HT_draft 58 = .ok (.iconst 1, 1) := by decide +kernel
theorem D_HT_draft_59 : decode b_HT_draft 59 = .ok (.goto 4, 3) := by decide +kernel
theorem D_HT_draft_62 : decode b_HT_draft 62 = .ok (.iconst 0, 1) := by decide +kernel
theorem D_HT_draft_63 : decode b_HT_draft 63 = .ok (.ireturn, 1) := by decide +kernel
theorem D_HT_draft_64 : decode b_HT_draft 64 = .ok (.aload_n 0, 1) := by decide +kernel
theorem D_HT_draft_65 : decode b_HT_draft 65 = .ok (.invokevirtual 145, 3) := by decide +kernel
theorem D_HT_draft_68 : decode b_HT_draft 68 = .ok (.ireturn, 1) := by decide +kernel
theorem D_HT_draft_69 : decode b_HT_draft 69 = .ok (.ldc 85, 2) := by decide +kernel
theorem D_HT_draft_71 : decode b_HT_draft 71 = .ok (.ireturn, 1) := by decide +kernel
abbrev rm_HT_draft : Room := { frames := 4, cells := 0, slots := 0, locals := 88 }
def B_HT_draft_63 (post : Int32 → Mem → Prop) (s0 : Int32) (M : Mem) : Prop := (post s0 M)
set_option maxRecDepth 20000 in
theorem Z_HT_draft_63 {x : Ctx} {post : Int32 → Mem → Prop} (C : Ok x b_HT_draft 2 "HeapTower") (hR : xR x = rm_HT_draft) (Rt : RetI x .int post 0 0) (s0 : Int32) (M : Mem) (h : B_HT_draft_63 post s0 M) : J x 2 63 [] [.int s0] 0 0 M := by
  unfold B_HT_draft_63 at h
  exact J_iret C Rt D_HT_draft_63 rfl h
def T_HT_draft (a0 : Nat) (x1 : Int32) (M : Mem) (post : Int32 → Mem → Prop) : Prop := (((Int32.toInt x1 < 0 ∨ 3 < Int32.toInt x1) → (post ((-1000000)) M)) ∧ (Int32.toInt x1 = 0 → (isK M a0 6 ∧ ∃ q33, gR M a0 5 = some q33 ∧ isK M q33 3 ∧ T_Po_size q33 M (fun r36 M36 => post r36 M36))) ∧ (Int32.toInt x1 = 1 → (isK M a0 6 ∧ ∃ q41, gR M a0 5 = some q41 ∧ isK M q41 3 ∧ T_Po_degree q41 M (fun r44 M44 => post r44 M44))) ∧ (Int32.toInt x1 = 2 → (isK M a0 6 ∧ ∃ q49, gR M a0 5 = some q49 ∧ isK M q49 3 ∧ T_Po_isEven q49 M (fun r52 M52 => (r52 = 0 → (B_HT_draft_63 post 0 M52)) ∧ (¬ r52 = 0 → (B_HT_draft_63 post 1 M52))))) ∧ (Int32.toInt x1 = 3 → (isK M a0 6 ∧ T_HT_headOfDraft a0 M (fun r65 M65 => post r65 M65))))
set_option maxRecDepth 20000 in
theorem S_HT_draft {l : Launch} {D : va_G} {B t g : Nat} {d : Nat → Nat} {ac : Nat → ClassId}  (a0 : Nat) (x1 : Int32) (M : Mem) (post : Int32 → Mem → Prop) (h : T_HT_draft a0 x1 M post) : Met l y_HT_draft w_HT_draft rm_HT_draft (va_Pc [.ref (d a0), .int x1] (PRE D B d g t ac M)) (QI D B d g ac post) 0 0 (AB B) := by
  refine met_i (by decide +kernel) (Nat.le_of_ble_eq_true rfl) (fun x h1 hR h3 h4 h5 h6 h7 h8 C Rt => ?_)
  subst h3 h4 h5 h6 h7 h8
  unfold T_HT_draft at h
  show J x 2 0 [(0, .ref (xd x a0)), (1, .int x1)] [] 0 0 M
  refine J_iload_n C 1 D_HT_draft_0 rfl rfl ?_
  by_cases q_1 : Int32.toInt x1 < 0 ∨ 3 < Int32.toInt x1
  · have h := h.1 q_1
    refine J_tableOut (tgt := 69) C D_HT_draft_1 q_1 (by decide) ?_
    refine J_ldc (v := (-1000000)) C D_HT_draft_69 kw_HT_85 ?_
    exact J_iret C Rt D_HT_draft_71 rfl h
  · have h := h.2
    have r_1 : Int32.toInt x1 = 0 ∨ Int32.toInt x1 = 1 ∨ Int32.toInt x1 = 2 ∨ Int32.toInt x1 = 3 := by omega
    rcases r_1 with r_1 | r_1 | r_1 | r_1
    · have h := (h.1) r_1
      refine J_tableIn (tgt := 32) C D_HT_draft_1 (by rw [r_1]; decide) (by rw [r_1]; decide) (by rw [r_1]; rfl) (by decide) ?_
      refine J_aload_n C 0 D_HT_draft_32 rfl rfl ?_
      obtain ⟨c_33, q33, e_33, h⟩ := h
      refine J_getR C fl_HT_46 D_HT_draft_33 c_33 e_33 ?_
      obtain ⟨c_36, h⟩ := h
      refine J_callVi C ml_HT_135 (S_Po_size _ _ _ h) (by rw [hR]; decide) rfl c_36 rfl (Nat.le_of_ble_eq_true rfl) D_HT_draft_36 (fun r36 M36 h => ?_)
      exact J_iret C Rt D_HT_draft_39 rfl h
    · have h := (h.2.1) r_1
      refine J_tableIn (tgt := 40) C D_HT_draft_1 (by rw [r_1]; decide) (by rw [r_1]; decide) (by rw [r_1]; rfl) (by decide) ?_
      refine J_aload_n C 0 D_HT_draft_40 rfl rfl ?_
      obtain ⟨c_41, q41, e_41, h⟩ := h
      refine J_getR C fl_HT_46 D_HT_draft_41 c_41 e_41 ?_
      obtain ⟨c_44, h⟩ := h
      refine J_callVi C ml_HT_138 (S_Po_degree _ _ _ h) (by rw [hR]; decide) rfl c_44 rfl (Nat.le_of_ble_eq_true rfl) D_HT_draft_44 (fun r44 M44 h => ?_)
      exact J_iret C Rt D_HT_draft_47 rfl h
    · have h := (h.2.2.1) r_1
      refine J_tableIn (tgt := 48) C D_HT_draft_1 (by rw [r_1]; decide) (by rw [r_1]; decide) (by rw [r_1]; rfl) (by decide) ?_
      refine J_aload_n C 0 D_HT_draft_48 rfl rfl ?_
      obtain ⟨c_49, q49, e_49, h⟩ := h
      refine J_getR C fl_HT_46 D_HT_draft_49 c_49 e_49 ?_
      obtain ⟨c_52, h⟩ := h
      refine J_callVi C ml_HT_141 (S_Po_isEven _ _ _ h) (by rw [hR]; decide) rfl c_52 rfl (Nat.le_of_ble_eq_true rfl) D_HT_draft_52 (fun r52 M52 h => ?_)
      refine J_if_eq (tgt := 62) C D_HT_draft_55 (by decide) (fun c_55 => ?_) (fun c_55 => ?_)
      · have h := h.1 c_55
        refine J_iconst (v := 0) C D_HT_draft_62 rfl ?_
        exact J_sub [] rfl (Z_HT_draft_63 C hR Rt  _ _ h)
      · have h := h.2 c_55
        refine J_iconst (v := 1) C D_HT_draft_58 rfl ?_
        refine J_goto (tgt := 63) C D_HT_draft_59 (by decide) ?_
        exact J_sub [] rfl (Z_HT_draft_63 C hR Rt  _ _ h)
    · have h := (h.2.2.2) r_1
      refine J_tableIn (tgt := 64) C D_HT_draft_1 (by rw [r_1]; decide) (by rw [r_1]; decide) (by rw [r_1]; rfl) (by decide) ?_
      refine J_aload_n C 0 D_HT_draft_64 rfl rfl ?_
      obtain ⟨c_65, h⟩ := h
      refine J_callVi C ml_HT_145 (S_HT_headOfDraft _ _ _ h) (by rw [hR]; decide) rfl c_65 rfl (Nat.le_of_ble_eq_true rfl) D_HT_draft_65 (fun r65 M65 h => ?_)
      exact J_iret C Rt D_HT_draft_68 rfl h
theorem D_HT_times_0 : decode b_HT_times 0 = .ok (.aload_n 0, 1) := by decide +kernel
theorem D_HT_times_1 : decode b_HT_times 1 = .ok (.iload_n 1, 1) := by decide +kernel
theorem D_HT_times_2 : decode b_HT_times 2 = .ok (.iload_n 2, 1) := by decide +kernel
theorem D_HT_times_3 : decode b_HT_times 3 = .ok (.iload_n 3, 1) := by decide +kernel
theorem D_HT_times_4 : decode b_HT_times 4 = .ok (.invokevirtual 113, 3) := by decide +kernel
theorem D_HT_times_7 : decode b_HT_times 7 = .ok (.ifCond .eq 21, 3) := by decide +kernel
theorem D_HT_times_10 : decode b_HT_times 10 = .ok (.aload_n 0, 1) := by decide +kernel
theorem D_HT_times_11 : decode b_HT_times 11 = .ok (.getfield 46, 3) := by decide +kernel
theorem D_HT_times_14 : decode b_HT_times 14 = .ok (.invokevirtual 138, 3) := by decide +kernel
theorem D_HT_times_17 : decode b_HT_times 17 = .ok (.iload_n 1, 1) := by decide +kernel
theorem D_HT_times_18 : decode b_HT_times 18 = .ok (.iadd, 1) := by decide +kernel
theorem D_HT_times_19 : decode b_HT_times 19 = .ok (.iload_n 2, 1) := by decide +kernel
theorem D_HT_times_20 : decode b_HT_times 20 = .ok (.iadd, 1) := by decide +kernel
theorem D_HT_times_21 : decode b_HT_times 21 = .ok (.iload_n 3, 1) := by decide +kernel
theorem D_HT_times_22 : decode b_HT_times 22 = .ok (.iadd, 1) := by decide +kernel
theorem D_HT_times_23 : decode b_HT_times 23 = .ok (.bipush 10, 2) := by decide +kernel
theorem D_HT_times_25 : decode b_HT_times 25 = .ok (.if_icmp .le 6, 3) := by decide +kernel
theorem D_HT_times_28 : decode b_HT_times 28 = .ok (.ldc 85, 2) := by decide +kernel
theorem D_HT_times_30 : decode b_HT_times 30 = .ok (.ireturn, 1) := by decide +kernel
theorem D_HT_times_31 : decode b_HT_times 31 = .ok (.aload_n 0, 1) := by decide +kernel
theorem D_HT_times_32 : decode b_HT_times 32 = .ok (.getfield 46, 3) := by decide +kernel
theorem D_HT_times_35 : decode b_HT_times 35 = .ok (.iload_n 1, 1) := by decide +kernel
theorem D_HT_times_36 : decode b_HT_times 36 = .ok (.iload_n 2, 1) := by decide +kernel
theorem D_HT_times_37 : decode b_HT_times 37 = .ok (.iadd, 1) := by decide +kernel
theorem D_HT_times_38 : decode b_HT_times 38 = .ok (.iload_n 3, 1) := by decide +kernel
theorem D_HT_times_39 : decode b_HT_times 39 = .ok (.iadd, 1) := by decide +kernel
theorem D_HT_times_40 : decode b_HT_times 40 = .ok (.iload_n 2, 1) := by decide +kernel
theorem D_HT_times_41 : decode b_HT_times 41 = .ok (.iload_n 3, 1) := by decide +kernel
theorem D_HT_times_42 : decode b_HT_times 42 = .ok (.invokestatic 117, 3) := by decide +kernel
theorem D_HT_times_45 : decode b_HT_times 45 = .ok (.invokevirtual 148, 3) := by decide +kernel
theorem D_HT_times_48 : decode b_HT_times 48 = .ok (.aload_n 0, 1) := by decide +kernel
theorem D_HT_times_49 : decode b_HT_times 49 = .ok (.invokevirtual 132, 3) := by decide +kernel
theorem D_HT_times_52 : decode b_HT_times 52 = .ok (.aload_n 0, 1) := by decide +kernel
theorem D_HT_times_53 : decode b_HT_times 53 = .ok (.getfield 46, 3) := by decide +kernel
theorem D_HT_times_56 : decode b_HT_times 56 = .ok (.invokevirtual 135, 3) := by decide +kernel
theorem D_HT_times_59 : decode b_HT_times 59 = .ok (.ireturn, 1) := by decide +kernel
abbrev rm_HT_times : Room := { frames := 4, cells := 0, slots := 0, locals := 91 }
def B_HT_times_28 (post : Int32 → Mem → Prop) (M : Mem) : Prop := (post ((-1000000)) M)
set_option maxRecDepth 20000 in
theorem Z_HT_times_28 {x : Ctx} {post : Int32 → Mem → Prop} (C : Ok x b_HT_times 4 "HeapTower") (hR : xR x = rm_HT_times) (Rt : RetI x .int post 0 0) (M : Mem) (h : B_HT_times_28 post M) : J x 4 28 [] [] 0 0 M := by
  unfold B_HT_times_28 at h
  refine J_ldc (v := (-1000000)) C D_HT_times_28 kw_HT_85 ?_
  exact J_iret C Rt D_HT_times_30 rfl h
def T_HT_times (a0 : Nat) (x1 : Int32) (x2 : Int32) (x3 : Int32) (M : Mem) (post : Int32 → Mem → Prop) : Prop := (isK M a0 6 ∧ T_HT_isProduct a0 x1 x2 x3 M (fun r4 M4 => (r4 = 0 → (B_HT_times_28 post M4)) ∧ (¬ r4 = 0 → (isK M4 a0 6 ∧ ∃ q11, gR M4 a0 5 = some q11 ∧ isK M4 q11 3 ∧ T_Po_degree q11 M4 (fun r14 M14 => ((((r14 + x1) + x2) + x3) ≤ 10 → (isK M14 a0 6 ∧ ∃ q32, gR M14 a0 5 = some q32 ∧ T_Pr_place x2 x3 M14 (fun r42 M42 => isK M42 q32 3 ∧ T_Po_moveUp q32 ((x1 + x2) + x3) r42 M42 (fun M45 => isK M45 a0 6 ∧ T_HT_draftChanged a0 M45 (fun M49 => isK M49 a0 6 ∧ ∃ q53, gR M49 a0 5 = some q53 ∧ isK M49 q53 3 ∧ T_Po_size q53 M49 (fun r56 M56 => post r56 M56)))))) ∧ (¬ (((r14 + x1) + x2) + x3) ≤ 10 → (B_HT_times_28 post M14)))))))
set_option maxRecDepth 20000 in
theorem S_HT_times {l : Launch} {D : va_G} {B t g : Nat} {d : Nat → Nat} {ac : Nat → ClassId}  (a0 : Nat) (x1 : Int32) (x2 : Int32) (x3 : Int32) (M : Mem) (post : Int32 → Mem → Prop) (h : T_HT_times a0 x1 x2 x3 M post) : Met l y_HT_times w_HT_times rm_HT_times (va_Pc [.ref (d a0), .int x1, .int x2, .int x3] (PRE D B d g t ac M)) (QI D B d g ac post) 0 0 (AB B) := by
  refine met_i (by decide +kernel) (Nat.le_of_ble_eq_true rfl) (fun x h1 hR h3 h4 h5 h6 h7 h8 C Rt => ?_)
  subst h3 h4 h5 h6 h7 h8
  unfold T_HT_times at h
  show J x 4 0 [(0, .ref (xd x a0)), (1, .int x1), (2, .int x2), (3, .int x3)] [] 0 0 M
  refine J_aload_n C 0 D_HT_times_0 rfl rfl ?_
  refine J_iload_n C 1 D_HT_times_1 rfl rfl ?_
  refine J_iload_n C 2 D_HT_times_2 rfl rfl ?_
  refine J_iload_n C 3 D_HT_times_3 rfl rfl ?_
  obtain ⟨c_4, h⟩ := h
  refine J_callVi C ml_HT_113 (S_HT_isProduct _ _ _ _ _ _ h) (by rw [hR]; decide) rfl c_4 rfl (Nat.le_of_ble_eq_true rfl) D_HT_times_4 (fun r4 M4 h => ?_)
  refine J_if_eq (tgt := 28) C D_HT_times_7 (by decide) (fun c_7 => ?_) (fun c_7 => ?_)
  · have h := h.1 c_7
    exact J_sub [] rfl (Z_HT_times_28 C hR Rt  _ h)
  · have h := h.2 c_7
    refine J_aload_n C 0 D_HT_times_10 rfl rfl ?_
    obtain ⟨c_11, q11, e_11, h⟩ := h
    refine J_getR C fl_HT_46 D_HT_times_11 c_11 e_11 ?_
    obtain ⟨c_14, h⟩ := h
    refine J_callVi C ml_HT_138 (S_Po_degree _ _ _ h) (by rw [hR]; decide) rfl c_14 rfl (Nat.le_of_ble_eq_true rfl) D_HT_times_14 (fun r14 M14 h => ?_)
    refine J_iload_n C 1 D_HT_times_17 rfl rfl ?_
    refine J_iadd C D_HT_times_18 ?_
    refine J_iload_n C 2 D_HT_times_19 rfl rfl ?_
    refine J_iadd C D_HT_times_20 ?_
    refine J_iload_n C 3 D_HT_times_21 rfl rfl ?_
    refine J_iadd C D_HT_times_22 ?_
    refine J_bipush (v := 10) C D_HT_times_23 rfl ?_
    refine J_icmp_le (tgt := 31) C D_HT_times_25 (by decide) (fun c_25 => ?_) (fun c_25 => ?_)
    · have h := h.1 c_25
      refine J_aload_n C 0 D_HT_times_31 rfl rfl ?_
      obtain ⟨c_32, q32, e_32, h⟩ := h
      refine J_getR C fl_HT_46 D_HT_times_32 c_32 e_32 ?_
      refine J_iload_n C 1 D_HT_times_35 rfl rfl ?_
      refine J_iload_n C 2 D_HT_times_36 rfl rfl ?_
      refine J_iadd C D_HT_times_37 ?_
      refine J_iload_n C 3 D_HT_times_38 rfl rfl ?_
      refine J_iadd C D_HT_times_39 ?_
      refine J_iload_n C 2 D_HT_times_40 rfl rfl ?_
      refine J_iload_n C 3 D_HT_times_41 rfl rfl ?_
      refine J_callSi C ml_HT_117 (S_Pr_place _ _ _ _ h) (by rw [hR]; decide) rfl rfl (Nat.le_of_ble_eq_true rfl) D_HT_times_42 (fun r42 M42 h => ?_)
      obtain ⟨c_45, h⟩ := h
      refine J_callVv C ml_HT_148 (S_Po_moveUp _ _ _ _ _ h) (by rw [hR]; decide) rfl c_45 rfl (Nat.le_of_ble_eq_true rfl) D_HT_times_45 (fun M45 h => ?_)
      refine J_aload_n C 0 D_HT_times_48 rfl rfl ?_
      obtain ⟨c_49, h⟩ := h
      refine J_callVv C ml_HT_132 (S_HT_draftChanged _ _ _ h) (by rw [hR]; decide) rfl c_49 rfl (Nat.le_of_ble_eq_true rfl) D_HT_times_49 (fun M49 h => ?_)
      refine J_aload_n C 0 D_HT_times_52 rfl rfl ?_
      obtain ⟨c_53, q53, e_53, h⟩ := h
      refine J_getR C fl_HT_46 D_HT_times_53 c_53 e_53 ?_
      obtain ⟨c_56, h⟩ := h
      refine J_callVi C ml_HT_135 (S_Po_size _ _ _ h) (by rw [hR]; decide) rfl c_56 rfl (Nat.le_of_ble_eq_true rfl) D_HT_times_56 (fun r56 M56 h => ?_)
      exact J_iret C Rt D_HT_times_59 rfl h
    · have h := h.2 c_25
      exact J_sub [] rfl (Z_HT_times_28 C hR Rt  _ h)
theorem D_HT_heapChanged_0 : decode b_HT_heapChanged 0 = .ok (.aload_n 0, 1) := by decide +kernel
theorem D_HT_heapChanged_1 : decode b_HT_heapChanged 1 = .ok (.getfield 59, 3) := by decide +kernel
theorem D_HT_heapChanged_4 : decode b_HT_heapChanged 4 = .ok (.iload_n 1, 1) := by decide +kernel
theorem D_HT_heapChanged_5 : decode b_HT_heapChanged 5 = .ok (.invokevirtual 224, 3) := by decide +kernel
theorem D_HT_heapChanged_8 : decode b_HT_heapChanged 8 = .ok (.aload_n 0, 1) := by decide +kernel
theorem D_HT_heapChanged_9 : decode b_HT_heapChanged 9 = .ok (.getfield 63, 3) := by decide +kernel
theorem D_HT_heapChanged_12 : decode b_HT_heapChanged 12 = .ok (.iload_n 1, 1) := by decide +kernel
theorem D_HT_heapChanged_13 : decode b_HT_heapChanged 13 = .ok (.invokevirtual 224, 3) := by decide +kernel
theorem D_HT_heapChanged_16 : decode b_HT_heapChanged 16 = .ok (.aload_n 0, 1) := by decide +kernel
theorem D_HT_heapChanged_17 : decode b_HT_heapChanged 17 = .ok (.getfield 66, 3) := by decide +kernel
theorem D_HT_heapChanged_20 : decode b_HT_heapChanged 20 = .ok (.iconst 0, 1) := by decide +kernel
theorem D_HT_heapChanged_21 : decode b_HT_heapChanged 21 = .ok (.invokevirtual 224, 3) := by decide +kernel
theorem D_HT_heapChanged_24 : decode b_HT_heapChanged 24 = .ok (.return_, 1) := by decide +kernel
abbrev rm_HT_heapChanged : Room := { frames := 2, cells := 0, slots := 0, locals := 42 }
def T_HT_heapChanged (a0 : Nat) (x1 : Int32) (M : Mem) (post : Mem → Prop) : Prop := (isK M a0 6 ∧ ∃ q1, gR M a0 7 = some q1 ∧ isK M q1 0 ∧ T_Ba_forget q1 x1 M (fun M5 => isK M5 a0 6 ∧ ∃ q9, gR M5 a0 8 = some q9 ∧ isK M5 q9 0 ∧ T_Ba_forget q9 x1 M5 (fun M13 => isK M13 a0 6 ∧ ∃ q17, gR M13 a0 9 = some q17 ∧ isK M13 q17 0 ∧ T_Ba_forget q17 0 M13 (fun M21 => post M21))))
set_option maxRecDepth 20000 in
theorem S_HT_heapChanged {l : Launch} {D : va_G} {B t g : Nat} {d : Nat → Nat} {ac : Nat → ClassId}  (a0 : Nat) (x1 : Int32) (M : Mem) (post : Mem → Prop) (h : T_HT_heapChanged a0 x1 M post) : Met l y_HT_heapChanged w_HT_heapChanged rm_HT_heapChanged (va_Pc [.ref (d a0), .int x1] (PRE D B d g t ac M)) (QV D B d g ac post) 0 0 (AB B) := by
  refine met_v (by decide +kernel) (Nat.le_of_ble_eq_true rfl) (fun x h1 hR h3 h4 h5 h6 h7 h8 C Rt Nm => ?_)
  subst h3 h4 h5 h6 h7 h8
  unfold T_HT_heapChanged at h
  show J x 2 0 [(0, .ref (xd x a0)), (1, .int x1)] [] 0 0 M
  refine J_aload_n C 0 D_HT_heapChanged_0 rfl rfl ?_
  obtain ⟨c_1, q1, e_1, h⟩ := h
  refine J_getR C fl_HT_59 D_HT_heapChanged_1 c_1 e_1 ?_
  refine J_iload_n C 1 D_HT_heapChanged_4 rfl rfl ?_
  obtain ⟨c_5, h⟩ := h
  refine J_callVv C ml_HT_224 (S_Ba_forget _ _ _ _ h) (by rw [hR]; decide) rfl c_5 rfl (Nat.le_of_ble_eq_true rfl) D_HT_heapChanged_5 (fun M5 h => ?_)
  refine J_aload_n C 0 D_HT_heapChanged_8 rfl rfl ?_
  obtain ⟨c_9, q9, e_9, h⟩ := h
  refine J_getR C fl_HT_63 D_HT_heapChanged_9 c_9 e_9 ?_
  refine J_iload_n C 1 D_HT_heapChanged_12 rfl rfl ?_
  obtain ⟨c_13, h⟩ := h
  refine J_callVv C ml_HT_224 (S_Ba_forget _ _ _ _ h) (by rw [hR]; decide) rfl c_13 rfl (Nat.le_of_ble_eq_true rfl) D_HT_heapChanged_13 (fun M13 h => ?_)
  refine J_aload_n C 0 D_HT_heapChanged_16 rfl rfl ?_
  obtain ⟨c_17, q17, e_17, h⟩ := h
  refine J_getR C fl_HT_66 D_HT_heapChanged_17 c_17 e_17 ?_
  refine J_iconst (v := 0) C D_HT_heapChanged_20 rfl ?_
  obtain ⟨c_21, h⟩ := h
  refine J_callVv C ml_HT_224 (S_Ba_forget _ _ _ _ h) (by rw [hR]; decide) rfl c_21 rfl (Nat.le_of_ble_eq_true rfl) D_HT_heapChanged_21 (fun M21 h => ?_)
  exact J_vret C Rt D_HT_heapChanged_24 h
theorem D_HT_row_0 : decode b_HT_row 0 = .ok (.aload_n 0, 1) := by decide +kernel
theorem D_HT_row_1 : decode b_HT_row 1 = .ok (.getfield 46, 3) := by decide +kernel
theorem D_HT_row_4 : decode b_HT_row 4 = .ok (.invokevirtual 138, 3) := by decide +kernel
theorem D_HT_row_7 : decode b_HT_row 7 = .ok (.istore_n 1, 1) := by decide +kernel
theorem D_HT_row_8 : decode b_HT_row 8 = .ok (.aload_n 0, 1) := by decide +kernel
theorem D_HT_row_9 : decode b_HT_row 9 = .ok (.getfield 46, 3) := by decide +kernel
theorem D_HT_row_12 : decode b_HT_row 12 = .ok (.invokevirtual 141, 3) := by decide +kernel
theorem D_HT_row_15 : decode b_HT_row 15 = .ok (.ifCond .eq 23, 3) := by decide +kernel
theorem D_HT_row_18 : decode b_HT_row 18 = .ok (.iload_n 1, 1) := by decide +kernel
theorem D_HT_row_19 : decode b_HT_row 19 = .ok (.iconst 1, 1) := by decide +kernel
theorem D_HT_row_20 : decode b_HT_row 20 = .ok (.if_icmp .lt 18, 3) := by decide +kernel
theorem D_HT_row_23 : decode b_HT_row 23 = .ok (.iload_n 1, 1) := by decide +kernel
theorem D_HT_row_24 : decode b_HT_row 24 = .ok (.iconst 5, 1) := by decide +kernel
theorem D_HT_row_25 : decode b_HT_row 25 = .ok (.if_icmp .gt 13, 3) := by decide +kernel
theorem D_HT_row_28 : decode b_HT_row 28 = .ok (.aload_n 0, 1) := by decide +kernel
theorem D_HT_row_29 : decode b_HT_row 29 = .ok (.getfield 74, 3) := by decide +kernel
theorem D_HT_row_32 : decode b_HT_row 32 = .ok (.invokevirtual 151, 3) := by decide +kernel
theorem D_HT_row_35 : decode b_HT_row 35 = .ok (.ifCond .eq 6, 3) := by decide +kernel
theorem D_HT_row_38 : decode b_HT_row 38 = .ok (.ldc 85, 2) := by decide +kernel
theorem D_HT_row_40 : decode b_HT_row 40 = .ok (.ireturn, 1) := by decide +kernel
theorem D_HT_row_41 : decode b_HT_row 41 = .ok (.aload_n 0, 1) := by decide +kernel
theorem D_HT_row_42 : decode b_HT_row 42 = .ok (.getfield 74, 3) := by decide +kernel
theorem D_HT_row_45 : decode b_HT_row 45 = .ok (.invokevirtual 154, 3) := by decide +kernel
theorem D_HT_row_48 : decode b_HT_row 48 = .ok (.istore_n 2, 1) := by decide +kernel
theorem D_HT_row_49 : decode b_HT_row 49 = .ok (.aload_n 0, 1) := by decide +kernel
theorem D_HT_row_50 : decode b_HT_row 50 = .ok (.getfield 74, 3) := by decide +kernel
theorem D_HT_row_53 : decode b_HT_row 53 = .ok (.aload_n 0, 1) := by decide +kernel
theorem D_HT_row_54 : decode b_HT_row 54 = .ok (.getfield 46, 3) := by decide +kernel
theorem D_HT_row_57 : decode b_HT_row 57 = .ok (.iload_n 1, 1) := by decide +kernel
theorem D_HT_row_58 : decode b_HT_row 58 = .ok (.invokevirtual 155, 3) := by decide +kernel
theorem D_HT_row_61 : decode b_HT_row 61 = .ok (.aload_n 0, 1) := by decide +kernel
theorem D_HT_row_62 : decode b_HT_row 62 = .ok (.getfield 46, 3) := by decide +kernel
theorem D_HT_row_65 : decode b_HT_row 65 = .ok (.invokevirtual 104, 3) := by decide +kernel
theorem D_HT_row_68 : decode b_HT_row 68 = .ok (.aload_n 0, 1) := by decide +kernel
theorem D_HT_row_69 : decode b_HT_row 69 = .ok (.iload_n 1, 1) := by decide +kernel
theorem D_HT_row_70 : decode b_HT_row 70 = .ok (.invokevirtual 159, 3) := by decide +kernel
theorem D_HT_row_73 : decode b_HT_row 73 = .ok (.iload_n 2, 1) := by decide +kernel
theorem D_HT_row_74 : decode b_HT_row 74 = .ok (.ireturn, 1) := by decide +kernel
abbrev rm_HT_row : Room := { frames := 3, cells := 0, slots := 0, locals := 85 }
def B_HT_row_38 (post : Int32 → Mem → Prop) (M : Mem) : Prop := (post ((-1000000)) M)
set_option maxRecDepth 20000 in
theorem Z_HT_row_38 {x : Ctx} {post : Int32 → Mem → Prop} (C : Ok x b_HT_row 3 "HeapTower") (hR : xR x = rm_HT_row) (Rt : RetI x .int post 0 0) (M : Mem) (h : B_HT_row_38 post M) : J x 3 38 [] [] 0 0 M := by
  unfold B_HT_row_38 at h
  refine J_ldc (v := (-1000000)) C D_HT_row_38 kw_HT_85 ?_
  exact J_iret C Rt D_HT_row_40 rfl h
def T_HT_row (a0 : Nat) (M : Mem) (post : Int32 → Mem → Prop) : Prop := (isK M a0 6 ∧ ∃ q1, gR M a0 5 = some q1 ∧ isK M q1 3 ∧ T_Po_degree q1 M (fun r4 M4 => isK M4 a0 6 ∧ ∃ q9, gR M4 a0 5 = some q9 ∧ isK M4 q9 3 ∧ T_Po_isEven q9 M4 (fun r12 M12 => (r12 = 0 → (B_HT_row_38 post M12)) ∧ (¬ r12 = 0 → ((r4 < 1 → (B_HT_row_38 post M12)) ∧ (¬ r4 < 1 → ((5 < r4 → (B_HT_row_38 post M12)) ∧ (¬ 5 < r4 → (isK M12 a0 6 ∧ ∃ q29, gR M12 a0 10 = some q29 ∧ isK M12 q29 1 ∧ T_He_isFull q29 M12 (fun r32 M32 => (r32 = 0 → (isK M32 a0 6 ∧ ∃ q42, gR M32 a0 10 = some q42 ∧ isK M32 q42 1 ∧ T_He_size q42 M32 (fun r45 M45 => isK M45 a0 6 ∧ ∃ q50, gR M45 a0 10 = some q50 ∧ isK M45 a0 6 ∧ ∃ q54, gR M45 a0 5 = some q54 ∧ isK M45 q50 1 ∧ T_He_append q50 q54 r4 M45 (fun M58 => isK M58 a0 6 ∧ ∃ q62, gR M58 a0 5 = some q62 ∧ isK M58 q62 3 ∧ T_Po_clear q62 M58 (fun M65 => isK M65 a0 6 ∧ T_HT_heapChanged a0 r4 M65 (fun M70 => post r45 M70)))))) ∧ (¬ r32 = 0 → (B_HT_row_38 post M32))))))))))))
set_option maxRecDepth 20000 in
theorem S_HT_row {l : Launch} {D : va_G} {B t g : Nat} {d : Nat → Nat} {ac : Nat → ClassId}  (a0 : Nat) (M : Mem) (post : Int32 → Mem → Prop) (h : T_HT_row a0 M post) : Met l y_HT_row w_HT_row rm_HT_row (va_Pc [.ref (d a0)] (PRE D B d g t ac M)) (QI D B d g ac post) 0 0 (AB B) := by
  refine met_i (by decide +kernel) (Nat.le_of_ble_eq_true rfl) (fun x h1 hR h3 h4 h5 h6 h7 h8 C Rt => ?_)
  subst h3 h4 h5 h6 h7 h8
  unfold T_HT_row at h
  show J x 3 0 [(0, .ref (xd x a0))] [] 0 0 M
  refine J_aload_n C 0 D_HT_row_0 rfl rfl ?_
  obtain ⟨c_1, q1, e_1, h⟩ := h
  refine J_getR C fl_HT_46 D_HT_row_1 c_1 e_1 ?_
  obtain ⟨c_4, h⟩ := h
  refine J_callVi C ml_HT_138 (S_Po_degree _ _ _ h) (by rw [hR]; decide) rfl c_4 rfl (Nat.le_of_ble_eq_true rfl) D_HT_row_4 (fun r4 M4 h => ?_)
  refine J_istore_n (lv' := [(1, .int r4), (0, .ref (xd x a0))]) C 1 D_HT_row_7 rfl (by decide) rfl ?_
  refine J_aload_n C 0 D_HT_row_8 rfl rfl ?_
  obtain ⟨c_9, q9, e_9, h⟩ := h
  refine J_getR C fl_HT_46 D_HT_row_9 c_9 e_9 ?_
  obtain ⟨c_12, h⟩ := h
  refine J_callVi C ml_HT_141 (S_Po_isEven _ _ _ h) (by rw [hR]; decide) rfl c_12 rfl (Nat.le_of_ble_eq_true rfl) D_HT_row_12 (fun r12 M12 h => ?_)
  refine J_if_eq (tgt := 38) C D_HT_row_15 (by decide) (fun c_15 => ?_) (fun c_15 => ?_)
  · have h := h.1 c_15
    exact J_sub [] rfl (Z_HT_row_38 C hR Rt  _ h)
  · have h := h.2 c_15
    refine J_iload_n C 1 D_HT_row_18 rfl rfl ?_
    refine J_iconst (v := 1) C D_HT_row_19 rfl ?_
    refine J_icmp_lt (tgt := 38) C D_HT_row_20 (by decide) (fun c_20 => ?_) (fun c_20 => ?_)
    · have h := h.1 c_20
      exact J_sub [] rfl (Z_HT_row_38 C hR Rt  _ h)
    · have h := h.2 c_20
      refine J_iload_n C 1 D_HT_row_23 rfl rfl ?_
      refine J_iconst (v := 5) C D_HT_row_24 rfl ?_
      refine J_icmp_gt (tgt := 38) C D_HT_row_25 (by decide) (fun c_25 => ?_) (fun c_25 => ?_)
      · have h := h.1 c_25
        exact J_sub [] rfl (Z_HT_row_38 C hR Rt  _ h)
      · have h := h.2 c_25
        refine J_aload_n C 0 D_HT_row_28 rfl rfl ?_
        obtain ⟨c_29, q29, e_29, h⟩ := h
        refine J_getR C fl_HT_74 D_HT_row_29 c_29 e_29 ?_
        obtain ⟨c_32, h⟩ := h
        refine J_callVi C ml_HT_151 (S_He_isFull _ _ _ h) (by rw [hR]; decide) rfl c_32 rfl (Nat.le_of_ble_eq_true rfl) D_HT_row_32 (fun r32 M32 h => ?_)
        refine J_if_eq (tgt := 41) C D_HT_row_35 (by decide) (fun c_35 => ?_) (fun c_35 => ?_)
        · have h := h.1 c_35
          refine J_aload_n C 0 D_HT_row_41 rfl rfl ?_
          obtain ⟨c_42, q42, e_42, h⟩ := h
          refine J_getR C fl_HT_74 D_HT_row_42 c_42 e_42 ?_
          obtain ⟨c_45, h⟩ := h
          refine J_callVi C ml_HT_154 (S_He_size _ _ _ h) (by rw [hR]; decide) rfl c_45 rfl (Nat.le_of_ble_eq_true rfl) D_HT_row_45 (fun r45 M45 h => ?_)
          refine J_istore_n (lv' := [(2, .int r45), (1, .int r4), (0, .ref (xd x a0))]) C 2 D_HT_row_48 rfl (by decide) rfl ?_
          refine J_aload_n C 0 D_HT_row_49 rfl rfl ?_
          obtain ⟨c_50, q50, e_50, h⟩ := h
          refine J_getR C fl_HT_74 D_HT_row_50 c_50 e_50 ?_
          refine J_aload_n C 0 D_HT_row_53 rfl rfl ?_
          obtain ⟨c_54, q54, e_54, h⟩ := h
          refine J_getR C fl_HT_46 D_HT_row_54 c_54 e_54 ?_
          refine J_iload_n C 1 D_HT_row_57 rfl rfl ?_
          obtain ⟨c_58, h⟩ := h
          refine J_callVv C ml_HT_155 (S_He_append _ _ _ _ _ h) (by rw [hR]; decide) rfl c_58 rfl (Nat.le_of_ble_eq_true rfl) D_HT_row_58 (fun M58 h => ?_)
          refine J_aload_n C 0 D_HT_row_61 rfl rfl ?_
          obtain ⟨c_62, q62, e_62, h⟩ := h
          refine J_getR C fl_HT_46 D_HT_row_62 c_62 e_62 ?_
          obtain ⟨c_65, h⟩ := h
          refine J_callVv C ml_HT_104 (S_Po_clear _ _ _ h) (by rw [hR]; decide) rfl c_65 rfl (Nat.le_of_ble_eq_true rfl) D_HT_row_65 (fun M65 h => ?_)
          refine J_aload_n C 0 D_HT_row_68 rfl rfl ?_
          refine J_iload_n C 1 D_HT_row_69 rfl rfl ?_
          obtain ⟨c_70, h⟩ := h
          refine J_callVv C ml_HT_159 (S_HT_heapChanged _ _ _ _ h) (by rw [hR]; decide) rfl c_70 rfl (Nat.le_of_ble_eq_true rfl) D_HT_row_70 (fun M70 h => ?_)
          refine J_iload_n C 2 D_HT_row_73 rfl rfl ?_
          exact J_iret C Rt D_HT_row_74 rfl h
        · have h := h.2 c_35
          exact J_sub [] rfl (Z_HT_row_38 C hR Rt  _ h)
theorem D_HT_drop_0 : decode b_HT_drop 0 = .ok (.aload_n 0, 1) := by decide +kernel
theorem D_HT_drop_1 : decode b_HT_drop 1 = .ok (.getfield 74, 3) := by decide +kernel
theorem D_HT_drop_4 : decode b_HT_drop 4 = .ok (.invokevirtual 154, 3) := by decide +kernel
theorem D_HT_drop_7 : decode b_HT_drop 7 = .ok (.ifCond .ne 6, 3) := by decide +kernel
theorem D_HT_drop_10 : decode b_HT_drop 10 = .ok (.ldc 85, 2) := by decide +kernel
theorem D_HT_drop_12 : decode b_HT_drop 12 = .ok (.ireturn, 1) := by decide +kernel
theorem D_HT_drop_13 : decode b_HT_drop 13 = .ok (.aload_n 0, 1) := by decide +kernel
theorem D_HT_drop_14 : decode b_HT_drop 14 = .ok (.getfield 74, 3) := by decide +kernel
theorem D_HT_drop_17 : decode b_HT_drop 17 = .ok (.invokevirtual 154, 3) := by decide +kernel
theorem D_HT_drop_20 : decode b_HT_drop 20 = .ok (.iconst 1, 1) := by decide +kernel
theorem D_HT_drop_21 : decode b_HT_drop 21 = .ok (.isub, 1) := by decide +kernel
theorem D_HT_drop_22 : decode b_HT_drop 22 = .ok (.istore_n 1, 1) := by decide +kernel
theorem D_HT_drop_23 : decode b_HT_drop 23 = .ok (.aload_n 0, 1) := by decide +kernel
theorem D_HT_drop_24 : decode b_HT_drop 24 = .ok (.getfield 74, 3) := by decide +kernel
theorem D_HT_drop_27 : decode b_HT_drop 27 = .ok (.iload_n 1, 1) := by decide +kernel
theorem D_HT_drop_28 : decode b_HT_drop 28 = .ok (.invokevirtual 162, 3) := by decide +kernel
theorem D_HT_drop_31 : decode b_HT_drop 31 = .ok (.istore_n 2, 1) := by decide +kernel
theorem D_HT_drop_32 : decode b_HT_drop 32 = .ok (.aload_n 0, 1) := by decide +kernel
theorem D_HT_drop_33 : decode b_HT_drop 33 = .ok (.getfield 74, 3) := by decide +kernel
theorem D_HT_drop_36 : decode b_HT_drop 36 = .ok (.invokevirtual 165, 3) := by decide +kernel
theorem D_HT_drop_39 : decode b_HT_drop 39 = .ok (.aload_n 0, 1) := by decide +kernel
theorem D_HT_drop_40 : decode b_HT_drop 40 = .ok (.getfield 50, 3) := by decide +kernel
theorem D_HT_drop_43 : decode b_HT_drop 43 = .ok (.iload_n 1, 1) := by decide +kernel
theorem D_HT_drop_44 : decode b_HT_drop 44 = .ok (.aaload, 1) := by decide +kernel
theorem D_HT_drop_45 : decode b_HT_drop 45 = .ok (.invokevirtual 104, 3) := by decide +kernel
theorem D_HT_drop_48 : decode b_HT_drop 48 = .ok (.aload_n 0, 1) := by decide +kernel
theorem D_HT_drop_49 : decode b_HT_drop 49 = .ok (.iload_n 2, 1) := by decide +kernel
theorem D_HT_drop_50 : decode b_HT_drop 50 = .ok (.invokevirtual 159, 3) := by decide +kernel
theorem D_HT_drop_53 : decode b_HT_drop 53 = .ok (.iload_n 1, 1) := by decide +kernel
theorem D_HT_drop_54 : decode b_HT_drop 54 = .ok (.ireturn, 1) := by decide +kernel
abbrev rm_HT_drop : Room := { frames := 3, cells := 0, slots := 0, locals := 63 }
def T_HT_drop (a0 : Nat) (M : Mem) (post : Int32 → Mem → Prop) : Prop := (isK M a0 6 ∧ ∃ q1, gR M a0 10 = some q1 ∧ isK M q1 1 ∧ T_He_size q1 M (fun r4 M4 => (¬ r4 = 0 → (isK M4 a0 6 ∧ ∃ q14, gR M4 a0 10 = some q14 ∧ isK M4 q14 1 ∧ T_He_size q14 M4 (fun r17 M17 => isK M17 a0 6 ∧ ∃ q24, gR M17 a0 10 = some q24 ∧ isK M17 q24 1 ∧ T_He_degreeOf q24 (r17 - 1) M17 (fun r28 M28 => isK M28 a0 6 ∧ ∃ q33, gR M28 a0 10 = some q33 ∧ isK M28 q33 1 ∧ T_He_removeLatest q33 M28 (fun M36 => isK M36 a0 6 ∧ ∃ q40, gR M36 a0 6 = some q40 ∧ isA M36 q40 10 (r17 - 1) ∧ ∃ q44, gR M36 q40 (Int32.toNatClampNeg (r17 - 1)) = some q44 ∧ isK M36 q44 3 ∧ T_Po_clear q44 M36 (fun M45 => isK M45 a0 6 ∧ T_HT_heapChanged a0 r28 M45 (fun M50 => post (r17 - 1) M50))))))) ∧ (r4 = 0 → (post ((-1000000)) M4))))
set_option maxRecDepth 20000 in
theorem S_HT_drop {l : Launch} {D : va_G} {B t g : Nat} {d : Nat → Nat} {ac : Nat → ClassId}  (a0 : Nat) (M : Mem) (post : Int32 → Mem → Prop) (h : T_HT_drop a0 M post) : Met l y_HT_drop w_HT_drop rm_HT_drop (va_Pc [.ref (d a0)] (PRE D B d g t ac M)) (QI D B d g ac post) 0 0 (AB B) := by
  refine met_i (by decide +kernel) (Nat.le_of_ble_eq_true rfl) (fun x h1 hR h3 h4 h5 h6 h7 h8 C Rt => ?_)
  subst h3 h4 h5 h6 h7 h8
  unfold T_HT_drop at h
  show J x 3 0 [(0, .ref (xd x a0))] [] 0 0 M
  refine J_aload_n C 0 D_HT_drop_0 rfl rfl ?_
  obtain ⟨c_1, q1, e_1, h⟩ := h
  refine J_getR C fl_HT_74 D_HT_drop_1 c_1 e_1 ?_
  obtain ⟨c_4, h⟩ := h
  refine J_callVi C ml_HT_154 (S_He_size _ _ _ h) (by rw [hR]; decide) rfl c_4 rfl (Nat.le_of_ble_eq_true rfl) D_HT_drop_4 (fun r4 M4 h => ?_)
  refine J_if_ne (tgt := 13) C D_HT_drop_7 (by decide) (fun c_7 => ?_) (fun c_7 => ?_)
  · have h := h.1 c_7
    refine J_aload_n C 0 D_HT_drop_13 rfl rfl ?_
    obtain ⟨c_14, q14, e_14, h⟩ := h
    refine J_getR C fl_HT_74 D_HT_drop_14 c_14 e_14 ?_
    obtain ⟨c_17, h⟩ := h
    refine J_callVi C ml_HT_154 (S_He_size _ _ _ h) (by rw [hR]; decide) rfl c_17 rfl (Nat.le_of_ble_eq_true rfl) D_HT_drop_17 (fun r17 M17 h => ?_)
    refine J_iconst (v := 1) C D_HT_drop_20 rfl ?_
    refine J_isub C D_HT_drop_21 ?_
    refine J_istore_n (lv' := [(1, .int (r17 - 1)), (0, .ref (xd x a0))]) C 1 D_HT_drop_22 rfl (by decide) rfl ?_
    refine J_aload_n C 0 D_HT_drop_23 rfl rfl ?_
    obtain ⟨c_24, q24, e_24, h⟩ := h
    refine J_getR C fl_HT_74 D_HT_drop_24 c_24 e_24 ?_
    refine J_iload_n C 1 D_HT_drop_27 rfl rfl ?_
    obtain ⟨c_28, h⟩ := h
    refine J_callVi C ml_HT_162 (S_He_degreeOf _ _ _ _ h) (by rw [hR]; decide) rfl c_28 rfl (Nat.le_of_ble_eq_true rfl) D_HT_drop_28 (fun r28 M28 h => ?_)
    refine J_istore_n (lv' := [(2, .int r28), (1, .int (r17 - 1)), (0, .ref (xd x a0))]) C 2 D_HT_drop_31 rfl (by decide) rfl ?_
    refine J_aload_n C 0 D_HT_drop_32 rfl rfl ?_
    obtain ⟨c_33, q33, e_33, h⟩ := h
    refine J_getR C fl_HT_74 D_HT_drop_33 c_33 e_33 ?_
    obtain ⟨c_36, h⟩ := h
    refine J_callVv C ml_HT_165 (S_He_removeLatest _ _ _ h) (by rw [hR]; decide) rfl c_36 rfl (Nat.le_of_ble_eq_true rfl) D_HT_drop_36 (fun M36 h => ?_)
    refine J_aload_n C 0 D_HT_drop_39 rfl rfl ?_
    obtain ⟨c_40, q40, e_40, h⟩ := h
    refine J_getR C fl_HT_50 D_HT_drop_40 c_40 e_40 ?_
    refine J_iload_n C 1 D_HT_drop_43 rfl rfl ?_
    obtain ⟨c_44, q44, e_44, h⟩ := h
    refine J_aaldP C D_HT_drop_44 c_44 e_44 ?_
    obtain ⟨c_45, h⟩ := h
    refine J_callVv C ml_HT_104 (S_Po_clear _ _ _ h) (by rw [hR]; decide) rfl c_45 rfl (Nat.le_of_ble_eq_true rfl) D_HT_drop_45 (fun M45 h => ?_)
    refine J_aload_n C 0 D_HT_drop_48 rfl rfl ?_
    refine J_iload_n C 2 D_HT_drop_49 rfl rfl ?_
    obtain ⟨c_50, h⟩ := h
    refine J_callVv C ml_HT_159 (S_HT_heapChanged _ _ _ _ h) (by rw [hR]; decide) rfl c_50 rfl (Nat.le_of_ble_eq_true rfl) D_HT_drop_50 (fun M50 h => ?_)
    refine J_iload_n C 1 D_HT_drop_53 rfl rfl ?_
    exact J_iret C Rt D_HT_drop_54 rfl h
  · have h := h.2 c_7
    refine J_ldc (v := (-1000000)) C D_HT_drop_10 kw_HT_85 ?_
    exact J_iret C Rt D_HT_drop_12 rfl h
theorem D_HT_copy_0 : decode b_HT_copy 0 = .ok (.aload_n 0, 1) := by decide +kernel
theorem D_HT_copy_1 : decode b_HT_copy 1 = .ok (.getfield 74, 3) := by decide +kernel
theorem D_HT_copy_4 : decode b_HT_copy 4 = .ok (.iload_n 1, 1) := by decide +kernel
theorem D_HT_copy_5 : decode b_HT_copy 5 = .ok (.invokevirtual 168, 3) := by decide +kernel
theorem D_HT_copy_8 : decode b_HT_copy 8 = .ok (.ifCond .ne 6, 3) := by decide +kernel
theorem D_HT_copy_11 : decode b_HT_copy 11 = .ok (.ldc 85, 2) := by decide +kernel
theorem D_HT_copy_13 : decode b_HT_copy 13 = .ok (.ireturn, 1) := by decide +kernel
theorem D_HT_copy_14 : decode b_HT_copy 14 = .ok (.aload_n 0, 1) := by decide +kernel
theorem D_HT_copy_15 : decode b_HT_copy 15 = .ok (.getfield 74, 3) := by decide +kernel
theorem D_HT_copy_18 : decode b_HT_copy 18 = .ok (.iload_n 1, 1) := by decide +kernel
theorem D_HT_copy_19 : decode b_HT_copy 19 = .ok (.aload_n 0, 1) := by decide +kernel
theorem D_HT_copy_20 : decode b_HT_copy 20 = .ok (.getfield 32, 3) := by decide +kernel
theorem D_HT_copy_23 : decode b_HT_copy 23 = .ok (.invokevirtual 171, 3) := by decide +kernel
theorem D_HT_copy_26 : decode b_HT_copy 26 = .ok (.aload_n 0, 1) := by decide +kernel
theorem D_HT_copy_27 : decode b_HT_copy 27 = .ok (.getfield 46, 3) := by decide +kernel
theorem D_HT_copy_30 : decode b_HT_copy 30 = .ok (.invokevirtual 104, 3) := by decide +kernel
theorem D_HT_copy_33 : decode b_HT_copy 33 = .ok (.aload_n 0, 1) := by decide +kernel
theorem D_HT_copy_34 : decode b_HT_copy 34 = .ok (.getfield 46, 3) := by decide +kernel
theorem D_HT_copy_37 : decode b_HT_copy 37 = .ok (.aload_n 0, 1) := by decide +kernel
theorem D_HT_copy_38 : decode b_HT_copy 38 = .ok (.getfield 74, 3) := by decide +kernel
theorem D_HT_copy_41 : decode b_HT_copy 41 = .ok (.iload_n 1, 1) := by decide +kernel
theorem D_HT_copy_42 : decode b_HT_copy 42 = .ok (.invokevirtual 162, 3) := by decide +kernel
theorem D_HT_copy_45 : decode b_HT_copy 45 = .ok (.aload_n 0, 1) := by decide +kernel
theorem D_HT_copy_46 : decode b_HT_copy 46 = .ok (.getfield 32, 3) := by decide +kernel
theorem D_HT_copy_49 : decode b_HT_copy 49 = .ok (.invokevirtual 175, 3) := by decide +kernel
theorem D_HT_copy_52 : decode b_HT_copy 52 = .ok (.aload_n 0, 1) := by decide +kernel
theorem D_HT_copy_53 : decode b_HT_copy 53 = .ok (.invokevirtual 132, 3) := by decide +kernel
theorem D_HT_copy_56 : decode b_HT_copy 56 = .ok (.aload_n 0, 1) := by decide +kernel
theorem D_HT_copy_57 : decode b_HT_copy 57 = .ok (.getfield 46, 3) := by decide +kernel
theorem D_HT_copy_60 : decode b_HT_copy 60 = .ok (.invokevirtual 135, 3) := by decide +kernel
theorem D_HT_copy_63 : decode b_HT_copy 63 = .ok (.ireturn, 1) := by decide +kernel
abbrev rm_HT_copy : Room := { frames := 3, cells := 0, slots := 0, locals := 63 }
def T_HT_copy (a0 : Nat) (x1 : Int32) (M : Mem) (post : Int32 → Mem → Prop) : Prop := (isK M a0 6 ∧ ∃ q1, gR M a0 10 = some q1 ∧ isK M q1 1 ∧ T_He_has q1 x1 M (fun r5 M5 => (¬ r5 = 0 → (isK M5 a0 6 ∧ ∃ q15, gR M5 a0 10 = some q15 ∧ isK M5 a0 6 ∧ ∃ q20, gR M5 a0 3 = some q20 ∧ isK M5 q15 1 ∧ T_He_load q15 x1 q20 M5 (fun M23 => isK M23 a0 6 ∧ ∃ q27, gR M23 a0 5 = some q27 ∧ isK M23 q27 3 ∧ T_Po_clear q27 M23 (fun M30 => isK M30 a0 6 ∧ ∃ q34, gR M30 a0 5 = some q34 ∧ isK M30 a0 6 ∧ ∃ q38, gR M30 a0 10 = some q38 ∧ isK M30 q38 1 ∧ T_He_degreeOf q38 x1 M30 (fun r42 M42 => isK M42 a0 6 ∧ ∃ q46, gR M42 a0 3 = some q46 ∧ isK M42 q34 3 ∧ T_Po_setPart q34 r42 q46 M42 (fun M49 => isK M49 a0 6 ∧ T_HT_draftChanged a0 M49 (fun M53 => isK M53 a0 6 ∧ ∃ q57, gR M53 a0 5 = some q57 ∧ isK M53 q57 3 ∧ T_Po_size q57 M53 (fun r60 M60 => post r60 M60)))))))) ∧ (r5 = 0 → (post ((-1000000)) M5))))
set_option maxRecDepth 20000 in
theorem S_HT_copy {l : Launch} {D : va_G} {B t g : Nat} {d : Nat → Nat} {ac : Nat → ClassId}  (a0 : Nat) (x1 : Int32) (M : Mem) (post : Int32 → Mem → Prop) (h : T_HT_copy a0 x1 M post) : Met l y_HT_copy w_HT_copy rm_HT_copy (va_Pc [.ref (d a0), .int x1] (PRE D B d g t ac M)) (QI D B d g ac post) 0 0 (AB B) := by
  refine met_i (by decide +kernel) (Nat.le_of_ble_eq_true rfl) (fun x h1 hR h3 h4 h5 h6 h7 h8 C Rt => ?_)
  subst h3 h4 h5 h6 h7 h8
  unfold T_HT_copy at h
  show J x 2 0 [(0, .ref (xd x a0)), (1, .int x1)] [] 0 0 M
  refine J_aload_n C 0 D_HT_copy_0 rfl rfl ?_
  obtain ⟨c_1, q1, e_1, h⟩ := h
  refine J_getR C fl_HT_74 D_HT_copy_1 c_1 e_1 ?_
  refine J_iload_n C 1 D_HT_copy_4 rfl rfl ?_
  obtain ⟨c_5, h⟩ := h
  refine J_callVi C ml_HT_168 (S_He_has _ _ _ _ h) (by rw [hR]; decide) rfl c_5 rfl (Nat.le_of_ble_eq_true rfl) D_HT_copy_5 (fun r5 M5 h => ?_)
  refine J_if_ne (tgt := 14) C D_HT_copy_8 (by decide) (fun c_8 => ?_) (fun c_8 => ?_)
  · have h := h.1 c_8
    refine J_aload_n C 0 D_HT_copy_14 rfl rfl ?_
    obtain ⟨c_15, q15, e_15, h⟩ := h
    refine J_getR C fl_HT_74 D_HT_copy_15 c_15 e_15 ?_
    refine J_iload_n C 1 D_HT_copy_18 rfl rfl ?_
    refine J_aload_n C 0 D_HT_copy_19 rfl rfl ?_
    obtain ⟨c_20, q20, e_20, h⟩ := h
    refine J_getR C fl_HT_32 D_HT_copy_20 c_20 e_20 ?_
    obtain ⟨c_23, h⟩ := h
    refine J_callVv C ml_HT_171 (S_He_load _ _ _ _ _ h) (by rw [hR]; decide) rfl c_23 rfl (Nat.le_of_ble_eq_true rfl) D_HT_copy_23 (fun M23 h => ?_)
    refine J_aload_n C 0 D_HT_copy_26 rfl rfl ?_
    obtain ⟨c_27, q27, e_27, h⟩ := h
    refine J_getR C fl_HT_46 D_HT_copy_27 c_27 e_27 ?_
    obtain ⟨c_30, h⟩ := h
    refine J_callVv C ml_HT_104 (S_Po_clear _ _ _ h) (by rw [hR]; decide) rfl c_30 rfl (Nat.le_of_ble_eq_true rfl) D_HT_copy_30 (fun M30 h => ?_)
    refine J_aload_n C 0 D_HT_copy_33 rfl rfl ?_
    obtain ⟨c_34, q34, e_34, h⟩ := h
    refine J_getR C fl_HT_46 D_HT_copy_34 c_34 e_34 ?_
    refine J_aload_n C 0 D_HT_copy_37 rfl rfl ?_
    obtain ⟨c_38, q38, e_38, h⟩ := h
    refine J_getR C fl_HT_74 D_HT_copy_38 c_38 e_38 ?_
    refine J_iload_n C 1 D_HT_copy_41 rfl rfl ?_
    obtain ⟨c_42, h⟩ := h
    refine J_callVi C ml_HT_162 (S_He_degreeOf _ _ _ _ h) (by rw [hR]; decide) rfl c_42 rfl (Nat.le_of_ble_eq_true rfl) D_HT_copy_42 (fun r42 M42 h => ?_)
    refine J_aload_n C 0 D_HT_copy_45 rfl rfl ?_
    obtain ⟨c_46, q46, e_46, h⟩ := h
    refine J_getR C fl_HT_32 D_HT_copy_46 c_46 e_46 ?_
    obtain ⟨c_49, h⟩ := h
    refine J_callVv C ml_HT_175 (S_Po_setPart _ _ _ _ _ h) (by rw [hR]; decide) rfl c_49 rfl (Nat.le_of_ble_eq_true rfl) D_HT_copy_49 (fun M49 h => ?_)
    refine J_aload_n C 0 D_HT_copy_52 rfl rfl ?_
    obtain ⟨c_53, h⟩ := h
    refine J_callVv C ml_HT_132 (S_HT_draftChanged _ _ _ h) (by rw [hR]; decide) rfl c_53 rfl (Nat.le_of_ble_eq_true rfl) D_HT_copy_53 (fun M53 h => ?_)
    refine J_aload_n C 0 D_HT_copy_56 rfl rfl ?_
    obtain ⟨c_57, q57, e_57, h⟩ := h
    refine J_getR C fl_HT_46 D_HT_copy_57 c_57 e_57 ?_
    obtain ⟨c_60, h⟩ := h
    refine J_callVi C ml_HT_135 (S_Po_size _ _ _ h) (by rw [hR]; decide) rfl c_60 rfl (Nat.le_of_ble_eq_true rfl) D_HT_copy_60 (fun r60 M60 h => ?_)
    exact J_iret C Rt D_HT_copy_63 rfl h
  · have h := h.2 c_8
    refine J_ldc (v := (-1000000)) C D_HT_copy_11 kw_HT_85 ?_
    exact J_iret C Rt D_HT_copy_13 rfl h
