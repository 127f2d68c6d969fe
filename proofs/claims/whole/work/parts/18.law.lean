theorem ml_La_9 : MLI "HeapTowerLaw" 9 y_HT_new b_HT_new 2 0 := ⟨List.forall_mem_cons.mpr ⟨(gw_in (List.mem_of_getElem? (i := 80) (by decide +kernel)) (by decide +kernel)), List.forall_mem_cons.mpr ⟨(gw_in (List.mem_of_getElem? (i := 81) (by decide +kernel)) (by decide +kernel)), List.forall_mem_cons.mpr ⟨(gw_in (List.mem_of_getElem? (i := 67) (by decide +kernel)) (by decide +kernel)), List.forall_mem_cons.mpr ⟨(gw_in (List.mem_of_getElem? (i := 82) (by decide +kernel)) (by decide +kernel)), fun _ h => absurd h List.not_mem_nil⟩⟩⟩⟩, by decide, rfl⟩
theorem ml_La_12 : MLI "HeapTowerLaw" 12 y_Mo_new b_Mo_new 1 0 := ⟨List.forall_mem_cons.mpr ⟨(gw_in (List.mem_of_getElem? (i := 808) (by decide +kernel)) (by decide +kernel)), List.forall_mem_cons.mpr ⟨(gw_in (List.mem_of_getElem? (i := 809) (by decide +kernel)) (by decide +kernel)), List.forall_mem_cons.mpr ⟨(gw_in (List.mem_of_getElem? (i := 74) (by decide +kernel)) (by decide +kernel)), List.forall_mem_cons.mpr ⟨(gw_in (List.mem_of_getElem? (i := 810) (by decide +kernel)) (by decide +kernel)), fun _ h => absurd h List.not_mem_nil⟩⟩⟩⟩, by decide, rfl⟩
theorem ml_La_13 : MLV "HeapTowerLaw" 13 y_HT_letters b_HT_letters 3 (some .int) 2 6 := ⟨List.forall_mem_cons.mpr ⟨(gw_in (List.mem_of_getElem? (i := 303) (by decide +kernel)) (by decide +kernel)), List.forall_mem_cons.mpr ⟨(gw_in (List.mem_of_getElem? (i := 304) (by decide +kernel)) (by decide +kernel)), List.forall_mem_cons.mpr ⟨(gw_in (List.mem_of_getElem? (i := 305) (by decide +kernel)) (by decide +kernel)), List.forall_mem_cons.mpr ⟨(gw_in (List.mem_of_getElem? (i := 67) (by decide +kernel)) (by decide +kernel)), List.forall_mem_cons.mpr ⟨(gw_in (List.mem_of_getElem? (i := 306) (by decide +kernel)) (by decide +kernel)), fun _ h => absurd h List.not_mem_nil⟩⟩⟩⟩⟩, by decide, F_HT, 12, rfl, by decide⟩
theorem ml_La_17 : MLV "HeapTowerLaw" 17 y_Mo_letters b_Mo_letters 4 (some .int) 2 7 := ⟨List.forall_mem_cons.mpr ⟨(gw_in (List.mem_of_getElem? (i := 868) (by decide +kernel)) (by decide +kernel)), List.forall_mem_cons.mpr ⟨(gw_in (List.mem_of_getElem? (i := 869) (by decide +kernel)) (by decide +kernel)), List.forall_mem_cons.mpr ⟨(gw_in (List.mem_of_getElem? (i := 870) (by decide +kernel)) (by decide +kernel)), List.forall_mem_cons.mpr ⟨(gw_in (List.mem_of_getElem? (i := 74) (by decide +kernel)) (by decide +kernel)), List.forall_mem_cons.mpr ⟨(gw_in (List.mem_of_getElem? (i := 871) (by decide +kernel)) (by decide +kernel)), fun _ h => absurd h List.not_mem_nil⟩⟩⟩⟩⟩, by decide, F_Mo, 18, rfl, by decide⟩
theorem ml_La_18 : MLV "HeapTowerLaw" 18 y_HT_order b_HT_order 3 (some .int) 1 6 := ⟨List.forall_mem_cons.mpr ⟨(gw_in (List.mem_of_getElem? (i := 349) (by decide +kernel)) (by decide +kernel)), List.forall_mem_cons.mpr ⟨(gw_in (List.mem_of_getElem? (i := 350) (by decide +kernel)) (by decide +kernel)), List.forall_mem_cons.mpr ⟨(gw_in (List.mem_of_getElem? (i := 351) (by decide +kernel)) (by decide +kernel)), List.forall_mem_cons.mpr ⟨(gw_in (List.mem_of_getElem? (i := 67) (by decide +kernel)) (by decide +kernel)), List.forall_mem_cons.mpr ⟨(gw_in (List.mem_of_getElem? (i := 352) (by decide +kernel)) (by decide +kernel)), fun _ h => absurd h List.not_mem_nil⟩⟩⟩⟩⟩, by decide, F_HT, 12, rfl, by decide⟩
theorem ml_La_22 : MLV "HeapTowerLaw" 22 y_Mo_order b_Mo_order 3 (some .int) 1 7 := ⟨List.forall_mem_cons.mpr ⟨(gw_in (List.mem_of_getElem? (i := 887) (by decide +kernel)) (by decide +kernel)), List.forall_mem_cons.mpr ⟨(gw_in (List.mem_of_getElem? (i := 888) (by decide +kernel)) (by decide +kernel)), List.forall_mem_cons.mpr ⟨(gw_in (List.mem_of_getElem? (i := 889) (by decide +kernel)) (by decide +kernel)), List.forall_mem_cons.mpr ⟨(gw_in (List.mem_of_getElem? (i := 74) (by decide +kernel)) (by decide +kernel)), List.forall_mem_cons.mpr ⟨(gw_in (List.mem_of_getElem? (i := 890) (by decide +kernel)) (by decide +kernel)), fun _ h => absurd h List.not_mem_nil⟩⟩⟩⟩⟩, by decide, F_Mo, 18, rfl, by decide⟩
theorem ml_La_23 : MLV "HeapTowerLaw" 23 y_HT_term b_HT_term 8 (some .int) 4 6 := ⟨List.forall_mem_cons.mpr ⟨(gw_in (List.mem_of_getElem? (i := 357) (by decide +kernel)) (by decide +kernel)), List.forall_mem_cons.mpr ⟨(gw_in (List.mem_of_getElem? (i := 358) (by decide +kernel)) (by decide +kernel)), List.forall_mem_cons.mpr ⟨(gw_in (List.mem_of_getElem? (i := 359) (by decide +kernel)) (by decide +kernel)), List.forall_mem_cons.mpr ⟨(gw_in (List.mem_of_getElem? (i := 67) (by decide +kernel)) (by decide +kernel)), List.forall_mem_cons.mpr ⟨(gw_in (List.mem_of_getElem? (i := 360) (by decide +kernel)) (by decide +kernel)), fun _ h => absurd h List.not_mem_nil⟩⟩⟩⟩⟩, by decide, F_HT, 12, rfl, by decide⟩
theorem ml_La_27 : MLV "HeapTowerLaw" 27 y_Mo_term b_Mo_term 6 (some .int) 4 7 := ⟨List.forall_mem_cons.mpr ⟨(gw_in (List.mem_of_getElem? (i := 891) (by decide +kernel)) (by decide +kernel)), List.forall_mem_cons.mpr ⟨(gw_in (List.mem_of_getElem? (i := 892) (by decide +kernel)) (by decide +kernel)), List.forall_mem_cons.mpr ⟨(gw_in (List.mem_of_getElem? (i := 893) (by decide +kernel)) (by decide +kernel)), List.forall_mem_cons.mpr ⟨(gw_in (List.mem_of_getElem? (i := 74) (by decide +kernel)) (by decide +kernel)), List.forall_mem_cons.mpr ⟨(gw_in (List.mem_of_getElem? (i := 894) (by decide +kernel)) (by decide +kernel)), fun _ h => absurd h List.not_mem_nil⟩⟩⟩⟩⟩, by decide, F_Mo, 18, rfl, by decide⟩
theorem ml_La_28 : MLV "HeapTowerLaw" 28 y_HT_number b_HT_number 4 (some .int) 3 6 := ⟨List.forall_mem_cons.mpr ⟨(gw_in (List.mem_of_getElem? (i := 386) (by decide +kernel)) (by decide +kernel)), List.forall_mem_cons.mpr ⟨(gw_in (List.mem_of_getElem? (i := 387) (by decide +kernel)) (by decide +kernel)), List.forall_mem_cons.mpr ⟨(gw_in (List.mem_of_getElem? (i := 388) (by decide +kernel)) (by decide +kernel)), List.forall_mem_cons.mpr ⟨(gw_in (List.mem_of_getElem? (i := 67) (by decide +kernel)) (by decide +kernel)), List.forall_mem_cons.mpr ⟨(gw_in (List.mem_of_getElem? (i := 389) (by decide +kernel)) (by decide +kernel)), fun _ h => absurd h List.not_mem_nil⟩⟩⟩⟩⟩, by decide, F_HT, 12, rfl, by decide⟩
theorem ml_La_32 : MLV "HeapTowerLaw" 32 y_Mo_number b_Mo_number 4 (some .int) 3 7 := ⟨List.forall_mem_cons.mpr ⟨(gw_in (List.mem_of_getElem? (i := 911) (by decide +kernel)) (by decide +kernel)), List.forall_mem_cons.mpr ⟨(gw_in (List.mem_of_getElem? (i := 912) (by decide +kernel)) (by decide +kernel)), List.forall_mem_cons.mpr ⟨(gw_in (List.mem_of_getElem? (i := 913) (by decide +kernel)) (by decide +kernel)), List.forall_mem_cons.mpr ⟨(gw_in (List.mem_of_getElem? (i := 74) (by decide +kernel)) (by decide +kernel)), List.forall_mem_cons.mpr ⟨(gw_in (List.mem_of_getElem? (i := 914) (by decide +kernel)) (by decide +kernel)), fun _ h => absurd h List.not_mem_nil⟩⟩⟩⟩⟩, by decide, F_Mo, 18, rfl, by decide⟩
theorem ml_La_33 : MLV "HeapTowerLaw" 33 y_HT_wipe b_HT_wipe 2 (some .int) 0 6 := ⟨List.forall_mem_cons.mpr ⟨(gw_in (List.mem_of_getElem? (i := 390) (by decide +kernel)) (by decide +kernel)), List.forall_mem_cons.mpr ⟨(gw_in (List.mem_of_getElem? (i := 391) (by decide +kernel)) (by decide +kernel)), List.forall_mem_cons.mpr ⟨(gw_in (List.mem_of_getElem? (i := 392) (by decide +kernel)) (by decide +kernel)), List.forall_mem_cons.mpr ⟨(gw_in (List.mem_of_getElem? (i := 67) (by decide +kernel)) (by decide +kernel)), List.forall_mem_cons.mpr ⟨(gw_in (List.mem_of_getElem? (i := 393) (by decide +kernel)) (by decide +kernel)), fun _ h => absurd h List.not_mem_nil⟩⟩⟩⟩⟩, by decide, F_HT, 12, rfl, by decide⟩
theorem ml_La_37 : MLV "HeapTowerLaw" 37 y_Mo_wipe b_Mo_wipe 2 (some .int) 0 7 := ⟨List.forall_mem_cons.mpr ⟨(gw_in (List.mem_of_getElem? (i := 915) (by decide +kernel)) (by decide +kernel)), List.forall_mem_cons.mpr ⟨(gw_in (List.mem_of_getElem? (i := 916) (by decide +kernel)) (by decide +kernel)), List.forall_mem_cons.mpr ⟨(gw_in (List.mem_of_getElem? (i := 917) (by decide +kernel)) (by decide +kernel)), List.forall_mem_cons.mpr ⟨(gw_in (List.mem_of_getElem? (i := 74) (by decide +kernel)) (by decide +kernel)), List.forall_mem_cons.mpr ⟨(gw_in (List.mem_of_getElem? (i := 918) (by decide +kernel)) (by decide +kernel)), fun _ h => absurd h List.not_mem_nil⟩⟩⟩⟩⟩, by decide, F_Mo, 18, rfl, by decide⟩
theorem ml_La_38 : MLV "HeapTowerLaw" 38 y_HT_draft b_HT_draft 2 (some .int) 1 6 := ⟨List.forall_mem_cons.mpr ⟨(gw_in (List.mem_of_getElem? (i := 398) (by decide +kernel)) (by decide +kernel)), List.forall_mem_cons.mpr ⟨(gw_in (List.mem_of_getElem? (i := 399) (by decide +kernel)) (by decide +kernel)), List.forall_mem_cons.mpr ⟨(gw_in (List.mem_of_getElem? (i := 400) (by decide +kernel)) (by decide +kernel)), List.forall_mem_cons.mpr ⟨(gw_in (List.mem_of_getElem? (i := 67) (by decide +kernel)) (by decide +kernel)), List.forall_mem_cons.mpr ⟨(gw_in (List.mem_of_getElem? (i := 401) (by decide +kernel)) (by decide +kernel)), fun _ h => absurd h List.not_mem_nil⟩⟩⟩⟩⟩, by decide, F_HT, 12, rfl, by decide⟩
theorem ml_La_41 : MLV "HeapTowerLaw" 41 y_Mo_draft b_Mo_draft 4 (some .int) 1 7 := ⟨List.forall_mem_cons.mpr ⟨(gw_in (List.mem_of_getElem? (i := 923) (by decide +kernel)) (by decide +kernel)), List.forall_mem_cons.mpr ⟨(gw_in (List.mem_of_getElem? (i := 924) (by decide +kernel)) (by decide +kernel)), List.forall_mem_cons.mpr ⟨(gw_in (List.mem_of_getElem? (i := 925) (by decide +kernel)) (by decide +kernel)), List.forall_mem_cons.mpr ⟨(gw_in (List.mem_of_getElem? (i := 74) (by decide +kernel)) (by decide +kernel)), List.forall_mem_cons.mpr ⟨(gw_in (List.mem_of_getElem? (i := 926) (by decide +kernel)) (by decide +kernel)), fun _ h => absurd h List.not_mem_nil⟩⟩⟩⟩⟩, by decide, F_Mo, 18, rfl, by decide⟩
theorem ml_La_42 : MLV "HeapTowerLaw" 42 y_HT_times b_HT_times 4 (some .int) 3 6 := ⟨List.forall_mem_cons.mpr ⟨(gw_in (List.mem_of_getElem? (i := 437) (by decide +kernel)) (by decide +kernel)), List.forall_mem_cons.mpr ⟨(gw_in (List.mem_of_getElem? (i := 438) (by decide +kernel)) (by decide +kernel)), List.forall_mem_cons.mpr ⟨(gw_in (List.mem_of_getElem? (i := 439) (by decide +kernel)) (by decide +kernel)), List.forall_mem_cons.mpr ⟨(gw_in (List.mem_of_getElem? (i := 67) (by decide +kernel)) (by decide +kernel)), List.forall_mem_cons.mpr ⟨(gw_in (List.mem_of_getElem? (i := 440) (by decide +kernel)) (by decide +kernel)), fun _ h => absurd h List.not_mem_nil⟩⟩⟩⟩⟩, by decide, F_HT, 12, rfl, by decide⟩
theorem ml_La_45 : MLV "HeapTowerLaw" 45 y_Mo_times b_Mo_times 5 (some .int) 3 7 := ⟨List.forall_mem_cons.mpr ⟨(gw_in (List.mem_of_getElem? (i := 946) (by decide +kernel)) (by decide +kernel)), List.forall_mem_cons.mpr ⟨(gw_in (List.mem_of_getElem? (i := 947) (by decide +kernel)) (by decide +kernel)), List.forall_mem_cons.mpr ⟨(gw_in (List.mem_of_getElem? (i := 948) (by decide +kernel)) (by decide +kernel)), List.forall_mem_cons.mpr ⟨(gw_in (List.mem_of_getElem? (i := 74) (by decide +kernel)) (by decide +kernel)), List.forall_mem_cons.mpr ⟨(gw_in (List.mem_of_getElem? (i := 949) (by decide +kernel)) (by decide +kernel)), fun _ h => absurd h List.not_mem_nil⟩⟩⟩⟩⟩, by decide, F_Mo, 18, rfl, by decide⟩
theorem ml_La_46 : MLV "HeapTowerLaw" 46 y_HT_row b_HT_row 3 (some .int) 0 6 := ⟨List.forall_mem_cons.mpr ⟨(gw_in (List.mem_of_getElem? (i := 460) (by decide +kernel)) (by decide +kernel)), List.forall_mem_cons.mpr ⟨(gw_in (List.mem_of_getElem? (i := 461) (by decide +kernel)) (by decide +kernel)), List.forall_mem_cons.mpr ⟨(gw_in (List.mem_of_getElem? (i := 462) (by decide +kernel)) (by decide +kernel)), List.forall_mem_cons.mpr ⟨(gw_in (List.mem_of_getElem? (i := 67) (by decide +kernel)) (by decide +kernel)), List.forall_mem_cons.mpr ⟨(gw_in (List.mem_of_getElem? (i := 463) (by decide +kernel)) (by decide +kernel)), fun _ h => absurd h List.not_mem_nil⟩⟩⟩⟩⟩, by decide, F_HT, 12, rfl, by decide⟩
theorem ml_La_49 : MLV "HeapTowerLaw" 49 y_Mo_row b_Mo_row 2 (some .int) 0 7 := ⟨List.forall_mem_cons.mpr ⟨(gw_in (List.mem_of_getElem? (i := 954) (by decide +kernel)) (by decide +kernel)), List.forall_mem_cons.mpr ⟨(gw_in (List.mem_of_getElem? (i := 955) (by decide +kernel)) (by decide +kernel)), List.forall_mem_cons.mpr ⟨(gw_in (List.mem_of_getElem? (i := 956) (by decide +kernel)) (by decide +kernel)), List.forall_mem_cons.mpr ⟨(gw_in (List.mem_of_getElem? (i := 74) (by decide +kernel)) (by decide +kernel)), List.forall_mem_cons.mpr ⟨(gw_in (List.mem_of_getElem? (i := 957) (by decide +kernel)) (by decide +kernel)), fun _ h => absurd h List.not_mem_nil⟩⟩⟩⟩⟩, by decide, F_Mo, 18, rfl, by decide⟩
theorem ml_La_50 : MLV "HeapTowerLaw" 50 y_HT_drop b_HT_drop 3 (some .int) 0 6 := ⟨List.forall_mem_cons.mpr ⟨(gw_in (List.mem_of_getElem? (i := 487) (by decide +kernel)) (by decide +kernel)), List.forall_mem_cons.mpr ⟨(gw_in (List.mem_of_getElem? (i := 488) (by decide +kernel)) (by decide +kernel)), List.forall_mem_cons.mpr ⟨(gw_in (List.mem_of_getElem? (i := 489) (by decide +kernel)) (by decide +kernel)), List.forall_mem_cons.mpr ⟨(gw_in (List.mem_of_getElem? (i := 67) (by decide +kernel)) (by decide +kernel)), List.forall_mem_cons.mpr ⟨(gw_in (List.mem_of_getElem? (i := 490) (by decide +kernel)) (by decide +kernel)), fun _ h => absurd h List.not_mem_nil⟩⟩⟩⟩⟩, by decide, F_HT, 12, rfl, by decide⟩
theorem ml_La_53 : MLV "HeapTowerLaw" 53 y_Mo_drop b_Mo_drop 1 (some .int) 0 7 := ⟨List.forall_mem_cons.mpr ⟨(gw_in (List.mem_of_getElem? (i := 958) (by decide +kernel)) (by decide +kernel)), List.forall_mem_cons.mpr ⟨(gw_in (List.mem_of_getElem? (i := 959) (by decide +kernel)) (by decide +kernel)), List.forall_mem_cons.mpr ⟨(gw_in (List.mem_of_getElem? (i := 960) (by decide +kernel)) (by decide +kernel)), List.forall_mem_cons.mpr ⟨(gw_in (List.mem_of_getElem? (i := 74) (by decide +kernel)) (by decide +kernel)), List.forall_mem_cons.mpr ⟨(gw_in (List.mem_of_getElem? (i := 961) (by decide +kernel)) (by decide +kernel)), fun _ h => absurd h List.not_mem_nil⟩⟩⟩⟩⟩, by decide, F_Mo, 18, rfl, by decide⟩
theorem ml_La_54 : MLV "HeapTowerLaw" 54 y_HT_copy b_HT_copy 2 (some .int) 1 6 := ⟨List.forall_mem_cons.mpr ⟨(gw_in (List.mem_of_getElem? (i := 499) (by decide +kernel)) (by decide +kernel)), List.forall_mem_cons.mpr ⟨(gw_in (List.mem_of_getElem? (i := 500) (by decide +kernel)) (by decide +kernel)), List.forall_mem_cons.mpr ⟨(gw_in (List.mem_of_getElem? (i := 501) (by decide +kernel)) (by decide +kernel)), List.forall_mem_cons.mpr ⟨(gw_in (List.mem_of_getElem? (i := 67) (by decide +kernel)) (by decide +kernel)), List.forall_mem_cons.mpr ⟨(gw_in (List.mem_of_getElem? (i := 502) (by decide +kernel)) (by decide +kernel)), fun _ h => absurd h List.not_mem_nil⟩⟩⟩⟩⟩, by decide, F_HT, 12, rfl, by decide⟩
theorem ml_La_57 : MLV "HeapTowerLaw" 57 y_Mo_copy b_Mo_copy 2 (some .int) 1 7 := ⟨List.forall_mem_cons.mpr ⟨(gw_in (List.mem_of_getElem? (i := 962) (by decide +kernel)) (by decide +kernel)), List.forall_mem_cons.mpr ⟨(gw_in (List.mem_of_getElem? (i := 963) (by decide +kernel)) (by decide +kernel)), List.forall_mem_cons.mpr ⟨(gw_in (List.mem_of_getElem? (i := 964) (by decide +kernel)) (by decide +kernel)), List.forall_mem_cons.mpr ⟨(gw_in (List.mem_of_getElem? (i := 74) (by decide +kernel)) (by decide +kernel)), List.forall_mem_cons.mpr ⟨(gw_in (List.mem_of_getElem? (i := 965) (by decide +kernel)) (by decide +kernel)), fun _ h => absurd h List.not_mem_nil⟩⟩⟩⟩⟩, by decide, F_Mo, 18, rfl, by decide⟩
theorem ml_La_58 : MLV "HeapTowerLaw" 58 y_HT_rest b_HT_rest 4 (some .int) 0 6 := ⟨List.forall_mem_cons.mpr ⟨(gw_in (List.mem_of_getElem? (i := 516) (by decide +kernel)) (by decide +kernel)), List.forall_mem_cons.mpr ⟨(gw_in (List.mem_of_getElem? (i := 517) (by decide +kernel)) (by decide +kernel)), List.forall_mem_cons.mpr ⟨(gw_in (List.mem_of_getElem? (i := 518) (by decide +kernel)) (by decide +kernel)), List.forall_mem_cons.mpr ⟨(gw_in (List.mem_of_getElem? (i := 67) (by decide +kernel)) (by decide +kernel)), List.forall_mem_cons.mpr ⟨(gw_in (List.mem_of_getElem? (i := 519) (by decide +kernel)) (by decide +kernel)), fun _ h => absurd h List.not_mem_nil⟩⟩⟩⟩⟩, by decide, F_HT, 12, rfl, by decide⟩
theorem ml_La_61 : MLV "HeapTowerLaw" 61 y_Mo_rest b_Mo_rest 3 (some .int) 0 7 := ⟨List.forall_mem_cons.mpr ⟨(gw_in (List.mem_of_getElem? (i := 966) (by decide +kernel)) (by decide +kernel)), List.forall_mem_cons.mpr ⟨(gw_in (List.mem_of_getElem? (i := 967) (by decide +kernel)) (by decide +kernel)), List.forall_mem_cons.mpr ⟨(gw_in (List.mem_of_getElem? (i := 968) (by decide +kernel)) (by decide +kernel)), List.forall_mem_cons.mpr ⟨(gw_in (List.mem_of_getElem? (i := 74) (by decide +kernel)) (by decide +kernel)), List.forall_mem_cons.mpr ⟨(gw_in (List.mem_of_getElem? (i := 969) (by decide +kernel)) (by decide +kernel)), fun _ h => absurd h List.not_mem_nil⟩⟩⟩⟩⟩, by decide, F_Mo, 18, rfl, by decide⟩
theorem ml_La_62 : MLV "HeapTowerLaw" 62 y_HT_in b_HT_in 4 (some .int) 0 6 := ⟨List.forall_mem_cons.mpr ⟨(gw_in (List.mem_of_getElem? (i := 640) (by decide +kernel)) (by decide +kernel)), List.forall_mem_cons.mpr ⟨(gw_in (List.mem_of_getElem? (i := 641) (by decide +kernel)) (by decide +kernel)), List.forall_mem_cons.mpr ⟨(gw_in (List.mem_of_getElem? (i := 642) (by decide +kernel)) (by decide +kernel)), List.forall_mem_cons.mpr ⟨(gw_in (List.mem_of_getElem? (i := 67) (by decide +kernel)) (by decide +kernel)), List.forall_mem_cons.mpr ⟨(gw_in (List.mem_of_getElem? (i := 643) (by decide +kernel)) (by decide +kernel)), fun _ h => absurd h List.not_mem_nil⟩⟩⟩⟩⟩, by decide, F_HT, 12, rfl, by decide⟩
theorem ml_La_65 : MLV "HeapTowerLaw" 65 y_Mo_in0 b_Mo_in0 3 (some .int) 0 7 := ⟨List.forall_mem_cons.mpr ⟨(gw_in (List.mem_of_getElem? (i := 998) (by decide +kernel)) (by decide +kernel)), List.forall_mem_cons.mpr ⟨(gw_in (List.mem_of_getElem? (i := 999) (by decide +kernel)) (by decide +kernel)), List.forall_mem_cons.mpr ⟨(gw_in (List.mem_of_getElem? (i := 1000) (by decide +kernel)) (by decide +kernel)), List.forall_mem_cons.mpr ⟨(gw_in (List.mem_of_getElem? (i := 74) (by decide +kernel)) (by decide +kernel)), List.forall_mem_cons.mpr ⟨(gw_in (List.mem_of_getElem? (i := 1001) (by decide +kernel)) (by decide +kernel)), fun _ h => absurd h List.not_mem_nil⟩⟩⟩⟩⟩, by decide, F_Mo, 18, rfl, by decide⟩
theorem ml_La_66 : MLV "HeapTowerLaw" 66 y_HT_base b_HT_base 2 (some .int) 1 6 := ⟨List.forall_mem_cons.mpr ⟨(gw_in (List.mem_of_getElem? (i := 644) (by decide +kernel)) (by decide +kernel)), List.forall_mem_cons.mpr ⟨(gw_in (List.mem_of_getElem? (i := 645) (by decide +kernel)) (by decide +kernel)), List.forall_mem_cons.mpr ⟨(gw_in (List.mem_of_getElem? (i := 646) (by decide +kernel)) (by decide +kernel)), List.forall_mem_cons.mpr ⟨(gw_in (List.mem_of_getElem? (i := 67) (by decide +kernel)) (by decide +kernel)), List.forall_mem_cons.mpr ⟨(gw_in (List.mem_of_getElem? (i := 647) (by decide +kernel)) (by decide +kernel)), fun _ h => absurd h List.not_mem_nil⟩⟩⟩⟩⟩, by decide, F_HT, 12, rfl, by decide⟩
theorem ml_La_69 : MLV "HeapTowerLaw" 69 y_Mo_base b_Mo_base 2 (some .int) 1 7 := ⟨List.forall_mem_cons.mpr ⟨(gw_in (List.mem_of_getElem? (i := 1002) (by decide +kernel)) (by decide +kernel)), List.forall_mem_cons.mpr ⟨(gw_in (List.mem_of_getElem? (i := 1003) (by decide +kernel)) (by decide +kernel)), List.forall_mem_cons.mpr ⟨(gw_in (List.mem_of_getElem? (i := 1004) (by decide +kernel)) (by decide +kernel)), List.forall_mem_cons.mpr ⟨(gw_in (List.mem_of_getElem? (i := 74) (by decide +kernel)) (by decide +kernel)), List.forall_mem_cons.mpr ⟨(gw_in (List.mem_of_getElem? (i := 1005) (by decide +kernel)) (by decide +kernel)), fun _ h => absurd h List.not_mem_nil⟩⟩⟩⟩⟩, by decide, F_Mo, 18, rfl, by decide⟩
theorem ml_La_70 : MLV "HeapTowerLaw" 70 y_HT_element b_HT_element 3 (some .int) 1 6 := ⟨List.forall_mem_cons.mpr ⟨(gw_in (List.mem_of_getElem? (i := 652) (by decide +kernel)) (by decide +kernel)), List.forall_mem_cons.mpr ⟨(gw_in (List.mem_of_getElem? (i := 653) (by decide +kernel)) (by decide +kernel)), List.forall_mem_cons.mpr ⟨(gw_in (List.mem_of_getElem? (i := 654) (by decide +kernel)) (by decide +kernel)), List.forall_mem_cons.mpr ⟨(gw_in (List.mem_of_getElem? (i := 67) (by decide +kernel)) (by decide +kernel)), List.forall_mem_cons.mpr ⟨(gw_in (List.mem_of_getElem? (i := 655) (by decide +kernel)) (by decide +kernel)), fun _ h => absurd h List.not_mem_nil⟩⟩⟩⟩⟩, by decide, F_HT, 12, rfl, by decide⟩
theorem ml_La_73 : MLV "HeapTowerLaw" 73 y_Mo_element b_Mo_element 3 (some .int) 1 7 := ⟨List.forall_mem_cons.mpr ⟨(gw_in (List.mem_of_getElem? (i := 1014) (by decide +kernel)) (by decide +kernel)), List.forall_mem_cons.mpr ⟨(gw_in (List.mem_of_getElem? (i := 1015) (by decide +kernel)) (by decide +kernel)), List.forall_mem_cons.mpr ⟨(gw_in (List.mem_of_getElem? (i := 1016) (by decide +kernel)) (by decide +kernel)), List.forall_mem_cons.mpr ⟨(gw_in (List.mem_of_getElem? (i := 74) (by decide +kernel)) (by decide +kernel)), List.forall_mem_cons.mpr ⟨(gw_in (List.mem_of_getElem? (i := 1017) (by decide +kernel)) (by decide +kernel)), fun _ h => absurd h List.not_mem_nil⟩⟩⟩⟩⟩, by decide, F_Mo, 18, rfl, by decide⟩
theorem ml_La_74 : MLV "HeapTowerLaw" 74 y_HT_count b_HT_count 2 (some .int) 1 6 := ⟨List.forall_mem_cons.mpr ⟨(gw_in (List.mem_of_getElem? (i := 664) (by decide +kernel)) (by decide +kernel)), List.forall_mem_cons.mpr ⟨(gw_in (List.mem_of_getElem? (i := 665) (by decide +kernel)) (by decide +kernel)), List.forall_mem_cons.mpr ⟨(gw_in (List.mem_of_getElem? (i := 666) (by decide +kernel)) (by decide +kernel)), List.forall_mem_cons.mpr ⟨(gw_in (List.mem_of_getElem? (i := 67) (by decide +kernel)) (by decide +kernel)), List.forall_mem_cons.mpr ⟨(gw_in (List.mem_of_getElem? (i := 667) (by decide +kernel)) (by decide +kernel)), fun _ h => absurd h List.not_mem_nil⟩⟩⟩⟩⟩, by decide, F_HT, 12, rfl, by decide⟩
theorem ml_La_77 : MLV "HeapTowerLaw" 77 y_Mo_count b_Mo_count 2 (some .int) 1 7 := ⟨List.forall_mem_cons.mpr ⟨(gw_in (List.mem_of_getElem? (i := 1018) (by decide +kernel)) (by decide +kernel)), List.forall_mem_cons.mpr ⟨(gw_in (List.mem_of_getElem? (i := 1019) (by decide +kernel)) (by decide +kernel)), List.forall_mem_cons.mpr ⟨(gw_in (List.mem_of_getElem? (i := 1020) (by decide +kernel)) (by decide +kernel)), List.forall_mem_cons.mpr ⟨(gw_in (List.mem_of_getElem? (i := 74) (by decide +kernel)) (by decide +kernel)), List.forall_mem_cons.mpr ⟨(gw_in (List.mem_of_getElem? (i := 1021) (by decide +kernel)) (by decide +kernel)), fun _ h => absurd h List.not_mem_nil⟩⟩⟩⟩⟩, by decide, F_Mo, 18, rfl, by decide⟩
theorem ml_La_78 : MLV "HeapTowerLaw" 78 y_HT_free b_HT_free 4 (some .int) 2 6 := ⟨List.forall_mem_cons.mpr ⟨(gw_in (List.mem_of_getElem? (i := 672) (by decide +kernel)) (by decide +kernel)), List.forall_mem_cons.mpr ⟨(gw_in (List.mem_of_getElem? (i := 673) (by decide +kernel)) (by decide +kernel)), List.forall_mem_cons.mpr ⟨(gw_in (List.mem_of_getElem? (i := 674) (by decide +kernel)) (by decide +kernel)), List.forall_mem_cons.mpr ⟨(gw_in (List.mem_of_getElem? (i := 67) (by decide +kernel)) (by decide +kernel)), List.forall_mem_cons.mpr ⟨(gw_in (List.mem_of_getElem? (i := 675) (by decide +kernel)) (by decide +kernel)), fun _ h => absurd h List.not_mem_nil⟩⟩⟩⟩⟩, by decide, F_HT, 12, rfl, by decide⟩
theorem ml_La_81 : MLV "HeapTowerLaw" 81 y_Mo_free b_Mo_free 3 (some .int) 2 7 := ⟨List.forall_mem_cons.mpr ⟨(gw_in (List.mem_of_getElem? (i := 1022) (by decide +kernel)) (by decide +kernel)), List.forall_mem_cons.mpr ⟨(gw_in (List.mem_of_getElem? (i := 1023) (by decide +kernel)) (by decide +kernel)), List.forall_mem_cons.mpr ⟨(gw_in (List.mem_of_getElem? (i := 1024) (by decide +kernel)) (by decide +kernel)), List.forall_mem_cons.mpr ⟨(gw_in (List.mem_of_getElem? (i := 74) (by decide +kernel)) (by decide +kernel)), List.forall_mem_cons.mpr ⟨(gw_in (List.mem_of_getElem? (i := 1025) (by decide +kernel)) (by decide +kernel)), fun _ h => absurd h List.not_mem_nil⟩⟩⟩⟩⟩, by decide, F_Mo, 18, rfl, by decide⟩
theorem ml_La_82 : MLV "HeapTowerLaw" 82 y_HT_quotient b_HT_quotient 4 (some .int) 1 6 := ⟨List.forall_mem_cons.mpr ⟨(gw_in (List.mem_of_getElem? (i := 714) (by decide +kernel)) (by decide +kernel)), List.forall_mem_cons.mpr ⟨(gw_in (List.mem_of_getElem? (i := 715) (by decide +kernel)) (by decide +kernel)), List.forall_mem_cons.mpr ⟨(gw_in (List.mem_of_getElem? (i := 716) (by decide +kernel)) (by decide +kernel)), List.forall_mem_cons.mpr ⟨(gw_in (List.mem_of_getElem? (i := 67) (by decide +kernel)) (by decide +kernel)), List.forall_mem_cons.mpr ⟨(gw_in (List.mem_of_getElem? (i := 717) (by decide +kernel)) (by decide +kernel)), fun _ h => absurd h List.not_mem_nil⟩⟩⟩⟩⟩, by decide, F_HT, 12, rfl, by decide⟩
theorem ml_La_85 : MLV "HeapTowerLaw" 85 y_Mo_quotient b_Mo_quotient 2 (some .int) 1 7 := ⟨List.forall_mem_cons.mpr ⟨(gw_in (List.mem_of_getElem? (i := 1057) (by decide +kernel)) (by decide +kernel)), List.forall_mem_cons.mpr ⟨(gw_in (List.mem_of_getElem? (i := 1058) (by decide +kernel)) (by decide +kernel)), List.forall_mem_cons.mpr ⟨(gw_in (List.mem_of_getElem? (i := 1059) (by decide +kernel)) (by decide +kernel)), List.forall_mem_cons.mpr ⟨(gw_in (List.mem_of_getElem? (i := 74) (by decide +kernel)) (by decide +kernel)), List.forall_mem_cons.mpr ⟨(gw_in (List.mem_of_getElem? (i := 1060) (by decide +kernel)) (by decide +kernel)), fun _ h => absurd h List.not_mem_nil⟩⟩⟩⟩⟩, by decide, F_Mo, 18, rfl, by decide⟩
theorem ml_La_86 : MLV "HeapTowerLaw" 86 y_HT_regular b_HT_regular 5 (some .int) 0 6 := ⟨List.forall_mem_cons.mpr ⟨(gw_in (List.mem_of_getElem? (i := 727) (by decide +kernel)) (by decide +kernel)), List.forall_mem_cons.mpr ⟨(gw_in (List.mem_of_getElem? (i := 728) (by decide +kernel)) (by decide +kernel)), List.forall_mem_cons.mpr ⟨(gw_in (List.mem_of_getElem? (i := 729) (by decide +kernel)) (by decide +kernel)), List.forall_mem_cons.mpr ⟨(gw_in (List.mem_of_getElem? (i := 67) (by decide +kernel)) (by decide +kernel)), List.forall_mem_cons.mpr ⟨(gw_in (List.mem_of_getElem? (i := 730) (by decide +kernel)) (by decide +kernel)), fun _ h => absurd h List.not_mem_nil⟩⟩⟩⟩⟩, by decide, F_HT, 12, rfl, by decide⟩
theorem ml_La_89 : MLV "HeapTowerLaw" 89 y_Mo_regular b_Mo_regular 3 (some .int) 0 7 := ⟨List.forall_mem_cons.mpr ⟨(gw_in (List.mem_of_getElem? (i := 1069) (by decide +kernel)) (by decide +kernel)), List.forall_mem_cons.mpr ⟨(gw_in (List.mem_of_getElem? (i := 1070) (by decide +kernel)) (by decide +kernel)), List.forall_mem_cons.mpr ⟨(gw_in (List.mem_of_getElem? (i := 1071) (by decide +kernel)) (by decide +kernel)), List.forall_mem_cons.mpr ⟨(gw_in (List.mem_of_getElem? (i := 74) (by decide +kernel)) (by decide +kernel)), List.forall_mem_cons.mpr ⟨(gw_in (List.mem_of_getElem? (i := 1072) (by decide +kernel)) (by decide +kernel)), fun _ h => absurd h List.not_mem_nil⟩⟩⟩⟩⟩, by decide, F_Mo, 18, rfl, by decide⟩
theorem ml_La_90 : MLV "HeapTowerLaw" 90 y_HT_keep b_HT_keep 2 (some .int) 0 6 := ⟨List.forall_mem_cons.mpr ⟨(gw_in (List.mem_of_getElem? (i := 731) (by decide +kernel)) (by decide +kernel)), List.forall_mem_cons.mpr ⟨(gw_in (List.mem_of_getElem? (i := 732) (by decide +kernel)) (by decide +kernel)), List.forall_mem_cons.mpr ⟨(gw_in (List.mem_of_getElem? (i := 733) (by decide +kernel)) (by decide +kernel)), List.forall_mem_cons.mpr ⟨(gw_in (List.mem_of_getElem? (i := 67) (by decide +kernel)) (by decide +kernel)), List.forall_mem_cons.mpr ⟨(gw_in (List.mem_of_getElem? (i := 734) (by decide +kernel)) (by decide +kernel)), fun _ h => absurd h List.not_mem_nil⟩⟩⟩⟩⟩, by decide, F_HT, 12, rfl, by decide⟩
theorem ml_La_93 : MLV "HeapTowerLaw" 93 y_Mo_keep b_Mo_keep 3 (some .int) 0 7 := ⟨List.forall_mem_cons.mpr ⟨(gw_in (List.mem_of_getElem? (i := 1073) (by decide +kernel)) (by decide +kernel)), List.forall_mem_cons.mpr ⟨(gw_in (List.mem_of_getElem? (i := 1074) (by decide +kernel)) (by decide +kernel)), List.forall_mem_cons.mpr ⟨(gw_in (List.mem_of_getElem? (i := 1075) (by decide +kernel)) (by decide +kernel)), List.forall_mem_cons.mpr ⟨(gw_in (List.mem_of_getElem? (i := 74) (by decide +kernel)) (by decide +kernel)), List.forall_mem_cons.mpr ⟨(gw_in (List.mem_of_getElem? (i := 1076) (by decide +kernel)) (by decide +kernel)), fun _ h => absurd h List.not_mem_nil⟩⟩⟩⟩⟩, by decide, F_Mo, 18, rfl, by decide⟩
theorem ml_La_94 : MLV "HeapTowerLaw" 94 y_HT_swap b_HT_swap 2 (some .int) 0 6 := ⟨List.forall_mem_cons.mpr ⟨(gw_in (List.mem_of_getElem? (i := 739) (by decide +kernel)) (by decide +kernel)), List.forall_mem_cons.mpr ⟨(gw_in (List.mem_of_getElem? (i := 740) (by decide +kernel)) (by decide +kernel)), List.forall_mem_cons.mpr ⟨(gw_in (List.mem_of_getElem? (i := 741) (by decide +kernel)) (by decide +kernel)), List.forall_mem_cons.mpr ⟨(gw_in (List.mem_of_getElem? (i := 67) (by decide +kernel)) (by decide +kernel)), List.forall_mem_cons.mpr ⟨(gw_in (List.mem_of_getElem? (i := 742) (by decide +kernel)) (by decide +kernel)), fun _ h => absurd h List.not_mem_nil⟩⟩⟩⟩⟩, by decide, F_HT, 12, rfl, by decide⟩
theorem ml_La_97 : MLV "HeapTowerLaw" 97 y_Mo_swap b_Mo_swap 2 (some .int) 0 7 := ⟨List.forall_mem_cons.mpr ⟨(gw_in (List.mem_of_getElem? (i := 1077) (by decide +kernel)) (by decide +kernel)), List.forall_mem_cons.mpr ⟨(gw_in (List.mem_of_getElem? (i := 1078) (by decide +kernel)) (by decide +kernel)), List.forall_mem_cons.mpr ⟨(gw_in (List.mem_of_getElem? (i := 1079) (by decide +kernel)) (by decide +kernel)), List.forall_mem_cons.mpr ⟨(gw_in (List.mem_of_getElem? (i := 74) (by decide +kernel)) (by decide +kernel)), List.forall_mem_cons.mpr ⟨(gw_in (List.mem_of_getElem? (i := 1080) (by decide +kernel)) (by decide +kernel)), fun _ h => absurd h List.not_mem_nil⟩⟩⟩⟩⟩, by decide, F_Mo, 18, rfl, by decide⟩
theorem ml_La_98 : MLV "HeapTowerLaw" 98 y_HT_dimension b_HT_dimension 3 (some .int) 2 6 := ⟨List.forall_mem_cons.mpr ⟨(gw_in (List.mem_of_getElem? (i := 743) (by decide +kernel)) (by decide +kernel)), List.forall_mem_cons.mpr ⟨(gw_in (List.mem_of_getElem? (i := 744) (by decide +kernel)) (by decide +kernel)), List.forall_mem_cons.mpr ⟨(gw_in (List.mem_of_getElem? (i := 745) (by decide +kernel)) (by decide +kernel)), List.forall_mem_cons.mpr ⟨(gw_in (List.mem_of_getElem? (i := 67) (by decide +kernel)) (by decide +kernel)), List.forall_mem_cons.mpr ⟨(gw_in (List.mem_of_getElem? (i := 746) (by decide +kernel)) (by decide +kernel)), fun _ h => absurd h List.not_mem_nil⟩⟩⟩⟩⟩, by decide, F_HT, 12, rfl, by decide⟩
theorem ml_La_101 : MLV "HeapTowerLaw" 101 y_Mo_dimension b_Mo_dimension 3 (some .int) 2 7 := ⟨List.forall_mem_cons.mpr ⟨(gw_in (List.mem_of_getElem? (i := 1081) (by decide +kernel)) (by decide +kernel)), List.forall_mem_cons.mpr ⟨(gw_in (List.mem_of_getElem? (i := 1082) (by decide +kernel)) (by decide +kernel)), List.forall_mem_cons.mpr ⟨(gw_in (List.mem_of_getElem? (i := 1083) (by decide +kernel)) (by decide +kernel)), List.forall_mem_cons.mpr ⟨(gw_in (List.mem_of_getElem? (i := 74) (by decide +kernel)) (by decide +kernel)), List.forall_mem_cons.mpr ⟨(gw_in (List.mem_of_getElem? (i := 1084) (by decide +kernel)) (by decide +kernel)), fun _ h => absurd h List.not_mem_nil⟩⟩⟩⟩⟩, by decide, F_Mo, 18, rfl, by decide⟩
theorem ml_La_102 : MLV "HeapTowerLaw" 102 y_HT_parts b_HT_parts 2 (some .int) 0 6 := ⟨List.forall_mem_cons.mpr ⟨(gw_in (List.mem_of_getElem? (i := 773) (by decide +kernel)) (by decide +kernel)), List.forall_mem_cons.mpr ⟨(gw_in (List.mem_of_getElem? (i := 774) (by decide +kernel)) (by decide +kernel)), List.forall_mem_cons.mpr ⟨(gw_in (List.mem_of_getElem? (i := 775) (by decide +kernel)) (by decide +kernel)), List.forall_mem_cons.mpr ⟨(gw_in (List.mem_of_getElem? (i := 67) (by decide +kernel)) (by decide +kernel)), List.forall_mem_cons.mpr ⟨(gw_in (List.mem_of_getElem? (i := 776) (by decide +kernel)) (by decide +kernel)), fun _ h => absurd h List.not_mem_nil⟩⟩⟩⟩⟩, by decide, F_HT, 12, rfl, by decide⟩
theorem ml_La_105 : MLV "HeapTowerLaw" 105 y_Mo_parts b_Mo_parts 3 (some .int) 0 7 := ⟨List.forall_mem_cons.mpr ⟨(gw_in (List.mem_of_getElem? (i := 1101) (by decide +kernel)) (by decide +kernel)), List.forall_mem_cons.mpr ⟨(gw_in (List.mem_of_getElem? (i := 1102) (by decide +kernel)) (by decide +kernel)), List.forall_mem_cons.mpr ⟨(gw_in (List.mem_of_getElem? (i := 1103) (by decide +kernel)) (by decide +kernel)), List.forall_mem_cons.mpr ⟨(gw_in (List.mem_of_getElem? (i := 74) (by decide +kernel)) (by decide +kernel)), List.forall_mem_cons.mpr ⟨(gw_in (List.mem_of_getElem? (i := 1104) (by decide +kernel)) (by decide +kernel)), fun _ h => absurd h List.not_mem_nil⟩⟩⟩⟩⟩, by decide, F_Mo, 18, rfl, by decide⟩
theorem ml_La_106 : MLV "HeapTowerLaw" 106 y_HT_claim b_HT_claim 2 (some .int) 1 6 := ⟨List.forall_mem_cons.mpr ⟨(gw_in (List.mem_of_getElem? (i := 782) (by decide +kernel)) (by decide +kernel)), List.forall_mem_cons.mpr ⟨(gw_in (List.mem_of_getElem? (i := 783) (by decide +kernel)) (by decide +kernel)), List.forall_mem_cons.mpr ⟨(gw_in (List.mem_of_getElem? (i := 784) (by decide +kernel)) (by decide +kernel)), List.forall_mem_cons.mpr ⟨(gw_in (List.mem_of_getElem? (i := 67) (by decide +kernel)) (by decide +kernel)), List.forall_mem_cons.mpr ⟨(gw_in (List.mem_of_getElem? (i := 785) (by decide +kernel)) (by decide +kernel)), fun _ h => absurd h List.not_mem_nil⟩⟩⟩⟩⟩, by decide, F_HT, 12, rfl, by decide⟩
theorem ml_La_109 : MLV "HeapTowerLaw" 109 y_Mo_claim b_Mo_claim 2 (some .int) 1 7 := ⟨List.forall_mem_cons.mpr ⟨(gw_in (List.mem_of_getElem? (i := 1105) (by decide +kernel)) (by decide +kernel)), List.forall_mem_cons.mpr ⟨(gw_in (List.mem_of_getElem? (i := 1106) (by decide +kernel)) (by decide +kernel)), List.forall_mem_cons.mpr ⟨(gw_in (List.mem_of_getElem? (i := 1107) (by decide +kernel)) (by decide +kernel)), List.forall_mem_cons.mpr ⟨(gw_in (List.mem_of_getElem? (i := 74) (by decide +kernel)) (by decide +kernel)), List.forall_mem_cons.mpr ⟨(gw_in (List.mem_of_getElem? (i := 1108) (by decide +kernel)) (by decide +kernel)), fun _ h => absurd h List.not_mem_nil⟩⟩⟩⟩⟩, by decide, F_Mo, 18, rfl, by decide⟩
theorem ml_La_110 : MLV "HeapTowerLaw" 110 y_HT_sum b_HT_sum 2 (some .int) 0 6 := ⟨List.forall_mem_cons.mpr ⟨(gw_in (List.mem_of_getElem? (i := 790) (by decide +kernel)) (by decide +kernel)), List.forall_mem_cons.mpr ⟨(gw_in (List.mem_of_getElem? (i := 791) (by decide +kernel)) (by decide +kernel)), List.forall_mem_cons.mpr ⟨(gw_in (List.mem_of_getElem? (i := 792) (by decide +kernel)) (by decide +kernel)), List.forall_mem_cons.mpr ⟨(gw_in (List.mem_of_getElem? (i := 67) (by decide +kernel)) (by decide +kernel)), List.forall_mem_cons.mpr ⟨(gw_in (List.mem_of_getElem? (i := 793) (by decide +kernel)) (by decide +kernel)), fun _ h => absurd h List.not_mem_nil⟩⟩⟩⟩⟩, by decide, F_HT, 12, rfl, by decide⟩
theorem ml_La_113 : MLV "HeapTowerLaw" 113 y_Mo_sum b_Mo_sum 3 (some .int) 0 7 := ⟨List.forall_mem_cons.mpr ⟨(gw_in (List.mem_of_getElem? (i := 1109) (by decide +kernel)) (by decide +kernel)), List.forall_mem_cons.mpr ⟨(gw_in (List.mem_of_getElem? (i := 1110) (by decide +kernel)) (by decide +kernel)), List.forall_mem_cons.mpr ⟨(gw_in (List.mem_of_getElem? (i := 1111) (by decide +kernel)) (by decide +kernel)), List.forall_mem_cons.mpr ⟨(gw_in (List.mem_of_getElem? (i := 74) (by decide +kernel)) (by decide +kernel)), List.forall_mem_cons.mpr ⟨(gw_in (List.mem_of_getElem? (i := 1112) (by decide +kernel)) (by decide +kernel)), fun _ h => absurd h List.not_mem_nil⟩⟩⟩⟩⟩, by decide, F_Mo, 18, rfl, by decide⟩
theorem ml_La_114 : MLV "HeapTowerLaw" 114 y_HT_told b_HT_told 2 (some .int) 1 6 := ⟨List.forall_mem_cons.mpr ⟨(gw_in (List.mem_of_getElem? (i := 802) (by decide +kernel)) (by decide +kernel)), List.forall_mem_cons.mpr ⟨(gw_in (List.mem_of_getElem? (i := 803) (by decide +kernel)) (by decide +kernel)), List.forall_mem_cons.mpr ⟨(gw_in (List.mem_of_getElem? (i := 804) (by decide +kernel)) (by decide +kernel)), List.forall_mem_cons.mpr ⟨(gw_in (List.mem_of_getElem? (i := 67) (by decide +kernel)) (by decide +kernel)), List.forall_mem_cons.mpr ⟨(gw_in (List.mem_of_getElem? (i := 805) (by decide +kernel)) (by decide +kernel)), fun _ h => absurd h List.not_mem_nil⟩⟩⟩⟩⟩, by decide, F_HT, 12, rfl, by decide⟩
theorem ml_La_117 : MLV "HeapTowerLaw" 117 y_Mo_told b_Mo_told 2 (some .int) 1 7 := ⟨List.forall_mem_cons.mpr ⟨(gw_in (List.mem_of_getElem? (i := 1113) (by decide +kernel)) (by decide +kernel)), List.forall_mem_cons.mpr ⟨(gw_in (List.mem_of_getElem? (i := 1114) (by decide +kernel)) (by decide +kernel)), List.forall_mem_cons.mpr ⟨(gw_in (List.mem_of_getElem? (i := 1115) (by decide +kernel)) (by decide +kernel)), List.forall_mem_cons.mpr ⟨(gw_in (List.mem_of_getElem? (i := 74) (by decide +kernel)) (by decide +kernel)), List.forall_mem_cons.mpr ⟨(gw_in (List.mem_of_getElem? (i := 1116) (by decide +kernel)) (by decide +kernel)), fun _ h => absurd h List.not_mem_nil⟩⟩⟩⟩⟩, by decide, F_Mo, 18, rfl, by decide⟩
theorem nw_La_10 : NewC "HeapTowerLaw" 10 7 18 := ⟨R_Mo, F_Mo, t_Mo, iw_Mo, rfl, by decide, t_Mo_ok, (fun j hj => by rcases (show j = 0 ∨ j = 1 ∨ j = 2 ∨ j = 3 ∨ j = 4 ∨ j = 5 ∨ j = 6 ∨ j = 7 ∨ j = 8 ∨ j = 9 ∨ j = 10 ∨ j = 11 ∨ j = 12 ∨ j = 13 ∨ j = 14 ∨ j = 15 ∨ j = 16 ∨ j = 17 by omega) with rfl | rfl | rfl | rfl | rfl | rfl | rfl | rfl | rfl | rfl | rfl | rfl | rfl | rfl | rfl | rfl | rfl | rfl <;> first | exact Or.inl ⟨rfl, rfl⟩ | exact Or.inr ⟨rfl, rfl⟩), ⟨(gw_in (List.mem_of_getElem? (i := 806) (by decide +kernel)) (by decide +kernel)), (gw_in (List.mem_of_getElem? (i := 807) (by decide +kernel)) (by decide +kernel))⟩, (gw_in (List.mem_of_getElem? (i := 74) (by decide +kernel)) (by decide +kernel))⟩
theorem nw_La_7 : NewC "HeapTowerLaw" 7 6 12 := ⟨R_HT, F_HT, t_HT, iw_HT, rfl, by decide, t_HT_ok, (fun j hj => by rcases (show j = 0 ∨ j = 1 ∨ j = 2 ∨ j = 3 ∨ j = 4 ∨ j = 5 ∨ j = 6 ∨ j = 7 ∨ j = 8 ∨ j = 9 ∨ j = 10 ∨ j = 11 by omega) with rfl | rfl | rfl | rfl | rfl | rfl | rfl | rfl | rfl | rfl | rfl | rfl <;> first | exact Or.inl ⟨rfl, rfl⟩ | exact Or.inr ⟨rfl, rfl⟩), ⟨(gw_in (List.mem_of_getElem? (i := 78) (by decide +kernel)) (by decide +kernel)), (gw_in (List.mem_of_getElem? (i := 79) (by decide +kernel)) (by decide +kernel))⟩, (gw_in (List.mem_of_getElem? (i := 67) (by decide +kernel)) (by decide +kernel))⟩
theorem D_La_law_0 : decode b_La_law 0 = .ok (.new 7, 3) := by decide +kernel
theorem D_La_law_3 : decode b_La_law 3 = .ok (.dup, 1) := by decide +kernel
theorem D_La_law_4 : decode b_La_law 4 = .ok (.invokespecial 9, 3) := by decide +kernel
theorem D_La_law_7 : decode b_La_law 7 = .ok (.astore_n 1, 1) := by decide +kernel
theorem D_La_law_8 : decode b_La_law 8 = .ok (.new 10, 3) := by decide +kernel
theorem D_La_law_11 : decode b_La_law 11 = .ok (.dup, 1) := by decide +kernel
theorem D_La_law_12 : decode b_La_law 12 = .ok (.invokespecial 12, 3) := by decide +kernel
theorem D_La_law_15 : decode b_La_law 15 = .ok (.astore_n 2, 1) := by decide +kernel
theorem D_La_law_16 : decode b_La_law 16 = .ok (.iconst 0, 1) := by decide +kernel
theorem D_La_law_17 : decode b_La_law 17 = .ok (.istore_n 3, 1) := by decide +kernel
theorem D_La_law_18 : decode b_La_law 18 = .ok (.iload_n 3, 1) := by decide +kernel
theorem D_La_law_19 : decode b_La_law 19 = .ok (.aload_n 0, 1) := by decide +kernel
theorem D_La_law_20 : decode b_La_law 20 = .ok (.arraylength, 1) := by decide +kernel
theorem D_La_law_21 : decode b_La_law 21 = .ok (.iconst 5, 1) := by decide +kernel
theorem D_La_law_22 : decode b_La_law 22 = .ok (.isub, 1) := by decide +kernel
theorem D_La_law_23 : decode b_La_law 23 = .ok (.if_icmp .gt 706, 3) := by decide +kernel
theorem D_La_law_26 : decode b_La_law 26 = .ok (.aload_n 0, 1) := by decide +kernel
theorem D_La_law_27 : decode b_La_law 27 = .ok (.iload_n 3, 1) := by decide +kernel
theorem D_La_law_28 : decode b_La_law 28 = .ok (.iaload, 1) := by decide +kernel
theorem D_La_law_29 : decode b_La_law 29 = .ok (.bipush 31, 2) := by decide +kernel
theorem D_La_law_31 : decode b_La_law 31 = .ok (.iand, 1) := by decide +kernel
theorem D_La_law_32 : decode b_La_law 32 = .ok (.tableswitch 691 0 24 #[116, 149, 172, 225, 268, 281, 304, 347, 360, 373, 396, 409, 422, 445, 468, 491, 524, 547, 560, 573, 586, 619, 632, 655, 668], 116) := by decide +kernel
theorem D_La_law_148 : decode b_La_law 148 = .ok (.aload_n 1, 1) := by decide +kernel
theorem D_La_law_149 : decode b_La_law 149 = .ok (.aload_n 0, 1) := by decide +kernel
theorem D_La_law_150 : decode b_La_law 150 = .ok (.iload_n 3, 1) := by decide +kernel
theorem D_La_law_151 : decode b_La_law 151 = .ok (.iconst 1, 1) := by decide +kernel
theorem D_La_law_152 : decode b_La_law 152 = .ok (.iadd, 1) := by decide +kernel
theorem D_La_law_153 : decode b_La_law 153 = .ok (.iaload, 1) := by decide +kernel
theorem D_La_law_154 : decode b_La_law 154 = .ok (.aload_n 0, 1) := by decide +kernel
theorem D_La_law_155 : decode b_La_law 155 = .ok (.iload_n 3, 1) := by decide +kernel
theorem D_La_law_156 : decode b_La_law 156 = .ok (.iconst 2, 1) := by decide +kernel
theorem D_La_law_157 : decode b_La_law 157 = .ok (.iadd, 1) := by decide +kernel
theorem D_La_law_158 : decode b_La_law 158 = .ok (.iaload, 1) := by decide +kernel
theorem D_La_law_159 : decode b_La_law 159 = .ok (.invokevirtual 13, 3) := by decide +kernel
theorem D_La_law_162 : decode b_La_law 162 = .ok (.aload_n 2, 1) := by decide +kernel
theorem D_La_law_163 : decode b_La_law 163 = .ok (.aload_n 0, 1) := by decide +kernel
theorem D_La_law_164 : decode b_La_law 164 = .ok (.iload_n 3, 1) := by decide +kernel
theorem D_La_law_165 : decode b_La_law 165 = .ok (.iconst 1, 1) := by decide +kernel
theorem D_La_law_166 : decode b_La_law 166 = .ok (.iadd, 1) := by decide +kernel
theorem D_La_law_167 : decode b_La_law 167 = .ok (.iaload, 1) := by decide +kernel
theorem D_La_law_168 : decode b_La_law 168 = .ok (.aload_n 0, 1) := by decide +kernel
theorem D_La_law_169 : decode b_La_law 169 = .ok (.iload_n 3, 1) := by decide +kernel
theorem D_La_law_170 : decode b_La_law 170 = .ok (.iconst 2, 1) := by decide +kernel
theorem D_La_law_171 : decode b_La_law 171 = .ok (.iadd, 1) := by decide +kernel
theorem D_La_law_172 : decode b_La_law 172 = .ok (.iaload, 1) := by decide +kernel
theorem D_La_law_173 : decode b_La_law 173 = .ok (.invokevirtual 17, 3) := by decide +kernel
theorem D_La_law_176 : decode b_La_law 176 = .ok (.if_icmp .eq 547, 3) := by decide +kernel
theorem D_La_law_179 : decode b_La_law 179 = .ok (.iconst 0, 1) := by decide +kernel
theorem D_La_law_180 : decode b_La_law 180 = .ok (.ireturn, 1) := by decide +kernel
theorem D_La_law_181 : decode b_La_law 181 = .ok (.aload_n 1, 1) := by decide +kernel
theorem D_La_law_182 : decode b_La_law 182 = .ok (.aload_n 0, 1) := by decide +kernel
theorem D_La_law_183 : decode b_La_law 183 = .ok (.iload_n 3, 1) := by decide +kernel
theorem D_La_law_184 : decode b_La_law 184 = .ok (.iconst 1, 1) := by decide +kernel
theorem D_La_law_185 : decode b_La_law 185 = .ok (.iadd, 1) := by decide +kernel
theorem D_La_law_186 : decode b_La_law 186 = .ok (.iaload, 1) := by decide +kernel
theorem D_La_law_187 : decode b_La_law 187 = .ok (.invokevirtual 18, 3) := by decide +kernel
theorem D_La_law_190 : decode b_La_law 190 = .ok (.aload_n 2, 1) := by decide +kernel
theorem D_La_law_191 : decode b_La_law 191 = .ok (.aload_n 0, 1) := by decide +kernel
theorem D_La_law_192 : decode b_La_law 192 = .ok (.iload_n 3, 1) := by decide +kernel
theorem D_La_law_193 : decode b_La_law 193 = .ok (.iconst 1, 1) := by decide +kernel
theorem D_La_law_194 : decode b_La_law 194 = .ok (.iadd, 1) := by decide +kernel
theorem D_La_law_195 : decode b_La_law 195 = .ok (.iaload, 1) := by decide +kernel
theorem D_La_law_196 : decode b_La_law 196 = .ok (.invokevirtual 22, 3) := by decide +kernel
theorem D_La_law_199 : decode b_La_law 199 = .ok (.if_icmp .eq 524, 3) := by decide +kernel
theorem D_La_law_202 : decode b_La_law 202 = .ok (.iconst 0, 1) := by decide +kernel
theorem D_La_law_203 : decode b_La_law 203 = .ok (.ireturn, 1) := by decide +kernel
theorem D_La_law_204 : decode b_La_law 204 = .ok (.aload_n 1, 1) := by decide +kernel
theorem D_La_law_205 : decode b_La_law 205 = .ok (.aload_n 0, 1) := by decide +kernel
theorem D_La_law_206 : decode b_La_law 206 = .ok (.iload_n 3, 1) := by decide +kernel
theorem D_La_law_207 : decode b_La_law 207 = .ok (.iconst 1, 1) := by decide +kernel
theorem D_La_law_208 : decode b_La_law 208 = .ok (.iadd, 1) := by decide +kernel
theorem D_La_law_209 : decode b_La_law 209 = .ok (.iaload, 1) := by decide +kernel
theorem D_La_law_210 : decode b_La_law 210 = .ok (.aload_n 0, 1) := by decide +kernel
theorem D_La_law_211 : decode b_La_law 211 = .ok (.iload_n 3, 1) := by decide +kernel
theorem D_La_law_212 : decode b_La_law 212 = .ok (.iconst 2, 1) := by decide +kernel
theorem D_La_law_213 : decode b_La_law 213 = .ok (.iadd, 1) := by decide +kernel
theorem D_La_law_214 : decode b_La_law 214 = .ok (.iaload, 1) := by decide +kernel
theorem D_La_law_215 : decode b_La_law 215 = .ok (.aload_n 0, 1) := by decide +kernel
theorem D_La_law_216 : decode b_La_law 216 = .ok (.iload_n 3, 1) := by decide +kernel
theorem D_La_law_217 : decode b_La_law 217 = .ok (.iconst 3, 1) := by decide +kernel
theorem D_La_law_218 : decode b_La_law 218 = .ok (.iadd, 1) := by decide +kernel
theorem D_La_law_219 : decode b_La_law 219 = .ok (.iaload, 1) := by decide +kernel
theorem D_La_law_220 : decode b_La_law 220 = .ok (.aload_n 0, 1) := by decide +kernel
theorem D_La_law_221 : decode b_La_law 221 = .ok (.iload_n 3, 1) := by decide +kernel
theorem D_La_law_222 : decode b_La_law 222 = .ok (.iconst 4, 1) := by decide +kernel
theorem D_La_law_223 : decode b_La_law 223 = .ok (.iadd, 1) := by decide +kernel
theorem D_La_law_224 : decode b_La_law 224 = .ok (.iaload, 1) := by decide +kernel
theorem D_La_law_225 : decode b_La_law 225 = .ok (.invokevirtual 23, 3) := by decide +kernel
theorem D_La_law_228 : decode b_La_law 228 = .ok (.aload_n 2, 1) := by decide +kernel
theorem D_La_law_229 : decode b_La_law 229 = .ok (.aload_n 0, 1) := by decide +kernel
theorem D_La_law_230 : decode b_La_law 230 = .ok (.iload_n 3, 1) := by decide +kernel
theorem D_La_law_231 : decode b_La_law 231 = .ok (.iconst 1, 1) := by decide +kernel
theorem D_La_law_232 : decode b_La_law 232 = .ok (.iadd, 1) := by decide +kernel
theorem D_La_law_233 : decode b_La_law 233 = .ok (.iaload, 1) := by decide +kernel
theorem D_La_law_234 : decode b_La_law 234 = .ok (.aload_n 0, 1) := by decide +kernel
theorem D_La_law_235 : decode b_La_law 235 = .ok (.iload_n 3, 1) := by decide +kernel
theorem D_La_law_236 : decode b_La_law 236 = .ok (.iconst 2, 1) := by decide +kernel
theorem D_La_law_237 : decode b_La_law 237 = .ok (.iadd, 1) := by decide +kernel
theorem D_La_law_238 : decode b_La_law 238 = .ok (.iaload, 1) := by decide +kernel
theorem D_La_law_239 : decode b_La_law 239 = .ok (.aload_n 0, 1) := by decide +kernel
theorem D_La_law_240 : decode b_La_law 240 = .ok (.iload_n 3, 1) := by decide +kernel
theorem D_La_law_241 : decode b_La_law 241 = .ok (.iconst 3, 1) := by decide +kernel
theorem D_La_law_242 : decode b_La_law 242 = .ok (.iadd, 1) := by decide +kernel
theorem D_La_law_243 : decode b_La_law 243 = .ok (.iaload, 1) := by decide +kernel
theorem D_La_law_244 : decode b_La_law 244 = .ok (.aload_n 0, 1) := by decide +kernel
theorem D_La_law_245 : decode b_La_law 245 = .ok (.iload_n 3, 1) := by decide +kernel
theorem D_La_law_246 : decode b_La_law 246 = .ok (.iconst 4, 1) := by decide +kernel
theorem D_La_law_247 : decode b_La_law 247 = .ok (.iadd, 1) := by decide +kernel
theorem D_La_law_248 : decode b_La_law 248 = .ok (.iaload, 1) := by decide +kernel
theorem D_La_law_249 : decode b_La_law 249 = .ok (.invokevirtual 27, 3) := by decide +kernel
theorem D_La_law_252 : decode b_La_law 252 = .ok (.if_icmp .eq 471, 3) := by decide +kernel
theorem D_La_law_255 : decode b_La_law 255 = .ok (.iconst 0, 1) := by decide +kernel
theorem D_La_law_256 : decode b_La_law 256 = .ok (.ireturn, 1) := by decide +kernel
theorem D_La_law_257 : decode b_La_law 257 = .ok (.aload_n 1, 1) := by decide +kernel
theorem D_La_law_258 : decode b_La_law 258 = .ok (.aload_n 0, 1) := by decide +kernel
theorem D_La_law_259 : decode b_La_law 259 = .ok (.iload_n 3, 1) := by decide +kernel
theorem D_La_law_260 : decode b_La_law 260 = .ok (.iconst 1, 1) := by decide +kernel
theorem D_La_law_261 : decode b_La_law 261 = .ok (.iadd, 1) := by decide +kernel
theorem D_La_law_262 : decode b_La_law 262 = .ok (.iaload, 1) := by decide +kernel
theorem D_La_law_263 : decode b_La_law 263 = .ok (.aload_n 0, 1) := by decide +kernel
theorem D_La_law_264 : decode b_La_law 264 = .ok (.iload_n 3, 1) := by decide +kernel
theorem D_La_law_265 : decode b_La_law 265 = .ok (.iconst 2, 1) := by decide +kernel
theorem D_La_law_266 : decode b_La_law 266 = .ok (.iadd, 1) := by decide +kernel
theorem D_La_law_267 : decode b_La_law 267 = .ok (.iaload, 1) := by decide +kernel
theorem D_La_law_268 : decode b_La_law 268 = .ok (.aload_n 0, 1) := by decide +kernel
theorem D_La_law_269 : decode b_La_law 269 = .ok (.iload_n 3, 1) := by decide +kernel
theorem D_La_law_270 : decode b_La_law 270 = .ok (.iconst 3, 1) := by decide +kernel
theorem D_La_law_271 : decode b_La_law 271 = .ok (.iadd, 1) := by decide +kernel
theorem D_La_law_272 : decode b_La_law 272 = .ok (.iaload, 1) := by decide +kernel
theorem D_La_law_273 : decode b_La_law 273 = .ok (.invokevirtual 28, 3) := by decide +kernel
theorem D_La_law_276 : decode b_La_law 276 = .ok (.aload_n 2, 1) := by decide +kernel
theorem D_La_law_277 : decode b_La_law 277 = .ok (.aload_n 0, 1) := by decide +kernel
theorem D_La_law_278 : decode b_La_law 278 = .ok (.iload_n 3, 1) := by decide +kernel
theorem D_La_law_279 : decode b_La_law 279 = .ok (.iconst 1, 1) := by decide +kernel
theorem D_La_law_280 : decode b_La_law 280 = .ok (.iadd, 1) := by decide +kernel
theorem D_La_law_281 : decode b_La_law 281 = .ok (.iaload, 1) := by decide +kernel
theorem D_La_law_282 : decode b_La_law 282 = .ok (.aload_n 0, 1) := by decide +kernel
theorem D_La_law_283 : decode b_La_law 283 = .ok (.iload_n 3, 1) := by decide +kernel
theorem D_La_law_284 : decode b_La_law 284 = .ok (.iconst 2, 1) := by decide +kernel
theorem D_La_law_285 : decode b_La_law 285 = .ok (.iadd, 1) := by decide +kernel
theorem D_La_law_286 : decode b_La_law 286 = .ok (.iaload, 1) := by decide +kernel
theorem D_La_law_287 : decode b_La_law 287 = .ok (.aload_n 0, 1) := by decide +kernel
theorem D_La_law_288 : decode b_La_law 288 = .ok (.iload_n 3, 1) := by decide +kernel
theorem D_La_law_289 : decode b_La_law 289 = .ok (.iconst 3, 1) := by decide +kernel
theorem D_La_law_290 : decode b_La_law 290 = .ok (.iadd, 1) := by decide +kernel
theorem D_La_law_291 : decode b_La_law 291 = .ok (.iaload, 1) := by decide +kernel
theorem D_La_law_292 : decode b_La_law 292 = .ok (.invokevirtual 32, 3) := by decide +kernel
theorem D_La_law_295 : decode b_La_law 295 = .ok (.if_icmp .eq 428, 3) := by decide +kernel
theorem D_La_law_298 : decode b_La_law 298 = .ok (.iconst 0, 1) := by decide +kernel
theorem D_La_law_299 : decode b_La_law 299 = .ok (.ireturn, 1) := by decide +kernel
theorem D_La_law_300 : decode b_La_law 300 = .ok (.aload_n 1, 1) := by decide +kernel
theorem D_La_law_301 : decode b_La_law 301 = .ok (.invokevirtual 33, 3) := by decide +kernel
theorem D_La_law_304 : decode b_La_law 304 = .ok (.aload_n 2, 1) := by decide +kernel
theorem D_La_law_305 : decode b_La_law 305 = .ok (.invokevirtual 37, 3) := by decide +kernel
theorem D_La_law_308 : decode b_La_law 308 = .ok (.if_icmp .eq 415, 3) := by decide +kernel
theorem D_La_law_311 : decode b_La_law 311 = .ok (.iconst 0, 1) := by decide +kernel
theorem D_La_law_312 : decode b_La_law 312 = .ok (.ireturn, 1) := by decide +kernel
theorem D_La_law_313 : decode b_La_law 313 = .ok (.aload_n 1, 1) := by decide +kernel
theorem D_La_law_314 : decode b_La_law 314 = .ok (.aload_n 0, 1) := by decide +kernel
theorem D_La_law_315 : decode b_La_law 315 = .ok (.iload_n 3, 1) := by decide +kernel
theorem D_La_law_316 : decode b_La_law 316 = .ok (.iconst 1, 1) := by decide +kernel
theorem D_La_law_317 : decode b_La_law 317 = .ok (.iadd, 1) := by decide +kernel
theorem D_La_law_318 : decode b_La_law 318 = .ok (.iaload, 1) := by decide +kernel
theorem D_La_law_319 : decode b_La_law 319 = .ok (.invokevirtual 38, 3) := by decide +kernel
theorem D_La_law_322 : decode b_La_law 322 = .ok (.aload_n 2, 1) := by decide +kernel
theorem D_La_law_323 : decode b_La_law 323 = .ok (.aload_n 0, 1) := by decide +kernel
theorem D_La_law_324 : decode b_La_law 324 = .ok (.iload_n 3, 1) := by decide +kernel
theorem D_La_law_325 : decode b_La_law 325 = .ok (.iconst 1, 1) := by decide +kernel
theorem D_La_law_326 : decode b_La_law 326 = .ok (.iadd, 1) := by decide +kernel
theorem D_La_law_327 : decode b_La_law 327 = .ok (.iaload, 1) := by decide +kernel
theorem D_La_law_328 : decode b_La_law 328 = .ok (.invokevirtual 41, 3) := by decide +kernel
theorem D_La_law_331 : decode b_La_law 331 = .ok (.if_icmp .eq 392, 3) := by decide +kernel
theorem D_La_law_334 : decode b_La_law 334 = .ok (.iconst 0, 1) := by decide +kernel
theorem D_La_law_335 : decode b_La_law 335 = .ok (.ireturn, 1) := by decide +kernel
theorem D_La_law_336 : decode b_La_law 336 = .ok (.aload_n 1, 1) := by decide +kernel
theorem D_La_law_337 : decode b_La_law 337 = .ok (.aload_n 0, 1) := by decide +kernel
theorem D_La_law_338 : decode b_La_law 338 = .ok (.iload_n 3, 1) := by decide +kernel
theorem D_La_law_339 : decode b_La_law 339 = .ok (.iconst 1, 1) := by decide +kernel
theorem D_La_law_340 : decode b_La_law 340 = .ok (.iadd, 1) := by decide +kernel
theorem D_La_law_341 : decode b_La_law 341 = .ok (.iaload, 1) := by decide +kernel
theorem D_La_law_342 : decode b_La_law 342 = .ok (.aload_n 0, 1) := by decide +kernel
theorem D_La_law_343 : decode b_La_law 343 = .ok (.iload_n 3, 1) := by decide +kernel
theorem D_La_law_344 : decode b_La_law 344 = .ok (.iconst 2, 1) := by decide +kernel
theorem D_La_law_345 : decode b_La_law 345 = .ok (.iadd, 1) := by decide +kernel
theorem D_La_law_346 : decode b_La_law 346 = .ok (.iaload, 1) := by decide +kernel
theorem D_La_law_347 : decode b_La_law 347 = .ok (.aload_n 0, 1) := by decide +kernel
theorem D_La_law_348 : decode b_La_law 348 = .ok (.iload_n 3, 1) := by decide +kernel
theorem D_La_law_349 : decode b_La_law 349 = .ok (.iconst 3, 1) := by decide +kernel
theorem D_La_law_350 : decode b_La_law 350 = .ok (.iadd, 1) := by decide +kernel
theorem D_La_law_351 : decode b_La_law 351 = .ok (.iaload, 1) := by decide +kernel
theorem D_La_law_352 : decode b_La_law 352 = .ok (.invokevirtual 42, 3) := by decide +kernel
theorem D_La_law_355 : decode b_La_law 355 = .ok (.aload_n 2, 1) := by decide +kernel
theorem D_La_law_356 : decode b_La_law 356 = .ok (.aload_n 0, 1) := by decide +kernel
theorem D_La_law_357 : decode b_La_law 357 = .ok (.iload_n 3, 1) := by decide +kernel
theorem D_La_law_358 : decode b_La_law 358 = .ok (.iconst 1, 1) := by decide +kernel
theorem D_La_law_359 : decode b_La_law 359 = .ok (.iadd, 1) := by decide +kernel
theorem D_La_law_360 : decode b_La_law 360 = .ok (.iaload, 1) := by decide +kernel
theorem D_La_law_361 : decode b_La_law 361 = .ok (.aload_n 0, 1) := by decide +kernel
theorem D_La_law_362 : decode b_La_law 362 = .ok (.iload_n 3, 1) := by decide +kernel
theorem D_La_law_363 : decode b_La_law 363 = .ok (.iconst 2, 1) := by decide +kernel
theorem D_La_law_364 : decode b_La_law 364 = .ok (.iadd, 1) := by decide +kernel
theorem D_La_law_365 : decode b_La_law 365 = .ok (.iaload, 1) := by decide +kernel
theorem D_La_law_366 : decode b_La_law 366 = .ok (.aload_n 0, 1) := by decide +kernel
theorem D_La_law_367 : decode b_La_law 367 = .ok (.iload_n 3, 1) := by decide +kernel
theorem D_La_law_368 : decode b_La_law 368 = .ok (.iconst 3, 1) := by decide +kernel
theorem D_La_law_369 : decode b_La_law 369 = .ok (.iadd, 1) := by decide +kernel
theorem D_La_law_370 : decode b_La_law 370 = .ok (.iaload, 1) := by decide +kernel
theorem D_La_law_371 : decode b_La_law 371 = .ok (.invokevirtual 45, 3) := by decide +kernel
theorem D_La_law_374 : decode b_La_law 374 = .ok (.if_icmp .eq 349, 3) := by decide +kernel
theorem D_La_law_377 : decode b_La_law 377 = .ok (.iconst 0, 1) := by decide +kernel
theorem D_La_law_378 : decode b_La_law 378 = .ok (.ireturn, 1) := by decide +kernel
theorem D_La_law_379 : decode b_La_law 379 = .ok (.aload_n 1, 1) := by decide +kernel
theorem D_La_law_380 : decode b_La_law 380 = .ok (.invokevirtual 46, 3) := by decide +kernel
theorem D_La_law_383 : decode b_La_law 383 = .ok (.aload_n 2, 1) := by decide +kernel
theorem D_La_law_384 : decode b_La_law 384 = .ok (.invokevirtual 49, 3) := by decide +kernel
theorem D_La_law_387 : decode b_La_law 387 = .ok (.if_icmp .eq 336, 3) := by decide +kernel
theorem D_La_law_390 : decode b_La_law 390 = .ok (.iconst 0, 1) := by decide +kernel
theorem D_La_law_391 : decode b_La_law 391 = .ok (.ireturn, 1) := by decide +kernel
theorem D_La_law_392 : decode b_La_law 392 = .ok (.aload_n 1, 1) := by decide +kernel
theorem D_La_law_393 : decode b_La_law 393 = .ok (.invokevirtual 50, 3) := by decide +kernel
theorem D_La_law_396 : decode b_La_law 396 = .ok (.aload_n 2, 1) := by decide +kernel
theorem D_La_law_397 : decode b_La_law 397 = .ok (.invokevirtual 53, 3) := by decide +kernel
theorem D_La_law_400 : decode b_La_law 400 = .ok (.if_icmp .eq 323, 3) := by decide +kernel
theorem D_La_law_403 : decode b_La_law 403 = .ok (.iconst 0, 1) := by decide +kernel
theorem D_La_law_404 : decode b_La_law 404 = .ok (.ireturn, 1) := by decide +kernel
theorem D_La_law_405 : decode b_La_law 405 = .ok (.aload_n 1, 1) := by decide +kernel
theorem D_La_law_406 : decode b_La_law 406 = .ok (.aload_n 0, 1) := by decide +kernel
theorem D_La_law_407 : decode b_La_law 407 = .ok (.iload_n 3, 1) := by decide +kernel
theorem D_La_law_408 : decode b_La_law 408 = .ok (.iconst 1, 1) := by decide +kernel
theorem D_La_law_409 : decode b_La_law 409 = .ok (.iadd, 1) := by decide +kernel
theorem D_La_law_410 : decode b_La_law 410 = .ok (.iaload, 1) := by decide +kernel
theorem D_La_law_411 : decode b_La_law 411 = .ok (.invokevirtual 54, 3) := by decide +kernel
theorem D_La_law_414 : decode b_La_law 414 = .ok (.aload_n 2, 1) := by decide +kernel
theorem D_La_law_415 : decode b_La_law 415 = .ok (.aload_n 0, 1) := by decide +kernel
theorem D_La_law_416 : decode b_La_law 416 = .ok (.iload_n 3, 1) := by decide +kernel
theorem D_La_law_417 : decode b_La_law 417 = .ok (.iconst 1, 1) := by decide +kernel
theorem D_La_law_418 : decode b_La_law 418 = .ok (.iadd, 1) := by decide +kernel
theorem D_La_law_419 : decode b_La_law 419 = .ok (.iaload, 1) := by decide +kernel
theorem D_La_law_420 : decode b_La_law 420 = .ok (.invokevirtual 57, 3) := by decide +kernel
theorem D_La_law_423 : decode b_La_law 423 = .ok (.if_icmp .eq 300, 3) := by decide +kernel
theorem D_La_law_426 : decode b_La_law 426 = .ok (.iconst 0, 1) := by decide +kernel
theorem D_La_law_427 : decode b_La_law 427 = .ok (.ireturn, 1) := by decide +kernel
theorem D_La_law_428 : decode b_La_law 428 = .ok (.aload_n 1, 1) := by decide +kernel
theorem D_La_law_429 : decode b_La_law 429 = .ok (.invokevirtual 58, 3) := by decide +kernel
theorem D_La_law_432 : decode b_La_law 432 = .ok (.aload_n 2, 1) := by decide +kernel
theorem D_La_law_433 : decode b_La_law 433 = .ok (.invokevirtual 61, 3) := by decide +kernel
theorem D_La_law_436 : decode b_La_law 436 = .ok (.if_icmp .eq 287, 3) := by decide +kernel
theorem D_La_law_439 : decode b_La_law 439 = .ok (.iconst 0, 1) := by decide +kernel
theorem D_La_law_440 : decode b_La_law 440 = .ok (.ireturn, 1) := by decide +kernel
theorem D_La_law_441 : decode b_La_law 441 = .ok (.aload_n 1, 1) := by decide +kernel
theorem D_La_law_442 : decode b_La_law 442 = .ok (.invokevirtual 62, 3) := by decide +kernel
theorem D_La_law_445 : decode b_La_law 445 = .ok (.aload_n 2, 1) := by decide +kernel
theorem D_La_law_446 : decode b_La_law 446 = .ok (.invokevirtual 65, 3) := by decide +kernel
theorem D_La_law_449 : decode b_La_law 449 = .ok (.if_icmp .eq 274, 3) := by decide +kernel
theorem D_La_law_452 : decode b_La_law 452 = .ok (.iconst 0, 1) := by decide +kernel
theorem D_La_law_453 : decode b_La_law 453 = .ok (.ireturn, 1) := by decide +kernel
theorem D_La_law_454 : decode b_La_law 454 = .ok (.aload_n 1, 1) := by decide +kernel
theorem D_La_law_455 : decode b_La_law 455 = .ok (.aload_n 0, 1) := by decide +kernel
theorem D_La_law_456 : decode b_La_law 456 = .ok (.iload_n 3, 1) := by decide +kernel
theorem D_La_law_457 : decode b_La_law 457 = .ok (.iconst 1, 1) := by decide +kernel
theorem D_La_law_458 : decode b_La_law 458 = .ok (.iadd, 1) := by decide +kernel
theorem D_La_law_459 : decode b_La_law 459 = .ok (.iaload, 1) := by decide +kernel
theorem D_La_law_460 : decode b_La_law 460 = .ok (.invokevirtual 66, 3) := by decide +kernel
theorem D_La_law_463 : decode b_La_law 463 = .ok (.aload_n 2, 1) := by decide +kernel
theorem D_La_law_464 : decode b_La_law 464 = .ok (.aload_n 0, 1) := by decide +kernel
theorem D_La_law_465 : decode b_La_law 465 = .ok (.iload_n 3, 1) := by decide +kernel
theorem D_La_law_466 : decode b_La_law 466 = .ok (.iconst 1, 1) := by decide +kernel
theorem D_La_law_467 : decode b_La_law 467 = .ok (.iadd, 1) := by decide +kernel
theorem D_La_law_468 : decode b_La_law 468 = .ok (.iaload, 1) := by decide +kernel
theorem D_La_law_469 : decode b_La_law 469 = .ok (.invokevirtual 69, 3) := by decide +kernel
theorem D_La_law_472 : decode b_La_law 472 = .ok (.if_icmp .eq 251, 3) := by decide +kernel
theorem D_La_law_475 : decode b_La_law 475 = .ok (.iconst 0, 1) := by decide +kernel
theorem D_La_law_476 : decode b_La_law 476 = .ok (.ireturn, 1) := by decide +kernel
theorem D_La_law_477 : decode b_La_law 477 = .ok (.aload_n 1, 1) := by decide +kernel
theorem D_La_law_478 : decode b_La_law 478 = .ok (.aload_n 0, 1) := by decide +kernel
theorem D_La_law_479 : decode b_La_law 479 = .ok (.iload_n 3, 1) := by decide +kernel
theorem D_La_law_480 : decode b_La_law 480 = .ok (.iconst 1, 1) := by decide +kernel
theorem D_La_law_481 : decode b_La_law 481 = .ok (.iadd, 1) := by decide +kernel
theorem D_La_law_482 : decode b_La_law 482 = .ok (.iaload, 1) := by decide +kernel
theorem D_La_law_483 : decode b_La_law 483 = .ok (.invokevirtual 70, 3) := by decide +kernel
theorem D_La_law_486 : decode b_La_law 486 = .ok (.aload_n 2, 1) := by decide +kernel
theorem D_La_law_487 : decode b_La_law 487 = .ok (.aload_n 0, 1) := by decide +kernel
theorem D_La_law_488 : decode b_La_law 488 = .ok (.iload_n 3, 1) := by decide +kernel
theorem D_La_law_489 : decode b_La_law 489 = .ok (.iconst 1, 1) := by decide +kernel
theorem D_La_law_490 : decode b_La_law 490 = .ok (.iadd, 1) := by decide +kernel
theorem D_La_law_491 : decode b_La_law 491 = .ok (.iaload, 1) := by decide +kernel
theorem D_La_law_492 : decode b_La_law 492 = .ok (.invokevirtual 73, 3) := by decide +kernel
theorem D_La_law_495 : decode b_La_law 495 = .ok (.if_icmp .eq 228, 3) := by decide +kernel
theorem D_La_law_498 : decode b_La_law 498 = .ok (.iconst 0, 1) := by decide +kernel
theorem D_La_law_499 : decode b_La_law 499 = .ok (.ireturn, 1) := by decide +kernel
theorem D_La_law_500 : decode b_La_law 500 = .ok (.aload_n 1, 1) := by decide +kernel
theorem D_La_law_501 : decode b_La_law 501 = .ok (.aload_n 0, 1) := by decide +kernel
theorem D_La_law_502 : decode b_La_law 502 = .ok (.iload_n 3, 1) := by decide +kernel
theorem D_La_law_503 : decode b_La_law 503 = .ok (.iconst 1, 1) := by decide +kernel
theorem D_La_law_504 : decode b_La_law 504 = .ok (.iadd, 1) := by decide +kernel
theorem D_La_law_505 : decode b_La_law 505 = .ok (.iaload, 1) := by decide +kernel
theorem D_La_law_506 : decode b_La_law 506 = .ok (.invokevirtual 74, 3) := by decide +kernel
theorem D_La_law_509 : decode b_La_law 509 = .ok (.aload_n 2, 1) := by decide +kernel
theorem D_La_law_510 : decode b_La_law 510 = .ok (.aload_n 0, 1) := by decide +kernel
theorem D_La_law_511 : decode b_La_law 511 = .ok (.iload_n 3, 1) := by decide +kernel
theorem D_La_law_512 : decode b_La_law 512 = .ok (.iconst 1, 1) := by decide +kernel
theorem D_La_law_513 : decode b_La_law 513 = .ok (.iadd, 1) := by decide +kernel
theorem D_La_law_514 : decode b_La_law 514 = .ok (.iaload, 1) := by decide +kernel
theorem D_La_law_515 : decode b_La_law 515 = .ok (.invokevirtual 77, 3) := by decide +kernel
theorem D_La_law_518 : decode b_La_law 518 = .ok (.if_icmp .eq 205, 3) := by decide +kernel
theorem D_La_law_521 : decode b_La_law 521 = .ok (.iconst 0, 1) := by decide +kernel
theorem D_La_law_522 : decode b_La_law 522 = .ok (.ireturn, 1) := by decide +kernel
theorem D_La_law_523 : decode b_La_law 523 = .ok (.aload_n 1, 1) := by decide +kernel
theorem D_La_law_524 : decode b_La_law 524 = .ok (.aload_n 0, 1) := by decide +kernel
theorem D_La_law_525 : decode b_La_law 525 = .ok (.iload_n 3, 1) := by decide +kernel
theorem D_La_law_526 : decode b_La_law 526 = .ok (.iconst 1, 1) := by decide +kernel
theorem D_La_law_527 : decode b_La_law 527 = .ok (.iadd, 1) := by decide +kernel
theorem D_La_law_528 : decode b_La_law 528 = .ok (.iaload, 1) := by decide +kernel
theorem D_La_law_529 : decode b_La_law 529 = .ok (.aload_n 0, 1) := by decide +kernel
theorem D_La_law_530 : decode b_La_law 530 = .ok (.iload_n 3, 1) := by decide +kernel
theorem D_La_law_531 : decode b_La_law 531 = .ok (.iconst 2, 1) := by decide +kernel
theorem D_La_law_532 : decode b_La_law 532 = .ok (.iadd, 1) := by decide +kernel
theorem D_La_law_533 : decode b_La_law 533 = .ok (.iaload, 1) := by decide +kernel
theorem D_La_law_534 : decode b_La_law 534 = .ok (.invokevirtual 78, 3) := by decide +kernel
theorem D_La_law_537 : decode b_La_law 537 = .ok (.aload_n 2, 1) := by decide +kernel
theorem D_La_law_538 : decode b_La_law 538 = .ok (.aload_n 0, 1) := by decide +kernel
theorem D_La_law_539 : decode b_La_law 539 = .ok (.iload_n 3, 1) := by decide +kernel
theorem D_La_law_540 : decode b_La_law 540 = .ok (.iconst 1, 1) := by decide +kernel
theorem D_La_law_541 : decode b_La_law 541 = .ok (.iadd, 1) := by decide +kernel
theorem D_La_law_542 : decode b_La_law 542 = .ok (.iaload, 1) := by decide +kernel
theorem D_La_law_543 : decode b_La_law 543 = .ok (.aload_n 0, 1) := by decide +kernel
theorem D_La_law_544 : decode b_La_law 544 = .ok (.iload_n 3, 1) := by decide +kernel
theorem D_La_law_545 : decode b_La_law 545 = .ok (.iconst 2, 1) := by decide +kernel
theorem D_La_law_546 : decode b_La_law 546 = .ok (.iadd, 1) := by decide +kernel
theorem D_La_law_547 : decode b_La_law 547 = .ok (.iaload, 1) := by decide +kernel
theorem D_La_law_548 : decode b_La_law 548 = .ok (.invokevirtual 81, 3) := by decide +kernel
theorem D_La_law_551 : decode b_La_law 551 = .ok (.if_icmp .eq 172, 3) := by decide +kernel
theorem D_La_law_554 : decode b_La_law 554 = .ok (.iconst 0, 1) := by decide +kernel
theorem D_La_law_555 : decode b_La_law 555 = .ok (.ireturn, 1) := by decide +kernel
theorem D_La_law_556 : decode b_La_law 556 = .ok (.aload_n 1, 1) := by decide +kernel
theorem D_La_law_557 : decode b_La_law 557 = .ok (.aload_n 0, 1) := by decide +kernel
theorem D_La_law_558 : decode b_La_law 558 = .ok (.iload_n 3, 1) := by decide +kernel
theorem D_La_law_559 : decode b_La_law 559 = .ok (.iconst 1, 1) := by decide +kernel
theorem D_La_law_560 : decode b_La_law 560 = .ok (.iadd, 1) := by decide +kernel
theorem D_La_law_561 : decode b_La_law 561 = .ok (.iaload, 1) := by decide +kernel
theorem D_La_law_562 : decode b_La_law 562 = .ok (.invokevirtual 82, 3) := by decide +kernel
theorem D_La_law_565 : decode b_La_law 565 = .ok (.aload_n 2, 1) := by decide +kernel
theorem D_La_law_566 : decode b_La_law 566 = .ok (.aload_n 0, 1) := by decide +kernel
theorem D_La_law_567 : decode b_La_law 567 = .ok (.iload_n 3, 1) := by decide +kernel
theorem D_La_law_568 : decode b_La_law 568 = .ok (.iconst 1, 1) := by decide +kernel
theorem D_La_law_569 : decode b_La_law 569 = .ok (.iadd, 1) := by decide +kernel
theorem D_La_law_570 : decode b_La_law 570 = .ok (.iaload, 1) := by decide +kernel
theorem D_La_law_571 : decode b_La_law 571 = .ok (.invokevirtual 85, 3) := by decide +kernel
theorem D_La_law_574 : decode b_La_law 574 = .ok (.if_icmp .eq 149, 3) := by decide +kernel
theorem D_La_law_577 : decode b_La_law 577 = .ok (.iconst 0, 1) := by decide +kernel
theorem D_La_law_578 : decode b_La_law 578 = .ok (.ireturn, 1) := by decide +kernel
theorem D_La_law_579 : decode b_La_law 579 = .ok (.aload_n 1, 1) := by decide +kernel
theorem D_La_law_580 : decode b_La_law 580 = .ok (.invokevirtual 86, 3) := by decide +kernel
theorem D_La_law_583 : decode b_La_law 583 = .ok (.aload_n 2, 1) := by decide +kernel
theorem D_La_law_584 : decode b_La_law 584 = .ok (.invokevirtual 89, 3) := by decide +kernel
theorem D_La_law_587 : decode b_La_law 587 = .ok (.if_icmp .eq 136, 3) := by decide +kernel
theorem D_La_law_590 : decode b_La_law 590 = .ok (.iconst 0, 1) := by decide +kernel
theorem D_La_law_591 : decode b_La_law 591 = .ok (.ireturn, 1) := by decide +kernel
theorem D_La_law_592 : decode b_La_law 592 = .ok (.aload_n 1, 1) := by decide +kernel
theorem D_La_law_593 : decode b_La_law 593 = .ok (.invokevirtual 90, 3) := by decide +kernel
theorem D_La_law_596 : decode b_La_law 596 = .ok (.aload_n 2, 1) := by decide +kernel
theorem D_La_law_597 : decode b_La_law 597 = .ok (.invokevirtual 93, 3) := by decide +kernel
theorem D_La_law_600 : decode b_La_law 600 = .ok (.if_icmp .eq 123, 3) := by decide +kernel
theorem D_La_law_603 : decode b_La_law 603 = .ok (.iconst 0, 1) := by decide +kernel
theorem D_La_law_604 : decode b_La_law 604 = .ok (.ireturn, 1) := by decide +kernel
theorem D_La_law_605 : decode b_La_law 605 = .ok (.aload_n 1, 1) := by decide +kernel
theorem D_La_law_606 : decode b_La_law 606 = .ok (.invokevirtual 94, 3) := by decide +kernel
theorem D_La_law_609 : decode b_La_law 609 = .ok (.aload_n 2, 1) := by decide +kernel
theorem D_La_law_610 : decode b_La_law 610 = .ok (.invokevirtual 97, 3) := by decide +kernel
theorem D_La_law_613 : decode b_La_law 613 = .ok (.if_icmp .eq 110, 3) := by decide +kernel
theorem D_La_law_616 : decode b_La_law 616 = .ok (.iconst 0, 1) := by decide +kernel
theorem D_La_law_617 : decode b_La_law 617 = .ok (.ireturn, 1) := by decide +kernel
theorem D_La_law_618 : decode b_La_law 618 = .ok (.aload_n 1, 1) := by decide +kernel
theorem D_La_law_619 : decode b_La_law 619 = .ok (.aload_n 0, 1) := by decide +kernel
theorem D_La_law_620 : decode b_La_law 620 = .ok (.iload_n 3, 1) := by decide +kernel
theorem D_La_law_621 : decode b_La_law 621 = .ok (.iconst 1, 1) := by decide +kernel
theorem D_La_law_622 : decode b_La_law 622 = .ok (.iadd, 1) := by decide +kernel
theorem D_La_law_623 : decode b_La_law 623 = .ok (.iaload, 1) := by decide +kernel
theorem D_La_law_624 : decode b_La_law 624 = .ok (.aload_n 0, 1) := by decide +kernel
theorem D_La_law_625 : decode b_La_law 625 = .ok (.iload_n 3, 1) := by decide +kernel
theorem D_La_law_626 : decode b_La_law 626 = .ok (.iconst 2, 1) := by decide +kernel
theorem D_La_law_627 : decode b_La_law 627 = .ok (.iadd, 1) := by decide +kernel
theorem D_La_law_628 : decode b_La_law 628 = .ok (.iaload, 1) := by decide +kernel
theorem D_La_law_629 : decode b_La_law 629 = .ok (.invokevirtual 98, 3) := by decide +kernel
theorem D_La_law_632 : decode b_La_law 632 = .ok (.aload_n 2, 1) := by decide +kernel
theorem D_La_law_633 : decode b_La_law 633 = .ok (.aload_n 0, 1) := by decide +kernel
theorem D_La_law_634 : decode b_La_law 634 = .ok (.iload_n 3, 1) := by decide +kernel
theorem D_La_law_635 : decode b_La_law 635 = .ok (.iconst 1, 1) := by decide +kernel
theorem D_La_law_636 : decode b_La_law 636 = .ok (.iadd, 1) := by decide +kernel
theorem D_La_law_637 : decode b_La_law 637 = .ok (.iaload, 1) := by decide +kernel
theorem D_La_law_638 : decode b_La_law 638 = .ok (.aload_n 0, 1) := by decide +kernel
theorem D_La_law_639 : decode b_La_law 639 = .ok (.iload_n 3, 1) := by decide +kernel
theorem D_La_law_640 : decode b_La_law 640 = .ok (.iconst 2, 1) := by decide +kernel
theorem D_La_law_641 : decode b_La_law 641 = .ok (.iadd, 1) := by decide +kernel
theorem D_La_law_642 : decode b_La_law 642 = .ok (.iaload, 1) := by decide +kernel
theorem D_La_law_643 : decode b_La_law 643 = .ok (.invokevirtual 101, 3) := by decide +kernel
theorem D_La_law_646 : decode b_La_law 646 = .ok (.if_icmp .eq 77, 3) := by decide +kernel
theorem D_La_law_649 : decode b_La_law 649 = .ok (.iconst 0, 1) := by decide +kernel
theorem D_La_law_650 : decode b_La_law 650 = .ok (.ireturn, 1) := by decide +kernel
theorem D_La_law_651 : decode b_La_law 651 = .ok (.aload_n 1, 1) := by decide +kernel
theorem D_La_law_652 : decode b_La_law 652 = .ok (.invokevirtual 102, 3) := by decide +kernel
theorem D_La_law_655 : decode b_La_law 655 = .ok (.aload_n 2, 1) := by decide +kernel
theorem D_La_law_656 : decode b_La_law 656 = .ok (.invokevirtual 105, 3) := by decide +kernel
theorem D_La_law_659 : decode b_La_law 659 = .ok (.if_icmp .eq 64, 3) := by decide +kernel
theorem D_La_law_662 : decode b_La_law 662 = .ok (.iconst 0, 1) := by decide +kernel
theorem D_La_law_663 : decode b_La_law 663 = .ok (.ireturn, 1) := by decide +kernel
theorem D_La_law_664 : decode b_La_law 664 = .ok (.aload_n 1, 1) := by decide +kernel
theorem D_La_law_665 : decode b_La_law 665 = .ok (.aload_n 0, 1) := by decide +kernel
theorem D_La_law_666 : decode b_La_law 666 = .ok (.iload_n 3, 1) := by decide +kernel
theorem D_La_law_667 : decode b_La_law 667 = .ok (.iconst 1, 1) := by decide +kernel
theorem D_La_law_668 : decode b_La_law 668 = .ok (.iadd, 1) := by decide +kernel
theorem D_La_law_669 : decode b_La_law 669 = .ok (.iaload, 1) := by decide +kernel
theorem D_La_law_670 : decode b_La_law 670 = .ok (.invokevirtual 106, 3) := by decide +kernel
theorem D_La_law_673 : decode b_La_law 673 = .ok (.aload_n 2, 1) := by decide +kernel
theorem D_La_law_674 : decode b_La_law 674 = .ok (.aload_n 0, 1) := by decide +kernel
theorem D_La_law_675 : decode b_La_law 675 = .ok (.iload_n 3, 1) := by decide +kernel
theorem D_La_law_676 : decode b_La_law 676 = .ok (.iconst 1, 1) := by decide +kernel
theorem D_La_law_677 : decode b_La_law 677 = .ok (.iadd, 1) := by decide +kernel
theorem D_La_law_678 : decode b_La_law 678 = .ok (.iaload, 1) := by decide +kernel
theorem D_La_law_679 : decode b_La_law 679 = .ok (.invokevirtual 109, 3) := by decide +kernel
theorem D_La_law_682 : decode b_La_law 682 = .ok (.if_icmp .eq 41, 3) := by decide +kernel
theorem D_La_law_685 : decode b_La_law 685 = .ok (.iconst 0, 1) := by decide +kernel
theorem D_La_law_686 : decode b_La_law 686 = .ok (.ireturn, 1) := by decide +kernel
theorem D_La_law_687 : decode b_La_law 687 = .ok (.aload_n 1, 1) := by decide +kernel
theorem D_La_law_688 : decode b_La_law 688 = .ok (.invokevirtual 110, 3) := by decide +kernel
theorem D_La_law_691 : decode b_La_law 691 = .ok (.aload_n 2, 1) := by decide +kernel
theorem D_La_law_692 : decode b_La_law 692 = .ok (.invokevirtual 113, 3) := by decide +kernel
theorem D_La_law_695 : decode b_La_law 695 = .ok (.if_icmp .eq 28, 3) := by decide +kernel
theorem D_La_law_698 : decode b_La_law 698 = .ok (.iconst 0, 1) := by decide +kernel
theorem D_La_law_699 : decode b_La_law 699 = .ok (.ireturn, 1) := by decide +kernel
theorem D_La_law_700 : decode b_La_law 700 = .ok (.aload_n 1, 1) := by decide +kernel
theorem D_La_law_701 : decode b_La_law 701 = .ok (.aload_n 0, 1) := by decide +kernel
theorem D_La_law_702 : decode b_La_law 702 = .ok (.iload_n 3, 1) := by decide +kernel
theorem D_La_law_703 : decode b_La_law 703 = .ok (.iconst 1, 1) := by decide +kernel
theorem D_La_law_704 : decode b_La_law 704 = .ok (.iadd, 1) := by decide +kernel
theorem D_La_law_705 : decode b_La_law 705 = .ok (.iaload, 1) := by decide +kernel
theorem D_La_law_706 : decode b_La_law 706 = .ok (.invokevirtual 114, 3) := by decide +kernel
theorem D_La_law_709 : decode b_La_law 709 = .ok (.aload_n 2, 1) := by decide +kernel
theorem D_La_law_710 : decode b_La_law 710 = .ok (.aload_n 0, 1) := by decide +kernel
theorem D_La_law_711 : decode b_La_law 711 = .ok (.iload_n 3, 1) := by decide +kernel
theorem D_La_law_712 : decode b_La_law 712 = .ok (.iconst 1, 1) := by decide +kernel
theorem D_La_law_713 : decode b_La_law 713 = .ok (.iadd, 1) := by decide +kernel
theorem D_La_law_714 : decode b_La_law 714 = .ok (.iaload, 1) := by decide +kernel
theorem D_La_law_715 : decode b_La_law 715 = .ok (.invokevirtual 117, 3) := by decide +kernel
theorem D_La_law_718 : decode b_La_law 718 = .ok (.if_icmp .eq 5, 3) := by decide +kernel
theorem D_La_law_721 : decode b_La_law 721 = .ok (.iconst 0, 1) := by decide +kernel
theorem D_La_law_722 : decode b_La_law 722 = .ok (.ireturn, 1) := by decide +kernel
theorem D_La_law_723 : decode b_La_law 723 = .ok (.iinc 3 5, 3) := by decide +kernel
theorem D_La_law_726 : decode b_La_law 726 = .ok (.goto (-708), 3) := by decide +kernel
theorem D_La_law_729 : decode b_La_law 729 = .ok (.iconst 1, 1) := by decide +kernel
theorem D_La_law_730 : decode b_La_law 730 = .ok (.ireturn, 1) := by decide +kernel
def B_La_law_723 (L : Nat) (sc : Nat → Int32) (k18 : Nat → Nat → Int32 → Mem → Prop) (post : Int32 → Mem → Prop) (a1 : Nat) (a2 : Nat) (x3 : Int32) (M : Mem) : Prop := (k18 a1 a2 (x3 + 5) M)
set_option maxRecDepth 20000 in
theorem Z_La_law_723 {x : Ctx} {post : Int32 → Mem → Prop} {b L : Nat} {sc : Nat → Int32} (C : Ok x b_La_law 4 "HeapTowerLaw") (hR : (xR x).frames = 10 ∧ (xR x).locals = 404) (Bd : Bdg x 110000) (Sx : Scr x b L sc) (Rt : RetL x b post) {k18 : Nat → Nat → Int32 → Mem → Prop} (K18 : ∀ x', Sm x x' → ∀ (a1 : Nat) (a2 : Nat) (x3 : Int32) (M : Mem), nC M + xg x' ≤ 2800 → k18 a1 a2 x3 M → J x' 4 18 [(0, .ref b), (1, .ref (xd x' a1)), (2, .ref (xd x' a2)), (3, .int x3)] [] (iC x' M) (iS 110000 x' M) M) (a1 : Nat) (a2 : Nat) (x3 : Int32) (M : Mem) (hN : nC M + xg x ≤ 2800) (h : B_La_law_723 L sc k18 post a1 a2 x3 M) : J x 4 723 [(0, .ref b), (1, .ref (xd x a1)), (2, .ref (xd x a2)), (3, .int x3)] [] (iC x M) (iS 110000 x M) M := by
  unfold B_La_law_723 at h
  refine J_iinc (v := x3 + 5) (lv' := [(3, .int (x3 + 5)), (0, .ref b), (1, .ref (xd x a1)), (2, .ref (xd x a2))]) C 3 3 D_La_law_723 rfl rfl (by decide) rfl ?_
  refine J_goto (tgt := 18) C D_La_law_726 (by decide) ?_
  exact J_sub [1, 2, 3, 0] rfl (K18 x (Sm.rf x) _ _ _ _ hN h)
def B_La_law_18 (L : Nat) (sc : Nat → Int32) (k18 : Nat → Nat → Int32 → Mem → Prop) (post : Int32 → Mem → Prop) (a1 : Nat) (a2 : Nat) (x3 : Int32) (M : Mem) : Prop := ((((nI L) - 5) < x3 → (post 1 M)) ∧ (¬ ((nI L) - 5) < x3 → (vp_in x3 L ∧ ((Int32.toInt ((sc (Int32.toNatClampNeg x3)) &&& 31) < 0 ∨ 24 < Int32.toInt ((sc (Int32.toNatClampNeg x3)) &&& 31)) → (B_La_law_723 L sc k18 post a1 a2 x3 M)) ∧ (Int32.toInt ((sc (Int32.toNatClampNeg x3)) &&& 31) = 0 → (vp_in (x3 + 1) L ∧ vp_in (x3 + 2) L ∧ isK M a1 6 ∧ T_HT_letters a1 (sc (Int32.toNatClampNeg (x3 + 1))) (sc (Int32.toNatClampNeg (x3 + 2))) M (fun r159 M159 => vp_in (x3 + 1) L ∧ vp_in (x3 + 2) L ∧ isK M159 a2 7 ∧ T_Mo_letters a2 (sc (Int32.toNatClampNeg (x3 + 1))) (sc (Int32.toNatClampNeg (x3 + 2))) M159 (fun r173 M173 => (r159 = r173 → (B_La_law_723 L sc k18 post a1 a2 x3 M173)) ∧ (¬ r159 = r173 → (post 0 M173)))))) ∧ (Int32.toInt ((sc (Int32.toNatClampNeg x3)) &&& 31) = 1 → (vp_in (x3 + 1) L ∧ isK M a1 6 ∧ T_HT_order a1 (sc (Int32.toNatClampNeg (x3 + 1))) M (fun r187 M187 => vp_in (x3 + 1) L ∧ isK M187 a2 7 ∧ T_Mo_order a2 (sc (Int32.toNatClampNeg (x3 + 1))) M187 (fun r196 M196 => (r187 = r196 → (B_La_law_723 L sc k18 post a1 a2 x3 M196)) ∧ (¬ r187 = r196 → (post 0 M196)))))) ∧ (Int32.toInt ((sc (Int32.toNatClampNeg x3)) &&& 31) = 2 → (vp_in (x3 + 1) L ∧ vp_in (x3 + 2) L ∧ vp_in (x3 + 3) L ∧ vp_in (x3 + 4) L ∧ isK M a1 6 ∧ T_HT_term a1 (sc (Int32.toNatClampNeg (x3 + 1))) (sc (Int32.toNatClampNeg (x3 + 2))) (sc (Int32.toNatClampNeg (x3 + 3))) (sc (Int32.toNatClampNeg (x3 + 4))) M (fun r225 M225 => vp_in (x3 + 1) L ∧ vp_in (x3 + 2) L ∧ vp_in (x3 + 3) L ∧ vp_in (x3 + 4) L ∧ isK M225 a2 7 ∧ T_Mo_term a2 (sc (Int32.toNatClampNeg (x3 + 1))) (sc (Int32.toNatClampNeg (x3 + 2))) (sc (Int32.toNatClampNeg (x3 + 3))) (sc (Int32.toNatClampNeg (x3 + 4))) M225 (fun r249 M249 => (r225 = r249 → (B_La_law_723 L sc k18 post a1 a2 x3 M249)) ∧ (¬ r225 = r249 → (post 0 M249)))))) ∧ (Int32.toInt ((sc (Int32.toNatClampNeg x3)) &&& 31) = 3 → (vp_in (x3 + 1) L ∧ vp_in (x3 + 2) L ∧ vp_in (x3 + 3) L ∧ isK M a1 6 ∧ T_HT_number a1 (sc (Int32.toNatClampNeg (x3 + 1))) (sc (Int32.toNatClampNeg (x3 + 2))) (sc (Int32.toNatClampNeg (x3 + 3))) M (fun r273 M273 => vp_in (x3 + 1) L ∧ vp_in (x3 + 2) L ∧ vp_in (x3 + 3) L ∧ isK M273 a2 7 ∧ T_Mo_number a2 (sc (Int32.toNatClampNeg (x3 + 1))) (sc (Int32.toNatClampNeg (x3 + 2))) (sc (Int32.toNatClampNeg (x3 + 3))) M273 (fun r292 M292 => (r273 = r292 → (B_La_law_723 L sc k18 post a1 a2 x3 M292)) ∧ (¬ r273 = r292 → (post 0 M292)))))) ∧ (Int32.toInt ((sc (Int32.toNatClampNeg x3)) &&& 31) = 4 → (isK M a1 6 ∧ T_HT_wipe a1 M (fun r301 M301 => isK M301 a2 7 ∧ T_Mo_wipe a2 M301 (fun r305 M305 => (r301 = r305 → (B_La_law_723 L sc k18 post a1 a2 x3 M305)) ∧ (¬ r301 = r305 → (post 0 M305)))))) ∧ (Int32.toInt ((sc (Int32.toNatClampNeg x3)) &&& 31) = 5 → (vp_in (x3 + 1) L ∧ isK M a1 6 ∧ T_HT_draft a1 (sc (Int32.toNatClampNeg (x3 + 1))) M (fun r319 M319 => vp_in (x3 + 1) L ∧ isK M319 a2 7 ∧ T_Mo_draft a2 (sc (Int32.toNatClampNeg (x3 + 1))) M319 (fun r328 M328 => (r319 = r328 → (B_La_law_723 L sc k18 post a1 a2 x3 M328)) ∧ (¬ r319 = r328 → (post 0 M328)))))) ∧ (Int32.toInt ((sc (Int32.toNatClampNeg x3)) &&& 31) = 6 → (vp_in (x3 + 1) L ∧ vp_in (x3 + 2) L ∧ vp_in (x3 + 3) L ∧ isK M a1 6 ∧ T_HT_times a1 (sc (Int32.toNatClampNeg (x3 + 1))) (sc (Int32.toNatClampNeg (x3 + 2))) (sc (Int32.toNatClampNeg (x3 + 3))) M (fun r352 M352 => vp_in (x3 + 1) L ∧ vp_in (x3 + 2) L ∧ vp_in (x3 + 3) L ∧ isK M352 a2 7 ∧ T_Mo_times a2 (sc (Int32.toNatClampNeg (x3 + 1))) (sc (Int32.toNatClampNeg (x3 + 2))) (sc (Int32.toNatClampNeg (x3 + 3))) M352 (fun r371 M371 => (r352 = r371 → (B_La_law_723 L sc k18 post a1 a2 x3 M371)) ∧ (¬ r352 = r371 → (post 0 M371)))))) ∧ (Int32.toInt ((sc (Int32.toNatClampNeg x3)) &&& 31) = 7 → (isK M a1 6 ∧ T_HT_row a1 M (fun r380 M380 => isK M380 a2 7 ∧ T_Mo_row a2 M380 (fun r384 M384 => (r380 = r384 → (B_La_law_723 L sc k18 post a1 a2 x3 M384)) ∧ (¬ r380 = r384 → (post 0 M384)))))) ∧ (Int32.toInt ((sc (Int32.toNatClampNeg x3)) &&& 31) = 8 → (isK M a1 6 ∧ T_HT_drop a1 M (fun r393 M393 => isK M393 a2 7 ∧ T_Mo_drop a2 M393 (fun r397 M397 => (r393 = r397 → (B_La_law_723 L sc k18 post a1 a2 x3 M397)) ∧ (¬ r393 = r397 → (post 0 M397)))))) ∧ (Int32.toInt ((sc (Int32.toNatClampNeg x3)) &&& 31) = 9 → (vp_in (x3 + 1) L ∧ isK M a1 6 ∧ T_HT_copy a1 (sc (Int32.toNatClampNeg (x3 + 1))) M (fun r411 M411 => vp_in (x3 + 1) L ∧ isK M411 a2 7 ∧ T_Mo_copy a2 (sc (Int32.toNatClampNeg (x3 + 1))) M411 (fun r420 M420 => (r411 = r420 → (B_La_law_723 L sc k18 post a1 a2 x3 M420)) ∧ (¬ r411 = r420 → (post 0 M420)))))) ∧ (Int32.toInt ((sc (Int32.toNatClampNeg x3)) &&& 31) = 10 → (isK M a1 6 ∧ isK M a1 6 ∧ isK M a2 7 ∧ T_HT_rest a1 M (fun r429 M429 => isK M429 a1 6 ∧ isK M429 a2 7 ∧ isK M429 a2 7 ∧ T_Mo_rest a2 M429 (fun r433 M433 => (r429 = r433 → (B_La_law_723 L sc k18 post a1 a2 x3 M433)) ∧ (¬ r429 = r433 → (post 0 M433)))))) ∧ (Int32.toInt ((sc (Int32.toNatClampNeg x3)) &&& 31) = 11 → (isK M a1 6 ∧ isK M a1 6 ∧ isK M a2 7 ∧ T_HT_in a1 M (fun r442 M442 => isK M442 a1 6 ∧ isK M442 a2 7 ∧ isK M442 a2 7 ∧ T_Mo_in0 a2 M442 (fun r446 M446 => (r442 = r446 → (B_La_law_723 L sc k18 post a1 a2 x3 M446)) ∧ (¬ r442 = r446 → (post 0 M446)))))) ∧ (Int32.toInt ((sc (Int32.toNatClampNeg x3)) &&& 31) = 12 → (vp_in (x3 + 1) L ∧ isK M a1 6 ∧ isK M a1 6 ∧ isK M a2 7 ∧ T_HT_base a1 (sc (Int32.toNatClampNeg (x3 + 1))) M (fun r460 M460 => isK M460 a1 6 ∧ isK M460 a2 7 ∧ vp_in (x3 + 1) L ∧ isK M460 a2 7 ∧ T_Mo_base a2 (sc (Int32.toNatClampNeg (x3 + 1))) M460 (fun r469 M469 => (r460 = r469 → (B_La_law_723 L sc k18 post a1 a2 x3 M469)) ∧ (¬ r460 = r469 → (post 0 M469)))))) ∧ (Int32.toInt ((sc (Int32.toNatClampNeg x3)) &&& 31) = 13 → (vp_in (x3 + 1) L ∧ isK M a1 6 ∧ isK M a1 6 ∧ isK M a2 7 ∧ T_HT_element a1 (sc (Int32.toNatClampNeg (x3 + 1))) M (fun r483 M483 => isK M483 a1 6 ∧ isK M483 a2 7 ∧ vp_in (x3 + 1) L ∧ isK M483 a2 7 ∧ T_Mo_element a2 (sc (Int32.toNatClampNeg (x3 + 1))) M483 (fun r492 M492 => (r483 = r492 → (B_La_law_723 L sc k18 post a1 a2 x3 M492)) ∧ (¬ r483 = r492 → (post 0 M492)))))) ∧ (Int32.toInt ((sc (Int32.toNatClampNeg x3)) &&& 31) = 14 → (vp_in (x3 + 1) L ∧ isK M a1 6 ∧ isK M a1 6 ∧ isK M a2 7 ∧ T_HT_count a1 (sc (Int32.toNatClampNeg (x3 + 1))) M (fun r506 M506 => isK M506 a1 6 ∧ isK M506 a2 7 ∧ vp_in (x3 + 1) L ∧ isK M506 a2 7 ∧ T_Mo_count a2 (sc (Int32.toNatClampNeg (x3 + 1))) M506 (fun r515 M515 => (r506 = r515 → (B_La_law_723 L sc k18 post a1 a2 x3 M515)) ∧ (¬ r506 = r515 → (post 0 M515)))))) ∧ (Int32.toInt ((sc (Int32.toNatClampNeg x3)) &&& 31) = 15 → (vp_in (x3 + 1) L ∧ vp_in (x3 + 2) L ∧ isK M a1 6 ∧ isK M a1 6 ∧ isK M a2 7 ∧ T_HT_free a1 (sc (Int32.toNatClampNeg (x3 + 1))) (sc (Int32.toNatClampNeg (x3 + 2))) M (fun r534 M534 => isK M534 a1 6 ∧ isK M534 a2 7 ∧ vp_in (x3 + 1) L ∧ vp_in (x3 + 2) L ∧ isK M534 a2 7 ∧ T_Mo_free a2 (sc (Int32.toNatClampNeg (x3 + 1))) (sc (Int32.toNatClampNeg (x3 + 2))) M534 (fun r548 M548 => (r534 = r548 → (B_La_law_723 L sc k18 post a1 a2 x3 M548)) ∧ (¬ r534 = r548 → (post 0 M548)))))) ∧ (Int32.toInt ((sc (Int32.toNatClampNeg x3)) &&& 31) = 16 → (vp_in (x3 + 1) L ∧ isK M a1 6 ∧ isK M a1 6 ∧ isK M a2 7 ∧ T_HT_quotient a1 (sc (Int32.toNatClampNeg (x3 + 1))) M (fun r562 M562 => isK M562 a1 6 ∧ isK M562 a2 7 ∧ vp_in (x3 + 1) L ∧ isK M562 a2 7 ∧ T_Mo_quotient a2 (sc (Int32.toNatClampNeg (x3 + 1))) M562 (fun r571 M571 => (r562 = r571 → (B_La_law_723 L sc k18 post a1 a2 x3 M571)) ∧ (¬ r562 = r571 → (post 0 M571)))))) ∧ (Int32.toInt ((sc (Int32.toNatClampNeg x3)) &&& 31) = 17 → (isK M a1 6 ∧ isK M a1 6 ∧ isK M a2 7 ∧ T_HT_regular a1 M (fun r580 M580 => isK M580 a1 6 ∧ isK M580 a2 7 ∧ isK M580 a2 7 ∧ T_Mo_regular a2 M580 (fun r584 M584 => (r580 = r584 → (B_La_law_723 L sc k18 post a1 a2 x3 M584)) ∧ (¬ r580 = r584 → (post 0 M584)))))) ∧ (Int32.toInt ((sc (Int32.toNatClampNeg x3)) &&& 31) = 18 → (isK M a1 6 ∧ T_HT_keep a1 M (fun r593 M593 => isK M593 a2 7 ∧ T_Mo_keep a2 M593 (fun r597 M597 => (r593 = r597 → (B_La_law_723 L sc k18 post a1 a2 x3 M597)) ∧ (¬ r593 = r597 → (post 0 M597)))))) ∧ (Int32.toInt ((sc (Int32.toNatClampNeg x3)) &&& 31) = 19 → (isK M a1 6 ∧ T_HT_swap a1 M (fun r606 M606 => isK M606 a2 7 ∧ T_Mo_swap a2 M606 (fun r610 M610 => (r606 = r610 → (B_La_law_723 L sc k18 post a1 a2 x3 M610)) ∧ (¬ r606 = r610 → (post 0 M610)))))) ∧ (Int32.toInt ((sc (Int32.toNatClampNeg x3)) &&& 31) = 20 → (vp_in (x3 + 1) L ∧ vp_in (x3 + 2) L ∧ isK M a1 6 ∧ isK M a1 6 ∧ isK M a2 7 ∧ T_HT_dimension a1 (sc (Int32.toNatClampNeg (x3 + 1))) (sc (Int32.toNatClampNeg (x3 + 2))) M (fun r629 M629 => isK M629 a1 6 ∧ isK M629 a2 7 ∧ vp_in (x3 + 1) L ∧ vp_in (x3 + 2) L ∧ isK M629 a2 7 ∧ T_Mo_dimension a2 (sc (Int32.toNatClampNeg (x3 + 1))) (sc (Int32.toNatClampNeg (x3 + 2))) M629 (fun r643 M643 => (r629 = r643 → (B_La_law_723 L sc k18 post a1 a2 x3 M643)) ∧ (¬ r629 = r643 → (post 0 M643)))))) ∧ (Int32.toInt ((sc (Int32.toNatClampNeg x3)) &&& 31) = 21 → (isK M a1 6 ∧ isK M a1 6 ∧ isK M a2 7 ∧ T_HT_parts a1 M (fun r652 M652 => isK M652 a1 6 ∧ isK M652 a2 7 ∧ isK M652 a2 7 ∧ T_Mo_parts a2 M652 (fun r656 M656 => (r652 = r656 → (B_La_law_723 L sc k18 post a1 a2 x3 M656)) ∧ (¬ r652 = r656 → (post 0 M656)))))) ∧ (Int32.toInt ((sc (Int32.toNatClampNeg x3)) &&& 31) = 22 → (vp_in (x3 + 1) L ∧ isK M a1 6 ∧ T_HT_claim a1 (sc (Int32.toNatClampNeg (x3 + 1))) M (fun r670 M670 => vp_in (x3 + 1) L ∧ isK M670 a2 7 ∧ T_Mo_claim a2 (sc (Int32.toNatClampNeg (x3 + 1))) M670 (fun r679 M679 => (r670 = r679 → (B_La_law_723 L sc k18 post a1 a2 x3 M679)) ∧ (¬ r670 = r679 → (post 0 M679)))))) ∧ (Int32.toInt ((sc (Int32.toNatClampNeg x3)) &&& 31) = 23 → (isK M a1 6 ∧ T_HT_sum a1 M (fun r688 M688 => isK M688 a2 7 ∧ T_Mo_sum a2 M688 (fun r692 M692 => (r688 = r692 → (B_La_law_723 L sc k18 post a1 a2 x3 M692)) ∧ (¬ r688 = r692 → (post 0 M692)))))) ∧ (Int32.toInt ((sc (Int32.toNatClampNeg x3)) &&& 31) = 24 → (vp_in (x3 + 1) L ∧ isK M a1 6 ∧ T_HT_told a1 (sc (Int32.toNatClampNeg (x3 + 1))) M (fun r706 M706 => vp_in (x3 + 1) L ∧ isK M706 a2 7 ∧ T_Mo_told a2 (sc (Int32.toNatClampNeg (x3 + 1))) M706 (fun r715 M715 => (r706 = r715 → (B_La_law_723 L sc k18 post a1 a2 x3 M715)) ∧ (¬ r706 = r715 → (post 0 M715)))))))))
set_option maxRecDepth 20000 in
theorem Z_La_law_18 {x : Ctx} {post : Int32 → Mem → Prop} {b L : Nat} {sc : Nat → Int32} (C : Ok x b_La_law 4 "HeapTowerLaw") (hR : (xR x).frames = 10 ∧ (xR x).locals = 404) (Bd : Bdg x 110000) (Sx : Scr x b L sc) (Rt : RetL x b post) {k18 : Nat → Nat → Int32 → Mem → Prop} (K18 : ∀ x', Sm x x' → ∀ (a1 : Nat) (a2 : Nat) (x3 : Int32) (M : Mem), nC M + xg x' ≤ 2800 → k18 a1 a2 x3 M → J x' 4 18 [(0, .ref b), (1, .ref (xd x' a1)), (2, .ref (xd x' a2)), (3, .int x3)] [] (iC x' M) (iS 110000 x' M) M) (a1 : Nat) (a2 : Nat) (x3 : Int32) (M : Mem) (hN : nC M + xg x ≤ 2800) (h : B_La_law_18 L sc k18 post a1 a2 x3 M) : J x 4 18 [(0, .ref b), (1, .ref (xd x a1)), (2, .ref (xd x a2)), (3, .int x3)] [] (iC x M) (iS 110000 x M) M := by
  unfold B_La_law_18 at h
  refine J_iload_n C 3 D_La_law_18 rfl rfl ?_
  refine J_aload_n C 0 D_La_law_19 rfl rfl ?_
  refine J_slen C Sx D_La_law_20 ?_
  refine J_iconst (v := 5) C D_La_law_21 rfl ?_
  refine J_isub C D_La_law_22 ?_
  refine J_icmp_gt (tgt := 729) C D_La_law_23 (by decide) (fun c_23 => ?_) (fun c_23 => ?_)
  · have h := h.1 c_23
    refine J_iconst (v := 1) C D_La_law_729 rfl ?_
    exact J_lretD C Rt Bd hN D_La_law_730 h
  · have h := h.2 c_23
    refine J_aload_n C 0 D_La_law_26 rfl rfl ?_
    refine J_iload_n C 3 D_La_law_27 rfl rfl ?_
    obtain ⟨c_28, h⟩ := h
    refine J_sld C Sx D_La_law_28 c_28 ?_
    refine J_bipush (v := 31) C D_La_law_29 rfl ?_
    refine J_iand C D_La_law_31 ?_
    by_cases q_32 : Int32.toInt ((sc (Int32.toNatClampNeg x3)) &&& 31) < 0 ∨ 24 < Int32.toInt ((sc (Int32.toNatClampNeg x3)) &&& 31)
    · have h := h.1 q_32
      refine J_tableOut (tgt := 723) C D_La_law_32 q_32 (by decide) ?_
      exact J_sub [0, 1, 2, 3] rfl (Z_La_law_723 C hR Bd Sx Rt K18 _ _ _ _ hN h)
    · have h := h.2
      have r_32 : Int32.toInt ((sc (Int32.toNatClampNeg x3)) &&& 31) = 0 ∨ Int32.toInt ((sc (Int32.toNatClampNeg x3)) &&& 31) = 1 ∨ Int32.toInt ((sc (Int32.toNatClampNeg x3)) &&& 31) = 2 ∨ Int32.toInt ((sc (Int32.toNatClampNeg x3)) &&& 31) = 3 ∨ Int32.toInt ((sc (Int32.toNatClampNeg x3)) &&& 31) = 4 ∨ Int32.toInt ((sc (Int32.toNatClampNeg x3)) &&& 31) = 5 ∨ Int32.toInt ((sc (Int32.toNatClampNeg x3)) &&& 31) = 6 ∨ Int32.toInt ((sc (Int32.toNatClampNeg x3)) &&& 31) = 7 ∨ Int32.toInt ((sc (Int32.toNatClampNeg x3)) &&& 31) = 8 ∨ Int32.toInt ((sc (Int32.toNatClampNeg x3)) &&& 31) = 9 ∨ Int32.toInt ((sc (Int32.toNatClampNeg x3)) &&& 31) = 10 ∨ Int32.toInt ((sc (Int32.toNatClampNeg x3)) &&& 31) = 11 ∨ Int32.toInt ((sc (Int32.toNatClampNeg x3)) &&& 31) = 12 ∨ Int32.toInt ((sc (Int32.toNatClampNeg x3)) &&& 31) = 13 ∨ Int32.toInt ((sc (Int32.toNatClampNeg x3)) &&& 31) = 14 ∨ Int32.toInt ((sc (Int32.toNatClampNeg x3)) &&& 31) = 15 ∨ Int32.toInt ((sc (Int32.toNatClampNeg x3)) &&& 31) = 16 ∨ Int32.toInt ((sc (Int32.toNatClampNeg x3)) &&& 31) = 17 ∨ Int32.toInt ((sc (Int32.toNatClampNeg x3)) &&& 31) = 18 ∨ Int32.toInt ((sc (Int32.toNatClampNeg x3)) &&& 31) = 19 ∨ Int32.toInt ((sc (Int32.toNatClampNeg x3)) &&& 31) = 20 ∨ Int32.toInt ((sc (Int32.toNatClampNeg x3)) &&& 31) = 21 ∨ Int32.toInt ((sc (Int32.toNatClampNeg x3)) &&& 31) = 22 ∨ Int32.toInt ((sc (Int32.toNatClampNeg x3)) &&& 31) = 23 ∨ Int32.toInt ((sc (Int32.toNatClampNeg x3)) &&& 31) = 24 := by omega
      rcases r_32 with r_32 | r_32 | r_32 | r_32 | r_32 | r_32 | r_32 | r_32 | r_32 | r_32 | r_32 | r_32 | r_32 | r_32 | r_32 | r_32 | r_32 | r_32 | r_32 | r_32 | r_32 | r_32 | r_32 | r_32 | r_32
      · have h := (h.1) r_32
        refine J_tableIn (tgt := 148) C D_La_law_32 (by rw [r_32]; decide) (by rw [r_32]; decide) (by rw [r_32]; rfl) (by decide) ?_
        refine J_aload_n C 1 D_La_law_148 rfl rfl ?_
        refine J_aload_n C 0 D_La_law_149 rfl rfl ?_
        refine J_iload_n C 3 D_La_law_150 rfl rfl ?_
        refine J_iconst (v := 1) C D_La_law_151 rfl ?_
        refine J_iadd C D_La_law_152 ?_
        obtain ⟨c_153, h⟩ := h
        refine J_sld C Sx D_La_law_153 c_153 ?_
        refine J_aload_n C 0 D_La_law_154 rfl rfl ?_
        refine J_iload_n C 3 D_La_law_155 rfl rfl ?_
        refine J_iconst (v := 2) C D_La_law_156 rfl ?_
        refine J_iadd C D_La_law_157 ?_
        obtain ⟨c_158, h⟩ := h
        refine J_sld C Sx D_La_law_158 c_158 ?_
        obtain ⟨c_159, h⟩ := h
        refine JS_callVi C Bd hN ml_La_13 (S_HT_letters _ _ _ _ _ h) ⟨rfl, rfl⟩ (by rw [hR.1, hR.2]; decide) rfl c_159 rfl (Nat.le_of_ble_eq_true rfl) D_La_law_159 (fun r159 M159 hN h => ?_)
        refine J_aload_n C 2 D_La_law_162 rfl rfl ?_
        refine J_aload_n C 0 D_La_law_163 rfl rfl ?_
        refine J_iload_n C 3 D_La_law_164 rfl rfl ?_
        refine J_iconst (v := 1) C D_La_law_165 rfl ?_
        refine J_iadd C D_La_law_166 ?_
        obtain ⟨c_167, h⟩ := h
        refine J_sld C Sx D_La_law_167 c_167 ?_
        refine J_aload_n C 0 D_La_law_168 rfl rfl ?_
        refine J_iload_n C 3 D_La_law_169 rfl rfl ?_
        refine J_iconst (v := 2) C D_La_law_170 rfl ?_
        refine J_iadd C D_La_law_171 ?_
        obtain ⟨c_172, h⟩ := h
        refine J_sld C Sx D_La_law_172 c_172 ?_
        obtain ⟨c_173, h⟩ := h
        refine JS_callVi C Bd hN ml_La_17 (S_Mo_letters _ _ _ _ _ h) ⟨rfl, rfl⟩ (by rw [hR.1, hR.2]; decide) rfl c_173 rfl (Nat.le_of_ble_eq_true rfl) D_La_law_173 (fun r173 M173 hN h => ?_)
        refine J_icmp_eq (tgt := 723) C D_La_law_176 (by decide) (fun c_176 => ?_) (fun c_176 => ?_)
        · have h := h.1 c_176
          exact J_sub [0, 1, 2, 3] rfl (Z_La_law_723 C hR Bd Sx Rt K18 _ _ _ _ hN h)
        · have h := h.2 c_176
          refine J_iconst (v := 0) C D_La_law_179 rfl ?_
          exact J_lretD C Rt Bd hN D_La_law_180 h
      · have h := (h.2.1) r_32
        refine J_tableIn (tgt := 181) C D_La_law_32 (by rw [r_32]; decide) (by rw [r_32]; decide) (by rw [r_32]; rfl) (by decide) ?_
        refine J_aload_n C 1 D_La_law_181 rfl rfl ?_
        refine J_aload_n C 0 D_La_law_182 rfl rfl ?_
        refine J_iload_n C 3 D_La_law_183 rfl rfl ?_
        refine J_iconst (v := 1) C D_La_law_184 rfl ?_
        refine J_iadd C D_La_law_185 ?_
        obtain ⟨c_186, h⟩ := h
        refine J_sld C Sx D_La_law_186 c_186 ?_
        obtain ⟨c_187, h⟩ := h
        refine JS_callVi C Bd hN ml_La_18 (S_HT_order _ _ _ _ h) ⟨rfl, rfl⟩ (by rw [hR.1, hR.2]; decide) rfl c_187 rfl (Nat.le_of_ble_eq_true rfl) D_La_law_187 (fun r187 M187 hN h => ?_)
        refine J_aload_n C 2 D_La_law_190 rfl rfl ?_
        refine J_aload_n C 0 D_La_law_191 rfl rfl ?_
        refine J_iload_n C 3 D_La_law_192 rfl rfl ?_
        refine J_iconst (v := 1) C D_La_law_193 rfl ?_
        refine J_iadd C D_La_law_194 ?_
        obtain ⟨c_195, h⟩ := h
        refine J_sld C Sx D_La_law_195 c_195 ?_
        obtain ⟨c_196, h⟩ := h
        refine JS_callVi C Bd hN ml_La_22 (S_Mo_order _ _ _ _ h) ⟨rfl, rfl⟩ (by rw [hR.1, hR.2]; decide) rfl c_196 rfl (Nat.le_of_ble_eq_true rfl) D_La_law_196 (fun r196 M196 hN h => ?_)
        refine J_icmp_eq (tgt := 723) C D_La_law_199 (by decide) (fun c_199 => ?_) (fun c_199 => ?_)
        · have h := h.1 c_199
          exact J_sub [0, 1, 2, 3] rfl (Z_La_law_723 C hR Bd Sx Rt K18 _ _ _ _ hN h)
        · have h := h.2 c_199
          refine J_iconst (v := 0) C D_La_law_202 rfl ?_
          exact J_lretD C Rt Bd hN D_La_law_203 h
      · have h := (h.2.2.1) r_32
        refine J_tableIn (tgt := 204) C D_La_law_32 (by rw [r_32]; decide) (by rw [r_32]; decide) (by rw [r_32]; rfl) (by decide) ?_
        refine J_aload_n C 1 D_La_law_204 rfl rfl ?_
        refine J_aload_n C 0 D_La_law_205 rfl rfl ?_
        refine J_iload_n C 3 D_La_law_206 rfl rfl ?_
        refine J_iconst (v := 1) C D_La_law_207 rfl ?_
        refine J_iadd C D_La_law_208 ?_
        obtain ⟨c_209, h⟩ := h
        refine J_sld C Sx D_La_law_209 c_209 ?_
        refine J_aload_n C 0 D_La_law_210 rfl rfl ?_
        refine J_iload_n C 3 D_La_law_211 rfl rfl ?_
        refine J_iconst (v := 2) C D_La_law_212 rfl ?_
        refine J_iadd C D_La_law_213 ?_
        obtain ⟨c_214, h⟩ := h
        refine J_sld C Sx D_La_law_214 c_214 ?_
        refine J_aload_n C 0 D_La_law_215 rfl rfl ?_
        refine J_iload_n C 3 D_La_law_216 rfl rfl ?_
        refine J_iconst (v := 3) C D_La_law_217 rfl ?_
        refine J_iadd C D_La_law_218 ?_
        obtain ⟨c_219, h⟩ := h
        refine J_sld C Sx D_La_law_219 c_219 ?_
        refine J_aload_n C 0 D_La_law_220 rfl rfl ?_
        refine J_iload_n C 3 D_La_law_221 rfl rfl ?_
        refine J_iconst (v := 4) C D_La_law_222 rfl ?_
        refine J_iadd C D_La_law_223 ?_
        obtain ⟨c_224, h⟩ := h
        refine J_sld C Sx D_La_law_224 c_224 ?_
        obtain ⟨c_225, h⟩ := h
        refine JS_callVi C Bd hN ml_La_23 (S_HT_term _ _ _ _ _ _ _ h) ⟨rfl, rfl⟩ (by rw [hR.1, hR.2]; decide) rfl c_225 rfl (Nat.le_of_ble_eq_true rfl) D_La_law_225 (fun r225 M225 hN h => ?_)
        refine J_aload_n C 2 D_La_law_228 rfl rfl ?_
        refine J_aload_n C 0 D_La_law_229 rfl rfl ?_
        refine J_iload_n C 3 D_La_law_230 rfl rfl ?_
        refine J_iconst (v := 1) C D_La_law_231 rfl ?_
        refine J_iadd C D_La_law_232 ?_
        obtain ⟨c_233, h⟩ := h
        refine J_sld C Sx D_La_law_233 c_233 ?_
        refine J_aload_n C 0 D_La_law_234 rfl rfl ?_
        refine J_iload_n C 3 D_La_law_235 rfl rfl ?_
        refine J_iconst (v := 2) C D_La_law_236 rfl ?_
        refine J_iadd C D_La_law_237 ?_
        obtain ⟨c_238, h⟩ := h
        refine J_sld C Sx D_La_law_238 c_238 ?_
        refine J_aload_n C 0 D_La_law_239 rfl rfl ?_
        refine J_iload_n C 3 D_La_law_240 rfl rfl ?_
        refine J_iconst (v := 3) C D_La_law_241 rfl ?_
        refine J_iadd C D_La_law_242 ?_
        obtain ⟨c_243, h⟩ := h
        refine J_sld C Sx D_La_law_243 c_243 ?_
        refine J_aload_n C 0 D_La_law_244 rfl rfl ?_
        refine J_iload_n C 3 D_La_law_245 rfl rfl ?_
        refine J_iconst (v := 4) C D_La_law_246 rfl ?_
        refine J_iadd C D_La_law_247 ?_
        obtain ⟨c_248, h⟩ := h
        refine J_sld C Sx D_La_law_248 c_248 ?_
        obtain ⟨c_249, h⟩ := h
        refine JS_callVi C Bd hN ml_La_27 (S_Mo_term _ _ _ _ _ _ _ h) ⟨rfl, rfl⟩ (by rw [hR.1, hR.2]; decide) rfl c_249 rfl (Nat.le_of_ble_eq_true rfl) D_La_law_249 (fun r249 M249 hN h => ?_)
        refine J_icmp_eq (tgt := 723) C D_La_law_252 (by decide) (fun c_252 => ?_) (fun c_252 => ?_)
        · have h := h.1 c_252
          exact J_sub [0, 1, 2, 3] rfl (Z_La_law_723 C hR Bd Sx Rt K18 _ _ _ _ hN h)
        · have h := h.2 c_252
          refine J_iconst (v := 0) C D_La_law_255 rfl ?_
          exact J_lretD C Rt Bd hN D_La_law_256 h
      · have h := (h.2.2.2.1) r_32
        refine J_tableIn (tgt := 257) C D_La_law_32 (by rw [r_32]; decide) (by rw [r_32]; decide) (by rw [r_32]; rfl) (by decide) ?_
        refine J_aload_n C 1 D_La_law_257 rfl rfl ?_
        refine J_aload_n C 0 D_La_law_258 rfl rfl ?_
        refine J_iload_n C 3 D_La_law_259 rfl rfl ?_
        refine J_iconst (v := 1) C D_La_law_260 rfl ?_
        refine J_iadd C D_La_law_261 ?_
        obtain ⟨c_262, h⟩ := h
        refine J_sld C Sx D_La_law_262 c_262 ?_
        refine J_aload_n C 0 D_La_law_263 rfl rfl ?_
        refine J_iload_n C 3 D_La_law_264 rfl rfl ?_
        refine J_iconst (v := 2) C D_La_law_265 rfl ?_
        refine J_iadd C D_La_law_266 ?_
        obtain ⟨c_267, h⟩ := h
        refine J_sld C Sx D_La_law_267 c_267 ?_
        refine J_aload_n C 0 D_La_law_268 rfl rfl ?_
        refine J_iload_n C 3 D_La_law_269 rfl rfl ?_
        refine J_iconst (v := 3) C D_La_law_270 rfl ?_
        refine J_iadd C D_La_law_271 ?_
        obtain ⟨c_272, h⟩ := h
        refine J_sld C Sx D_La_law_272 c_272 ?_
        obtain ⟨c_273, h⟩ := h
        refine JS_callVi C Bd hN ml_La_28 (S_HT_number _ _ _ _ _ _ h) ⟨rfl, rfl⟩ (by rw [hR.1, hR.2]; decide) rfl c_273 rfl (Nat.le_of_ble_eq_true rfl) D_La_law_273 (fun r273 M273 hN h => ?_)
        refine J_aload_n C 2 D_La_law_276 rfl rfl ?_
        refine J_aload_n C 0 D_La_law_277 rfl rfl ?_
        refine J_iload_n C 3 D_La_law_278 rfl rfl ?_
        refine J_iconst (v := 1) C D_La_law_279 rfl ?_
        refine J_iadd C D_La_law_280 ?_
        obtain ⟨c_281, h⟩ := h
        refine J_sld C Sx D_La_law_281 c_281 ?_
        refine J_aload_n C 0 D_La_law_282 rfl rfl ?_
        refine J_iload_n C 3 D_La_law_283 rfl rfl ?_
        refine J_iconst (v := 2) C D_La_law_284 rfl ?_
        refine J_iadd C D_La_law_285 ?_
        obtain ⟨c_286, h⟩ := h
        refine J_sld C Sx D_La_law_286 c_286 ?_
        refine J_aload_n C 0 D_La_law_287 rfl rfl ?_
        refine J_iload_n C 3 D_La_law_288 rfl rfl ?_
        refine J_iconst (v := 3) C D_La_law_289 rfl ?_
        refine J_iadd C D_La_law_290 ?_
        obtain ⟨c_291, h⟩ := h
        refine J_sld C Sx D_La_law_291 c_291 ?_
        obtain ⟨c_292, h⟩ := h
        refine JS_callVi C Bd hN ml_La_32 (S_Mo_number _ _ _ _ _ _ h) ⟨rfl, rfl⟩ (by rw [hR.1, hR.2]; decide) rfl c_292 rfl (Nat.le_of_ble_eq_true rfl) D_La_law_292 (fun r292 M292 hN h => ?_)
        refine J_icmp_eq (tgt := 723) C D_La_law_295 (by decide) (fun c_295 => ?_) (fun c_295 => ?_)
        · have h := h.1 c_295
          exact J_sub [0, 1, 2, 3] rfl (Z_La_law_723 C hR Bd Sx Rt K18 _ _ _ _ hN h)
        · have h := h.2 c_295
          refine J_iconst (v := 0) C D_La_law_298 rfl ?_
          exact J_lretD C Rt Bd hN D_La_law_299 h
      · have h := (h.2.2.2.2.1) r_32
        refine J_tableIn (tgt := 300) C D_La_law_32 (by rw [r_32]; decide) (by rw [r_32]; decide) (by rw [r_32]; rfl) (by decide) ?_
        refine J_aload_n C 1 D_La_law_300 rfl rfl ?_
        obtain ⟨c_301, h⟩ := h
        refine JS_callVi C Bd hN ml_La_33 (S_HT_wipe _ _ _ h) ⟨rfl, rfl⟩ (by rw [hR.1, hR.2]; decide) rfl c_301 rfl (Nat.le_of_ble_eq_true rfl) D_La_law_301 (fun r301 M301 hN h => ?_)
        refine J_aload_n C 2 D_La_law_304 rfl rfl ?_
        obtain ⟨c_305, h⟩ := h
        refine JS_callVi C Bd hN ml_La_37 (S_Mo_wipe _ _ _ h) ⟨rfl, rfl⟩ (by rw [hR.1, hR.2]; decide) rfl c_305 rfl (Nat.le_of_ble_eq_true rfl) D_La_law_305 (fun r305 M305 hN h => ?_)
        refine J_icmp_eq (tgt := 723) C D_La_law_308 (by decide) (fun c_308 => ?_) (fun c_308 => ?_)
        · have h := h.1 c_308
          exact J_sub [0, 1, 2, 3] rfl (Z_La_law_723 C hR Bd Sx Rt K18 _ _ _ _ hN h)
        · have h := h.2 c_308
          refine J_iconst (v := 0) C D_La_law_311 rfl ?_
          exact J_lretD C Rt Bd hN D_La_law_312 h
      · have h := (h.2.2.2.2.2.1) r_32
        refine J_tableIn (tgt := 313) C D_La_law_32 (by rw [r_32]; decide) (by rw [r_32]; decide) (by rw [r_32]; rfl) (by decide) ?_
        refine J_aload_n C 1 D_La_law_313 rfl rfl ?_
        refine J_aload_n C 0 D_La_law_314 rfl rfl ?_
        refine J_iload_n C 3 D_La_law_315 rfl rfl ?_
        refine J_iconst (v := 1) C D_La_law_316 rfl ?_
        refine J_iadd C D_La_law_317 ?_
        obtain ⟨c_318, h⟩ := h
        refine J_sld C Sx D_La_law_318 c_318 ?_
        obtain ⟨c_319, h⟩ := h
        refine JS_callVi C Bd hN ml_La_38 (S_HT_draft _ _ _ _ h) ⟨rfl, rfl⟩ (by rw [hR.1, hR.2]; decide) rfl c_319 rfl (Nat.le_of_ble_eq_true rfl) D_La_law_319 (fun r319 M319 hN h => ?_)
        refine J_aload_n C 2 D_La_law_322 rfl rfl ?_
        refine J_aload_n C 0 D_La_law_323 rfl rfl ?_
        refine J_iload_n C 3 D_La_law_324 rfl rfl ?_
        refine J_iconst (v := 1) C D_La_law_325 rfl ?_
        refine J_iadd C D_La_law_326 ?_
        obtain ⟨c_327, h⟩ := h
        refine J_sld C Sx D_La_law_327 c_327 ?_
        obtain ⟨c_328, h⟩ := h
        refine JS_callVi C Bd hN ml_La_41 (S_Mo_draft _ _ _ _ h) ⟨rfl, rfl⟩ (by rw [hR.1, hR.2]; decide) rfl c_328 rfl (Nat.le_of_ble_eq_true rfl) D_La_law_328 (fun r328 M328 hN h => ?_)
        refine J_icmp_eq (tgt := 723) C D_La_law_331 (by decide) (fun c_331 => ?_) (fun c_331 => ?_)
        · have h := h.1 c_331
          exact J_sub [0, 1, 2, 3] rfl (Z_La_law_723 C hR Bd Sx Rt K18 _ _ _ _ hN h)
        · have h := h.2 c_331
          refine J_iconst (v := 0) C D_La_law_334 rfl ?_
          exact J_lretD C Rt Bd hN D_La_law_335 h
      · have h := (h.2.2.2.2.2.2.1) r_32
        refine J_tableIn (tgt := 336) C D_La_law_32 (by rw [r_32]; decide) (by rw [r_32]; decide) (by rw [r_32]; rfl) (by decide) ?_
        refine J_aload_n C 1 D_La_law_336 rfl rfl ?_
        refine J_aload_n C 0 D_La_law_337 rfl rfl ?_
        refine J_iload_n C 3 D_La_law_338 rfl rfl ?_
        refine J_iconst (v := 1) C D_La_law_339 rfl ?_
        refine J_iadd C D_La_law_340 ?_
        obtain ⟨c_341, h⟩ := h
        refine J_sld C Sx D_La_law_341 c_341 ?_
        refine J_aload_n C 0 D_La_law_342 rfl rfl ?_
        refine J_iload_n C 3 D_La_law_343 rfl rfl ?_
        refine J_iconst (v := 2) C D_La_law_344 rfl ?_
        refine J_iadd C D_La_law_345 ?_
        obtain ⟨c_346, h⟩ := h
        refine J_sld C Sx D_La_law_346 c_346 ?_
        refine J_aload_n C 0 D_La_law_347 rfl rfl ?_
        refine J_iload_n C 3 D_La_law_348 rfl rfl ?_
        refine J_iconst (v := 3) C D_La_law_349 rfl ?_
        refine J_iadd C D_La_law_350 ?_
        obtain ⟨c_351, h⟩ := h
        refine J_sld C Sx D_La_law_351 c_351 ?_
        obtain ⟨c_352, h⟩ := h
        refine JS_callVi C Bd hN ml_La_42 (S_HT_times _ _ _ _ _ _ h) ⟨rfl, rfl⟩ (by rw [hR.1, hR.2]; decide) rfl c_352 rfl (Nat.le_of_ble_eq_true rfl) D_La_law_352 (fun r352 M352 hN h => ?_)
        refine J_aload_n C 2 D_La_law_355 rfl rfl ?_
        refine J_aload_n C 0 D_La_law_356 rfl rfl ?_
        refine J_iload_n C 3 D_La_law_357 rfl rfl ?_
        refine J_iconst (v := 1) C D_La_law_358 rfl ?_
        refine J_iadd C D_La_law_359 ?_
        obtain ⟨c_360, h⟩ := h
        refine J_sld C Sx D_La_law_360 c_360 ?_
        refine J_aload_n C 0 D_La_law_361 rfl rfl ?_
        refine J_iload_n C 3 D_La_law_362 rfl rfl ?_
        refine J_iconst (v := 2) C D_La_law_363 rfl ?_
        refine J_iadd C D_La_law_364 ?_
        obtain ⟨c_365, h⟩ := h
        refine J_sld C Sx D_La_law_365 c_365 ?_
        refine J_aload_n C 0 D_La_law_366 rfl rfl ?_
        refine J_iload_n C 3 D_La_law_367 rfl rfl ?_
        refine J_iconst (v := 3) C D_La_law_368 rfl ?_
        refine J_iadd C D_La_law_369 ?_
        obtain ⟨c_370, h⟩ := h
        refine J_sld C Sx D_La_law_370 c_370 ?_
        obtain ⟨c_371, h⟩ := h
        refine JS_callVi C Bd hN ml_La_45 (S_Mo_times _ _ _ _ _ _ h) ⟨rfl, rfl⟩ (by rw [hR.1, hR.2]; decide) rfl c_371 rfl (Nat.le_of_ble_eq_true rfl) D_La_law_371 (fun r371 M371 hN h => ?_)
        refine J_icmp_eq (tgt := 723) C D_La_law_374 (by decide) (fun c_374 => ?_) (fun c_374 => ?_)
        · have h := h.1 c_374
          exact J_sub [0, 1, 2, 3] rfl (Z_La_law_723 C hR Bd Sx Rt K18 _ _ _ _ hN h)
        · have h := h.2 c_374
          refine J_iconst (v := 0) C D_La_law_377 rfl ?_
          exact J_lretD C Rt Bd hN D_La_law_378 h
      · have h := (h.2.2.2.2.2.2.2.1) r_32
        refine J_tableIn (tgt := 379) C D_La_law_32 (by rw [r_32]; decide) (by rw [r_32]; decide) (by rw [r_32]; rfl) (by decide) ?_
        refine J_aload_n C 1 D_La_law_379 rfl rfl ?_
        obtain ⟨c_380, h⟩ := h
        refine JS_callVi C Bd hN ml_La_46 (S_HT_row _ _ _ h) ⟨rfl, rfl⟩ (by rw [hR.1, hR.2]; decide) rfl c_380 rfl (Nat.le_of_ble_eq_true rfl) D_La_law_380 (fun r380 M380 hN h => ?_)
        refine J_aload_n C 2 D_La_law_383 rfl rfl ?_
        obtain ⟨c_384, h⟩ := h
        refine JS_callVi C Bd hN ml_La_49 (S_Mo_row _ _ _ h) ⟨rfl, rfl⟩ (by rw [hR.1, hR.2]; decide) rfl c_384 rfl (Nat.le_of_ble_eq_true rfl) D_La_law_384 (fun r384 M384 hN h => ?_)
        refine J_icmp_eq (tgt := 723) C D_La_law_387 (by decide) (fun c_387 => ?_) (fun c_387 => ?_)
        · have h := h.1 c_387
          exact J_sub [0, 1, 2, 3] rfl (Z_La_law_723 C hR Bd Sx Rt K18 _ _ _ _ hN h)
        · have h := h.2 c_387
          refine J_iconst (v := 0) C D_La_law_390 rfl ?_
          exact J_lretD C Rt Bd hN D_La_law_391 h
      · have h := (h.2.2.2.2.2.2.2.2.1) r_32
        refine J_tableIn (tgt := 392) C D_La_law_32 (by rw [r_32]; decide) (by rw [r_32]; decide) (by rw [r_32]; rfl) (by decide) ?_
        refine J_aload_n C 1 D_La_law_392 rfl rfl ?_
        obtain ⟨c_393, h⟩ := h
        refine JS_callVi C Bd hN ml_La_50 (S_HT_drop _ _ _ h) ⟨rfl, rfl⟩ (by rw [hR.1, hR.2]; decide) rfl c_393 rfl (Nat.le_of_ble_eq_true rfl) D_La_law_393 (fun r393 M393 hN h => ?_)
        refine J_aload_n C 2 D_La_law_396 rfl rfl ?_
        obtain ⟨c_397, h⟩ := h
        refine JS_callVi C Bd hN ml_La_53 (S_Mo_drop _ _ _ h) ⟨rfl, rfl⟩ (by rw [hR.1, hR.2]; decide) rfl c_397 rfl (Nat.le_of_ble_eq_true rfl) D_La_law_397 (fun r397 M397 hN h => ?_)
        refine J_icmp_eq (tgt := 723) C D_La_law_400 (by decide) (fun c_400 => ?_) (fun c_400 => ?_)
        · have h := h.1 c_400
          exact J_sub [0, 1, 2, 3] rfl (Z_La_law_723 C hR Bd Sx Rt K18 _ _ _ _ hN h)
        · have h := h.2 c_400
          refine J_iconst (v := 0) C D_La_law_403 rfl ?_
          exact J_lretD C Rt Bd hN D_La_law_404 h
      · have h := (h.2.2.2.2.2.2.2.2.2.1) r_32
        refine J_tableIn (tgt := 405) C D_La_law_32 (by rw [r_32]; decide) (by rw [r_32]; decide) (by rw [r_32]; rfl) (by decide) ?_
        refine J_aload_n C 1 D_La_law_405 rfl rfl ?_
        refine J_aload_n C 0 D_La_law_406 rfl rfl ?_
        refine J_iload_n C 3 D_La_law_407 rfl rfl ?_
        refine J_iconst (v := 1) C D_La_law_408 rfl ?_
        refine J_iadd C D_La_law_409 ?_
        obtain ⟨c_410, h⟩ := h
        refine J_sld C Sx D_La_law_410 c_410 ?_
        obtain ⟨c_411, h⟩ := h
        refine JS_callVi C Bd hN ml_La_54 (S_HT_copy _ _ _ _ h) ⟨rfl, rfl⟩ (by rw [hR.1, hR.2]; decide) rfl c_411 rfl (Nat.le_of_ble_eq_true rfl) D_La_law_411 (fun r411 M411 hN h => ?_)
        refine J_aload_n C 2 D_La_law_414 rfl rfl ?_
        refine J_aload_n C 0 D_La_law_415 rfl rfl ?_
        refine J_iload_n C 3 D_La_law_416 rfl rfl ?_
        refine J_iconst (v := 1) C D_La_law_417 rfl ?_
        refine J_iadd C D_La_law_418 ?_
        obtain ⟨c_419, h⟩ := h
        refine J_sld C Sx D_La_law_419 c_419 ?_
        obtain ⟨c_420, h⟩ := h
        refine JS_callVi C Bd hN ml_La_57 (S_Mo_copy _ _ _ _ h) ⟨rfl, rfl⟩ (by rw [hR.1, hR.2]; decide) rfl c_420 rfl (Nat.le_of_ble_eq_true rfl) D_La_law_420 (fun r420 M420 hN h => ?_)
        refine J_icmp_eq (tgt := 723) C D_La_law_423 (by decide) (fun c_423 => ?_) (fun c_423 => ?_)
        · have h := h.1 c_423
          exact J_sub [0, 1, 2, 3] rfl (Z_La_law_723 C hR Bd Sx Rt K18 _ _ _ _ hN h)
        · have h := h.2 c_423
          refine J_iconst (v := 0) C D_La_law_426 rfl ?_
          exact J_lretD C Rt Bd hN D_La_law_427 h
      · have h := (h.2.2.2.2.2.2.2.2.2.2.1) r_32
        refine J_tableIn (tgt := 428) C D_La_law_32 (by rw [r_32]; decide) (by rw [r_32]; decide) (by rw [r_32]; rfl) (by decide) ?_
        refine J_aload_n C 1 D_La_law_428 rfl rfl ?_
        obtain ⟨c_429, h⟩ := h
        refine J_sub [0, 1, 2, 3] rfl ?_
        obtain ⟨i_429_0, h⟩ := h
        obtain ⟨i_429_1, h⟩ := h
        refine JD_callVi C Bd hN ml_La_58 (S_HT_rest _ _ _ hN h) (by rw [hR.1, hR.2]; decide) rfl c_429 rfl (Nat.le_of_ble_eq_true rfl) D_La_law_429 (fun x ex r429 M429 hN hq h => ?_)
        have C := ex.ok C
        have hR := ex.fr hR
        have Bd := ex.bd Bd
        have Rt := ex.rl Rt
        have Sx := ex.sx Sx
        have K18 := fun x2 s2 => K18 x2 (ex.tr s2)
        obtain ⟨j_429_0, h⟩ := h
        rw [hq a1 6 (by decide) i_429_0 j_429_0]
        obtain ⟨j_429_1, h⟩ := h
        rw [hq a2 7 (by decide) i_429_1 j_429_1]
        refine J_aload_n C 2 D_La_law_432 rfl rfl ?_
        obtain ⟨c_433, h⟩ := h
        refine JS_callVi C Bd hN ml_La_61 (S_Mo_rest _ _ _ h) ⟨rfl, rfl⟩ (by rw [hR.1, hR.2]; decide) rfl c_433 rfl (Nat.le_of_ble_eq_true rfl) D_La_law_433 (fun r433 M433 hN h => ?_)
        refine J_icmp_eq (tgt := 723) C D_La_law_436 (by decide) (fun c_436 => ?_) (fun c_436 => ?_)
        · have h := h.1 c_436
          exact J_sub [0, 1, 2, 3] rfl (Z_La_law_723 C hR Bd Sx Rt K18 _ _ _ _ hN h)
        · have h := h.2 c_436
          refine J_iconst (v := 0) C D_La_law_439 rfl ?_
          exact J_lretD C Rt Bd hN D_La_law_440 h
      · have h := (h.2.2.2.2.2.2.2.2.2.2.2.1) r_32
        refine J_tableIn (tgt := 441) C D_La_law_32 (by rw [r_32]; decide) (by rw [r_32]; decide) (by rw [r_32]; rfl) (by decide) ?_
        refine J_aload_n C 1 D_La_law_441 rfl rfl ?_
        obtain ⟨c_442, h⟩ := h
        refine J_sub [0, 1, 2, 3] rfl ?_
        obtain ⟨i_442_0, h⟩ := h
        obtain ⟨i_442_1, h⟩ := h
        refine JD_callVi C Bd hN ml_La_62 (S_HT_in _ _ _ hN h) (by rw [hR.1, hR.2]; decide) rfl c_442 rfl (Nat.le_of_ble_eq_true rfl) D_La_law_442 (fun x ex r442 M442 hN hq h => ?_)
        have C := ex.ok C
        have hR := ex.fr hR
        have Bd := ex.bd Bd
        have Rt := ex.rl Rt
        have Sx := ex.sx Sx
        have K18 := fun x2 s2 => K18 x2 (ex.tr s2)
        obtain ⟨j_442_0, h⟩ := h
        rw [hq a1 6 (by decide) i_442_0 j_442_0]
        obtain ⟨j_442_1, h⟩ := h
        rw [hq a2 7 (by decide) i_442_1 j_442_1]
        refine J_aload_n C 2 D_La_law_445 rfl rfl ?_
        obtain ⟨c_446, h⟩ := h
        refine JS_callVi C Bd hN ml_La_65 (S_Mo_in0 _ _ _ h) ⟨rfl, rfl⟩ (by rw [hR.1, hR.2]; decide) rfl c_446 rfl (Nat.le_of_ble_eq_true rfl) D_La_law_446 (fun r446 M446 hN h => ?_)
        refine J_icmp_eq (tgt := 723) C D_La_law_449 (by decide) (fun c_449 => ?_) (fun c_449 => ?_)
        · have h := h.1 c_449
          exact J_sub [0, 1, 2, 3] rfl (Z_La_law_723 C hR Bd Sx Rt K18 _ _ _ _ hN h)
        · have h := h.2 c_449
          refine J_iconst (v := 0) C D_La_law_452 rfl ?_
          exact J_lretD C Rt Bd hN D_La_law_453 h
      · have h := (h.2.2.2.2.2.2.2.2.2.2.2.2.1) r_32
        refine J_tableIn (tgt := 454) C D_La_law_32 (by rw [r_32]; decide) (by rw [r_32]; decide) (by rw [r_32]; rfl) (by decide) ?_
        refine J_aload_n C 1 D_La_law_454 rfl rfl ?_
        refine J_aload_n C 0 D_La_law_455 rfl rfl ?_
        refine J_iload_n C 3 D_La_law_456 rfl rfl ?_
        refine J_iconst (v := 1) C D_La_law_457 rfl ?_
        refine J_iadd C D_La_law_458 ?_
        obtain ⟨c_459, h⟩ := h
        refine J_sld C Sx D_La_law_459 c_459 ?_
        obtain ⟨c_460, h⟩ := h
        refine J_sub [0, 1, 2, 3] rfl ?_
        obtain ⟨i_460_0, h⟩ := h
        obtain ⟨i_460_1, h⟩ := h
        refine JD_callVi C Bd hN ml_La_66 (S_HT_base _ _ _ _ hN h) (by rw [hR.1, hR.2]; decide) rfl c_460 rfl (Nat.le_of_ble_eq_true rfl) D_La_law_460 (fun x ex r460 M460 hN hq h => ?_)
        have C := ex.ok C
        have hR := ex.fr hR
        have Bd := ex.bd Bd
        have Rt := ex.rl Rt
        have Sx := ex.sx Sx
        have K18 := fun x2 s2 => K18 x2 (ex.tr s2)
        obtain ⟨j_460_0, h⟩ := h
        rw [hq a1 6 (by decide) i_460_0 j_460_0]
        obtain ⟨j_460_1, h⟩ := h
        rw [hq a2 7 (by decide) i_460_1 j_460_1]
        refine J_aload_n C 2 D_La_law_463 rfl rfl ?_
        refine J_aload_n C 0 D_La_law_464 rfl rfl ?_
        refine J_iload_n C 3 D_La_law_465 rfl rfl ?_
        refine J_iconst (v := 1) C D_La_law_466 rfl ?_
        refine J_iadd C D_La_law_467 ?_
        obtain ⟨c_468, h⟩ := h
        refine J_sld C Sx D_La_law_468 c_468 ?_
        obtain ⟨c_469, h⟩ := h
        refine JS_callVi C Bd hN ml_La_69 (S_Mo_base _ _ _ _ h) ⟨rfl, rfl⟩ (by rw [hR.1, hR.2]; decide) rfl c_469 rfl (Nat.le_of_ble_eq_true rfl) D_La_law_469 (fun r469 M469 hN h => ?_)
        refine J_icmp_eq (tgt := 723) C D_La_law_472 (by decide) (fun c_472 => ?_) (fun c_472 => ?_)
        · have h := h.1 c_472
          exact J_sub [0, 1, 2, 3] rfl (Z_La_law_723 C hR Bd Sx Rt K18 _ _ _ _ hN h)
        · have h := h.2 c_472
          refine J_iconst (v := 0) C D_La_law_475 rfl ?_
          exact J_lretD C Rt Bd hN D_La_law_476 h
      · have h := (h.2.2.2.2.2.2.2.2.2.2.2.2.2.1) r_32
        refine J_tableIn (tgt := 477) C D_La_law_32 (by rw [r_32]; decide) (by rw [r_32]; decide) (by rw [r_32]; rfl) (by decide) ?_
        refine J_aload_n C 1 D_La_law_477 rfl rfl ?_
        refine J_aload_n C 0 D_La_law_478 rfl rfl ?_
        refine J_iload_n C 3 D_La_law_479 rfl rfl ?_
        refine J_iconst (v := 1) C D_La_law_480 rfl ?_
        refine J_iadd C D_La_law_481 ?_
        obtain ⟨c_482, h⟩ := h
        refine J_sld C Sx D_La_law_482 c_482 ?_
        obtain ⟨c_483, h⟩ := h
        refine J_sub [0, 1, 2, 3] rfl ?_
        obtain ⟨i_483_0, h⟩ := h
        obtain ⟨i_483_1, h⟩ := h
        refine JD_callVi C Bd hN ml_La_70 (S_HT_element _ _ _ _ hN h) (by rw [hR.1, hR.2]; decide) rfl c_483 rfl (Nat.le_of_ble_eq_true rfl) D_La_law_483 (fun x ex r483 M483 hN hq h => ?_)
        have C := ex.ok C
        have hR := ex.fr hR
        have Bd := ex.bd Bd
        have Rt := ex.rl Rt
        have Sx := ex.sx Sx
        have K18 := fun x2 s2 => K18 x2 (ex.tr s2)
        obtain ⟨j_483_0, h⟩ := h
        rw [hq a1 6 (by decide) i_483_0 j_483_0]
        obtain ⟨j_483_1, h⟩ := h
        rw [hq a2 7 (by decide) i_483_1 j_483_1]
        refine J_aload_n C 2 D_La_law_486 rfl rfl ?_
        refine J_aload_n C 0 D_La_law_487 rfl rfl ?_
        refine J_iload_n C 3 D_La_law_488 rfl rfl ?_
        refine J_iconst (v := 1) C D_La_law_489 rfl ?_
        refine J_iadd C D_La_law_490 ?_
        obtain ⟨c_491, h⟩ := h
        refine J_sld C Sx D_La_law_491 c_491 ?_
        obtain ⟨c_492, h⟩ := h
        refine JS_callVi C Bd hN ml_La_73 (S_Mo_element _ _ _ _ h) ⟨rfl, rfl⟩ (by rw [hR.1, hR.2]; decide) rfl c_492 rfl (Nat.le_of_ble_eq_true rfl) D_La_law_492 (fun r492 M492 hN h => ?_)
        refine J_icmp_eq (tgt := 723) C D_La_law_495 (by decide) (fun c_495 => ?_) (fun c_495 => ?_)
        · have h := h.1 c_495
          exact J_sub [0, 1, 2, 3] rfl (Z_La_law_723 C hR Bd Sx Rt K18 _ _ _ _ hN h)
        · have h := h.2 c_495
          refine J_iconst (v := 0) C D_La_law_498 rfl ?_
          exact J_lretD C Rt Bd hN D_La_law_499 h
      · have h := (h.2.2.2.2.2.2.2.2.2.2.2.2.2.2.1) r_32
        refine J_tableIn (tgt := 500) C D_La_law_32 (by rw [r_32]; decide) (by rw [r_32]; decide) (by rw [r_32]; rfl) (by decide) ?_
        refine J_aload_n C 1 D_La_law_500 rfl rfl ?_
        refine J_aload_n C 0 D_La_law_501 rfl rfl ?_
        refine J_iload_n C 3 D_La_law_502 rfl rfl ?_
        refine J_iconst (v := 1) C D_La_law_503 rfl ?_
        refine J_iadd C D_La_law_504 ?_
        obtain ⟨c_505, h⟩ := h
        refine J_sld C Sx D_La_law_505 c_505 ?_
        obtain ⟨c_506, h⟩ := h
        refine J_sub [0, 1, 2, 3] rfl ?_
        obtain ⟨i_506_0, h⟩ := h
        obtain ⟨i_506_1, h⟩ := h
        refine JD_callVi C Bd hN ml_La_74 (S_HT_count _ _ _ _ hN h) (by rw [hR.1, hR.2]; decide) rfl c_506 rfl (Nat.le_of_ble_eq_true rfl) D_La_law_506 (fun x ex r506 M506 hN hq h => ?_)
        have C := ex.ok C
        have hR := ex.fr hR
        have Bd := ex.bd Bd
        have Rt := ex.rl Rt
        have Sx := ex.sx Sx
        have K18 := fun x2 s2 => K18 x2 (ex.tr s2)
        obtain ⟨j_506_0, h⟩ := h
        rw [hq a1 6 (by decide) i_506_0 j_506_0]
        obtain ⟨j_506_1, h⟩ := h
        rw [hq a2 7 (by decide) i_506_1 j_506_1]
        refine J_aload_n C 2 D_La_law_509 rfl rfl ?_
        refine J_aload_n C 0 D_La_law_510 rfl rfl ?_
        refine J_iload_n C 3 D_La_law_511 rfl rfl ?_
        refine J_iconst (v := 1) C D_La_law_512 rfl ?_
        refine J_iadd C D_La_law_513 ?_
        obtain ⟨c_514, h⟩ := h
        refine J_sld C Sx D_La_law_514 c_514 ?_
        obtain ⟨c_515, h⟩ := h
        refine JS_callVi C Bd hN ml_La_77 (S_Mo_count _ _ _ _ h) ⟨rfl, rfl⟩ (by rw [hR.1, hR.2]; decide) rfl c_515 rfl (Nat.le_of_ble_eq_true rfl) D_La_law_515 (fun r515 M515 hN h => ?_)
        refine J_icmp_eq (tgt := 723) C D_La_law_518 (by decide) (fun c_518 => ?_) (fun c_518 => ?_)
        · have h := h.1 c_518
          exact J_sub [0, 1, 2, 3] rfl (Z_La_law_723 C hR Bd Sx Rt K18 _ _ _ _ hN h)
        · have h := h.2 c_518
          refine J_iconst (v := 0) C D_La_law_521 rfl ?_
          exact J_lretD C Rt Bd hN D_La_law_522 h
      · have h := (h.2.2.2.2.2.2.2.2.2.2.2.2.2.2.2.1) r_32
        refine J_tableIn (tgt := 523) C D_La_law_32 (by rw [r_32]; decide) (by rw [r_32]; decide) (by rw [r_32]; rfl) (by decide) ?_
        refine J_aload_n C 1 D_La_law_523 rfl rfl ?_
        refine J_aload_n C 0 D_La_law_524 rfl rfl ?_
        refine J_iload_n C 3 D_La_law_525 rfl rfl ?_
        refine J_iconst (v := 1) C D_La_law_526 rfl ?_
        refine J_iadd C D_La_law_527 ?_
        obtain ⟨c_528, h⟩ := h
        refine J_sld C Sx D_La_law_528 c_528 ?_
        refine J_aload_n C 0 D_La_law_529 rfl rfl ?_
        refine J_iload_n C 3 D_La_law_530 rfl rfl ?_
        refine J_iconst (v := 2) C D_La_law_531 rfl ?_
        refine J_iadd C D_La_law_532 ?_
        obtain ⟨c_533, h⟩ := h
        refine J_sld C Sx D_La_law_533 c_533 ?_
        obtain ⟨c_534, h⟩ := h
        refine J_sub [0, 1, 2, 3] rfl ?_
        obtain ⟨i_534_0, h⟩ := h
        obtain ⟨i_534_1, h⟩ := h
        refine JD_callVi C Bd hN ml_La_78 (S_HT_free _ _ _ _ _ hN h) (by rw [hR.1, hR.2]; decide) rfl c_534 rfl (Nat.le_of_ble_eq_true rfl) D_La_law_534 (fun x ex r534 M534 hN hq h => ?_)
        have C := ex.ok C
        have hR := ex.fr hR
        have Bd := ex.bd Bd
        have Rt := ex.rl Rt
        have Sx := ex.sx Sx
        have K18 := fun x2 s2 => K18 x2 (ex.tr s2)
        obtain ⟨j_534_0, h⟩ := h
        rw [hq a1 6 (by decide) i_534_0 j_534_0]
        obtain ⟨j_534_1, h⟩ := h
        rw [hq a2 7 (by decide) i_534_1 j_534_1]
        refine J_aload_n C 2 D_La_law_537 rfl rfl ?_
        refine J_aload_n C 0 D_La_law_538 rfl rfl ?_
        refine J_iload_n C 3 D_La_law_539 rfl rfl ?_
        refine J_iconst (v := 1) C D_La_law_540 rfl ?_
        refine J_iadd C D_La_law_541 ?_
        obtain ⟨c_542, h⟩ := h
        refine J_sld C Sx D_La_law_542 c_542 ?_
        refine J_aload_n C 0 D_La_law_543 rfl rfl ?_
        refine J_iload_n C 3 D_La_law_544 rfl rfl ?_
        refine J_iconst (v := 2) C D_La_law_545 rfl ?_
        refine J_iadd C D_La_law_546 ?_
        obtain ⟨c_547, h⟩ := h
        refine J_sld C Sx D_La_law_547 c_547 ?_
        obtain ⟨c_548, h⟩ := h
        refine JS_callVi C Bd hN ml_La_81 (S_Mo_free _ _ _ _ _ h) ⟨rfl, rfl⟩ (by rw [hR.1, hR.2]; decide) rfl c_548 rfl (Nat.le_of_ble_eq_true rfl) D_La_law_548 (fun r548 M548 hN h => ?_)
        refine J_icmp_eq (tgt := 723) C D_La_law_551 (by decide) (fun c_551 => ?_) (fun c_551 => ?_)
        · have h := h.1 c_551
          exact J_sub [0, 1, 2, 3] rfl (Z_La_law_723 C hR Bd Sx Rt K18 _ _ _ _ hN h)
        · have h := h.2 c_551
          refine J_iconst (v := 0) C D_La_law_554 rfl ?_
          exact J_lretD C Rt Bd hN D_La_law_555 h
      · have h := (h.2.2.2.2.2.2.2.2.2.2.2.2.2.2.2.2.1) r_32
        refine J_tableIn (tgt := 556) C D_La_law_32 (by rw [r_32]; decide) (by rw [r_32]; decide) (by rw [r_32]; rfl) (by decide) ?_
        refine J_aload_n C 1 D_La_law_556 rfl rfl ?_
        refine J_aload_n C 0 D_La_law_557 rfl rfl ?_
        refine J_iload_n C 3 D_La_law_558 rfl rfl ?_
        refine J_iconst (v := 1) C D_La_law_559 rfl ?_
        refine J_iadd C D_La_law_560 ?_
        obtain ⟨c_561, h⟩ := h
        refine J_sld C Sx D_La_law_561 c_561 ?_
        obtain ⟨c_562, h⟩ := h
        refine J_sub [0, 1, 2, 3] rfl ?_
        obtain ⟨i_562_0, h⟩ := h
        obtain ⟨i_562_1, h⟩ := h
        refine JD_callVi C Bd hN ml_La_82 (S_HT_quotient _ _ _ _ hN h) (by rw [hR.1, hR.2]; decide) rfl c_562 rfl (Nat.le_of_ble_eq_true rfl) D_La_law_562 (fun x ex r562 M562 hN hq h => ?_)
        have C := ex.ok C
        have hR := ex.fr hR
        have Bd := ex.bd Bd
        have Rt := ex.rl Rt
        have Sx := ex.sx Sx
        have K18 := fun x2 s2 => K18 x2 (ex.tr s2)
        obtain ⟨j_562_0, h⟩ := h
        rw [hq a1 6 (by decide) i_562_0 j_562_0]
        obtain ⟨j_562_1, h⟩ := h
        rw [hq a2 7 (by decide) i_562_1 j_562_1]
        refine J_aload_n C 2 D_La_law_565 rfl rfl ?_
        refine J_aload_n C 0 D_La_law_566 rfl rfl ?_
        refine J_iload_n C 3 D_La_law_567 rfl rfl ?_
        refine J_iconst (v := 1) C D_La_law_568 rfl ?_
        refine J_iadd C D_La_law_569 ?_
        obtain ⟨c_570, h⟩ := h
        refine J_sld C Sx D_La_law_570 c_570 ?_
        obtain ⟨c_571, h⟩ := h
        refine JS_callVi C Bd hN ml_La_85 (S_Mo_quotient _ _ _ _ h) ⟨rfl, rfl⟩ (by rw [hR.1, hR.2]; decide) rfl c_571 rfl (Nat.le_of_ble_eq_true rfl) D_La_law_571 (fun r571 M571 hN h => ?_)
        refine J_icmp_eq (tgt := 723) C D_La_law_574 (by decide) (fun c_574 => ?_) (fun c_574 => ?_)
        · have h := h.1 c_574
          exact J_sub [0, 1, 2, 3] rfl (Z_La_law_723 C hR Bd Sx Rt K18 _ _ _ _ hN h)
        · have h := h.2 c_574
          refine J_iconst (v := 0) C D_La_law_577 rfl ?_
          exact J_lretD C Rt Bd hN D_La_law_578 h
      · have h := (h.2.2.2.2.2.2.2.2.2.2.2.2.2.2.2.2.2.1) r_32
        refine J_tableIn (tgt := 579) C D_La_law_32 (by rw [r_32]; decide) (by rw [r_32]; decide) (by rw [r_32]; rfl) (by decide) ?_
        refine J_aload_n C 1 D_La_law_579 rfl rfl ?_
        obtain ⟨c_580, h⟩ := h
        refine J_sub [0, 1, 2, 3] rfl ?_
        obtain ⟨i_580_0, h⟩ := h
        obtain ⟨i_580_1, h⟩ := h
        refine JD_callVi C Bd hN ml_La_86 (S_HT_regular _ _ _ hN h) (by rw [hR.1, hR.2]; decide) rfl c_580 rfl (Nat.le_of_ble_eq_true rfl) D_La_law_580 (fun x ex r580 M580 hN hq h => ?_)
        have C := ex.ok C
        have hR := ex.fr hR
        have Bd := ex.bd Bd
        have Rt := ex.rl Rt
        have Sx := ex.sx Sx
        have K18 := fun x2 s2 => K18 x2 (ex.tr s2)
        obtain ⟨j_580_0, h⟩ := h
        rw [hq a1 6 (by decide) i_580_0 j_580_0]
        obtain ⟨j_580_1, h⟩ := h
        rw [hq a2 7 (by decide) i_580_1 j_580_1]
        refine J_aload_n C 2 D_La_law_583 rfl rfl ?_
        obtain ⟨c_584, h⟩ := h
        refine JS_callVi C Bd hN ml_La_89 (S_Mo_regular _ _ _ h) ⟨rfl, rfl⟩ (by rw [hR.1, hR.2]; decide) rfl c_584 rfl (Nat.le_of_ble_eq_true rfl) D_La_law_584 (fun r584 M584 hN h => ?_)
        refine J_icmp_eq (tgt := 723) C D_La_law_587 (by decide) (fun c_587 => ?_) (fun c_587 => ?_)
        · have h := h.1 c_587
          exact J_sub [0, 1, 2, 3] rfl (Z_La_law_723 C hR Bd Sx Rt K18 _ _ _ _ hN h)
        · have h := h.2 c_587
          refine J_iconst (v := 0) C D_La_law_590 rfl ?_
          exact J_lretD C Rt Bd hN D_La_law_591 h
      · have h := (h.2.2.2.2.2.2.2.2.2.2.2.2.2.2.2.2.2.2.1) r_32
        refine J_tableIn (tgt := 592) C D_La_law_32 (by rw [r_32]; decide) (by rw [r_32]; decide) (by rw [r_32]; rfl) (by decide) ?_
        refine J_aload_n C 1 D_La_law_592 rfl rfl ?_
        obtain ⟨c_593, h⟩ := h
        refine JS_callVi C Bd hN ml_La_90 (S_HT_keep _ _ _ h) ⟨rfl, rfl⟩ (by rw [hR.1, hR.2]; decide) rfl c_593 rfl (Nat.le_of_ble_eq_true rfl) D_La_law_593 (fun r593 M593 hN h => ?_)
        refine J_aload_n C 2 D_La_law_596 rfl rfl ?_
        obtain ⟨c_597, h⟩ := h
        refine JS_callVi C Bd hN ml_La_93 (S_Mo_keep _ _ _ h) ⟨rfl, rfl⟩ (by rw [hR.1, hR.2]; decide) rfl c_597 rfl (Nat.le_of_ble_eq_true rfl) D_La_law_597 (fun r597 M597 hN h => ?_)
        refine J_icmp_eq (tgt := 723) C D_La_law_600 (by decide) (fun c_600 => ?_) (fun c_600 => ?_)
        · have h := h.1 c_600
          exact J_sub [0, 1, 2, 3] rfl (Z_La_law_723 C hR Bd Sx Rt K18 _ _ _ _ hN h)
        · have h := h.2 c_600
          refine J_iconst (v := 0) C D_La_law_603 rfl ?_
          exact J_lretD C Rt Bd hN D_La_law_604 h
      · have h := (h.2.2.2.2.2.2.2.2.2.2.2.2.2.2.2.2.2.2.2.1) r_32
        refine J_tableIn (tgt := 605) C D_La_law_32 (by rw [r_32]; decide) (by rw [r_32]; decide) (by rw [r_32]; rfl) (by decide) ?_
        refine J_aload_n C 1 D_La_law_605 rfl rfl ?_
        obtain ⟨c_606, h⟩ := h
        refine JS_callVi C Bd hN ml_La_94 (S_HT_swap _ _ _ h) ⟨rfl, rfl⟩ (by rw [hR.1, hR.2]; decide) rfl c_606 rfl (Nat.le_of_ble_eq_true rfl) D_La_law_606 (fun r606 M606 hN h => ?_)
        refine J_aload_n C 2 D_La_law_609 rfl rfl ?_
        obtain ⟨c_610, h⟩ := h
        refine JS_callVi C Bd hN ml_La_97 (S_Mo_swap _ _ _ h) ⟨rfl, rfl⟩ (by rw [hR.1, hR.2]; decide) rfl c_610 rfl (Nat.le_of_ble_eq_true rfl) D_La_law_610 (fun r610 M610 hN h => ?_)
        refine J_icmp_eq (tgt := 723) C D_La_law_613 (by decide) (fun c_613 => ?_) (fun c_613 => ?_)
        · have h := h.1 c_613
          exact J_sub [0, 1, 2, 3] rfl (Z_La_law_723 C hR Bd Sx Rt K18 _ _ _ _ hN h)
        · have h := h.2 c_613
          refine J_iconst (v := 0) C D_La_law_616 rfl ?_
          exact J_lretD C Rt Bd hN D_La_law_617 h
      · have h := (h.2.2.2.2.2.2.2.2.2.2.2.2.2.2.2.2.2.2.2.2.1) r_32
        refine J_tableIn (tgt := 618) C D_La_law_32 (by rw [r_32]; decide) (by rw [r_32]; decide) (by rw [r_32]; rfl) (by decide) ?_
        refine J_aload_n C 1 D_La_law_618 rfl rfl ?_
        refine J_aload_n C 0 D_La_law_619 rfl rfl ?_
        refine J_iload_n C 3 D_La_law_620 rfl rfl ?_
        refine J_iconst (v := 1) C D_La_law_621 rfl ?_
        refine J_iadd C D_La_law_622 ?_
        obtain ⟨c_623, h⟩ := h
        refine J_sld C Sx D_La_law_623 c_623 ?_
        refine J_aload_n C 0 D_La_law_624 rfl rfl ?_
        refine J_iload_n C 3 D_La_law_625 rfl rfl ?_
        refine J_iconst (v := 2) C D_La_law_626 rfl ?_
        refine J_iadd C D_La_law_627 ?_
        obtain ⟨c_628, h⟩ := h
        refine J_sld C Sx D_La_law_628 c_628 ?_
        obtain ⟨c_629, h⟩ := h
        refine J_sub [0, 1, 2, 3] rfl ?_
        obtain ⟨i_629_0, h⟩ := h
        obtain ⟨i_629_1, h⟩ := h
        refine JD_callVi C Bd hN ml_La_98 (S_HT_dimension _ _ _ _ _ hN h) (by rw [hR.1, hR.2]; decide) rfl c_629 rfl (Nat.le_of_ble_eq_true rfl) D_La_law_629 (fun x ex r629 M629 hN hq h => ?_)
        have C := ex.ok C
        have hR := ex.fr hR
        have Bd := ex.bd Bd
        have Rt := ex.rl Rt
        have Sx := ex.sx Sx
        have K18 := fun x2 s2 => K18 x2 (ex.tr s2)
        obtain ⟨j_629_0, h⟩ := h
        rw [hq a1 6 (by decide) i_629_0 j_629_0]
        obtain ⟨j_629_1, h⟩ := h
        rw [hq a2 7 (by decide) i_629_1 j_629_1]
        refine J_aload_n C 2 D_La_law_632 rfl rfl ?_
        refine J_aload_n C 0 D_La_law_633 rfl rfl ?_
        refine J_iload_n C 3 D_La_law_634 rfl rfl ?_
        refine J_iconst (v := 1) C D_La_law_635 rfl ?_
        refine J_iadd C D_La_law_636 ?_
        obtain ⟨c_637, h⟩ := h
        refine J_sld C Sx D_La_law_637 c_637 ?_
        refine J_aload_n C 0 D_La_law_638 rfl rfl ?_
        refine J_iload_n C 3 D_La_law_639 rfl rfl ?_
        refine J_iconst (v := 2) C D_La_law_640 rfl ?_
        refine J_iadd C D_La_law_641 ?_
        obtain ⟨c_642, h⟩ := h
        refine J_sld C Sx D_La_law_642 c_642 ?_
        obtain ⟨c_643, h⟩ := h
        refine JS_callVi C Bd hN ml_La_101 (S_Mo_dimension _ _ _ _ _ h) ⟨rfl, rfl⟩ (by rw [hR.1, hR.2]; decide) rfl c_643 rfl (Nat.le_of_ble_eq_true rfl) D_La_law_643 (fun r643 M643 hN h => ?_)
        refine J_icmp_eq (tgt := 723) C D_La_law_646 (by decide) (fun c_646 => ?_) (fun c_646 => ?_)
        · have h := h.1 c_646
          exact J_sub [0, 1, 2, 3] rfl (Z_La_law_723 C hR Bd Sx Rt K18 _ _ _ _ hN h)
        · have h := h.2 c_646
          refine J_iconst (v := 0) C D_La_law_649 rfl ?_
          exact J_lretD C Rt Bd hN D_La_law_650 h
      · have h := (h.2.2.2.2.2.2.2.2.2.2.2.2.2.2.2.2.2.2.2.2.2.1) r_32
        refine J_tableIn (tgt := 651) C D_La_law_32 (by rw [r_32]; decide) (by rw [r_32]; decide) (by rw [r_32]; rfl) (by decide) ?_
        refine J_aload_n C 1 D_La_law_651 rfl rfl ?_
        obtain ⟨c_652, h⟩ := h
        refine J_sub [0, 1, 2, 3] rfl ?_
        obtain ⟨i_652_0, h⟩ := h
        obtain ⟨i_652_1, h⟩ := h
        refine JD_callVi C Bd hN ml_La_102 (S_HT_parts _ _ _ hN h) (by rw [hR.1, hR.2]; decide) rfl c_652 rfl (Nat.le_of_ble_eq_true rfl) D_La_law_652 (fun x ex r652 M652 hN hq h => ?_)
        have C := ex.ok C
        have hR := ex.fr hR
        have Bd := ex.bd Bd
        have Rt := ex.rl Rt
        have Sx := ex.sx Sx
        have K18 := fun x2 s2 => K18 x2 (ex.tr s2)
        obtain ⟨j_652_0, h⟩ := h
        rw [hq a1 6 (by decide) i_652_0 j_652_0]
        obtain ⟨j_652_1, h⟩ := h
        rw [hq a2 7 (by decide) i_652_1 j_652_1]
        refine J_aload_n C 2 D_La_law_655 rfl rfl ?_
        obtain ⟨c_656, h⟩ := h
        refine JS_callVi C Bd hN ml_La_105 (S_Mo_parts _ _ _ h) ⟨rfl, rfl⟩ (by rw [hR.1, hR.2]; decide) rfl c_656 rfl (Nat.le_of_ble_eq_true rfl) D_La_law_656 (fun r656 M656 hN h => ?_)
        refine J_icmp_eq (tgt := 723) C D_La_law_659 (by decide) (fun c_659 => ?_) (fun c_659 => ?_)
        · have h := h.1 c_659
          exact J_sub [0, 1, 2, 3] rfl (Z_La_law_723 C hR Bd Sx Rt K18 _ _ _ _ hN h)
        · have h := h.2 c_659
          refine J_iconst (v := 0) C D_La_law_662 rfl ?_
          exact J_lretD C Rt Bd hN D_La_law_663 h
      · have h := (h.2.2.2.2.2.2.2.2.2.2.2.2.2.2.2.2.2.2.2.2.2.2.1) r_32
        refine J_tableIn (tgt := 664) C D_La_law_32 (by rw [r_32]; decide) (by rw [r_32]; decide) (by rw [r_32]; rfl) (by decide) ?_
        refine J_aload_n C 1 D_La_law_664 rfl rfl ?_
        refine J_aload_n C 0 D_La_law_665 rfl rfl ?_
        refine J_iload_n C 3 D_La_law_666 rfl rfl ?_
        refine J_iconst (v := 1) C D_La_law_667 rfl ?_
        refine J_iadd C D_La_law_668 ?_
        obtain ⟨c_669, h⟩ := h
        refine J_sld C Sx D_La_law_669 c_669 ?_
        obtain ⟨c_670, h⟩ := h
        refine JS_callVi C Bd hN ml_La_106 (S_HT_claim _ _ _ _ h) ⟨rfl, rfl⟩ (by rw [hR.1, hR.2]; decide) rfl c_670 rfl (Nat.le_of_ble_eq_true rfl) D_La_law_670 (fun r670 M670 hN h => ?_)
        refine J_aload_n C 2 D_La_law_673 rfl rfl ?_
        refine J_aload_n C 0 D_La_law_674 rfl rfl ?_
        refine J_iload_n C 3 D_La_law_675 rfl rfl ?_
        refine J_iconst (v := 1) C D_La_law_676 rfl ?_
        refine J_iadd C D_La_law_677 ?_
        obtain ⟨c_678, h⟩ := h
        refine J_sld C Sx D_La_law_678 c_678 ?_
        obtain ⟨c_679, h⟩ := h
        refine JS_callVi C Bd hN ml_La_109 (S_Mo_claim _ _ _ _ h) ⟨rfl, rfl⟩ (by rw [hR.1, hR.2]; decide) rfl c_679 rfl (Nat.le_of_ble_eq_true rfl) D_La_law_679 (fun r679 M679 hN h => ?_)
        refine J_icmp_eq (tgt := 723) C D_La_law_682 (by decide) (fun c_682 => ?_) (fun c_682 => ?_)
        · have h := h.1 c_682
          exact J_sub [0, 1, 2, 3] rfl (Z_La_law_723 C hR Bd Sx Rt K18 _ _ _ _ hN h)
        · have h := h.2 c_682
          refine J_iconst (v := 0) C D_La_law_685 rfl ?_
          exact J_lretD C Rt Bd hN D_La_law_686 h
      · have h := (h.2.2.2.2.2.2.2.2.2.2.2.2.2.2.2.2.2.2.2.2.2.2.2.1) r_32
        refine J_tableIn (tgt := 687) C D_La_law_32 (by rw [r_32]; decide) (by rw [r_32]; decide) (by rw [r_32]; rfl) (by decide) ?_
        refine J_aload_n C 1 D_La_law_687 rfl rfl ?_
        obtain ⟨c_688, h⟩ := h
        refine JS_callVi C Bd hN ml_La_110 (S_HT_sum _ _ _ h) ⟨rfl, rfl⟩ (by rw [hR.1, hR.2]; decide) rfl c_688 rfl (Nat.le_of_ble_eq_true rfl) D_La_law_688 (fun r688 M688 hN h => ?_)
        refine J_aload_n C 2 D_La_law_691 rfl rfl ?_
        obtain ⟨c_692, h⟩ := h
        refine JS_callVi C Bd hN ml_La_113 (S_Mo_sum _ _ _ h) ⟨rfl, rfl⟩ (by rw [hR.1, hR.2]; decide) rfl c_692 rfl (Nat.le_of_ble_eq_true rfl) D_La_law_692 (fun r692 M692 hN h => ?_)
        refine J_icmp_eq (tgt := 723) C D_La_law_695 (by decide) (fun c_695 => ?_) (fun c_695 => ?_)
        · have h := h.1 c_695
          exact J_sub [0, 1, 2, 3] rfl (Z_La_law_723 C hR Bd Sx Rt K18 _ _ _ _ hN h)
        · have h := h.2 c_695
          refine J_iconst (v := 0) C D_La_law_698 rfl ?_
          exact J_lretD C Rt Bd hN D_La_law_699 h
      · have h := (h.2.2.2.2.2.2.2.2.2.2.2.2.2.2.2.2.2.2.2.2.2.2.2.2) r_32
        refine J_tableIn (tgt := 700) C D_La_law_32 (by rw [r_32]; decide) (by rw [r_32]; decide) (by rw [r_32]; rfl) (by decide) ?_
        refine J_aload_n C 1 D_La_law_700 rfl rfl ?_
        refine J_aload_n C 0 D_La_law_701 rfl rfl ?_
        refine J_iload_n C 3 D_La_law_702 rfl rfl ?_
        refine J_iconst (v := 1) C D_La_law_703 rfl ?_
        refine J_iadd C D_La_law_704 ?_
        obtain ⟨c_705, h⟩ := h
        refine J_sld C Sx D_La_law_705 c_705 ?_
        obtain ⟨c_706, h⟩ := h
        refine JS_callVi C Bd hN ml_La_114 (S_HT_told _ _ _ _ h) ⟨rfl, rfl⟩ (by rw [hR.1, hR.2]; decide) rfl c_706 rfl (Nat.le_of_ble_eq_true rfl) D_La_law_706 (fun r706 M706 hN h => ?_)
        refine J_aload_n C 2 D_La_law_709 rfl rfl ?_
        refine J_aload_n C 0 D_La_law_710 rfl rfl ?_
        refine J_iload_n C 3 D_La_law_711 rfl rfl ?_
        refine J_iconst (v := 1) C D_La_law_712 rfl ?_
        refine J_iadd C D_La_law_713 ?_
        obtain ⟨c_714, h⟩ := h
        refine J_sld C Sx D_La_law_714 c_714 ?_
        obtain ⟨c_715, h⟩ := h
        refine JS_callVi C Bd hN ml_La_117 (S_Mo_told _ _ _ _ h) ⟨rfl, rfl⟩ (by rw [hR.1, hR.2]; decide) rfl c_715 rfl (Nat.le_of_ble_eq_true rfl) D_La_law_715 (fun r715 M715 hN h => ?_)
        refine J_icmp_eq (tgt := 723) C D_La_law_718 (by decide) (fun c_718 => ?_) (fun c_718 => ?_)
        · have h := h.1 c_718
          exact J_sub [0, 1, 2, 3] rfl (Z_La_law_723 C hR Bd Sx Rt K18 _ _ _ _ hN h)
        · have h := h.2 c_718
          refine J_iconst (v := 0) C D_La_law_721 rfl ?_
          exact J_lretD C Rt Bd hN D_La_law_722 h
def L_La_law_18 (L : Nat) (sc : Nat → Int32) (post : Int32 → Mem → Prop) : Nat → Nat → Nat → Int32 → Mem → Prop
  | 0, _, _, _, _ => False
  | n + 1, a1, a2, x3, M => B_La_law_18 L sc (L_La_law_18 L sc post n) post a1 a2 x3 M
theorem Y_La_law_18 {x : Ctx} {post : Int32 → Mem → Prop} {b L : Nat} {sc : Nat → Int32} (C : Ok x b_La_law 4 "HeapTowerLaw") (hR : (xR x).frames = 10 ∧ (xR x).locals = 404) (Bd : Bdg x 110000) (Sx : Scr x b L sc) (Rt : RetL x b post) : ∀ (n : Nat) (x' : Ctx), Sm x x' → ∀ (a1 : Nat) (a2 : Nat) (x3 : Int32) (M : Mem), nC M + xg x' ≤ 2800 → L_La_law_18 L sc post n a1 a2 x3 M → J x' 4 18 [(0, .ref b), (1, .ref (xd x' a1)), (2, .ref (xd x' a2)), (3, .int x3)] [] (iC x' M) (iS 110000 x' M) M := by
  intro n
  induction n with
  | zero => intro x' ex a1 a2 x3 M hN h; exact h.elim
  | succ n ih => intro x' ex a1 a2 x3 M hN h; exact Z_La_law_18 (ex.ok C) (ex.fr hR) (ex.bd Bd) (ex.sx Sx) (ex.rl Rt) (fun x2 s2 => ih x2 (ex.tr s2)) _ _ _ _ hN h
def T_La_law (L : Nat) (sc : Nat → Int32) (M : Mem) (post : Int32 → Mem → Prop) : Prop := (T_HT_new (nC M) (mk M 6 0) (fun M4 => T_Mo_new (nC M4) (mk M4 7 0) (fun M12 => Lz0 M12 ∧ ∃ n, L_La_law_18 L sc post n (nC M) (nC M4) 0 (lzf M12))))
set_option maxRecDepth 20000 in
theorem S_La_law {x : Ctx} {post : Int32 → Mem → Prop} {b L : Nat} {sc : Nat → Int32} (C : Ok x b_La_law 4 "HeapTowerLaw") (hR : xR x = room_1) (Cx : Cnx x) (Sx : Scr x b L sc) (Rt : RetL x b post) (M : Mem) (h : T_La_law L sc M post) : J x 4 0 [(0, .ref b)] [] 0 0 M := by
  unfold T_La_law at h
  refine J_new C Cx nw_La_7 D_La_law_0 (by rw [hR]; decide) ?_
  refine J_dup C D_La_law_3 rfl ?_
  refine J_callIv C ml_La_9 (S_HT_new Cx.1 Cx.2 _ _ _ h) (by rw [hR]; decide) rfl rfl (Nat.le_of_ble_eq_true rfl) D_La_law_4 (fun M4 h => ?_)
  refine J_astore_n (lv' := [(1, .ref (xd x (nC M))), (0, .ref b)]) C 1 D_La_law_7 rfl (by decide) rfl ?_
  refine J_new C Cx nw_La_10 D_La_law_8 (by rw [hR]; decide) ?_
  refine J_dup C D_La_law_11 rfl ?_
  refine J_callIv C ml_La_12 (S_Mo_new Cx.1 Cx.2 _ _ _ h) (by rw [hR]; decide) rfl rfl (Nat.le_of_ble_eq_true rfl) D_La_law_12 (fun M12 h => ?_)
  refine J_astore_n (lv' := [(2, .ref (xd x (nC M4))), (1, .ref (xd x (nC M))), (0, .ref b)]) C 2 D_La_law_15 rfl (by decide) rfl ?_
  refine J_iconst (v := 0) C D_La_law_16 rfl ?_
  refine J_istore_n (lv' := [(3, .int 0), (2, .ref (xd x (nC M4))), (1, .ref (xd x (nC M))), (0, .ref b)]) C 3 D_La_law_17 rfl (by decide) rfl ?_
  obtain ⟨z0, n, h⟩ := h
  refine J_lz Cx z0 Rt (by decide) (by decide) (fun hN => ?_)
  exact J_sub [3, 2, 1, 0] rfl (Y_La_law_18 C (fr_L hR) (bdg_L hR Rt) Sx Rt  n x (Sm.rf x) _ _ _ _ hN h)
