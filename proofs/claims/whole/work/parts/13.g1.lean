theorem fl_HT_28 : Fld "HeapTower" 28 6 2 false true := ⟨R_HT, F_HT, 12, t_HT, iw_HT, rfl, by decide, rfl, rfl, by decide, rfl, (gw_in (List.mem_of_getElem? (i := 268) (by decide +kernel)) (by decide +kernel)), t_HT_ok, n_HT, rfl, (fun h => by cases h), fun _ => Or.inl ⟨_, rfl⟩⟩
theorem fl_HT_38 : Fld "HeapTower" 38 6 4 false true := ⟨R_HT, F_HT, 12, t_HT, iw_HT, rfl, by decide, rfl, rfl, by decide, rfl, (gw_in (List.mem_of_getElem? (i := 270) (by decide +kernel)) (by decide +kernel)), t_HT_ok, n_HT, rfl, (fun h => by cases h), fun _ => Or.inr ⟨_, rfl⟩⟩
theorem ml_HT_178 : MLV "HeapTower" 178 y_He_baseUpTo b_He_baseUpTo 3 (some (.object "HeapTower$Base")) 1 1 := ⟨List.forall_mem_cons.mpr ⟨(gw_in (List.mem_of_getElem? (i := 520) (by decide +kernel)) (by decide +kernel)), List.forall_mem_cons.mpr ⟨(gw_in (List.mem_of_getElem? (i := 521) (by decide +kernel)) (by decide +kernel)), List.forall_mem_cons.mpr ⟨(gw_in (List.mem_of_getElem? (i := 522) (by decide +kernel)) (by decide +kernel)), List.forall_mem_cons.mpr ⟨(gw_in (List.mem_of_getElem? (i := 73) (by decide +kernel)) (by decide +kernel)), List.forall_mem_cons.mpr ⟨(gw_in (List.mem_of_getElem? (i := 523) (by decide +kernel)) (by decide +kernel)), fun _ h => absurd h List.not_mem_nil⟩⟩⟩⟩⟩, by decide, F_He, 5, rfl, by decide⟩
theorem ml_HT_182 : MLV "HeapTower" 182 y_HT_loadRestOfDraft b_HT_loadRestOfDraft 3 (some .boolean) 2 6 := ⟨List.forall_mem_cons.mpr ⟨(gw_in (List.mem_of_getElem? (i := 629) (by decide +kernel)) (by decide +kernel)), List.forall_mem_cons.mpr ⟨(gw_in (List.mem_of_getElem? (i := 631) (by decide +kernel)) (by decide +kernel)), List.forall_mem_cons.mpr ⟨(gw_in (List.mem_of_getElem? (i := 19) (by decide +kernel)) (by decide +kernel)), List.forall_mem_cons.mpr ⟨(gw_in (List.mem_of_getElem? (i := 67) (by decide +kernel)) (by decide +kernel)), List.forall_mem_cons.mpr ⟨(gw_in (List.mem_of_getElem? (i := 632) (by decide +kernel)) (by decide +kernel)), fun _ h => absurd h List.not_mem_nil⟩⟩⟩⟩⟩, by decide, F_HT, 12, rfl, by decide⟩
theorem ml_HT_186 : MLV "HeapTower" 186 y_Pr_isZero b_Pr_isZero 4 (some .boolean) 2 4 := ⟨List.forall_mem_cons.mpr ⟨(gw_in (List.mem_of_getElem? (i := 634) (by decide +kernel)) (by decide +kernel)), List.forall_mem_cons.mpr ⟨(gw_in (List.mem_of_getElem? (i := 635) (by decide +kernel)) (by decide +kernel)), List.forall_mem_cons.mpr ⟨(gw_in (List.mem_of_getElem? (i := 636) (by decide +kernel)) (by decide +kernel)), List.forall_mem_cons.mpr ⟨(gw_in (List.mem_of_getElem? (i := 68) (by decide +kernel)) (by decide +kernel)), List.forall_mem_cons.mpr ⟨(gw_in (List.mem_of_getElem? (i := 637) (by decide +kernel)) (by decide +kernel)), fun _ h => absurd h List.not_mem_nil⟩⟩⟩⟩⟩, by decide, F_Pr, 6, rfl, by decide⟩
theorem ml_HT_190 : MLV "HeapTower" 190 y_Ba_sizeUpTo b_Ba_sizeUpTo 2 (some .int) 1 0 := ⟨List.forall_mem_cons.mpr ⟨(gw_in (List.mem_of_getElem? (i := 648) (by decide +kernel)) (by decide +kernel)), List.forall_mem_cons.mpr ⟨(gw_in (List.mem_of_getElem? (i := 649) (by decide +kernel)) (by decide +kernel)), List.forall_mem_cons.mpr ⟨(gw_in (List.mem_of_getElem? (i := 650) (by decide +kernel)) (by decide +kernel)), List.forall_mem_cons.mpr ⟨(gw_in (List.mem_of_getElem? (i := 72) (by decide +kernel)) (by decide +kernel)), List.forall_mem_cons.mpr ⟨(gw_in (List.mem_of_getElem? (i := 651) (by decide +kernel)) (by decide +kernel)), fun _ h => absurd h List.not_mem_nil⟩⟩⟩⟩⟩, by decide, F_Ba, 13, rfl, by decide⟩
theorem ml_HT_193 : MLV "HeapTower" 193 y_Ba_loadElement b_Ba_loadElement 4 none 2 0 := ⟨List.forall_mem_cons.mpr ⟨(gw_in (List.mem_of_getElem? (i := 656) (by decide +kernel)) (by decide +kernel)), List.forall_mem_cons.mpr ⟨(gw_in (List.mem_of_getElem? (i := 657) (by decide +kernel)) (by decide +kernel)), List.forall_mem_cons.mpr ⟨(gw_in (List.mem_of_getElem? (i := 658) (by decide +kernel)) (by decide +kernel)), List.forall_mem_cons.mpr ⟨(gw_in (List.mem_of_getElem? (i := 72) (by decide +kernel)) (by decide +kernel)), List.forall_mem_cons.mpr ⟨(gw_in (List.mem_of_getElem? (i := 659) (by decide +kernel)) (by decide +kernel)), fun _ h => absurd h List.not_mem_nil⟩⟩⟩⟩⟩, by decide, F_Ba, 13, rfl, by decide⟩
theorem ml_HT_196 : MLV "HeapTower" 196 y_Ba_degreeOf b_Ba_degreeOf 2 (some .int) 1 0 := ⟨List.forall_mem_cons.mpr ⟨(gw_in (List.mem_of_getElem? (i := 660) (by decide +kernel)) (by decide +kernel)), List.forall_mem_cons.mpr ⟨(gw_in (List.mem_of_getElem? (i := 661) (by decide +kernel)) (by decide +kernel)), List.forall_mem_cons.mpr ⟨(gw_in (List.mem_of_getElem? (i := 662) (by decide +kernel)) (by decide +kernel)), List.forall_mem_cons.mpr ⟨(gw_in (List.mem_of_getElem? (i := 72) (by decide +kernel)) (by decide +kernel)), List.forall_mem_cons.mpr ⟨(gw_in (List.mem_of_getElem? (i := 663) (by decide +kernel)) (by decide +kernel)), fun _ h => absurd h List.not_mem_nil⟩⟩⟩⟩⟩, by decide, F_Ba, 13, rfl, by decide⟩
theorem ml_HT_197 : MLV "HeapTower" 197 y_Ba_standardCount b_Ba_standardCount 2 (some .int) 1 0 := ⟨List.forall_mem_cons.mpr ⟨(gw_in (List.mem_of_getElem? (i := 668) (by decide +kernel)) (by decide +kernel)), List.forall_mem_cons.mpr ⟨(gw_in (List.mem_of_getElem? (i := 669) (by decide +kernel)) (by decide +kernel)), List.forall_mem_cons.mpr ⟨(gw_in (List.mem_of_getElem? (i := 670) (by decide +kernel)) (by decide +kernel)), List.forall_mem_cons.mpr ⟨(gw_in (List.mem_of_getElem? (i := 72) (by decide +kernel)) (by decide +kernel)), List.forall_mem_cons.mpr ⟨(gw_in (List.mem_of_getElem? (i := 671) (by decide +kernel)) (by decide +kernel)), fun _ h => absurd h List.not_mem_nil⟩⟩⟩⟩⟩, by decide, F_Ba, 13, rfl, by decide⟩
theorem ml_HT_200 : MLV "HeapTower" 200 y_HT_freeAtGround b_HT_freeAtGround 2 (some .int) 1 6 := ⟨List.forall_mem_cons.mpr ⟨(gw_in (List.mem_of_getElem? (i := 676) (by decide +kernel)) (by decide +kernel)), List.forall_mem_cons.mpr ⟨(gw_in (List.mem_of_getElem? (i := 678) (by decide +kernel)) (by decide +kernel)), List.forall_mem_cons.mpr ⟨(gw_in (List.mem_of_getElem? (i := 20) (by decide +kernel)) (by decide +kernel)), List.forall_mem_cons.mpr ⟨(gw_in (List.mem_of_getElem? (i := 67) (by decide +kernel)) (by decide +kernel)), List.forall_mem_cons.mpr ⟨(gw_in (List.mem_of_getElem? (i := 679) (by decide +kernel)) (by decide +kernel)), fun _ h => absurd h List.not_mem_nil⟩⟩⟩⟩⟩, by decide, F_HT, 12, rfl, by decide⟩
theorem ml_HT_203 : MLV "HeapTower" 203 y_Ba_neededRows b_Ba_neededRows 2 (some .int) 1 0 := ⟨List.forall_mem_cons.mpr ⟨(gw_in (List.mem_of_getElem? (i := 680) (by decide +kernel)) (by decide +kernel)), List.forall_mem_cons.mpr ⟨(gw_in (List.mem_of_getElem? (i := 681) (by decide +kernel)) (by decide +kernel)), List.forall_mem_cons.mpr ⟨(gw_in (List.mem_of_getElem? (i := 682) (by decide +kernel)) (by decide +kernel)), List.forall_mem_cons.mpr ⟨(gw_in (List.mem_of_getElem? (i := 72) (by decide +kernel)) (by decide +kernel)), List.forall_mem_cons.mpr ⟨(gw_in (List.mem_of_getElem? (i := 683) (by decide +kernel)) (by decide +kernel)), fun _ h => absurd h List.not_mem_nil⟩⟩⟩⟩⟩, by decide, F_Ba, 13, rfl, by decide⟩
theorem ml_HT_206 : MLV "HeapTower" 206 y_HT_freeAtSecond b_HT_freeAtSecond 5 (some .int) 2 6 := ⟨List.forall_mem_cons.mpr ⟨(gw_in (List.mem_of_getElem? (i := 684) (by decide +kernel)) (by decide +kernel)), List.forall_mem_cons.mpr ⟨(gw_in (List.mem_of_getElem? (i := 686) (by decide +kernel)) (by decide +kernel)), List.forall_mem_cons.mpr ⟨(gw_in (List.mem_of_getElem? (i := 21) (by decide +kernel)) (by decide +kernel)), List.forall_mem_cons.mpr ⟨(gw_in (List.mem_of_getElem? (i := 67) (by decide +kernel)) (by decide +kernel)), List.forall_mem_cons.mpr ⟨(gw_in (List.mem_of_getElem? (i := 687) (by decide +kernel)) (by decide +kernel)), fun _ h => absurd h List.not_mem_nil⟩⟩⟩⟩⟩, by decide, F_HT, 12, rfl, by decide⟩
theorem ml_HT_210 : MLV "HeapTower" 210 y_HT_freeAtThird b_HT_freeAtThird 7 (some .int) 2 6 := ⟨List.forall_mem_cons.mpr ⟨(gw_in (List.mem_of_getElem? (i := 688) (by decide +kernel)) (by decide +kernel)), List.forall_mem_cons.mpr ⟨(gw_in (List.mem_of_getElem? (i := 690) (by decide +kernel)) (by decide +kernel)), List.forall_mem_cons.mpr ⟨(gw_in (List.mem_of_getElem? (i := 22) (by decide +kernel)) (by decide +kernel)), List.forall_mem_cons.mpr ⟨(gw_in (List.mem_of_getElem? (i := 67) (by decide +kernel)) (by decide +kernel)), List.forall_mem_cons.mpr ⟨(gw_in (List.mem_of_getElem? (i := 691) (by decide +kernel)) (by decide +kernel)), fun _ h => absurd h List.not_mem_nil⟩⟩⟩⟩⟩, by decide, F_HT, 12, rfl, by decide⟩
theorem ml_HT_213 : MLV "HeapTower" 213 y_Pr_amount b_Pr_amount 2 (some .int) 1 4 := ⟨List.forall_mem_cons.mpr ⟨(gw_in (List.mem_of_getElem? (i := 701) (by decide +kernel)) (by decide +kernel)), List.forall_mem_cons.mpr ⟨(gw_in (List.mem_of_getElem? (i := 425) (by decide +kernel)) (by decide +kernel)), List.forall_mem_cons.mpr ⟨(gw_in (List.mem_of_getElem? (i := 426) (by decide +kernel)) (by decide +kernel)), List.forall_mem_cons.mpr ⟨(gw_in (List.mem_of_getElem? (i := 68) (by decide +kernel)) (by decide +kernel)), List.forall_mem_cons.mpr ⟨(gw_in (List.mem_of_getElem? (i := 427) (by decide +kernel)) (by decide +kernel)), fun _ h => absurd h List.not_mem_nil⟩⟩⟩⟩⟩, by decide, F_Pr, 6, rfl, by decide⟩
theorem ml_HT_216 : MLV "HeapTower" 216 y_HT_quotientBaseUpTo b_HT_quotientBaseUpTo 4 (some (.object "HeapTower$Base")) 2 6 := ⟨List.forall_mem_cons.mpr ⟨(gw_in (List.mem_of_getElem? (i := 718) (by decide +kernel)) (by decide +kernel)), List.forall_mem_cons.mpr ⟨(gw_in (List.mem_of_getElem? (i := 720) (by decide +kernel)) (by decide +kernel)), List.forall_mem_cons.mpr ⟨(gw_in (List.mem_of_getElem? (i := 25) (by decide +kernel)) (by decide +kernel)), List.forall_mem_cons.mpr ⟨(gw_in (List.mem_of_getElem? (i := 67) (by decide +kernel)) (by decide +kernel)), List.forall_mem_cons.mpr ⟨(gw_in (List.mem_of_getElem? (i := 721) (by decide +kernel)) (by decide +kernel)), fun _ h => absurd h List.not_mem_nil⟩⟩⟩⟩⟩, by decide, F_HT, 12, rfl, by decide⟩
theorem ml_HT_220 : MLV "HeapTower" 220 y_He_become b_He_become 3 none 1 1 := ⟨List.forall_mem_cons.mpr ⟨(gw_in (List.mem_of_getElem? (i := 735) (by decide +kernel)) (by decide +kernel)), List.forall_mem_cons.mpr ⟨(gw_in (List.mem_of_getElem? (i := 736) (by decide +kernel)) (by decide +kernel)), List.forall_mem_cons.mpr ⟨(gw_in (List.mem_of_getElem? (i := 737) (by decide +kernel)) (by decide +kernel)), List.forall_mem_cons.mpr ⟨(gw_in (List.mem_of_getElem? (i := 73) (by decide +kernel)) (by decide +kernel)), List.forall_mem_cons.mpr ⟨(gw_in (List.mem_of_getElem? (i := 738) (by decide +kernel)) (by decide +kernel)), fun _ h => absurd h List.not_mem_nil⟩⟩⟩⟩⟩, by decide, F_He, 5, rfl, by decide⟩
theorem ml_HT_264 : MLV "HeapTower" 264 y_Po_loadPart b_Po_loadPart 4 none 2 3 := ⟨List.forall_mem_cons.mpr ⟨(gw_in (List.mem_of_getElem? (i := 633) (by decide +kernel)) (by decide +kernel)), List.forall_mem_cons.mpr ⟨(gw_in (List.mem_of_getElem? (i := 477) (by decide +kernel)) (by decide +kernel)), List.forall_mem_cons.mpr ⟨(gw_in (List.mem_of_getElem? (i := 478) (by decide +kernel)) (by decide +kernel)), List.forall_mem_cons.mpr ⟨(gw_in (List.mem_of_getElem? (i := 71) (by decide +kernel)) (by decide +kernel)), List.forall_mem_cons.mpr ⟨(gw_in (List.mem_of_getElem? (i := 479) (by decide +kernel)) (by decide +kernel)), fun _ h => absurd h List.not_mem_nil⟩⟩⟩⟩⟩, by decide, F_Po, 2, rfl, by decide⟩
theorem ml_HT_267 : MLV "HeapTower" 267 y_Ba_reduce b_Ba_reduce 6 none 2 0 := ⟨List.forall_mem_cons.mpr ⟨(gw_in (List.mem_of_getElem? (i := 639) (by decide +kernel)) (by decide +kernel)), List.forall_mem_cons.mpr ⟨(gw_in (List.mem_of_getElem? (i := 584) (by decide +kernel)) (by decide +kernel)), List.forall_mem_cons.mpr ⟨(gw_in (List.mem_of_getElem? (i := 585) (by decide +kernel)) (by decide +kernel)), List.forall_mem_cons.mpr ⟨(gw_in (List.mem_of_getElem? (i := 72) (by decide +kernel)) (by decide +kernel)), List.forall_mem_cons.mpr ⟨(gw_in (List.mem_of_getElem? (i := 586) (by decide +kernel)) (by decide +kernel)), fun _ h => absurd h List.not_mem_nil⟩⟩⟩⟩⟩, by decide, F_Ba, 13, rfl, by decide⟩
theorem ml_HT_270 : MLV "HeapTower" 270 y_Pr_at b_Pr_at 3 (some .int) 2 4 := ⟨List.forall_mem_cons.mpr ⟨(gw_in (List.mem_of_getElem? (i := 702) (by decide +kernel)) (by decide +kernel)), List.forall_mem_cons.mpr ⟨(gw_in (List.mem_of_getElem? (i := 429) (by decide +kernel)) (by decide +kernel)), List.forall_mem_cons.mpr ⟨(gw_in (List.mem_of_getElem? (i := 430) (by decide +kernel)) (by decide +kernel)), List.forall_mem_cons.mpr ⟨(gw_in (List.mem_of_getElem? (i := 68) (by decide +kernel)) (by decide +kernel)), List.forall_mem_cons.mpr ⟨(gw_in (List.mem_of_getElem? (i := 431) (by decide +kernel)) (by decide +kernel)), fun _ h => absurd h List.not_mem_nil⟩⟩⟩⟩⟩, by decide, F_Pr, 6, rfl, by decide⟩
theorem ml_HT_280 : MLV "HeapTower" 280 y_Ba_reached b_Ba_reached 1 (some .int) 0 0 := ⟨List.forall_mem_cons.mpr ⟨(gw_in (List.mem_of_getElem? (i := 722) (by decide +kernel)) (by decide +kernel)), List.forall_mem_cons.mpr ⟨(gw_in (List.mem_of_getElem? (i := 525) (by decide +kernel)) (by decide +kernel)), List.forall_mem_cons.mpr ⟨(gw_in (List.mem_of_getElem? (i := 526) (by decide +kernel)) (by decide +kernel)), List.forall_mem_cons.mpr ⟨(gw_in (List.mem_of_getElem? (i := 72) (by decide +kernel)) (by decide +kernel)), List.forall_mem_cons.mpr ⟨(gw_in (List.mem_of_getElem? (i := 527) (by decide +kernel)) (by decide +kernel)), fun _ h => absurd h List.not_mem_nil⟩⟩⟩⟩⟩, by decide, F_Ba, 13, rfl, by decide⟩
theorem ml_HT_283 : MLV "HeapTower" 283 y_Ba_open b_Ba_open 2 none 1 0 := ⟨List.forall_mem_cons.mpr ⟨(gw_in (List.mem_of_getElem? (i := 723) (by decide +kernel)) (by decide +kernel)), List.forall_mem_cons.mpr ⟨(gw_in (List.mem_of_getElem? (i := 529) (by decide +kernel)) (by decide +kernel)), List.forall_mem_cons.mpr ⟨(gw_in (List.mem_of_getElem? (i := 530) (by decide +kernel)) (by decide +kernel)), List.forall_mem_cons.mpr ⟨(gw_in (List.mem_of_getElem? (i := 72) (by decide +kernel)) (by decide +kernel)), List.forall_mem_cons.mpr ⟨(gw_in (List.mem_of_getElem? (i := 531) (by decide +kernel)) (by decide +kernel)), fun _ h => absurd h List.not_mem_nil⟩⟩⟩⟩⟩, by decide, F_Ba, 13, rfl, by decide⟩
theorem ml_HT_286 : MLV "HeapTower" 286 y_He_offerRows b_He_offerRows 4 none 2 1 := ⟨List.forall_mem_cons.mpr ⟨(gw_in (List.mem_of_getElem? (i := 724) (by decide +kernel)) (by decide +kernel)), List.forall_mem_cons.mpr ⟨(gw_in (List.mem_of_getElem? (i := 601) (by decide +kernel)) (by decide +kernel)), List.forall_mem_cons.mpr ⟨(gw_in (List.mem_of_getElem? (i := 602) (by decide +kernel)) (by decide +kernel)), List.forall_mem_cons.mpr ⟨(gw_in (List.mem_of_getElem? (i := 73) (by decide +kernel)) (by decide +kernel)), List.forall_mem_cons.mpr ⟨(gw_in (List.mem_of_getElem? (i := 603) (by decide +kernel)) (by decide +kernel)), fun _ h => absurd h List.not_mem_nil⟩⟩⟩⟩⟩, by decide, F_He, 5, rfl, by decide⟩
theorem ml_HT_290 : MLV "HeapTower" 290 y_Ba_close b_Ba_close 4 none 1 0 := ⟨List.forall_mem_cons.mpr ⟨(gw_in (List.mem_of_getElem? (i := 726) (by decide +kernel)) (by decide +kernel)), List.forall_mem_cons.mpr ⟨(gw_in (List.mem_of_getElem? (i := 610) (by decide +kernel)) (by decide +kernel)), List.forall_mem_cons.mpr ⟨(gw_in (List.mem_of_getElem? (i := 611) (by decide +kernel)) (by decide +kernel)), List.forall_mem_cons.mpr ⟨(gw_in (List.mem_of_getElem? (i := 72) (by decide +kernel)) (by decide +kernel)), List.forall_mem_cons.mpr ⟨(gw_in (List.mem_of_getElem? (i := 612) (by decide +kernel)) (by decide +kernel)), fun _ h => absurd h List.not_mem_nil⟩⟩⟩⟩⟩, by decide, F_Ba, 13, rfl, by decide⟩
theorem ml_HT_299 : MLV "HeapTower" 299 y_Ba_offer b_Ba_offer 3 none 2 0 := ⟨List.forall_mem_cons.mpr ⟨(gw_in (List.mem_of_getElem? (i := 725) (by decide +kernel)) (by decide +kernel)), List.forall_mem_cons.mpr ⟨(gw_in (List.mem_of_getElem? (i := 606) (by decide +kernel)) (by decide +kernel)), List.forall_mem_cons.mpr ⟨(gw_in (List.mem_of_getElem? (i := 607) (by decide +kernel)) (by decide +kernel)), List.forall_mem_cons.mpr ⟨(gw_in (List.mem_of_getElem? (i := 72) (by decide +kernel)) (by decide +kernel)), List.forall_mem_cons.mpr ⟨(gw_in (List.mem_of_getElem? (i := 608) (by decide +kernel)) (by decide +kernel)), fun _ h => absurd h List.not_mem_nil⟩⟩⟩⟩⟩, by decide, F_Ba, 13, rfl, by decide⟩
theorem ml_HT_306 : MLS "HeapTower" 306 y_Ar_fill2 b_Ar_fill2 4 none 2 := ⟨List.forall_mem_cons.mpr ⟨(gw_in (List.mem_of_getElem? (i := 703) (by decide +kernel)) (by decide +kernel)), List.forall_mem_cons.mpr ⟨(gw_in (List.mem_of_getElem? (i := 341) (by decide +kernel)) (by decide +kernel)), List.forall_mem_cons.mpr ⟨(gw_in (List.mem_of_getElem? (i := 76) (by decide +kernel)) (by decide +kernel)), List.forall_mem_cons.mpr ⟨(gw_in (List.mem_of_getElem? (i := 342) (by decide +kernel)) (by decide +kernel)), fun _ h => absurd h List.not_mem_nil⟩⟩⟩⟩, by decide⟩
theorem ml_HT_312 : MLV "HeapTower" 312 y_HT_signedChains b_HT_signedChains 7 (some .int) 3 6 := ⟨List.forall_mem_cons.mpr ⟨(gw_in (List.mem_of_getElem? (i := 710) (by decide +kernel)) (by decide +kernel)), List.forall_mem_cons.mpr ⟨(gw_in (List.mem_of_getElem? (i := 712) (by decide +kernel)) (by decide +kernel)), List.forall_mem_cons.mpr ⟨(gw_in (List.mem_of_getElem? (i := 24) (by decide +kernel)) (by decide +kernel)), List.forall_mem_cons.mpr ⟨(gw_in (List.mem_of_getElem? (i := 67) (by decide +kernel)) (by decide +kernel)), List.forall_mem_cons.mpr ⟨(gw_in (List.mem_of_getElem? (i := 713) (by decide +kernel)) (by decide +kernel)), fun _ h => absurd h List.not_mem_nil⟩⟩⟩⟩⟩, by decide, F_HT, 12, rfl, by decide⟩
theorem ml_HT_316 : MLV "HeapTower" 316 y_Ro_begin b_Ro_begin 3 none 1 5 := ⟨List.forall_mem_cons.mpr ⟨(gw_in (List.mem_of_getElem? (i := 692) (by decide +kernel)) (by decide +kernel)), List.forall_mem_cons.mpr ⟨(gw_in (List.mem_of_getElem? (i := 537) (by decide +kernel)) (by decide +kernel)), List.forall_mem_cons.mpr ⟨(gw_in (List.mem_of_getElem? (i := 538) (by decide +kernel)) (by decide +kernel)), List.forall_mem_cons.mpr ⟨(gw_in (List.mem_of_getElem? (i := 70) (by decide +kernel)) (by decide +kernel)), List.forall_mem_cons.mpr ⟨(gw_in (List.mem_of_getElem? (i := 539) (by decide +kernel)) (by decide +kernel)), fun _ h => absurd h List.not_mem_nil⟩⟩⟩⟩⟩, by decide, F_Ro, 8, rfl, by decide⟩
theorem ml_HT_319 : MLV "HeapTower" 319 y_Ro_size b_Ro_size 1 (some .int) 0 5 := ⟨List.forall_mem_cons.mpr ⟨(gw_in (List.mem_of_getElem? (i := 693) (by decide +kernel)) (by decide +kernel)), List.forall_mem_cons.mpr ⟨(gw_in (List.mem_of_getElem? (i := 694) (by decide +kernel)) (by decide +kernel)), List.forall_mem_cons.mpr ⟨(gw_in (List.mem_of_getElem? (i := 695) (by decide +kernel)) (by decide +kernel)), List.forall_mem_cons.mpr ⟨(gw_in (List.mem_of_getElem? (i := 70) (by decide +kernel)) (by decide +kernel)), List.forall_mem_cons.mpr ⟨(gw_in (List.mem_of_getElem? (i := 696) (by decide +kernel)) (by decide +kernel)), fun _ h => absurd h List.not_mem_nil⟩⟩⟩⟩⟩, by decide, F_Ro, 8, rfl, by decide⟩
theorem ml_HT_320 : MLV "HeapTower" 320 y_HT_loadImages b_HT_loadImages 8 none 3 6 := ⟨List.forall_mem_cons.mpr ⟨(gw_in (List.mem_of_getElem? (i := 697) (by decide +kernel)) (by decide +kernel)), List.forall_mem_cons.mpr ⟨(gw_in (List.mem_of_getElem? (i := 699) (by decide +kernel)) (by decide +kernel)), List.forall_mem_cons.mpr ⟨(gw_in (List.mem_of_getElem? (i := 23) (by decide +kernel)) (by decide +kernel)), List.forall_mem_cons.mpr ⟨(gw_in (List.mem_of_getElem? (i := 67) (by decide +kernel)) (by decide +kernel)), List.forall_mem_cons.mpr ⟨(gw_in (List.mem_of_getElem? (i := 700) (by decide +kernel)) (by decide +kernel)), fun _ h => absurd h List.not_mem_nil⟩⟩⟩⟩⟩, by decide, F_HT, 12, rfl, by decide⟩
theorem ml_HT_324 : MLV "HeapTower" 324 y_Ro_add b_Ro_add 6 (some .boolean) 1 5 := ⟨List.forall_mem_cons.mpr ⟨(gw_in (List.mem_of_getElem? (i := 709) (by decide +kernel)) (by decide +kernel)), List.forall_mem_cons.mpr ⟨(gw_in (List.mem_of_getElem? (i := 589) (by decide +kernel)) (by decide +kernel)), List.forall_mem_cons.mpr ⟨(gw_in (List.mem_of_getElem? (i := 590) (by decide +kernel)) (by decide +kernel)), List.forall_mem_cons.mpr ⟨(gw_in (List.mem_of_getElem? (i := 70) (by decide +kernel)) (by decide +kernel)), List.forall_mem_cons.mpr ⟨(gw_in (List.mem_of_getElem? (i := 591) (by decide +kernel)) (by decide +kernel)), fun _ h => absurd h List.not_mem_nil⟩⟩⟩⟩⟩, by decide, F_Ro, 8, rfl, by decide⟩
theorem ml_HT_328 : MLV "HeapTower" 328 y_Ba_isStandard b_Ba_isStandard 3 (some .boolean) 2 0 := ⟨List.forall_mem_cons.mpr ⟨(gw_in (List.mem_of_getElem? (i := 704) (by decide +kernel)) (by decide +kernel)), List.forall_mem_cons.mpr ⟨(gw_in (List.mem_of_getElem? (i := 626) (by decide +kernel)) (by decide +kernel)), List.forall_mem_cons.mpr ⟨(gw_in (List.mem_of_getElem? (i := 627) (by decide +kernel)) (by decide +kernel)), List.forall_mem_cons.mpr ⟨(gw_in (List.mem_of_getElem? (i := 72) (by decide +kernel)) (by decide +kernel)), List.forall_mem_cons.mpr ⟨(gw_in (List.mem_of_getElem? (i := 628) (by decide +kernel)) (by decide +kernel)), fun _ h => absurd h List.not_mem_nil⟩⟩⟩⟩⟩, by decide, F_Ba, 13, rfl, by decide⟩
theorem ml_HT_332 : MLV "HeapTower" 332 y_Pr_raised b_Pr_raised 3 (some .int) 2 4 := ⟨List.forall_mem_cons.mpr ⟨(gw_in (List.mem_of_getElem? (i := 705) (by decide +kernel)) (by decide +kernel)), List.forall_mem_cons.mpr ⟨(gw_in (List.mem_of_getElem? (i := 706) (by decide +kernel)) (by decide +kernel)), List.forall_mem_cons.mpr ⟨(gw_in (List.mem_of_getElem? (i := 707) (by decide +kernel)) (by decide +kernel)), List.forall_mem_cons.mpr ⟨(gw_in (List.mem_of_getElem? (i := 68) (by decide +kernel)) (by decide +kernel)), List.forall_mem_cons.mpr ⟨(gw_in (List.mem_of_getElem? (i := 708) (by decide +kernel)) (by decide +kernel)), fun _ h => absurd h List.not_mem_nil⟩⟩⟩⟩⟩, by decide, F_Pr, 6, rfl, by decide⟩
theorem D_HT_loadRestOfDraft_0 : decode b_HT_loadRestOfDraft 0 = .ok (.aload_n 0, 1) := by decide +kernel
theorem D_HT_loadRestOfDraft_1 : decode b_HT_loadRestOfDraft 1 = .ok (.getfield 46, 3) := by decide +kernel
theorem D_HT_loadRestOfDraft_4 : decode b_HT_loadRestOfDraft 4 = .ok (.iload_n 2, 1) := by decide +kernel
theorem D_HT_loadRestOfDraft_5 : decode b_HT_loadRestOfDraft 5 = .ok (.aload_n 0, 1) := by decide +kernel
theorem D_HT_loadRestOfDraft_6 : decode b_HT_loadRestOfDraft 6 = .ok (.getfield 32, 3) := by decide +kernel
theorem D_HT_loadRestOfDraft_9 : decode b_HT_loadRestOfDraft 9 = .ok (.invokevirtual 264, 3) := by decide +kernel
theorem D_HT_loadRestOfDraft_12 : decode b_HT_loadRestOfDraft 12 = .ok (.aload_n 0, 1) := by decide +kernel
theorem D_HT_loadRestOfDraft_13 : decode b_HT_loadRestOfDraft 13 = .ok (.getfield 10, 3) := by decide +kernel
theorem D_HT_loadRestOfDraft_16 : decode b_HT_loadRestOfDraft 16 = .ok (.iload_n 2, 1) := by decide +kernel
theorem D_HT_loadRestOfDraft_17 : decode b_HT_loadRestOfDraft 17 = .ok (.aload_n 0, 1) := by decide +kernel
theorem D_HT_loadRestOfDraft_18 : decode b_HT_loadRestOfDraft 18 = .ok (.getfield 32, 3) := by decide +kernel
theorem D_HT_loadRestOfDraft_21 : decode b_HT_loadRestOfDraft 21 = .ok (.invokevirtual 186, 3) := by decide +kernel
theorem D_HT_loadRestOfDraft_24 : decode b_HT_loadRestOfDraft 24 = .ok (.ifCond .eq 5, 3) := by decide +kernel
theorem D_HT_loadRestOfDraft_27 : decode b_HT_loadRestOfDraft 27 = .ok (.iconst 0, 1) := by decide +kernel
theorem D_HT_loadRestOfDraft_28 : decode b_HT_loadRestOfDraft 28 = .ok (.ireturn, 1) := by decide +kernel
theorem D_HT_loadRestOfDraft_29 : decode b_HT_loadRestOfDraft 29 = .ok (.aload_n 1, 1) := by decide +kernel
theorem D_HT_loadRestOfDraft_30 : decode b_HT_loadRestOfDraft 30 = .ok (.iload_n 2, 1) := by decide +kernel
theorem D_HT_loadRestOfDraft_31 : decode b_HT_loadRestOfDraft 31 = .ok (.aload_n 0, 1) := by decide +kernel
theorem D_HT_loadRestOfDraft_32 : decode b_HT_loadRestOfDraft 32 = .ok (.getfield 32, 3) := by decide +kernel
theorem D_HT_loadRestOfDraft_35 : decode b_HT_loadRestOfDraft 35 = .ok (.invokevirtual 267, 3) := by decide +kernel
theorem D_HT_loadRestOfDraft_38 : decode b_HT_loadRestOfDraft 38 = .ok (.iconst 1, 1) := by decide +kernel
theorem D_HT_loadRestOfDraft_39 : decode b_HT_loadRestOfDraft 39 = .ok (.ireturn, 1) := by decide +kernel
abbrev rm_HT_loadRestOfDraft : Room := { frames := 2, cells := 0, slots := 0, locals := 63 }
def T_HT_loadRestOfDraft (a0 : Nat) (a1 : Nat) (x2 : Int32) (M : Mem) (post : Int32 → Mem → Prop) : Prop := (isK M a0 6 ∧ ∃ q1, gR M a0 5 = some q1 ∧ isK M a0 6 ∧ ∃ q6, gR M a0 3 = some q6 ∧ isK M q1 3 ∧ T_Po_loadPart q1 x2 q6 M (fun M9 => isK M9 a0 6 ∧ ∃ q13, gR M9 a0 0 = some q13 ∧ isK M9 a0 6 ∧ ∃ q18, gR M9 a0 3 = some q18 ∧ isK M9 q13 4 ∧ T_Pr_isZero q13 x2 q18 M9 (fun r21 M21 => (r21 = 0 → (isK M21 a0 6 ∧ ∃ q32, gR M21 a0 3 = some q32 ∧ isK M21 a1 0 ∧ T_Ba_reduce a1 x2 q32 M21 (fun M35 => narrow .boolean (.int 1) = .int 1 ∧ post 1 M35))) ∧ (¬ r21 = 0 → (narrow .boolean (.int 0) = .int 0 ∧ post 0 M21)))))
set_option maxRecDepth 20000 in
theorem S_HT_loadRestOfDraft {l : Launch} {D : va_G} {B t g : Nat} {d : Nat → Nat} {ac : Nat → ClassId}  (a0 : Nat) (a1 : Nat) (x2 : Int32) (M : Mem) (post : Int32 → Mem → Prop) (h : T_HT_loadRestOfDraft a0 a1 x2 M post) : Met l y_HT_loadRestOfDraft w_HT_loadRestOfDraft rm_HT_loadRestOfDraft (va_Pc [.ref (d a0), .ref (d a1), .int x2] (PRE D B d g t ac M)) (QI D B d g ac post) 0 0 (AB B) := by
  refine met_i (by decide +kernel) (Nat.le_of_ble_eq_true rfl) (fun x h1 hR h3 h4 h5 h6 h7 h8 C Rt => ?_)
  subst h3 h4 h5 h6 h7 h8
  unfold T_HT_loadRestOfDraft at h
  show J x 3 0 [(0, .ref (xd x a0)), (1, .ref (xd x a1)), (2, .int x2)] [] 0 0 M
  refine J_aload_n C 0 D_HT_loadRestOfDraft_0 rfl rfl ?_
  obtain ⟨c_1, q1, e_1, h⟩ := h
  refine J_getR C fl_HT_46 D_HT_loadRestOfDraft_1 c_1 e_1 ?_
  refine J_iload_n C 2 D_HT_loadRestOfDraft_4 rfl rfl ?_
  refine J_aload_n C 0 D_HT_loadRestOfDraft_5 rfl rfl ?_
  obtain ⟨c_6, q6, e_6, h⟩ := h
  refine J_getR C fl_HT_32 D_HT_loadRestOfDraft_6 c_6 e_6 ?_
  obtain ⟨c_9, h⟩ := h
  refine J_callVv C ml_HT_264 (S_Po_loadPart _ _ _ _ _ h) (by rw [hR]; decide) rfl c_9 rfl (Nat.le_of_ble_eq_true rfl) D_HT_loadRestOfDraft_9 (fun M9 h => ?_)
  refine J_aload_n C 0 D_HT_loadRestOfDraft_12 rfl rfl ?_
  obtain ⟨c_13, q13, e_13, h⟩ := h
  refine J_getR C fl_HT_10 D_HT_loadRestOfDraft_13 c_13 e_13 ?_
  refine J_iload_n C 2 D_HT_loadRestOfDraft_16 rfl rfl ?_
  refine J_aload_n C 0 D_HT_loadRestOfDraft_17 rfl rfl ?_
  obtain ⟨c_18, q18, e_18, h⟩ := h
  refine J_getR C fl_HT_32 D_HT_loadRestOfDraft_18 c_18 e_18 ?_
  obtain ⟨c_21, h⟩ := h
  refine J_callVi C ml_HT_186 (S_Pr_isZero _ _ _ _ _ h) (by rw [hR]; decide) rfl c_21 rfl (Nat.le_of_ble_eq_true rfl) D_HT_loadRestOfDraft_21 (fun r21 M21 h => ?_)
  refine J_if_eq (tgt := 29) C D_HT_loadRestOfDraft_24 (by decide) (fun c_24 => ?_) (fun c_24 => ?_)
  · have h := h.1 c_24
    refine J_aload_n C 1 D_HT_loadRestOfDraft_29 rfl rfl ?_
    refine J_iload_n C 2 D_HT_loadRestOfDraft_30 rfl rfl ?_
    refine J_aload_n C 0 D_HT_loadRestOfDraft_31 rfl rfl ?_
    obtain ⟨c_32, q32, e_32, h⟩ := h
    refine J_getR C fl_HT_32 D_HT_loadRestOfDraft_32 c_32 e_32 ?_
    obtain ⟨c_35, h⟩ := h
    refine J_callVv C ml_HT_267 (S_Ba_reduce _ _ _ _ _ h) (by rw [hR]; decide) rfl c_35 rfl (Nat.le_of_ble_eq_true rfl) D_HT_loadRestOfDraft_35 (fun M35 h => ?_)
    refine J_iconst (v := 1) C D_HT_loadRestOfDraft_38 rfl ?_
    obtain ⟨c_39, h⟩ := h
    exact J_iret C Rt D_HT_loadRestOfDraft_39 c_39 h
  · have h := h.2 c_24
    refine J_iconst (v := 0) C D_HT_loadRestOfDraft_27 rfl ?_
    obtain ⟨c_28, h⟩ := h
    exact J_iret C Rt D_HT_loadRestOfDraft_28 c_28 h
theorem D_HT_rest_0 : decode b_HT_rest 0 = .ok (.aload_n 0, 1) := by decide +kernel
theorem D_HT_rest_1 : decode b_HT_rest 1 = .ok (.getfield 46, 3) := by decide +kernel
theorem D_HT_rest_4 : decode b_HT_rest 4 = .ok (.invokevirtual 138, 3) := by decide +kernel
theorem D_HT_rest_7 : decode b_HT_rest 7 = .ok (.istore_n 1, 1) := by decide +kernel
theorem D_HT_rest_8 : decode b_HT_rest 8 = .ok (.aload_n 0, 1) := by decide +kernel
theorem D_HT_rest_9 : decode b_HT_rest 9 = .ok (.getfield 74, 3) := by decide +kernel
theorem D_HT_rest_12 : decode b_HT_rest 12 = .ok (.iload_n 1, 1) := by decide +kernel
theorem D_HT_rest_13 : decode b_HT_rest 13 = .ok (.invokevirtual 178, 3) := by decide +kernel
theorem D_HT_rest_16 : decode b_HT_rest 16 = .ok (.astore_n 2, 1) := by decide +kernel
theorem D_HT_rest_17 : decode b_HT_rest 17 = .ok (.iconst 0, 1) := by decide +kernel
theorem D_HT_rest_18 : decode b_HT_rest 18 = .ok (.istore_n 3, 1) := by decide +kernel
theorem D_HT_rest_19 : decode b_HT_rest 19 = .ok (.iload_n 3, 1) := by decide +kernel
theorem D_HT_rest_20 : decode b_HT_rest 20 = .ok (.iload_n 1, 1) := by decide +kernel
theorem D_HT_rest_21 : decode b_HT_rest 21 = .ok (.if_icmp .gt 30, 3) := by decide +kernel
theorem D_HT_rest_24 : decode b_HT_rest 24 = .ok (.aload_n 0, 1) := by decide +kernel
theorem D_HT_rest_25 : decode b_HT_rest 25 = .ok (.aload_n 2, 1) := by decide +kernel
theorem D_HT_rest_26 : decode b_HT_rest 26 = .ok (.iload_n 3, 1) := by decide +kernel
theorem D_HT_rest_27 : decode b_HT_rest 27 = .ok (.invokevirtual 182, 3) := by decide +kernel
theorem D_HT_rest_30 : decode b_HT_rest 30 = .ok (.ifCond .eq 15, 3) := by decide +kernel
theorem D_HT_rest_33 : decode b_HT_rest 33 = .ok (.aload_n 0, 1) := by decide +kernel
theorem D_HT_rest_34 : decode b_HT_rest 34 = .ok (.getfield 46, 3) := by decide +kernel
theorem D_HT_rest_37 : decode b_HT_rest 37 = .ok (.iload_n 3, 1) := by decide +kernel
theorem D_HT_rest_38 : decode b_HT_rest 38 = .ok (.aload_n 0, 1) := by decide +kernel
theorem D_HT_rest_39 : decode b_HT_rest 39 = .ok (.getfield 32, 3) := by decide +kernel
theorem D_HT_rest_42 : decode b_HT_rest 42 = .ok (.invokevirtual 175, 3) := by decide +kernel
theorem D_HT_rest_45 : decode b_HT_rest 45 = .ok (.iinc 3 1, 3) := by decide +kernel
theorem D_HT_rest_48 : decode b_HT_rest 48 = .ok (.goto (-29), 3) := by decide +kernel
theorem D_HT_rest_51 : decode b_HT_rest 51 = .ok (.aload_n 0, 1) := by decide +kernel
theorem D_HT_rest_52 : decode b_HT_rest 52 = .ok (.invokevirtual 132, 3) := by decide +kernel
theorem D_HT_rest_55 : decode b_HT_rest 55 = .ok (.aload_n 0, 1) := by decide +kernel
theorem D_HT_rest_56 : decode b_HT_rest 56 = .ok (.getfield 46, 3) := by decide +kernel
theorem D_HT_rest_59 : decode b_HT_rest 59 = .ok (.invokevirtual 135, 3) := by decide +kernel
theorem D_HT_rest_62 : decode b_HT_rest 62 = .ok (.ireturn, 1) := by decide +kernel
def B_HT_rest_45 (k19 : Nat → Int32 → Nat → Int32 → Mem → Prop) (post : Int32 → Mem → Prop) (a0 : Nat) (x1 : Int32) (a2 : Nat) (x3 : Int32) (M : Mem) : Prop := (k19 a0 x1 a2 (x3 + 1) M)
set_option maxRecDepth 20000 in
theorem Z_HT_rest_45 {x : Ctx} {post : Int32 → Mem → Prop} (C : Ok x b_HT_rest 4 "HeapTower") (hR : (xR x).frames = 6 ∧ (xR x).locals = 153) (Bd : Bdg x 0) {z : Nat} (Rt : RetID x .int post z) {k19 : Nat → Int32 → Nat → Int32 → Mem → Prop} (K19 : ∀ x', Sm x x' → ∀ (a0 : Nat) (x1 : Int32) (a2 : Nat) (x3 : Int32) (M : Mem), nC M + xg x' ≤ 2800 → k19 a0 x1 a2 x3 M → J x' 4 19 [(0, .ref (xd x' a0)), (1, .int x1), (2, .ref (xd x' a2)), (3, .int x3)] [] (iC x' M) (iS 0 x' M) M) (a0 : Nat) (x1 : Int32) (a2 : Nat) (x3 : Int32) (M : Mem) (hN : nC M + xg x ≤ 2800) (h : B_HT_rest_45 k19 post a0 x1 a2 x3 M) : J x 4 45 [(0, .ref (xd x a0)), (1, .int x1), (2, .ref (xd x a2)), (3, .int x3)] [] (iC x M) (iS 0 x M) M := by
  unfold B_HT_rest_45 at h
  refine J_iinc (v := x3 + 1) (lv' := [(3, .int (x3 + 1)), (0, .ref (xd x a0)), (1, .int x1), (2, .ref (xd x a2))]) C 3 3 D_HT_rest_45 rfl rfl (by decide) rfl ?_
  refine J_goto (tgt := 19) C D_HT_rest_48 (by decide) ?_
  exact J_sub [1, 2, 3, 0] rfl (K19 x (Sm.rf x) _ _ _ _ _ hN h)
def B_HT_rest_19 (k19 : Nat → Int32 → Nat → Int32 → Mem → Prop) (post : Int32 → Mem → Prop) (a0 : Nat) (x1 : Int32) (a2 : Nat) (x3 : Int32) (M : Mem) : Prop := ((x1 < x3 → (isK M a0 6 ∧ T_HT_draftChanged a0 M (fun M52 => isK M52 a0 6 ∧ ∃ q56, gR M52 a0 5 = some q56 ∧ isK M52 q56 3 ∧ T_Po_size q56 M52 (fun r59 M59 => post r59 M59)))) ∧ (¬ x1 < x3 → (isK M a0 6 ∧ T_HT_loadRestOfDraft a0 a2 x3 M (fun r27 M27 => (r27 = 0 → (B_HT_rest_45 k19 post a0 x1 a2 x3 M27)) ∧ (¬ r27 = 0 → (isK M27 a0 6 ∧ ∃ q34, gR M27 a0 5 = some q34 ∧ isK M27 a0 6 ∧ ∃ q39, gR M27 a0 3 = some q39 ∧ isK M27 q34 3 ∧ T_Po_setPart q34 x3 q39 M27 (fun M42 => B_HT_rest_45 k19 post a0 x1 a2 x3 M42)))))))
set_option maxRecDepth 20000 in
theorem Z_HT_rest_19 {x : Ctx} {post : Int32 → Mem → Prop} (C : Ok x b_HT_rest 4 "HeapTower") (hR : (xR x).frames = 6 ∧ (xR x).locals = 153) (Bd : Bdg x 0) {z : Nat} (Rt : RetID x .int post z) {k19 : Nat → Int32 → Nat → Int32 → Mem → Prop} (K19 : ∀ x', Sm x x' → ∀ (a0 : Nat) (x1 : Int32) (a2 : Nat) (x3 : Int32) (M : Mem), nC M + xg x' ≤ 2800 → k19 a0 x1 a2 x3 M → J x' 4 19 [(0, .ref (xd x' a0)), (1, .int x1), (2, .ref (xd x' a2)), (3, .int x3)] [] (iC x' M) (iS 0 x' M) M) (a0 : Nat) (x1 : Int32) (a2 : Nat) (x3 : Int32) (M : Mem) (hN : nC M + xg x ≤ 2800) (h : B_HT_rest_19 k19 post a0 x1 a2 x3 M) : J x 4 19 [(0, .ref (xd x a0)), (1, .int x1), (2, .ref (xd x a2)), (3, .int x3)] [] (iC x M) (iS 0 x M) M := by
  unfold B_HT_rest_19 at h
  refine J_iload_n C 3 D_HT_rest_19 rfl rfl ?_
  refine J_iload_n C 1 D_HT_rest_20 rfl rfl ?_
  refine J_icmp_gt (tgt := 51) C D_HT_rest_21 (by decide) (fun c_21 => ?_) (fun c_21 => ?_)
  · have h := h.1 c_21
    refine J_aload_n C 0 D_HT_rest_51 rfl rfl ?_
    obtain ⟨c_52, h⟩ := h
    refine JS_callVv C Bd hN ml_HT_132 (S_HT_draftChanged _ _ _ h) ⟨rfl, rfl⟩ (by rw [hR.1, hR.2]; decide) rfl c_52 rfl (Nat.le_of_ble_eq_true rfl) D_HT_rest_52 (fun M52 hN h => ?_)
    refine J_aload_n C 0 D_HT_rest_55 rfl rfl ?_
    obtain ⟨c_56, q56, e_56, h⟩ := h
    refine J_getR C fl_HT_46 D_HT_rest_56 c_56 e_56 ?_
    obtain ⟨c_59, h⟩ := h
    refine JS_callVi C Bd hN ml_HT_135 (S_Po_size _ _ _ h) ⟨rfl, rfl⟩ (by rw [hR.1, hR.2]; decide) rfl c_59 rfl (Nat.le_of_ble_eq_true rfl) D_HT_rest_59 (fun r59 M59 hN h => ?_)
    exact JD_iret C Rt hN D_HT_rest_62 rfl h
  · have h := h.2 c_21
    refine J_aload_n C 0 D_HT_rest_24 rfl rfl ?_
    refine J_aload_n C 2 D_HT_rest_25 rfl rfl ?_
    refine J_iload_n C 3 D_HT_rest_26 rfl rfl ?_
    obtain ⟨c_27, h⟩ := h
    refine JS_callVi C Bd hN ml_HT_182 (S_HT_loadRestOfDraft _ _ _ _ _ h) ⟨rfl, rfl⟩ (by rw [hR.1, hR.2]; decide) rfl c_27 rfl (Nat.le_of_ble_eq_true rfl) D_HT_rest_27 (fun r27 M27 hN h => ?_)
    refine J_if_eq (tgt := 45) C D_HT_rest_30 (by decide) (fun c_30 => ?_) (fun c_30 => ?_)
    · have h := h.1 c_30
      exact J_sub [0, 1, 2, 3] rfl (Z_HT_rest_45 C hR Bd Rt K19 _ _ _ _ _ hN h)
    · have h := h.2 c_30
      refine J_aload_n C 0 D_HT_rest_33 rfl rfl ?_
      obtain ⟨c_34, q34, e_34, h⟩ := h
      refine J_getR C fl_HT_46 D_HT_rest_34 c_34 e_34 ?_
      refine J_iload_n C 3 D_HT_rest_37 rfl rfl ?_
      refine J_aload_n C 0 D_HT_rest_38 rfl rfl ?_
      obtain ⟨c_39, q39, e_39, h⟩ := h
      refine J_getR C fl_HT_32 D_HT_rest_39 c_39 e_39 ?_
      obtain ⟨c_42, h⟩ := h
      refine JS_callVv C Bd hN ml_HT_175 (S_Po_setPart _ _ _ _ _ h) ⟨rfl, rfl⟩ (by rw [hR.1, hR.2]; decide) rfl c_42 rfl (Nat.le_of_ble_eq_true rfl) D_HT_rest_42 (fun M42 hN h => ?_)
      exact J_sub [0, 1, 2, 3] rfl (Z_HT_rest_45 C hR Bd Rt K19 _ _ _ _ _ hN h)
def L_HT_rest_19 (post : Int32 → Mem → Prop) : Nat → Nat → Int32 → Nat → Int32 → Mem → Prop
  | 0, _, _, _, _, _ => False
  | n + 1, a0, x1, a2, x3, M => B_HT_rest_19 (L_HT_rest_19 post n) post a0 x1 a2 x3 M
theorem Y_HT_rest_19 {x : Ctx} {post : Int32 → Mem → Prop} (C : Ok x b_HT_rest 4 "HeapTower") (hR : (xR x).frames = 6 ∧ (xR x).locals = 153) (Bd : Bdg x 0) {z : Nat} (Rt : RetID x .int post z) : ∀ (n : Nat) (x' : Ctx), Sm x x' → ∀ (a0 : Nat) (x1 : Int32) (a2 : Nat) (x3 : Int32) (M : Mem), nC M + xg x' ≤ 2800 → L_HT_rest_19 post n a0 x1 a2 x3 M → J x' 4 19 [(0, .ref (xd x' a0)), (1, .int x1), (2, .ref (xd x' a2)), (3, .int x3)] [] (iC x' M) (iS 0 x' M) M := by
  intro n
  induction n with
  | zero => intro x' ex a0 x1 a2 x3 M hN h; exact h.elim
  | succ n ih => intro x' ex a0 x1 a2 x3 M hN h; exact Z_HT_rest_19 (ex.ok C) (ex.fr hR) (ex.bd Bd) (ex.ri Rt) (fun x2 s2 => ih x2 (ex.tr s2)) _ _ _ _ _ hN h
def T_HT_rest (a0 : Nat) (M : Mem) (post : Int32 → Mem → Prop) : Prop := (isK M a0 6 ∧ ∃ q1, gR M a0 5 = some q1 ∧ isK M q1 3 ∧ T_Po_degree q1 M (fun r4 M4 => isK M4 a0 6 ∧ ∃ q9, gR M4 a0 10 = some q9 ∧ isK M4 q9 1 ∧ isK M4 a0 6 ∧ T_He_baseUpTo q9 r4 M4 (fun r13 M13 => isK M13 a0 6 ∧ ∃ n, L_HT_rest_19 post n a0 r4 r13 0 M13)))
set_option maxRecDepth 20000 in
theorem S_HT_rest {l : Launch} {D : va_G} {B t g : Nat} {d : Nat → Nat} {ac : Nat → ClassId} (a0 : Nat) (M : Mem) (post : Int32 → Mem → Prop) (hN : nC M + g ≤ 2800) (h : T_HT_rest a0 M post) : Met l y_HT_rest w_HT_rest (rmD 6 153 (nC M + g)) (va_Pc [.ref (d a0)] (PRE D B d g t ac M)) (QID D B ac post) (2800 - (nC M + g)) (2560 * (2800 - (nC M + g))) (AB B) := by
  refine met_iD (by decide +kernel) (Nat.le_of_ble_eq_true rfl) hN (fun x h1 hR h3 h4 h5 h6 h7 h8 C Bd Rt hN => ?_)
  subst h3 h4 h5 h6 h7 h8
  unfold T_HT_rest at h
  show J x 4 0 [(0, .ref (xd x a0))] [] (iC x M) (iS 0 x M) M
  refine J_aload_n C 0 D_HT_rest_0 rfl rfl ?_
  obtain ⟨c_1, q1, e_1, h⟩ := h
  refine J_getR C fl_HT_46 D_HT_rest_1 c_1 e_1 ?_
  obtain ⟨c_4, h⟩ := h
  refine JS_callVi C Bd hN ml_HT_138 (S_Po_degree _ _ _ h) ⟨rfl, rfl⟩ (by rw [hR.1, hR.2]; decide) rfl c_4 rfl (Nat.le_of_ble_eq_true rfl) D_HT_rest_4 (fun r4 M4 hN h => ?_)
  refine J_istore_n (lv' := [(1, .int r4), (0, .ref (xd x a0))]) C 1 D_HT_rest_7 rfl (by decide) rfl ?_
  refine J_aload_n C 0 D_HT_rest_8 rfl rfl ?_
  obtain ⟨c_9, q9, e_9, h⟩ := h
  refine J_getR C fl_HT_74 D_HT_rest_9 c_9 e_9 ?_
  refine J_iload_n C 1 D_HT_rest_12 rfl rfl ?_
  obtain ⟨c_13, h⟩ := h
  refine J_sub [0, 1] rfl ?_
  obtain ⟨i_13_0, h⟩ := h
  refine JD_callVr C Bd hN ml_HT_178 (S_He_baseUpTo _ _ _ _ hN h) (by rw [hR.1, hR.2]; decide) rfl c_13 rfl (Nat.le_of_ble_eq_true rfl) D_HT_rest_13 (fun x ex r13 M13 hN hq h => ?_)
  have C := ex.ok C
  have hR := ex.fr hR
  have Bd := ex.bd Bd
  have Rt := ex.ri Rt
  obtain ⟨j_13_0, h⟩ := h
  rw [hq a0 6 (by decide) i_13_0 j_13_0]
  refine J_astore_n (lv' := [(2, .ref (xd x r13)), (1, .int r4), (0, .ref (xd x a0))]) C 2 D_HT_rest_16 rfl (by decide) rfl ?_
  refine J_iconst (v := 0) C D_HT_rest_17 rfl ?_
  refine J_istore_n (lv' := [(3, .int 0), (2, .ref (xd x r13)), (1, .int r4), (0, .ref (xd x a0))]) C 3 D_HT_rest_18 rfl (by decide) rfl ?_
  obtain ⟨n, h⟩ := h
  exact J_sub [3, 2, 1, 0] rfl (Y_HT_rest_19 C hR Bd Rt  n x (Sm.rf x) _ _ _ _ _ hN h)
theorem D_HT_in_0 : decode b_HT_in 0 = .ok (.aload_n 0, 1) := by decide +kernel
theorem D_HT_in_1 : decode b_HT_in 1 = .ok (.getfield 46, 3) := by decide +kernel
theorem D_HT_in_4 : decode b_HT_in 4 = .ok (.invokevirtual 138, 3) := by decide +kernel
theorem D_HT_in_7 : decode b_HT_in 7 = .ok (.istore_n 1, 1) := by decide +kernel
theorem D_HT_in_8 : decode b_HT_in 8 = .ok (.aload_n 0, 1) := by decide +kernel
theorem D_HT_in_9 : decode b_HT_in 9 = .ok (.getfield 74, 3) := by decide +kernel
theorem D_HT_in_12 : decode b_HT_in 12 = .ok (.iload_n 1, 1) := by decide +kernel
theorem D_HT_in_13 : decode b_HT_in 13 = .ok (.invokevirtual 178, 3) := by decide +kernel
theorem D_HT_in_16 : decode b_HT_in 16 = .ok (.astore_n 2, 1) := by decide +kernel
theorem D_HT_in_17 : decode b_HT_in 17 = .ok (.iconst 0, 1) := by decide +kernel
theorem D_HT_in_18 : decode b_HT_in 18 = .ok (.istore_n 3, 1) := by decide +kernel
theorem D_HT_in_19 : decode b_HT_in 19 = .ok (.iload_n 3, 1) := by decide +kernel
theorem D_HT_in_20 : decode b_HT_in 20 = .ok (.iload_n 1, 1) := by decide +kernel
theorem D_HT_in_21 : decode b_HT_in 21 = .ok (.if_icmp .gt 35, 3) := by decide +kernel
theorem D_HT_in_24 : decode b_HT_in 24 = .ok (.aload_n 0, 1) := by decide +kernel
theorem D_HT_in_25 : decode b_HT_in 25 = .ok (.aload_n 2, 1) := by decide +kernel
theorem D_HT_in_26 : decode b_HT_in 26 = .ok (.iload_n 3, 1) := by decide +kernel
theorem D_HT_in_27 : decode b_HT_in 27 = .ok (.invokevirtual 182, 3) := by decide +kernel
theorem D_HT_in_30 : decode b_HT_in 30 = .ok (.ifCond .eq 20, 3) := by decide +kernel
theorem D_HT_in_33 : decode b_HT_in 33 = .ok (.aload_n 0, 1) := by decide +kernel
theorem D_HT_in_34 : decode b_HT_in 34 = .ok (.getfield 10, 3) := by decide +kernel
theorem D_HT_in_37 : decode b_HT_in 37 = .ok (.iload_n 3, 1) := by decide +kernel
theorem D_HT_in_38 : decode b_HT_in 38 = .ok (.aload_n 0, 1) := by decide +kernel
theorem D_HT_in_39 : decode b_HT_in 39 = .ok (.getfield 32, 3) := by decide +kernel
theorem D_HT_in_42 : decode b_HT_in 42 = .ok (.invokevirtual 186, 3) := by decide +kernel
theorem D_HT_in_45 : decode b_HT_in 45 = .ok (.ifCond .ne 5, 3) := by decide +kernel
theorem D_HT_in_48 : decode b_HT_in 48 = .ok (.iconst 0, 1) := by decide +kernel
theorem D_HT_in_49 : decode b_HT_in 49 = .ok (.ireturn, 1) := by decide +kernel
theorem D_HT_in_50 : decode b_HT_in 50 = .ok (.iinc 3 1, 3) := by decide +kernel
theorem D_HT_in_53 : decode b_HT_in 53 = .ok (.goto (-34), 3) := by decide +kernel
theorem D_HT_in_56 : decode b_HT_in 56 = .ok (.iconst 1, 1) := by decide +kernel
theorem D_HT_in_57 : decode b_HT_in 57 = .ok (.ireturn, 1) := by decide +kernel
def B_HT_in_50 (k19 : Nat → Int32 → Nat → Int32 → Mem → Prop) (post : Int32 → Mem → Prop) (a0 : Nat) (x1 : Int32) (a2 : Nat) (x3 : Int32) (M : Mem) : Prop := (k19 a0 x1 a2 (x3 + 1) M)
set_option maxRecDepth 20000 in
theorem Z_HT_in_50 {x : Ctx} {post : Int32 → Mem → Prop} (C : Ok x b_HT_in 4 "HeapTower") (hR : (xR x).frames = 6 ∧ (xR x).locals = 153) (Bd : Bdg x 0) {z : Nat} (Rt : RetID x .int post z) {k19 : Nat → Int32 → Nat → Int32 → Mem → Prop} (K19 : ∀ x', Sm x x' → ∀ (a0 : Nat) (x1 : Int32) (a2 : Nat) (x3 : Int32) (M : Mem), nC M + xg x' ≤ 2800 → k19 a0 x1 a2 x3 M → J x' 4 19 [(0, .ref (xd x' a0)), (1, .int x1), (2, .ref (xd x' a2)), (3, .int x3)] [] (iC x' M) (iS 0 x' M) M) (a0 : Nat) (x1 : Int32) (a2 : Nat) (x3 : Int32) (M : Mem) (hN : nC M + xg x ≤ 2800) (h : B_HT_in_50 k19 post a0 x1 a2 x3 M) : J x 4 50 [(0, .ref (xd x a0)), (1, .int x1), (2, .ref (xd x a2)), (3, .int x3)] [] (iC x M) (iS 0 x M) M := by
  unfold B_HT_in_50 at h
  refine J_iinc (v := x3 + 1) (lv' := [(3, .int (x3 + 1)), (0, .ref (xd x a0)), (1, .int x1), (2, .ref (xd x a2))]) C 3 3 D_HT_in_50 rfl rfl (by decide) rfl ?_
  refine J_goto (tgt := 19) C D_HT_in_53 (by decide) ?_
  exact J_sub [1, 2, 3, 0] rfl (K19 x (Sm.rf x) _ _ _ _ _ hN h)
def B_HT_in_19 (k19 : Nat → Int32 → Nat → Int32 → Mem → Prop) (post : Int32 → Mem → Prop) (a0 : Nat) (x1 : Int32) (a2 : Nat) (x3 : Int32) (M : Mem) : Prop := ((x1 < x3 → (post 1 M)) ∧ (¬ x1 < x3 → (isK M a0 6 ∧ T_HT_loadRestOfDraft a0 a2 x3 M (fun r27 M27 => (r27 = 0 → (B_HT_in_50 k19 post a0 x1 a2 x3 M27)) ∧ (¬ r27 = 0 → (isK M27 a0 6 ∧ ∃ q34, gR M27 a0 0 = some q34 ∧ isK M27 a0 6 ∧ ∃ q39, gR M27 a0 3 = some q39 ∧ isK M27 q34 4 ∧ T_Pr_isZero q34 x3 q39 M27 (fun r42 M42 => (¬ r42 = 0 → (B_HT_in_50 k19 post a0 x1 a2 x3 M42)) ∧ (r42 = 0 → (post 0 M42)))))))))
set_option maxRecDepth 20000 in
theorem Z_HT_in_19 {x : Ctx} {post : Int32 → Mem → Prop} (C : Ok x b_HT_in 4 "HeapTower") (hR : (xR x).frames = 6 ∧ (xR x).locals = 153) (Bd : Bdg x 0) {z : Nat} (Rt : RetID x .int post z) {k19 : Nat → Int32 → Nat → Int32 → Mem → Prop} (K19 : ∀ x', Sm x x' → ∀ (a0 : Nat) (x1 : Int32) (a2 : Nat) (x3 : Int32) (M : Mem), nC M + xg x' ≤ 2800 → k19 a0 x1 a2 x3 M → J x' 4 19 [(0, .ref (xd x' a0)), (1, .int x1), (2, .ref (xd x' a2)), (3, .int x3)] [] (iC x' M) (iS 0 x' M) M) (a0 : Nat) (x1 : Int32) (a2 : Nat) (x3 : Int32) (M : Mem) (hN : nC M + xg x ≤ 2800) (h : B_HT_in_19 k19 post a0 x1 a2 x3 M) : J x 4 19 [(0, .ref (xd x a0)), (1, .int x1), (2, .ref (xd x a2)), (3, .int x3)] [] (iC x M) (iS 0 x M) M := by
  unfold B_HT_in_19 at h
  refine J_iload_n C 3 D_HT_in_19 rfl rfl ?_
  refine J_iload_n C 1 D_HT_in_20 rfl rfl ?_
  refine J_icmp_gt (tgt := 56) C D_HT_in_21 (by decide) (fun c_21 => ?_) (fun c_21 => ?_)
  · have h := h.1 c_21
    refine J_iconst (v := 1) C D_HT_in_56 rfl ?_
    exact JD_iret C Rt hN D_HT_in_57 rfl h
  · have h := h.2 c_21
    refine J_aload_n C 0 D_HT_in_24 rfl rfl ?_
    refine J_aload_n C 2 D_HT_in_25 rfl rfl ?_
    refine J_iload_n C 3 D_HT_in_26 rfl rfl ?_
    obtain ⟨c_27, h⟩ := h
    refine JS_callVi C Bd hN ml_HT_182 (S_HT_loadRestOfDraft _ _ _ _ _ h) ⟨rfl, rfl⟩ (by rw [hR.1, hR.2]; decide) rfl c_27 rfl (Nat.le_of_ble_eq_true rfl) D_HT_in_27 (fun r27 M27 hN h => ?_)
    refine J_if_eq (tgt := 50) C D_HT_in_30 (by decide) (fun c_30 => ?_) (fun c_30 => ?_)
    · have h := h.1 c_30
      exact J_sub [0, 1, 2, 3] rfl (Z_HT_in_50 C hR Bd Rt K19 _ _ _ _ _ hN h)
    · have h := h.2 c_30
      refine J_aload_n C 0 D_HT_in_33 rfl rfl ?_
      obtain ⟨c_34, q34, e_34, h⟩ := h
      refine J_getR C fl_HT_10 D_HT_in_34 c_34 e_34 ?_
      refine J_iload_n C 3 D_HT_in_37 rfl rfl ?_
      refine J_aload_n C 0 D_HT_in_38 rfl rfl ?_
      obtain ⟨c_39, q39, e_39, h⟩ := h
      refine J_getR C fl_HT_32 D_HT_in_39 c_39 e_39 ?_
      obtain ⟨c_42, h⟩ := h
      refine JS_callVi C Bd hN ml_HT_186 (S_Pr_isZero _ _ _ _ _ h) ⟨rfl, rfl⟩ (by rw [hR.1, hR.2]; decide) rfl c_42 rfl (Nat.le_of_ble_eq_true rfl) D_HT_in_42 (fun r42 M42 hN h => ?_)
      refine J_if_ne (tgt := 50) C D_HT_in_45 (by decide) (fun c_45 => ?_) (fun c_45 => ?_)
      · have h := h.1 c_45
        exact J_sub [0, 1, 2, 3] rfl (Z_HT_in_50 C hR Bd Rt K19 _ _ _ _ _ hN h)
      · have h := h.2 c_45
        refine J_iconst (v := 0) C D_HT_in_48 rfl ?_
        exact JD_iret C Rt hN D_HT_in_49 rfl h
def L_HT_in_19 (post : Int32 → Mem → Prop) : Nat → Nat → Int32 → Nat → Int32 → Mem → Prop
  | 0, _, _, _, _, _ => False
  | n + 1, a0, x1, a2, x3, M => B_HT_in_19 (L_HT_in_19 post n) post a0 x1 a2 x3 M
theorem Y_HT_in_19 {x : Ctx} {post : Int32 → Mem → Prop} (C : Ok x b_HT_in 4 "HeapTower") (hR : (xR x).frames = 6 ∧ (xR x).locals = 153) (Bd : Bdg x 0) {z : Nat} (Rt : RetID x .int post z) : ∀ (n : Nat) (x' : Ctx), Sm x x' → ∀ (a0 : Nat) (x1 : Int32) (a2 : Nat) (x3 : Int32) (M : Mem), nC M + xg x' ≤ 2800 → L_HT_in_19 post n a0 x1 a2 x3 M → J x' 4 19 [(0, .ref (xd x' a0)), (1, .int x1), (2, .ref (xd x' a2)), (3, .int x3)] [] (iC x' M) (iS 0 x' M) M := by
  intro n
  induction n with
  | zero => intro x' ex a0 x1 a2 x3 M hN h; exact h.elim
  | succ n ih => intro x' ex a0 x1 a2 x3 M hN h; exact Z_HT_in_19 (ex.ok C) (ex.fr hR) (ex.bd Bd) (ex.ri Rt) (fun x2 s2 => ih x2 (ex.tr s2)) _ _ _ _ _ hN h
def T_HT_in (a0 : Nat) (M : Mem) (post : Int32 → Mem → Prop) : Prop := (isK M a0 6 ∧ ∃ q1, gR M a0 5 = some q1 ∧ isK M q1 3 ∧ T_Po_degree q1 M (fun r4 M4 => isK M4 a0 6 ∧ ∃ q9, gR M4 a0 10 = some q9 ∧ isK M4 q9 1 ∧ isK M4 a0 6 ∧ T_He_baseUpTo q9 r4 M4 (fun r13 M13 => isK M13 a0 6 ∧ ∃ n, L_HT_in_19 post n a0 r4 r13 0 M13)))
set_option maxRecDepth 20000 in
theorem S_HT_in {l : Launch} {D : va_G} {B t g : Nat} {d : Nat → Nat} {ac : Nat → ClassId} (a0 : Nat) (M : Mem) (post : Int32 → Mem → Prop) (hN : nC M + g ≤ 2800) (h : T_HT_in a0 M post) : Met l y_HT_in w_HT_in (rmD 6 153 (nC M + g)) (va_Pc [.ref (d a0)] (PRE D B d g t ac M)) (QID D B ac post) (2800 - (nC M + g)) (2560 * (2800 - (nC M + g))) (AB B) := by
  refine met_iD (by decide +kernel) (Nat.le_of_ble_eq_true rfl) hN (fun x h1 hR h3 h4 h5 h6 h7 h8 C Bd Rt hN => ?_)
  subst h3 h4 h5 h6 h7 h8
  unfold T_HT_in at h
  show J x 4 0 [(0, .ref (xd x a0))] [] (iC x M) (iS 0 x M) M
  refine J_aload_n C 0 D_HT_in_0 rfl rfl ?_
  obtain ⟨c_1, q1, e_1, h⟩ := h
  refine J_getR C fl_HT_46 D_HT_in_1 c_1 e_1 ?_
  obtain ⟨c_4, h⟩ := h
  refine JS_callVi C Bd hN ml_HT_138 (S_Po_degree _ _ _ h) ⟨rfl, rfl⟩ (by rw [hR.1, hR.2]; decide) rfl c_4 rfl (Nat.le_of_ble_eq_true rfl) D_HT_in_4 (fun r4 M4 hN h => ?_)
  refine J_istore_n (lv' := [(1, .int r4), (0, .ref (xd x a0))]) C 1 D_HT_in_7 rfl (by decide) rfl ?_
  refine J_aload_n C 0 D_HT_in_8 rfl rfl ?_
  obtain ⟨c_9, q9, e_9, h⟩ := h
  refine J_getR C fl_HT_74 D_HT_in_9 c_9 e_9 ?_
  refine J_iload_n C 1 D_HT_in_12 rfl rfl ?_
  obtain ⟨c_13, h⟩ := h
  refine J_sub [0, 1] rfl ?_
  obtain ⟨i_13_0, h⟩ := h
  refine JD_callVr C Bd hN ml_HT_178 (S_He_baseUpTo _ _ _ _ hN h) (by rw [hR.1, hR.2]; decide) rfl c_13 rfl (Nat.le_of_ble_eq_true rfl) D_HT_in_13 (fun x ex r13 M13 hN hq h => ?_)
  have C := ex.ok C
  have hR := ex.fr hR
  have Bd := ex.bd Bd
  have Rt := ex.ri Rt
  obtain ⟨j_13_0, h⟩ := h
  rw [hq a0 6 (by decide) i_13_0 j_13_0]
  refine J_astore_n (lv' := [(2, .ref (xd x r13)), (1, .int r4), (0, .ref (xd x a0))]) C 2 D_HT_in_16 rfl (by decide) rfl ?_
  refine J_iconst (v := 0) C D_HT_in_17 rfl ?_
  refine J_istore_n (lv' := [(3, .int 0), (2, .ref (xd x r13)), (1, .int r4), (0, .ref (xd x a0))]) C 3 D_HT_in_18 rfl (by decide) rfl ?_
  obtain ⟨n, h⟩ := h
  exact J_sub [3, 2, 1, 0] rfl (Y_HT_in_19 C hR Bd Rt  n x (Sm.rf x) _ _ _ _ _ hN h)
theorem D_HT_base_0 : decode b_HT_base 0 = .ok (.iload_n 1, 1) := by decide +kernel
theorem D_HT_base_1 : decode b_HT_base 1 = .ok (.iconst 1, 1) := by decide +kernel
theorem D_HT_base_2 : decode b_HT_base 2 = .ok (.if_icmp .lt 24, 3) := by decide +kernel
theorem D_HT_base_5 : decode b_HT_base 5 = .ok (.iload_n 1, 1) := by decide +kernel
theorem D_HT_base_6 : decode b_HT_base 6 = .ok (.bipush 10, 2) := by decide +kernel
theorem D_HT_base_8 : decode b_HT_base 8 = .ok (.if_icmp .gt 18, 3) := by decide +kernel
theorem D_HT_base_11 : decode b_HT_base 11 = .ok (.aload_n 0, 1) := by decide +kernel
theorem D_HT_base_12 : decode b_HT_base 12 = .ok (.getfield 74, 3) := by decide +kernel
theorem D_HT_base_15 : decode b_HT_base 15 = .ok (.iload_n 1, 1) := by decide +kernel
theorem D_HT_base_16 : decode b_HT_base 16 = .ok (.invokevirtual 178, 3) := by decide +kernel
theorem D_HT_base_19 : decode b_HT_base 19 = .ok (.iload_n 1, 1) := by decide +kernel
theorem D_HT_base_20 : decode b_HT_base 20 = .ok (.invokevirtual 190, 3) := by decide +kernel
theorem D_HT_base_23 : decode b_HT_base 23 = .ok (.goto 5, 3) := by decide +kernel
theorem D_HT_base_26 : decode b_HT_base 26 = .ok (.ldc 85, 2) := by decide +kernel
theorem D_HT_base_28 : decode b_HT_base 28 = .ok (.ireturn, 1) := by decide +kernel
def B_HT_base_28 (post : Int32 → Mem → Prop) (s0 : Int32) (M : Mem) : Prop := (post s0 M)
set_option maxRecDepth 20000 in
theorem Z_HT_base_28 {x : Ctx} {post : Int32 → Mem → Prop} (C : Ok x b_HT_base 2 "HeapTower") (hR : (xR x).frames = 6 ∧ (xR x).locals = 153) (Bd : Bdg x 0) {z : Nat} (Rt : RetID x .int post z) (s0 : Int32) (M : Mem) (hN : nC M + xg x ≤ 2800) (h : B_HT_base_28 post s0 M) : J x 2 28 [] [.int s0] (iC x M) (iS 0 x M) M := by
  unfold B_HT_base_28 at h
  exact JD_iret C Rt hN D_HT_base_28 rfl h
def B_HT_base_26 (post : Int32 → Mem → Prop) (M : Mem) : Prop := (B_HT_base_28 post ((-1000000)) M)
set_option maxRecDepth 20000 in
theorem Z_HT_base_26 {x : Ctx} {post : Int32 → Mem → Prop} (C : Ok x b_HT_base 2 "HeapTower") (hR : (xR x).frames = 6 ∧ (xR x).locals = 153) (Bd : Bdg x 0) {z : Nat} (Rt : RetID x .int post z) (M : Mem) (hN : nC M + xg x ≤ 2800) (h : B_HT_base_26 post M) : J x 2 26 [] [] (iC x M) (iS 0 x M) M := by
  unfold B_HT_base_26 at h
  refine J_ldc (v := (-1000000)) C D_HT_base_26 kw_HT_85 ?_
  exact J_sub [] rfl (Z_HT_base_28 C hR Bd Rt  _ _ hN h)
def T_HT_base (a0 : Nat) (x1 : Int32) (M : Mem) (post : Int32 → Mem → Prop) : Prop := ((x1 < 1 → (B_HT_base_26 post M)) ∧ (¬ x1 < 1 → ((10 < x1 → (B_HT_base_26 post M)) ∧ (¬ 10 < x1 → (isK M a0 6 ∧ ∃ q12, gR M a0 10 = some q12 ∧ isK M q12 1 ∧ T_He_baseUpTo q12 x1 M (fun r16 M16 => isK M16 r16 0 ∧ T_Ba_sizeUpTo r16 x1 M16 (fun r20 M20 => B_HT_base_28 post r20 M20)))))))
set_option maxRecDepth 20000 in
theorem S_HT_base {l : Launch} {D : va_G} {B t g : Nat} {d : Nat → Nat} {ac : Nat → ClassId} (a0 : Nat) (x1 : Int32) (M : Mem) (post : Int32 → Mem → Prop) (hN : nC M + g ≤ 2800) (h : T_HT_base a0 x1 M post) : Met l y_HT_base w_HT_base (rmD 6 153 (nC M + g)) (va_Pc [.ref (d a0), .int x1] (PRE D B d g t ac M)) (QID D B ac post) (2800 - (nC M + g)) (2560 * (2800 - (nC M + g))) (AB B) := by
  refine met_iD (by decide +kernel) (Nat.le_of_ble_eq_true rfl) hN (fun x h1 hR h3 h4 h5 h6 h7 h8 C Bd Rt hN => ?_)
  subst h3 h4 h5 h6 h7 h8
  unfold T_HT_base at h
  show J x 2 0 [(0, .ref (xd x a0)), (1, .int x1)] [] (iC x M) (iS 0 x M) M
  refine J_iload_n C 1 D_HT_base_0 rfl rfl ?_
  refine J_iconst (v := 1) C D_HT_base_1 rfl ?_
  refine J_icmp_lt (tgt := 26) C D_HT_base_2 (by decide) (fun c_2 => ?_) (fun c_2 => ?_)
  · have h := h.1 c_2
    exact J_sub [] rfl (Z_HT_base_26 C hR Bd Rt  _ hN h)
  · have h := h.2 c_2
    refine J_iload_n C 1 D_HT_base_5 rfl rfl ?_
    refine J_bipush (v := 10) C D_HT_base_6 rfl ?_
    refine J_icmp_gt (tgt := 26) C D_HT_base_8 (by decide) (fun c_8 => ?_) (fun c_8 => ?_)
    · have h := h.1 c_8
      exact J_sub [] rfl (Z_HT_base_26 C hR Bd Rt  _ hN h)
    · have h := h.2 c_8
      refine J_aload_n C 0 D_HT_base_11 rfl rfl ?_
      obtain ⟨c_12, q12, e_12, h⟩ := h
      refine J_getR C fl_HT_74 D_HT_base_12 c_12 e_12 ?_
      refine J_iload_n C 1 D_HT_base_15 rfl rfl ?_
      obtain ⟨c_16, h⟩ := h
      refine J_sub [1] rfl ?_
      refine JD_callVr C Bd hN ml_HT_178 (S_He_baseUpTo _ _ _ _ hN h) (by rw [hR.1, hR.2]; decide) rfl c_16 rfl (Nat.le_of_ble_eq_true rfl) D_HT_base_16 (fun x ex r16 M16 hN hq h => ?_)
      have C := ex.ok C
      have hR := ex.fr hR
      have Bd := ex.bd Bd
      have Rt := ex.ri Rt
      refine J_iload_n C 1 D_HT_base_19 rfl rfl ?_
      obtain ⟨c_20, h⟩ := h
      refine JS_callVi C Bd hN ml_HT_190 (S_Ba_sizeUpTo _ _ _ _ h) ⟨rfl, rfl⟩ (by rw [hR.1, hR.2]; decide) rfl c_20 rfl (Nat.le_of_ble_eq_true rfl) D_HT_base_20 (fun r20 M20 hN h => ?_)
      refine J_goto (tgt := 28) C D_HT_base_23 (by decide) ?_
      exact J_sub [] rfl (Z_HT_base_28 C hR Bd Rt  _ _ hN h)
theorem D_HT_element_0 : decode b_HT_element 0 = .ok (.aload_n 0, 1) := by decide +kernel
theorem D_HT_element_1 : decode b_HT_element 1 = .ok (.getfield 74, 3) := by decide +kernel
theorem D_HT_element_4 : decode b_HT_element 4 = .ok (.bipush 10, 2) := by decide +kernel
theorem D_HT_element_6 : decode b_HT_element 6 = .ok (.invokevirtual 178, 3) := by decide +kernel
theorem D_HT_element_9 : decode b_HT_element 9 = .ok (.astore_n 2, 1) := by decide +kernel
theorem D_HT_element_10 : decode b_HT_element 10 = .ok (.iload_n 1, 1) := by decide +kernel
theorem D_HT_element_11 : decode b_HT_element 11 = .ok (.ifCond .lt 13, 3) := by decide +kernel
theorem D_HT_element_14 : decode b_HT_element 14 = .ok (.iload_n 1, 1) := by decide +kernel
theorem D_HT_element_15 : decode b_HT_element 15 = .ok (.aload_n 2, 1) := by decide +kernel
theorem D_HT_element_16 : decode b_HT_element 16 = .ok (.bipush 10, 2) := by decide +kernel
theorem D_HT_element_18 : decode b_HT_element 18 = .ok (.invokevirtual 190, 3) := by decide +kernel
theorem D_HT_element_21 : decode b_HT_element 21 = .ok (.if_icmp .lt 6, 3) := by decide +kernel
theorem D_HT_element_24 : decode b_HT_element 24 = .ok (.ldc 85, 2) := by decide +kernel
theorem D_HT_element_26 : decode b_HT_element 26 = .ok (.ireturn, 1) := by decide +kernel
theorem D_HT_element_27 : decode b_HT_element 27 = .ok (.aload_n 2, 1) := by decide +kernel
theorem D_HT_element_28 : decode b_HT_element 28 = .ok (.iload_n 1, 1) := by decide +kernel
theorem D_HT_element_29 : decode b_HT_element 29 = .ok (.aload_n 0, 1) := by decide +kernel
theorem D_HT_element_30 : decode b_HT_element 30 = .ok (.getfield 32, 3) := by decide +kernel
theorem D_HT_element_33 : decode b_HT_element 33 = .ok (.invokevirtual 193, 3) := by decide +kernel
theorem D_HT_element_36 : decode b_HT_element 36 = .ok (.aload_n 0, 1) := by decide +kernel
theorem D_HT_element_37 : decode b_HT_element 37 = .ok (.getfield 46, 3) := by decide +kernel
theorem D_HT_element_40 : decode b_HT_element 40 = .ok (.invokevirtual 104, 3) := by decide +kernel
theorem D_HT_element_43 : decode b_HT_element 43 = .ok (.aload_n 0, 1) := by decide +kernel
theorem D_HT_element_44 : decode b_HT_element 44 = .ok (.getfield 46, 3) := by decide +kernel
theorem D_HT_element_47 : decode b_HT_element 47 = .ok (.aload_n 2, 1) := by decide +kernel
theorem D_HT_element_48 : decode b_HT_element 48 = .ok (.iload_n 1, 1) := by decide +kernel
theorem D_HT_element_49 : decode b_HT_element 49 = .ok (.invokevirtual 196, 3) := by decide +kernel
theorem D_HT_element_52 : decode b_HT_element 52 = .ok (.aload_n 0, 1) := by decide +kernel
theorem D_HT_element_53 : decode b_HT_element 53 = .ok (.getfield 32, 3) := by decide +kernel
theorem D_HT_element_56 : decode b_HT_element 56 = .ok (.invokevirtual 175, 3) := by decide +kernel
theorem D_HT_element_59 : decode b_HT_element 59 = .ok (.aload_n 0, 1) := by decide +kernel
theorem D_HT_element_60 : decode b_HT_element 60 = .ok (.invokevirtual 132, 3) := by decide +kernel
theorem D_HT_element_63 : decode b_HT_element 63 = .ok (.aload_n 0, 1) := by decide +kernel
theorem D_HT_element_64 : decode b_HT_element 64 = .ok (.getfield 46, 3) := by decide +kernel
theorem D_HT_element_67 : decode b_HT_element 67 = .ok (.invokevirtual 135, 3) := by decide +kernel
theorem D_HT_element_70 : decode b_HT_element 70 = .ok (.ireturn, 1) := by decide +kernel
def B_HT_element_24 (post : Int32 → Mem → Prop) (M : Mem) : Prop := (post ((-1000000)) M)
set_option maxRecDepth 20000 in
theorem Z_HT_element_24 {x : Ctx} {post : Int32 → Mem → Prop} (C : Ok x b_HT_element 3 "HeapTower") (hR : (xR x).frames = 6 ∧ (xR x).locals = 153) (Bd : Bdg x 0) {z : Nat} (Rt : RetID x .int post z) (M : Mem) (hN : nC M + xg x ≤ 2800) (h : B_HT_element_24 post M) : J x 3 24 [] [] (iC x M) (iS 0 x M) M := by
  unfold B_HT_element_24 at h
  refine J_ldc (v := (-1000000)) C D_HT_element_24 kw_HT_85 ?_
  exact JD_iret C Rt hN D_HT_element_26 rfl h
def T_HT_element (a0 : Nat) (x1 : Int32) (M : Mem) (post : Int32 → Mem → Prop) : Prop := (isK M a0 6 ∧ ∃ q1, gR M a0 10 = some q1 ∧ isK M q1 1 ∧ isK M a0 6 ∧ T_He_baseUpTo q1 10 M (fun r6 M6 => isK M6 a0 6 ∧ (x1 < 0 → (B_HT_element_24 post M6)) ∧ (¬ x1 < 0 → (isK M6 r6 0 ∧ T_Ba_sizeUpTo r6 10 M6 (fun r18 M18 => (x1 < r18 → (isK M18 a0 6 ∧ ∃ q30, gR M18 a0 3 = some q30 ∧ isK M18 r6 0 ∧ T_Ba_loadElement r6 x1 q30 M18 (fun M33 => isK M33 a0 6 ∧ ∃ q37, gR M33 a0 5 = some q37 ∧ isK M33 q37 3 ∧ T_Po_clear q37 M33 (fun M40 => isK M40 a0 6 ∧ ∃ q44, gR M40 a0 5 = some q44 ∧ isK M40 r6 0 ∧ T_Ba_degreeOf r6 x1 M40 (fun r49 M49 => isK M49 a0 6 ∧ ∃ q53, gR M49 a0 3 = some q53 ∧ isK M49 q44 3 ∧ T_Po_setPart q44 r49 q53 M49 (fun M56 => isK M56 a0 6 ∧ T_HT_draftChanged a0 M56 (fun M60 => isK M60 a0 6 ∧ ∃ q64, gR M60 a0 5 = some q64 ∧ isK M60 q64 3 ∧ T_Po_size q64 M60 (fun r67 M67 => post r67 M67)))))))) ∧ (¬ x1 < r18 → (B_HT_element_24 post M18)))))))
set_option maxRecDepth 20000 in
theorem S_HT_element {l : Launch} {D : va_G} {B t g : Nat} {d : Nat → Nat} {ac : Nat → ClassId} (a0 : Nat) (x1 : Int32) (M : Mem) (post : Int32 → Mem → Prop) (hN : nC M + g ≤ 2800) (h : T_HT_element a0 x1 M post) : Met l y_HT_element w_HT_element (rmD 6 153 (nC M + g)) (va_Pc [.ref (d a0), .int x1] (PRE D B d g t ac M)) (QID D B ac post) (2800 - (nC M + g)) (2560 * (2800 - (nC M + g))) (AB B) := by
  refine met_iD (by decide +kernel) (Nat.le_of_ble_eq_true rfl) hN (fun x h1 hR h3 h4 h5 h6 h7 h8 C Bd Rt hN => ?_)
  subst h3 h4 h5 h6 h7 h8
  unfold T_HT_element at h
  show J x 3 0 [(0, .ref (xd x a0)), (1, .int x1)] [] (iC x M) (iS 0 x M) M
  refine J_aload_n C 0 D_HT_element_0 rfl rfl ?_
  obtain ⟨c_1, q1, e_1, h⟩ := h
  refine J_getR C fl_HT_74 D_HT_element_1 c_1 e_1 ?_
  refine J_bipush (v := 10) C D_HT_element_4 rfl ?_
  obtain ⟨c_6, h⟩ := h
  refine J_sub [0, 1] rfl ?_
  obtain ⟨i_6_0, h⟩ := h
  refine JD_callVr C Bd hN ml_HT_178 (S_He_baseUpTo _ _ _ _ hN h) (by rw [hR.1, hR.2]; decide) rfl c_6 rfl (Nat.le_of_ble_eq_true rfl) D_HT_element_6 (fun x ex r6 M6 hN hq h => ?_)
  have C := ex.ok C
  have hR := ex.fr hR
  have Bd := ex.bd Bd
  have Rt := ex.ri Rt
  obtain ⟨j_6_0, h⟩ := h
  rw [hq a0 6 (by decide) i_6_0 j_6_0]
  refine J_astore_n (lv' := [(2, .ref (xd x r6)), (0, .ref (xd x a0)), (1, .int x1)]) C 2 D_HT_element_9 rfl (by decide) rfl ?_
  refine J_iload_n C 1 D_HT_element_10 rfl rfl ?_
  refine J_if_lt (tgt := 24) C D_HT_element_11 (by decide) (fun c_11 => ?_) (fun c_11 => ?_)
  · have h := h.1 c_11
    exact J_sub [] rfl (Z_HT_element_24 C hR Bd Rt  _ hN h)
  · have h := h.2 c_11
    refine J_iload_n C 1 D_HT_element_14 rfl rfl ?_
    refine J_aload_n C 2 D_HT_element_15 rfl rfl ?_
    refine J_bipush (v := 10) C D_HT_element_16 rfl ?_
    obtain ⟨c_18, h⟩ := h
    refine JS_callVi C Bd hN ml_HT_190 (S_Ba_sizeUpTo _ _ _ _ h) ⟨rfl, rfl⟩ (by rw [hR.1, hR.2]; decide) rfl c_18 rfl (Nat.le_of_ble_eq_true rfl) D_HT_element_18 (fun r18 M18 hN h => ?_)
    refine J_icmp_lt (tgt := 27) C D_HT_element_21 (by decide) (fun c_21 => ?_) (fun c_21 => ?_)
    · have h := h.1 c_21
      refine J_aload_n C 2 D_HT_element_27 rfl rfl ?_
      refine J_iload_n C 1 D_HT_element_28 rfl rfl ?_
      refine J_aload_n C 0 D_HT_element_29 rfl rfl ?_
      obtain ⟨c_30, q30, e_30, h⟩ := h
      refine J_getR C fl_HT_32 D_HT_element_30 c_30 e_30 ?_
      obtain ⟨c_33, h⟩ := h
      refine JS_callVv C Bd hN ml_HT_193 (S_Ba_loadElement _ _ _ _ _ h) ⟨rfl, rfl⟩ (by rw [hR.1, hR.2]; decide) rfl c_33 rfl (Nat.le_of_ble_eq_true rfl) D_HT_element_33 (fun M33 hN h => ?_)
      refine J_aload_n C 0 D_HT_element_36 rfl rfl ?_
      obtain ⟨c_37, q37, e_37, h⟩ := h
      refine J_getR C fl_HT_46 D_HT_element_37 c_37 e_37 ?_
      obtain ⟨c_40, h⟩ := h
      refine JS_callVv C Bd hN ml_HT_104 (S_Po_clear _ _ _ h) ⟨rfl, rfl⟩ (by rw [hR.1, hR.2]; decide) rfl c_40 rfl (Nat.le_of_ble_eq_true rfl) D_HT_element_40 (fun M40 hN h => ?_)
      refine J_aload_n C 0 D_HT_element_43 rfl rfl ?_
      obtain ⟨c_44, q44, e_44, h⟩ := h
      refine J_getR C fl_HT_46 D_HT_element_44 c_44 e_44 ?_
      refine J_aload_n C 2 D_HT_element_47 rfl rfl ?_
      refine J_iload_n C 1 D_HT_element_48 rfl rfl ?_
      obtain ⟨c_49, h⟩ := h
      refine JS_callVi C Bd hN ml_HT_196 (S_Ba_degreeOf _ _ _ _ h) ⟨rfl, rfl⟩ (by rw [hR.1, hR.2]; decide) rfl c_49 rfl (Nat.le_of_ble_eq_true rfl) D_HT_element_49 (fun r49 M49 hN h => ?_)
      refine J_aload_n C 0 D_HT_element_52 rfl rfl ?_
      obtain ⟨c_53, q53, e_53, h⟩ := h
      refine J_getR C fl_HT_32 D_HT_element_53 c_53 e_53 ?_
      obtain ⟨c_56, h⟩ := h
      refine JS_callVv C Bd hN ml_HT_175 (S_Po_setPart _ _ _ _ _ h) ⟨rfl, rfl⟩ (by rw [hR.1, hR.2]; decide) rfl c_56 rfl (Nat.le_of_ble_eq_true rfl) D_HT_element_56 (fun M56 hN h => ?_)
      refine J_aload_n C 0 D_HT_element_59 rfl rfl ?_
      obtain ⟨c_60, h⟩ := h
      refine JS_callVv C Bd hN ml_HT_132 (S_HT_draftChanged _ _ _ h) ⟨rfl, rfl⟩ (by rw [hR.1, hR.2]; decide) rfl c_60 rfl (Nat.le_of_ble_eq_true rfl) D_HT_element_60 (fun M60 hN h => ?_)
      refine J_aload_n C 0 D_HT_element_63 rfl rfl ?_
      obtain ⟨c_64, q64, e_64, h⟩ := h
      refine J_getR C fl_HT_46 D_HT_element_64 c_64 e_64 ?_
      obtain ⟨c_67, h⟩ := h
      refine JS_callVi C Bd hN ml_HT_135 (S_Po_size _ _ _ h) ⟨rfl, rfl⟩ (by rw [hR.1, hR.2]; decide) rfl c_67 rfl (Nat.le_of_ble_eq_true rfl) D_HT_element_67 (fun r67 M67 hN h => ?_)
      exact JD_iret C Rt hN D_HT_element_70 rfl h
    · have h := h.2 c_21
      exact J_sub [] rfl (Z_HT_element_24 C hR Bd Rt  _ hN h)
theorem D_HT_count_0 : decode b_HT_count 0 = .ok (.iload_n 1, 1) := by decide +kernel
theorem D_HT_count_1 : decode b_HT_count 1 = .ok (.ifCond .lt 24, 3) := by decide +kernel
theorem D_HT_count_4 : decode b_HT_count 4 = .ok (.iload_n 1, 1) := by decide +kernel
theorem D_HT_count_5 : decode b_HT_count 5 = .ok (.bipush 10, 2) := by decide +kernel
theorem D_HT_count_7 : decode b_HT_count 7 = .ok (.if_icmp .gt 18, 3) := by decide +kernel
theorem D_HT_count_10 : decode b_HT_count 10 = .ok (.aload_n 0, 1) := by decide +kernel
theorem D_HT_count_11 : decode b_HT_count 11 = .ok (.getfield 74, 3) := by decide +kernel
theorem D_HT_count_14 : decode b_HT_count 14 = .ok (.iload_n 1, 1) := by decide +kernel
theorem D_HT_count_15 : decode b_HT_count 15 = .ok (.invokevirtual 178, 3) := by decide +kernel
theorem D_HT_count_18 : decode b_HT_count 18 = .ok (.iload_n 1, 1) := by decide +kernel
theorem D_HT_count_19 : decode b_HT_count 19 = .ok (.invokevirtual 197, 3) := by decide +kernel
theorem D_HT_count_22 : decode b_HT_count 22 = .ok (.goto 5, 3) := by decide +kernel
theorem D_HT_count_25 : decode b_HT_count 25 = .ok (.ldc 85, 2) := by decide +kernel
theorem D_HT_count_27 : decode b_HT_count 27 = .ok (.ireturn, 1) := by decide +kernel
def B_HT_count_27 (post : Int32 → Mem → Prop) (s0 : Int32) (M : Mem) : Prop := (post s0 M)
set_option maxRecDepth 20000 in
theorem Z_HT_count_27 {x : Ctx} {post : Int32 → Mem → Prop} (C : Ok x b_HT_count 2 "HeapTower") (hR : (xR x).frames = 6 ∧ (xR x).locals = 153) (Bd : Bdg x 0) {z : Nat} (Rt : RetID x .int post z) (s0 : Int32) (M : Mem) (hN : nC M + xg x ≤ 2800) (h : B_HT_count_27 post s0 M) : J x 2 27 [] [.int s0] (iC x M) (iS 0 x M) M := by
  unfold B_HT_count_27 at h
  exact JD_iret C Rt hN D_HT_count_27 rfl h
def B_HT_count_25 (post : Int32 → Mem → Prop) (M : Mem) : Prop := (B_HT_count_27 post ((-1000000)) M)
set_option maxRecDepth 20000 in
theorem Z_HT_count_25 {x : Ctx} {post : Int32 → Mem → Prop} (C : Ok x b_HT_count 2 "HeapTower") (hR : (xR x).frames = 6 ∧ (xR x).locals = 153) (Bd : Bdg x 0) {z : Nat} (Rt : RetID x .int post z) (M : Mem) (hN : nC M + xg x ≤ 2800) (h : B_HT_count_25 post M) : J x 2 25 [] [] (iC x M) (iS 0 x M) M := by
  unfold B_HT_count_25 at h
  refine J_ldc (v := (-1000000)) C D_HT_count_25 kw_HT_85 ?_
  exact J_sub [] rfl (Z_HT_count_27 C hR Bd Rt  _ _ hN h)
def T_HT_count (a0 : Nat) (x1 : Int32) (M : Mem) (post : Int32 → Mem → Prop) : Prop := ((x1 < 0 → (B_HT_count_25 post M)) ∧ (¬ x1 < 0 → ((10 < x1 → (B_HT_count_25 post M)) ∧ (¬ 10 < x1 → (isK M a0 6 ∧ ∃ q11, gR M a0 10 = some q11 ∧ isK M q11 1 ∧ T_He_baseUpTo q11 x1 M (fun r15 M15 => isK M15 r15 0 ∧ T_Ba_standardCount r15 x1 M15 (fun r19 M19 => B_HT_count_27 post r19 M19)))))))
set_option maxRecDepth 20000 in
theorem S_HT_count {l : Launch} {D : va_G} {B t g : Nat} {d : Nat → Nat} {ac : Nat → ClassId} (a0 : Nat) (x1 : Int32) (M : Mem) (post : Int32 → Mem → Prop) (hN : nC M + g ≤ 2800) (h : T_HT_count a0 x1 M post) : Met l y_HT_count w_HT_count (rmD 6 153 (nC M + g)) (va_Pc [.ref (d a0), .int x1] (PRE D B d g t ac M)) (QID D B ac post) (2800 - (nC M + g)) (2560 * (2800 - (nC M + g))) (AB B) := by
  refine met_iD (by decide +kernel) (Nat.le_of_ble_eq_true rfl) hN (fun x h1 hR h3 h4 h5 h6 h7 h8 C Bd Rt hN => ?_)
  subst h3 h4 h5 h6 h7 h8
  unfold T_HT_count at h
  show J x 2 0 [(0, .ref (xd x a0)), (1, .int x1)] [] (iC x M) (iS 0 x M) M
  refine J_iload_n C 1 D_HT_count_0 rfl rfl ?_
  refine J_if_lt (tgt := 25) C D_HT_count_1 (by decide) (fun c_1 => ?_) (fun c_1 => ?_)
  · have h := h.1 c_1
    exact J_sub [] rfl (Z_HT_count_25 C hR Bd Rt  _ hN h)
  · have h := h.2 c_1
    refine J_iload_n C 1 D_HT_count_4 rfl rfl ?_
    refine J_bipush (v := 10) C D_HT_count_5 rfl ?_
    refine J_icmp_gt (tgt := 25) C D_HT_count_7 (by decide) (fun c_7 => ?_) (fun c_7 => ?_)
    · have h := h.1 c_7
      exact J_sub [] rfl (Z_HT_count_25 C hR Bd Rt  _ hN h)
    · have h := h.2 c_7
      refine J_aload_n C 0 D_HT_count_10 rfl rfl ?_
      obtain ⟨c_11, q11, e_11, h⟩ := h
      refine J_getR C fl_HT_74 D_HT_count_11 c_11 e_11 ?_
      refine J_iload_n C 1 D_HT_count_14 rfl rfl ?_
      obtain ⟨c_15, h⟩ := h
      refine J_sub [1] rfl ?_
      refine JD_callVr C Bd hN ml_HT_178 (S_He_baseUpTo _ _ _ _ hN h) (by rw [hR.1, hR.2]; decide) rfl c_15 rfl (Nat.le_of_ble_eq_true rfl) D_HT_count_15 (fun x ex r15 M15 hN hq h => ?_)
      have C := ex.ok C
      have hR := ex.fr hR
      have Bd := ex.bd Bd
      have Rt := ex.ri Rt
      refine J_iload_n C 1 D_HT_count_18 rfl rfl ?_
      obtain ⟨c_19, h⟩ := h
      refine JS_callVi C Bd hN ml_HT_197 (S_Ba_standardCount _ _ _ _ h) ⟨rfl, rfl⟩ (by rw [hR.1, hR.2]; decide) rfl c_19 rfl (Nat.le_of_ble_eq_true rfl) D_HT_count_19 (fun r19 M19 hN h => ?_)
      refine J_goto (tgt := 27) C D_HT_count_22 (by decide) ?_
      exact J_sub [] rfl (Z_HT_count_27 C hR Bd Rt  _ _ hN h)
theorem D_HT_freeAtGround_0 : decode b_HT_freeAtGround 0 = .ok (.iload_n 1, 1) := by decide +kernel
theorem D_HT_freeAtGround_1 : decode b_HT_freeAtGround 1 = .ok (.ifCond .ne 7, 3) := by decide +kernel
theorem D_HT_freeAtGround_4 : decode b_HT_freeAtGround 4 = .ok (.iconst 1, 1) := by decide +kernel
theorem D_HT_freeAtGround_5 : decode b_HT_freeAtGround 5 = .ok (.goto 4, 3) := by decide +kernel
theorem D_HT_freeAtGround_8 : decode b_HT_freeAtGround 8 = .ok (.iconst 0, 1) := by decide +kernel
theorem D_HT_freeAtGround_9 : decode b_HT_freeAtGround 9 = .ok (.ireturn, 1) := by decide +kernel
abbrev rm_HT_freeAtGround : Room := { frames := 0, cells := 0, slots := 0, locals := 0 }
def B_HT_freeAtGround_9 (post : Int32 → Mem → Prop) (s0 : Int32) (M : Mem) : Prop := (post s0 M)
set_option maxRecDepth 20000 in
theorem Z_HT_freeAtGround_9 {x : Ctx} {post : Int32 → Mem → Prop} (C : Ok x b_HT_freeAtGround 2 "HeapTower") (hR : xR x = rm_HT_freeAtGround) (Rt : RetI x .int post 0 0) (s0 : Int32) (M : Mem) (h : B_HT_freeAtGround_9 post s0 M) : J x 2 9 [] [.int s0] 0 0 M := by
  unfold B_HT_freeAtGround_9 at h
  exact J_iret C Rt D_HT_freeAtGround_9 rfl h
def T_HT_freeAtGround (a0 : Nat) (x1 : Int32) (M : Mem) (post : Int32 → Mem → Prop) : Prop := ((¬ x1 = 0 → (B_HT_freeAtGround_9 post 0 M)) ∧ (x1 = 0 → (B_HT_freeAtGround_9 post 1 M)))
set_option maxRecDepth 20000 in
theorem S_HT_freeAtGround {l : Launch} {D : va_G} {B t g : Nat} {d : Nat → Nat} {ac : Nat → ClassId}  (a0 : Nat) (x1 : Int32) (M : Mem) (post : Int32 → Mem → Prop) (h : T_HT_freeAtGround a0 x1 M post) : Met l y_HT_freeAtGround w_HT_freeAtGround rm_HT_freeAtGround (va_Pc [.ref (d a0), .int x1] (PRE D B d g t ac M)) (QI D B d g ac post) 0 0 (AB B) := by
  refine met_i (by decide +kernel) (Nat.le_of_ble_eq_true rfl) (fun x h1 hR h3 h4 h5 h6 h7 h8 C Rt => ?_)
  subst h3 h4 h5 h6 h7 h8
  unfold T_HT_freeAtGround at h
  show J x 2 0 [(0, .ref (xd x a0)), (1, .int x1)] [] 0 0 M
  refine J_iload_n C 1 D_HT_freeAtGround_0 rfl rfl ?_
  refine J_if_ne (tgt := 8) C D_HT_freeAtGround_1 (by decide) (fun c_1 => ?_) (fun c_1 => ?_)
  · have h := h.1 c_1
    refine J_iconst (v := 0) C D_HT_freeAtGround_8 rfl ?_
    exact J_sub [] rfl (Z_HT_freeAtGround_9 C hR Rt  _ _ h)
  · have h := h.2 c_1
    refine J_iconst (v := 1) C D_HT_freeAtGround_4 rfl ?_
    refine J_goto (tgt := 9) C D_HT_freeAtGround_5 (by decide) ?_
    exact J_sub [] rfl (Z_HT_freeAtGround_9 C hR Rt  _ _ h)
theorem D_HT_loadImages_0 : decode b_HT_loadImages 0 = .ok (.iconst 0, 1) := by decide +kernel
theorem D_HT_loadImages_1 : decode b_HT_loadImages 1 = .ok (.istore 4, 2) := by decide +kernel
theorem D_HT_loadImages_3 : decode b_HT_loadImages 3 = .ok (.iload 4, 2) := by decide +kernel
theorem D_HT_loadImages_5 : decode b_HT_loadImages 5 = .ok (.aload_n 0, 1) := by decide +kernel
theorem D_HT_loadImages_6 : decode b_HT_loadImages 6 = .ok (.getfield 10, 3) := by decide +kernel
theorem D_HT_loadImages_9 : decode b_HT_loadImages 9 = .ok (.iload_n 2, 1) := by decide +kernel
theorem D_HT_loadImages_10 : decode b_HT_loadImages 10 = .ok (.invokevirtual 213, 3) := by decide +kernel
theorem D_HT_loadImages_13 : decode b_HT_loadImages 13 = .ok (.if_icmp .ge 121, 3) := by decide +kernel
theorem D_HT_loadImages_16 : decode b_HT_loadImages 16 = .ok (.aload_n 0, 1) := by decide +kernel
theorem D_HT_loadImages_17 : decode b_HT_loadImages 17 = .ok (.getfield 10, 3) := by decide +kernel
theorem D_HT_loadImages_20 : decode b_HT_loadImages 20 = .ok (.iload_n 2, 1) := by decide +kernel
theorem D_HT_loadImages_21 : decode b_HT_loadImages 21 = .ok (.iload 4, 2) := by decide +kernel
theorem D_HT_loadImages_23 : decode b_HT_loadImages 23 = .ok (.invokevirtual 270, 3) := by decide +kernel
theorem D_HT_loadImages_26 : decode b_HT_loadImages 26 = .ok (.istore 5, 2) := by decide +kernel
theorem D_HT_loadImages_28 : decode b_HT_loadImages 28 = .ok (.aload_n 0, 1) := by decide +kernel
theorem D_HT_loadImages_29 : decode b_HT_loadImages 29 = .ok (.getfield 32, 3) := by decide +kernel
theorem D_HT_loadImages_32 : decode b_HT_loadImages 32 = .ok (.iconst 0, 1) := by decide +kernel
theorem D_HT_loadImages_33 : decode b_HT_loadImages 33 = .ok (.invokestatic 306, 3) := by decide +kernel
theorem D_HT_loadImages_36 : decode b_HT_loadImages 36 = .ok (.aload_n 1, 1) := by decide +kernel
theorem D_HT_loadImages_37 : decode b_HT_loadImages 37 = .ok (.iload_n 2, 1) := by decide +kernel
theorem D_HT_loadImages_38 : decode b_HT_loadImages 38 = .ok (.iload 5, 2) := by decide +kernel
theorem D_HT_loadImages_40 : decode b_HT_loadImages 40 = .ok (.invokevirtual 328, 3) := by decide +kernel
theorem D_HT_loadImages_43 : decode b_HT_loadImages 43 = .ok (.ifCond .eq 30, 3) := by decide +kernel
theorem D_HT_loadImages_46 : decode b_HT_loadImages 46 = .ok (.aload_n 0, 1) := by decide +kernel
theorem D_HT_loadImages_47 : decode b_HT_loadImages 47 = .ok (.getfield 32, 3) := by decide +kernel
theorem D_HT_loadImages_50 : decode b_HT_loadImages 50 = .ok (.aload_n 0, 1) := by decide +kernel
theorem D_HT_loadImages_51 : decode b_HT_loadImages 51 = .ok (.getfield 10, 3) := by decide +kernel
theorem D_HT_loadImages_54 : decode b_HT_loadImages 54 = .ok (.iload 5, 2) := by decide +kernel
theorem D_HT_loadImages_56 : decode b_HT_loadImages 56 = .ok (.iload_n 3, 1) := by decide +kernel
theorem D_HT_loadImages_57 : decode b_HT_loadImages 57 = .ok (.invokevirtual 332, 3) := by decide +kernel
theorem D_HT_loadImages_60 : decode b_HT_loadImages 60 = .ok (.iconst 1, 1) := by decide +kernel
theorem D_HT_loadImages_61 : decode b_HT_loadImages 61 = .ok (.iastore, 1) := by decide +kernel
theorem D_HT_loadImages_62 : decode b_HT_loadImages 62 = .ok (.aload_n 1, 1) := by decide +kernel
theorem D_HT_loadImages_63 : decode b_HT_loadImages 63 = .ok (.iload_n 2, 1) := by decide +kernel
theorem D_HT_loadImages_64 : decode b_HT_loadImages 64 = .ok (.iconst 1, 1) := by decide +kernel
theorem D_HT_loadImages_65 : decode b_HT_loadImages 65 = .ok (.iadd, 1) := by decide +kernel
theorem D_HT_loadImages_66 : decode b_HT_loadImages 66 = .ok (.aload_n 0, 1) := by decide +kernel
theorem D_HT_loadImages_67 : decode b_HT_loadImages 67 = .ok (.getfield 32, 3) := by decide +kernel
theorem D_HT_loadImages_70 : decode b_HT_loadImages 70 = .ok (.invokevirtual 267, 3) := by decide +kernel
theorem D_HT_loadImages_73 : decode b_HT_loadImages 73 = .ok (.iconst 0, 1) := by decide +kernel
theorem D_HT_loadImages_74 : decode b_HT_loadImages 74 = .ok (.istore 6, 2) := by decide +kernel
theorem D_HT_loadImages_76 : decode b_HT_loadImages 76 = .ok (.iload 6, 2) := by decide +kernel
theorem D_HT_loadImages_78 : decode b_HT_loadImages 78 = .ok (.aload_n 0, 1) := by decide +kernel
theorem D_HT_loadImages_79 : decode b_HT_loadImages 79 = .ok (.getfield 10, 3) := by decide +kernel
theorem D_HT_loadImages_82 : decode b_HT_loadImages 82 = .ok (.iload_n 2, 1) := by decide +kernel
theorem D_HT_loadImages_83 : decode b_HT_loadImages 83 = .ok (.iconst 1, 1) := by decide +kernel
theorem D_HT_loadImages_84 : decode b_HT_loadImages 84 = .ok (.iadd, 1) := by decide +kernel
theorem D_HT_loadImages_85 : decode b_HT_loadImages 85 = .ok (.invokevirtual 213, 3) := by decide +kernel
theorem D_HT_loadImages_88 : decode b_HT_loadImages 88 = .ok (.if_icmp .ge 40, 3) := by decide +kernel
theorem D_HT_loadImages_91 : decode b_HT_loadImages 91 = .ok (.aload_n 0, 1) := by decide +kernel
theorem D_HT_loadImages_92 : decode b_HT_loadImages 92 = .ok (.getfield 10, 3) := by decide +kernel
theorem D_HT_loadImages_95 : decode b_HT_loadImages 95 = .ok (.iload_n 2, 1) := by decide +kernel
theorem D_HT_loadImages_96 : decode b_HT_loadImages 96 = .ok (.iconst 1, 1) := by decide +kernel
theorem D_HT_loadImages_97 : decode b_HT_loadImages 97 = .ok (.iadd, 1) := by decide +kernel
theorem D_HT_loadImages_98 : decode b_HT_loadImages 98 = .ok (.iload 6, 2) := by decide +kernel
theorem D_HT_loadImages_100 : decode b_HT_loadImages 100 = .ok (.invokevirtual 270, 3) := by decide +kernel
theorem D_HT_loadImages_103 : decode b_HT_loadImages 103 = .ok (.istore 7, 2) := by decide +kernel
theorem D_HT_loadImages_105 : decode b_HT_loadImages 105 = .ok (.aload_n 0, 1) := by decide +kernel
theorem D_HT_loadImages_106 : decode b_HT_loadImages 106 = .ok (.getfield 38, 3) := by decide +kernel
theorem D_HT_loadImages_109 : decode b_HT_loadImages 109 = .ok (.iload 7, 2) := by decide +kernel
theorem D_HT_loadImages_111 : decode b_HT_loadImages 111 = .ok (.aaload, 1) := by decide +kernel
theorem D_HT_loadImages_112 : decode b_HT_loadImages 112 = .ok (.iload 5, 2) := by decide +kernel
theorem D_HT_loadImages_114 : decode b_HT_loadImages 114 = .ok (.aload_n 0, 1) := by decide +kernel
theorem D_HT_loadImages_115 : decode b_HT_loadImages 115 = .ok (.getfield 32, 3) := by decide +kernel
theorem D_HT_loadImages_118 : decode b_HT_loadImages 118 = .ok (.iload 7, 2) := by decide +kernel
theorem D_HT_loadImages_120 : decode b_HT_loadImages 120 = .ok (.iaload, 1) := by decide +kernel
theorem D_HT_loadImages_121 : decode b_HT_loadImages 121 = .ok (.iastore, 1) := by decide +kernel
theorem D_HT_loadImages_122 : decode b_HT_loadImages 122 = .ok (.iinc 6 1, 3) := by decide +kernel
theorem D_HT_loadImages_125 : decode b_HT_loadImages 125 = .ok (.goto (-49), 3) := by decide +kernel
theorem D_HT_loadImages_128 : decode b_HT_loadImages 128 = .ok (.iinc 4 1, 3) := by decide +kernel
theorem D_HT_loadImages_131 : decode b_HT_loadImages 131 = .ok (.goto (-128), 3) := by decide +kernel
theorem D_HT_loadImages_134 : decode b_HT_loadImages 134 = .ok (.return_, 1) := by decide +kernel
abbrev rm_HT_loadImages : Room := { frames := 2, cells := 0, slots := 0, locals := 60 }
def B_HT_loadImages_76 (k3 : Nat → Nat → Int32 → Int32 → Int32 → Mem → Prop) (k76 : Nat → Nat → Int32 → Int32 → Int32 → Int32 → Int32 → Mem → Prop) (post : Mem → Prop) (a0 : Nat) (a1 : Nat) (x2 : Int32) (x3 : Int32) (x4 : Int32) (x5 : Int32) (x6 : Int32) (M : Mem) : Prop := (isK M a0 6 ∧ ∃ q79, gR M a0 0 = some q79 ∧ isK M q79 4 ∧ T_Pr_amount q79 (x2 + 1) M (fun r85 M85 => (r85 ≤ x6 → (k3 a0 a1 x2 x3 (x4 + 1) M85)) ∧ (¬ r85 ≤ x6 → (isK M85 a0 6 ∧ ∃ q92, gR M85 a0 0 = some q92 ∧ isK M85 q92 4 ∧ T_Pr_at q92 (x2 + 1) x6 M85 (fun r100 M100 => isK M100 a0 6 ∧ ∃ q106, gR M100 a0 4 = some q106 ∧ isA M100 q106 11 r100 ∧ ∃ q111, gR M100 q106 (Int32.toNatClampNeg r100) = some q111 ∧ isK M100 a0 6 ∧ ∃ q115, gR M100 a0 3 = some q115 ∧ isA M100 q115 8 r100 ∧ isA M100 q111 8 x5 ∧ k76 a0 a1 x2 x3 x4 x5 (x6 + 1) (sI M100 q111 (Int32.toNatClampNeg x5) (gI M100 q115 (Int32.toNatClampNeg r100))))))))
set_option maxRecDepth 20000 in
theorem Z_HT_loadImages_76 {x : Ctx} {post : Mem → Prop} (C : Ok x b_HT_loadImages 8 "HeapTower") (hR : xR x = rm_HT_loadImages) (Rt : RetV x post 0 0) {k3 : Nat → Nat → Int32 → Int32 → Int32 → Mem → Prop} (K3 : ∀ (a0 : Nat) (a1 : Nat) (x2 : Int32) (x3 : Int32) (x4 : Int32) (M : Mem), k3 a0 a1 x2 x3 x4 M → J x 8 3 [(0, .ref (xd x a0)), (1, .ref (xd x a1)), (2, .int x2), (3, .int x3), (4, .int x4)] [] 0 0 M) {k76 : Nat → Nat → Int32 → Int32 → Int32 → Int32 → Int32 → Mem → Prop} (K76 : ∀ (a0 : Nat) (a1 : Nat) (x2 : Int32) (x3 : Int32) (x4 : Int32) (x5 : Int32) (x6 : Int32) (M : Mem), k76 a0 a1 x2 x3 x4 x5 x6 M → J x 8 76 [(0, .ref (xd x a0)), (1, .ref (xd x a1)), (2, .int x2), (3, .int x3), (4, .int x4), (5, .int x5), (6, .int x6)] [] 0 0 M) (a0 : Nat) (a1 : Nat) (x2 : Int32) (x3 : Int32) (x4 : Int32) (x5 : Int32) (x6 : Int32) (M : Mem) (h : B_HT_loadImages_76 k3 k76 post a0 a1 x2 x3 x4 x5 x6 M) : J x 8 76 [(0, .ref (xd x a0)), (1, .ref (xd x a1)), (2, .int x2), (3, .int x3), (4, .int x4), (5, .int x5), (6, .int x6)] [] 0 0 M := by
  unfold B_HT_loadImages_76 at h
  refine J_iload C 6 D_HT_loadImages_76 rfl ?_
  refine J_aload_n C 0 D_HT_loadImages_78 rfl rfl ?_
  obtain ⟨c_79, q79, e_79, h⟩ := h
  refine J_getR C fl_HT_10 D_HT_loadImages_79 c_79 e_79 ?_
  refine J_iload_n C 2 D_HT_loadImages_82 rfl rfl ?_
  refine J_iconst (v := 1) C D_HT_loadImages_83 rfl ?_
  refine J_iadd C D_HT_loadImages_84 ?_
  obtain ⟨c_85, h⟩ := h
  refine J_callVi C ml_HT_213 (S_Pr_amount _ _ _ _ h) (by rw [hR]; decide) rfl c_85 rfl (Nat.le_of_ble_eq_true rfl) D_HT_loadImages_85 (fun r85 M85 h => ?_)
  refine J_icmp_ge (tgt := 128) C D_HT_loadImages_88 (by decide) (fun c_88 => ?_) (fun c_88 => ?_)
  · have h := h.1 c_88
    refine J_iinc (v := x4 + 1) (lv' := [(4, .int (x4 + 1)), (0, .ref (xd x a0)), (1, .ref (xd x a1)), (2, .int x2), (3, .int x3), (5, .int x5), (6, .int x6)]) C 4 4 D_HT_loadImages_128 rfl rfl (by decide) rfl ?_
    refine J_goto (tgt := 3) C D_HT_loadImages_131 (by decide) ?_
    exact J_sub [1, 2, 3, 4, 0] rfl (K3 _ _ _ _ _ _ h)
  · have h := h.2 c_88
    refine J_aload_n C 0 D_HT_loadImages_91 rfl rfl ?_
    obtain ⟨c_92, q92, e_92, h⟩ := h
    refine J_getR C fl_HT_10 D_HT_loadImages_92 c_92 e_92 ?_
    refine J_iload_n C 2 D_HT_loadImages_95 rfl rfl ?_
    refine J_iconst (v := 1) C D_HT_loadImages_96 rfl ?_
    refine J_iadd C D_HT_loadImages_97 ?_
    refine J_iload C 6 D_HT_loadImages_98 rfl ?_
    obtain ⟨c_100, h⟩ := h
    refine J_callVi C ml_HT_270 (S_Pr_at _ _ _ _ _ h) (by rw [hR]; decide) rfl c_100 rfl (Nat.le_of_ble_eq_true rfl) D_HT_loadImages_100 (fun r100 M100 h => ?_)
    refine J_istore (lv' := [(7, .int r100), (0, .ref (xd x a0)), (1, .ref (xd x a1)), (2, .int x2), (3, .int x3), (4, .int x4), (5, .int x5), (6, .int x6)]) C 7 D_HT_loadImages_103 (by decide) rfl ?_
    refine J_aload_n C 0 D_HT_loadImages_105 rfl rfl ?_
    obtain ⟨c_106, q106, e_106, h⟩ := h
    refine J_getR C fl_HT_38 D_HT_loadImages_106 c_106 e_106 ?_
    refine J_iload C 7 D_HT_loadImages_109 rfl ?_
    obtain ⟨c_111, q111, e_111, h⟩ := h
    refine J_aaldI C D_HT_loadImages_111 c_111 e_111 ?_
    refine J_iload C 5 D_HT_loadImages_112 rfl ?_
    refine J_aload_n C 0 D_HT_loadImages_114 rfl rfl ?_
    obtain ⟨c_115, q115, e_115, h⟩ := h
    refine J_getR C fl_HT_32 D_HT_loadImages_115 c_115 e_115 ?_
    refine J_iload C 7 D_HT_loadImages_118 rfl ?_
    obtain ⟨c_120, h⟩ := h
    refine J_iald C D_HT_loadImages_120 c_120 ?_
    obtain ⟨c_121, h⟩ := h
    refine J_iast C D_HT_loadImages_121 c_121 ?_
    refine J_iinc (v := x6 + 1) (lv' := [(6, .int (x6 + 1)), (7, .int r100), (0, .ref (xd x a0)), (1, .ref (xd x a1)), (2, .int x2), (3, .int x3), (4, .int x4), (5, .int x5)]) C 6 7 D_HT_loadImages_122 rfl rfl (by decide) rfl ?_
    refine J_goto (tgt := 76) C D_HT_loadImages_125 (by decide) ?_
    exact J_sub [2, 3, 4, 5, 6, 7, 0] rfl (K76 _ _ _ _ _ _ _ _ h)
def L_HT_loadImages_76 (k3 : Nat → Nat → Int32 → Int32 → Int32 → Mem → Prop) (post : Mem → Prop) : Nat → Nat → Nat → Int32 → Int32 → Int32 → Int32 → Int32 → Mem → Prop
  | 0, _, _, _, _, _, _, _, _ => False
  | n + 1, a0, a1, x2, x3, x4, x5, x6, M => B_HT_loadImages_76 k3 (L_HT_loadImages_76 k3 post n) post a0 a1 x2 x3 x4 x5 x6 M
theorem Y_HT_loadImages_76 {x : Ctx} {post : Mem → Prop} (C : Ok x b_HT_loadImages 8 "HeapTower") (hR : xR x = rm_HT_loadImages) (Rt : RetV x post 0 0) {k3 : Nat → Nat → Int32 → Int32 → Int32 → Mem → Prop} (K3 : ∀ (a0 : Nat) (a1 : Nat) (x2 : Int32) (x3 : Int32) (x4 : Int32) (M : Mem), k3 a0 a1 x2 x3 x4 M → J x 8 3 [(0, .ref (xd x a0)), (1, .ref (xd x a1)), (2, .int x2), (3, .int x3), (4, .int x4)] [] 0 0 M) : ∀ (n : Nat) (a0 : Nat) (a1 : Nat) (x2 : Int32) (x3 : Int32) (x4 : Int32) (x5 : Int32) (x6 : Int32) (M : Mem), L_HT_loadImages_76 k3 post n a0 a1 x2 x3 x4 x5 x6 M → J x 8 76 [(0, .ref (xd x a0)), (1, .ref (xd x a1)), (2, .int x2), (3, .int x3), (4, .int x4), (5, .int x5), (6, .int x6)] [] 0 0 M := by
  intro n
  induction n with
  | zero => intro a0 a1 x2 x3 x4 x5 x6 M h; exact h.elim
  | succ n ih => intro a0 a1 x2 x3 x4 x5 x6 M h; exact Z_HT_loadImages_76 C hR Rt K3 ih _ _ _ _ _ _ _ _ h
def B_HT_loadImages_73 (k3 : Nat → Nat → Int32 → Int32 → Int32 → Mem → Prop) (post : Mem → Prop) (a0 : Nat) (a1 : Nat) (x2 : Int32) (x3 : Int32) (x4 : Int32) (x5 : Int32) (M : Mem) : Prop := (∃ n, L_HT_loadImages_76 k3 post n a0 a1 x2 x3 x4 x5 0 M)
set_option maxRecDepth 20000 in
theorem Z_HT_loadImages_73 {x : Ctx} {post : Mem → Prop} (C : Ok x b_HT_loadImages 8 "HeapTower") (hR : xR x = rm_HT_loadImages) (Rt : RetV x post 0 0) {k3 : Nat → Nat → Int32 → Int32 → Int32 → Mem → Prop} (K3 : ∀ (a0 : Nat) (a1 : Nat) (x2 : Int32) (x3 : Int32) (x4 : Int32) (M : Mem), k3 a0 a1 x2 x3 x4 M → J x 8 3 [(0, .ref (xd x a0)), (1, .ref (xd x a1)), (2, .int x2), (3, .int x3), (4, .int x4)] [] 0 0 M) (a0 : Nat) (a1 : Nat) (x2 : Int32) (x3 : Int32) (x4 : Int32) (x5 : Int32) (M : Mem) (h : B_HT_loadImages_73 k3 post a0 a1 x2 x3 x4 x5 M) : J x 8 73 [(0, .ref (xd x a0)), (1, .ref (xd x a1)), (2, .int x2), (3, .int x3), (4, .int x4), (5, .int x5)] [] 0 0 M := by
  unfold B_HT_loadImages_73 at h
  refine J_iconst (v := 0) C D_HT_loadImages_73 rfl ?_
  refine J_istore (lv' := [(6, .int 0), (0, .ref (xd x a0)), (1, .ref (xd x a1)), (2, .int x2), (3, .int x3), (4, .int x4), (5, .int x5)]) C 6 D_HT_loadImages_74 (by decide) rfl ?_
  obtain ⟨n, h⟩ := h
  exact J_sub [1, 2, 3, 4, 5, 6, 0] rfl (Y_HT_loadImages_76 C hR Rt K3 n _ _ _ _ _ _ _ _ h)
def B_HT_loadImages_3 (k3 : Nat → Nat → Int32 → Int32 → Int32 → Mem → Prop) (post : Mem → Prop) (a0 : Nat) (a1 : Nat) (x2 : Int32) (x3 : Int32) (x4 : Int32) (M : Mem) : Prop := (isK M a0 6 ∧ ∃ q6, gR M a0 0 = some q6 ∧ isK M q6 4 ∧ T_Pr_amount q6 x2 M (fun r10 M10 => (r10 ≤ x4 → (post M10)) ∧ (¬ r10 ≤ x4 → (isK M10 a0 6 ∧ ∃ q17, gR M10 a0 0 = some q17 ∧ isK M10 q17 4 ∧ T_Pr_at q17 x2 x4 M10 (fun r23 M23 => isK M23 a0 6 ∧ ∃ q29, gR M23 a0 3 = some q29 ∧ T_Ar_fill2 q29 0 M23 (fun M33 => isK M33 a1 0 ∧ T_Ba_isStandard a1 x2 r23 M33 (fun r40 M40 => (r40 = 0 → (B_HT_loadImages_73 k3 post a0 a1 x2 x3 x4 r23 M40)) ∧ (¬ r40 = 0 → (isK M40 a0 6 ∧ ∃ q47, gR M40 a0 3 = some q47 ∧ isK M40 a0 6 ∧ ∃ q51, gR M40 a0 0 = some q51 ∧ isK M40 q51 4 ∧ T_Pr_raised q51 r23 x3 M40 (fun r57 M57 => isA M57 q47 8 r57 ∧ isK (sI M57 q47 (Int32.toNatClampNeg r57) 1) a0 6 ∧ ∃ q67, gR (sI M57 q47 (Int32.toNatClampNeg r57) 1) a0 3 = some q67 ∧ isK (sI M57 q47 (Int32.toNatClampNeg r57) 1) a1 0 ∧ T_Ba_reduce a1 (x2 + 1) q67 (sI M57 q47 (Int32.toNatClampNeg r57) 1) (fun M70 => B_HT_loadImages_73 k3 post a0 a1 x2 x3 x4 r23 M70)))))))))))
set_option maxRecDepth 20000 in
theorem Z_HT_loadImages_3 {x : Ctx} {post : Mem → Prop} (C : Ok x b_HT_loadImages 8 "HeapTower") (hR : xR x = rm_HT_loadImages) (Rt : RetV x post 0 0) {k3 : Nat → Nat → Int32 → Int32 → Int32 → Mem → Prop} (K3 : ∀ (a0 : Nat) (a1 : Nat) (x2 : Int32) (x3 : Int32) (x4 : Int32) (M : Mem), k3 a0 a1 x2 x3 x4 M → J x 8 3 [(0, .ref (xd x a0)), (1, .ref (xd x a1)), (2, .int x2), (3, .int x3), (4, .int x4)] [] 0 0 M) (a0 : Nat) (a1 : Nat) (x2 : Int32) (x3 : Int32) (x4 : Int32) (M : Mem) (h : B_HT_loadImages_3 k3 post a0 a1 x2 x3 x4 M) : J x 8 3 [(0, .ref (xd x a0)), (1, .ref (xd x a1)), (2, .int x2), (3, .int x3), (4, .int x4)] [] 0 0 M := by
  unfold B_HT_loadImages_3 at h
  refine J_iload C 4 D_HT_loadImages_3 rfl ?_
  refine J_aload_n C 0 D_HT_loadImages_5 rfl rfl ?_
  obtain ⟨c_6, q6, e_6, h⟩ := h
  refine J_getR C fl_HT_10 D_HT_loadImages_6 c_6 e_6 ?_
  refine J_iload_n C 2 D_HT_loadImages_9 rfl rfl ?_
  obtain ⟨c_10, h⟩ := h
  refine J_callVi C ml_HT_213 (S_Pr_amount _ _ _ _ h) (by rw [hR]; decide) rfl c_10 rfl (Nat.le_of_ble_eq_true rfl) D_HT_loadImages_10 (fun r10 M10 h => ?_)
  refine J_icmp_ge (tgt := 134) C D_HT_loadImages_13 (by decide) (fun c_13 => ?_) (fun c_13 => ?_)
  · have h := h.1 c_13
    exact J_vret C Rt D_HT_loadImages_134 h
  · have h := h.2 c_13
    refine J_aload_n C 0 D_HT_loadImages_16 rfl rfl ?_
    obtain ⟨c_17, q17, e_17, h⟩ := h
    refine J_getR C fl_HT_10 D_HT_loadImages_17 c_17 e_17 ?_
    refine J_iload_n C 2 D_HT_loadImages_20 rfl rfl ?_
    refine J_iload C 4 D_HT_loadImages_21 rfl ?_
    obtain ⟨c_23, h⟩ := h
    refine J_callVi C ml_HT_270 (S_Pr_at _ _ _ _ _ h) (by rw [hR]; decide) rfl c_23 rfl (Nat.le_of_ble_eq_true rfl) D_HT_loadImages_23 (fun r23 M23 h => ?_)
    refine J_istore (lv' := [(5, .int r23), (0, .ref (xd x a0)), (1, .ref (xd x a1)), (2, .int x2), (3, .int x3), (4, .int x4)]) C 5 D_HT_loadImages_26 (by decide) rfl ?_
    refine J_aload_n C 0 D_HT_loadImages_28 rfl rfl ?_
    obtain ⟨c_29, q29, e_29, h⟩ := h
    refine J_getR C fl_HT_32 D_HT_loadImages_29 c_29 e_29 ?_
    refine J_iconst (v := 0) C D_HT_loadImages_32 rfl ?_
    refine J_callSv C ml_HT_306 (S_Ar_fill2 _ _ _ _ h) (by rw [hR]; decide) rfl rfl (Nat.le_of_ble_eq_true rfl) D_HT_loadImages_33 (fun M33 h => ?_)
    refine J_aload_n C 1 D_HT_loadImages_36 rfl rfl ?_
    refine J_iload_n C 2 D_HT_loadImages_37 rfl rfl ?_
    refine J_iload C 5 D_HT_loadImages_38 rfl ?_
    obtain ⟨c_40, h⟩ := h
    refine J_callVi C ml_HT_328 (S_Ba_isStandard _ _ _ _ _ h) (by rw [hR]; decide) rfl c_40 rfl (Nat.le_of_ble_eq_true rfl) D_HT_loadImages_40 (fun r40 M40 h => ?_)
    refine J_if_eq (tgt := 73) C D_HT_loadImages_43 (by decide) (fun c_43 => ?_) (fun c_43 => ?_)
    · have h := h.1 c_43
      exact J_sub [1, 2, 3, 4, 5, 0] rfl (Z_HT_loadImages_73 C hR Rt K3 _ _ _ _ _ _ _ h)
    · have h := h.2 c_43
      refine J_aload_n C 0 D_HT_loadImages_46 rfl rfl ?_
      obtain ⟨c_47, q47, e_47, h⟩ := h
      refine J_getR C fl_HT_32 D_HT_loadImages_47 c_47 e_47 ?_
      refine J_aload_n C 0 D_HT_loadImages_50 rfl rfl ?_
      obtain ⟨c_51, q51, e_51, h⟩ := h
      refine J_getR C fl_HT_10 D_HT_loadImages_51 c_51 e_51 ?_
      refine J_iload C 5 D_HT_loadImages_54 rfl ?_
      refine J_iload_n C 3 D_HT_loadImages_56 rfl rfl ?_
      obtain ⟨c_57, h⟩ := h
      refine J_callVi C ml_HT_332 (S_Pr_raised _ _ _ _ _ h) (by rw [hR]; decide) rfl c_57 rfl (Nat.le_of_ble_eq_true rfl) D_HT_loadImages_57 (fun r57 M57 h => ?_)
      refine J_iconst (v := 1) C D_HT_loadImages_60 rfl ?_
      obtain ⟨c_61, h⟩ := h
      refine J_iast C D_HT_loadImages_61 c_61 ?_
      refine J_aload_n C 1 D_HT_loadImages_62 rfl rfl ?_
      refine J_iload_n C 2 D_HT_loadImages_63 rfl rfl ?_
      refine J_iconst (v := 1) C D_HT_loadImages_64 rfl ?_
      refine J_iadd C D_HT_loadImages_65 ?_
      refine J_aload_n C 0 D_HT_loadImages_66 rfl rfl ?_
      obtain ⟨c_67, q67, e_67, h⟩ := h
      refine J_getR C fl_HT_32 D_HT_loadImages_67 c_67 e_67 ?_
      obtain ⟨c_70, h⟩ := h
      refine J_callVv C ml_HT_267 (S_Ba_reduce _ _ _ _ _ h) (by rw [hR]; decide) rfl c_70 rfl (Nat.le_of_ble_eq_true rfl) D_HT_loadImages_70 (fun M70 h => ?_)
      exact J_sub [1, 2, 3, 4, 5, 0] rfl (Z_HT_loadImages_73 C hR Rt K3 _ _ _ _ _ _ _ h)
def L_HT_loadImages_3 (post : Mem → Prop) : Nat → Nat → Nat → Int32 → Int32 → Int32 → Mem → Prop
  | 0, _, _, _, _, _, _ => False
  | n + 1, a0, a1, x2, x3, x4, M => B_HT_loadImages_3 (L_HT_loadImages_3 post n) post a0 a1 x2 x3 x4 M
theorem Y_HT_loadImages_3 {x : Ctx} {post : Mem → Prop} (C : Ok x b_HT_loadImages 8 "HeapTower") (hR : xR x = rm_HT_loadImages) (Rt : RetV x post 0 0) : ∀ (n : Nat) (a0 : Nat) (a1 : Nat) (x2 : Int32) (x3 : Int32) (x4 : Int32) (M : Mem), L_HT_loadImages_3 post n a0 a1 x2 x3 x4 M → J x 8 3 [(0, .ref (xd x a0)), (1, .ref (xd x a1)), (2, .int x2), (3, .int x3), (4, .int x4)] [] 0 0 M := by
  intro n
  induction n with
  | zero => intro a0 a1 x2 x3 x4 M h; exact h.elim
  | succ n ih => intro a0 a1 x2 x3 x4 M h; exact Z_HT_loadImages_3 C hR Rt ih _ _ _ _ _ _ h
def T_HT_loadImages (a0 : Nat) (a1 : Nat) (x2 : Int32) (x3 : Int32) (M : Mem) (post : Mem → Prop) : Prop := (∃ n, L_HT_loadImages_3 post n a0 a1 x2 x3 0 M)
set_option maxRecDepth 20000 in
theorem S_HT_loadImages {l : Launch} {D : va_G} {B t g : Nat} {d : Nat → Nat} {ac : Nat → ClassId}  (a0 : Nat) (a1 : Nat) (x2 : Int32) (x3 : Int32) (M : Mem) (post : Mem → Prop) (h : T_HT_loadImages a0 a1 x2 x3 M post) : Met l y_HT_loadImages w_HT_loadImages rm_HT_loadImages (va_Pc [.ref (d a0), .ref (d a1), .int x2, .int x3] (PRE D B d g t ac M)) (QV D B d g ac post) 0 0 (AB B) := by
  refine met_v (by decide +kernel) (Nat.le_of_ble_eq_true rfl) (fun x h1 hR h3 h4 h5 h6 h7 h8 C Rt Nm => ?_)
  subst h3 h4 h5 h6 h7 h8
  unfold T_HT_loadImages at h
  show J x 8 0 [(0, .ref (xd x a0)), (1, .ref (xd x a1)), (2, .int x2), (3, .int x3)] [] 0 0 M
  refine J_iconst (v := 0) C D_HT_loadImages_0 rfl ?_
  refine J_istore (lv' := [(4, .int 0), (0, .ref (xd x a0)), (1, .ref (xd x a1)), (2, .int x2), (3, .int x3)]) C 4 D_HT_loadImages_1 (by decide) rfl ?_
  obtain ⟨n, h⟩ := h
  exact J_sub [1, 2, 3, 4, 0] rfl (Y_HT_loadImages_3 C hR Rt  n _ _ _ _ _ _ h)
theorem D_HT_freeAtThird_0 : decode b_HT_freeAtThird 0 = .ok (.iload_n 2, 1) := by decide +kernel
theorem D_HT_freeAtThird_1 : decode b_HT_freeAtThird 1 = .ok (.iconst 3, 1) := by decide +kernel
theorem D_HT_freeAtThird_2 : decode b_HT_freeAtThird 2 = .ok (.isub, 1) := by decide +kernel
theorem D_HT_freeAtThird_3 : decode b_HT_freeAtThird 3 = .ok (.istore_n 3, 1) := by decide +kernel
theorem D_HT_freeAtThird_4 : decode b_HT_freeAtThird 4 = .ok (.iload_n 3, 1) := by decide +kernel
theorem D_HT_freeAtThird_5 : decode b_HT_freeAtThird 5 = .ok (.ifCond .ge 5, 3) := by decide +kernel
theorem D_HT_freeAtThird_8 : decode b_HT_freeAtThird 8 = .ok (.iconst 0, 1) := by decide +kernel
theorem D_HT_freeAtThird_9 : decode b_HT_freeAtThird 9 = .ok (.ireturn, 1) := by decide +kernel
theorem D_HT_freeAtThird_10 : decode b_HT_freeAtThird 10 = .ok (.aload_n 1, 1) := by decide +kernel
theorem D_HT_freeAtThird_11 : decode b_HT_freeAtThird 11 = .ok (.iload_n 3, 1) := by decide +kernel
theorem D_HT_freeAtThird_12 : decode b_HT_freeAtThird 12 = .ok (.invokevirtual 197, 3) := by decide +kernel
theorem D_HT_freeAtThird_15 : decode b_HT_freeAtThird 15 = .ok (.istore 4, 2) := by decide +kernel
theorem D_HT_freeAtThird_17 : decode b_HT_freeAtThird 17 = .ok (.aload_n 0, 1) := by decide +kernel
theorem D_HT_freeAtThird_18 : decode b_HT_freeAtThird 18 = .ok (.getfield 28, 3) := by decide +kernel
theorem D_HT_freeAtThird_21 : decode b_HT_freeAtThird 21 = .ok (.iload_n 3, 1) := by decide +kernel
theorem D_HT_freeAtThird_22 : decode b_HT_freeAtThird 22 = .ok (.invokevirtual 316, 3) := by decide +kernel
theorem D_HT_freeAtThird_25 : decode b_HT_freeAtThird 25 = .ok (.iconst 0, 1) := by decide +kernel
theorem D_HT_freeAtThird_26 : decode b_HT_freeAtThird 26 = .ok (.istore 5, 2) := by decide +kernel
theorem D_HT_freeAtThird_28 : decode b_HT_freeAtThird 28 = .ok (.iload 5, 2) := by decide +kernel
theorem D_HT_freeAtThird_30 : decode b_HT_freeAtThird 30 = .ok (.iconst 3, 1) := by decide +kernel
theorem D_HT_freeAtThird_31 : decode b_HT_freeAtThird 31 = .ok (.if_icmp .ge 90, 3) := by decide +kernel
theorem D_HT_freeAtThird_34 : decode b_HT_freeAtThird 34 = .ok (.aload_n 0, 1) := by decide +kernel
theorem D_HT_freeAtThird_35 : decode b_HT_freeAtThird 35 = .ok (.getfield 28, 3) := by decide +kernel
theorem D_HT_freeAtThird_38 : decode b_HT_freeAtThird 38 = .ok (.invokevirtual 319, 3) := by decide +kernel
theorem D_HT_freeAtThird_41 : decode b_HT_freeAtThird 41 = .ok (.iload 4, 2) := by decide +kernel
theorem D_HT_freeAtThird_43 : decode b_HT_freeAtThird 43 = .ok (.if_icmp .ge 78, 3) := by decide +kernel
theorem D_HT_freeAtThird_46 : decode b_HT_freeAtThird 46 = .ok (.aload_n 0, 1) := by decide +kernel
theorem D_HT_freeAtThird_47 : decode b_HT_freeAtThird 47 = .ok (.aload_n 1, 1) := by decide +kernel
theorem D_HT_freeAtThird_48 : decode b_HT_freeAtThird 48 = .ok (.iload_n 3, 1) := by decide +kernel
theorem D_HT_freeAtThird_49 : decode b_HT_freeAtThird 49 = .ok (.iload 5, 2) := by decide +kernel
theorem D_HT_freeAtThird_51 : decode b_HT_freeAtThird 51 = .ok (.invokevirtual 320, 3) := by decide +kernel
theorem D_HT_freeAtThird_54 : decode b_HT_freeAtThird 54 = .ok (.iconst 0, 1) := by decide +kernel
theorem D_HT_freeAtThird_55 : decode b_HT_freeAtThird 55 = .ok (.istore 6, 2) := by decide +kernel
theorem D_HT_freeAtThird_57 : decode b_HT_freeAtThird 57 = .ok (.iload 6, 2) := by decide +kernel
theorem D_HT_freeAtThird_59 : decode b_HT_freeAtThird 59 = .ok (.aload_n 0, 1) := by decide +kernel
theorem D_HT_freeAtThird_60 : decode b_HT_freeAtThird 60 = .ok (.getfield 10, 3) := by decide +kernel
theorem D_HT_freeAtThird_63 : decode b_HT_freeAtThird 63 = .ok (.iload_n 3, 1) := by decide +kernel
theorem D_HT_freeAtThird_64 : decode b_HT_freeAtThird 64 = .ok (.iconst 1, 1) := by decide +kernel
theorem D_HT_freeAtThird_65 : decode b_HT_freeAtThird 65 = .ok (.iadd, 1) := by decide +kernel
theorem D_HT_freeAtThird_66 : decode b_HT_freeAtThird 66 = .ok (.invokevirtual 213, 3) := by decide +kernel
theorem D_HT_freeAtThird_69 : decode b_HT_freeAtThird 69 = .ok (.if_icmp .ge 46, 3) := by decide +kernel
theorem D_HT_freeAtThird_72 : decode b_HT_freeAtThird 72 = .ok (.aload_n 0, 1) := by decide +kernel
theorem D_HT_freeAtThird_73 : decode b_HT_freeAtThird 73 = .ok (.getfield 28, 3) := by decide +kernel
theorem D_HT_freeAtThird_76 : decode b_HT_freeAtThird 76 = .ok (.invokevirtual 319, 3) := by decide +kernel
theorem D_HT_freeAtThird_79 : decode b_HT_freeAtThird 79 = .ok (.iload 4, 2) := by decide +kernel
theorem D_HT_freeAtThird_81 : decode b_HT_freeAtThird 81 = .ok (.if_icmp .ge 34, 3) := by decide +kernel
theorem D_HT_freeAtThird_84 : decode b_HT_freeAtThird 84 = .ok (.aload_n 0, 1) := by decide +kernel
theorem D_HT_freeAtThird_85 : decode b_HT_freeAtThird 85 = .ok (.getfield 28, 3) := by decide +kernel
theorem D_HT_freeAtThird_88 : decode b_HT_freeAtThird 88 = .ok (.aload_n 0, 1) := by decide +kernel
theorem D_HT_freeAtThird_89 : decode b_HT_freeAtThird 89 = .ok (.getfield 38, 3) := by decide +kernel
theorem D_HT_freeAtThird_92 : decode b_HT_freeAtThird 92 = .ok (.aload_n 0, 1) := by decide +kernel
theorem D_HT_freeAtThird_93 : decode b_HT_freeAtThird 93 = .ok (.getfield 10, 3) := by decide +kernel
theorem D_HT_freeAtThird_96 : decode b_HT_freeAtThird 96 = .ok (.iload_n 3, 1) := by decide +kernel
theorem D_HT_freeAtThird_97 : decode b_HT_freeAtThird 97 = .ok (.iconst 1, 1) := by decide +kernel
theorem D_HT_freeAtThird_98 : decode b_HT_freeAtThird 98 = .ok (.iadd, 1) := by decide +kernel
theorem D_HT_freeAtThird_99 : decode b_HT_freeAtThird 99 = .ok (.iload 6, 2) := by decide +kernel
theorem D_HT_freeAtThird_101 : decode b_HT_freeAtThird 101 = .ok (.invokevirtual 270, 3) := by decide +kernel
theorem D_HT_freeAtThird_104 : decode b_HT_freeAtThird 104 = .ok (.aaload, 1) := by decide +kernel
theorem D_HT_freeAtThird_105 : decode b_HT_freeAtThird 105 = .ok (.invokevirtual 324, 3) := by decide +kernel
theorem D_HT_freeAtThird_108 : decode b_HT_freeAtThird 108 = .ok (.pop, 1) := by decide +kernel
theorem D_HT_freeAtThird_109 : decode b_HT_freeAtThird 109 = .ok (.iinc 6 1, 3) := by decide +kernel
theorem D_HT_freeAtThird_112 : decode b_HT_freeAtThird 112 = .ok (.goto (-55), 3) := by decide +kernel
theorem D_HT_freeAtThird_115 : decode b_HT_freeAtThird 115 = .ok (.iinc 5 1, 3) := by decide +kernel
theorem D_HT_freeAtThird_118 : decode b_HT_freeAtThird 118 = .ok (.goto (-90), 3) := by decide +kernel
theorem D_HT_freeAtThird_121 : decode b_HT_freeAtThird 121 = .ok (.iload 4, 2) := by decide +kernel
theorem D_HT_freeAtThird_123 : decode b_HT_freeAtThird 123 = .ok (.aload_n 0, 1) := by decide +kernel
theorem D_HT_freeAtThird_124 : decode b_HT_freeAtThird 124 = .ok (.getfield 28, 3) := by decide +kernel
theorem D_HT_freeAtThird_127 : decode b_HT_freeAtThird 127 = .ok (.invokevirtual 319, 3) := by decide +kernel
theorem D_HT_freeAtThird_130 : decode b_HT_freeAtThird 130 = .ok (.isub, 1) := by decide +kernel
theorem D_HT_freeAtThird_131 : decode b_HT_freeAtThird 131 = .ok (.ireturn, 1) := by decide +kernel
abbrev rm_HT_freeAtThird : Room := { frames := 3, cells := 0, slots := 0, locals := 87 }
def B_HT_freeAtThird_121 (post : Int32 → Mem → Prop) (a0 : Nat) (x4 : Int32) (M : Mem) : Prop := (isK M a0 6 ∧ ∃ q124, gR M a0 2 = some q124 ∧ isK M q124 5 ∧ T_Ro_size q124 M (fun r127 M127 => post (x4 - r127) M127))
set_option maxRecDepth 20000 in
theorem Z_HT_freeAtThird_121 {x : Ctx} {post : Int32 → Mem → Prop} (C : Ok x b_HT_freeAtThird 7 "HeapTower") (hR : xR x = rm_HT_freeAtThird) (Rt : RetI x .int post 0 0) (a0 : Nat) (x4 : Int32) (M : Mem) (h : B_HT_freeAtThird_121 post a0 x4 M) : J x 7 121 [(0, .ref (xd x a0)), (4, .int x4)] [] 0 0 M := by
  unfold B_HT_freeAtThird_121 at h
  refine J_iload C 4 D_HT_freeAtThird_121 rfl ?_
  refine J_aload_n C 0 D_HT_freeAtThird_123 rfl rfl ?_
  obtain ⟨c_124, q124, e_124, h⟩ := h
  refine J_getR C fl_HT_28 D_HT_freeAtThird_124 c_124 e_124 ?_
  obtain ⟨c_127, h⟩ := h
  refine J_callVi C ml_HT_319 (S_Ro_size _ _ _ h) (by rw [hR]; decide) rfl c_127 rfl (Nat.le_of_ble_eq_true rfl) D_HT_freeAtThird_127 (fun r127 M127 h => ?_)
  refine J_isub C D_HT_freeAtThird_130 ?_
  exact J_iret C Rt D_HT_freeAtThird_131 rfl h
def B_HT_freeAtThird_115 (k28 : Nat → Nat → Int32 → Int32 → Int32 → Mem → Prop) (post : Int32 → Mem → Prop) (a0 : Nat) (a1 : Nat) (x3 : Int32) (x4 : Int32) (x5 : Int32) (M : Mem) : Prop := (k28 a0 a1 x3 x4 (x5 + 1) M)
set_option maxRecDepth 20000 in
theorem Z_HT_freeAtThird_115 {x : Ctx} {post : Int32 → Mem → Prop} (C : Ok x b_HT_freeAtThird 7 "HeapTower") (hR : xR x = rm_HT_freeAtThird) (Rt : RetI x .int post 0 0) {k28 : Nat → Nat → Int32 → Int32 → Int32 → Mem → Prop} (K28 : ∀ (a0 : Nat) (a1 : Nat) (x3 : Int32) (x4 : Int32) (x5 : Int32) (M : Mem), k28 a0 a1 x3 x4 x5 M → J x 7 28 [(0, .ref (xd x a0)), (1, .ref (xd x a1)), (3, .int x3), (4, .int x4), (5, .int x5)] [] 0 0 M) (a0 : Nat) (a1 : Nat) (x3 : Int32) (x4 : Int32) (x5 : Int32) (M : Mem) (h : B_HT_freeAtThird_115 k28 post a0 a1 x3 x4 x5 M) : J x 7 115 [(0, .ref (xd x a0)), (1, .ref (xd x a1)), (3, .int x3), (4, .int x4), (5, .int x5)] [] 0 0 M := by
  unfold B_HT_freeAtThird_115 at h
  refine J_iinc (v := x5 + 1) (lv' := [(5, .int (x5 + 1)), (0, .ref (xd x a0)), (1, .ref (xd x a1)), (3, .int x3), (4, .int x4)]) C 5 4 D_HT_freeAtThird_115 rfl rfl (by decide) rfl ?_
  refine J_goto (tgt := 28) C D_HT_freeAtThird_118 (by decide) ?_
  exact J_sub [1, 2, 3, 4, 0] rfl (K28 _ _ _ _ _ _ h)
def B_HT_freeAtThird_57 (k28 : Nat → Nat → Int32 → Int32 → Int32 → Mem → Prop) (k57 : Nat → Nat → Int32 → Int32 → Int32 → Int32 → Mem → Prop) (post : Int32 → Mem → Prop) (a0 : Nat) (a1 : Nat) (x3 : Int32) (x4 : Int32) (x5 : Int32) (x6 : Int32) (M : Mem) : Prop := (isK M a0 6 ∧ ∃ q60, gR M a0 0 = some q60 ∧ isK M q60 4 ∧ T_Pr_amount q60 (x3 + 1) M (fun r66 M66 => (r66 ≤ x6 → (B_HT_freeAtThird_115 k28 post a0 a1 x3 x4 x5 M66)) ∧ (¬ r66 ≤ x6 → (isK M66 a0 6 ∧ ∃ q73, gR M66 a0 2 = some q73 ∧ isK M66 q73 5 ∧ T_Ro_size q73 M66 (fun r76 M76 => (x4 ≤ r76 → (B_HT_freeAtThird_115 k28 post a0 a1 x3 x4 x5 M76)) ∧ (¬ x4 ≤ r76 → (isK M76 a0 6 ∧ ∃ q85, gR M76 a0 2 = some q85 ∧ isK M76 a0 6 ∧ ∃ q89, gR M76 a0 4 = some q89 ∧ isK M76 a0 6 ∧ ∃ q93, gR M76 a0 0 = some q93 ∧ isK M76 q93 4 ∧ T_Pr_at q93 (x3 + 1) x6 M76 (fun r101 M101 => isA M101 q89 11 r101 ∧ ∃ q104, gR M101 q89 (Int32.toNatClampNeg r101) = some q104 ∧ isK M101 q85 5 ∧ T_Ro_add q85 q104 M101 (fun r105 M105 => k57 a0 a1 x3 x4 x5 (x6 + 1) M105)))))))))
set_option maxRecDepth 20000 in
theorem Z_HT_freeAtThird_57 {x : Ctx} {post : Int32 → Mem → Prop} (C : Ok x b_HT_freeAtThird 7 "HeapTower") (hR : xR x = rm_HT_freeAtThird) (Rt : RetI x .int post 0 0) {k28 : Nat → Nat → Int32 → Int32 → Int32 → Mem → Prop} (K28 : ∀ (a0 : Nat) (a1 : Nat) (x3 : Int32) (x4 : Int32) (x5 : Int32) (M : Mem), k28 a0 a1 x3 x4 x5 M → J x 7 28 [(0, .ref (xd x a0)), (1, .ref (xd x a1)), (3, .int x3), (4, .int x4), (5, .int x5)] [] 0 0 M) {k57 : Nat → Nat → Int32 → Int32 → Int32 → Int32 → Mem → Prop} (K57 : ∀ (a0 : Nat) (a1 : Nat) (x3 : Int32) (x4 : Int32) (x5 : Int32) (x6 : Int32) (M : Mem), k57 a0 a1 x3 x4 x5 x6 M → J x 7 57 [(0, .ref (xd x a0)), (1, .ref (xd x a1)), (3, .int x3), (4, .int x4), (5, .int x5), (6, .int x6)] [] 0 0 M) (a0 : Nat) (a1 : Nat) (x3 : Int32) (x4 : Int32) (x5 : Int32) (x6 : Int32) (M : Mem) (h : B_HT_freeAtThird_57 k28 k57 post a0 a1 x3 x4 x5 x6 M) : J x 7 57 [(0, .ref (xd x a0)), (1, .ref (xd x a1)), (3, .int x3), (4, .int x4), (5, .int x5), (6, .int x6)] [] 0 0 M := by
  unfold B_HT_freeAtThird_57 at h
  refine J_iload C 6 D_HT_freeAtThird_57 rfl ?_
  refine J_aload_n C 0 D_HT_freeAtThird_59 rfl rfl ?_
  obtain ⟨c_60, q60, e_60, h⟩ := h
  refine J_getR C fl_HT_10 D_HT_freeAtThird_60 c_60 e_60 ?_
  refine J_iload_n C 3 D_HT_freeAtThird_63 rfl rfl ?_
  refine J_iconst (v := 1) C D_HT_freeAtThird_64 rfl ?_
  refine J_iadd C D_HT_freeAtThird_65 ?_
  obtain ⟨c_66, h⟩ := h
  refine J_callVi C ml_HT_213 (S_Pr_amount _ _ _ _ h) (by rw [hR]; decide) rfl c_66 rfl (Nat.le_of_ble_eq_true rfl) D_HT_freeAtThird_66 (fun r66 M66 h => ?_)
  refine J_icmp_ge (tgt := 115) C D_HT_freeAtThird_69 (by decide) (fun c_69 => ?_) (fun c_69 => ?_)
  · have h := h.1 c_69
    exact J_sub [0, 1, 2, 3, 4] rfl (Z_HT_freeAtThird_115 C hR Rt K28 _ _ _ _ _ _ h)
  · have h := h.2 c_69
    refine J_aload_n C 0 D_HT_freeAtThird_72 rfl rfl ?_
    obtain ⟨c_73, q73, e_73, h⟩ := h
    refine J_getR C fl_HT_28 D_HT_freeAtThird_73 c_73 e_73 ?_
    obtain ⟨c_76, h⟩ := h
    refine J_callVi C ml_HT_319 (S_Ro_size _ _ _ h) (by rw [hR]; decide) rfl c_76 rfl (Nat.le_of_ble_eq_true rfl) D_HT_freeAtThird_76 (fun r76 M76 h => ?_)
    refine J_iload C 4 D_HT_freeAtThird_79 rfl ?_
    refine J_icmp_ge (tgt := 115) C D_HT_freeAtThird_81 (by decide) (fun c_81 => ?_) (fun c_81 => ?_)
    · have h := h.1 c_81
      exact J_sub [0, 1, 2, 3, 4] rfl (Z_HT_freeAtThird_115 C hR Rt K28 _ _ _ _ _ _ h)
    · have h := h.2 c_81
      refine J_aload_n C 0 D_HT_freeAtThird_84 rfl rfl ?_
      obtain ⟨c_85, q85, e_85, h⟩ := h
      refine J_getR C fl_HT_28 D_HT_freeAtThird_85 c_85 e_85 ?_
      refine J_aload_n C 0 D_HT_freeAtThird_88 rfl rfl ?_
      obtain ⟨c_89, q89, e_89, h⟩ := h
      refine J_getR C fl_HT_38 D_HT_freeAtThird_89 c_89 e_89 ?_
      refine J_aload_n C 0 D_HT_freeAtThird_92 rfl rfl ?_
      obtain ⟨c_93, q93, e_93, h⟩ := h
      refine J_getR C fl_HT_10 D_HT_freeAtThird_93 c_93 e_93 ?_
      refine J_iload_n C 3 D_HT_freeAtThird_96 rfl rfl ?_
      refine J_iconst (v := 1) C D_HT_freeAtThird_97 rfl ?_
      refine J_iadd C D_HT_freeAtThird_98 ?_
      refine J_iload C 6 D_HT_freeAtThird_99 rfl ?_
      obtain ⟨c_101, h⟩ := h
      refine J_callVi C ml_HT_270 (S_Pr_at _ _ _ _ _ h) (by rw [hR]; decide) rfl c_101 rfl (Nat.le_of_ble_eq_true rfl) D_HT_freeAtThird_101 (fun r101 M101 h => ?_)
      obtain ⟨c_104, q104, e_104, h⟩ := h
      refine J_aaldI C D_HT_freeAtThird_104 c_104 e_104 ?_
      obtain ⟨c_105, h⟩ := h
      refine J_callVi C ml_HT_324 (S_Ro_add _ _ _ _ h) (by rw [hR]; decide) rfl c_105 rfl (Nat.le_of_ble_eq_true rfl) D_HT_freeAtThird_105 (fun r105 M105 h => ?_)
      refine J_pop C D_HT_freeAtThird_108 rfl ?_
      refine J_iinc (v := x6 + 1) (lv' := [(6, .int (x6 + 1)), (0, .ref (xd x a0)), (1, .ref (xd x a1)), (3, .int x3), (4, .int x4), (5, .int x5)]) C 6 5 D_HT_freeAtThird_109 rfl rfl (by decide) rfl ?_
      refine J_goto (tgt := 57) C D_HT_freeAtThird_112 (by decide) ?_
      exact J_sub [1, 2, 3, 4, 5, 0] rfl (K57 _ _ _ _ _ _ _ h)
def L_HT_freeAtThird_57 (k28 : Nat → Nat → Int32 → Int32 → Int32 → Mem → Prop) (post : Int32 → Mem → Prop) : Nat → Nat → Nat → Int32 → Int32 → Int32 → Int32 → Mem → Prop
  | 0, _, _, _, _, _, _, _ => False
  | n + 1, a0, a1, x3, x4, x5, x6, M => B_HT_freeAtThird_57 k28 (L_HT_freeAtThird_57 k28 post n) post a0 a1 x3 x4 x5 x6 M
theorem Y_HT_freeAtThird_57 {x : Ctx} {post : Int32 → Mem → Prop} (C : Ok x b_HT_freeAtThird 7 "HeapTower") (hR : xR x = rm_HT_freeAtThird) (Rt : RetI x .int post 0 0) {k28 : Nat → Nat → Int32 → Int32 → Int32 → Mem → Prop} (K28 : ∀ (a0 : Nat) (a1 : Nat) (x3 : Int32) (x4 : Int32) (x5 : Int32) (M : Mem), k28 a0 a1 x3 x4 x5 M → J x 7 28 [(0, .ref (xd x a0)), (1, .ref (xd x a1)), (3, .int x3), (4, .int x4), (5, .int x5)] [] 0 0 M) : ∀ (n : Nat) (a0 : Nat) (a1 : Nat) (x3 : Int32) (x4 : Int32) (x5 : Int32) (x6 : Int32) (M : Mem), L_HT_freeAtThird_57 k28 post n a0 a1 x3 x4 x5 x6 M → J x 7 57 [(0, .ref (xd x a0)), (1, .ref (xd x a1)), (3, .int x3), (4, .int x4), (5, .int x5), (6, .int x6)] [] 0 0 M := by
  intro n
  induction n with
  | zero => intro a0 a1 x3 x4 x5 x6 M h; exact h.elim
  | succ n ih => intro a0 a1 x3 x4 x5 x6 M h; exact Z_HT_freeAtThird_57 C hR Rt K28 ih _ _ _ _ _ _ _ h
def B_HT_freeAtThird_28 (k28 : Nat → Nat → Int32 → Int32 → Int32 → Mem → Prop) (post : Int32 → Mem → Prop) (a0 : Nat) (a1 : Nat) (x3 : Int32) (x4 : Int32) (x5 : Int32) (M : Mem) : Prop := ((3 ≤ x5 → (B_HT_freeAtThird_121 post a0 x4 M)) ∧ (¬ 3 ≤ x5 → (isK M a0 6 ∧ ∃ q35, gR M a0 2 = some q35 ∧ isK M q35 5 ∧ T_Ro_size q35 M (fun r38 M38 => (x4 ≤ r38 → (B_HT_freeAtThird_121 post a0 x4 M38)) ∧ (¬ x4 ≤ r38 → (isK M38 a0 6 ∧ T_HT_loadImages a0 a1 x3 x5 M38 (fun M51 => ∃ n, L_HT_freeAtThird_57 k28 post n a0 a1 x3 x4 x5 0 M51)))))))
set_option maxRecDepth 20000 in
theorem Z_HT_freeAtThird_28 {x : Ctx} {post : Int32 → Mem → Prop} (C : Ok x b_HT_freeAtThird 7 "HeapTower") (hR : xR x = rm_HT_freeAtThird) (Rt : RetI x .int post 0 0) {k28 : Nat → Nat → Int32 → Int32 → Int32 → Mem → Prop} (K28 : ∀ (a0 : Nat) (a1 : Nat) (x3 : Int32) (x4 : Int32) (x5 : Int32) (M : Mem), k28 a0 a1 x3 x4 x5 M → J x 7 28 [(0, .ref (xd x a0)), (1, .ref (xd x a1)), (3, .int x3), (4, .int x4), (5, .int x5)] [] 0 0 M) (a0 : Nat) (a1 : Nat) (x3 : Int32) (x4 : Int32) (x5 : Int32) (M : Mem) (h : B_HT_freeAtThird_28 k28 post a0 a1 x3 x4 x5 M) : J x 7 28 [(0, .ref (xd x a0)), (1, .ref (xd x a1)), (3, .int x3), (4, .int x4), (5, .int x5)] [] 0 0 M := by
  unfold B_HT_freeAtThird_28 at h
  refine J_iload C 5 D_HT_freeAtThird_28 rfl ?_
  refine J_iconst (v := 3) C D_HT_freeAtThird_30 rfl ?_
  refine J_icmp_ge (tgt := 121) C D_HT_freeAtThird_31 (by decide) (fun c_31 => ?_) (fun c_31 => ?_)
  · have h := h.1 c_31
    exact J_sub [0, 3] rfl (Z_HT_freeAtThird_121 C hR Rt  _ _ _ h)
  · have h := h.2 c_31
    refine J_aload_n C 0 D_HT_freeAtThird_34 rfl rfl ?_
    obtain ⟨c_35, q35, e_35, h⟩ := h
    refine J_getR C fl_HT_28 D_HT_freeAtThird_35 c_35 e_35 ?_
    obtain ⟨c_38, h⟩ := h
    refine J_callVi C ml_HT_319 (S_Ro_size _ _ _ h) (by rw [hR]; decide) rfl c_38 rfl (Nat.le_of_ble_eq_true rfl) D_HT_freeAtThird_38 (fun r38 M38 h => ?_)
    refine J_iload C 4 D_HT_freeAtThird_41 rfl ?_
    refine J_icmp_ge (tgt := 121) C D_HT_freeAtThird_43 (by decide) (fun c_43 => ?_) (fun c_43 => ?_)
    · have h := h.1 c_43
      exact J_sub [0, 3] rfl (Z_HT_freeAtThird_121 C hR Rt  _ _ _ h)
    · have h := h.2 c_43
      refine J_aload_n C 0 D_HT_freeAtThird_46 rfl rfl ?_
      refine J_aload_n C 1 D_HT_freeAtThird_47 rfl rfl ?_
      refine J_iload_n C 3 D_HT_freeAtThird_48 rfl rfl ?_
      refine J_iload C 5 D_HT_freeAtThird_49 rfl ?_
      obtain ⟨c_51, h⟩ := h
      refine J_callVv C ml_HT_320 (S_HT_loadImages _ _ _ _ _ _ h) (by rw [hR]; decide) rfl c_51 rfl (Nat.le_of_ble_eq_true rfl) D_HT_freeAtThird_51 (fun M51 h => ?_)
      refine J_iconst (v := 0) C D_HT_freeAtThird_54 rfl ?_
      refine J_istore (lv' := [(6, .int 0), (0, .ref (xd x a0)), (1, .ref (xd x a1)), (3, .int x3), (4, .int x4), (5, .int x5)]) C 6 D_HT_freeAtThird_55 (by decide) rfl ?_
      obtain ⟨n, h⟩ := h
      exact J_sub [1, 2, 3, 4, 5, 0] rfl (Y_HT_freeAtThird_57 C hR Rt K28 n _ _ _ _ _ _ _ h)
def L_HT_freeAtThird_28 (post : Int32 → Mem → Prop) : Nat → Nat → Nat → Int32 → Int32 → Int32 → Mem → Prop
  | 0, _, _, _, _, _, _ => False
  | n + 1, a0, a1, x3, x4, x5, M => B_HT_freeAtThird_28 (L_HT_freeAtThird_28 post n) post a0 a1 x3 x4 x5 M
theorem Y_HT_freeAtThird_28 {x : Ctx} {post : Int32 → Mem → Prop} (C : Ok x b_HT_freeAtThird 7 "HeapTower") (hR : xR x = rm_HT_freeAtThird) (Rt : RetI x .int post 0 0) : ∀ (n : Nat) (a0 : Nat) (a1 : Nat) (x3 : Int32) (x4 : Int32) (x5 : Int32) (M : Mem), L_HT_freeAtThird_28 post n a0 a1 x3 x4 x5 M → J x 7 28 [(0, .ref (xd x a0)), (1, .ref (xd x a1)), (3, .int x3), (4, .int x4), (5, .int x5)] [] 0 0 M := by
  intro n
  induction n with
  | zero => intro a0 a1 x3 x4 x5 M h; exact h.elim
  | succ n ih => intro a0 a1 x3 x4 x5 M h; exact Z_HT_freeAtThird_28 C hR Rt ih _ _ _ _ _ _ h
def T_HT_freeAtThird (a0 : Nat) (a1 : Nat) (x2 : Int32) (M : Mem) (post : Int32 → Mem → Prop) : Prop := ((0 ≤ (x2 - 3) → (isK M a1 0 ∧ T_Ba_standardCount a1 (x2 - 3) M (fun r12 M12 => isK M12 a0 6 ∧ ∃ q18, gR M12 a0 2 = some q18 ∧ isK M12 q18 5 ∧ T_Ro_begin q18 (x2 - 3) M12 (fun M22 => ∃ n, L_HT_freeAtThird_28 post n a0 a1 (x2 - 3) r12 0 M22)))) ∧ (¬ 0 ≤ (x2 - 3) → (post 0 M)))
set_option maxRecDepth 20000 in
theorem S_HT_freeAtThird {l : Launch} {D : va_G} {B t g : Nat} {d : Nat → Nat} {ac : Nat → ClassId}  (a0 : Nat) (a1 : Nat) (x2 : Int32) (M : Mem) (post : Int32 → Mem → Prop) (h : T_HT_freeAtThird a0 a1 x2 M post) : Met l y_HT_freeAtThird w_HT_freeAtThird rm_HT_freeAtThird (va_Pc [.ref (d a0), .ref (d a1), .int x2] (PRE D B d g t ac M)) (QI D B d g ac post) 0 0 (AB B) := by
  refine met_i (by decide +kernel) (Nat.le_of_ble_eq_true rfl) (fun x h1 hR h3 h4 h5 h6 h7 h8 C Rt => ?_)
  subst h3 h4 h5 h6 h7 h8
  unfold T_HT_freeAtThird at h
  show J x 7 0 [(0, .ref (xd x a0)), (1, .ref (xd x a1)), (2, .int x2)] [] 0 0 M
  refine J_iload_n C 2 D_HT_freeAtThird_0 rfl rfl ?_
  refine J_iconst (v := 3) C D_HT_freeAtThird_1 rfl ?_
  refine J_isub C D_HT_freeAtThird_2 ?_
  refine J_istore_n (lv' := [(3, .int (x2 - 3)), (0, .ref (xd x a0)), (1, .ref (xd x a1)), (2, .int x2)]) C 3 D_HT_freeAtThird_3 rfl (by decide) rfl ?_
  refine J_iload_n C 3 D_HT_freeAtThird_4 rfl rfl ?_
  refine J_if_ge (tgt := 10) C D_HT_freeAtThird_5 (by decide) (fun c_5 => ?_) (fun c_5 => ?_)
  · have h := h.1 c_5
    refine J_aload_n C 1 D_HT_freeAtThird_10 rfl rfl ?_
    refine J_iload_n C 3 D_HT_freeAtThird_11 rfl rfl ?_
    obtain ⟨c_12, h⟩ := h
    refine J_callVi C ml_HT_197 (S_Ba_standardCount _ _ _ _ h) (by rw [hR]; decide) rfl c_12 rfl (Nat.le_of_ble_eq_true rfl) D_HT_freeAtThird_12 (fun r12 M12 h => ?_)
    refine J_istore (lv' := [(4, .int r12), (3, .int (x2 - 3)), (0, .ref (xd x a0)), (1, .ref (xd x a1)), (2, .int x2)]) C 4 D_HT_freeAtThird_15 (by decide) rfl ?_
    refine J_aload_n C 0 D_HT_freeAtThird_17 rfl rfl ?_
    obtain ⟨c_18, q18, e_18, h⟩ := h
    refine J_getR C fl_HT_28 D_HT_freeAtThird_18 c_18 e_18 ?_
    refine J_iload_n C 3 D_HT_freeAtThird_21 rfl rfl ?_
    obtain ⟨c_22, h⟩ := h
    refine J_callVv C ml_HT_316 (S_Ro_begin _ _ _ _ h) (by rw [hR]; decide) rfl c_22 rfl (Nat.le_of_ble_eq_true rfl) D_HT_freeAtThird_22 (fun M22 h => ?_)
    refine J_iconst (v := 0) C D_HT_freeAtThird_25 rfl ?_
    refine J_istore (lv' := [(5, .int 0), (4, .int r12), (3, .int (x2 - 3)), (0, .ref (xd x a0)), (1, .ref (xd x a1)), (2, .int x2)]) C 5 D_HT_freeAtThird_26 (by decide) rfl ?_
    obtain ⟨n, h⟩ := h
    exact J_sub [3, 4, 2, 1, 0] rfl (Y_HT_freeAtThird_28 C hR Rt  n _ _ _ _ _ _ h)
  · have h := h.2 c_5
    refine J_iconst (v := 0) C D_HT_freeAtThird_8 rfl ?_
    exact J_iret C Rt D_HT_freeAtThird_9 rfl h
theorem D_HT_signedChains_0 : decode b_HT_signedChains 0 = .ok (.iconst 0, 1) := by decide +kernel
theorem D_HT_signedChains_1 : decode b_HT_signedChains 1 = .ok (.istore 4, 2) := by decide +kernel
theorem D_HT_signedChains_3 : decode b_HT_signedChains 3 = .ok (.iconst 1, 1) := by decide +kernel
theorem D_HT_signedChains_4 : decode b_HT_signedChains 4 = .ok (.istore 5, 2) := by decide +kernel
theorem D_HT_signedChains_6 : decode b_HT_signedChains 6 = .ok (.iconst 0, 1) := by decide +kernel
theorem D_HT_signedChains_7 : decode b_HT_signedChains 7 = .ok (.istore 6, 2) := by decide +kernel
theorem D_HT_signedChains_9 : decode b_HT_signedChains 9 = .ok (.iload 6, 2) := by decide +kernel
theorem D_HT_signedChains_11 : decode b_HT_signedChains 11 = .ok (.iload_n 2, 1) := by decide +kernel
theorem D_HT_signedChains_12 : decode b_HT_signedChains 12 = .ok (.if_icmp .gt 58, 3) := by decide +kernel
theorem D_HT_signedChains_15 : decode b_HT_signedChains 15 = .ok (.iload 6, 2) := by decide +kernel
theorem D_HT_signedChains_17 : decode b_HT_signedChains 17 = .ok (.iload_n 3, 1) := by decide +kernel
theorem D_HT_signedChains_18 : decode b_HT_signedChains 18 = .ok (.if_icmp .gt 52, 3) := by decide +kernel
theorem D_HT_signedChains_21 : decode b_HT_signedChains 21 = .ok (.iload 4, 2) := by decide +kernel
theorem D_HT_signedChains_23 : decode b_HT_signedChains 23 = .ok (.iload 6, 2) := by decide +kernel
theorem D_HT_signedChains_25 : decode b_HT_signedChains 25 = .ok (.iconst 2, 1) := by decide +kernel
theorem D_HT_signedChains_26 : decode b_HT_signedChains 26 = .ok (.irem, 1) := by decide +kernel
theorem D_HT_signedChains_27 : decode b_HT_signedChains 27 = .ok (.ifCond .ne 8, 3) := by decide +kernel
theorem D_HT_signedChains_30 : decode b_HT_signedChains 30 = .ok (.iload 5, 2) := by decide +kernel
theorem D_HT_signedChains_32 : decode b_HT_signedChains 32 = .ok (.goto 6, 3) := by decide +kernel
theorem D_HT_signedChains_35 : decode b_HT_signedChains 35 = .ok (.iload 5, 2) := by decide +kernel
theorem D_HT_signedChains_37 : decode b_HT_signedChains 37 = .ok (.ineg, 1) := by decide +kernel
theorem D_HT_signedChains_38 : decode b_HT_signedChains 38 = .ok (.aload_n 1, 1) := by decide +kernel
theorem D_HT_signedChains_39 : decode b_HT_signedChains 39 = .ok (.iload_n 3, 1) := by decide +kernel
theorem D_HT_signedChains_40 : decode b_HT_signedChains 40 = .ok (.iload 6, 2) := by decide +kernel
theorem D_HT_signedChains_42 : decode b_HT_signedChains 42 = .ok (.isub, 1) := by decide +kernel
theorem D_HT_signedChains_43 : decode b_HT_signedChains 43 = .ok (.invokevirtual 197, 3) := by decide +kernel
theorem D_HT_signedChains_46 : decode b_HT_signedChains 46 = .ok (.imul, 1) := by decide +kernel
theorem D_HT_signedChains_47 : decode b_HT_signedChains 47 = .ok (.iadd, 1) := by decide +kernel
theorem D_HT_signedChains_48 : decode b_HT_signedChains 48 = .ok (.istore 4, 2) := by decide +kernel
theorem D_HT_signedChains_50 : decode b_HT_signedChains 50 = .ok (.iload 5, 2) := by decide +kernel
theorem D_HT_signedChains_52 : decode b_HT_signedChains 52 = .ok (.iload_n 2, 1) := by decide +kernel
theorem D_HT_signedChains_53 : decode b_HT_signedChains 53 = .ok (.iload 6, 2) := by decide +kernel
theorem D_HT_signedChains_55 : decode b_HT_signedChains 55 = .ok (.isub, 1) := by decide +kernel
theorem D_HT_signedChains_56 : decode b_HT_signedChains 56 = .ok (.imul, 1) := by decide +kernel
theorem D_HT_signedChains_57 : decode b_HT_signedChains 57 = .ok (.iload 6, 2) := by decide +kernel
theorem D_HT_signedChains_59 : decode b_HT_signedChains 59 = .ok (.iconst 1, 1) := by decide +kernel
theorem D_HT_signedChains_60 : decode b_HT_signedChains 60 = .ok (.iadd, 1) := by decide +kernel
theorem D_HT_signedChains_61 : decode b_HT_signedChains 61 = .ok (.idiv, 1) := by decide +kernel
theorem D_HT_signedChains_62 : decode b_HT_signedChains 62 = .ok (.istore 5, 2) := by decide +kernel
theorem D_HT_signedChains_64 : decode b_HT_signedChains 64 = .ok (.iinc 6 1, 3) := by decide +kernel
theorem D_HT_signedChains_67 : decode b_HT_signedChains 67 = .ok (.goto (-58), 3) := by decide +kernel
theorem D_HT_signedChains_70 : decode b_HT_signedChains 70 = .ok (.iload 4, 2) := by decide +kernel
theorem D_HT_signedChains_72 : decode b_HT_signedChains 72 = .ok (.ireturn, 1) := by decide +kernel
abbrev rm_HT_signedChains : Room := { frames := 1, cells := 0, slots := 0, locals := 21 }
def B_HT_signedChains_70 (post : Int32 → Mem → Prop) (x4 : Int32) (M : Mem) : Prop := (post x4 M)
set_option maxRecDepth 20000 in
theorem Z_HT_signedChains_70 {x : Ctx} {post : Int32 → Mem → Prop} (C : Ok x b_HT_signedChains 7 "HeapTower") (hR : xR x = rm_HT_signedChains) (Rt : RetI x .int post 0 0) (x4 : Int32) (M : Mem) (h : B_HT_signedChains_70 post x4 M) : J x 7 70 [(4, .int x4)] [] 0 0 M := by
  unfold B_HT_signedChains_70 at h
  refine J_iload C 4 D_HT_signedChains_70 rfl ?_
  exact J_iret C Rt D_HT_signedChains_72 rfl h
def B_HT_signedChains_38 (k9 : Nat → Int32 → Int32 → Int32 → Int32 → Int32 → Mem → Prop) (post : Int32 → Mem → Prop) (a1 : Nat) (x2 : Int32) (x3 : Int32) (x5 : Int32) (x6 : Int32) (s0 : Int32) (s1 : Int32) (M : Mem) : Prop := (isK M a1 0 ∧ T_Ba_standardCount a1 (x3 - x6) M (fun r43 M43 => ¬ ((x6 + 1) : Int32) = 0 ∧ k9 a1 x2 x3 (s1 + (s0 * r43)) ((x5 * (x2 - x6)) / (x6 + 1)) (x6 + 1) M43))
set_option maxRecDepth 20000 in
theorem Z_HT_signedChains_38 {x : Ctx} {post : Int32 → Mem → Prop} (C : Ok x b_HT_signedChains 7 "HeapTower") (hR : xR x = rm_HT_signedChains) (Rt : RetI x .int post 0 0) {k9 : Nat → Int32 → Int32 → Int32 → Int32 → Int32 → Mem → Prop} (K9 : ∀ (a1 : Nat) (x2 : Int32) (x3 : Int32) (x4 : Int32) (x5 : Int32) (x6 : Int32) (M : Mem), k9 a1 x2 x3 x4 x5 x6 M → J x 7 9 [(1, .ref (xd x a1)), (2, .int x2), (3, .int x3), (4, .int x4), (5, .int x5), (6, .int x6)] [] 0 0 M) (a1 : Nat) (x2 : Int32) (x3 : Int32) (x5 : Int32) (x6 : Int32) (s0 : Int32) (s1 : Int32) (M : Mem) (h : B_HT_signedChains_38 k9 post a1 x2 x3 x5 x6 s0 s1 M) : J x 7 38 [(1, .ref (xd x a1)), (2, .int x2), (3, .int x3), (5, .int x5), (6, .int x6)] [.int s0, .int s1] 0 0 M := by
  unfold B_HT_signedChains_38 at h
  refine J_aload_n C 1 D_HT_signedChains_38 rfl rfl ?_
  refine J_iload_n C 3 D_HT_signedChains_39 rfl rfl ?_
  refine J_iload C 6 D_HT_signedChains_40 rfl ?_
  refine J_isub C D_HT_signedChains_42 ?_
  obtain ⟨c_43, h⟩ := h
  refine J_callVi C ml_HT_197 (S_Ba_standardCount _ _ _ _ h) (by rw [hR]; decide) rfl c_43 rfl (Nat.le_of_ble_eq_true rfl) D_HT_signedChains_43 (fun r43 M43 h => ?_)
  refine J_imul C D_HT_signedChains_46 ?_
  refine J_iadd C D_HT_signedChains_47 ?_
  refine J_istore (lv' := [(4, .int (s1 + (s0 * r43))), (1, .ref (xd x a1)), (2, .int x2), (3, .int x3), (5, .int x5), (6, .int x6)]) C 4 D_HT_signedChains_48 (by decide) rfl ?_
  refine J_iload C 5 D_HT_signedChains_50 rfl ?_
  refine J_iload_n C 2 D_HT_signedChains_52 rfl rfl ?_
  refine J_iload C 6 D_HT_signedChains_53 rfl ?_
  refine J_isub C D_HT_signedChains_55 ?_
  refine J_imul C D_HT_signedChains_56 ?_
  refine J_iload C 6 D_HT_signedChains_57 rfl ?_
  refine J_iconst (v := 1) C D_HT_signedChains_59 rfl ?_
  refine J_iadd C D_HT_signedChains_60 ?_
  obtain ⟨c_61, h⟩ := h
  refine J_idiv C D_HT_signedChains_61 c_61 ?_
  refine J_istore (lv' := [(5, .int ((x5 * (x2 - x6)) / (x6 + 1))), (4, .int (s1 + (s0 * r43))), (1, .ref (xd x a1)), (2, .int x2), (3, .int x3), (6, .int x6)]) C 5 D_HT_signedChains_62 (by decide) rfl ?_
  refine J_iinc (v := x6 + 1) (lv' := [(6, .int (x6 + 1)), (5, .int ((x5 * (x2 - x6)) / (x6 + 1))), (4, .int (s1 + (s0 * r43))), (1, .ref (xd x a1)), (2, .int x2), (3, .int x3)]) C 6 5 D_HT_signedChains_64 rfl rfl (by decide) rfl ?_
  refine J_goto (tgt := 9) C D_HT_signedChains_67 (by decide) ?_
  exact J_sub [3, 4, 5, 2, 1, 0] rfl (K9 _ _ _ _ _ _ _ h)
def B_HT_signedChains_9 (k9 : Nat → Int32 → Int32 → Int32 → Int32 → Int32 → Mem → Prop) (post : Int32 → Mem → Prop) (a1 : Nat) (x2 : Int32) (x3 : Int32) (x4 : Int32) (x5 : Int32) (x6 : Int32) (M : Mem) : Prop := ((x2 < x6 → (B_HT_signedChains_70 post x4 M)) ∧ (¬ x2 < x6 → ((x3 < x6 → (B_HT_signedChains_70 post x4 M)) ∧ (¬ x3 < x6 → (¬ (2 : Int32) = 0 ∧ (¬ (x6 - x6 / 2 * 2) = 0 → (B_HT_signedChains_38 k9 post a1 x2 x3 x5 x6 (-x5) x4 M)) ∧ ((x6 - x6 / 2 * 2) = 0 → (B_HT_signedChains_38 k9 post a1 x2 x3 x5 x6 x5 x4 M)))))))
set_option maxRecDepth 20000 in
theorem Z_HT_signedChains_9 {x : Ctx} {post : Int32 → Mem → Prop} (C : Ok x b_HT_signedChains 7 "HeapTower") (hR : xR x = rm_HT_signedChains) (Rt : RetI x .int post 0 0) {k9 : Nat → Int32 → Int32 → Int32 → Int32 → Int32 → Mem → Prop} (K9 : ∀ (a1 : Nat) (x2 : Int32) (x3 : Int32) (x4 : Int32) (x5 : Int32) (x6 : Int32) (M : Mem), k9 a1 x2 x3 x4 x5 x6 M → J x 7 9 [(1, .ref (xd x a1)), (2, .int x2), (3, .int x3), (4, .int x4), (5, .int x5), (6, .int x6)] [] 0 0 M) (a1 : Nat) (x2 : Int32) (x3 : Int32) (x4 : Int32) (x5 : Int32) (x6 : Int32) (M : Mem) (h : B_HT_signedChains_9 k9 post a1 x2 x3 x4 x5 x6 M) : J x 7 9 [(1, .ref (xd x a1)), (2, .int x2), (3, .int x3), (4, .int x4), (5, .int x5), (6, .int x6)] [] 0 0 M := by
  unfold B_HT_signedChains_9 at h
  refine J_iload C 6 D_HT_signedChains_9 rfl ?_
  refine J_iload_n C 2 D_HT_signedChains_11 rfl rfl ?_
  refine J_icmp_gt (tgt := 70) C D_HT_signedChains_12 (by decide) (fun c_12 => ?_) (fun c_12 => ?_)
  · have h := h.1 c_12
    exact J_sub [3] rfl (Z_HT_signedChains_70 C hR Rt  _ _ h)
  · have h := h.2 c_12
    refine J_iload C 6 D_HT_signedChains_15 rfl ?_
    refine J_iload_n C 3 D_HT_signedChains_17 rfl rfl ?_
    refine J_icmp_gt (tgt := 70) C D_HT_signedChains_18 (by decide) (fun c_18 => ?_) (fun c_18 => ?_)
    · have h := h.1 c_18
      exact J_sub [3] rfl (Z_HT_signedChains_70 C hR Rt  _ _ h)
    · have h := h.2 c_18
      refine J_iload C 4 D_HT_signedChains_21 rfl ?_
      refine J_iload C 6 D_HT_signedChains_23 rfl ?_
      refine J_iconst (v := 2) C D_HT_signedChains_25 rfl ?_
      obtain ⟨c_26, h⟩ := h
      refine J_irem C D_HT_signedChains_26 c_26 ?_
      refine J_if_ne (tgt := 35) C D_HT_signedChains_27 (by decide) (fun c_27 => ?_) (fun c_27 => ?_)
      · have h := h.1 c_27
        refine J_iload C 5 D_HT_signedChains_35 rfl ?_
        refine J_ineg C D_HT_signedChains_37 ?_
        exact J_sub [0, 1, 2, 4, 5] rfl (Z_HT_signedChains_38 C hR Rt K9 _ _ _ _ _ _ _ _ h)
      · have h := h.2 c_27
        refine J_iload C 5 D_HT_signedChains_30 rfl ?_
        refine J_goto (tgt := 38) C D_HT_signedChains_32 (by decide) ?_
        exact J_sub [0, 1, 2, 4, 5] rfl (Z_HT_signedChains_38 C hR Rt K9 _ _ _ _ _ _ _ _ h)
def L_HT_signedChains_9 (post : Int32 → Mem → Prop) : Nat → Nat → Int32 → Int32 → Int32 → Int32 → Int32 → Mem → Prop
  | 0, _, _, _, _, _, _, _ => False
  | n + 1, a1, x2, x3, x4, x5, x6, M => B_HT_signedChains_9 (L_HT_signedChains_9 post n) post a1 x2 x3 x4 x5 x6 M
theorem Y_HT_signedChains_9 {x : Ctx} {post : Int32 → Mem → Prop} (C : Ok x b_HT_signedChains 7 "HeapTower") (hR : xR x = rm_HT_signedChains) (Rt : RetI x .int post 0 0) : ∀ (n : Nat) (a1 : Nat) (x2 : Int32) (x3 : Int32) (x4 : Int32) (x5 : Int32) (x6 : Int32) (M : Mem), L_HT_signedChains_9 post n a1 x2 x3 x4 x5 x6 M → J x 7 9 [(1, .ref (xd x a1)), (2, .int x2), (3, .int x3), (4, .int x4), (5, .int x5), (6, .int x6)] [] 0 0 M := by
  intro n
  induction n with
  | zero => intro a1 x2 x3 x4 x5 x6 M h; exact h.elim
  | succ n ih => intro a1 x2 x3 x4 x5 x6 M h; exact Z_HT_signedChains_9 C hR Rt ih _ _ _ _ _ _ _ h
def T_HT_signedChains (a0 : Nat) (a1 : Nat) (x2 : Int32) (x3 : Int32) (M : Mem) (post : Int32 → Mem → Prop) : Prop := (∃ n, L_HT_signedChains_9 post n a1 x2 x3 0 1 0 M)
set_option maxRecDepth 20000 in
theorem S_HT_signedChains {l : Launch} {D : va_G} {B t g : Nat} {d : Nat → Nat} {ac : Nat → ClassId}  (a0 : Nat) (a1 : Nat) (x2 : Int32) (x3 : Int32) (M : Mem) (post : Int32 → Mem → Prop) (h : T_HT_signedChains a0 a1 x2 x3 M post) : Met l y_HT_signedChains w_HT_signedChains rm_HT_signedChains (va_Pc [.ref (d a0), .ref (d a1), .int x2, .int x3] (PRE D B d g t ac M)) (QI D B d g ac post) 0 0 (AB B) := by
  refine met_i (by decide +kernel) (Nat.le_of_ble_eq_true rfl) (fun x h1 hR h3 h4 h5 h6 h7 h8 C Rt => ?_)
  subst h3 h4 h5 h6 h7 h8
  unfold T_HT_signedChains at h
  show J x 7 0 [(0, .ref (xd x a0)), (1, .ref (xd x a1)), (2, .int x2), (3, .int x3)] [] 0 0 M
  refine J_iconst (v := 0) C D_HT_signedChains_0 rfl ?_
  refine J_istore (lv' := [(4, .int 0), (0, .ref (xd x a0)), (1, .ref (xd x a1)), (2, .int x2), (3, .int x3)]) C 4 D_HT_signedChains_1 (by decide) rfl ?_
  refine J_iconst (v := 1) C D_HT_signedChains_3 rfl ?_
  refine J_istore (lv' := [(5, .int 1), (4, .int 0), (0, .ref (xd x a0)), (1, .ref (xd x a1)), (2, .int x2), (3, .int x3)]) C 5 D_HT_signedChains_4 (by decide) rfl ?_
  refine J_iconst (v := 0) C D_HT_signedChains_6 rfl ?_
  refine J_istore (lv' := [(6, .int 0), (5, .int 1), (4, .int 0), (0, .ref (xd x a0)), (1, .ref (xd x a1)), (2, .int x2), (3, .int x3)]) C 6 D_HT_signedChains_7 (by decide) rfl ?_
  obtain ⟨n, h⟩ := h
  exact J_sub [4, 5, 6, 2, 1, 0] rfl (Y_HT_signedChains_9 C hR Rt  n _ _ _ _ _ _ _ h)
theorem D_HT_freeAtSecond_0 : decode b_HT_freeAtSecond 0 = .ok (.aload_n 0, 1) := by decide +kernel
theorem D_HT_freeAtSecond_1 : decode b_HT_freeAtSecond 1 = .ok (.getfield 10, 3) := by decide +kernel
theorem D_HT_freeAtSecond_4 : decode b_HT_freeAtSecond 4 = .ok (.invokevirtual 110, 3) := by decide +kernel
theorem D_HT_freeAtSecond_7 : decode b_HT_freeAtSecond 7 = .ok (.istore_n 3, 1) := by decide +kernel
theorem D_HT_freeAtSecond_8 : decode b_HT_freeAtSecond 8 = .ok (.iload_n 3, 1) := by decide +kernel
theorem D_HT_freeAtSecond_9 : decode b_HT_freeAtSecond 9 = .ok (.iconst 3, 1) := by decide +kernel
theorem D_HT_freeAtSecond_10 : decode b_HT_freeAtSecond 10 = .ok (.if_icmp .ne 12, 3) := by decide +kernel
theorem D_HT_freeAtSecond_13 : decode b_HT_freeAtSecond 13 = .ok (.aload_n 0, 1) := by decide +kernel
theorem D_HT_freeAtSecond_14 : decode b_HT_freeAtSecond 14 = .ok (.aload_n 1, 1) := by decide +kernel
theorem D_HT_freeAtSecond_15 : decode b_HT_freeAtSecond 15 = .ok (.iload_n 2, 1) := by decide +kernel
theorem D_HT_freeAtSecond_16 : decode b_HT_freeAtSecond 16 = .ok (.invokevirtual 210, 3) := by decide +kernel
theorem D_HT_freeAtSecond_19 : decode b_HT_freeAtSecond 19 = .ok (.goto 4, 3) := by decide +kernel
theorem D_HT_freeAtSecond_22 : decode b_HT_freeAtSecond 22 = .ok (.iconst 0, 1) := by decide +kernel
theorem D_HT_freeAtSecond_23 : decode b_HT_freeAtSecond 23 = .ok (.istore 4, 2) := by decide +kernel
theorem D_HT_freeAtSecond_25 : decode b_HT_freeAtSecond 25 = .ok (.aload_n 0, 1) := by decide +kernel
theorem D_HT_freeAtSecond_26 : decode b_HT_freeAtSecond 26 = .ok (.aload_n 1, 1) := by decide +kernel
theorem D_HT_freeAtSecond_27 : decode b_HT_freeAtSecond 27 = .ok (.iload_n 3, 1) := by decide +kernel
theorem D_HT_freeAtSecond_28 : decode b_HT_freeAtSecond 28 = .ok (.iload_n 2, 1) := by decide +kernel
theorem D_HT_freeAtSecond_29 : decode b_HT_freeAtSecond 29 = .ok (.invokevirtual 312, 3) := by decide +kernel
theorem D_HT_freeAtSecond_32 : decode b_HT_freeAtSecond 32 = .ok (.aload_n 0, 1) := by decide +kernel
theorem D_HT_freeAtSecond_33 : decode b_HT_freeAtSecond 33 = .ok (.iload_n 2, 1) := by decide +kernel
theorem D_HT_freeAtSecond_34 : decode b_HT_freeAtSecond 34 = .ok (.invokevirtual 200, 3) := by decide +kernel
theorem D_HT_freeAtSecond_37 : decode b_HT_freeAtSecond 37 = .ok (.isub, 1) := by decide +kernel
theorem D_HT_freeAtSecond_38 : decode b_HT_freeAtSecond 38 = .ok (.aload_n 1, 1) := by decide +kernel
theorem D_HT_freeAtSecond_39 : decode b_HT_freeAtSecond 39 = .ok (.iload_n 2, 1) := by decide +kernel
theorem D_HT_freeAtSecond_40 : decode b_HT_freeAtSecond 40 = .ok (.invokevirtual 203, 3) := by decide +kernel
theorem D_HT_freeAtSecond_43 : decode b_HT_freeAtSecond 43 = .ok (.iadd, 1) := by decide +kernel
theorem D_HT_freeAtSecond_44 : decode b_HT_freeAtSecond 44 = .ok (.iload 4, 2) := by decide +kernel
theorem D_HT_freeAtSecond_46 : decode b_HT_freeAtSecond 46 = .ok (.iadd, 1) := by decide +kernel
theorem D_HT_freeAtSecond_47 : decode b_HT_freeAtSecond 47 = .ok (.ireturn, 1) := by decide +kernel
abbrev rm_HT_freeAtSecond : Room := { frames := 4, cells := 0, slots := 0, locals := 113 }
def B_HT_freeAtSecond_23 (post : Int32 → Mem → Prop) (a0 : Nat) (a1 : Nat) (x2 : Int32) (x3 : Int32) (s0 : Int32) (M : Mem) : Prop := (isK M a0 6 ∧ T_HT_signedChains a0 a1 x3 x2 M (fun r29 M29 => isK M29 a0 6 ∧ T_HT_freeAtGround a0 x2 M29 (fun r34 M34 => isK M34 a1 0 ∧ T_Ba_neededRows a1 x2 M34 (fun r40 M40 => post (((r29 - r34) + r40) + s0) M40))))
set_option maxRecDepth 20000 in
theorem Z_HT_freeAtSecond_23 {x : Ctx} {post : Int32 → Mem → Prop} (C : Ok x b_HT_freeAtSecond 5 "HeapTower") (hR : xR x = rm_HT_freeAtSecond) (Rt : RetI x .int post 0 0) (a0 : Nat) (a1 : Nat) (x2 : Int32) (x3 : Int32) (s0 : Int32) (M : Mem) (h : B_HT_freeAtSecond_23 post a0 a1 x2 x3 s0 M) : J x 5 23 [(0, .ref (xd x a0)), (1, .ref (xd x a1)), (2, .int x2), (3, .int x3)] [.int s0] 0 0 M := by
  unfold B_HT_freeAtSecond_23 at h
  refine J_istore (lv' := [(4, .int s0), (0, .ref (xd x a0)), (1, .ref (xd x a1)), (2, .int x2), (3, .int x3)]) C 4 D_HT_freeAtSecond_23 (by decide) rfl ?_
  refine J_aload_n C 0 D_HT_freeAtSecond_25 rfl rfl ?_
  refine J_aload_n C 1 D_HT_freeAtSecond_26 rfl rfl ?_
  refine J_iload_n C 3 D_HT_freeAtSecond_27 rfl rfl ?_
  refine J_iload_n C 2 D_HT_freeAtSecond_28 rfl rfl ?_
  obtain ⟨c_29, h⟩ := h
  refine J_callVi C ml_HT_312 (S_HT_signedChains _ _ _ _ _ _ h) (by rw [hR]; decide) rfl c_29 rfl (Nat.le_of_ble_eq_true rfl) D_HT_freeAtSecond_29 (fun r29 M29 h => ?_)
  refine J_aload_n C 0 D_HT_freeAtSecond_32 rfl rfl ?_
  refine J_iload_n C 2 D_HT_freeAtSecond_33 rfl rfl ?_
  obtain ⟨c_34, h⟩ := h
  refine J_callVi C ml_HT_200 (S_HT_freeAtGround _ _ _ _ h) (by rw [hR]; decide) rfl c_34 rfl (Nat.le_of_ble_eq_true rfl) D_HT_freeAtSecond_34 (fun r34 M34 h => ?_)
  refine J_isub C D_HT_freeAtSecond_37 ?_
  refine J_aload_n C 1 D_HT_freeAtSecond_38 rfl rfl ?_
  refine J_iload_n C 2 D_HT_freeAtSecond_39 rfl rfl ?_
  obtain ⟨c_40, h⟩ := h
  refine J_callVi C ml_HT_203 (S_Ba_neededRows _ _ _ _ h) (by rw [hR]; decide) rfl c_40 rfl (Nat.le_of_ble_eq_true rfl) D_HT_freeAtSecond_40 (fun r40 M40 h => ?_)
  refine J_iadd C D_HT_freeAtSecond_43 ?_
  refine J_iload C 4 D_HT_freeAtSecond_44 rfl ?_
  refine J_iadd C D_HT_freeAtSecond_46 ?_
  exact J_iret C Rt D_HT_freeAtSecond_47 rfl h
def T_HT_freeAtSecond (a0 : Nat) (a1 : Nat) (x2 : Int32) (M : Mem) (post : Int32 → Mem → Prop) : Prop := (isK M a0 6 ∧ ∃ q1, gR M a0 0 = some q1 ∧ isK M q1 4 ∧ T_Pr_letterCount q1 M (fun r4 M4 => (¬ r4 = 3 → (B_HT_freeAtSecond_23 post a0 a1 x2 r4 0 M4)) ∧ (r4 = 3 → (isK M4 a0 6 ∧ T_HT_freeAtThird a0 a1 x2 M4 (fun r16 M16 => B_HT_freeAtSecond_23 post a0 a1 x2 r4 r16 M16)))))
set_option maxRecDepth 20000 in
theorem S_HT_freeAtSecond {l : Launch} {D : va_G} {B t g : Nat} {d : Nat → Nat} {ac : Nat → ClassId}  (a0 : Nat) (a1 : Nat) (x2 : Int32) (M : Mem) (post : Int32 → Mem → Prop) (h : T_HT_freeAtSecond a0 a1 x2 M post) : Met l y_HT_freeAtSecond w_HT_freeAtSecond rm_HT_freeAtSecond (va_Pc [.ref (d a0), .ref (d a1), .int x2] (PRE D B d g t ac M)) (QI D B d g ac post) 0 0 (AB B) := by
  refine met_i (by decide +kernel) (Nat.le_of_ble_eq_true rfl) (fun x h1 hR h3 h4 h5 h6 h7 h8 C Rt => ?_)
  subst h3 h4 h5 h6 h7 h8
  unfold T_HT_freeAtSecond at h
  show J x 5 0 [(0, .ref (xd x a0)), (1, .ref (xd x a1)), (2, .int x2)] [] 0 0 M
  refine J_aload_n C 0 D_HT_freeAtSecond_0 rfl rfl ?_
  obtain ⟨c_1, q1, e_1, h⟩ := h
  refine J_getR C fl_HT_10 D_HT_freeAtSecond_1 c_1 e_1 ?_
  obtain ⟨c_4, h⟩ := h
  refine J_callVi C ml_HT_110 (S_Pr_letterCount _ _ _ h) (by rw [hR]; decide) rfl c_4 rfl (Nat.le_of_ble_eq_true rfl) D_HT_freeAtSecond_4 (fun r4 M4 h => ?_)
  refine J_istore_n (lv' := [(3, .int r4), (0, .ref (xd x a0)), (1, .ref (xd x a1)), (2, .int x2)]) C 3 D_HT_freeAtSecond_7 rfl (by decide) rfl ?_
  refine J_iload_n C 3 D_HT_freeAtSecond_8 rfl rfl ?_
  refine J_iconst (v := 3) C D_HT_freeAtSecond_9 rfl ?_
  refine J_icmp_ne (tgt := 22) C D_HT_freeAtSecond_10 (by decide) (fun c_10 => ?_) (fun c_10 => ?_)
  · have h := h.1 c_10
    refine J_iconst (v := 0) C D_HT_freeAtSecond_22 rfl ?_
    exact J_sub [1, 2, 3, 0] rfl (Z_HT_freeAtSecond_23 C hR Rt  _ _ _ _ _ _ h)
  · have h := h.2 c_10
    refine J_aload_n C 0 D_HT_freeAtSecond_13 rfl rfl ?_
    refine J_aload_n C 1 D_HT_freeAtSecond_14 rfl rfl ?_
    refine J_iload_n C 2 D_HT_freeAtSecond_15 rfl rfl ?_
    obtain ⟨c_16, h⟩ := h
    refine J_callVi C ml_HT_210 (S_HT_freeAtThird _ _ _ _ _ h) (by rw [hR]; decide) rfl c_16 rfl (Nat.le_of_ble_eq_true rfl) D_HT_freeAtSecond_16 (fun r16 M16 h => ?_)
    refine J_goto (tgt := 23) C D_HT_freeAtSecond_19 (by decide) ?_
    exact J_sub [1, 2, 3, 0] rfl (Z_HT_freeAtSecond_23 C hR Rt  _ _ _ _ _ _ h)
theorem D_HT_free_0 : decode b_HT_free 0 = .ok (.iload_n 1, 1) := by decide +kernel
theorem D_HT_free_1 : decode b_HT_free 1 = .ok (.ifCond .lt 18, 3) := by decide +kernel
theorem D_HT_free_4 : decode b_HT_free 4 = .ok (.iload_n 1, 1) := by decide +kernel
theorem D_HT_free_5 : decode b_HT_free 5 = .ok (.iconst 3, 1) := by decide +kernel
theorem D_HT_free_6 : decode b_HT_free 6 = .ok (.if_icmp .gt 13, 3) := by decide +kernel
theorem D_HT_free_9 : decode b_HT_free 9 = .ok (.iload_n 2, 1) := by decide +kernel
theorem D_HT_free_10 : decode b_HT_free 10 = .ok (.ifCond .lt 9, 3) := by decide +kernel
theorem D_HT_free_13 : decode b_HT_free 13 = .ok (.iload_n 2, 1) := by decide +kernel
theorem D_HT_free_14 : decode b_HT_free 14 = .ok (.bipush 10, 2) := by decide +kernel
theorem D_HT_free_16 : decode b_HT_free 16 = .ok (.if_icmp .le 6, 3) := by decide +kernel
theorem D_HT_free_19 : decode b_HT_free 19 = .ok (.ldc 85, 2) := by decide +kernel
theorem D_HT_free_21 : decode b_HT_free 21 = .ok (.ireturn, 1) := by decide +kernel
theorem D_HT_free_22 : decode b_HT_free 22 = .ok (.iload_n 1, 1) := by decide +kernel
theorem D_HT_free_23 : decode b_HT_free 23 = .ok (.aload_n 0, 1) := by decide +kernel
theorem D_HT_free_24 : decode b_HT_free 24 = .ok (.getfield 10, 3) := by decide +kernel
theorem D_HT_free_27 : decode b_HT_free 27 = .ok (.invokevirtual 110, 3) := by decide +kernel
theorem D_HT_free_30 : decode b_HT_free 30 = .ok (.if_icmp .le 5, 3) := by decide +kernel
theorem D_HT_free_33 : decode b_HT_free 33 = .ok (.iconst 0, 1) := by decide +kernel
theorem D_HT_free_34 : decode b_HT_free 34 = .ok (.ireturn, 1) := by decide +kernel
theorem D_HT_free_35 : decode b_HT_free 35 = .ok (.aload_n 0, 1) := by decide +kernel
theorem D_HT_free_36 : decode b_HT_free 36 = .ok (.getfield 74, 3) := by decide +kernel
theorem D_HT_free_39 : decode b_HT_free 39 = .ok (.iload_n 2, 1) := by decide +kernel
theorem D_HT_free_40 : decode b_HT_free 40 = .ok (.invokevirtual 178, 3) := by decide +kernel
theorem D_HT_free_43 : decode b_HT_free 43 = .ok (.astore_n 3, 1) := by decide +kernel
theorem D_HT_free_44 : decode b_HT_free 44 = .ok (.iload_n 1, 1) := by decide +kernel
theorem D_HT_free_45 : decode b_HT_free 45 = .ok (.tableswitch 46 0 2 #[27, 33, 39], 27) := by decide +kernel
theorem D_HT_free_72 : decode b_HT_free 72 = .ok (.aload_n 0, 1) := by decide +kernel
theorem D_HT_free_73 : decode b_HT_free 73 = .ok (.iload_n 2, 1) := by decide +kernel
theorem D_HT_free_74 : decode b_HT_free 74 = .ok (.invokevirtual 200, 3) := by decide +kernel
theorem D_HT_free_77 : decode b_HT_free 77 = .ok (.ireturn, 1) := by decide +kernel
theorem D_HT_free_78 : decode b_HT_free 78 = .ok (.aload_n 3, 1) := by decide +kernel
theorem D_HT_free_79 : decode b_HT_free 79 = .ok (.iload_n 2, 1) := by decide +kernel
theorem D_HT_free_80 : decode b_HT_free 80 = .ok (.invokevirtual 203, 3) := by decide +kernel
theorem D_HT_free_83 : decode b_HT_free 83 = .ok (.ireturn, 1) := by decide +kernel
theorem D_HT_free_84 : decode b_HT_free 84 = .ok (.aload_n 0, 1) := by decide +kernel
theorem D_HT_free_85 : decode b_HT_free 85 = .ok (.aload_n 3, 1) := by decide +kernel
theorem D_HT_free_86 : decode b_HT_free 86 = .ok (.iload_n 2, 1) := by decide +kernel
theorem D_HT_free_87 : decode b_HT_free 87 = .ok (.invokevirtual 206, 3) := by decide +kernel
theorem D_HT_free_90 : decode b_HT_free 90 = .ok (.ireturn, 1) := by decide +kernel
theorem D_HT_free_91 : decode b_HT_free 91 = .ok (.aload_n 0, 1) := by decide +kernel
theorem D_HT_free_92 : decode b_HT_free 92 = .ok (.aload_n 3, 1) := by decide +kernel
theorem D_HT_free_93 : decode b_HT_free 93 = .ok (.iload_n 2, 1) := by decide +kernel
theorem D_HT_free_94 : decode b_HT_free 94 = .ok (.invokevirtual 210, 3) := by decide +kernel
theorem D_HT_free_97 : decode b_HT_free 97 = .ok (.ireturn, 1) := by decide +kernel
def B_HT_free_19 (post : Int32 → Mem → Prop) (M : Mem) : Prop := (post ((-1000000)) M)
set_option maxRecDepth 20000 in
theorem Z_HT_free_19 {x : Ctx} {post : Int32 → Mem → Prop} (C : Ok x b_HT_free 4 "HeapTower") (hR : (xR x).frames = 6 ∧ (xR x).locals = 153) (Bd : Bdg x 0) {z : Nat} (Rt : RetID x .int post z) (M : Mem) (hN : nC M + xg x ≤ 2800) (h : B_HT_free_19 post M) : J x 4 19 [] [] (iC x M) (iS 0 x M) M := by
  unfold B_HT_free_19 at h
  refine J_ldc (v := (-1000000)) C D_HT_free_19 kw_HT_85 ?_
  exact JD_iret C Rt hN D_HT_free_21 rfl h
def T_HT_free (a0 : Nat) (x1 : Int32) (x2 : Int32) (M : Mem) (post : Int32 → Mem → Prop) : Prop := ((x1 < 0 → (B_HT_free_19 post M)) ∧ (¬ x1 < 0 → ((3 < x1 → (B_HT_free_19 post M)) ∧ (¬ 3 < x1 → ((x2 < 0 → (B_HT_free_19 post M)) ∧ (¬ x2 < 0 → ((x2 ≤ 10 → (isK M a0 6 ∧ ∃ q24, gR M a0 0 = some q24 ∧ isK M q24 4 ∧ T_Pr_letterCount q24 M (fun r27 M27 => (x1 ≤ r27 → (isK M27 a0 6 ∧ ∃ q36, gR M27 a0 10 = some q36 ∧ isK M27 q36 1 ∧ isK M27 a0 6 ∧ T_He_baseUpTo q36 x2 M27 (fun r40 M40 => isK M40 a0 6 ∧ ((Int32.toInt x1 < 0 ∨ 2 < Int32.toInt x1) → (isK M40 a0 6 ∧ T_HT_freeAtThird a0 r40 x2 M40 (fun r94 M94 => post r94 M94))) ∧ (Int32.toInt x1 = 0 → (isK M40 a0 6 ∧ T_HT_freeAtGround a0 x2 M40 (fun r74 M74 => post r74 M74))) ∧ (Int32.toInt x1 = 1 → (isK M40 r40 0 ∧ T_Ba_neededRows r40 x2 M40 (fun r80 M80 => post r80 M80))) ∧ (Int32.toInt x1 = 2 → (isK M40 a0 6 ∧ T_HT_freeAtSecond a0 r40 x2 M40 (fun r87 M87 => post r87 M87)))))) ∧ (¬ x1 ≤ r27 → (post 0 M27))))) ∧ (¬ x2 ≤ 10 → (B_HT_free_19 post M)))))))))
set_option maxRecDepth 20000 in
theorem S_HT_free {l : Launch} {D : va_G} {B t g : Nat} {d : Nat → Nat} {ac : Nat → ClassId} (a0 : Nat) (x1 : Int32) (x2 : Int32) (M : Mem) (post : Int32 → Mem → Prop) (hN : nC M + g ≤ 2800) (h : T_HT_free a0 x1 x2 M post) : Met l y_HT_free w_HT_free (rmD 6 153 (nC M + g)) (va_Pc [.ref (d a0), .int x1, .int x2] (PRE D B d g t ac M)) (QID D B ac post) (2800 - (nC M + g)) (2560 * (2800 - (nC M + g))) (AB B) := by
  refine met_iD (by decide +kernel) (Nat.le_of_ble_eq_true rfl) hN (fun x h1 hR h3 h4 h5 h6 h7 h8 C Bd Rt hN => ?_)
  subst h3 h4 h5 h6 h7 h8
  unfold T_HT_free at h
  show J x 4 0 [(0, .ref (xd x a0)), (1, .int x1), (2, .int x2)] [] (iC x M) (iS 0 x M) M
  refine J_iload_n C 1 D_HT_free_0 rfl rfl ?_
  refine J_if_lt (tgt := 19) C D_HT_free_1 (by decide) (fun c_1 => ?_) (fun c_1 => ?_)
  · have h := h.1 c_1
    exact J_sub [] rfl (Z_HT_free_19 C hR Bd Rt  _ hN h)
  · have h := h.2 c_1
    refine J_iload_n C 1 D_HT_free_4 rfl rfl ?_
    refine J_iconst (v := 3) C D_HT_free_5 rfl ?_
    refine J_icmp_gt (tgt := 19) C D_HT_free_6 (by decide) (fun c_6 => ?_) (fun c_6 => ?_)
    · have h := h.1 c_6
      exact J_sub [] rfl (Z_HT_free_19 C hR Bd Rt  _ hN h)
    · have h := h.2 c_6
      refine J_iload_n C 2 D_HT_free_9 rfl rfl ?_
      refine J_if_lt (tgt := 19) C D_HT_free_10 (by decide) (fun c_10 => ?_) (fun c_10 => ?_)
      · have h := h.1 c_10
        exact J_sub [] rfl (Z_HT_free_19 C hR Bd Rt  _ hN h)
      · have h := h.2 c_10
        refine J_iload_n C 2 D_HT_free_13 rfl rfl ?_
        refine J_bipush (v := 10) C D_HT_free_14 rfl ?_
        refine J_icmp_le (tgt := 22) C D_HT_free_16 (by decide) (fun c_16 => ?_) (fun c_16 => ?_)
        · have h := h.1 c_16
          refine J_iload_n C 1 D_HT_free_22 rfl rfl ?_
          refine J_aload_n C 0 D_HT_free_23 rfl rfl ?_
          obtain ⟨c_24, q24, e_24, h⟩ := h
          refine J_getR C fl_HT_10 D_HT_free_24 c_24 e_24 ?_
          obtain ⟨c_27, h⟩ := h
          refine JS_callVi C Bd hN ml_HT_110 (S_Pr_letterCount _ _ _ h) ⟨rfl, rfl⟩ (by rw [hR.1, hR.2]; decide) rfl c_27 rfl (Nat.le_of_ble_eq_true rfl) D_HT_free_27 (fun r27 M27 hN h => ?_)
          refine J_icmp_le (tgt := 35) C D_HT_free_30 (by decide) (fun c_30 => ?_) (fun c_30 => ?_)
          · have h := h.1 c_30
            refine J_aload_n C 0 D_HT_free_35 rfl rfl ?_
            obtain ⟨c_36, q36, e_36, h⟩ := h
            refine J_getR C fl_HT_74 D_HT_free_36 c_36 e_36 ?_
            refine J_iload_n C 2 D_HT_free_39 rfl rfl ?_
            obtain ⟨c_40, h⟩ := h
            refine J_sub [0, 1, 2] rfl ?_
            obtain ⟨i_40_0, h⟩ := h
            refine JD_callVr C Bd hN ml_HT_178 (S_He_baseUpTo _ _ _ _ hN h) (by rw [hR.1, hR.2]; decide) rfl c_40 rfl (Nat.le_of_ble_eq_true rfl) D_HT_free_40 (fun x ex r40 M40 hN hq h => ?_)
            have C := ex.ok C
            have hR := ex.fr hR
            have Bd := ex.bd Bd
            have Rt := ex.ri Rt
            obtain ⟨j_40_0, h⟩ := h
            rw [hq a0 6 (by decide) i_40_0 j_40_0]
            refine J_astore_n (lv' := [(3, .ref (xd x r40)), (0, .ref (xd x a0)), (1, .int x1), (2, .int x2)]) C 3 D_HT_free_43 rfl (by decide) rfl ?_
            refine J_iload_n C 1 D_HT_free_44 rfl rfl ?_
            by_cases q_45 : Int32.toInt x1 < 0 ∨ 2 < Int32.toInt x1
            · have h := h.1 q_45
              refine J_tableOut (tgt := 91) C D_HT_free_45 q_45 (by decide) ?_
              refine J_aload_n C 0 D_HT_free_91 rfl rfl ?_
              refine J_aload_n C 3 D_HT_free_92 rfl rfl ?_
              refine J_iload_n C 2 D_HT_free_93 rfl rfl ?_
              obtain ⟨c_94, h⟩ := h
              refine JS_callVi C Bd hN ml_HT_210 (S_HT_freeAtThird _ _ _ _ _ h) ⟨rfl, rfl⟩ (by rw [hR.1, hR.2]; decide) rfl c_94 rfl (Nat.le_of_ble_eq_true rfl) D_HT_free_94 (fun r94 M94 hN h => ?_)
              exact JD_iret C Rt hN D_HT_free_97 rfl h
            · have h := h.2
              have r_45 : Int32.toInt x1 = 0 ∨ Int32.toInt x1 = 1 ∨ Int32.toInt x1 = 2 := by omega
              rcases r_45 with r_45 | r_45 | r_45
              · have h := (h.1) r_45
                refine J_tableIn (tgt := 72) C D_HT_free_45 (by rw [r_45]; decide) (by rw [r_45]; decide) (by rw [r_45]; rfl) (by decide) ?_
                refine J_aload_n C 0 D_HT_free_72 rfl rfl ?_
                refine J_iload_n C 2 D_HT_free_73 rfl rfl ?_
                obtain ⟨c_74, h⟩ := h
                refine JS_callVi C Bd hN ml_HT_200 (S_HT_freeAtGround _ _ _ _ h) ⟨rfl, rfl⟩ (by rw [hR.1, hR.2]; decide) rfl c_74 rfl (Nat.le_of_ble_eq_true rfl) D_HT_free_74 (fun r74 M74 hN h => ?_)
                exact JD_iret C Rt hN D_HT_free_77 rfl h
              · have h := (h.2.1) r_45
                refine J_tableIn (tgt := 78) C D_HT_free_45 (by rw [r_45]; decide) (by rw [r_45]; decide) (by rw [r_45]; rfl) (by decide) ?_
                refine J_aload_n C 3 D_HT_free_78 rfl rfl ?_
                refine J_iload_n C 2 D_HT_free_79 rfl rfl ?_
                obtain ⟨c_80, h⟩ := h
                refine JS_callVi C Bd hN ml_HT_203 (S_Ba_neededRows _ _ _ _ h) ⟨rfl, rfl⟩ (by rw [hR.1, hR.2]; decide) rfl c_80 rfl (Nat.le_of_ble_eq_true rfl) D_HT_free_80 (fun r80 M80 hN h => ?_)
                exact JD_iret C Rt hN D_HT_free_83 rfl h
              · have h := (h.2.2) r_45
                refine J_tableIn (tgt := 84) C D_HT_free_45 (by rw [r_45]; decide) (by rw [r_45]; decide) (by rw [r_45]; rfl) (by decide) ?_
                refine J_aload_n C 0 D_HT_free_84 rfl rfl ?_
                refine J_aload_n C 3 D_HT_free_85 rfl rfl ?_
                refine J_iload_n C 2 D_HT_free_86 rfl rfl ?_
                obtain ⟨c_87, h⟩ := h
                refine JS_callVi C Bd hN ml_HT_206 (S_HT_freeAtSecond _ _ _ _ _ h) ⟨rfl, rfl⟩ (by rw [hR.1, hR.2]; decide) rfl c_87 rfl (Nat.le_of_ble_eq_true rfl) D_HT_free_87 (fun r87 M87 hN h => ?_)
                exact JD_iret C Rt hN D_HT_free_90 rfl h
          · have h := h.2 c_30
            refine J_iconst (v := 0) C D_HT_free_33 rfl ?_
            exact JD_iret C Rt hN D_HT_free_34 rfl h
        · have h := h.2 c_16
          exact J_sub [] rfl (Z_HT_free_19 C hR Bd Rt  _ hN h)
theorem D_HT_quotientBaseUpTo_0 : decode b_HT_quotientBaseUpTo 0 = .ok (.aload_n 0, 1) := by decide +kernel
theorem D_HT_quotientBaseUpTo_1 : decode b_HT_quotientBaseUpTo 1 = .ok (.getfield 66, 3) := by decide +kernel
theorem D_HT_quotientBaseUpTo_4 : decode b_HT_quotientBaseUpTo 4 = .ok (.invokevirtual 280, 3) := by decide +kernel
theorem D_HT_quotientBaseUpTo_7 : decode b_HT_quotientBaseUpTo 7 = .ok (.iconst 1, 1) := by decide +kernel
theorem D_HT_quotientBaseUpTo_8 : decode b_HT_quotientBaseUpTo 8 = .ok (.iadd, 1) := by decide +kernel
theorem D_HT_quotientBaseUpTo_9 : decode b_HT_quotientBaseUpTo 9 = .ok (.istore_n 3, 1) := by decide +kernel
theorem D_HT_quotientBaseUpTo_10 : decode b_HT_quotientBaseUpTo 10 = .ok (.iload_n 3, 1) := by decide +kernel
theorem D_HT_quotientBaseUpTo_11 : decode b_HT_quotientBaseUpTo 11 = .ok (.iload_n 1, 1) := by decide +kernel
theorem D_HT_quotientBaseUpTo_12 : decode b_HT_quotientBaseUpTo 12 = .ok (.if_icmp .gt 66, 3) := by decide +kernel
theorem D_HT_quotientBaseUpTo_15 : decode b_HT_quotientBaseUpTo 15 = .ok (.aload_n 0, 1) := by decide +kernel
theorem D_HT_quotientBaseUpTo_16 : decode b_HT_quotientBaseUpTo 16 = .ok (.getfield 66, 3) := by decide +kernel
theorem D_HT_quotientBaseUpTo_19 : decode b_HT_quotientBaseUpTo 19 = .ok (.iload_n 3, 1) := by decide +kernel
theorem D_HT_quotientBaseUpTo_20 : decode b_HT_quotientBaseUpTo 20 = .ok (.invokevirtual 283, 3) := by decide +kernel
theorem D_HT_quotientBaseUpTo_23 : decode b_HT_quotientBaseUpTo 23 = .ok (.aload_n 0, 1) := by decide +kernel
theorem D_HT_quotientBaseUpTo_24 : decode b_HT_quotientBaseUpTo 24 = .ok (.getfield 74, 3) := by decide +kernel
theorem D_HT_quotientBaseUpTo_27 : decode b_HT_quotientBaseUpTo 27 = .ok (.aload_n 0, 1) := by decide +kernel
theorem D_HT_quotientBaseUpTo_28 : decode b_HT_quotientBaseUpTo 28 = .ok (.getfield 66, 3) := by decide +kernel
theorem D_HT_quotientBaseUpTo_31 : decode b_HT_quotientBaseUpTo 31 = .ok (.iload_n 3, 1) := by decide +kernel
theorem D_HT_quotientBaseUpTo_32 : decode b_HT_quotientBaseUpTo 32 = .ok (.invokevirtual 286, 3) := by decide +kernel
theorem D_HT_quotientBaseUpTo_35 : decode b_HT_quotientBaseUpTo 35 = .ok (.iload_n 3, 1) := by decide +kernel
theorem D_HT_quotientBaseUpTo_36 : decode b_HT_quotientBaseUpTo 36 = .ok (.iload_n 2, 1) := by decide +kernel
theorem D_HT_quotientBaseUpTo_37 : decode b_HT_quotientBaseUpTo 37 = .ok (.if_icmp .ne 27, 3) := by decide +kernel
theorem D_HT_quotientBaseUpTo_40 : decode b_HT_quotientBaseUpTo 40 = .ok (.aload_n 0, 1) := by decide +kernel
theorem D_HT_quotientBaseUpTo_41 : decode b_HT_quotientBaseUpTo 41 = .ok (.getfield 46, 3) := by decide +kernel
theorem D_HT_quotientBaseUpTo_44 : decode b_HT_quotientBaseUpTo 44 = .ok (.iload_n 3, 1) := by decide +kernel
theorem D_HT_quotientBaseUpTo_45 : decode b_HT_quotientBaseUpTo 45 = .ok (.aload_n 0, 1) := by decide +kernel
theorem D_HT_quotientBaseUpTo_46 : decode b_HT_quotientBaseUpTo 46 = .ok (.getfield 32, 3) := by decide +kernel
theorem D_HT_quotientBaseUpTo_49 : decode b_HT_quotientBaseUpTo 49 = .ok (.invokevirtual 264, 3) := by decide +kernel
theorem D_HT_quotientBaseUpTo_52 : decode b_HT_quotientBaseUpTo 52 = .ok (.aload_n 0, 1) := by decide +kernel
theorem D_HT_quotientBaseUpTo_53 : decode b_HT_quotientBaseUpTo 53 = .ok (.getfield 66, 3) := by decide +kernel
theorem D_HT_quotientBaseUpTo_56 : decode b_HT_quotientBaseUpTo 56 = .ok (.iload_n 3, 1) := by decide +kernel
theorem D_HT_quotientBaseUpTo_57 : decode b_HT_quotientBaseUpTo 57 = .ok (.aload_n 0, 1) := by decide +kernel
theorem D_HT_quotientBaseUpTo_58 : decode b_HT_quotientBaseUpTo 58 = .ok (.getfield 32, 3) := by decide +kernel
theorem D_HT_quotientBaseUpTo_61 : decode b_HT_quotientBaseUpTo 61 = .ok (.invokevirtual 299, 3) := by decide +kernel
theorem D_HT_quotientBaseUpTo_64 : decode b_HT_quotientBaseUpTo 64 = .ok (.aload_n 0, 1) := by decide +kernel
theorem D_HT_quotientBaseUpTo_65 : decode b_HT_quotientBaseUpTo 65 = .ok (.getfield 66, 3) := by decide +kernel
theorem D_HT_quotientBaseUpTo_68 : decode b_HT_quotientBaseUpTo 68 = .ok (.iload_n 3, 1) := by decide +kernel
theorem D_HT_quotientBaseUpTo_69 : decode b_HT_quotientBaseUpTo 69 = .ok (.invokevirtual 290, 3) := by decide +kernel
theorem D_HT_quotientBaseUpTo_72 : decode b_HT_quotientBaseUpTo 72 = .ok (.iinc 3 1, 3) := by decide +kernel
theorem D_HT_quotientBaseUpTo_75 : decode b_HT_quotientBaseUpTo 75 = .ok (.goto (-65), 3) := by decide +kernel
theorem D_HT_quotientBaseUpTo_78 : decode b_HT_quotientBaseUpTo 78 = .ok (.aload_n 0, 1) := by decide +kernel
theorem D_HT_quotientBaseUpTo_79 : decode b_HT_quotientBaseUpTo 79 = .ok (.getfield 66, 3) := by decide +kernel
theorem D_HT_quotientBaseUpTo_82 : decode b_HT_quotientBaseUpTo 82 = .ok (.areturn, 1) := by decide +kernel
def B_HT_quotientBaseUpTo_64 (k10 : Nat → Int32 → Int32 → Int32 → Mem → Prop) (post : Nat → Mem → Prop) (a0 : Nat) (x1 : Int32) (x2 : Int32) (x3 : Int32) (M : Mem) : Prop := (isK M a0 6 ∧ ∃ q65, gR M a0 9 = some q65 ∧ isK M q65 0 ∧ T_Ba_close q65 x3 M (fun M69 => k10 a0 x1 x2 (x3 + 1) M69))
set_option maxRecDepth 20000 in
theorem Z_HT_quotientBaseUpTo_64 {x : Ctx} {post : Nat → Mem → Prop} (C : Ok x b_HT_quotientBaseUpTo 4 "HeapTower") (hR : (xR x).frames = 5 ∧ (xR x).locals = 131) (Bd : Bdg x 0) {z : Nat} (Rt : RetRD x (.object "HeapTower$Base") post z) {k10 : Nat → Int32 → Int32 → Int32 → Mem → Prop} (K10 : ∀ x', Sm x x' → ∀ (a0 : Nat) (x1 : Int32) (x2 : Int32) (x3 : Int32) (M : Mem), nC M + xg x' ≤ 2800 → k10 a0 x1 x2 x3 M → J x' 4 10 [(0, .ref (xd x' a0)), (1, .int x1), (2, .int x2), (3, .int x3)] [] (iC x' M) (iS 0 x' M) M) (a0 : Nat) (x1 : Int32) (x2 : Int32) (x3 : Int32) (M : Mem) (hN : nC M + xg x ≤ 2800) (h : B_HT_quotientBaseUpTo_64 k10 post a0 x1 x2 x3 M) : J x 4 64 [(0, .ref (xd x a0)), (1, .int x1), (2, .int x2), (3, .int x3)] [] (iC x M) (iS 0 x M) M := by
  unfold B_HT_quotientBaseUpTo_64 at h
  refine J_aload_n C 0 D_HT_quotientBaseUpTo_64 rfl rfl ?_
  obtain ⟨c_65, q65, e_65, h⟩ := h
  refine J_getR C fl_HT_66 D_HT_quotientBaseUpTo_65 c_65 e_65 ?_
  refine J_iload_n C 3 D_HT_quotientBaseUpTo_68 rfl rfl ?_
  obtain ⟨c_69, h⟩ := h
  refine JS_callVv C Bd hN ml_HT_290 (S_Ba_close _ _ _ _ h) ⟨rfl, rfl⟩ (by rw [hR.1, hR.2]; decide) rfl c_69 rfl (Nat.le_of_ble_eq_true rfl) D_HT_quotientBaseUpTo_69 (fun M69 hN h => ?_)
  refine J_iinc (v := x3 + 1) (lv' := [(3, .int (x3 + 1)), (0, .ref (xd x a0)), (1, .int x1), (2, .int x2)]) C 3 3 D_HT_quotientBaseUpTo_72 rfl rfl (by decide) rfl ?_
  refine J_goto (tgt := 10) C D_HT_quotientBaseUpTo_75 (by decide) ?_
  exact J_sub [1, 2, 3, 0] rfl (K10 x (Sm.rf x) _ _ _ _ _ hN h)
def B_HT_quotientBaseUpTo_10 (k10 : Nat → Int32 → Int32 → Int32 → Mem → Prop) (post : Nat → Mem → Prop) (a0 : Nat) (x1 : Int32) (x2 : Int32) (x3 : Int32) (M : Mem) : Prop := ((x1 < x3 → (isK M a0 6 ∧ ∃ q79, gR M a0 9 = some q79 ∧ post q79 M)) ∧ (¬ x1 < x3 → (isK M a0 6 ∧ ∃ q16, gR M a0 9 = some q16 ∧ isK M q16 0 ∧ isK M a0 6 ∧ T_Ba_open q16 x3 M (fun M20 => isK M20 a0 6 ∧ isK M20 a0 6 ∧ ∃ q24, gR M20 a0 10 = some q24 ∧ isK M20 a0 6 ∧ ∃ q28, gR M20 a0 9 = some q28 ∧ isK M20 q24 1 ∧ T_He_offerRows q24 q28 x3 M20 (fun M32 => (¬ x3 = x2 → (B_HT_quotientBaseUpTo_64 k10 post a0 x1 x2 x3 M32)) ∧ (x3 = x2 → (isK M32 a0 6 ∧ ∃ q41, gR M32 a0 5 = some q41 ∧ isK M32 a0 6 ∧ ∃ q46, gR M32 a0 3 = some q46 ∧ isK M32 q41 3 ∧ T_Po_loadPart q41 x3 q46 M32 (fun M49 => isK M49 a0 6 ∧ ∃ q53, gR M49 a0 9 = some q53 ∧ isK M49 a0 6 ∧ ∃ q58, gR M49 a0 3 = some q58 ∧ isK M49 q53 0 ∧ T_Ba_offer q53 x3 q58 M49 (fun M61 => B_HT_quotientBaseUpTo_64 k10 post a0 x1 x2 x3 M61)))))))))
set_option maxRecDepth 20000 in
theorem Z_HT_quotientBaseUpTo_10 {x : Ctx} {post : Nat → Mem → Prop} (C : Ok x b_HT_quotientBaseUpTo 4 "HeapTower") (hR : (xR x).frames = 5 ∧ (xR x).locals = 131) (Bd : Bdg x 0) {z : Nat} (Rt : RetRD x (.object "HeapTower$Base") post z) {k10 : Nat → Int32 → Int32 → Int32 → Mem → Prop} (K10 : ∀ x', Sm x x' → ∀ (a0 : Nat) (x1 : Int32) (x2 : Int32) (x3 : Int32) (M : Mem), nC M + xg x' ≤ 2800 → k10 a0 x1 x2 x3 M → J x' 4 10 [(0, .ref (xd x' a0)), (1, .int x1), (2, .int x2), (3, .int x3)] [] (iC x' M) (iS 0 x' M) M) (a0 : Nat) (x1 : Int32) (x2 : Int32) (x3 : Int32) (M : Mem) (hN : nC M + xg x ≤ 2800) (h : B_HT_quotientBaseUpTo_10 k10 post a0 x1 x2 x3 M) : J x 4 10 [(0, .ref (xd x a0)), (1, .int x1), (2, .int x2), (3, .int x3)] [] (iC x M) (iS 0 x M) M := by
  unfold B_HT_quotientBaseUpTo_10 at h
  refine J_iload_n C 3 D_HT_quotientBaseUpTo_10 rfl rfl ?_
  refine J_iload_n C 1 D_HT_quotientBaseUpTo_11 rfl rfl ?_
  refine J_icmp_gt (tgt := 78) C D_HT_quotientBaseUpTo_12 (by decide) (fun c_12 => ?_) (fun c_12 => ?_)
  · have h := h.1 c_12
    refine J_aload_n C 0 D_HT_quotientBaseUpTo_78 rfl rfl ?_
    obtain ⟨c_79, q79, e_79, h⟩ := h
    refine J_getR C fl_HT_66 D_HT_quotientBaseUpTo_79 c_79 e_79 ?_
    exact JD_aret C Rt hN D_HT_quotientBaseUpTo_82 h
  · have h := h.2 c_12
    refine J_aload_n C 0 D_HT_quotientBaseUpTo_15 rfl rfl ?_
    obtain ⟨c_16, q16, e_16, h⟩ := h
    refine J_getR C fl_HT_66 D_HT_quotientBaseUpTo_16 c_16 e_16 ?_
    refine J_iload_n C 3 D_HT_quotientBaseUpTo_19 rfl rfl ?_
    obtain ⟨c_20, h⟩ := h
    refine J_sub [0, 1, 2, 3] rfl ?_
    obtain ⟨i_20_0, h⟩ := h
    refine JD_callVv C Bd hN ml_HT_283 (S_Ba_open _ _ _ _ hN h) (by rw [hR.1, hR.2]; decide) rfl c_20 rfl (Nat.le_of_ble_eq_true rfl) D_HT_quotientBaseUpTo_20 (fun x ex M20 hN hq h => ?_)
    have C := ex.ok C
    have hR := ex.fr hR
    have Bd := ex.bd Bd
    have Rt := ex.rr Rt
    have K10 := fun x2 s2 => K10 x2 (ex.tr s2)
    obtain ⟨j_20_0, h⟩ := h
    rw [hq a0 6 (by decide) i_20_0 j_20_0]
    refine J_aload_n C 0 D_HT_quotientBaseUpTo_23 rfl rfl ?_
    obtain ⟨c_24, q24, e_24, h⟩ := h
    refine J_getR C fl_HT_74 D_HT_quotientBaseUpTo_24 c_24 e_24 ?_
    refine J_aload_n C 0 D_HT_quotientBaseUpTo_27 rfl rfl ?_
    obtain ⟨c_28, q28, e_28, h⟩ := h
    refine J_getR C fl_HT_66 D_HT_quotientBaseUpTo_28 c_28 e_28 ?_
    refine J_iload_n C 3 D_HT_quotientBaseUpTo_31 rfl rfl ?_
    obtain ⟨c_32, h⟩ := h
    refine JS_callVv C Bd hN ml_HT_286 (S_He_offerRows _ _ _ _ _ h) ⟨rfl, rfl⟩ (by rw [hR.1, hR.2]; decide) rfl c_32 rfl (Nat.le_of_ble_eq_true rfl) D_HT_quotientBaseUpTo_32 (fun M32 hN h => ?_)
    refine J_iload_n C 3 D_HT_quotientBaseUpTo_35 rfl rfl ?_
    refine J_iload_n C 2 D_HT_quotientBaseUpTo_36 rfl rfl ?_
    refine J_icmp_ne (tgt := 64) C D_HT_quotientBaseUpTo_37 (by decide) (fun c_37 => ?_) (fun c_37 => ?_)
    · have h := h.1 c_37
      exact J_sub [0, 1, 2, 3] rfl (Z_HT_quotientBaseUpTo_64 C hR Bd Rt K10 _ _ _ _ _ hN h)
    · have h := h.2 c_37
      refine J_aload_n C 0 D_HT_quotientBaseUpTo_40 rfl rfl ?_
      obtain ⟨c_41, q41, e_41, h⟩ := h
      refine J_getR C fl_HT_46 D_HT_quotientBaseUpTo_41 c_41 e_41 ?_
      refine J_iload_n C 3 D_HT_quotientBaseUpTo_44 rfl rfl ?_
      refine J_aload_n C 0 D_HT_quotientBaseUpTo_45 rfl rfl ?_
      obtain ⟨c_46, q46, e_46, h⟩ := h
      refine J_getR C fl_HT_32 D_HT_quotientBaseUpTo_46 c_46 e_46 ?_
      obtain ⟨c_49, h⟩ := h
      refine JS_callVv C Bd hN ml_HT_264 (S_Po_loadPart _ _ _ _ _ h) ⟨rfl, rfl⟩ (by rw [hR.1, hR.2]; decide) rfl c_49 rfl (Nat.le_of_ble_eq_true rfl) D_HT_quotientBaseUpTo_49 (fun M49 hN h => ?_)
      refine J_aload_n C 0 D_HT_quotientBaseUpTo_52 rfl rfl ?_
      obtain ⟨c_53, q53, e_53, h⟩ := h
      refine J_getR C fl_HT_66 D_HT_quotientBaseUpTo_53 c_53 e_53 ?_
      refine J_iload_n C 3 D_HT_quotientBaseUpTo_56 rfl rfl ?_
      refine J_aload_n C 0 D_HT_quotientBaseUpTo_57 rfl rfl ?_
      obtain ⟨c_58, q58, e_58, h⟩ := h
      refine J_getR C fl_HT_32 D_HT_quotientBaseUpTo_58 c_58 e_58 ?_
      obtain ⟨c_61, h⟩ := h
      refine JS_callVv C Bd hN ml_HT_299 (S_Ba_offer _ _ _ _ _ h) ⟨rfl, rfl⟩ (by rw [hR.1, hR.2]; decide) rfl c_61 rfl (Nat.le_of_ble_eq_true rfl) D_HT_quotientBaseUpTo_61 (fun M61 hN h => ?_)
      exact J_sub [0, 1, 2, 3] rfl (Z_HT_quotientBaseUpTo_64 C hR Bd Rt K10 _ _ _ _ _ hN h)
def L_HT_quotientBaseUpTo_10 (post : Nat → Mem → Prop) : Nat → Nat → Int32 → Int32 → Int32 → Mem → Prop
  | 0, _, _, _, _, _ => False
  | n + 1, a0, x1, x2, x3, M => B_HT_quotientBaseUpTo_10 (L_HT_quotientBaseUpTo_10 post n) post a0 x1 x2 x3 M
theorem Y_HT_quotientBaseUpTo_10 {x : Ctx} {post : Nat → Mem → Prop} (C : Ok x b_HT_quotientBaseUpTo 4 "HeapTower") (hR : (xR x).frames = 5 ∧ (xR x).locals = 131) (Bd : Bdg x 0) {z : Nat} (Rt : RetRD x (.object "HeapTower$Base") post z) : ∀ (n : Nat) (x' : Ctx), Sm x x' → ∀ (a0 : Nat) (x1 : Int32) (x2 : Int32) (x3 : Int32) (M : Mem), nC M + xg x' ≤ 2800 → L_HT_quotientBaseUpTo_10 post n a0 x1 x2 x3 M → J x' 4 10 [(0, .ref (xd x' a0)), (1, .int x1), (2, .int x2), (3, .int x3)] [] (iC x' M) (iS 0 x' M) M := by
  intro n
  induction n with
  | zero => intro x' ex a0 x1 x2 x3 M hN h; exact h.elim
  | succ n ih => intro x' ex a0 x1 x2 x3 M hN h; exact Z_HT_quotientBaseUpTo_10 (ex.ok C) (ex.fr hR) (ex.bd Bd) (ex.rr Rt) (fun x2 s2 => ih x2 (ex.tr s2)) _ _ _ _ _ hN h
def T_HT_quotientBaseUpTo (a0 : Nat) (x1 : Int32) (x2 : Int32) (M : Mem) (post : Nat → Mem → Prop) : Prop := (isK M a0 6 ∧ ∃ q1, gR M a0 9 = some q1 ∧ isK M q1 0 ∧ T_Ba_reached q1 M (fun r4 M4 => ∃ n, L_HT_quotientBaseUpTo_10 post n a0 x1 x2 (r4 + 1) M4))
set_option maxRecDepth 20000 in
theorem S_HT_quotientBaseUpTo {l : Launch} {D : va_G} {B t g : Nat} {d : Nat → Nat} {ac : Nat → ClassId} (a0 : Nat) (x1 : Int32) (x2 : Int32) (M : Mem) (post : Nat → Mem → Prop) (hN : nC M + g ≤ 2800) (h : T_HT_quotientBaseUpTo a0 x1 x2 M post) : Met l y_HT_quotientBaseUpTo w_HT_quotientBaseUpTo (rmD 5 131 (nC M + g)) (va_Pc [.ref (d a0), .int x1, .int x2] (PRE D B d g t ac M)) (QRD D B ac post) (2800 - (nC M + g)) (2560 * (2800 - (nC M + g))) (AB B) := by
  refine met_rD (by decide +kernel) (Or.inl ⟨_, rfl⟩) (Nat.le_of_ble_eq_true rfl) hN (fun x h1 hR h3 h4 h5 h6 h7 h8 C Bd Rt hN => ?_)
  subst h3 h4 h5 h6 h7 h8
  unfold T_HT_quotientBaseUpTo at h
  show J x 4 0 [(0, .ref (xd x a0)), (1, .int x1), (2, .int x2)] [] (iC x M) (iS 0 x M) M
  refine J_aload_n C 0 D_HT_quotientBaseUpTo_0 rfl rfl ?_
  obtain ⟨c_1, q1, e_1, h⟩ := h
  refine J_getR C fl_HT_66 D_HT_quotientBaseUpTo_1 c_1 e_1 ?_
  obtain ⟨c_4, h⟩ := h
  refine JS_callVi C Bd hN ml_HT_280 (S_Ba_reached _ _ _ h) ⟨rfl, rfl⟩ (by rw [hR.1, hR.2]; decide) rfl c_4 rfl (Nat.le_of_ble_eq_true rfl) D_HT_quotientBaseUpTo_4 (fun r4 M4 hN h => ?_)
  refine J_iconst (v := 1) C D_HT_quotientBaseUpTo_7 rfl ?_
  refine J_iadd C D_HT_quotientBaseUpTo_8 ?_
  refine J_istore_n (lv' := [(3, .int (r4 + 1)), (0, .ref (xd x a0)), (1, .int x1), (2, .int x2)]) C 3 D_HT_quotientBaseUpTo_9 rfl (by decide) rfl ?_
  obtain ⟨n, h⟩ := h
  exact J_sub [1, 2, 3, 0] rfl (Y_HT_quotientBaseUpTo_10 C hR Bd Rt  n x (Sm.rf x) _ _ _ _ _ hN h)
theorem D_HT_quotient_0 : decode b_HT_quotient 0 = .ok (.aload_n 0, 1) := by decide +kernel
theorem D_HT_quotient_1 : decode b_HT_quotient 1 = .ok (.getfield 46, 3) := by decide +kernel
theorem D_HT_quotient_4 : decode b_HT_quotient 4 = .ok (.invokevirtual 138, 3) := by decide +kernel
theorem D_HT_quotient_7 : decode b_HT_quotient 7 = .ok (.istore_n 2, 1) := by decide +kernel
theorem D_HT_quotient_8 : decode b_HT_quotient 8 = .ok (.aload_n 0, 1) := by decide +kernel
theorem D_HT_quotient_9 : decode b_HT_quotient 9 = .ok (.getfield 46, 3) := by decide +kernel
theorem D_HT_quotient_12 : decode b_HT_quotient 12 = .ok (.invokevirtual 141, 3) := by decide +kernel
theorem D_HT_quotient_15 : decode b_HT_quotient 15 = .ok (.ifCond .eq 19, 3) := by decide +kernel
theorem D_HT_quotient_18 : decode b_HT_quotient 18 = .ok (.iload_n 2, 1) := by decide +kernel
theorem D_HT_quotient_19 : decode b_HT_quotient 19 = .ok (.ifCond .lt 15, 3) := by decide +kernel
theorem D_HT_quotient_22 : decode b_HT_quotient 22 = .ok (.iload_n 1, 1) := by decide +kernel
theorem D_HT_quotient_23 : decode b_HT_quotient 23 = .ok (.ifCond .lt 11, 3) := by decide +kernel
theorem D_HT_quotient_26 : decode b_HT_quotient 26 = .ok (.iload_n 1, 1) := by decide +kernel
theorem D_HT_quotient_27 : decode b_HT_quotient 27 = .ok (.bipush 10, 2) := by decide +kernel
theorem D_HT_quotient_29 : decode b_HT_quotient 29 = .ok (.iload_n 2, 1) := by decide +kernel
theorem D_HT_quotient_30 : decode b_HT_quotient 30 = .ok (.isub, 1) := by decide +kernel
theorem D_HT_quotient_31 : decode b_HT_quotient 31 = .ok (.if_icmp .le 6, 3) := by decide +kernel
theorem D_HT_quotient_34 : decode b_HT_quotient 34 = .ok (.ldc 85, 2) := by decide +kernel
theorem D_HT_quotient_36 : decode b_HT_quotient 36 = .ok (.ireturn, 1) := by decide +kernel
theorem D_HT_quotient_37 : decode b_HT_quotient 37 = .ok (.iload_n 1, 1) := by decide +kernel
theorem D_HT_quotient_38 : decode b_HT_quotient 38 = .ok (.iload_n 2, 1) := by decide +kernel
theorem D_HT_quotient_39 : decode b_HT_quotient 39 = .ok (.iadd, 1) := by decide +kernel
theorem D_HT_quotient_40 : decode b_HT_quotient 40 = .ok (.istore_n 3, 1) := by decide +kernel
theorem D_HT_quotient_41 : decode b_HT_quotient 41 = .ok (.aload_n 0, 1) := by decide +kernel
theorem D_HT_quotient_42 : decode b_HT_quotient 42 = .ok (.getfield 10, 3) := by decide +kernel
theorem D_HT_quotient_45 : decode b_HT_quotient 45 = .ok (.iload_n 1, 1) := by decide +kernel
theorem D_HT_quotient_46 : decode b_HT_quotient 46 = .ok (.invokevirtual 213, 3) := by decide +kernel
theorem D_HT_quotient_49 : decode b_HT_quotient 49 = .ok (.aload_n 0, 1) := by decide +kernel
theorem D_HT_quotient_50 : decode b_HT_quotient 50 = .ok (.getfield 74, 3) := by decide +kernel
theorem D_HT_quotient_53 : decode b_HT_quotient 53 = .ok (.iload_n 3, 1) := by decide +kernel
theorem D_HT_quotient_54 : decode b_HT_quotient 54 = .ok (.invokevirtual 178, 3) := by decide +kernel
theorem D_HT_quotient_57 : decode b_HT_quotient 57 = .ok (.iload_n 3, 1) := by decide +kernel
theorem D_HT_quotient_58 : decode b_HT_quotient 58 = .ok (.invokevirtual 197, 3) := by decide +kernel
theorem D_HT_quotient_61 : decode b_HT_quotient 61 = .ok (.isub, 1) := by decide +kernel
theorem D_HT_quotient_62 : decode b_HT_quotient 62 = .ok (.aload_n 0, 1) := by decide +kernel
theorem D_HT_quotient_63 : decode b_HT_quotient 63 = .ok (.iload_n 3, 1) := by decide +kernel
theorem D_HT_quotient_64 : decode b_HT_quotient 64 = .ok (.iload_n 2, 1) := by decide +kernel
theorem D_HT_quotient_65 : decode b_HT_quotient 65 = .ok (.invokevirtual 216, 3) := by decide +kernel
theorem D_HT_quotient_68 : decode b_HT_quotient 68 = .ok (.iload_n 3, 1) := by decide +kernel
theorem D_HT_quotient_69 : decode b_HT_quotient 69 = .ok (.invokevirtual 197, 3) := by decide +kernel
theorem D_HT_quotient_72 : decode b_HT_quotient 72 = .ok (.iadd, 1) := by decide +kernel
theorem D_HT_quotient_73 : decode b_HT_quotient 73 = .ok (.ireturn, 1) := by decide +kernel
def B_HT_quotient_34 (post : Int32 → Mem → Prop) (M : Mem) : Prop := (post ((-1000000)) M)
set_option maxRecDepth 20000 in
theorem Z_HT_quotient_34 {x : Ctx} {post : Int32 → Mem → Prop} (C : Ok x b_HT_quotient 4 "HeapTower") (hR : (xR x).frames = 6 ∧ (xR x).locals = 154) (Bd : Bdg x 0) {z : Nat} (Rt : RetID x .int post z) (M : Mem) (hN : nC M + xg x ≤ 2800) (h : B_HT_quotient_34 post M) : J x 4 34 [] [] (iC x M) (iS 0 x M) M := by
  unfold B_HT_quotient_34 at h
  refine J_ldc (v := (-1000000)) C D_HT_quotient_34 kw_HT_85 ?_
  exact JD_iret C Rt hN D_HT_quotient_36 rfl h
def T_HT_quotient (a0 : Nat) (x1 : Int32) (M : Mem) (post : Int32 → Mem → Prop) : Prop := (isK M a0 6 ∧ ∃ q1, gR M a0 5 = some q1 ∧ isK M q1 3 ∧ T_Po_degree q1 M (fun r4 M4 => isK M4 a0 6 ∧ ∃ q9, gR M4 a0 5 = some q9 ∧ isK M4 q9 3 ∧ T_Po_isEven q9 M4 (fun r12 M12 => (r12 = 0 → (B_HT_quotient_34 post M12)) ∧ (¬ r12 = 0 → ((r4 < 0 → (B_HT_quotient_34 post M12)) ∧ (¬ r4 < 0 → ((x1 < 0 → (B_HT_quotient_34 post M12)) ∧ (¬ x1 < 0 → ((x1 ≤ (10 - r4) → (isK M12 a0 6 ∧ ∃ q42, gR M12 a0 0 = some q42 ∧ isK M12 q42 4 ∧ T_Pr_amount q42 x1 M12 (fun r46 M46 => isK M46 a0 6 ∧ ∃ q50, gR M46 a0 10 = some q50 ∧ isK M46 q50 1 ∧ isK M46 a0 6 ∧ T_He_baseUpTo q50 (x1 + r4) M46 (fun r54 M54 => isK M54 a0 6 ∧ isK M54 r54 0 ∧ T_Ba_standardCount r54 (x1 + r4) M54 (fun r58 M58 => isK M58 a0 6 ∧ T_HT_quotientBaseUpTo a0 (x1 + r4) r4 M58 (fun r65 M65 => isK M65 r65 0 ∧ T_Ba_standardCount r65 (x1 + r4) M65 (fun r69 M69 => post ((r46 - r58) + r69) M69))))))) ∧ (¬ x1 ≤ (10 - r4) → (B_HT_quotient_34 post M12)))))))))))
set_option maxRecDepth 20000 in
theorem S_HT_quotient {l : Launch} {D : va_G} {B t g : Nat} {d : Nat → Nat} {ac : Nat → ClassId} (a0 : Nat) (x1 : Int32) (M : Mem) (post : Int32 → Mem → Prop) (hN : nC M + g ≤ 2800) (h : T_HT_quotient a0 x1 M post) : Met l y_HT_quotient w_HT_quotient (rmD 6 154 (nC M + g)) (va_Pc [.ref (d a0), .int x1] (PRE D B d g t ac M)) (QID D B ac post) (2800 - (nC M + g)) (2560 * (2800 - (nC M + g))) (AB B) := by
  refine met_iD (by decide +kernel) (Nat.le_of_ble_eq_true rfl) hN (fun x h1 hR h3 h4 h5 h6 h7 h8 C Bd Rt hN => ?_)
  subst h3 h4 h5 h6 h7 h8
  unfold T_HT_quotient at h
  show J x 4 0 [(0, .ref (xd x a0)), (1, .int x1)] [] (iC x M) (iS 0 x M) M
  refine J_aload_n C 0 D_HT_quotient_0 rfl rfl ?_
  obtain ⟨c_1, q1, e_1, h⟩ := h
  refine J_getR C fl_HT_46 D_HT_quotient_1 c_1 e_1 ?_
  obtain ⟨c_4, h⟩ := h
  refine JS_callVi C Bd hN ml_HT_138 (S_Po_degree _ _ _ h) ⟨rfl, rfl⟩ (by rw [hR.1, hR.2]; decide) rfl c_4 rfl (Nat.le_of_ble_eq_true rfl) D_HT_quotient_4 (fun r4 M4 hN h => ?_)
  refine J_istore_n (lv' := [(2, .int r4), (0, .ref (xd x a0)), (1, .int x1)]) C 2 D_HT_quotient_7 rfl (by decide) rfl ?_
  refine J_aload_n C 0 D_HT_quotient_8 rfl rfl ?_
  obtain ⟨c_9, q9, e_9, h⟩ := h
  refine J_getR C fl_HT_46 D_HT_quotient_9 c_9 e_9 ?_
  obtain ⟨c_12, h⟩ := h
  refine JS_callVi C Bd hN ml_HT_141 (S_Po_isEven _ _ _ h) ⟨rfl, rfl⟩ (by rw [hR.1, hR.2]; decide) rfl c_12 rfl (Nat.le_of_ble_eq_true rfl) D_HT_quotient_12 (fun r12 M12 hN h => ?_)
  refine J_if_eq (tgt := 34) C D_HT_quotient_15 (by decide) (fun c_15 => ?_) (fun c_15 => ?_)
  · have h := h.1 c_15
    exact J_sub [] rfl (Z_HT_quotient_34 C hR Bd Rt  _ hN h)
  · have h := h.2 c_15
    refine J_iload_n C 2 D_HT_quotient_18 rfl rfl ?_
    refine J_if_lt (tgt := 34) C D_HT_quotient_19 (by decide) (fun c_19 => ?_) (fun c_19 => ?_)
    · have h := h.1 c_19
      exact J_sub [] rfl (Z_HT_quotient_34 C hR Bd Rt  _ hN h)
    · have h := h.2 c_19
      refine J_iload_n C 1 D_HT_quotient_22 rfl rfl ?_
      refine J_if_lt (tgt := 34) C D_HT_quotient_23 (by decide) (fun c_23 => ?_) (fun c_23 => ?_)
      · have h := h.1 c_23
        exact J_sub [] rfl (Z_HT_quotient_34 C hR Bd Rt  _ hN h)
      · have h := h.2 c_23
        refine J_iload_n C 1 D_HT_quotient_26 rfl rfl ?_
        refine J_bipush (v := 10) C D_HT_quotient_27 rfl ?_
        refine J_iload_n C 2 D_HT_quotient_29 rfl rfl ?_
        refine J_isub C D_HT_quotient_30 ?_
        refine J_icmp_le (tgt := 37) C D_HT_quotient_31 (by decide) (fun c_31 => ?_) (fun c_31 => ?_)
        · have h := h.1 c_31
          refine J_iload_n C 1 D_HT_quotient_37 rfl rfl ?_
          refine J_iload_n C 2 D_HT_quotient_38 rfl rfl ?_
          refine J_iadd C D_HT_quotient_39 ?_
          refine J_istore_n (lv' := [(3, .int (x1 + r4)), (2, .int r4), (0, .ref (xd x a0)), (1, .int x1)]) C 3 D_HT_quotient_40 rfl (by decide) rfl ?_
          refine J_aload_n C 0 D_HT_quotient_41 rfl rfl ?_
          obtain ⟨c_42, q42, e_42, h⟩ := h
          refine J_getR C fl_HT_10 D_HT_quotient_42 c_42 e_42 ?_
          refine J_iload_n C 1 D_HT_quotient_45 rfl rfl ?_
          obtain ⟨c_46, h⟩ := h
          refine JS_callVi C Bd hN ml_HT_213 (S_Pr_amount _ _ _ _ h) ⟨rfl, rfl⟩ (by rw [hR.1, hR.2]; decide) rfl c_46 rfl (Nat.le_of_ble_eq_true rfl) D_HT_quotient_46 (fun r46 M46 hN h => ?_)
          refine J_aload_n C 0 D_HT_quotient_49 rfl rfl ?_
          obtain ⟨c_50, q50, e_50, h⟩ := h
          refine J_getR C fl_HT_74 D_HT_quotient_50 c_50 e_50 ?_
          refine J_iload_n C 3 D_HT_quotient_53 rfl rfl ?_
          obtain ⟨c_54, h⟩ := h
          refine J_sub [0, 1, 2] rfl ?_
          obtain ⟨i_54_0, h⟩ := h
          refine JD_callVr C Bd hN ml_HT_178 (S_He_baseUpTo _ _ _ _ hN h) (by rw [hR.1, hR.2]; decide) rfl c_54 rfl (Nat.le_of_ble_eq_true rfl) D_HT_quotient_54 (fun x ex r54 M54 hN hq h => ?_)
          have C := ex.ok C
          have hR := ex.fr hR
          have Bd := ex.bd Bd
          have Rt := ex.ri Rt
          obtain ⟨j_54_0, h⟩ := h
          rw [hq a0 6 (by decide) i_54_0 j_54_0]
          refine J_iload_n C 3 D_HT_quotient_57 rfl rfl ?_
          obtain ⟨c_58, h⟩ := h
          refine JS_callVi C Bd hN ml_HT_197 (S_Ba_standardCount _ _ _ _ h) ⟨rfl, rfl⟩ (by rw [hR.1, hR.2]; decide) rfl c_58 rfl (Nat.le_of_ble_eq_true rfl) D_HT_quotient_58 (fun r58 M58 hN h => ?_)
          refine J_isub C D_HT_quotient_61 ?_
          refine J_aload_n C 0 D_HT_quotient_62 rfl rfl ?_
          refine J_iload_n C 3 D_HT_quotient_63 rfl rfl ?_
          refine J_iload_n C 2 D_HT_quotient_64 rfl rfl ?_
          obtain ⟨c_65, h⟩ := h
          refine J_sub [0] rfl ?_
          refine JD_callVr C Bd hN ml_HT_216 (S_HT_quotientBaseUpTo _ _ _ _ _ hN h) (by rw [hR.1, hR.2]; decide) rfl c_65 rfl (Nat.le_of_ble_eq_true rfl) D_HT_quotient_65 (fun x ex r65 M65 hN hq h => ?_)
          have C := ex.ok C
          have hR := ex.fr hR
          have Bd := ex.bd Bd
          have Rt := ex.ri Rt
          refine J_iload_n C 3 D_HT_quotient_68 rfl rfl ?_
          obtain ⟨c_69, h⟩ := h
          refine JS_callVi C Bd hN ml_HT_197 (S_Ba_standardCount _ _ _ _ h) ⟨rfl, rfl⟩ (by rw [hR.1, hR.2]; decide) rfl c_69 rfl (Nat.le_of_ble_eq_true rfl) D_HT_quotient_69 (fun r69 M69 hN h => ?_)
          refine J_iadd C D_HT_quotient_72 ?_
          exact JD_iret C Rt hN D_HT_quotient_73 rfl h
        · have h := h.2 c_31
          exact J_sub [] rfl (Z_HT_quotient_34 C hR Bd Rt  _ hN h)
theorem D_HT_regular_0 : decode b_HT_regular 0 = .ok (.aload_n 0, 1) := by decide +kernel
theorem D_HT_regular_1 : decode b_HT_regular 1 = .ok (.getfield 46, 3) := by decide +kernel
theorem D_HT_regular_4 : decode b_HT_regular 4 = .ok (.invokevirtual 138, 3) := by decide +kernel
theorem D_HT_regular_7 : decode b_HT_regular 7 = .ok (.istore_n 1, 1) := by decide +kernel
theorem D_HT_regular_8 : decode b_HT_regular 8 = .ok (.aload_n 0, 1) := by decide +kernel
theorem D_HT_regular_9 : decode b_HT_regular 9 = .ok (.getfield 46, 3) := by decide +kernel
theorem D_HT_regular_12 : decode b_HT_regular 12 = .ok (.invokevirtual 141, 3) := by decide +kernel
theorem D_HT_regular_15 : decode b_HT_regular 15 = .ok (.ifCond .eq 7, 3) := by decide +kernel
theorem D_HT_regular_18 : decode b_HT_regular 18 = .ok (.iload_n 1, 1) := by decide +kernel
theorem D_HT_regular_19 : decode b_HT_regular 19 = .ok (.ifCond .ge 6, 3) := by decide +kernel
theorem D_HT_regular_22 : decode b_HT_regular 22 = .ok (.ldc 85, 2) := by decide +kernel
theorem D_HT_regular_24 : decode b_HT_regular 24 = .ok (.ireturn, 1) := by decide +kernel
theorem D_HT_regular_25 : decode b_HT_regular 25 = .ok (.iload_n 1, 1) := by decide +kernel
theorem D_HT_regular_26 : decode b_HT_regular 26 = .ok (.istore_n 2, 1) := by decide +kernel
theorem D_HT_regular_27 : decode b_HT_regular 27 = .ok (.iload_n 2, 1) := by decide +kernel
theorem D_HT_regular_28 : decode b_HT_regular 28 = .ok (.bipush 10, 2) := by decide +kernel
theorem D_HT_regular_30 : decode b_HT_regular 30 = .ok (.if_icmp .gt 50, 3) := by decide +kernel
theorem D_HT_regular_33 : decode b_HT_regular 33 = .ok (.aload_n 0, 1) := by decide +kernel
theorem D_HT_regular_34 : decode b_HT_regular 34 = .ok (.getfield 74, 3) := by decide +kernel
theorem D_HT_regular_37 : decode b_HT_regular 37 = .ok (.iload_n 2, 1) := by decide +kernel
theorem D_HT_regular_38 : decode b_HT_regular 38 = .ok (.invokevirtual 178, 3) := by decide +kernel
theorem D_HT_regular_41 : decode b_HT_regular 41 = .ok (.astore_n 3, 1) := by decide +kernel
theorem D_HT_regular_42 : decode b_HT_regular 42 = .ok (.aload_n 3, 1) := by decide +kernel
theorem D_HT_regular_43 : decode b_HT_regular 43 = .ok (.iload_n 2, 1) := by decide +kernel
theorem D_HT_regular_44 : decode b_HT_regular 44 = .ok (.invokevirtual 197, 3) := by decide +kernel
theorem D_HT_regular_47 : decode b_HT_regular 47 = .ok (.aload_n 0, 1) := by decide +kernel
theorem D_HT_regular_48 : decode b_HT_regular 48 = .ok (.iload_n 2, 1) := by decide +kernel
theorem D_HT_regular_49 : decode b_HT_regular 49 = .ok (.iload_n 1, 1) := by decide +kernel
theorem D_HT_regular_50 : decode b_HT_regular 50 = .ok (.invokevirtual 216, 3) := by decide +kernel
theorem D_HT_regular_53 : decode b_HT_regular 53 = .ok (.iload_n 2, 1) := by decide +kernel
theorem D_HT_regular_54 : decode b_HT_regular 54 = .ok (.invokevirtual 197, 3) := by decide +kernel
theorem D_HT_regular_57 : decode b_HT_regular 57 = .ok (.isub, 1) := by decide +kernel
theorem D_HT_regular_58 : decode b_HT_regular 58 = .ok (.istore 4, 2) := by decide +kernel
theorem D_HT_regular_60 : decode b_HT_regular 60 = .ok (.iload 4, 2) := by decide +kernel
theorem D_HT_regular_62 : decode b_HT_regular 62 = .ok (.aload_n 3, 1) := by decide +kernel
theorem D_HT_regular_63 : decode b_HT_regular 63 = .ok (.iload_n 2, 1) := by decide +kernel
theorem D_HT_regular_64 : decode b_HT_regular 64 = .ok (.iload_n 1, 1) := by decide +kernel
theorem D_HT_regular_65 : decode b_HT_regular 65 = .ok (.isub, 1) := by decide +kernel
theorem D_HT_regular_66 : decode b_HT_regular 66 = .ok (.invokevirtual 197, 3) := by decide +kernel
theorem D_HT_regular_69 : decode b_HT_regular 69 = .ok (.if_icmp .eq 5, 3) := by decide +kernel
theorem D_HT_regular_72 : decode b_HT_regular 72 = .ok (.iconst 0, 1) := by decide +kernel
theorem D_HT_regular_73 : decode b_HT_regular 73 = .ok (.ireturn, 1) := by decide +kernel
theorem D_HT_regular_74 : decode b_HT_regular 74 = .ok (.iinc 2 1, 3) := by decide +kernel
theorem D_HT_regular_77 : decode b_HT_regular 77 = .ok (.goto (-50), 3) := by decide +kernel
theorem D_HT_regular_80 : decode b_HT_regular 80 = .ok (.iconst 1, 1) := by decide +kernel
theorem D_HT_regular_81 : decode b_HT_regular 81 = .ok (.ireturn, 1) := by decide +kernel
def B_HT_regular_27 (k27 : Nat → Int32 → Int32 → Mem → Prop) (post : Int32 → Mem → Prop) (a0 : Nat) (x1 : Int32) (x2 : Int32) (M : Mem) : Prop := ((10 < x2 → (post 1 M)) ∧ (¬ 10 < x2 → (isK M a0 6 ∧ ∃ q34, gR M a0 10 = some q34 ∧ isK M q34 1 ∧ isK M a0 6 ∧ T_He_baseUpTo q34 x2 M (fun r38 M38 => isK M38 a0 6 ∧ isK M38 r38 0 ∧ T_Ba_standardCount r38 x2 M38 (fun r44 M44 => isK M44 a0 6 ∧ isK M44 r38 0 ∧ isK M44 a0 6 ∧ T_HT_quotientBaseUpTo a0 x2 x1 M44 (fun r50 M50 => isK M50 r38 0 ∧ isK M50 a0 6 ∧ isK M50 r50 0 ∧ T_Ba_standardCount r50 x2 M50 (fun r54 M54 => isK M54 r38 0 ∧ T_Ba_standardCount r38 (x2 - x1) M54 (fun r66 M66 => ((r44 - r54) = r66 → (k27 a0 x1 (x2 + 1) M66)) ∧ (¬ (r44 - r54) = r66 → (post 0 M66))))))))))
set_option maxRecDepth 20000 in
theorem Z_HT_regular_27 {x : Ctx} {post : Int32 → Mem → Prop} (C : Ok x b_HT_regular 5 "HeapTower") (hR : (xR x).frames = 6 ∧ (xR x).locals = 154) (Bd : Bdg x 0) {z : Nat} (Rt : RetID x .int post z) {k27 : Nat → Int32 → Int32 → Mem → Prop} (K27 : ∀ x', Sm x x' → ∀ (a0 : Nat) (x1 : Int32) (x2 : Int32) (M : Mem), nC M + xg x' ≤ 2800 → k27 a0 x1 x2 M → J x' 5 27 [(0, .ref (xd x' a0)), (1, .int x1), (2, .int x2)] [] (iC x' M) (iS 0 x' M) M) (a0 : Nat) (x1 : Int32) (x2 : Int32) (M : Mem) (hN : nC M + xg x ≤ 2800) (h : B_HT_regular_27 k27 post a0 x1 x2 M) : J x 5 27 [(0, .ref (xd x a0)), (1, .int x1), (2, .int x2)] [] (iC x M) (iS 0 x M) M := by
  unfold B_HT_regular_27 at h
  refine J_iload_n C 2 D_HT_regular_27 rfl rfl ?_
  refine J_bipush (v := 10) C D_HT_regular_28 rfl ?_
  refine J_icmp_gt (tgt := 80) C D_HT_regular_30 (by decide) (fun c_30 => ?_) (fun c_30 => ?_)
  · have h := h.1 c_30
    refine J_iconst (v := 1) C D_HT_regular_80 rfl ?_
    exact JD_iret C Rt hN D_HT_regular_81 rfl h
  · have h := h.2 c_30
    refine J_aload_n C 0 D_HT_regular_33 rfl rfl ?_
    obtain ⟨c_34, q34, e_34, h⟩ := h
    refine J_getR C fl_HT_74 D_HT_regular_34 c_34 e_34 ?_
    refine J_iload_n C 2 D_HT_regular_37 rfl rfl ?_
    obtain ⟨c_38, h⟩ := h
    refine J_sub [0, 1, 2] rfl ?_
    obtain ⟨i_38_0, h⟩ := h
    refine JD_callVr C Bd hN ml_HT_178 (S_He_baseUpTo _ _ _ _ hN h) (by rw [hR.1, hR.2]; decide) rfl c_38 rfl (Nat.le_of_ble_eq_true rfl) D_HT_regular_38 (fun x ex r38 M38 hN hq h => ?_)
    have C := ex.ok C
    have hR := ex.fr hR
    have Bd := ex.bd Bd
    have Rt := ex.ri Rt
    have K27 := fun x2 s2 => K27 x2 (ex.tr s2)
    obtain ⟨j_38_0, h⟩ := h
    rw [hq a0 6 (by decide) i_38_0 j_38_0]
    refine J_astore_n (lv' := [(3, .ref (xd x r38)), (0, .ref (xd x a0)), (1, .int x1), (2, .int x2)]) C 3 D_HT_regular_41 rfl (by decide) rfl ?_
    refine J_aload_n C 3 D_HT_regular_42 rfl rfl ?_
    refine J_iload_n C 2 D_HT_regular_43 rfl rfl ?_
    obtain ⟨c_44, h⟩ := h
    refine JS_callVi C Bd hN ml_HT_197 (S_Ba_standardCount _ _ _ _ h) ⟨rfl, rfl⟩ (by rw [hR.1, hR.2]; decide) rfl c_44 rfl (Nat.le_of_ble_eq_true rfl) D_HT_regular_44 (fun r44 M44 hN h => ?_)
    refine J_aload_n C 0 D_HT_regular_47 rfl rfl ?_
    refine J_iload_n C 2 D_HT_regular_48 rfl rfl ?_
    refine J_iload_n C 1 D_HT_regular_49 rfl rfl ?_
    obtain ⟨c_50, h⟩ := h
    refine J_sub [0, 1, 2, 3] rfl ?_
    obtain ⟨i_50_0, h⟩ := h
    obtain ⟨i_50_1, h⟩ := h
    refine JD_callVr C Bd hN ml_HT_216 (S_HT_quotientBaseUpTo _ _ _ _ _ hN h) (by rw [hR.1, hR.2]; decide) rfl c_50 rfl (Nat.le_of_ble_eq_true rfl) D_HT_regular_50 (fun x ex r50 M50 hN hq h => ?_)
    have C := ex.ok C
    have hR := ex.fr hR
    have Bd := ex.bd Bd
    have Rt := ex.ri Rt
    have K27 := fun x2 s2 => K27 x2 (ex.tr s2)
    obtain ⟨j_50_0, h⟩ := h
    rw [hq r38 0 (by decide) i_50_0 j_50_0]
    obtain ⟨j_50_1, h⟩ := h
    rw [hq a0 6 (by decide) i_50_1 j_50_1]
    refine J_iload_n C 2 D_HT_regular_53 rfl rfl ?_
    obtain ⟨c_54, h⟩ := h
    refine JS_callVi C Bd hN ml_HT_197 (S_Ba_standardCount _ _ _ _ h) ⟨rfl, rfl⟩ (by rw [hR.1, hR.2]; decide) rfl c_54 rfl (Nat.le_of_ble_eq_true rfl) D_HT_regular_54 (fun r54 M54 hN h => ?_)
    refine J_isub C D_HT_regular_57 ?_
    refine J_istore (lv' := [(4, .int (r44 - r54)), (3, .ref (xd x r38)), (0, .ref (xd x a0)), (1, .int x1), (2, .int x2)]) C 4 D_HT_regular_58 (by decide) rfl ?_
    refine J_iload C 4 D_HT_regular_60 rfl ?_
    refine J_aload_n C 3 D_HT_regular_62 rfl rfl ?_
    refine J_iload_n C 2 D_HT_regular_63 rfl rfl ?_
    refine J_iload_n C 1 D_HT_regular_64 rfl rfl ?_
    refine J_isub C D_HT_regular_65 ?_
    obtain ⟨c_66, h⟩ := h
    refine JS_callVi C Bd hN ml_HT_197 (S_Ba_standardCount _ _ _ _ h) ⟨rfl, rfl⟩ (by rw [hR.1, hR.2]; decide) rfl c_66 rfl (Nat.le_of_ble_eq_true rfl) D_HT_regular_66 (fun r66 M66 hN h => ?_)
    refine J_icmp_eq (tgt := 74) C D_HT_regular_69 (by decide) (fun c_69 => ?_) (fun c_69 => ?_)
    · have h := h.1 c_69
      refine J_iinc (v := x2 + 1) (lv' := [(2, .int (x2 + 1)), (4, .int (r44 - r54)), (3, .ref (xd x r38)), (0, .ref (xd x a0)), (1, .int x1)]) C 2 4 D_HT_regular_74 rfl rfl (by decide) rfl ?_
      refine J_goto (tgt := 27) C D_HT_regular_77 (by decide) ?_
      exact J_sub [3, 4, 0] rfl (K27 x (Sm.rf x) _ _ _ _ hN h)
    · have h := h.2 c_69
      refine J_iconst (v := 0) C D_HT_regular_72 rfl ?_
      exact JD_iret C Rt hN D_HT_regular_73 rfl h
def L_HT_regular_27 (post : Int32 → Mem → Prop) : Nat → Nat → Int32 → Int32 → Mem → Prop
  | 0, _, _, _, _ => False
  | n + 1, a0, x1, x2, M => B_HT_regular_27 (L_HT_regular_27 post n) post a0 x1 x2 M
theorem Y_HT_regular_27 {x : Ctx} {post : Int32 → Mem → Prop} (C : Ok x b_HT_regular 5 "HeapTower") (hR : (xR x).frames = 6 ∧ (xR x).locals = 154) (Bd : Bdg x 0) {z : Nat} (Rt : RetID x .int post z) : ∀ (n : Nat) (x' : Ctx), Sm x x' → ∀ (a0 : Nat) (x1 : Int32) (x2 : Int32) (M : Mem), nC M + xg x' ≤ 2800 → L_HT_regular_27 post n a0 x1 x2 M → J x' 5 27 [(0, .ref (xd x' a0)), (1, .int x1), (2, .int x2)] [] (iC x' M) (iS 0 x' M) M := by
  intro n
  induction n with
  | zero => intro x' ex a0 x1 x2 M hN h; exact h.elim
  | succ n ih => intro x' ex a0 x1 x2 M hN h; exact Z_HT_regular_27 (ex.ok C) (ex.fr hR) (ex.bd Bd) (ex.ri Rt) (fun x2 s2 => ih x2 (ex.tr s2)) _ _ _ _ hN h
def B_HT_regular_22 (post : Int32 → Mem → Prop) (M : Mem) : Prop := (post ((-1000000)) M)
set_option maxRecDepth 20000 in
theorem Z_HT_regular_22 {x : Ctx} {post : Int32 → Mem → Prop} (C : Ok x b_HT_regular 5 "HeapTower") (hR : (xR x).frames = 6 ∧ (xR x).locals = 154) (Bd : Bdg x 0) {z : Nat} (Rt : RetID x .int post z) (M : Mem) (hN : nC M + xg x ≤ 2800) (h : B_HT_regular_22 post M) : J x 5 22 [] [] (iC x M) (iS 0 x M) M := by
  unfold B_HT_regular_22 at h
  refine J_ldc (v := (-1000000)) C D_HT_regular_22 kw_HT_85 ?_
  exact JD_iret C Rt hN D_HT_regular_24 rfl h
def T_HT_regular (a0 : Nat) (M : Mem) (post : Int32 → Mem → Prop) : Prop := (isK M a0 6 ∧ ∃ q1, gR M a0 5 = some q1 ∧ isK M q1 3 ∧ T_Po_degree q1 M (fun r4 M4 => isK M4 a0 6 ∧ ∃ q9, gR M4 a0 5 = some q9 ∧ isK M4 q9 3 ∧ T_Po_isEven q9 M4 (fun r12 M12 => (r12 = 0 → (B_HT_regular_22 post M12)) ∧ (¬ r12 = 0 → ((0 ≤ r4 → (∃ n, L_HT_regular_27 post n a0 r4 r4 M12)) ∧ (¬ 0 ≤ r4 → (B_HT_regular_22 post M12)))))))
set_option maxRecDepth 20000 in
theorem S_HT_regular {l : Launch} {D : va_G} {B t g : Nat} {d : Nat → Nat} {ac : Nat → ClassId} (a0 : Nat) (M : Mem) (post : Int32 → Mem → Prop) (hN : nC M + g ≤ 2800) (h : T_HT_regular a0 M post) : Met l y_HT_regular w_HT_regular (rmD 6 154 (nC M + g)) (va_Pc [.ref (d a0)] (PRE D B d g t ac M)) (QID D B ac post) (2800 - (nC M + g)) (2560 * (2800 - (nC M + g))) (AB B) := by
  refine met_iD (by decide +kernel) (Nat.le_of_ble_eq_true rfl) hN (fun x h1 hR h3 h4 h5 h6 h7 h8 C Bd Rt hN => ?_)
  subst h3 h4 h5 h6 h7 h8
  unfold T_HT_regular at h
  show J x 5 0 [(0, .ref (xd x a0))] [] (iC x M) (iS 0 x M) M
  refine J_aload_n C 0 D_HT_regular_0 rfl rfl ?_
  obtain ⟨c_1, q1, e_1, h⟩ := h
  refine J_getR C fl_HT_46 D_HT_regular_1 c_1 e_1 ?_
  obtain ⟨c_4, h⟩ := h
  refine JS_callVi C Bd hN ml_HT_138 (S_Po_degree _ _ _ h) ⟨rfl, rfl⟩ (by rw [hR.1, hR.2]; decide) rfl c_4 rfl (Nat.le_of_ble_eq_true rfl) D_HT_regular_4 (fun r4 M4 hN h => ?_)
  refine J_istore_n (lv' := [(1, .int r4), (0, .ref (xd x a0))]) C 1 D_HT_regular_7 rfl (by decide) rfl ?_
  refine J_aload_n C 0 D_HT_regular_8 rfl rfl ?_
  obtain ⟨c_9, q9, e_9, h⟩ := h
  refine J_getR C fl_HT_46 D_HT_regular_9 c_9 e_9 ?_
  obtain ⟨c_12, h⟩ := h
  refine JS_callVi C Bd hN ml_HT_141 (S_Po_isEven _ _ _ h) ⟨rfl, rfl⟩ (by rw [hR.1, hR.2]; decide) rfl c_12 rfl (Nat.le_of_ble_eq_true rfl) D_HT_regular_12 (fun r12 M12 hN h => ?_)
  refine J_if_eq (tgt := 22) C D_HT_regular_15 (by decide) (fun c_15 => ?_) (fun c_15 => ?_)
  · have h := h.1 c_15
    exact J_sub [] rfl (Z_HT_regular_22 C hR Bd Rt  _ hN h)
  · have h := h.2 c_15
    refine J_iload_n C 1 D_HT_regular_18 rfl rfl ?_
    refine J_if_ge (tgt := 25) C D_HT_regular_19 (by decide) (fun c_19 => ?_) (fun c_19 => ?_)
    · have h := h.1 c_19
      refine J_iload_n C 1 D_HT_regular_25 rfl rfl ?_
      refine J_istore_n (lv' := [(2, .int r4), (1, .int r4), (0, .ref (xd x a0))]) C 2 D_HT_regular_26 rfl (by decide) rfl ?_
      obtain ⟨n, h⟩ := h
      exact J_sub [2, 1, 0] rfl (Y_HT_regular_27 C hR Bd Rt  n x (Sm.rf x) _ _ _ _ hN h)
    · have h := h.2 c_19
      exact J_sub [] rfl (Z_HT_regular_22 C hR Bd Rt  _ hN h)
theorem D_HT_keep_0 : decode b_HT_keep 0 = .ok (.aload_n 0, 1) := by decide +kernel
theorem D_HT_keep_1 : decode b_HT_keep 1 = .ok (.getfield 78, 3) := by decide +kernel
theorem D_HT_keep_4 : decode b_HT_keep 4 = .ok (.invokevirtual 154, 3) := by decide +kernel
theorem D_HT_keep_7 : decode b_HT_keep 7 = .ok (.istore_n 1, 1) := by decide +kernel
theorem D_HT_keep_8 : decode b_HT_keep 8 = .ok (.aload_n 0, 1) := by decide +kernel
theorem D_HT_keep_9 : decode b_HT_keep 9 = .ok (.getfield 78, 3) := by decide +kernel
theorem D_HT_keep_12 : decode b_HT_keep 12 = .ok (.aload_n 0, 1) := by decide +kernel
theorem D_HT_keep_13 : decode b_HT_keep 13 = .ok (.getfield 74, 3) := by decide +kernel
theorem D_HT_keep_16 : decode b_HT_keep 16 = .ok (.invokevirtual 220, 3) := by decide +kernel
theorem D_HT_keep_19 : decode b_HT_keep 19 = .ok (.aload_n 0, 1) := by decide +kernel
theorem D_HT_keep_20 : decode b_HT_keep 20 = .ok (.getfield 59, 3) := by decide +kernel
theorem D_HT_keep_23 : decode b_HT_keep 23 = .ok (.iconst 0, 1) := by decide +kernel
theorem D_HT_keep_24 : decode b_HT_keep 24 = .ok (.invokevirtual 224, 3) := by decide +kernel
theorem D_HT_keep_27 : decode b_HT_keep 27 = .ok (.aload_n 0, 1) := by decide +kernel
theorem D_HT_keep_28 : decode b_HT_keep 28 = .ok (.getfield 63, 3) := by decide +kernel
theorem D_HT_keep_31 : decode b_HT_keep 31 = .ok (.iconst 0, 1) := by decide +kernel
theorem D_HT_keep_32 : decode b_HT_keep 32 = .ok (.invokevirtual 224, 3) := by decide +kernel
theorem D_HT_keep_35 : decode b_HT_keep 35 = .ok (.iload_n 1, 1) := by decide +kernel
theorem D_HT_keep_36 : decode b_HT_keep 36 = .ok (.ireturn, 1) := by decide +kernel
abbrev rm_HT_keep : Room := { frames := 4, cells := 0, slots := 0, locals := 84 }
def T_HT_keep (a0 : Nat) (M : Mem) (post : Int32 → Mem → Prop) : Prop := (isK M a0 6 ∧ ∃ q1, gR M a0 11 = some q1 ∧ isK M q1 1 ∧ T_He_size q1 M (fun r4 M4 => isK M4 a0 6 ∧ ∃ q9, gR M4 a0 11 = some q9 ∧ isK M4 a0 6 ∧ ∃ q13, gR M4 a0 10 = some q13 ∧ isK M4 q9 1 ∧ T_He_become q9 q13 M4 (fun M16 => isK M16 a0 6 ∧ ∃ q20, gR M16 a0 7 = some q20 ∧ isK M16 q20 0 ∧ T_Ba_forget q20 0 M16 (fun M24 => isK M24 a0 6 ∧ ∃ q28, gR M24 a0 8 = some q28 ∧ isK M24 q28 0 ∧ T_Ba_forget q28 0 M24 (fun M32 => post r4 M32)))))
set_option maxRecDepth 20000 in
theorem S_HT_keep {l : Launch} {D : va_G} {B t g : Nat} {d : Nat → Nat} {ac : Nat → ClassId}  (a0 : Nat) (M : Mem) (post : Int32 → Mem → Prop) (h : T_HT_keep a0 M post) : Met l y_HT_keep w_HT_keep rm_HT_keep (va_Pc [.ref (d a0)] (PRE D B d g t ac M)) (QI D B d g ac post) 0 0 (AB B) := by
  refine met_i (by decide +kernel) (Nat.le_of_ble_eq_true rfl) (fun x h1 hR h3 h4 h5 h6 h7 h8 C Rt => ?_)
  subst h3 h4 h5 h6 h7 h8
  unfold T_HT_keep at h
  show J x 2 0 [(0, .ref (xd x a0))] [] 0 0 M
  refine J_aload_n C 0 D_HT_keep_0 rfl rfl ?_
  obtain ⟨c_1, q1, e_1, h⟩ := h
  refine J_getR C fl_HT_78 D_HT_keep_1 c_1 e_1 ?_
  obtain ⟨c_4, h⟩ := h
  refine J_callVi C ml_HT_154 (S_He_size _ _ _ h) (by rw [hR]; decide) rfl c_4 rfl (Nat.le_of_ble_eq_true rfl) D_HT_keep_4 (fun r4 M4 h => ?_)
  refine J_istore_n (lv' := [(1, .int r4), (0, .ref (xd x a0))]) C 1 D_HT_keep_7 rfl (by decide) rfl ?_
  refine J_aload_n C 0 D_HT_keep_8 rfl rfl ?_
  obtain ⟨c_9, q9, e_9, h⟩ := h
  refine J_getR C fl_HT_78 D_HT_keep_9 c_9 e_9 ?_
  refine J_aload_n C 0 D_HT_keep_12 rfl rfl ?_
  obtain ⟨c_13, q13, e_13, h⟩ := h
  refine J_getR C fl_HT_74 D_HT_keep_13 c_13 e_13 ?_
  obtain ⟨c_16, h⟩ := h
  refine J_callVv C ml_HT_220 (S_He_become _ _ _ _ h) (by rw [hR]; decide) rfl c_16 rfl (Nat.le_of_ble_eq_true rfl) D_HT_keep_16 (fun M16 h => ?_)
  refine J_aload_n C 0 D_HT_keep_19 rfl rfl ?_
  obtain ⟨c_20, q20, e_20, h⟩ := h
  refine J_getR C fl_HT_59 D_HT_keep_20 c_20 e_20 ?_
  refine J_iconst (v := 0) C D_HT_keep_23 rfl ?_
  obtain ⟨c_24, h⟩ := h
  refine J_callVv C ml_HT_224 (S_Ba_forget _ _ _ _ h) (by rw [hR]; decide) rfl c_24 rfl (Nat.le_of_ble_eq_true rfl) D_HT_keep_24 (fun M24 h => ?_)
  refine J_aload_n C 0 D_HT_keep_27 rfl rfl ?_
  obtain ⟨c_28, q28, e_28, h⟩ := h
  refine J_getR C fl_HT_63 D_HT_keep_28 c_28 e_28 ?_
  refine J_iconst (v := 0) C D_HT_keep_31 rfl ?_
  obtain ⟨c_32, h⟩ := h
  refine J_callVv C ml_HT_224 (S_Ba_forget _ _ _ _ h) (by rw [hR]; decide) rfl c_32 rfl (Nat.le_of_ble_eq_true rfl) D_HT_keep_32 (fun M32 h => ?_)
  refine J_iload_n C 1 D_HT_keep_35 rfl rfl ?_
  exact J_iret C Rt D_HT_keep_36 rfl h
