theorem fl_Ba_21 : Fld "HeapTower$Base" 21 0 7 false true := ⟨R_Ba, F_Ba, 13, t_Ba, iw_Ba, rfl, by decide, rfl, rfl, by decide, rfl, (gw_in (List.mem_of_getElem? (i := 210) (by decide +kernel)) (by decide +kernel)), t_Ba_ok, n_Ba, rfl, (fun h => by cases h), fun _ => Or.inr ⟨_, rfl⟩⟩
theorem ml_Ba_102 : MLV "HeapTower$Base" 102 y_Ro_hasHead b_Ro_hasHead 2 (some .boolean) 1 5 := ⟨List.forall_mem_cons.mpr ⟨(gw_in (List.mem_of_getElem? (i := 613) (by decide +kernel)) (by decide +kernel)), List.forall_mem_cons.mpr ⟨(gw_in (List.mem_of_getElem? (i := 614) (by decide +kernel)) (by decide +kernel)), List.forall_mem_cons.mpr ⟨(gw_in (List.mem_of_getElem? (i := 615) (by decide +kernel)) (by decide +kernel)), List.forall_mem_cons.mpr ⟨(gw_in (List.mem_of_getElem? (i := 70) (by decide +kernel)) (by decide +kernel)), List.forall_mem_cons.mpr ⟨(gw_in (List.mem_of_getElem? (i := 616) (by decide +kernel)) (by decide +kernel)), fun _ h => absurd h List.not_mem_nil⟩⟩⟩⟩⟩, by decide, F_Ro, 8, rfl, by decide⟩
theorem ml_Ba_106 : MLV "HeapTower$Base" 106 y_Ba_append b_Ba_append 8 none 2 0 := ⟨List.forall_mem_cons.mpr ⟨(gw_in (List.mem_of_getElem? (i := 617) (by decide +kernel)) (by decide +kernel)), List.forall_mem_cons.mpr ⟨(gw_in (List.mem_of_getElem? (i := 619) (by decide +kernel)) (by decide +kernel)), List.forall_mem_cons.mpr ⟨(gw_in (List.mem_of_getElem? (i := 18) (by decide +kernel)) (by decide +kernel)), List.forall_mem_cons.mpr ⟨(gw_in (List.mem_of_getElem? (i := 72) (by decide +kernel)) (by decide +kernel)), List.forall_mem_cons.mpr ⟨(gw_in (List.mem_of_getElem? (i := 620) (by decide +kernel)) (by decide +kernel)), fun _ h => absurd h List.not_mem_nil⟩⟩⟩⟩⟩, by decide, F_Ba, 13, rfl, by decide⟩
theorem ml_Ba_110 : MLV "HeapTower$Base" 110 y_Ba_isStandard b_Ba_isStandard 3 (some .boolean) 2 0 := ⟨List.forall_mem_cons.mpr ⟨(gw_in (List.mem_of_getElem? (i := 625) (by decide +kernel)) (by decide +kernel)), List.forall_mem_cons.mpr ⟨(gw_in (List.mem_of_getElem? (i := 626) (by decide +kernel)) (by decide +kernel)), List.forall_mem_cons.mpr ⟨(gw_in (List.mem_of_getElem? (i := 627) (by decide +kernel)) (by decide +kernel)), List.forall_mem_cons.mpr ⟨(gw_in (List.mem_of_getElem? (i := 72) (by decide +kernel)) (by decide +kernel)), List.forall_mem_cons.mpr ⟨(gw_in (List.mem_of_getElem? (i := 628) (by decide +kernel)) (by decide +kernel)), fun _ h => absurd h List.not_mem_nil⟩⟩⟩⟩⟩, by decide, F_Ba, 13, rfl, by decide⟩
theorem ml_Ba_153 : MLV "HeapTower$Base" 153 y_Ro_numberAt b_Ro_numberAt 3 (some .int) 2 5 := ⟨List.forall_mem_cons.mpr ⟨(gw_in (List.mem_of_getElem? (i := 621) (by decide +kernel)) (by decide +kernel)), List.forall_mem_cons.mpr ⟨(gw_in (List.mem_of_getElem? (i := 622) (by decide +kernel)) (by decide +kernel)), List.forall_mem_cons.mpr ⟨(gw_in (List.mem_of_getElem? (i := 623) (by decide +kernel)) (by decide +kernel)), List.forall_mem_cons.mpr ⟨(gw_in (List.mem_of_getElem? (i := 70) (by decide +kernel)) (by decide +kernel)), List.forall_mem_cons.mpr ⟨(gw_in (List.mem_of_getElem? (i := 624) (by decide +kernel)) (by decide +kernel)), fun _ h => absurd h List.not_mem_nil⟩⟩⟩⟩⟩, by decide, F_Ro, 8, rfl, by decide⟩
theorem D_Ba_offer_0 : decode b_Ba_offer 0 = .ok (.aload_n 0, 1) := by decide +kernel
theorem D_Ba_offer_1 : decode b_Ba_offer 1 = .ok (.iload_n 1, 1) := by decide +kernel
theorem D_Ba_offer_2 : decode b_Ba_offer 2 = .ok (.aload_n 2, 1) := by decide +kernel
theorem D_Ba_offer_3 : decode b_Ba_offer 3 = .ok (.invokevirtual 91, 3) := by decide +kernel
theorem D_Ba_offer_6 : decode b_Ba_offer 6 = .ok (.aload_n 0, 1) := by decide +kernel
theorem D_Ba_offer_7 : decode b_Ba_offer 7 = .ok (.getfield 45, 3) := by decide +kernel
theorem D_Ba_offer_10 : decode b_Ba_offer 10 = .ok (.aload_n 2, 1) := by decide +kernel
theorem D_Ba_offer_11 : decode b_Ba_offer 11 = .ok (.invokevirtual 95, 3) := by decide +kernel
theorem D_Ba_offer_14 : decode b_Ba_offer 14 = .ok (.ifCond .eq 13, 3) := by decide +kernel
theorem D_Ba_offer_17 : decode b_Ba_offer 17 = .ok (.aload_n 0, 1) := by decide +kernel
theorem D_Ba_offer_18 : decode b_Ba_offer 18 = .ok (.getfield 24, 3) := by decide +kernel
theorem D_Ba_offer_21 : decode b_Ba_offer 21 = .ok (.iload_n 1, 1) := by decide +kernel
theorem D_Ba_offer_22 : decode b_Ba_offer 22 = .ok (.dup2, 1) := by decide +kernel
theorem D_Ba_offer_23 : decode b_Ba_offer 23 = .ok (.iaload, 1) := by decide +kernel
theorem D_Ba_offer_24 : decode b_Ba_offer 24 = .ok (.iconst 1, 1) := by decide +kernel
theorem D_Ba_offer_25 : decode b_Ba_offer 25 = .ok (.iadd, 1) := by decide +kernel
theorem D_Ba_offer_26 : decode b_Ba_offer 26 = .ok (.iastore, 1) := by decide +kernel
theorem D_Ba_offer_27 : decode b_Ba_offer 27 = .ok (.return_, 1) := by decide +kernel
abbrev rm_Ba_offer : Room := { frames := 2, cells := 0, slots := 0, locals := 60 }
def B_Ba_offer_27 (post : Mem → Prop) (M : Mem) : Prop := (post M)
set_option maxRecDepth 20000 in
theorem Z_Ba_offer_27 {x : Ctx} {post : Mem → Prop} (C : Ok x b_Ba_offer 3 "HeapTower$Base") (hR : xR x = rm_Ba_offer) (Rt : RetV x post 0 0) (M : Mem) (h : B_Ba_offer_27 post M) : J x 3 27 [] [] 0 0 M := by
  unfold B_Ba_offer_27 at h
  exact J_vret C Rt D_Ba_offer_27 h
def T_Ba_offer (a0 : Nat) (x1 : Int32) (a2 : Nat) (M : Mem) (post : Mem → Prop) : Prop := (isK M a0 0 ∧ T_Ba_reduce a0 x1 a2 M (fun M3 => isK M3 a0 0 ∧ ∃ q7, gR M3 a0 2 = some q7 ∧ isK M3 q7 5 ∧ T_Ro_add q7 a2 M3 (fun r11 M11 => (r11 = 0 → (B_Ba_offer_27 post M11)) ∧ (¬ r11 = 0 → (isK M11 a0 0 ∧ ∃ q18, gR M11 a0 8 = some q18 ∧ isA M11 q18 8 x1 ∧ isA M11 q18 8 x1 ∧ B_Ba_offer_27 post (sI M11 q18 (Int32.toNatClampNeg x1) ((gI M11 q18 (Int32.toNatClampNeg x1)) + 1)))))))
set_option maxRecDepth 20000 in
theorem S_Ba_offer {l : Launch} {D : va_G} {B t g : Nat} {d : Nat → Nat} {ac : Nat → ClassId}  (a0 : Nat) (x1 : Int32) (a2 : Nat) (M : Mem) (post : Mem → Prop) (h : T_Ba_offer a0 x1 a2 M post) : Met l y_Ba_offer w_Ba_offer rm_Ba_offer (va_Pc [.ref (d a0), .int x1, .ref (d a2)] (PRE D B d g t ac M)) (QV D B d g ac post) 0 0 (AB B) := by
  refine met_v (by decide +kernel) (Nat.le_of_ble_eq_true rfl) (fun x h1 hR h3 h4 h5 h6 h7 h8 C Rt Nm => ?_)
  subst h3 h4 h5 h6 h7 h8
  unfold T_Ba_offer at h
  show J x 3 0 [(0, .ref (xd x a0)), (1, .int x1), (2, .ref (xd x a2))] [] 0 0 M
  refine J_aload_n C 0 D_Ba_offer_0 rfl rfl ?_
  refine J_iload_n C 1 D_Ba_offer_1 rfl rfl ?_
  refine J_aload_n C 2 D_Ba_offer_2 rfl rfl ?_
  obtain ⟨c_3, h⟩ := h
  refine J_callVv C ml_Ba_91 (S_Ba_reduce _ _ _ _ _ h) (by rw [hR]; decide) rfl c_3 rfl (Nat.le_of_ble_eq_true rfl) D_Ba_offer_3 (fun M3 h => ?_)
  refine J_aload_n C 0 D_Ba_offer_6 rfl rfl ?_
  obtain ⟨c_7, q7, e_7, h⟩ := h
  refine J_getR C fl_Ba_45 D_Ba_offer_7 c_7 e_7 ?_
  refine J_aload_n C 2 D_Ba_offer_10 rfl rfl ?_
  obtain ⟨c_11, h⟩ := h
  refine J_callVi C ml_Ba_95 (S_Ro_add _ _ _ _ h) (by rw [hR]; decide) rfl c_11 rfl (Nat.le_of_ble_eq_true rfl) D_Ba_offer_11 (fun r11 M11 h => ?_)
  refine J_if_eq (tgt := 27) C D_Ba_offer_14 (by decide) (fun c_14 => ?_) (fun c_14 => ?_)
  · have h := h.1 c_14
    exact J_sub [] rfl (Z_Ba_offer_27 C hR Rt  _ h)
  · have h := h.2 c_14
    refine J_aload_n C 0 D_Ba_offer_17 rfl rfl ?_
    obtain ⟨c_18, q18, e_18, h⟩ := h
    refine J_getR C fl_Ba_24 D_Ba_offer_18 c_18 e_18 ?_
    refine J_iload_n C 1 D_Ba_offer_21 rfl rfl ?_
    refine J_dup2 C D_Ba_offer_22 rfl rfl ?_
    obtain ⟨c_23, h⟩ := h
    refine J_iald C D_Ba_offer_23 c_23 ?_
    refine J_iconst (v := 1) C D_Ba_offer_24 rfl ?_
    refine J_iadd C D_Ba_offer_25 ?_
    obtain ⟨c_26, h⟩ := h
    refine J_iast C D_Ba_offer_26 c_26 ?_
    exact J_sub [] rfl (Z_Ba_offer_27 C hR Rt  _ h)
theorem D_Ba_append_0 : decode b_Ba_append 0 = .ok (.aload_n 0, 1) := by decide +kernel
theorem D_Ba_append_1 : decode b_Ba_append 1 = .ok (.getfield 58, 3) := by decide +kernel
theorem D_Ba_append_4 : decode b_Ba_append 4 = .ok (.bipush 66, 2) := by decide +kernel
theorem D_Ba_append_6 : decode b_Ba_append 6 = .ok (.if_icmp .ge 29, 3) := by decide +kernel
theorem D_Ba_append_9 : decode b_Ba_append 9 = .ok (.aload_n 0, 1) := by decide +kernel
theorem D_Ba_append_10 : decode b_Ba_append 10 = .ok (.getfield 9, 3) := by decide +kernel
theorem D_Ba_append_13 : decode b_Ba_append 13 = .ok (.aload_n 0, 1) := by decide +kernel
theorem D_Ba_append_14 : decode b_Ba_append 14 = .ok (.getfield 58, 3) := by decide +kernel
theorem D_Ba_append_17 : decode b_Ba_append 17 = .ok (.iaload, 1) := by decide +kernel
theorem D_Ba_append_18 : decode b_Ba_append 18 = .ok (.aload_n 0, 1) := by decide +kernel
theorem D_Ba_append_19 : decode b_Ba_append 19 = .ok (.getfield 37, 3) := by decide +kernel
theorem D_Ba_append_22 : decode b_Ba_append 22 = .ok (.iload_n 1, 1) := by decide +kernel
theorem D_Ba_append_23 : decode b_Ba_append 23 = .ok (.invokevirtual 61, 3) := by decide +kernel
theorem D_Ba_append_26 : decode b_Ba_append 26 = .ok (.iadd, 1) := by decide +kernel
theorem D_Ba_append_27 : decode b_Ba_append 27 = .ok (.iload_n 2, 1) := by decide +kernel
theorem D_Ba_append_28 : decode b_Ba_append 28 = .ok (.isub, 1) := by decide +kernel
theorem D_Ba_append_29 : decode b_Ba_append 29 = .ok (.sipush 2560, 3) := by decide +kernel
theorem D_Ba_append_32 : decode b_Ba_append 32 = .ok (.if_icmp .le 4, 3) := by decide +kernel
theorem D_Ba_append_35 : decode b_Ba_append 35 = .ok (.return_, 1) := by decide +kernel
theorem D_Ba_append_36 : decode b_Ba_append 36 = .ok (.aload_n 0, 1) := by decide +kernel
theorem D_Ba_append_37 : decode b_Ba_append 37 = .ok (.getfield 37, 3) := by decide +kernel
theorem D_Ba_append_40 : decode b_Ba_append 40 = .ok (.iload_n 1, 1) := by decide +kernel
theorem D_Ba_append_41 : decode b_Ba_append 41 = .ok (.iload_n 2, 1) := by decide +kernel
theorem D_Ba_append_42 : decode b_Ba_append 42 = .ok (.invokevirtual 99, 3) := by decide +kernel
theorem D_Ba_append_45 : decode b_Ba_append 45 = .ok (.istore_n 3, 1) := by decide +kernel
theorem D_Ba_append_46 : decode b_Ba_append 46 = .ok (.aload_n 0, 1) := by decide +kernel
theorem D_Ba_append_47 : decode b_Ba_append 47 = .ok (.getfield 9, 3) := by decide +kernel
theorem D_Ba_append_50 : decode b_Ba_append 50 = .ok (.aload_n 0, 1) := by decide +kernel
theorem D_Ba_append_51 : decode b_Ba_append 51 = .ok (.getfield 58, 3) := by decide +kernel
theorem D_Ba_append_54 : decode b_Ba_append 54 = .ok (.iaload, 1) := by decide +kernel
theorem D_Ba_append_55 : decode b_Ba_append 55 = .ok (.istore 4, 2) := by decide +kernel
theorem D_Ba_append_57 : decode b_Ba_append 57 = .ok (.iload_n 2, 1) := by decide +kernel
theorem D_Ba_append_58 : decode b_Ba_append 58 = .ok (.istore 5, 2) := by decide +kernel
theorem D_Ba_append_60 : decode b_Ba_append 60 = .ok (.iload 5, 2) := by decide +kernel
theorem D_Ba_append_62 : decode b_Ba_append 62 = .ok (.aload_n 0, 1) := by decide +kernel
theorem D_Ba_append_63 : decode b_Ba_append 63 = .ok (.getfield 37, 3) := by decide +kernel
theorem D_Ba_append_66 : decode b_Ba_append 66 = .ok (.iload_n 1, 1) := by decide +kernel
theorem D_Ba_append_67 : decode b_Ba_append 67 = .ok (.invokevirtual 61, 3) := by decide +kernel
theorem D_Ba_append_70 : decode b_Ba_append 70 = .ok (.if_icmp .ge 56, 3) := by decide +kernel
theorem D_Ba_append_73 : decode b_Ba_append 73 = .ok (.aload_n 0, 1) := by decide +kernel
theorem D_Ba_append_74 : decode b_Ba_append 74 = .ok (.getfield 37, 3) := by decide +kernel
theorem D_Ba_append_77 : decode b_Ba_append 77 = .ok (.iload_n 1, 1) := by decide +kernel
theorem D_Ba_append_78 : decode b_Ba_append 78 = .ok (.iload 5, 2) := by decide +kernel
theorem D_Ba_append_80 : decode b_Ba_append 80 = .ok (.invokevirtual 99, 3) := by decide +kernel
theorem D_Ba_append_83 : decode b_Ba_append 83 = .ok (.istore 6, 2) := by decide +kernel
theorem D_Ba_append_85 : decode b_Ba_append 85 = .ok (.aload_n 0, 1) := by decide +kernel
theorem D_Ba_append_86 : decode b_Ba_append 86 = .ok (.getfield 45, 3) := by decide +kernel
theorem D_Ba_append_89 : decode b_Ba_append 89 = .ok (.iload_n 3, 1) := by decide +kernel
theorem D_Ba_append_90 : decode b_Ba_append 90 = .ok (.iload 6, 2) := by decide +kernel
theorem D_Ba_append_92 : decode b_Ba_append 92 = .ok (.invokevirtual 153, 3) := by decide +kernel
theorem D_Ba_append_95 : decode b_Ba_append 95 = .ok (.istore 7, 2) := by decide +kernel
theorem D_Ba_append_97 : decode b_Ba_append 97 = .ok (.iload 7, 2) := by decide +kernel
theorem D_Ba_append_99 : decode b_Ba_append 99 = .ok (.ifCond .eq 21, 3) := by decide +kernel
theorem D_Ba_append_102 : decode b_Ba_append 102 = .ok (.aload_n 0, 1) := by decide +kernel
theorem D_Ba_append_103 : decode b_Ba_append 103 = .ok (.getfield 27, 3) := by decide +kernel
theorem D_Ba_append_106 : decode b_Ba_append 106 = .ok (.iload 4, 2) := by decide +kernel
theorem D_Ba_append_108 : decode b_Ba_append 108 = .ok (.iload 7, 2) := by decide +kernel
theorem D_Ba_append_110 : decode b_Ba_append 110 = .ok (.bipush 7, 2) := by decide +kernel
theorem D_Ba_append_112 : decode b_Ba_append 112 = .ok (.ishl, 1) := by decide +kernel
theorem D_Ba_append_113 : decode b_Ba_append 113 = .ok (.iload 6, 2) := by decide +kernel
theorem D_Ba_append_115 : decode b_Ba_append 115 = .ok (.ior, 1) := by decide +kernel
theorem D_Ba_append_116 : decode b_Ba_append 116 = .ok (.iastore, 1) := by decide +kernel
theorem D_Ba_append_117 : decode b_Ba_append 117 = .ok (.iinc 4 1, 3) := by decide +kernel
theorem D_Ba_append_120 : decode b_Ba_append 120 = .ok (.iinc 5 1, 3) := by decide +kernel
theorem D_Ba_append_123 : decode b_Ba_append 123 = .ok (.goto (-63), 3) := by decide +kernel
theorem D_Ba_append_126 : decode b_Ba_append 126 = .ok (.aload_n 0, 1) := by decide +kernel
theorem D_Ba_append_127 : decode b_Ba_append 127 = .ok (.getfield 15, 3) := by decide +kernel
theorem D_Ba_append_130 : decode b_Ba_append 130 = .ok (.aload_n 0, 1) := by decide +kernel
theorem D_Ba_append_131 : decode b_Ba_append 131 = .ok (.getfield 58, 3) := by decide +kernel
theorem D_Ba_append_134 : decode b_Ba_append 134 = .ok (.iload_n 1, 1) := by decide +kernel
theorem D_Ba_append_135 : decode b_Ba_append 135 = .ok (.iastore, 1) := by decide +kernel
theorem D_Ba_append_136 : decode b_Ba_append 136 = .ok (.aload_n 0, 1) := by decide +kernel
theorem D_Ba_append_137 : decode b_Ba_append 137 = .ok (.dup, 1) := by decide +kernel
theorem D_Ba_append_138 : decode b_Ba_append 138 = .ok (.getfield 58, 3) := by decide +kernel
theorem D_Ba_append_141 : decode b_Ba_append 141 = .ok (.iconst 1, 1) := by decide +kernel
theorem D_Ba_append_142 : decode b_Ba_append 142 = .ok (.iadd, 1) := by decide +kernel
theorem D_Ba_append_143 : decode b_Ba_append 143 = .ok (.putfield 58, 3) := by decide +kernel
theorem D_Ba_append_146 : decode b_Ba_append 146 = .ok (.aload_n 0, 1) := by decide +kernel
theorem D_Ba_append_147 : decode b_Ba_append 147 = .ok (.getfield 9, 3) := by decide +kernel
theorem D_Ba_append_150 : decode b_Ba_append 150 = .ok (.aload_n 0, 1) := by decide +kernel
theorem D_Ba_append_151 : decode b_Ba_append 151 = .ok (.getfield 58, 3) := by decide +kernel
theorem D_Ba_append_154 : decode b_Ba_append 154 = .ok (.iload 4, 2) := by decide +kernel
theorem D_Ba_append_156 : decode b_Ba_append 156 = .ok (.iastore, 1) := by decide +kernel
theorem D_Ba_append_157 : decode b_Ba_append 157 = .ok (.aload_n 0, 1) := by decide +kernel
theorem D_Ba_append_158 : decode b_Ba_append 158 = .ok (.getfield 30, 3) := by decide +kernel
theorem D_Ba_append_161 : decode b_Ba_append 161 = .ok (.getstatic 67, 3) := by decide +kernel
theorem D_Ba_append_164 : decode b_Ba_append 164 = .ok (.iload_n 1, 1) := by decide +kernel
theorem D_Ba_append_165 : decode b_Ba_append 165 = .ok (.iaload, 1) := by decide +kernel
theorem D_Ba_append_166 : decode b_Ba_append 166 = .ok (.iload_n 3, 1) := by decide +kernel
theorem D_Ba_append_167 : decode b_Ba_append 167 = .ok (.iadd, 1) := by decide +kernel
theorem D_Ba_append_168 : decode b_Ba_append 168 = .ok (.aload_n 0, 1) := by decide +kernel
theorem D_Ba_append_169 : decode b_Ba_append 169 = .ok (.getfield 58, 3) := by decide +kernel
theorem D_Ba_append_172 : decode b_Ba_append 172 = .ok (.iastore, 1) := by decide +kernel
theorem D_Ba_append_173 : decode b_Ba_append 173 = .ok (.return_, 1) := by decide +kernel
abbrev rm_Ba_append : Room := { frames := 1, cells := 0, slots := 0, locals := 22 }
def B_Ba_append_120 (k60 : Nat → Int32 → Int32 → Int32 → Int32 → Mem → Prop) (post : Mem → Prop) (a0 : Nat) (x1 : Int32) (x3 : Int32) (x4 : Int32) (x5 : Int32) (M : Mem) : Prop := (k60 a0 x1 x3 x4 (x5 + 1) M)
set_option maxRecDepth 20000 in
theorem Z_Ba_append_120 {x : Ctx} {post : Mem → Prop} (C : Ok x b_Ba_append 8 "HeapTower$Base") (hR : xR x = rm_Ba_append) (Rt : RetV x post 0 0) {k60 : Nat → Int32 → Int32 → Int32 → Int32 → Mem → Prop} (K60 : ∀ (a0 : Nat) (x1 : Int32) (x3 : Int32) (x4 : Int32) (x5 : Int32) (M : Mem), k60 a0 x1 x3 x4 x5 M → J x 8 60 [(0, .ref (xd x a0)), (1, .int x1), (3, .int x3), (4, .int x4), (5, .int x5)] [] 0 0 M) (a0 : Nat) (x1 : Int32) (x3 : Int32) (x4 : Int32) (x5 : Int32) (M : Mem) (h : B_Ba_append_120 k60 post a0 x1 x3 x4 x5 M) : J x 8 120 [(0, .ref (xd x a0)), (1, .int x1), (3, .int x3), (4, .int x4), (5, .int x5)] [] 0 0 M := by
  unfold B_Ba_append_120 at h
  refine J_iinc (v := x5 + 1) (lv' := [(5, .int (x5 + 1)), (0, .ref (xd x a0)), (1, .int x1), (3, .int x3), (4, .int x4)]) C 5 4 D_Ba_append_120 rfl rfl (by decide) rfl ?_
  refine J_goto (tgt := 60) C D_Ba_append_123 (by decide) ?_
  exact J_sub [1, 2, 3, 4, 0] rfl (K60 _ _ _ _ _ _ h)
def B_Ba_append_60 (k60 : Nat → Int32 → Int32 → Int32 → Int32 → Mem → Prop) (post : Mem → Prop) (a0 : Nat) (x1 : Int32) (x3 : Int32) (x4 : Int32) (x5 : Int32) (M : Mem) : Prop := (isK M a0 0 ∧ ∃ q63, gR M a0 0 = some q63 ∧ isK M q63 4 ∧ T_Pr_amount q63 x1 M (fun r67 M67 => (r67 ≤ x5 → (isK M67 a0 0 ∧ ∃ q127, gR M67 a0 5 = some q127 ∧ isK M67 a0 0 ∧ isA M67 q127 8 (gI M67 a0 12) ∧ isK (sI M67 q127 (Int32.toNatClampNeg (gI M67 a0 12)) x1) a0 0 ∧ isK (sI M67 q127 (Int32.toNatClampNeg (gI M67 a0 12)) x1) a0 0 ∧ isK (sI (sI M67 q127 (Int32.toNatClampNeg (gI M67 a0 12)) x1) a0 12 ((gI (sI M67 q127 (Int32.toNatClampNeg (gI M67 a0 12)) x1) a0 12) + 1)) a0 0 ∧ ∃ q147, gR (sI (sI M67 q127 (Int32.toNatClampNeg (gI M67 a0 12)) x1) a0 12 ((gI (sI M67 q127 (Int32.toNatClampNeg (gI M67 a0 12)) x1) a0 12) + 1)) a0 4 = some q147 ∧ isK (sI (sI M67 q127 (Int32.toNatClampNeg (gI M67 a0 12)) x1) a0 12 ((gI (sI M67 q127 (Int32.toNatClampNeg (gI M67 a0 12)) x1) a0 12) + 1)) a0 0 ∧ isA (sI (sI M67 q127 (Int32.toNatClampNeg (gI M67 a0 12)) x1) a0 12 ((gI (sI M67 q127 (Int32.toNatClampNeg (gI M67 a0 12)) x1) a0 12) + 1)) q147 8 (gI (sI (sI M67 q127 (Int32.toNatClampNeg (gI M67 a0 12)) x1) a0 12 ((gI (sI M67 q127 (Int32.toNatClampNeg (gI M67 a0 12)) x1) a0 12) + 1)) a0 12) ∧ isK (sI (sI (sI M67 q127 (Int32.toNatClampNeg (gI M67 a0 12)) x1) a0 12 ((gI (sI M67 q127 (Int32.toNatClampNeg (gI M67 a0 12)) x1) a0 12) + 1)) q147 (Int32.toNatClampNeg (gI (sI (sI M67 q127 (Int32.toNatClampNeg (gI M67 a0 12)) x1) a0 12 ((gI (sI M67 q127 (Int32.toNatClampNeg (gI M67 a0 12)) x1) a0 12) + 1)) a0 12)) x4) a0 0 ∧ ∃ q158, gR (sI (sI (sI M67 q127 (Int32.toNatClampNeg (gI M67 a0 12)) x1) a0 12 ((gI (sI M67 q127 (Int32.toNatClampNeg (gI M67 a0 12)) x1) a0 12) + 1)) q147 (Int32.toNatClampNeg (gI (sI (sI M67 q127 (Int32.toNatClampNeg (gI M67 a0 12)) x1) a0 12 ((gI (sI M67 q127 (Int32.toNatClampNeg (gI M67 a0 12)) x1) a0 12) + 1)) a0 12)) x4) a0 10 = some q158 ∧ vp_in x1 12 ∧ isK (sI (sI (sI M67 q127 (Int32.toNatClampNeg (gI M67 a0 12)) x1) a0 12 ((gI (sI M67 q127 (Int32.toNatClampNeg (gI M67 a0 12)) x1) a0 12) + 1)) q147 (Int32.toNatClampNeg (gI (sI (sI M67 q127 (Int32.toNatClampNeg (gI M67 a0 12)) x1) a0 12 ((gI (sI M67 q127 (Int32.toNatClampNeg (gI M67 a0 12)) x1) a0 12) + 1)) a0 12)) x4) a0 0 ∧ isZ (sI (sI (sI M67 q127 (Int32.toNatClampNeg (gI M67 a0 12)) x1) a0 12 ((gI (sI M67 q127 (Int32.toNatClampNeg (gI M67 a0 12)) x1) a0 12) + 1)) q147 (Int32.toNatClampNeg (gI (sI (sI M67 q127 (Int32.toNatClampNeg (gI M67 a0 12)) x1) a0 12 ((gI (sI M67 q127 (Int32.toNatClampNeg (gI M67 a0 12)) x1) a0 12) + 1)) a0 12)) x4) q158 ((fst (Int32.toNatClampNeg x1)) + x3) ∧ post (sI (sI (sI (sI M67 q127 (Int32.toNatClampNeg (gI M67 a0 12)) x1) a0 12 ((gI (sI M67 q127 (Int32.toNatClampNeg (gI M67 a0 12)) x1) a0 12) + 1)) q147 (Int32.toNatClampNeg (gI (sI (sI M67 q127 (Int32.toNatClampNeg (gI M67 a0 12)) x1) a0 12 ((gI (sI M67 q127 (Int32.toNatClampNeg (gI M67 a0 12)) x1) a0 12) + 1)) a0 12)) x4) q158 (Int32.toNatClampNeg ((fst (Int32.toNatClampNeg x1)) + x3)) (gI (sI (sI (sI M67 q127 (Int32.toNatClampNeg (gI M67 a0 12)) x1) a0 12 ((gI (sI M67 q127 (Int32.toNatClampNeg (gI M67 a0 12)) x1) a0 12) + 1)) q147 (Int32.toNatClampNeg (gI (sI (sI M67 q127 (Int32.toNatClampNeg (gI M67 a0 12)) x1) a0 12 ((gI (sI M67 q127 (Int32.toNatClampNeg (gI M67 a0 12)) x1) a0 12) + 1)) a0 12)) x4) a0 12)))) ∧ (¬ r67 ≤ x5 → (isK M67 a0 0 ∧ ∃ q74, gR M67 a0 0 = some q74 ∧ isK M67 q74 4 ∧ T_Pr_at q74 x1 x5 M67 (fun r80 M80 => isK M80 a0 0 ∧ ∃ q86, gR M80 a0 2 = some q86 ∧ isK M80 q86 5 ∧ T_Ro_numberAt q86 x3 r80 M80 (fun r92 M92 => (r92 = 0 → (B_Ba_append_120 k60 post a0 x1 x3 x4 x5 M92)) ∧ (¬ r92 = 0 → (isK M92 a0 0 ∧ ∃ q103, gR M92 a0 9 = some q103 ∧ isZ M92 q103 x4 ∧ B_Ba_append_120 k60 post a0 x1 x3 (x4 + 1) x5 (sI M92 q103 (Int32.toNatClampNeg x4) (((r92 : Int32) <<< ((7 : Int32) &&& 31)) ||| r80))))))))))
set_option maxRecDepth 20000 in
theorem Z_Ba_append_60 {x : Ctx} {post : Mem → Prop} (C : Ok x b_Ba_append 8 "HeapTower$Base") (hR : xR x = rm_Ba_append) (Rt : RetV x post 0 0) {k60 : Nat → Int32 → Int32 → Int32 → Int32 → Mem → Prop} (K60 : ∀ (a0 : Nat) (x1 : Int32) (x3 : Int32) (x4 : Int32) (x5 : Int32) (M : Mem), k60 a0 x1 x3 x4 x5 M → J x 8 60 [(0, .ref (xd x a0)), (1, .int x1), (3, .int x3), (4, .int x4), (5, .int x5)] [] 0 0 M) (a0 : Nat) (x1 : Int32) (x3 : Int32) (x4 : Int32) (x5 : Int32) (M : Mem) (h : B_Ba_append_60 k60 post a0 x1 x3 x4 x5 M) : J x 8 60 [(0, .ref (xd x a0)), (1, .int x1), (3, .int x3), (4, .int x4), (5, .int x5)] [] 0 0 M := by
  unfold B_Ba_append_60 at h
  refine J_iload C 5 D_Ba_append_60 rfl ?_
  refine J_aload_n C 0 D_Ba_append_62 rfl rfl ?_
  obtain ⟨c_63, q63, e_63, h⟩ := h
  refine J_getR C fl_Ba_37 D_Ba_append_63 c_63 e_63 ?_
  refine J_iload_n C 1 D_Ba_append_66 rfl rfl ?_
  obtain ⟨c_67, h⟩ := h
  refine J_callVi C ml_Ba_61 (S_Pr_amount _ _ _ _ h) (by rw [hR]; decide) rfl c_67 rfl (Nat.le_of_ble_eq_true rfl) D_Ba_append_67 (fun r67 M67 h => ?_)
  refine J_icmp_ge (tgt := 126) C D_Ba_append_70 (by decide) (fun c_70 => ?_) (fun c_70 => ?_)
  · have h := h.1 c_70
    refine J_aload_n C 0 D_Ba_append_126 rfl rfl ?_
    obtain ⟨c_127, q127, e_127, h⟩ := h
    refine J_getR C fl_Ba_15 D_Ba_append_127 c_127 e_127 ?_
    refine J_aload_n C 0 D_Ba_append_130 rfl rfl ?_
    obtain ⟨c_131, h⟩ := h
    refine J_getI C fl_Ba_58 D_Ba_append_131 c_131 ?_
    refine J_iload_n C 1 D_Ba_append_134 rfl rfl ?_
    obtain ⟨c_135, h⟩ := h
    refine J_iast C D_Ba_append_135 c_135 ?_
    refine J_aload_n C 0 D_Ba_append_136 rfl rfl ?_
    refine J_dup C D_Ba_append_137 rfl ?_
    obtain ⟨c_138, h⟩ := h
    refine J_getI C fl_Ba_58 D_Ba_append_138 c_138 ?_
    refine J_iconst (v := 1) C D_Ba_append_141 rfl ?_
    refine J_iadd C D_Ba_append_142 ?_
    obtain ⟨c_143, h⟩ := h
    refine J_putI C fl_Ba_58 D_Ba_append_143 c_143 ?_
    refine J_aload_n C 0 D_Ba_append_146 rfl rfl ?_
    obtain ⟨c_147, q147, e_147, h⟩ := h
    refine J_getR C fl_Ba_9 D_Ba_append_147 c_147 e_147 ?_
    refine J_aload_n C 0 D_Ba_append_150 rfl rfl ?_
    obtain ⟨c_151, h⟩ := h
    refine J_getI C fl_Ba_58 D_Ba_append_151 c_151 ?_
    refine J_iload C 4 D_Ba_append_154 rfl ?_
    obtain ⟨c_156, h⟩ := h
    refine J_iast C D_Ba_append_156 c_156 ?_
    refine J_aload_n C 0 D_Ba_append_157 rfl rfl ?_
    obtain ⟨c_158, q158, e_158, h⟩ := h
    refine J_getR C fl_Ba_30 D_Ba_append_158 c_158 e_158 ?_
    refine J_first C (by decide) D_Ba_append_161 ?_
    refine J_iload_n C 1 D_Ba_append_164 rfl rfl ?_
    obtain ⟨c_165, h⟩ := h
    refine J_fald C D_Ba_append_165 c_165 ?_
    refine J_iload_n C 3 D_Ba_append_166 rfl rfl ?_
    refine J_iadd C D_Ba_append_167 ?_
    refine J_aload_n C 0 D_Ba_append_168 rfl rfl ?_
    obtain ⟨c_169, h⟩ := h
    refine J_getI C fl_Ba_58 D_Ba_append_169 c_169 ?_
    obtain ⟨c_172, h⟩ := h
    refine J_yast C D_Ba_append_172 c_172 ?_
    exact J_vret C Rt D_Ba_append_173 h
  · have h := h.2 c_70
    refine J_aload_n C 0 D_Ba_append_73 rfl rfl ?_
    obtain ⟨c_74, q74, e_74, h⟩ := h
    refine J_getR C fl_Ba_37 D_Ba_append_74 c_74 e_74 ?_
    refine J_iload_n C 1 D_Ba_append_77 rfl rfl ?_
    refine J_iload C 5 D_Ba_append_78 rfl ?_
    obtain ⟨c_80, h⟩ := h
    refine J_callVi C ml_Ba_99 (S_Pr_at _ _ _ _ _ h) (by rw [hR]; decide) rfl c_80 rfl (Nat.le_of_ble_eq_true rfl) D_Ba_append_80 (fun r80 M80 h => ?_)
    refine J_istore (lv' := [(6, .int r80), (0, .ref (xd x a0)), (1, .int x1), (3, .int x3), (4, .int x4), (5, .int x5)]) C 6 D_Ba_append_83 (by decide) rfl ?_
    refine J_aload_n C 0 D_Ba_append_85 rfl rfl ?_
    obtain ⟨c_86, q86, e_86, h⟩ := h
    refine J_getR C fl_Ba_45 D_Ba_append_86 c_86 e_86 ?_
    refine J_iload_n C 3 D_Ba_append_89 rfl rfl ?_
    refine J_iload C 6 D_Ba_append_90 rfl ?_
    obtain ⟨c_92, h⟩ := h
    refine J_callVi C ml_Ba_153 (S_Ro_numberAt _ _ _ _ _ h) (by rw [hR]; decide) rfl c_92 rfl (Nat.le_of_ble_eq_true rfl) D_Ba_append_92 (fun r92 M92 h => ?_)
    refine J_istore (lv' := [(7, .int r92), (6, .int r80), (0, .ref (xd x a0)), (1, .int x1), (3, .int x3), (4, .int x4), (5, .int x5)]) C 7 D_Ba_append_95 (by decide) rfl ?_
    refine J_iload C 7 D_Ba_append_97 rfl ?_
    refine J_if_eq (tgt := 120) C D_Ba_append_99 (by decide) (fun c_99 => ?_) (fun c_99 => ?_)
    · have h := h.1 c_99
      exact J_sub [2, 3, 4, 5, 6] rfl (Z_Ba_append_120 C hR Rt K60 _ _ _ _ _ _ h)
    · have h := h.2 c_99
      refine J_aload_n C 0 D_Ba_append_102 rfl rfl ?_
      obtain ⟨c_103, q103, e_103, h⟩ := h
      refine J_getR C fl_Ba_27 D_Ba_append_103 c_103 e_103 ?_
      refine J_iload C 4 D_Ba_append_106 rfl ?_
      refine J_iload C 7 D_Ba_append_108 rfl ?_
      refine J_bipush (v := 7) C D_Ba_append_110 rfl ?_
      refine J_ishl C D_Ba_append_112 ?_
      refine J_iload C 6 D_Ba_append_113 rfl ?_
      refine J_ior C D_Ba_append_115 ?_
      obtain ⟨c_116, h⟩ := h
      refine J_yast C D_Ba_append_116 c_116 ?_
      refine J_iinc (v := x4 + 1) (lv' := [(4, .int (x4 + 1)), (7, .int r92), (6, .int r80), (0, .ref (xd x a0)), (1, .int x1), (3, .int x3), (5, .int x5)]) C 4 5 D_Ba_append_117 rfl rfl (by decide) rfl ?_
      exact J_sub [3, 4, 5, 0, 6] rfl (Z_Ba_append_120 C hR Rt K60 _ _ _ _ _ _ h)
def L_Ba_append_60 (post : Mem → Prop) : Nat → Nat → Int32 → Int32 → Int32 → Int32 → Mem → Prop
  | 0, _, _, _, _, _, _ => False
  | n + 1, a0, x1, x3, x4, x5, M => B_Ba_append_60 (L_Ba_append_60 post n) post a0 x1 x3 x4 x5 M
theorem Y_Ba_append_60 {x : Ctx} {post : Mem → Prop} (C : Ok x b_Ba_append 8 "HeapTower$Base") (hR : xR x = rm_Ba_append) (Rt : RetV x post 0 0) : ∀ (n : Nat) (a0 : Nat) (x1 : Int32) (x3 : Int32) (x4 : Int32) (x5 : Int32) (M : Mem), L_Ba_append_60 post n a0 x1 x3 x4 x5 M → J x 8 60 [(0, .ref (xd x a0)), (1, .int x1), (3, .int x3), (4, .int x4), (5, .int x5)] [] 0 0 M := by
  intro n
  induction n with
  | zero => intro a0 x1 x3 x4 x5 M h; exact h.elim
  | succ n ih => intro a0 x1 x3 x4 x5 M h; exact Z_Ba_append_60 C hR Rt ih _ _ _ _ _ _ h
def B_Ba_append_35 (post : Mem → Prop) (M : Mem) : Prop := (post M)
set_option maxRecDepth 20000 in
theorem Z_Ba_append_35 {x : Ctx} {post : Mem → Prop} (C : Ok x b_Ba_append 8 "HeapTower$Base") (hR : xR x = rm_Ba_append) (Rt : RetV x post 0 0) (M : Mem) (h : B_Ba_append_35 post M) : J x 8 35 [] [] 0 0 M := by
  unfold B_Ba_append_35 at h
  exact J_vret C Rt D_Ba_append_35 h
def T_Ba_append (a0 : Nat) (x1 : Int32) (x2 : Int32) (M : Mem) (post : Mem → Prop) : Prop := (isK M a0 0 ∧ (66 ≤ (gI M a0 12) → (B_Ba_append_35 post M)) ∧ (¬ 66 ≤ (gI M a0 12) → (isK M a0 0 ∧ ∃ q10, gR M a0 4 = some q10 ∧ isK M a0 0 ∧ isA M q10 8 (gI M a0 12) ∧ isK M a0 0 ∧ ∃ q19, gR M a0 0 = some q19 ∧ isK M q19 4 ∧ T_Pr_amount q19 x1 M (fun r23 M23 => ((((gI M q10 (Int32.toNatClampNeg (gI M a0 12))) + r23) - x2) ≤ 2560 → (isK M23 a0 0 ∧ ∃ q37, gR M23 a0 0 = some q37 ∧ isK M23 q37 4 ∧ T_Pr_at q37 x1 x2 M23 (fun r42 M42 => isK M42 a0 0 ∧ ∃ q47, gR M42 a0 4 = some q47 ∧ isK M42 a0 0 ∧ isA M42 q47 8 (gI M42 a0 12) ∧ ∃ n, L_Ba_append_60 post n a0 x1 r42 (gI M42 q47 (Int32.toNatClampNeg (gI M42 a0 12))) x2 M42))) ∧ (¬ (((gI M q10 (Int32.toNatClampNeg (gI M a0 12))) + r23) - x2) ≤ 2560 → (B_Ba_append_35 post M23))))))
set_option maxRecDepth 20000 in
theorem S_Ba_append {l : Launch} {D : va_G} {B t g : Nat} {d : Nat → Nat} {ac : Nat → ClassId}  (a0 : Nat) (x1 : Int32) (x2 : Int32) (M : Mem) (post : Mem → Prop) (h : T_Ba_append a0 x1 x2 M post) : Met l y_Ba_append w_Ba_append rm_Ba_append (va_Pc [.ref (d a0), .int x1, .int x2] (PRE D B d g t ac M)) (QV D B d g ac post) 0 0 (AB B) := by
  refine met_v (by decide +kernel) (Nat.le_of_ble_eq_true rfl) (fun x h1 hR h3 h4 h5 h6 h7 h8 C Rt Nm => ?_)
  subst h3 h4 h5 h6 h7 h8
  unfold T_Ba_append at h
  show J x 8 0 [(0, .ref (xd x a0)), (1, .int x1), (2, .int x2)] [] 0 0 M
  refine J_aload_n C 0 D_Ba_append_0 rfl rfl ?_
  obtain ⟨c_1, h⟩ := h
  refine J_getI C fl_Ba_58 D_Ba_append_1 c_1 ?_
  refine J_bipush (v := 66) C D_Ba_append_4 rfl ?_
  refine J_icmp_ge (tgt := 35) C D_Ba_append_6 (by decide) (fun c_6 => ?_) (fun c_6 => ?_)
  · have h := h.1 c_6
    exact J_sub [] rfl (Z_Ba_append_35 C hR Rt  _ h)
  · have h := h.2 c_6
    refine J_aload_n C 0 D_Ba_append_9 rfl rfl ?_
    obtain ⟨c_10, q10, e_10, h⟩ := h
    refine J_getR C fl_Ba_9 D_Ba_append_10 c_10 e_10 ?_
    refine J_aload_n C 0 D_Ba_append_13 rfl rfl ?_
    obtain ⟨c_14, h⟩ := h
    refine J_getI C fl_Ba_58 D_Ba_append_14 c_14 ?_
    obtain ⟨c_17, h⟩ := h
    refine J_iald C D_Ba_append_17 c_17 ?_
    refine J_aload_n C 0 D_Ba_append_18 rfl rfl ?_
    obtain ⟨c_19, q19, e_19, h⟩ := h
    refine J_getR C fl_Ba_37 D_Ba_append_19 c_19 e_19 ?_
    refine J_iload_n C 1 D_Ba_append_22 rfl rfl ?_
    obtain ⟨c_23, h⟩ := h
    refine J_callVi C ml_Ba_61 (S_Pr_amount _ _ _ _ h) (by rw [hR]; decide) rfl c_23 rfl (Nat.le_of_ble_eq_true rfl) D_Ba_append_23 (fun r23 M23 h => ?_)
    refine J_iadd C D_Ba_append_26 ?_
    refine J_iload_n C 2 D_Ba_append_27 rfl rfl ?_
    refine J_isub C D_Ba_append_28 ?_
    refine J_sipush (v := 2560) C D_Ba_append_29 rfl ?_
    refine J_icmp_le (tgt := 36) C D_Ba_append_32 (by decide) (fun c_32 => ?_) (fun c_32 => ?_)
    · have h := h.1 c_32
      refine J_aload_n C 0 D_Ba_append_36 rfl rfl ?_
      obtain ⟨c_37, q37, e_37, h⟩ := h
      refine J_getR C fl_Ba_37 D_Ba_append_37 c_37 e_37 ?_
      refine J_iload_n C 1 D_Ba_append_40 rfl rfl ?_
      refine J_iload_n C 2 D_Ba_append_41 rfl rfl ?_
      obtain ⟨c_42, h⟩ := h
      refine J_callVi C ml_Ba_99 (S_Pr_at _ _ _ _ _ h) (by rw [hR]; decide) rfl c_42 rfl (Nat.le_of_ble_eq_true rfl) D_Ba_append_42 (fun r42 M42 h => ?_)
      refine J_istore_n (lv' := [(3, .int r42), (0, .ref (xd x a0)), (1, .int x1), (2, .int x2)]) C 3 D_Ba_append_45 rfl (by decide) rfl ?_
      refine J_aload_n C 0 D_Ba_append_46 rfl rfl ?_
      obtain ⟨c_47, q47, e_47, h⟩ := h
      refine J_getR C fl_Ba_9 D_Ba_append_47 c_47 e_47 ?_
      refine J_aload_n C 0 D_Ba_append_50 rfl rfl ?_
      obtain ⟨c_51, h⟩ := h
      refine J_getI C fl_Ba_58 D_Ba_append_51 c_51 ?_
      obtain ⟨c_54, h⟩ := h
      refine J_iald C D_Ba_append_54 c_54 ?_
      refine J_istore (lv' := [(4, .int (gI M42 q47 (Int32.toNatClampNeg (gI M42 a0 12)))), (3, .int r42), (0, .ref (xd x a0)), (1, .int x1), (2, .int x2)]) C 4 D_Ba_append_55 (by decide) rfl ?_
      refine J_iload_n C 2 D_Ba_append_57 rfl rfl ?_
      refine J_istore (lv' := [(5, .int x2), (4, .int (gI M42 q47 (Int32.toNatClampNeg (gI M42 a0 12)))), (3, .int r42), (0, .ref (xd x a0)), (1, .int x1), (2, .int x2)]) C 5 D_Ba_append_58 (by decide) rfl ?_
      obtain ⟨n, h⟩ := h
      exact J_sub [3, 4, 2, 1, 0] rfl (Y_Ba_append_60 C hR Rt  n _ _ _ _ _ _ h)
    · have h := h.2 c_32
      exact J_sub [] rfl (Z_Ba_append_35 C hR Rt  _ h)
theorem D_Ba_isStandard_0 : decode b_Ba_isStandard 0 = .ok (.aload_n 0, 1) := by decide +kernel
theorem D_Ba_isStandard_1 : decode b_Ba_isStandard 1 = .ok (.getfield 30, 3) := by decide +kernel
theorem D_Ba_isStandard_4 : decode b_Ba_isStandard 4 = .ok (.getstatic 67, 3) := by decide +kernel
theorem D_Ba_isStandard_7 : decode b_Ba_isStandard 7 = .ok (.iload_n 1, 1) := by decide +kernel
theorem D_Ba_isStandard_8 : decode b_Ba_isStandard 8 = .ok (.iaload, 1) := by decide +kernel
theorem D_Ba_isStandard_9 : decode b_Ba_isStandard 9 = .ok (.iload_n 2, 1) := by decide +kernel
theorem D_Ba_isStandard_10 : decode b_Ba_isStandard 10 = .ok (.iadd, 1) := by decide +kernel
theorem D_Ba_isStandard_11 : decode b_Ba_isStandard 11 = .ok (.iaload, 1) := by decide +kernel
theorem D_Ba_isStandard_12 : decode b_Ba_isStandard 12 = .ok (.ifCond .ne 7, 3) := by decide +kernel
theorem D_Ba_isStandard_15 : decode b_Ba_isStandard 15 = .ok (.iconst 1, 1) := by decide +kernel
theorem D_Ba_isStandard_16 : decode b_Ba_isStandard 16 = .ok (.goto 4, 3) := by decide +kernel
theorem D_Ba_isStandard_19 : decode b_Ba_isStandard 19 = .ok (.iconst 0, 1) := by decide +kernel
theorem D_Ba_isStandard_20 : decode b_Ba_isStandard 20 = .ok (.ireturn, 1) := by decide +kernel
abbrev rm_Ba_isStandard : Room := { frames := 0, cells := 0, slots := 0, locals := 0 }
def B_Ba_isStandard_20 (post : Int32 → Mem → Prop) (s0 : Int32) (M : Mem) : Prop := (narrow .boolean (.int s0) = .int s0 ∧ post s0 M)
set_option maxRecDepth 20000 in
theorem Z_Ba_isStandard_20 {x : Ctx} {post : Int32 → Mem → Prop} (C : Ok x b_Ba_isStandard 3 "HeapTower$Base") (hR : xR x = rm_Ba_isStandard) (Rt : RetI x .boolean post 0 0) (s0 : Int32) (M : Mem) (h : B_Ba_isStandard_20 post s0 M) : J x 3 20 [] [.int s0] 0 0 M := by
  unfold B_Ba_isStandard_20 at h
  obtain ⟨c_20, h⟩ := h
  exact J_iret C Rt D_Ba_isStandard_20 c_20 h
def T_Ba_isStandard (a0 : Nat) (x1 : Int32) (x2 : Int32) (M : Mem) (post : Int32 → Mem → Prop) : Prop := (isK M a0 0 ∧ ∃ q1, gR M a0 10 = some q1 ∧ vp_in x1 12 ∧ isZ M q1 ((fst (Int32.toNatClampNeg x1)) + x2) ∧ (¬ (gI M q1 (Int32.toNatClampNeg ((fst (Int32.toNatClampNeg x1)) + x2))) = 0 → (B_Ba_isStandard_20 post 0 M)) ∧ ((gI M q1 (Int32.toNatClampNeg ((fst (Int32.toNatClampNeg x1)) + x2))) = 0 → (B_Ba_isStandard_20 post 1 M)))
set_option maxRecDepth 20000 in
theorem S_Ba_isStandard {l : Launch} {D : va_G} {B t g : Nat} {d : Nat → Nat} {ac : Nat → ClassId}  (a0 : Nat) (x1 : Int32) (x2 : Int32) (M : Mem) (post : Int32 → Mem → Prop) (h : T_Ba_isStandard a0 x1 x2 M post) : Met l y_Ba_isStandard w_Ba_isStandard rm_Ba_isStandard (va_Pc [.ref (d a0), .int x1, .int x2] (PRE D B d g t ac M)) (QI D B d g ac post) 0 0 (AB B) := by
  refine met_i (by decide +kernel) (Nat.le_of_ble_eq_true rfl) (fun x h1 hR h3 h4 h5 h6 h7 h8 C Rt => ?_)
  subst h3 h4 h5 h6 h7 h8
  unfold T_Ba_isStandard at h
  show J x 3 0 [(0, .ref (xd x a0)), (1, .int x1), (2, .int x2)] [] 0 0 M
  refine J_aload_n C 0 D_Ba_isStandard_0 rfl rfl ?_
  obtain ⟨c_1, q1, e_1, h⟩ := h
  refine J_getR C fl_Ba_30 D_Ba_isStandard_1 c_1 e_1 ?_
  refine J_first C (by decide) D_Ba_isStandard_4 ?_
  refine J_iload_n C 1 D_Ba_isStandard_7 rfl rfl ?_
  obtain ⟨c_8, h⟩ := h
  refine J_fald C D_Ba_isStandard_8 c_8 ?_
  refine J_iload_n C 2 D_Ba_isStandard_9 rfl rfl ?_
  refine J_iadd C D_Ba_isStandard_10 ?_
  obtain ⟨c_11, h⟩ := h
  refine J_yald C D_Ba_isStandard_11 c_11 ?_
  refine J_if_ne (tgt := 19) C D_Ba_isStandard_12 (by decide) (fun c_12 => ?_) (fun c_12 => ?_)
  · have h := h.1 c_12
    refine J_iconst (v := 0) C D_Ba_isStandard_19 rfl ?_
    exact J_sub [] rfl (Z_Ba_isStandard_20 C hR Rt  _ _ h)
  · have h := h.2 c_12
    refine J_iconst (v := 1) C D_Ba_isStandard_15 rfl ?_
    refine J_goto (tgt := 20) C D_Ba_isStandard_16 (by decide) ?_
    exact J_sub [] rfl (Z_Ba_isStandard_20 C hR Rt  _ _ h)
theorem D_Ba_close_0 : decode b_Ba_close 0 = .ok (.iconst 0, 1) := by decide +kernel
theorem D_Ba_close_1 : decode b_Ba_close 1 = .ok (.istore_n 2, 1) := by decide +kernel
theorem D_Ba_close_2 : decode b_Ba_close 2 = .ok (.aload_n 0, 1) := by decide +kernel
theorem D_Ba_close_3 : decode b_Ba_close 3 = .ok (.getfield 37, 3) := by decide +kernel
theorem D_Ba_close_6 : decode b_Ba_close 6 = .ok (.iload_n 1, 1) := by decide +kernel
theorem D_Ba_close_7 : decode b_Ba_close 7 = .ok (.invokevirtual 61, 3) := by decide +kernel
theorem D_Ba_close_10 : decode b_Ba_close 10 = .ok (.iconst 1, 1) := by decide +kernel
theorem D_Ba_close_11 : decode b_Ba_close 11 = .ok (.isub, 1) := by decide +kernel
theorem D_Ba_close_12 : decode b_Ba_close 12 = .ok (.istore_n 3, 1) := by decide +kernel
theorem D_Ba_close_13 : decode b_Ba_close 13 = .ok (.iload_n 3, 1) := by decide +kernel
theorem D_Ba_close_14 : decode b_Ba_close 14 = .ok (.ifCond .lt 59, 3) := by decide +kernel
theorem D_Ba_close_17 : decode b_Ba_close 17 = .ok (.aload_n 0, 1) := by decide +kernel
theorem D_Ba_close_18 : decode b_Ba_close 18 = .ok (.getfield 45, 3) := by decide +kernel
theorem D_Ba_close_21 : decode b_Ba_close 21 = .ok (.aload_n 0, 1) := by decide +kernel
theorem D_Ba_close_22 : decode b_Ba_close 22 = .ok (.getfield 37, 3) := by decide +kernel
theorem D_Ba_close_25 : decode b_Ba_close 25 = .ok (.iload_n 1, 1) := by decide +kernel
theorem D_Ba_close_26 : decode b_Ba_close 26 = .ok (.iload_n 3, 1) := by decide +kernel
theorem D_Ba_close_27 : decode b_Ba_close 27 = .ok (.invokevirtual 99, 3) := by decide +kernel
theorem D_Ba_close_30 : decode b_Ba_close 30 = .ok (.invokevirtual 102, 3) := by decide +kernel
theorem D_Ba_close_33 : decode b_Ba_close 33 = .ok (.ifCond .eq 9, 3) := by decide +kernel
theorem D_Ba_close_36 : decode b_Ba_close 36 = .ok (.aload_n 0, 1) := by decide +kernel
theorem D_Ba_close_37 : decode b_Ba_close 37 = .ok (.iload_n 1, 1) := by decide +kernel
theorem D_Ba_close_38 : decode b_Ba_close 38 = .ok (.iload_n 3, 1) := by decide +kernel
theorem D_Ba_close_39 : decode b_Ba_close 39 = .ok (.invokevirtual 106, 3) := by decide +kernel
theorem D_Ba_close_42 : decode b_Ba_close 42 = .ok (.iload_n 2, 1) := by decide +kernel
theorem D_Ba_close_43 : decode b_Ba_close 43 = .ok (.aload_n 0, 1) := by decide +kernel
theorem D_Ba_close_44 : decode b_Ba_close 44 = .ok (.iload_n 1, 1) := by decide +kernel
theorem D_Ba_close_45 : decode b_Ba_close 45 = .ok (.aload_n 0, 1) := by decide +kernel
theorem D_Ba_close_46 : decode b_Ba_close 46 = .ok (.getfield 37, 3) := by decide +kernel
theorem D_Ba_close_49 : decode b_Ba_close 49 = .ok (.iload_n 1, 1) := by decide +kernel
theorem D_Ba_close_50 : decode b_Ba_close 50 = .ok (.iload_n 3, 1) := by decide +kernel
theorem D_Ba_close_51 : decode b_Ba_close 51 = .ok (.invokevirtual 99, 3) := by decide +kernel
theorem D_Ba_close_54 : decode b_Ba_close 54 = .ok (.invokevirtual 110, 3) := by decide +kernel
theorem D_Ba_close_57 : decode b_Ba_close 57 = .ok (.ifCond .eq 7, 3) := by decide +kernel
theorem D_Ba_close_60 : decode b_Ba_close 60 = .ok (.iconst 0, 1) := by decide +kernel
theorem D_Ba_close_61 : decode b_Ba_close 61 = .ok (.goto 4, 3) := by decide +kernel
theorem D_Ba_close_64 : decode b_Ba_close 64 = .ok (.iconst 1, 1) := by decide +kernel
theorem D_Ba_close_65 : decode b_Ba_close 65 = .ok (.iadd, 1) := by decide +kernel
theorem D_Ba_close_66 : decode b_Ba_close 66 = .ok (.istore_n 2, 1) := by decide +kernel
theorem D_Ba_close_67 : decode b_Ba_close 67 = .ok (.iinc 3 (-1), 3) := by decide +kernel
theorem D_Ba_close_70 : decode b_Ba_close 70 = .ok (.goto (-57), 3) := by decide +kernel
theorem D_Ba_close_73 : decode b_Ba_close 73 = .ok (.aload_n 0, 1) := by decide +kernel
theorem D_Ba_close_74 : decode b_Ba_close 74 = .ok (.getfield 21, 3) := by decide +kernel
theorem D_Ba_close_77 : decode b_Ba_close 77 = .ok (.iload_n 1, 1) := by decide +kernel
theorem D_Ba_close_78 : decode b_Ba_close 78 = .ok (.aload_n 0, 1) := by decide +kernel
theorem D_Ba_close_79 : decode b_Ba_close 79 = .ok (.getfield 37, 3) := by decide +kernel
theorem D_Ba_close_82 : decode b_Ba_close 82 = .ok (.iload_n 1, 1) := by decide +kernel
theorem D_Ba_close_83 : decode b_Ba_close 83 = .ok (.invokevirtual 61, 3) := by decide +kernel
theorem D_Ba_close_86 : decode b_Ba_close 86 = .ok (.iload_n 2, 1) := by decide +kernel
theorem D_Ba_close_87 : decode b_Ba_close 87 = .ok (.isub, 1) := by decide +kernel
theorem D_Ba_close_88 : decode b_Ba_close 88 = .ok (.iastore, 1) := by decide +kernel
theorem D_Ba_close_89 : decode b_Ba_close 89 = .ok (.aload_n 0, 1) := by decide +kernel
theorem D_Ba_close_90 : decode b_Ba_close 90 = .ok (.getfield 18, 3) := by decide +kernel
theorem D_Ba_close_93 : decode b_Ba_close 93 = .ok (.iload_n 1, 1) := by decide +kernel
theorem D_Ba_close_94 : decode b_Ba_close 94 = .ok (.aload_n 0, 1) := by decide +kernel
theorem D_Ba_close_95 : decode b_Ba_close 95 = .ok (.getfield 58, 3) := by decide +kernel
theorem D_Ba_close_98 : decode b_Ba_close 98 = .ok (.iastore, 1) := by decide +kernel
theorem D_Ba_close_99 : decode b_Ba_close 99 = .ok (.aload_n 0, 1) := by decide +kernel
theorem D_Ba_close_100 : decode b_Ba_close 100 = .ok (.iload_n 1, 1) := by decide +kernel
theorem D_Ba_close_101 : decode b_Ba_close 101 = .ok (.putfield 33, 3) := by decide +kernel
theorem D_Ba_close_104 : decode b_Ba_close 104 = .ok (.return_, 1) := by decide +kernel
abbrev rm_Ba_close : Room := { frames := 2, cells := 0, slots := 0, locals := 49 }
def B_Ba_close_65 (k13 : Nat → Int32 → Int32 → Int32 → Mem → Prop) (post : Mem → Prop) (a0 : Nat) (x1 : Int32) (x3 : Int32) (s0 : Int32) (s1 : Int32) (M : Mem) : Prop := (k13 a0 x1 (s1 + s0) (x3 + (-1)) M)
set_option maxRecDepth 20000 in
theorem Z_Ba_close_65 {x : Ctx} {post : Mem → Prop} (C : Ok x b_Ba_close 4 "HeapTower$Base") (hR : xR x = rm_Ba_close) (Rt : RetV x post 0 0) {k13 : Nat → Int32 → Int32 → Int32 → Mem → Prop} (K13 : ∀ (a0 : Nat) (x1 : Int32) (x2 : Int32) (x3 : Int32) (M : Mem), k13 a0 x1 x2 x3 M → J x 4 13 [(0, .ref (xd x a0)), (1, .int x1), (2, .int x2), (3, .int x3)] [] 0 0 M) (a0 : Nat) (x1 : Int32) (x3 : Int32) (s0 : Int32) (s1 : Int32) (M : Mem) (h : B_Ba_close_65 k13 post a0 x1 x3 s0 s1 M) : J x 4 65 [(0, .ref (xd x a0)), (1, .int x1), (3, .int x3)] [.int s0, .int s1] 0 0 M := by
  unfold B_Ba_close_65 at h
  refine J_iadd C D_Ba_close_65 ?_
  refine J_istore_n (lv' := [(2, .int (s1 + s0)), (0, .ref (xd x a0)), (1, .int x1), (3, .int x3)]) C 2 D_Ba_close_66 rfl (by decide) rfl ?_
  refine J_iinc (v := x3 + (-1)) (lv' := [(3, .int (x3 + (-1))), (2, .int (s1 + s0)), (0, .ref (xd x a0)), (1, .int x1)]) C 3 3 D_Ba_close_67 rfl rfl (by decide) rfl ?_
  refine J_goto (tgt := 13) C D_Ba_close_70 (by decide) ?_
  exact J_sub [2, 3, 1, 0] rfl (K13 _ _ _ _ _ h)
def B_Ba_close_42 (k13 : Nat → Int32 → Int32 → Int32 → Mem → Prop) (post : Mem → Prop) (a0 : Nat) (x1 : Int32) (x2 : Int32) (x3 : Int32) (M : Mem) : Prop := (isK M a0 0 ∧ ∃ q46, gR M a0 0 = some q46 ∧ isK M q46 4 ∧ T_Pr_at q46 x1 x3 M (fun r51 M51 => isK M51 a0 0 ∧ T_Ba_isStandard a0 x1 r51 M51 (fun r54 M54 => (r54 = 0 → (B_Ba_close_65 k13 post a0 x1 x3 1 x2 M54)) ∧ (¬ r54 = 0 → (B_Ba_close_65 k13 post a0 x1 x3 0 x2 M54)))))
set_option maxRecDepth 20000 in
theorem Z_Ba_close_42 {x : Ctx} {post : Mem → Prop} (C : Ok x b_Ba_close 4 "HeapTower$Base") (hR : xR x = rm_Ba_close) (Rt : RetV x post 0 0) {k13 : Nat → Int32 → Int32 → Int32 → Mem → Prop} (K13 : ∀ (a0 : Nat) (x1 : Int32) (x2 : Int32) (x3 : Int32) (M : Mem), k13 a0 x1 x2 x3 M → J x 4 13 [(0, .ref (xd x a0)), (1, .int x1), (2, .int x2), (3, .int x3)] [] 0 0 M) (a0 : Nat) (x1 : Int32) (x2 : Int32) (x3 : Int32) (M : Mem) (h : B_Ba_close_42 k13 post a0 x1 x2 x3 M) : J x 4 42 [(0, .ref (xd x a0)), (1, .int x1), (2, .int x2), (3, .int x3)] [] 0 0 M := by
  unfold B_Ba_close_42 at h
  refine J_iload_n C 2 D_Ba_close_42 rfl rfl ?_
  refine J_aload_n C 0 D_Ba_close_43 rfl rfl ?_
  refine J_iload_n C 1 D_Ba_close_44 rfl rfl ?_
  refine J_aload_n C 0 D_Ba_close_45 rfl rfl ?_
  obtain ⟨c_46, q46, e_46, h⟩ := h
  refine J_getR C fl_Ba_37 D_Ba_close_46 c_46 e_46 ?_
  refine J_iload_n C 1 D_Ba_close_49 rfl rfl ?_
  refine J_iload_n C 3 D_Ba_close_50 rfl rfl ?_
  obtain ⟨c_51, h⟩ := h
  refine J_callVi C ml_Ba_99 (S_Pr_at _ _ _ _ _ h) (by rw [hR]; decide) rfl c_51 rfl (Nat.le_of_ble_eq_true rfl) D_Ba_close_51 (fun r51 M51 h => ?_)
  obtain ⟨c_54, h⟩ := h
  refine J_callVi C ml_Ba_110 (S_Ba_isStandard _ _ _ _ _ h) (by rw [hR]; decide) rfl c_54 rfl (Nat.le_of_ble_eq_true rfl) D_Ba_close_54 (fun r54 M54 h => ?_)
  refine J_if_eq (tgt := 64) C D_Ba_close_57 (by decide) (fun c_57 => ?_) (fun c_57 => ?_)
  · have h := h.1 c_57
    refine J_iconst (v := 1) C D_Ba_close_64 rfl ?_
    exact J_sub [0, 1, 3] rfl (Z_Ba_close_65 C hR Rt K13 _ _ _ _ _ _ h)
  · have h := h.2 c_57
    refine J_iconst (v := 0) C D_Ba_close_60 rfl ?_
    refine J_goto (tgt := 65) C D_Ba_close_61 (by decide) ?_
    exact J_sub [0, 1, 3] rfl (Z_Ba_close_65 C hR Rt K13 _ _ _ _ _ _ h)
def B_Ba_close_13 (k13 : Nat → Int32 → Int32 → Int32 → Mem → Prop) (post : Mem → Prop) (a0 : Nat) (x1 : Int32) (x2 : Int32) (x3 : Int32) (M : Mem) : Prop := ((x3 < 0 → (isK M a0 0 ∧ ∃ q74, gR M a0 7 = some q74 ∧ isK M a0 0 ∧ ∃ q79, gR M a0 0 = some q79 ∧ isK M q79 4 ∧ T_Pr_amount q79 x1 M (fun r83 M83 => isA M83 q74 8 x1 ∧ isK (sI M83 q74 (Int32.toNatClampNeg x1) (r83 - x2)) a0 0 ∧ ∃ q90, gR (sI M83 q74 (Int32.toNatClampNeg x1) (r83 - x2)) a0 6 = some q90 ∧ isK (sI M83 q74 (Int32.toNatClampNeg x1) (r83 - x2)) a0 0 ∧ isA (sI M83 q74 (Int32.toNatClampNeg x1) (r83 - x2)) q90 8 x1 ∧ isK (sI (sI M83 q74 (Int32.toNatClampNeg x1) (r83 - x2)) q90 (Int32.toNatClampNeg x1) (gI (sI M83 q74 (Int32.toNatClampNeg x1) (r83 - x2)) a0 12)) a0 0 ∧ post (sI (sI (sI M83 q74 (Int32.toNatClampNeg x1) (r83 - x2)) q90 (Int32.toNatClampNeg x1) (gI (sI M83 q74 (Int32.toNatClampNeg x1) (r83 - x2)) a0 12)) a0 11 x1)))) ∧ (¬ x3 < 0 → (isK M a0 0 ∧ ∃ q18, gR M a0 2 = some q18 ∧ isK M a0 0 ∧ ∃ q22, gR M a0 0 = some q22 ∧ isK M q22 4 ∧ T_Pr_at q22 x1 x3 M (fun r27 M27 => isK M27 q18 5 ∧ T_Ro_hasHead q18 r27 M27 (fun r30 M30 => (r30 = 0 → (B_Ba_close_42 k13 post a0 x1 x2 x3 M30)) ∧ (¬ r30 = 0 → (isK M30 a0 0 ∧ T_Ba_append a0 x1 x3 M30 (fun M39 => B_Ba_close_42 k13 post a0 x1 x2 x3 M39))))))))
set_option maxRecDepth 20000 in
theorem Z_Ba_close_13 {x : Ctx} {post : Mem → Prop} (C : Ok x b_Ba_close 4 "HeapTower$Base") (hR : xR x = rm_Ba_close) (Rt : RetV x post 0 0) {k13 : Nat → Int32 → Int32 → Int32 → Mem → Prop} (K13 : ∀ (a0 : Nat) (x1 : Int32) (x2 : Int32) (x3 : Int32) (M : Mem), k13 a0 x1 x2 x3 M → J x 4 13 [(0, .ref (xd x a0)), (1, .int x1), (2, .int x2), (3, .int x3)] [] 0 0 M) (a0 : Nat) (x1 : Int32) (x2 : Int32) (x3 : Int32) (M : Mem) (h : B_Ba_close_13 k13 post a0 x1 x2 x3 M) : J x 4 13 [(0, .ref (xd x a0)), (1, .int x1), (2, .int x2), (3, .int x3)] [] 0 0 M := by
  unfold B_Ba_close_13 at h
  refine J_iload_n C 3 D_Ba_close_13 rfl rfl ?_
  refine J_if_lt (tgt := 73) C D_Ba_close_14 (by decide) (fun c_14 => ?_) (fun c_14 => ?_)
  · have h := h.1 c_14
    refine J_aload_n C 0 D_Ba_close_73 rfl rfl ?_
    obtain ⟨c_74, q74, e_74, h⟩ := h
    refine J_getR C fl_Ba_21 D_Ba_close_74 c_74 e_74 ?_
    refine J_iload_n C 1 D_Ba_close_77 rfl rfl ?_
    refine J_aload_n C 0 D_Ba_close_78 rfl rfl ?_
    obtain ⟨c_79, q79, e_79, h⟩ := h
    refine J_getR C fl_Ba_37 D_Ba_close_79 c_79 e_79 ?_
    refine J_iload_n C 1 D_Ba_close_82 rfl rfl ?_
    obtain ⟨c_83, h⟩ := h
    refine J_callVi C ml_Ba_61 (S_Pr_amount _ _ _ _ h) (by rw [hR]; decide) rfl c_83 rfl (Nat.le_of_ble_eq_true rfl) D_Ba_close_83 (fun r83 M83 h => ?_)
    refine J_iload_n C 2 D_Ba_close_86 rfl rfl ?_
    refine J_isub C D_Ba_close_87 ?_
    obtain ⟨c_88, h⟩ := h
    refine J_iast C D_Ba_close_88 c_88 ?_
    refine J_aload_n C 0 D_Ba_close_89 rfl rfl ?_
    obtain ⟨c_90, q90, e_90, h⟩ := h
    refine J_getR C fl_Ba_18 D_Ba_close_90 c_90 e_90 ?_
    refine J_iload_n C 1 D_Ba_close_93 rfl rfl ?_
    refine J_aload_n C 0 D_Ba_close_94 rfl rfl ?_
    obtain ⟨c_95, h⟩ := h
    refine J_getI C fl_Ba_58 D_Ba_close_95 c_95 ?_
    obtain ⟨c_98, h⟩ := h
    refine J_iast C D_Ba_close_98 c_98 ?_
    refine J_aload_n C 0 D_Ba_close_99 rfl rfl ?_
    refine J_iload_n C 1 D_Ba_close_100 rfl rfl ?_
    obtain ⟨c_101, h⟩ := h
    refine J_putI C fl_Ba_33 D_Ba_close_101 c_101 ?_
    exact J_vret C Rt D_Ba_close_104 h
  · have h := h.2 c_14
    refine J_aload_n C 0 D_Ba_close_17 rfl rfl ?_
    obtain ⟨c_18, q18, e_18, h⟩ := h
    refine J_getR C fl_Ba_45 D_Ba_close_18 c_18 e_18 ?_
    refine J_aload_n C 0 D_Ba_close_21 rfl rfl ?_
    obtain ⟨c_22, q22, e_22, h⟩ := h
    refine J_getR C fl_Ba_37 D_Ba_close_22 c_22 e_22 ?_
    refine J_iload_n C 1 D_Ba_close_25 rfl rfl ?_
    refine J_iload_n C 3 D_Ba_close_26 rfl rfl ?_
    obtain ⟨c_27, h⟩ := h
    refine J_callVi C ml_Ba_99 (S_Pr_at _ _ _ _ _ h) (by rw [hR]; decide) rfl c_27 rfl (Nat.le_of_ble_eq_true rfl) D_Ba_close_27 (fun r27 M27 h => ?_)
    obtain ⟨c_30, h⟩ := h
    refine J_callVi C ml_Ba_102 (S_Ro_hasHead _ _ _ _ h) (by rw [hR]; decide) rfl c_30 rfl (Nat.le_of_ble_eq_true rfl) D_Ba_close_30 (fun r30 M30 h => ?_)
    refine J_if_eq (tgt := 42) C D_Ba_close_33 (by decide) (fun c_33 => ?_) (fun c_33 => ?_)
    · have h := h.1 c_33
      exact J_sub [0, 1, 2, 3] rfl (Z_Ba_close_42 C hR Rt K13 _ _ _ _ _ h)
    · have h := h.2 c_33
      refine J_aload_n C 0 D_Ba_close_36 rfl rfl ?_
      refine J_iload_n C 1 D_Ba_close_37 rfl rfl ?_
      refine J_iload_n C 3 D_Ba_close_38 rfl rfl ?_
      obtain ⟨c_39, h⟩ := h
      refine J_callVv C ml_Ba_106 (S_Ba_append _ _ _ _ _ h) (by rw [hR]; decide) rfl c_39 rfl (Nat.le_of_ble_eq_true rfl) D_Ba_close_39 (fun M39 h => ?_)
      exact J_sub [0, 1, 2, 3] rfl (Z_Ba_close_42 C hR Rt K13 _ _ _ _ _ h)
def L_Ba_close_13 (post : Mem → Prop) : Nat → Nat → Int32 → Int32 → Int32 → Mem → Prop
  | 0, _, _, _, _, _ => False
  | n + 1, a0, x1, x2, x3, M => B_Ba_close_13 (L_Ba_close_13 post n) post a0 x1 x2 x3 M
theorem Y_Ba_close_13 {x : Ctx} {post : Mem → Prop} (C : Ok x b_Ba_close 4 "HeapTower$Base") (hR : xR x = rm_Ba_close) (Rt : RetV x post 0 0) : ∀ (n : Nat) (a0 : Nat) (x1 : Int32) (x2 : Int32) (x3 : Int32) (M : Mem), L_Ba_close_13 post n a0 x1 x2 x3 M → J x 4 13 [(0, .ref (xd x a0)), (1, .int x1), (2, .int x2), (3, .int x3)] [] 0 0 M := by
  intro n
  induction n with
  | zero => intro a0 x1 x2 x3 M h; exact h.elim
  | succ n ih => intro a0 x1 x2 x3 M h; exact Z_Ba_close_13 C hR Rt ih _ _ _ _ _ h
def T_Ba_close (a0 : Nat) (x1 : Int32) (M : Mem) (post : Mem → Prop) : Prop := (isK M a0 0 ∧ ∃ q3, gR M a0 0 = some q3 ∧ isK M q3 4 ∧ T_Pr_amount q3 x1 M (fun r7 M7 => ∃ n, L_Ba_close_13 post n a0 x1 0 (r7 - 1) M7))
set_option maxRecDepth 20000 in
theorem S_Ba_close {l : Launch} {D : va_G} {B t g : Nat} {d : Nat → Nat} {ac : Nat → ClassId}  (a0 : Nat) (x1 : Int32) (M : Mem) (post : Mem → Prop) (h : T_Ba_close a0 x1 M post) : Met l y_Ba_close w_Ba_close rm_Ba_close (va_Pc [.ref (d a0), .int x1] (PRE D B d g t ac M)) (QV D B d g ac post) 0 0 (AB B) := by
  refine met_v (by decide +kernel) (Nat.le_of_ble_eq_true rfl) (fun x h1 hR h3 h4 h5 h6 h7 h8 C Rt Nm => ?_)
  subst h3 h4 h5 h6 h7 h8
  unfold T_Ba_close at h
  show J x 4 0 [(0, .ref (xd x a0)), (1, .int x1)] [] 0 0 M
  refine J_iconst (v := 0) C D_Ba_close_0 rfl ?_
  refine J_istore_n (lv' := [(2, .int 0), (0, .ref (xd x a0)), (1, .int x1)]) C 2 D_Ba_close_1 rfl (by decide) rfl ?_
  refine J_aload_n C 0 D_Ba_close_2 rfl rfl ?_
  obtain ⟨c_3, q3, e_3, h⟩ := h
  refine J_getR C fl_Ba_37 D_Ba_close_3 c_3 e_3 ?_
  refine J_iload_n C 1 D_Ba_close_6 rfl rfl ?_
  obtain ⟨c_7, h⟩ := h
  refine J_callVi C ml_Ba_61 (S_Pr_amount _ _ _ _ h) (by rw [hR]; decide) rfl c_7 rfl (Nat.le_of_ble_eq_true rfl) D_Ba_close_7 (fun r7 M7 h => ?_)
  refine J_iconst (v := 1) C D_Ba_close_10 rfl ?_
  refine J_isub C D_Ba_close_11 ?_
  refine J_istore_n (lv' := [(3, .int (r7 - 1)), (2, .int 0), (0, .ref (xd x a0)), (1, .int x1)]) C 3 D_Ba_close_12 rfl (by decide) rfl ?_
  obtain ⟨n, h⟩ := h
  exact J_sub [2, 3, 1, 0] rfl (Y_Ba_close_13 C hR Rt  n _ _ _ _ _ h)
theorem D_Ba_sizeUpTo_0 : decode b_Ba_sizeUpTo 0 = .ok (.aload_n 0, 1) := by decide +kernel
theorem D_Ba_sizeUpTo_1 : decode b_Ba_sizeUpTo 1 = .ok (.getfield 18, 3) := by decide +kernel
theorem D_Ba_sizeUpTo_4 : decode b_Ba_sizeUpTo 4 = .ok (.iload_n 1, 1) := by decide +kernel
theorem D_Ba_sizeUpTo_5 : decode b_Ba_sizeUpTo 5 = .ok (.iaload, 1) := by decide +kernel
theorem D_Ba_sizeUpTo_6 : decode b_Ba_sizeUpTo 6 = .ok (.ireturn, 1) := by decide +kernel
abbrev rm_Ba_sizeUpTo : Room := { frames := 0, cells := 0, slots := 0, locals := 0 }
def T_Ba_sizeUpTo (a0 : Nat) (x1 : Int32) (M : Mem) (post : Int32 → Mem → Prop) : Prop := (isK M a0 0 ∧ ∃ q1, gR M a0 6 = some q1 ∧ isA M q1 8 x1 ∧ post (gI M q1 (Int32.toNatClampNeg x1)) M)
set_option maxRecDepth 20000 in
theorem S_Ba_sizeUpTo {l : Launch} {D : va_G} {B t g : Nat} {d : Nat → Nat} {ac : Nat → ClassId}  (a0 : Nat) (x1 : Int32) (M : Mem) (post : Int32 → Mem → Prop) (h : T_Ba_sizeUpTo a0 x1 M post) : Met l y_Ba_sizeUpTo w_Ba_sizeUpTo rm_Ba_sizeUpTo (va_Pc [.ref (d a0), .int x1] (PRE D B d g t ac M)) (QI D B d g ac post) 0 0 (AB B) := by
  refine met_i (by decide +kernel) (Nat.le_of_ble_eq_true rfl) (fun x h1 hR h3 h4 h5 h6 h7 h8 C Rt => ?_)
  subst h3 h4 h5 h6 h7 h8
  unfold T_Ba_sizeUpTo at h
  show J x 2 0 [(0, .ref (xd x a0)), (1, .int x1)] [] 0 0 M
  refine J_aload_n C 0 D_Ba_sizeUpTo_0 rfl rfl ?_
  obtain ⟨c_1, q1, e_1, h⟩ := h
  refine J_getR C fl_Ba_18 D_Ba_sizeUpTo_1 c_1 e_1 ?_
  refine J_iload_n C 1 D_Ba_sizeUpTo_4 rfl rfl ?_
  obtain ⟨c_5, h⟩ := h
  refine J_iald C D_Ba_sizeUpTo_5 c_5 ?_
  exact J_iret C Rt D_Ba_sizeUpTo_6 rfl h
theorem D_Ba_loadElement_0 : decode b_Ba_loadElement 0 = .ok (.aload_n 2, 1) := by decide +kernel
theorem D_Ba_loadElement_1 : decode b_Ba_loadElement 1 = .ok (.iconst 0, 1) := by decide +kernel
theorem D_Ba_loadElement_2 : decode b_Ba_loadElement 2 = .ok (.invokestatic 70, 3) := by decide +kernel
theorem D_Ba_loadElement_5 : decode b_Ba_loadElement 5 = .ok (.aload_n 0, 1) := by decide +kernel
theorem D_Ba_loadElement_6 : decode b_Ba_loadElement 6 = .ok (.getfield 9, 3) := by decide +kernel
theorem D_Ba_loadElement_9 : decode b_Ba_loadElement 9 = .ok (.iload_n 1, 1) := by decide +kernel
theorem D_Ba_loadElement_10 : decode b_Ba_loadElement 10 = .ok (.iaload, 1) := by decide +kernel
theorem D_Ba_loadElement_11 : decode b_Ba_loadElement 11 = .ok (.istore_n 3, 1) := by decide +kernel
theorem D_Ba_loadElement_12 : decode b_Ba_loadElement 12 = .ok (.iload_n 3, 1) := by decide +kernel
theorem D_Ba_loadElement_13 : decode b_Ba_loadElement 13 = .ok (.aload_n 0, 1) := by decide +kernel
theorem D_Ba_loadElement_14 : decode b_Ba_loadElement 14 = .ok (.getfield 9, 3) := by decide +kernel
theorem D_Ba_loadElement_17 : decode b_Ba_loadElement 17 = .ok (.iload_n 1, 1) := by decide +kernel
theorem D_Ba_loadElement_18 : decode b_Ba_loadElement 18 = .ok (.iconst 1, 1) := by decide +kernel
theorem D_Ba_loadElement_19 : decode b_Ba_loadElement 19 = .ok (.iadd, 1) := by decide +kernel
theorem D_Ba_loadElement_20 : decode b_Ba_loadElement 20 = .ok (.iaload, 1) := by decide +kernel
theorem D_Ba_loadElement_21 : decode b_Ba_loadElement 21 = .ok (.if_icmp .ge 29, 3) := by decide +kernel
theorem D_Ba_loadElement_24 : decode b_Ba_loadElement 24 = .ok (.aload_n 2, 1) := by decide +kernel
theorem D_Ba_loadElement_25 : decode b_Ba_loadElement 25 = .ok (.aload_n 0, 1) := by decide +kernel
theorem D_Ba_loadElement_26 : decode b_Ba_loadElement 26 = .ok (.getfield 27, 3) := by decide +kernel
theorem D_Ba_loadElement_29 : decode b_Ba_loadElement 29 = .ok (.iload_n 3, 1) := by decide +kernel
theorem D_Ba_loadElement_30 : decode b_Ba_loadElement 30 = .ok (.iaload, 1) := by decide +kernel
theorem D_Ba_loadElement_31 : decode b_Ba_loadElement 31 = .ok (.bipush 127, 2) := by decide +kernel
theorem D_Ba_loadElement_33 : decode b_Ba_loadElement 33 = .ok (.iand, 1) := by decide +kernel
theorem D_Ba_loadElement_34 : decode b_Ba_loadElement 34 = .ok (.aload_n 0, 1) := by decide +kernel
theorem D_Ba_loadElement_35 : decode b_Ba_loadElement 35 = .ok (.getfield 27, 3) := by decide +kernel
theorem D_Ba_loadElement_38 : decode b_Ba_loadElement 38 = .ok (.iload_n 3, 1) := by decide +kernel
theorem D_Ba_loadElement_39 : decode b_Ba_loadElement 39 = .ok (.iaload, 1) := by decide +kernel
theorem D_Ba_loadElement_40 : decode b_Ba_loadElement 40 = .ok (.bipush 7, 2) := by decide +kernel
theorem D_Ba_loadElement_42 : decode b_Ba_loadElement 42 = .ok (.ishr, 1) := by decide +kernel
theorem D_Ba_loadElement_43 : decode b_Ba_loadElement 43 = .ok (.iastore, 1) := by decide +kernel
theorem D_Ba_loadElement_44 : decode b_Ba_loadElement 44 = .ok (.iinc 3 1, 3) := by decide +kernel
theorem D_Ba_loadElement_47 : decode b_Ba_loadElement 47 = .ok (.goto (-35), 3) := by decide +kernel
theorem D_Ba_loadElement_50 : decode b_Ba_loadElement 50 = .ok (.return_, 1) := by decide +kernel
abbrev rm_Ba_loadElement : Room := { frames := 1, cells := 0, slots := 0, locals := 23 }
def B_Ba_loadElement_12 (k12 : Nat → Int32 → Nat → Int32 → Mem → Prop) (post : Mem → Prop) (a0 : Nat) (x1 : Int32) (a2 : Nat) (x3 : Int32) (M : Mem) : Prop := (isK M a0 0 ∧ ∃ q14, gR M a0 4 = some q14 ∧ isA M q14 8 (x1 + 1) ∧ ((gI M q14 (Int32.toNatClampNeg (x1 + 1))) ≤ x3 → (post M)) ∧ (¬ (gI M q14 (Int32.toNatClampNeg (x1 + 1))) ≤ x3 → (isK M a0 0 ∧ ∃ q26, gR M a0 9 = some q26 ∧ isZ M q26 x3 ∧ isK M a0 0 ∧ ∃ q35, gR M a0 9 = some q35 ∧ isZ M q35 x3 ∧ isA M a2 8 ((gI M q26 (Int32.toNatClampNeg x3)) &&& 127) ∧ k12 a0 x1 a2 (x3 + 1) (sI M a2 (Int32.toNatClampNeg ((gI M q26 (Int32.toNatClampNeg x3)) &&& 127)) (((gI M q35 (Int32.toNatClampNeg x3)) : Int32) >>> ((7 : Int32) &&& 31))))))
set_option maxRecDepth 20000 in
theorem Z_Ba_loadElement_12 {x : Ctx} {post : Mem → Prop} (C : Ok x b_Ba_loadElement 4 "HeapTower$Base") (hR : xR x = rm_Ba_loadElement) (Rt : RetV x post 0 0) {k12 : Nat → Int32 → Nat → Int32 → Mem → Prop} (K12 : ∀ (a0 : Nat) (x1 : Int32) (a2 : Nat) (x3 : Int32) (M : Mem), k12 a0 x1 a2 x3 M → J x 4 12 [(0, .ref (xd x a0)), (1, .int x1), (2, .ref (xd x a2)), (3, .int x3)] [] 0 0 M) (a0 : Nat) (x1 : Int32) (a2 : Nat) (x3 : Int32) (M : Mem) (h : B_Ba_loadElement_12 k12 post a0 x1 a2 x3 M) : J x 4 12 [(0, .ref (xd x a0)), (1, .int x1), (2, .ref (xd x a2)), (3, .int x3)] [] 0 0 M := by
  unfold B_Ba_loadElement_12 at h
  refine J_iload_n C 3 D_Ba_loadElement_12 rfl rfl ?_
  refine J_aload_n C 0 D_Ba_loadElement_13 rfl rfl ?_
  obtain ⟨c_14, q14, e_14, h⟩ := h
  refine J_getR C fl_Ba_9 D_Ba_loadElement_14 c_14 e_14 ?_
  refine J_iload_n C 1 D_Ba_loadElement_17 rfl rfl ?_
  refine J_iconst (v := 1) C D_Ba_loadElement_18 rfl ?_
  refine J_iadd C D_Ba_loadElement_19 ?_
  obtain ⟨c_20, h⟩ := h
  refine J_iald C D_Ba_loadElement_20 c_20 ?_
  refine J_icmp_ge (tgt := 50) C D_Ba_loadElement_21 (by decide) (fun c_21 => ?_) (fun c_21 => ?_)
  · have h := h.1 c_21
    exact J_vret C Rt D_Ba_loadElement_50 h
  · have h := h.2 c_21
    refine J_aload_n C 2 D_Ba_loadElement_24 rfl rfl ?_
    refine J_aload_n C 0 D_Ba_loadElement_25 rfl rfl ?_
    obtain ⟨c_26, q26, e_26, h⟩ := h
    refine J_getR C fl_Ba_27 D_Ba_loadElement_26 c_26 e_26 ?_
    refine J_iload_n C 3 D_Ba_loadElement_29 rfl rfl ?_
    obtain ⟨c_30, h⟩ := h
    refine J_yald C D_Ba_loadElement_30 c_30 ?_
    refine J_bipush (v := 127) C D_Ba_loadElement_31 rfl ?_
    refine J_iand C D_Ba_loadElement_33 ?_
    refine J_aload_n C 0 D_Ba_loadElement_34 rfl rfl ?_
    obtain ⟨c_35, q35, e_35, h⟩ := h
    refine J_getR C fl_Ba_27 D_Ba_loadElement_35 c_35 e_35 ?_
    refine J_iload_n C 3 D_Ba_loadElement_38 rfl rfl ?_
    obtain ⟨c_39, h⟩ := h
    refine J_yald C D_Ba_loadElement_39 c_39 ?_
    refine J_bipush (v := 7) C D_Ba_loadElement_40 rfl ?_
    refine J_ishr C D_Ba_loadElement_42 ?_
    obtain ⟨c_43, h⟩ := h
    refine J_iast C D_Ba_loadElement_43 c_43 ?_
    refine J_iinc (v := x3 + 1) (lv' := [(3, .int (x3 + 1)), (0, .ref (xd x a0)), (1, .int x1), (2, .ref (xd x a2))]) C 3 3 D_Ba_loadElement_44 rfl rfl (by decide) rfl ?_
    refine J_goto (tgt := 12) C D_Ba_loadElement_47 (by decide) ?_
    exact J_sub [1, 2, 3, 0] rfl (K12 _ _ _ _ _ h)
def L_Ba_loadElement_12 (post : Mem → Prop) : Nat → Nat → Int32 → Nat → Int32 → Mem → Prop
  | 0, _, _, _, _, _ => False
  | n + 1, a0, x1, a2, x3, M => B_Ba_loadElement_12 (L_Ba_loadElement_12 post n) post a0 x1 a2 x3 M
theorem Y_Ba_loadElement_12 {x : Ctx} {post : Mem → Prop} (C : Ok x b_Ba_loadElement 4 "HeapTower$Base") (hR : xR x = rm_Ba_loadElement) (Rt : RetV x post 0 0) : ∀ (n : Nat) (a0 : Nat) (x1 : Int32) (a2 : Nat) (x3 : Int32) (M : Mem), L_Ba_loadElement_12 post n a0 x1 a2 x3 M → J x 4 12 [(0, .ref (xd x a0)), (1, .int x1), (2, .ref (xd x a2)), (3, .int x3)] [] 0 0 M := by
  intro n
  induction n with
  | zero => intro a0 x1 a2 x3 M h; exact h.elim
  | succ n ih => intro a0 x1 a2 x3 M h; exact Z_Ba_loadElement_12 C hR Rt ih _ _ _ _ _ h
def T_Ba_loadElement (a0 : Nat) (x1 : Int32) (a2 : Nat) (M : Mem) (post : Mem → Prop) : Prop := (T_Ar_fill2 a2 0 M (fun M2 => isK M2 a0 0 ∧ ∃ q6, gR M2 a0 4 = some q6 ∧ isA M2 q6 8 x1 ∧ ∃ n, L_Ba_loadElement_12 post n a0 x1 a2 (gI M2 q6 (Int32.toNatClampNeg x1)) M2))
set_option maxRecDepth 20000 in
theorem S_Ba_loadElement {l : Launch} {D : va_G} {B t g : Nat} {d : Nat → Nat} {ac : Nat → ClassId}  (a0 : Nat) (x1 : Int32) (a2 : Nat) (M : Mem) (post : Mem → Prop) (h : T_Ba_loadElement a0 x1 a2 M post) : Met l y_Ba_loadElement w_Ba_loadElement rm_Ba_loadElement (va_Pc [.ref (d a0), .int x1, .ref (d a2)] (PRE D B d g t ac M)) (QV D B d g ac post) 0 0 (AB B) := by
  refine met_v (by decide +kernel) (Nat.le_of_ble_eq_true rfl) (fun x h1 hR h3 h4 h5 h6 h7 h8 C Rt Nm => ?_)
  subst h3 h4 h5 h6 h7 h8
  unfold T_Ba_loadElement at h
  show J x 4 0 [(0, .ref (xd x a0)), (1, .int x1), (2, .ref (xd x a2))] [] 0 0 M
  refine J_aload_n C 2 D_Ba_loadElement_0 rfl rfl ?_
  refine J_iconst (v := 0) C D_Ba_loadElement_1 rfl ?_
  refine J_callSv C ml_Ba_70 (S_Ar_fill2 _ _ _ _ h) (by rw [hR]; decide) rfl rfl (Nat.le_of_ble_eq_true rfl) D_Ba_loadElement_2 (fun M2 h => ?_)
  refine J_aload_n C 0 D_Ba_loadElement_5 rfl rfl ?_
  obtain ⟨c_6, q6, e_6, h⟩ := h
  refine J_getR C fl_Ba_9 D_Ba_loadElement_6 c_6 e_6 ?_
  refine J_iload_n C 1 D_Ba_loadElement_9 rfl rfl ?_
  obtain ⟨c_10, h⟩ := h
  refine J_iald C D_Ba_loadElement_10 c_10 ?_
  refine J_istore_n (lv' := [(3, .int (gI M2 q6 (Int32.toNatClampNeg x1))), (0, .ref (xd x a0)), (1, .int x1), (2, .ref (xd x a2))]) C 3 D_Ba_loadElement_11 rfl (by decide) rfl ?_
  obtain ⟨n, h⟩ := h
  exact J_sub [1, 2, 3, 0] rfl (Y_Ba_loadElement_12 C hR Rt  n _ _ _ _ _ h)
theorem D_Ba_degreeOf_0 : decode b_Ba_degreeOf 0 = .ok (.aload_n 0, 1) := by decide +kernel
theorem D_Ba_degreeOf_1 : decode b_Ba_degreeOf 1 = .ok (.getfield 15, 3) := by decide +kernel
theorem D_Ba_degreeOf_4 : decode b_Ba_degreeOf 4 = .ok (.iload_n 1, 1) := by decide +kernel
theorem D_Ba_degreeOf_5 : decode b_Ba_degreeOf 5 = .ok (.iaload, 1) := by decide +kernel
theorem D_Ba_degreeOf_6 : decode b_Ba_degreeOf 6 = .ok (.ireturn, 1) := by decide +kernel
abbrev rm_Ba_degreeOf : Room := { frames := 0, cells := 0, slots := 0, locals := 0 }
def T_Ba_degreeOf (a0 : Nat) (x1 : Int32) (M : Mem) (post : Int32 → Mem → Prop) : Prop := (isK M a0 0 ∧ ∃ q1, gR M a0 5 = some q1 ∧ isA M q1 8 x1 ∧ post (gI M q1 (Int32.toNatClampNeg x1)) M)
set_option maxRecDepth 20000 in
theorem S_Ba_degreeOf {l : Launch} {D : va_G} {B t g : Nat} {d : Nat → Nat} {ac : Nat → ClassId}  (a0 : Nat) (x1 : Int32) (M : Mem) (post : Int32 → Mem → Prop) (h : T_Ba_degreeOf a0 x1 M post) : Met l y_Ba_degreeOf w_Ba_degreeOf rm_Ba_degreeOf (va_Pc [.ref (d a0), .int x1] (PRE D B d g t ac M)) (QI D B d g ac post) 0 0 (AB B) := by
  refine met_i (by decide +kernel) (Nat.le_of_ble_eq_true rfl) (fun x h1 hR h3 h4 h5 h6 h7 h8 C Rt => ?_)
  subst h3 h4 h5 h6 h7 h8
  unfold T_Ba_degreeOf at h
  show J x 2 0 [(0, .ref (xd x a0)), (1, .int x1)] [] 0 0 M
  refine J_aload_n C 0 D_Ba_degreeOf_0 rfl rfl ?_
  obtain ⟨c_1, q1, e_1, h⟩ := h
  refine J_getR C fl_Ba_15 D_Ba_degreeOf_1 c_1 e_1 ?_
  refine J_iload_n C 1 D_Ba_degreeOf_4 rfl rfl ?_
  obtain ⟨c_5, h⟩ := h
  refine J_iald C D_Ba_degreeOf_5 c_5 ?_
  exact J_iret C Rt D_Ba_degreeOf_6 rfl h
theorem D_Ba_standardCount_0 : decode b_Ba_standardCount 0 = .ok (.aload_n 0, 1) := by decide +kernel
theorem D_Ba_standardCount_1 : decode b_Ba_standardCount 1 = .ok (.getfield 21, 3) := by decide +kernel
theorem D_Ba_standardCount_4 : decode b_Ba_standardCount 4 = .ok (.iload_n 1, 1) := by decide +kernel
theorem D_Ba_standardCount_5 : decode b_Ba_standardCount 5 = .ok (.iaload, 1) := by decide +kernel
theorem D_Ba_standardCount_6 : decode b_Ba_standardCount 6 = .ok (.ireturn, 1) := by decide +kernel
abbrev rm_Ba_standardCount : Room := { frames := 0, cells := 0, slots := 0, locals := 0 }
def T_Ba_standardCount (a0 : Nat) (x1 : Int32) (M : Mem) (post : Int32 → Mem → Prop) : Prop := (isK M a0 0 ∧ ∃ q1, gR M a0 7 = some q1 ∧ isA M q1 8 x1 ∧ post (gI M q1 (Int32.toNatClampNeg x1)) M)
set_option maxRecDepth 20000 in
theorem S_Ba_standardCount {l : Launch} {D : va_G} {B t g : Nat} {d : Nat → Nat} {ac : Nat → ClassId}  (a0 : Nat) (x1 : Int32) (M : Mem) (post : Int32 → Mem → Prop) (h : T_Ba_standardCount a0 x1 M post) : Met l y_Ba_standardCount w_Ba_standardCount rm_Ba_standardCount (va_Pc [.ref (d a0), .int x1] (PRE D B d g t ac M)) (QI D B d g ac post) 0 0 (AB B) := by
  refine met_i (by decide +kernel) (Nat.le_of_ble_eq_true rfl) (fun x h1 hR h3 h4 h5 h6 h7 h8 C Rt => ?_)
  subst h3 h4 h5 h6 h7 h8
  unfold T_Ba_standardCount at h
  show J x 2 0 [(0, .ref (xd x a0)), (1, .int x1)] [] 0 0 M
  refine J_aload_n C 0 D_Ba_standardCount_0 rfl rfl ?_
  obtain ⟨c_1, q1, e_1, h⟩ := h
  refine J_getR C fl_Ba_21 D_Ba_standardCount_1 c_1 e_1 ?_
  refine J_iload_n C 1 D_Ba_standardCount_4 rfl rfl ?_
  obtain ⟨c_5, h⟩ := h
  refine J_iald C D_Ba_standardCount_5 c_5 ?_
  exact J_iret C Rt D_Ba_standardCount_6 rfl h
theorem D_Ba_neededRows_0 : decode b_Ba_neededRows 0 = .ok (.aload_n 0, 1) := by decide +kernel
theorem D_Ba_neededRows_1 : decode b_Ba_neededRows 1 = .ok (.getfield 24, 3) := by decide +kernel
theorem D_Ba_neededRows_4 : decode b_Ba_neededRows 4 = .ok (.iload_n 1, 1) := by decide +kernel
theorem D_Ba_neededRows_5 : decode b_Ba_neededRows 5 = .ok (.iaload, 1) := by decide +kernel
theorem D_Ba_neededRows_6 : decode b_Ba_neededRows 6 = .ok (.ireturn, 1) := by decide +kernel
abbrev rm_Ba_neededRows : Room := { frames := 0, cells := 0, slots := 0, locals := 0 }
def T_Ba_neededRows (a0 : Nat) (x1 : Int32) (M : Mem) (post : Int32 → Mem → Prop) : Prop := (isK M a0 0 ∧ ∃ q1, gR M a0 8 = some q1 ∧ isA M q1 8 x1 ∧ post (gI M q1 (Int32.toNatClampNeg x1)) M)
set_option maxRecDepth 20000 in
theorem S_Ba_neededRows {l : Launch} {D : va_G} {B t g : Nat} {d : Nat → Nat} {ac : Nat → ClassId}  (a0 : Nat) (x1 : Int32) (M : Mem) (post : Int32 → Mem → Prop) (h : T_Ba_neededRows a0 x1 M post) : Met l y_Ba_neededRows w_Ba_neededRows rm_Ba_neededRows (va_Pc [.ref (d a0), .int x1] (PRE D B d g t ac M)) (QI D B d g ac post) 0 0 (AB B) := by
  refine met_i (by decide +kernel) (Nat.le_of_ble_eq_true rfl) (fun x h1 hR h3 h4 h5 h6 h7 h8 C Rt => ?_)
  subst h3 h4 h5 h6 h7 h8
  unfold T_Ba_neededRows at h
  show J x 2 0 [(0, .ref (xd x a0)), (1, .int x1)] [] 0 0 M
  refine J_aload_n C 0 D_Ba_neededRows_0 rfl rfl ?_
  obtain ⟨c_1, q1, e_1, h⟩ := h
  refine J_getR C fl_Ba_24 D_Ba_neededRows_1 c_1 e_1 ?_
  refine J_iload_n C 1 D_Ba_neededRows_4 rfl rfl ?_
  obtain ⟨c_5, h⟩ := h
  refine J_iald C D_Ba_neededRows_5 c_5 ?_
  exact J_iret C Rt D_Ba_neededRows_6 rfl h
theorem D_Ba_leadingCount_0 : decode b_Ba_leadingCount 0 = .ok (.aload_n 0, 1) := by decide +kernel
theorem D_Ba_leadingCount_1 : decode b_Ba_leadingCount 1 = .ok (.getfield 37, 3) := by decide +kernel
theorem D_Ba_leadingCount_4 : decode b_Ba_leadingCount 4 = .ok (.iload_n 1, 1) := by decide +kernel
theorem D_Ba_leadingCount_5 : decode b_Ba_leadingCount 5 = .ok (.invokevirtual 61, 3) := by decide +kernel
theorem D_Ba_leadingCount_8 : decode b_Ba_leadingCount 8 = .ok (.aload_n 0, 1) := by decide +kernel
theorem D_Ba_leadingCount_9 : decode b_Ba_leadingCount 9 = .ok (.getfield 21, 3) := by decide +kernel
theorem D_Ba_leadingCount_12 : decode b_Ba_leadingCount 12 = .ok (.iload_n 1, 1) := by decide +kernel
theorem D_Ba_leadingCount_13 : decode b_Ba_leadingCount 13 = .ok (.iaload, 1) := by decide +kernel
theorem D_Ba_leadingCount_14 : decode b_Ba_leadingCount 14 = .ok (.isub, 1) := by decide +kernel
theorem D_Ba_leadingCount_15 : decode b_Ba_leadingCount 15 = .ok (.ireturn, 1) := by decide +kernel
abbrev rm_Ba_leadingCount : Room := { frames := 1, cells := 0, slots := 0, locals := 21 }
def T_Ba_leadingCount (a0 : Nat) (x1 : Int32) (M : Mem) (post : Int32 → Mem → Prop) : Prop := (isK M a0 0 ∧ ∃ q1, gR M a0 0 = some q1 ∧ isK M q1 4 ∧ T_Pr_amount q1 x1 M (fun r5 M5 => isK M5 a0 0 ∧ ∃ q9, gR M5 a0 7 = some q9 ∧ isA M5 q9 8 x1 ∧ post (r5 - (gI M5 q9 (Int32.toNatClampNeg x1))) M5))
set_option maxRecDepth 20000 in
theorem S_Ba_leadingCount {l : Launch} {D : va_G} {B t g : Nat} {d : Nat → Nat} {ac : Nat → ClassId}  (a0 : Nat) (x1 : Int32) (M : Mem) (post : Int32 → Mem → Prop) (h : T_Ba_leadingCount a0 x1 M post) : Met l y_Ba_leadingCount w_Ba_leadingCount rm_Ba_leadingCount (va_Pc [.ref (d a0), .int x1] (PRE D B d g t ac M)) (QI D B d g ac post) 0 0 (AB B) := by
  refine met_i (by decide +kernel) (Nat.le_of_ble_eq_true rfl) (fun x h1 hR h3 h4 h5 h6 h7 h8 C Rt => ?_)
  subst h3 h4 h5 h6 h7 h8
  unfold T_Ba_leadingCount at h
  show J x 2 0 [(0, .ref (xd x a0)), (1, .int x1)] [] 0 0 M
  refine J_aload_n C 0 D_Ba_leadingCount_0 rfl rfl ?_
  obtain ⟨c_1, q1, e_1, h⟩ := h
  refine J_getR C fl_Ba_37 D_Ba_leadingCount_1 c_1 e_1 ?_
  refine J_iload_n C 1 D_Ba_leadingCount_4 rfl rfl ?_
  obtain ⟨c_5, h⟩ := h
  refine J_callVi C ml_Ba_61 (S_Pr_amount _ _ _ _ h) (by rw [hR]; decide) rfl c_5 rfl (Nat.le_of_ble_eq_true rfl) D_Ba_leadingCount_5 (fun r5 M5 h => ?_)
  refine J_aload_n C 0 D_Ba_leadingCount_8 rfl rfl ?_
  obtain ⟨c_9, q9, e_9, h⟩ := h
  refine J_getR C fl_Ba_21 D_Ba_leadingCount_9 c_9 e_9 ?_
  refine J_iload_n C 1 D_Ba_leadingCount_12 rfl rfl ?_
  obtain ⟨c_13, h⟩ := h
  refine J_iald C D_Ba_leadingCount_13 c_13 ?_
  refine J_isub C D_Ba_leadingCount_14 ?_
  exact J_iret C Rt D_Ba_leadingCount_15 rfl h
