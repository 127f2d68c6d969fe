/-- a copy of a stretch of numbers is allowed -/
def cpOk (M : Mem) (a : Nat) (sp : Int32) (b : Nat) (dp n : Int32) : Prop := ((isK M a 8 ∧ isK M b 8) ∧ (¬ sp < 0 ∧ ¬ dp < 0 ∧ ¬ n < 0)) ∧ (sp.toNatClampNeg + n.toNatClampNeg ≤ ln M a ∧ dp.toNatClampNeg + n.toNatClampNeg ≤ ln M b)
def cpM (M : Mem) (a : Nat) (sp : Int32) (b : Nat) (dp n : Int32) : Mem := sA M b (va_cpy (gI M a) (gI M b) sp.toNatClampNeg dp.toNatClampNeg n.toNatClampNeg)
theorem sA_fl {M : Mem} {c : Nat} {f : Nat → Int32} (hc : kd M c ≠ 12) {e : Nat} (he : kd M e = 12) : gI (sA M c f) e 2147483648 = gI M e 2147483648 := by
  have hne : e ≠ c := fun z => hc (by rw [← z]; exact he)
  show (if e = c then _ else _ : Nat → Int32) _ = _
  rw [if_neg hne]; rfl
section MORER
variable {x : Ctx} {cc : ByteArray} {nL pc ce sl : Nat} {own : String} {lv lv' : List (Nat × Value)} {st rest : List Value} {M : Mem}
theorem J_lcmp (C : Ok x cc nL own) {a b : Int64} (d : decode cc pc = .ok (.lcmp, 1)) (k : J x nL (pc + 1) lv (.int (lg_cmp a b) :: st) ce sl M) : J x nL pc lv (.long b :: .long a :: st) ce sl M := fun H locs ls h1 h2 h3 h4 => W.lcmp C.1 C.2.1 d (k H locs ls h1 h2 h3 h4)
theorem J_ior (C : Ok x cc nL own) {a b : Int32} (d : decode cc pc = .ok (.ior, 1)) (k : J x nL (pc + 1) lv (.int (a ||| b) :: st) ce sl M) : J x nL pc lv (.int b :: .int a :: st) ce sl M := fun H locs ls h1 h2 h3 h4 => lv_ior C.1 C.2.1 d (k H locs ls h1 h2 h3 h4)
theorem lg_ge {a b : Int64} : (0 ≤ lg_cmp a b) ↔ b ≤ a := by
  unfold lg_cmp
  by_cases h1 : a > b
  · rw [if_pos h1]; exact ⟨fun _ => Int64.le_of_lt h1, fun _ => by decide⟩
  · rw [if_neg h1]
    by_cases h2 : a = b
    · rw [if_pos h2]; exact ⟨fun _ => by rw [h2]; exact Int64.le_refl b, fun _ => by decide⟩
    · rw [if_neg h2]
      refine ⟨fun h => absurd h (by decide), fun h => ?_⟩
      exact absurd (Int64.le_antisymm (Int64.not_lt.mp h1) h) h2
theorem lg_gt {a b : Int64} : (0 < lg_cmp a b) ↔ b < a := by
  unfold lg_cmp
  by_cases h1 : a > b
  · rw [if_pos h1]; exact ⟨fun _ => h1, fun _ => by decide⟩
  · rw [if_neg h1]
    refine ⟨fun h => ?_, fun h => absurd h h1⟩
    by_cases h2 : a = b
    · rw [if_pos h2] at h; exact absurd h (by decide)
    · rw [if_neg h2] at h; exact absurd h (by decide)
theorem J_lcmp_ge (C : Ok x cc nL own) {a b : Int64} {off : Int} {tgt : Nat} (d : decode cc pc = .ok (.lcmp, 1)) (d2 : decode cc (pc + 1) = .ok (.ifCond .ge off, 3)) (ht : ((pc + 1 : Nat) : Int) + off = (tgt : Int)) (k1 : b ≤ a → J x nL tgt lv st ce sl M) (k2 : ¬ b ≤ a → J x nL (pc + 1 + 3) lv st ce sl M) : J x nL pc lv (.long b :: .long a :: st) ce sl M :=
  J_lcmp C d (J_if_ge C d2 ht (fun q => k1 (lg_ge.mp q)) (fun q => k2 (fun z => q (lg_ge.mpr z))))
theorem J_lcmp_gt (C : Ok x cc nL own) {a b : Int64} {off : Int} {tgt : Nat} (d : decode cc pc = .ok (.lcmp, 1)) (d2 : decode cc (pc + 1) = .ok (.ifCond .gt off, 3)) (ht : ((pc + 1 : Nat) : Int) + off = (tgt : Int)) (k1 : b < a → J x nL tgt lv st ce sl M) (k2 : ¬ b < a → J x nL (pc + 1 + 3) lv st ce sl M) : J x nL pc lv (.long b :: .long a :: st) ce sl M :=
  J_lcmp C d (J_if_gt C d2 ht (fun q => k1 (lg_gt.mp q)) (fun q => k2 (fun z => q (lg_gt.mpr z))))
theorem nar_z (y : Int32) : narrow .boolean (.int y) = .int (vp_nar .boolean y) := rfl
theorem J_zast (C : Ok x cc nL own) {c : Nat} {i y : Int32} (d : decode cc pc = .ok (.bastore, 1)) (hM : isA M c 9 i) (kk : J x nL (pc + 1) lv st ce sl (sI M c i.toNatClampNeg (vp_nar .boolean y))) : J x nL pc lv (.int y :: .int i :: .ref (xd x c) :: st) ce sl M := by
  intro H locs ls h1 h2 h3 h4
  have he := ws_get (B := xd x) (ac := xA x) hM.1.1
  rw [cE_i hM.1.2 (by decide) (by decide)] at he
  exact W.zast C.1 C.2.1 (h1 c _ he) ((C.2.2.2.2.2.1.1.2 1 _ rfl).1 (ln M c) (fun j => .int (gI M c j))) (fun q => by cases q) (by show ¬ (i < 0 ∨ (arrV _ _ _).slots.size ≤ _); rw [arrV_size]; exact hM.2) rfl rfl d fun H1 e z oq => ast_any (by decide) (by decide) hM h1 h2 h3 h4 (by rw [nar_z] at e; exact e) z oq kk
theorem J_obj (C : Ok x cc nL own) {idx a : Nat} (hw : (Cond.methodLink own idx Lib.objectInit ∈ gw ∧ Cond.instanceMethod Lib.objectInit ∈ gw) ∧ Cond.code Lib.objectInit ⟨#[0xb1]⟩ 1 none ∈ gw) (d : decode cc pc = .ok (.invokespecial idx, 3)) (hr : 1 ≤ (xR x).frames ∧ 20 ≤ (xR x).locals) (hcat : (st.map fun v => v.category).sum ≤ 8) (k : J x nL (pc + 3) lv st ce sl M) : J x nL pc lv (.ref a :: st) ce sl M := by
  intro H locs ls h1 h2 h3 h4
  have hts := C.2.2.2.2.1
  refine W.objInit C.1 C.2.1 C.2.2.2.1 (hts _ hw.1.1) (hts _ hw.1.2) (hts _ hw.2) rfl (by rw [C.2.2.1]; exact h4.1) rfl d hr.1 ?_ (k H locs ls h1 h2 h3 h4)
  have := lv_room (m := xm x) (pc := pc) (ls := ls) (rest := .ref a :: st) hcat
  omega
def KC (own : String) (idx : Nat) : Prop := (Cond.methodLink own idx arraycopyName ∈ gw ∧ Cond.native arraycopyName ∈ gw) ∧ (Cond.static arraycopyName ∈ gw ∧ Cond.initialized "java/lang/System" ∈ gw)
theorem J_copy (C : Ok x cc nL own) {idx a0 b0 : Nat} {sp dp n : Int32} (hw : KC own idx) (d : decode cc pc = .ok (.invokestatic idx, 3)) (hr : 1 ≤ (xR x).frames ∧ 26 ≤ (xR x).locals) (hcat : (st.map fun v => v.category).sum ≤ 8) (hM : cpOk M a0 sp b0 dp n) (kk : J x nL (pc + 3) lv st ce sl (cpM M a0 sp b0 dp n)) : J x nL pc lv (.int n :: .int dp :: .ref (xd x b0) :: .int sp :: .ref (xd x a0) :: st) ce sl M := by
  intro H locs ls hP hsz hS hlv
  obtain ⟨⟨⟨ka, kb⟩, h1, h2, h3⟩, h4, h5⟩ := hM
  have hts := C.2.2.2.2.1
  have ha0 := ws_get (B := xd x) (ac := xA x) ka.1
  rw [cE_i ka.2 (by decide) (by decide)] at ha0
  have ha1 := ws_get (B := xd x) (ac := xA x) kb.1
  rw [cE_i kb.2 (by decide) (by decide)] at ha1
  have nn : ∀ z : Int32, ¬ z < 0 → z.toInt = (z.toNatClampNeg : Int) := by
    intro z hz
    have hz0 : (0 : Int) ≤ z.toInt := by
      have := Int32.not_lt.mp hz
      simpa using Int32.le_iff_toInt_le.mp this
    show z.toInt = ((z.toInt.toNat : Nat) : Int)
    omega
  intro T hT X
  have hc0 : H[xd x a0]? = some (vp_cell (xA x 8) (ln M a0, .inl (gI M a0))) := hP a0 _ ha0
  have hc1 : H[xd x b0]? = some (vp_cell (xA x 8) (ln M b0, .inl (gI M b0))) := hP b0 _ ha1
  have hK := C.2.2.2.2.2.1.1
  obtain ⟨-, k0, hk0, cm0, hkk0⟩ := (hK.2 0 _ rfl).1 (ln M a0) (fun j => .int (gI M a0 j))
  obtain ⟨-, k1, hk1, cm1, hkk1⟩ := (hK.2 0 _ rfl).1 (ln M b0) (fun j => .int (gI M b0 j))
  have hnf : nativeFrameWords "java/lang/System" "arraycopy" 5 = 7 := by decide
  have hroom := lv_room (m := xm x) (pc := pc) (ls := ls) (rest := .int n :: .int dp :: .ref (xd x b0) :: .int sp :: .ref (xd x a0) :: st) hcat
  obtain ⟨vm', X', step⟩ := X.arraycopy C.1 C.2.2.2.1 (hts _ hw.1.1) (hts _ hw.1.2) (hts _ hw.2.1) (hts _ hw.2.2) (src := xd x a0) (dst := xd x b0) (cs := vp_cell (xA x 8) (ln M a0, .inl (gI M a0))) (cd := vp_cell (xA x 8) (ln M b0, .inl (gI M b0))) (srcPos := sp) (destPos := dp) (n := n) (by rw [hT]; exact hc0) (by rw [hT]; exact hc1)
    (fun _ h => by cases h) (fun _ h => by cases h) (fun h => by cases h) (fun h => by cases h) hk0 hk1 hkk0 hkk1 (by simp [refKind]) h1 h2 h3
    (by rw [nn sp h1, nn n h3]; show ¬ _ > ((arrV (xA x 8) (ln M a0) (fun j => .int (gI M a0 j))).slots.size : Int); rw [arrV_size]; omega)
    (by rw [nn dp h2, nn n h3]; show ¬ _ > ((arrV (xA x 8) (ln M b0) (fun j => .int (gI M b0 j))).slots.size : Int); rw [arrV_size]; omega)
    (fun vm₁ _ i hi => by
      have e : (vp_cell (xA x 8) (ln M a0, .inl (gI M a0))).slots.getD (sp.toNatClampNeg + i) .null = .int (gI M a0 (sp.toNatClampNeg + i)) := by
        show (arrV (xA x 8) (ln M a0) (fun j => .int (gI M a0 j))).slots.getD _ _ = _
        rw [Array.getD_eq_getD_getElem?, arrV_read _ _ (by omega)]
        rfl
      refine ⟨?_, ?_⟩
      · rw [e]
        rfl
      · rw [e]
        exact trivial)
    (g := F0 (xm x) pc ls (.int n :: .int dp :: .ref (xd x b0) :: .int sp :: .ref (xd x a0) :: st)) rfl (by rw [C.2.2.1]; exact hlv.1) (rest := st) rfl (by rw [C.2.1]; exact d) hr.1 (by omega)
  have e1 : copied (vp_cell (xA x 8) (ln M a0, .inl (gI M a0))) (vp_cell (xA x 8) (ln M b0, .inl (gI M b0))) sp dp n = vp_cell (xA x 8) (ln M b0, .inl (va_cpy (gI M a0) (gI M b0) sp.toNatClampNeg dp.toNatClampNeg n.toNatClampNeg)) := va_copied (fun z => .int z) (xA x 8) (xA x 8) (gI M a0) (gI M b0) h4
  rw [e1] at X' step
  have hl : xd x b0 < H.size := (Array.getElem?_eq_some_iff.mp hc1).1
  have oq : ∀ q : Nat, q ≠ xd x b0 → (H.setIfInBounds (xd x b0) (vp_cell (xA x 8) (ln M b0, .inl (va_cpy (gI M a0) (gI M b0) sp.toNatClampNeg dp.toNatClampNeg n.toNatClampNeg))))[q]? = H[q]? := fun q hq => by simp [Array.getElem?_setIfInBounds, Ne.symm hq]
  have hheap : ((T.setVm vm').setCell (xd x b0) (vp_cell (xA x 8) (ln M b0, .inl (va_cpy (gI M a0) (gI M b0) sp.toNatClampNeg dp.toNatClampNeg n.toNatClampNeg)))).heap = H.setIfInBounds (xd x b0) (vp_cell (xA x 8) (ln M b0, .inl (va_cpy (gI M a0) (gI M b0) sp.toNatClampNeg dp.toNatClampNeg n.toNatClampNeg))) := by rw [← hT]; rfl
  have hPn := hP.set (ws_D (xA x) hsz.2.2) ha1 (e := .inl (xA x 8, (ln M b0, .inl (va_cpy (gI M a0) (gI M b0) sp.toNatClampNeg dp.toNatClampNeg n.toNatClampNeg)))) (show (H.setIfInBounds (xd x b0) _)[xd x b0]? = some _ by simp [Array.getElem?_setIfInBounds, hl]) oq
  rw [ws_set kb.1 (M' := cpM M a0 sp b0 dp n) rfl (by rw [cE_i (show kd (cpM M a0 sp b0 dp n) b0 = 8 from kb.2) (by decide) (by decide)]; unfold cpM; rw [gI_sA]; rfl) (fun d hd => sA_ws hd)] at hPn
  obtain ⟨t, a1, b1⟩ := kk _ _ ls hPn (hsz.keep (M' := cpM M a0 sp b0 dp n) (by simp) rfl rfl (fun e _ he => sA_fl (by rw [kb.2]; decide) he)) ⟨by simp; exact hS.1, fun q g1 g2 => by
      rw [oq q (fun e => g2 (by rw [e]; exact hsz.2.2.ge kb.1))]
      exact hS.2.1 q g1 g2, fun q hq => by
      rcases List.mem_append.mp hq with h | h
      · exact hS.2.2 q h
      · obtain ⟨z, -, hz⟩ := List.mem_map.mp h
        rw [← hz]
        exact hsz.2.2.ge kb.1⟩ hlv _ hheap X'
  exact ⟨t, step t a1, b1⟩
end MORER
