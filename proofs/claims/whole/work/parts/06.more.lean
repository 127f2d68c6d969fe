/-- a copy of a stretch of numbers is allowed -/
def cpOk (M : Mem) (a : Nat) (sp : Int32) (b : Nat) (dp n : Int32) : Prop := ((isK M a 8 ∧ isK M b 8) ∧ (¬ sp < 0 ∧ ¬ dp < 0 ∧ ¬ n < 0)) ∧ (sp.toNatClampNeg + n.toNatClampNeg ≤ ln M a ∧ dp.toNatClampNeg + n.toNatClampNeg ≤ ln M b)
def cpM (M : Mem) (a : Nat) (sp : Int32) (b : Nat) (dp n : Int32) : Mem := sA M b (va_cpy (gI M a) (gI M b) sp.toNatClampNeg dp.toNatClampNeg n.toNatClampNeg)
theorem sA_fl {M : Mem} {c : Nat} {f : Nat → Int32} (hc : kd M c ≠ 12) {e : Nat} (he : kd M e = 12) : gI (sA M c f) e 2147483648 = gI M e 2147483648 := by
  have hne : e ≠ c := fun z => hc (by rw [← z]; exact he)
  show (if e = c then _ else _ : Nat → Int32) _ = _
  rw [if_neg hne]; rfl
/-! how much was made is told by the heap: the two numbers may be lowered to it -/
section FIT
variable {p : Program} {l : Launch} {e : Env} {R : Room} {s : State} {m : MethodId} {args : Array Value} {below : List Frame} {meth : Method} {c : Code} {T : State} {locs : List Loc} {cells slots cells' slots' : Nat}
theorem stand_fit (X : Stand p l e R s m args below meth c T locs cells slots) (h1 : T.heap.size ≤ s.heap.size + cells') (h2 : T.slotsUsed ≤ s.slotsUsed + slots') : Stand p l e R s m args below meth c T locs cells' slots' := by
  obtain ⟨q1, q2, q3, q4, q5, q6⟩ := X.same
  refine ⟨X.admits, X.cas, X.clock, X.frames, X.room, X.hears, X.method, X.code, X.here, X.tail, X.warmed, X.limits, X.bytes, q1, q2, h1, q4, ?_, q6⟩
  have q4' : T.slotsUsed = s.slotsUsed + _ := q4
  rw [q4'] at h2
  exact Nat.le_of_add_le_add_left h2
end FIT
section MORER
variable {x : Ctx} {cc : ByteArray} {nL pc ce sl : Nat} {own : String} {lv lv' : List (Nat × Value)} {st rest : List Value} {M : Mem}
theorem J_lcmp (C : Ok x cc nL own) {a b : Int64} (d : decode cc pc = .ok (.lcmp, 1)) (k : J x nL (pc + 1) lv (.int (lg_cmp a b) :: st) ce sl M) : J x nL pc lv (.long b :: .long a :: st) ce sl M := fun H locs ls h1 h2 h3 h4 => W.lcmp C.1 C.2.1 d (k H locs ls h1 h2 h3 h4)
theorem J_ior (C : Ok x cc nL own) {a b : Int32} (d : decode cc pc = .ok (.ior, 1)) (k : J x nL (pc + 1) lv (.int (a ||| b) :: st) ce sl M) : J x nL pc lv (.int b :: .int a :: st) ce sl M := fun H locs ls h1 h2 h3 h4 => lv_ior C.1 C.2.1 d (k H locs ls h1 h2 h3 h4)
theorem lg_ge {a b : Int64} : (0 ≤ lg_cmp a b) ↔ b ≤ a := by
  unfold lg_cmp
  by_cases h1 : a > b
  · rw [if_pos h1]; exact ⟨fun _ => Int64.le_of_lt h1, fun _ => by decide⟩
  · rw [if_neg h1]
    by_cases h2 : a = b
    · rw [if_pos h2]; exact ⟨fun _ => by rw [h2]; exact Int64.le_refl b, fun _ => by decide⟩
    · rw [if_neg h2]
      refine ⟨fun h => absurd h (by decide), fun h => ?_⟩
      exact absurd (Int64.le_antisymm (Int64.not_lt.mp h1) h) h2
theorem lg_gt {a b : Int64} : (0 < lg_cmp a b) ↔ b < a := by
  unfold lg_cmp
  by_cases h1 : a > b
  · rw [if_pos h1]; exact ⟨fun _ => h1, fun _ => by decide⟩
  · rw [if_neg h1]
    refine ⟨fun h => ?_, fun h => absurd h h1⟩
    by_cases h2 : a = b
    · rw [if_pos h2] at h; exact absurd h (by decide)
    · rw [if_neg h2] at h; exact absurd h (by decide)
theorem J_lcmp_ge (C : Ok x cc nL own) {a b : Int64} {off : Int} {tgt : Nat} (d : decode cc pc = .ok (.lcmp, 1)) (d2 : decode cc (pc + 1) = .ok (.ifCond .ge off, 3)) (ht : ((pc + 1 : Nat) : Int) + off = (tgt : Int)) (k1 : b ≤ a → J x nL tgt lv st ce sl M) (k2 : ¬ b ≤ a → J x nL (pc + 1 + 3) lv st ce sl M) : J x nL pc lv (.long b :: .long a :: st) ce sl M :=
  J_lcmp C d (J_if_ge C d2 ht (fun q => k1 (lg_ge.mp q)) (fun q => k2 (fun z => q (lg_ge.mpr z))))
theorem J_lcmp_gt (C : Ok x cc nL own) {a b : Int64} {off : Int} {tgt : Nat} (d : decode cc pc = .ok (.lcmp, 1)) (d2 : decode cc (pc + 1) = .ok (.ifCond .gt off, 3)) (ht : ((pc + 1 : Nat) : Int) + off = (tgt : Int)) (k1 : b < a → J x nL tgt lv st ce sl M) (k2 : ¬ b < a → J x nL (pc + 1 + 3) lv st ce sl M) : J x nL pc lv (.long b :: .long a :: st) ce sl M :=
  J_lcmp C d (J_if_gt C d2 ht (fun q => k1 (lg_gt.mp q)) (fun q => k2 (fun z => q (lg_gt.mpr z))))
theorem nar_z (y : Int32) : narrow .boolean (.int y) = .int (vp_nar .boolean y) := rfl
theorem J_zast (C : Ok x cc nL own) {c : Nat} {i y : Int32} (d : decode cc pc = .ok (.bastore, 1)) (hM : isA M c 9 i) (kk : J x nL (pc + 1) lv st ce sl (sI M c i.toNatClampNeg (vp_nar .boolean y))) : J x nL pc lv (.int y :: .int i :: .ref (xd x c) :: st) ce sl M := by
  intro H locs ls h1 h2 h3 h4
  have he := ws_get (B := xd x) (ac := xA x) hM.1.1
  rw [cE_i hM.1.2 (by decide) (by decide)] at he
  exact W.zast C.1 C.2.1 (h1 c _ he) ((C.2.2.2.2.2.1.1.2 1 _ rfl).1 (ln M c) (fun j => .int (gI M c j))) (fun q => by cases q) (by show ¬ (i < 0 ∨ (arrV _ _ _).slots.size ≤ _); rw [arrV_size]; exact hM.2) rfl rfl d fun H1 e z oq => ast_any (by decide) (by decide) hM h1 h2 h3 h4 (by rw [nar_z] at e; exact e) z oq kk
theorem J_obj (C : Ok x cc nL own) {idx a : Nat} (hw : (Cond.methodLink own idx Lib.objectInit ∈ gw ∧ Cond.instanceMethod Lib.objectInit ∈ gw) ∧ Cond.code Lib.objectInit ⟨#[0xb1]⟩ 1 none ∈ gw) (d : decode cc pc = .ok (.invokespecial idx, 3)) (hr : 1 ≤ (xR x).frames ∧ 20 ≤ (xR x).locals) (hcat : (st.map fun v => v.category).sum ≤ 8) (k : J x nL (pc + 3) lv st ce sl M) : J x nL pc lv (.ref a :: st) ce sl M := by
  intro H locs ls h1 h2 h3 h4
  have hts := C.2.2.2.2.1
  refine W.objInit C.1 C.2.1 C.2.2.2.1 (hts _ hw.1.1) (hts _ hw.1.2) (hts _ hw.2) rfl (by rw [C.2.2.1]; exact h4.1) rfl d hr.1 ?_ (k H locs ls h1 h2 h3 h4)
  have := lv_room (m := xm x) (pc := pc) (ls := ls) (rest := .ref a :: st) hcat
  omega
def KC (own : String) (idx : Nat) : Prop := (Cond.methodLink own idx arraycopyName ∈ gw ∧ Cond.native arraycopyName ∈ gw) ∧ (Cond.static arraycopyName ∈ gw ∧ Cond.initialized "java/lang/System" ∈ gw)
theorem J_copy (C : Ok x cc nL own) {idx a0 b0 : Nat} {sp dp n : Int32} (hw : KC own idx) (d : decode cc pc = .ok (.invokestatic idx, 3)) (hr : 1 ≤ (xR x).frames ∧ 26 ≤ (xR x).locals) (hcat : (st.map fun v => v.category).sum ≤ 8) (hM : cpOk M a0 sp b0 dp n) (kk : J x nL (pc + 3) lv st ce sl (cpM M a0 sp b0 dp n)) : J x nL pc lv (.int n :: .int dp :: .ref (xd x b0) :: .int sp :: .ref (xd x a0) :: st) ce sl M := by
  intro H locs ls hP hsz hS hlv T hT X
  obtain ⟨⟨⟨ka, kb⟩, p1, p2, p3⟩, q1, q2⟩ := hM
  have hts := C.2.2.2.2.1
  have wa := ws_get (B := xd x) (ac := xA x) ka.1
  have wb := ws_get (B := xd x) (ac := xA x) kb.1
  rw [cE_i ka.2 (by decide) (by decide)] at wa
  rw [cE_i kb.2 (by decide) (by decide)] at wb
  have up : H.size ≤ (xs x).heap.size + ce := by rw [← hT]; exact X.heapSize
  have down : (xs x).heap.size ≤ H.size := hS.1
  have words : nativeFrameWords "java/lang/System" "arraycopy" 5 = 7 := by decide
  refine va_copyi (cells := H.size - (xs x).heap.size) (slots := sl) (H0 := H) (A := AB (xB x)) C.1 C.2.1 (C.2.2.1.trans hlv.1.symm) C.2.2.2.1 (hts _ hw.1.1) (hts _ hw.1.2) (hts _ hw.2.1) (hts _ hw.2.2) C.2.2.2.2.2.1.1 hP (ws_D (xA x) hsz.2.2) ⟨Nat.le_refl _, fun _ _ _ => rfl, hS.2.2⟩ a0 b0 0 0 wa wb rfl rfl rfl p1 p2 p3 q1 q2 (fun _ _ => rfl) hr.1 (by rw [words]; omega) d (fun H1 locs1 g1 _ g3 T1 hT1 X1 => ?_) T hT (stand_fit X (by rw [hT]; omega) X.used)
  have e : H1.size = H.size := by
    have h1 := X1.heapSize
    have h2 := g3.1
    rw [hT1] at h1
    omega
  rw [ws_set kb.1 (M' := cpM M a0 sp b0 dp n) rfl (by rw [cE_i (show kd (cpM M a0 sp b0 dp n) b0 = 8 from kb.2) (by decide) (by decide)]; unfold cpM; rw [gI_sA]; rfl) (fun d hd => sA_ws hd)] at g1
  exact kk H1 locs1 ls g1 (hsz.keep (M' := cpM M a0 sp b0 dp n) e rfl rfl (fun q _ he => sA_fl (by rw [kb.2]; decide) he)) ⟨by rw [e]; exact hS.1, fun q w1 w2 => (g3.2.1 q (Nat.lt_of_lt_of_le w1 hS.1) w2).trans (hS.2.1 q w1 w2), g3.2.2⟩ hlv T1 hT1 (stand_widen X1 (by omega) (Nat.le_refl _))
end MORER
