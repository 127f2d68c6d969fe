/-! new cells -/
def mk (M : Mem) (k n : Nat) : Mem := (fun a => if a = nC M then (k, n) else M.1 a, fun a => if a = nC M then fun _ => 0 else M.2.1 a, fun a => if a = nC M then fun _ => none else M.2.2.1 a, nC M + 1)
/-- an array of n rows of w numbers each -/
def mk2 (M : Mem) (n w : Nat) : Mem := (fun a => if a = nC M then (11, n) else if nC M < a ∧ a ≤ nC M + n then (8, w) else M.1 a, fun a => if nC M ≤ a ∧ a ≤ nC M + n then fun _ => 0 else M.2.1 a, fun a => if a = nC M then (fun i => if i < n then some (nC M + 1 + i) else none) else if nC M < a ∧ a ≤ nC M + n then fun _ => none else M.2.2.1 a, nC M + 1 + n)
theorem ws_grow {D : va_G} {B : Nat} {ac : Nat → ClassId} {M M' : Mem} {H H1 : Heap} (hn : nC M ≤ nC M') (ho : ∀ c, c < nC M → cellE B ac M' c = cellE B ac M c) (h1 : va_P D hT_cl (wsM B ac M) H) (hq : ∀ q, q < H.size → H1[q]? = H[q]?) (hnew : ∀ c, nC M ≤ c → c < nC M' → va_at D hT_cl (B + c, cellE B ac M' c) H1) : va_P D hT_cl (wsM B ac M') H1 := by
  intro c q hc
  by_cases hl : c < nC M'
  · rw [ws_get hl] at hc
    cases hc
    by_cases hl2 : c < nC M
    · have h := h1 c _ (ws_get hl2)
      rw [ho c hl2]
      exact h.kept (hq _ h.lt)
    · exact hnew c (Nat.not_lt.mp hl2) hl
  · simp [wsM, hl] at hc
theorem mk_old {B : Nat} {ac : Nat → ClassId} {M : Mem} {k n c : Nat} (h : c < nC M) : cellE B ac (mk M k n) c = cellE B ac M c := by
  have hne : c ≠ nC M := Nat.ne_of_lt h
  have e1 : kd (mk M k n) c = kd M c := by simp [kd, mk, hne]
  have e2 : ln (mk M k n) c = ln M c := by simp [ln, mk, hne]
  have e3 : gI (mk M k n) c = gI M c := by funext j; simp [gI, mk, hne]
  have e4 : gR (mk M k n) c = gR M c := by funext j; simp [gR, mk, hne]
  simp only [cellE, e1, e2, e3, e4]
theorem mk_kd (M : Mem) (k n : Nat) : kd (mk M k n) (nC M) = k := by simp [kd, mk]
theorem mk_ln (M : Mem) (k n : Nat) : ln (mk M k n) (nC M) = n := by simp [ln, mk]
theorem mk_gI (M : Mem) (k n : Nat) : gI (mk M k n) (nC M) = fun _ => 0 := by funext j; simp [gI, mk]
theorem mk_gR (M : Mem) (k n : Nat) : gR (mk M k n) (nC M) = fun _ => none := by funext j; simp [gR, mk]
theorem outer_arr (cA : ClassId) (N h0 : Nat) : ∀ i, Jvm.Free.Multi.outerC cA N h0 i = arrV cA N (fun j => if j < i then .ref (h0 + 1 + j) else .null)
  | 0 => by
    show ({ cls := cA, slots := Array.replicate N .null, vm := .none } : Cell) = _
    rw [arrV_new]
    rfl
  | i + 1 => by
    show (Jvm.Free.Multi.outerC cA N h0 i).setSlot i (.ref (h0 + 1 + i)) = _
    rw [outer_arr cA N h0 i, arrV_store]
    congr 1
    funext j
    unfold updV
    by_cases z : j = i
    · rw [if_pos z, if_pos (by omega), z]
    · rw [if_neg z]
      dsimp only
      by_cases y : j < i
      · rw [if_pos y, if_pos (by omega)]
      · rw [if_neg y, if_neg (by omega)]
theorem mk2_old {B : Nat} {ac : Nat → ClassId} {M : Mem} {n w c : Nat} (h : c < nC M) : cellE B ac (mk2 M n w) c = cellE B ac M c := by
  have e0 : ¬ c = nC M := Nat.ne_of_lt h
  have e00 : ¬ (nC M < c ∧ c ≤ nC M + n) := fun q => by omega
  have e01 : ¬ (nC M ≤ c ∧ c ≤ nC M + n) := fun q => by omega
  have e1 : kd (mk2 M n w) c = kd M c := by simp only [kd, mk2, if_neg e0, if_neg e00]
  have e2 : ln (mk2 M n w) c = ln M c := by simp only [ln, mk2, if_neg e0, if_neg e00]
  have e3 : gI (mk2 M n w) c = gI M c := by funext j; simp only [gI, mk2, if_neg e01]
  have e4 : gR (mk2 M n w) c = gR M c := by funext j; simp only [gR, mk2, if_neg e0, if_neg e00]
  simp only [cellE, e1, e2, e3, e4]
def NewC (own : String) (idx ci N : Nat) : Prop := ∃ (Cn : String) (T : u_T) (ty0 : Nat → FieldType), (∀ w ∈ u_ws Cn T N, w ∈ gw) ∧ hT_cl[ci]? = some (Cn, T, N) ∧ ci < 8 ∧ (∀ k, k < N → parseFieldDescriptor (T k).2.2.1 = some (ty0 k)) ∧ (∀ j, j < N → ((fB ci)[j]? = some true ∧ ty0 j = .int) ∨ ((fB ci)[j]? = some false ∧ defaultValue (ty0 j) = .null)) ∧ (Cond.classLink own idx Cn ∈ gw ∧ Cond.instantiable Cn N ∈ gw) ∧ Cond.initialized Cn ∈ gw
section ALLOCR
variable {x : Ctx} {cc : ByteArray} {nL pc ce sl : Nat} {own : String} {lv lv' : List (Nat × Value)} {st rest : List Value} {M : Mem}
theorem J_widen {ce' sl' : Nat} (h1 : ce ≤ ce') (h2 : sl ≤ sl') (k : J x nL pc lv st ce' sl' M) : J x nL pc lv st ce sl M := fun H locs ls q1 q2 q3 q4 => W.widen h1 h2 (k H locs ls q1 q2 q3 q4)
theorem J_name (k : ∀ N : Mem, N = M → J x nL pc lv st ce sl N) : J x nL pc lv st ce sl M := k M rfl
theorem AB_old (C : Ok x cc nL own) : ∀ q : Nat, (xs x).heap.size ≤ q → AB (xB x) q := fun q h => Nat.le_trans C.2.2.2.2.2.1.2.2.2.1 h
theorem J_new (C : Ok x cc nL own) {idx ci N : Nat} (F : NewC own idx ci N) (d : decode cc pc = .ok (.new idx, 3)) (hr : ce + 1 ≤ (xR x).cells ∧ sl + N ≤ (xR x).slots) (kk : J x nL (pc + 3) lv (.ref (xB x + nC M) :: st) (ce + 1) (sl + N) (mk M ci 0)) : J x nL pc lv st ce sl M := by
  intro H locs ls h1 h2 h3 h4
  obtain ⟨Cn, T, ty0, f1, f2, f3, f4, f5, f6, f7⟩ := F
  have hts := C.2.2.2.2.1
  have hKn := C.2.2.2.2.2.1.1.1 ci _ f2
  refine W.newcK C.1 C.2.1 C.2.2.2.1 (hts _ f6.1) (hts _ f6.2) (hts _ f7) rfl d hr.1 hr.2 hKn.2.1 h2 fun H1 kC hkC e1 z1 o1 => ?_
  refine kk H1 locs ls (ws_grow (M' := mk M ci 0) (Nat.le_succ _) (fun c hc => mk_old hc) h1 (fun q hq => o1 q (by rw [← h2]; exact hq)) ?_) (by rw [z1]; rfl) ⟨Nat.le_trans h3.1 (by rw [z1, ← h2]; omega), fun q q1 q2 => (o1 q (by have := h3.1; rw [← h2]; omega)).trans (h3.2.1 q q1 q2), h3.2.2⟩ h4
  intro c hc1 hc2
  have hc : c = nC M := by have : nC (mk M ci 0) = nC M + 1 := rfl; omega
  subst hc
  rw [cE_o (mk_kd M ci 0) f3, mk_gI, mk_gR]
  refine ⟨_, f2, (u_born ty0 hts f1 hKn hkC e1 f4).to (fun j hj => ?_)⟩
  rcases f5 j hj with ⟨g1, g2⟩ | ⟨g1, g2⟩
  · rw [g2]
    show _ = (fls _ _ _ _).getD j .null
    rw [List.getD_eq_getElem?_getD, fls_I g1]; rfl
  · rw [g2]
    show _ = (fls _ _ _ _).getD j .null
    rw [List.getD_eq_getElem?_getD, fls_R g1]; rfl
theorem cls_one {U : State} {t : FieldType} {cA cB : ClassId} (h1 : U.vm.findClass ("[" ++ t.toString) = some cA) (h2 : U.vm.findClass ("[" ++ t.toString) = some cB) : cA = cB := Option.some.inj (h1.symm.trans h2)
theorem J_newI (C : Ok x cc nL own) {n : Int32} (N : Nat) (hw : Cond.arrayClass .int ∈ gw) (d : decode cc pc = .ok (.newarray .int, 2)) (hn : ¬ n < 0 ∧ n.toNatClampNeg = N) (hb : N * 4 ≤ 536870912) (hr : ce + 1 ≤ (xR x).cells ∧ sl + N ≤ (xR x).slots) (kk : J x nL (pc + 2) lv (.ref (xB x + nC M) :: st) (ce + 1) (sl + N) (mk M 8 N)) : J x nL pc lv (.int n :: st) ce sl M := by
  intro H locs ls h1 h2 h3 h4
  refine va_newaK C.1 C.2.1 (atype := .int) (C.2.2.2.2.1 _ hw) rfl d rfl hn.1 hn.2 hb hr.1 hr.2 h2 fun H1 cA e1 z1 o1 hAr hNm => ?_
  refine kk H1 locs ls (ws_grow (M' := mk M 8 N) (Nat.le_succ _) (fun c hc => mk_old hc) h1 (fun q hq => o1 q (by rw [← h2]; exact hq)) ?_) (by rw [z1]; rfl) ⟨Nat.le_trans h3.1 (by rw [z1, ← h2]; omega), fun q q1 q2 => (o1 q (by have := h3.1; rw [← h2]; omega)).trans (h3.2.1 q q1 q2), h3.2.2⟩ h4
  intro c hc1 hc2
  have hc : c = nC M := by have : nC (mk M 8 N) = nC M + 1 := rfl; omega
  subst hc
  have e : cA = xA x 8 := cls_one (t := .int) hNm (C.2.2.2.2.2.1.1.2 0 _ rfl).2
  rw [cE_i (mk_kd M 8 N) (by decide) (by decide), mk_gI, mk_ln, ← e]
  exact e1
theorem J_newZ (C : Ok x cc nL own) {n : Int32} (N : Nat) (hw : Cond.arrayClass .boolean ∈ gw) (d : decode cc pc = .ok (.newarray .boolean, 2)) (hn : ¬ n < 0 ∧ n.toNatClampNeg = N) (hb : N * 1 ≤ 536870912) (hr : ce + 1 ≤ (xR x).cells ∧ sl + N ≤ (xR x).slots) (kk : J x nL (pc + 2) lv (.ref (xB x + nC M) :: st) (ce + 1) (sl + N) (mk M 9 N)) : J x nL pc lv (.int n :: st) ce sl M := by
  intro H locs ls h1 h2 h3 h4
  refine va_newaK C.1 C.2.1 (atype := .boolean) (C.2.2.2.2.1 _ hw) rfl d rfl hn.1 hn.2 hb hr.1 hr.2 h2 fun H1 cA e1 z1 o1 hAr hNm => ?_
  refine kk H1 locs ls (ws_grow (M' := mk M 9 N) (Nat.le_succ _) (fun c hc => mk_old hc) h1 (fun q hq => o1 q (by rw [← h2]; exact hq)) ?_) (by rw [z1]; rfl) ⟨Nat.le_trans h3.1 (by rw [z1, ← h2]; omega), fun q q1 q2 => (o1 q (by have := h3.1; rw [← h2]; omega)).trans (h3.2.1 q q1 q2), h3.2.2⟩ h4
  intro c hc1 hc2
  have hc : c = nC M := by have : nC (mk M 9 N) = nC M + 1 := rfl; omega
  subst hc
  have e : cA = xA x 9 := cls_one (t := .boolean) hNm (C.2.2.2.2.2.1.1.2 1 _ rfl).2
  rw [cE_i (mk_kd M 9 N) (by decide) (by decide), mk_gI, mk_ln, ← e]
  exact e1
theorem J_newP (C : Ok x cc nL own) {n : Int32} {idx : Nat} (N : Nat) (hw : Cond.classLink own idx "HeapTower$Polynomial" ∈ gw) (d : decode cc pc = .ok (.anewarray idx, 3)) (hn : ¬ n < 0 ∧ n.toNatClampNeg = N) (hb : N * 4 ≤ 536870912) (hr : ce + 1 ≤ (xR x).cells ∧ sl + N ≤ (xR x).slots) (kk : J x nL (pc + 3) lv (.ref (xB x + nC M) :: st) (ce + 1) (sl + N) (mk M 10 N)) : J x nL pc lv (.int n :: st) ce sl M := by
  intro H locs ls h1 h2 h3 h4
  obtain ⟨hn1, hn2⟩ := hn
  subst hn2
  refine W.anew C.1 C.2.1 C.2.2.2.1 (C.2.2.2.2.1 _ hw) (va_AO.use C.2.2.2.2.2.1.2.2.2.2.2.1) rfl d rfl hn1 hb hr.1 hr.2 fun cA kA comp f1 f2 f3 f4 => ?_
  rw [h2]
  refine kk _ locs ls (ws_grow (M' := mk M 10 n.toNatClampNeg) (Nat.le_succ _) (fun c hc => mk_old hc) h1 (fun q hq => by rw [Array.getElem?_push, if_neg (Nat.ne_of_lt hq)]) ?_) (by rw [Array.size_push, h2]; rfl) ⟨Nat.le_trans h3.1 (by rw [Array.size_push]; omega), fun q q1 q2 => ?_, h3.2.2⟩ h4
  · intro c hc1 hc2
    have hc : c = nC M := by have : nC (mk M 10 n.toNatClampNeg) = nC M + 1 := rfl; omega
    subst hc
    obtain ⟨kA2, comp2, g1, g2, g3, g4⟩ := (C.2.2.2.2.2.1.1.2 2 _ rfl).2
    have e : cA = xA x 10 := cls_one (t := .object "HeapTower$Polynomial") f1 g4
    rw [cE_r (mk_kd M 10 n.toNatClampNeg) (by decide), mk_gR, mk_ln, ← e]
    show (H.push _)[xB x + nC M]? = some (vp_cell _ _)
    rw [← h2, Array.getElem?_push_size, arrV_new]
    rfl
  · rw [Array.getElem?_push, if_neg (Nat.ne_of_lt (Nat.lt_of_lt_of_le q1 h3.1))]
    exact h3.2.1 q q1 q2
theorem J_aast (C : Ok x cc nL own) {c v : Nat} {i : Int32} (d : decode cc pc = .ok (.aastore, 1)) (hM : isA M c 10 i) (hv : isK M v 3) (kk : J x nL (pc + 1) lv st ce sl (sR M c i.toNatClampNeg (some v))) : J x nL pc lv (.ref (xB x + v) :: .int i :: .ref (xB x + c) :: st) ce sl M := by
  intro H locs ls h1 h2 h3 h4
  have he := ws_get (B := xB x) (ac := xA x) hM.1.1
  rw [cE_r hM.1.2 (by decide)] at he
  have hev := ws_get (B := xB x) (ac := xA x) hv.1
  rw [cE_o hv.2 (by decide)] at hev
  have hK := C.2.2.2.2.2.1.1
  have hlt : i.toNatClampNeg < ln M c := Nat.not_le.mp fun q => hM.2 (Or.inr q)
  have h0 : ¬ i < 0 := fun q => hM.2 (Or.inl q)
  obtain ⟨r', hr', cellV, g1, g2, g3, -⟩ := h1 v _ hev
  have hc3 : hT_cl[3]? = some (R_Po, F_Po, 2) := rfl
  have hcls := (hK.1 3 _ hc3).2
  obtain ⟨kA, comp, k1, k2, k3, -⟩ := (hK.2 2 _ rfl).2
  have hcomp : comp = (xD x).1 3 := Option.some.inj (k3.symm.trans hcls.1)
  subst hcomp
  obtain ⟨kC, hkC, -⟩ := hcls.2
  refine W.aast C.1 C.2.1 (h1 c _ he) (fun q h => by cases h) (fun h => by cases h) k1 k2 rfl hkC ⟨h0, by show _ < (arrV _ _ _).slots.size; rw [arrV_size]; exact hlt⟩ g1 (fun q h => by rw [g3] at h; cases h) (by rw [g2]; exact hkC) (by rw [g2]; exact va_assign hcls) rfl rfl d fun H1 e z oq => ?_
  refine kk H1 _ ls ?_ (by rw [z, h2]; rfl) (h3.put z oq (show xB x ≤ xB x + c by omega)) h4
  have hP := h1.set (ws_D (xB x) (xA x) M) he (e := .inl (xA x 10, (ln M c, .inr (.inr (.inr (.inr (fun j => (va_up (gR M c) i.toNatClampNeg (some v) j).map (xB x + ·)))))))) ?_ oq
  · rw [ws_set hM.1.1 (M' := sR M c i.toNatClampNeg (some v)) rfl ?_ (fun d hd => sR_ws hd)] at hP
    · exact hP
    · rw [cE_r (show kd (sR M c i.toNatClampNeg (some v)) c = 10 from hM.1.2) (by decide), gR_sR]; rfl
  · show H1[xB x + c]? = some (vp_cell _ _)
    rw [e, vp_cell_q, vp_cell_q, arrV_store]
    congr 2
    funext q
    by_cases hq : q = i.toNatClampNeg
    · subst hq
      simp [updV, va_up, va_rf]
    · simp [updV, va_up, hq]
theorem J_mna (C : Ok x cc nL own) {n w : Int32} {idx : Nat} (N K : Nat) (hw : Cond.classLink own idx "[[I" ∈ gw ∧ Cond.arrayClass .int ∈ gw) (d : decode cc pc = .ok (.multianewarray idx 2, 4)) (hn : (¬ n < 0 ∧ n.toNatClampNeg = N) ∧ (¬ w < 0 ∧ w.toNatClampNeg = K)) (hb : N ≤ 100 ∧ K ≤ 100) (hr : ce + (1 + N) ≤ (xR x).cells ∧ sl + (N + N * K) ≤ (xR x).slots) (kk : J x nL (pc + 4) lv (.ref (xB x + nC M) :: st) (ce + (1 + N)) (sl + (N + N * K)) (mk2 M N K)) : J x nL pc lv (.int w :: .int n :: st) ce sl M := by
  intro H locs ls h1 h2 h3 h4 T hT X
  obtain ⟨⟨n1, n2⟩, w1, w2⟩ := hn
  subst hT
  have hlk : (Cond.classLink own idx ("[" ++ (FieldType.array .int).toString)).before (xa x) (xs x) = true := C.2.2.2.2.1 _ hw.1
  have hov : (Cond.arrayOver (.array .int)).before (xa x) (xs x) = true := C.2.2.2.2.2.1.2.2.2.2.2.2
  have hcb : componentBytes .int = 4 := rfl
  obtain ⟨vm₁, cA, comp, -, hfA, hfC, -, -, X', step⟩ := X.multianewarray2F C.1 C.2.2.2.1 hlk hov (C.2.2.2.2.1 _ hw.2) (g := F0 (xm x) pc ls (.int w :: .int n :: st)) rfl (by rw [C.2.1]; exact d) (n := n) (k := w) (rest := st) rfl n1 w1 (by omega) (by rw [hcb]; omega) (by omega) rfl rfl (by rw [n2]; exact hr.1) (by rw [n2, w2]; exact hr.2)
  rw [n2, w2] at X' step
  obtain ⟨f1, f2, f3, f4⟩ := Jvm.Free.Multi.fill_facts (T.setVm vm₁) cA comp N K (defaultValue .int) N
  have hold := fun (a : Addr) (ha : a < T.heap.size) => Jvm.Free.Multi.fill_old (T.setVm vm₁) cA comp N K (defaultValue .int) (a := a) ha N
  have hinn := Jvm.Free.Multi.fill_inner (T.setVm vm₁) cA comp N K (defaultValue .int) N
  generalize Jvm.Free.Multi.fill (T.setVm vm₁) cA comp N K (defaultValue .int) N = T1 at X' step f1 f2 f3 f4 hold hinn
  have f1' : T1.heap.size = T.heap.size + 1 + N := f1
  have f2' : T1.heap[T.heap.size]? = some (Jvm.Free.Multi.outerC cA N T.heap.size N) := f2
  have hinn' : ∀ j, j < N → T1.heap[T.heap.size + 1 + j]? = some (Jvm.Free.Multi.innerC comp K (defaultValue .int)) := fun j hj => hinn j hj
  have eA : cA = xA x 11 := cls_one (t := .array .int) hfA (C.2.2.2.2.2.1.1.2 3 _ rfl).2
  have eC : comp = xA x 8 := cls_one (t := .int) hfC (C.2.2.2.2.2.1.1.2 0 _ rfl).2
  have hX2 : ce + 1 + N = ce + (1 + N) := by omega
  have hX3 : sl + N + N * K = sl + (N + N * K) := by omega
  rw [hX2, hX3] at X'
  have hnew : ∀ c, nC M ≤ c → c < nC (mk2 M N K) → va_at (xD x) hT_cl (xB x + c, cellE (xB x) (xA x) (mk2 M N K) c) T1.heap := by
    intro c hc1 hc2
    have hc3 : c < nC M + 1 + N := hc2
    by_cases z : c = nC M
    · subst z
      have k1 : kd (mk2 M N K) (nC M) = 11 := by simp [kd, mk2]
      have k2 : ln (mk2 M N K) (nC M) = N := by simp [ln, mk2]
      have k3 : gR (mk2 M N K) (nC M) = fun i => if i < N then some (nC M + 1 + i) else none := by funext j; simp [gR, mk2]
      rw [cE_r k1 (by decide), k2, k3, ← eA]
      show T1.heap[xB x + nC M]? = some (vp_cell _ _)
      rw [vp_cell_q, ← h2, f2', outer_arr]
      congr 2
      funext j
      by_cases y : j < N
      · dsimp only
        rw [if_pos y, if_pos y]
        show Value.ref (T.heap.size + 1 + j) = Value.ref (xB x + (nC M + 1 + j))
        exact congrArg Value.ref (show T.heap.size + 1 + j = xB x + (nC M + 1 + j) by have h2' : T.heap.size = xB x + nC M := h2; omega)
      · dsimp only
        rw [if_neg y, if_neg y]; rfl
    · have k1 : kd (mk2 M N K) c = 8 := by simp only [kd, mk2, if_neg z, if_pos (show nC M < c ∧ c ≤ nC M + N by omega)]
      have k2 : ln (mk2 M N K) c = K := by simp only [ln, mk2, if_neg z, if_pos (show nC M < c ∧ c ≤ nC M + N by omega)]
      have k3 : gI (mk2 M N K) c = fun _ => 0 := by funext j; simp only [gI, mk2, if_pos (show nC M ≤ c ∧ c ≤ nC M + N by omega)]
      rw [cE_i k1 (by decide) (by decide), k2, k3, ← eC]
      have := hinn' (c - nC M - 1) (by omega)
      rw [h2, show xB x + nC M + 1 + (c - nC M - 1) = xB x + c by omega] at this
      show T1.heap[xB x + c]? = _
      rw [this]
      show some ({ cls := comp, slots := Array.replicate K (defaultValue .int), vm := .none } : Cell) = _
      rw [arrV_new]
      rfl
  obtain ⟨t, a1, b1⟩ := kk T1.heap locs ls (ws_grow (M' := mk2 M N K) (by show nC M ≤ nC M + 1 + N; omega) (fun c hc => mk2_old hc) h1 (fun q hq => hold q hq) hnew) (by rw [f1', h2]; show xB x + nC M + 1 + N = xB x + (nC M + 1 + N); omega) ⟨Nat.le_trans h3.1 (by omega), fun q q1 q2 => (hold q (Nat.lt_of_lt_of_le q1 h3.1)).trans (h3.2.1 q q1 q2), h3.2.2⟩ h4 T1 rfl X'
  refine ⟨t, step t ?_, b1⟩
  rw [h2]
  exact a1
end ALLOCR
