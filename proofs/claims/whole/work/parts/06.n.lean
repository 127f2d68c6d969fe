/-! new cells -/
def mk (M : Mem) (k n : Nat) : Mem := (fun a => if a = nC M then (k, n) else M.1 a, fun a => if a = nC M then fun _ => 0 else M.2.1 a, fun a => if a = nC M then fun _ => none else M.2.2.1 a, nC M + 1)
/-- an array of n rows of w numbers each -/
def mk2 (M : Mem) (n w : Nat) : Mem := (fun a => if a = nC M then (11, n) else if nC M < a ∧ a ≤ nC M + n then (8, w) else M.1 a, fun a => if nC M ≤ a ∧ a ≤ nC M + n then fun _ => 0 else M.2.1 a, fun a => if a = nC M then (fun i => if i < n then some (nC M + 1 + i) else none) else if nC M < a ∧ a ≤ nC M + n then fun _ => none else M.2.2.1 a, nC M + 1 + n)
theorem ws_grow {D : va_G} {B B' : Nat → Nat} {ac : Nat → ClassId} {M M' : Mem} {H H1 : Heap} (hn : nC M ≤ nC M') (ho : ∀ c, c < nC M → B' c = B c ∧ cellE B' ac M' c = cellE B ac M c) (h1 : va_P D hT_cl (wsM B ac M) H) (hq : ∀ q, q < H.size → H1[q]? = H[q]?) (hnew : ∀ c, nC M ≤ c → c < nC M' → va_at D hT_cl (B' c, cellE B' ac M' c) H1) : va_P D hT_cl (wsM B' ac M') H1 := by
  intro c q hc
  by_cases hl : c < nC M'
  · rw [ws_get hl] at hc
    cases hc
    by_cases hl2 : c < nC M
    · have h := h1 c _ (ws_get hl2)
      rw [(ho c hl2).1, (ho c hl2).2]
      exact h.kept (hq _ h.lt)
    · exact hnew c (Nat.not_lt.mp hl2) hl
  · simp [wsM, hl] at hc
theorem mk_old {B : Nat → Nat} {ac : Nat → ClassId} {M : Mem} {k n c : Nat} (h : c < nC M) : cellE B ac (mk M k n) c = cellE B ac M c := by
  have hne : c ≠ nC M := Nat.ne_of_lt h
  have e1 : kd (mk M k n) c = kd M c := by simp [kd, mk, hne]
  have e2 : ln (mk M k n) c = ln M c := by simp [ln, mk, hne]
  have e3 : gI (mk M k n) c = gI M c := by funext j; simp [gI, mk, hne]
  have e4 : gR (mk M k n) c = gR M c := by funext j; simp [gR, mk, hne]
  simp only [cellE, e1, e2, e3, e4]
theorem mk_kd (M : Mem) (k n : Nat) : kd (mk M k n) (nC M) = k := by simp [kd, mk]
theorem mk_ln (M : Mem) (k n : Nat) : ln (mk M k n) (nC M) = n := by simp [ln, mk]
theorem mk_gI (M : Mem) (k n : Nat) : gI (mk M k n) (nC M) = fun _ => 0 := by funext j; simp [gI, mk]
theorem mk_gR (M : Mem) (k n : Nat) : gR (mk M k n) (nC M) = fun _ => none := by funext j; simp [gR, mk]
/-! an array of arrays, by the model -/
/-- a cell, then i others, each told to the first one at once: out j is the first cell when it knows j of them -/
def nest (out : Nat → Cell) (inn : Cell) (T : State) : Nat → State
  | 0 => T.pushCell (out 0)
  | i + 1 => ((nest out inn T i).pushCell inn).setCell T.heap.size (out (i + 1))
def nRow (h i : Nat) : Nat → Value := fun j => if j < i then .ref (h + 1 + j) else .null
def zRow : Nat → Value := fun _ => .int 0
def outC (cA : ClassId) (N h i : Nat) : Cell := arrV cA N (nRow h i)
def innC (cB : ClassId) (K : Nat) : Cell := arrV cB K zRow
theorem outC_next (cA : ClassId) (N h i : Nat) : (outC cA N h i).setSlot i (.ref (h + 1 + i)) = outC cA N h (i + 1) := by
  unfold outC
  rw [arrV_store]
  have e : updV (nRow h i) i (.ref (h + 1 + i)) = nRow h (i + 1) := by
    funext j
    rcases Nat.lt_trichotomy j i with q | q | q
    · simp [updV, nRow, Nat.ne_of_lt q, q, Nat.lt_succ_of_lt q]
    · simp [updV, nRow, q]
    · simp [updV, nRow, Nat.ne_of_gt q, Nat.not_lt.mpr (Nat.le_of_lt q), Nat.not_lt.mpr (Nat.succ_le_of_lt q)]
  rw [e]
/-- what is where -/
def Nested (out : Nat → Cell) (inn : Cell) (T U : State) (i : Nat) : Prop := (U.vm = T.vm ∧ U.heap.size = T.heap.size + 1 + i) ∧ (∀ q, q < T.heap.size → U.heap[q]? = T.heap[q]?) ∧ U.heap[T.heap.size]? = some (out i) ∧ ∀ j, j < i → U.heap[T.heap.size + 1 + j]? = some inn
theorem nest_ok (out : Nat → Cell) (inn : Cell) (T : State) (i : Nat) : Nested out inn T (nest out inn T i) i := by
  induction i with
  | zero =>
    have z : (nest out inn T 0).heap = T.heap.push (out 0) := rfl
    refine ⟨⟨rfl, by rw [z]; simp⟩, fun q hq => ?_, by rw [z]; simp, fun j hj => by omega⟩
    rw [z, Array.getElem?_push_lt hq, Array.getElem?_eq_getElem hq]
  | succ i ih =>
    obtain ⟨⟨v, sz⟩, old, fst, oth⟩ := ih
    have push : ∀ q, ((nest out inn T i).pushCell inn).heap[q]? = if q = T.heap.size + 1 + i then some inn else (nest out inn T i).heap[q]? := fun q => by
      show ((nest out inn T i).heap.push inn)[q]? = _
      rw [Array.getElem?_push, sz]
    have len : ((nest out inn T i).pushCell inn).heap.size = T.heap.size + 1 + i + 1 := by
      show ((nest out inn T i).heap.push inn).size = _
      rw [Array.size_push, sz]
    have far : ∀ q, q ≠ T.heap.size → (nest out inn T (i + 1)).heap[q]? = ((nest out inn T i).pushCell inn).heap[q]? := fun q hq => heapAt_setCell_ne _ (Ne.symm hq)
    refine ⟨⟨v, ?_⟩, fun q hq => ?_, heapAt_setCell_self _ (show T.heap.size < ((nest out inn T i).pushCell inn).heap.size by rw [len]; omega), fun j hj => ?_⟩
    · show (State.setCell _ _ _).heap.size = _
      rw [size_setCell, len]; omega
    · rw [far q (by omega), push, if_neg (by omega)]; exact old q hq
    · rw [far _ (by omega), push]
      by_cases w : j = i
      · rw [if_pos (by omega)]
      · rw [if_neg (by omega)]; exact oth j (by omega)
section NEST
variable {p : Program} {l : Launch} {e : Env} {R : Room} {s : State} {m : MethodId} {args : Array Value} {below : List Frame} {meth : Method} {c : Code} {T : State} {locs : List Loc} {cells slots : Nat}
theorem nest_stand (X : Stand p l e R s m args below meth c T locs cells slots) (cA cB : ClassId) (N K i : Nat) : Stand p l e R s m args below meth c (nest (outC cA N T.heap.size) (innC cB K) T i) locs (cells + (1 + i)) (slots + (N + i * K)) := by
  induction i with
  | zero =>
    have Y := X.pushed (outC cA N T.heap.size 0)
    have w : (outC cA N T.heap.size 0).slots.size = N := arrV_size ..
    rw [w] at Y
    rw [Nat.zero_mul]
    exact Y
  | succ i ih =>
    obtain ⟨⟨-, sz⟩, -, fst, -⟩ := nest_ok (outC cA N T.heap.size) (innC cB K) T i
    have Y := ih.pushed (innC cB K)
    have w : (innC cB K).slots.size = K := arrV_size ..
    have at0 : ((nest (outC cA N T.heap.size) (innC cB K) T i).pushCell (innC cB K)).heap[T.heap.size]? = some (outC cA N T.heap.size i) := by
      show ((nest (outC cA N T.heap.size) (innC cB K) T i).heap.push _)[T.heap.size]? = _
      rw [Array.getElem?_push, sz, if_neg (by omega)]; exact fst
    have Z := (Y.stored at0 i (.ref (T.heap.size + 1 + i))).dropFresh (fun q hq => by
      cases List.mem_singleton.mp hq
      exact X.heapGrown)
    rw [outC_next, w] at Z
    have n1 : cells + (1 + i) + 1 = cells + (1 + (i + 1)) := by omega
    have n2 : slots + (N + i * K) + K = slots + (N + (i + 1) * K) := by rw [Nat.add_mul, Nat.one_mul]; omega
    rw [n1, n2] at Z
    exact Z
/-- a loop that makes the others, one after the other -/
theorem nest_loop {E : CtlPost} {out : Nat → Cell} {inn : Cell} {f : JFrame} {N : Nat} {body : Nat → PUnit → Sem (ForInStep PUnit)} {Q : PUnit → Pre}
    (step : ∀ i, i < N → ∀ (d : Bool) (acts : List Action) (Q' : ForInStep PUnit → Pre), (∀ d' acts', Q' (.yield PUnit.unit) d' acts' ((nest out inn T (i + 1)).setTop f)) → wp (body i PUnit.unit) Q' E e d acts ((nest out inn T i).setTop f))
    (fin : ∀ d' acts', Q PUnit.unit d' acts' ((nest out inn T N).setTop f)) : ∀ r i, i + r = N → ∀ (d : Bool) (acts : List Action), wp (forIn (List.range' i r) PUnit.unit body) Q E e d acts ((nest out inn T i).setTop f) := by
  intro r
  induction r with
  | zero =>
    intro i h d acts
    have hiN : i = N := by omega
    rw [hiN, List.range'_zero, List.forIn_nil, wp_pure']
    exact fin d acts
  | succ r ih =>
    intro i h d acts
    rw [List.range'_succ, List.forIn_cons, wp_bind']
    exact step i (by omega) d acts _ (fun d' acts' => ih (i + 1) (by omega) d' acts')
/-- the limits of the platform, for short arrays -/
theorem short_ok (X : Stand p l e R s m args below meth c T locs cells slots) {a : Nat} (ha : a ≤ 100) : ¬ a > e.platform.arrayLengthLimit ∧ ¬ a * 4 > e.platform.maxHeapBytes := by
  have h1 := Launch.admits_arrayLengthLimit X.admits
  have h2 := Launch.admits_maxHeapBytes X.admits
  constructor
  · rw [h1]; omega
  · rw [h2]; omega
/-- a short row of numbers -/
theorem mn_leaf {E : CtlPost} {d : Bool} {acts : List Action} (X : Stand p l e R s m args below meth c T locs cells slots) {f : JFrame} {cB cC : ClassId} {kB : Class} {k : Int32} {K : Nat} (hB : T.vm.classes[cB]? = some kB ∧ kB.kind = .array cC .int) (hk : ¬ k < 0 ∧ k.toNatClampNeg = K) (hK : K ≤ 100) (hc : cells + 1 ≤ R.cells) (hs : slots + K ≤ R.slots) {Q : Addr → Pre} (hq : ∀ acts', Q T.heap.size d acts' ((T.pushCell (innC cB K)).setTop f)) : wp (multianewarray.make cB [k]) Q E e d acts (T.setTop f) := by
  obtain ⟨r1, r2⟩ := X.roomAbove hc hs
  have lim := short_ok X hK
  have cls : (T.setTop f).vm.classes[cB]? = some kB := by rw [State.vm_setTop]; exact hB.1
  unfold multianewarray.make
  simp only [wp_bind', W.ite, if_neg hk.1, wp_pure', W.theClass]
  refine ⟨kB, cls, ?_⟩
  rw [hB.2, hk.2]
  refine W.newArray_of cls hB.2 lim.1 lim.2 (by rw [State.heap_setTop]; omega) (show T.slotsUsed + K ≤ _ by omega) rfl (fun acts' => ?_)
  rw [State.pushCell_setTop, State.heap_setTop]
  have same : ({ cls := cB, slots := Array.replicate K (defaultValue .int) } : Cell) = innC cB K := arrV_new cB K (defaultValue .int)
  rw [same]
  exact hq acts'
/-- two lengths -/
theorem mn_two {E : CtlPost} {d : Bool} {acts : List Action} (X : Stand p l e R s m args below meth c T locs cells slots) {f : JFrame} {cA cB cC : ClassId} {kA kB : Class} {n k : Int32} {N K : Nat} (hA : T.vm.classes[cA]? = some kA ∧ kA.kind = .array cB (.array .int)) (hB : T.vm.classes[cB]? = some kB ∧ kB.kind = .array cC .int) (hn : ¬ n < 0 ∧ n.toNatClampNeg = N) (hk : ¬ k < 0 ∧ k.toNatClampNeg = K) (hb : N ≤ 100 ∧ K ≤ 100) (hc : cells + (1 + N) ≤ R.cells) (hs : slots + (N + N * K) ≤ R.slots) {Q : Addr → Pre} (hq : ∀ d' acts', Q T.heap.size d' acts' ((nest (outC cA N T.heap.size) (innC cB K) T N).setTop f)) : wp (multianewarray.make cA [n, k]) Q E e d acts (T.setTop f) := by
  obtain ⟨r1, r2⟩ := X.roomAbove hc hs
  have lim := short_ok X hb.1
  have cls : (T.setTop f).vm.classes[cA]? = some kA := by rw [State.vm_setTop]; exact hA.1
  have none0 : List.find? (fun q => decide (q < 0)) [k] = none := by
    rw [List.find?_cons_of_neg (by simp [hk.1])]; rfl
  unfold multianewarray.make
  simp only [wp_bind', W.ite, if_neg hn.1, wp_pure', W.theClass]
  refine ⟨kA, cls, ?_⟩
  rw [hA.2, hn.2]
  dsimp only
  rw [wp_bind']
  refine W.newArray_of cls hA.2 lim.1 lim.2 (by rw [State.heap_setTop]; omega) (show T.slotsUsed + N ≤ _ by omega) rfl (fun acts' => ?_)
  have same : ({ cls := cA, slots := Array.replicate N .null } : Cell) = outC cA N T.heap.size 0 := arrV_new cA N .null
  rw [State.pushCell_setTop, State.heap_setTop, same, none0]
  simp only [ite_self]
  rw [wp_bind', Std.Legacy.Range.forIn_eq_forIn_range']
  have len : Std.Legacy.Range.size [:N] = N := by simp [Std.Legacy.Range.size]
  rw [len]
  refine nest_loop (T := T) (out := outC cA N T.heap.size) (inn := innC cB K) (N := N) (fun i hi d0 acts0 Q' next => ?_) (fun d' acts'' => ?_) N 0 (by omega) _ _
  · obtain ⟨⟨v, sz⟩, -, fst, -⟩ := nest_ok (outC cA N T.heap.size) (innC cB K) T i
    have Y := nest_stand X cA cB N K i
    have le : i * K + K ≤ N * K := by
      have := Nat.mul_le_mul_right K (show i + 1 ≤ N from hi)
      rw [Nat.add_mul, Nat.one_mul] at this; exact this
    rw [wp_bind']
    refine mn_leaf Y (by rw [v]; exact hB) hk hb.2 (by omega) (by omega) (fun a1 => ?_)
    rw [wp_bind', W.writeLoc]
    have at0 : (((nest (outC cA N T.heap.size) (innC cB K) T i).pushCell (innC cB K)).setTop f).heap[T.heap.size]? = some (outC cA N T.heap.size i) := by
      rw [State.heap_setTop]
      show ((nest (outC cA N T.heap.size) (innC cB K) T i).heap.push _)[T.heap.size]? = _
      rw [Array.getElem?_push, sz, if_neg (by omega)]; exact fst
    refine ⟨_, at0, ?_, ?_, ?_, ?_⟩
    · show VmData.none ≠ .unknown
      intro z; cases z
    · have w : (outC cA N T.heap.size i).slots.size = N := arrV_size ..
      rw [w]; exact hi
    · have vP : ((nest (outC cA N T.heap.size) (innC cB K) T i).pushCell (innC cB K)).vm = T.vm := v
      have cc : (outC cA N T.heap.size i).cls = cA := rfl
      have vm0 : (outC cA N T.heap.size i).vm = .none := rfl
      rw [cc, vm0]
      simp [State.fitsSlot, State.slotType?, vP, v, hA.1, hA.2, fits]
    · rw [sz, outC_next, State.setCell_setTop, wp_pure']
      exact next _ _
  · rw [wp_pure']
    exact hq _ _
/-- the whole of the instruction's meaning -/
theorem mn_sem {E : CtlPost} {d : Bool} {acts : List Action} (X : Stand p l e R s m args below meth c T locs cells slots) {g : JFrame} {rest : List Value} {n k : Int32} {index : Nat} {vm₁ : Vm} {cA cB cC : ClassId} {kA kB : Class} {N K : Nat} (hst : g.stack = .int k :: .int n :: rest) (hres : (Jvm.resolveClass g.method.cls index).Gives e.toSetting T.vm (.ok cA) vm₁) (hsz : vm₁.classes.size ≤ T.vm.classes.size) (hwm : s.WarmedH vm₁) (hA : vm₁.classes[cA]? = some kA ∧ kA.kind = .array cB (.array .int)) (hB : vm₁.classes[cB]? = some kB ∧ kB.kind = .array cC .int) (hn : ¬ n < 0 ∧ n.toNatClampNeg = N) (hk : ¬ k < 0 ∧ k.toNatClampNeg = K) (hb : N ≤ 100 ∧ K ≤ 100) (hc : cells + (1 + N) ≤ R.cells) (hs : slots + (N + N * K) ≤ R.slots) {Q : Unit → Pre} (hq : ∀ d' acts', Q () d' acts' ((nest (outC cA N T.heap.size) (innC cB K) (T.setVm vm₁) N).setTop { g with stack := .ref T.heap.size :: rest })) : wp (multianewarray.sem index 2) Q E e d acts (T.setTop g) := by
  have X1 := X.noted hwm
  have top1 : (T.setVm vm₁).topJava?.isSome := X1.here.top
  have top2 := (nest_stand X1 cA cB N K N).here.top
  unfold multianewarray.sem
  rw [wp_bind']
  refine (W.resolveClassAt_links (State.method?_setTop g X.here.top) hres hsz).mpr ?_
  rw [wp_bind']
  have swap : (T.setTop g).setVm vm₁ = (T.setVm vm₁).setTop g := rfl
  rw [swap, show (2 : Nat) = ([.int n, .int k] : List Value).length from rfl]
  refine (popN_top top1 (args := [.int n, .int k]) (rest := rest) hst).mpr ?_
  simp only [List.mapM_cons, List.mapM_nil, wp_bind', wp_pure']
  refine mn_two X1 hA hB hn hk hb hc hs (fun d' acts' => ?_)
  rw [wp_bind', W.mark, W.pushRef]
  refine ⟨_, State.topJava?_setTop' _ top2, ?_⟩
  rw [State.setTop_setTop]
  exact hq true acts'
end NEST
theorem W_mna {p : Program} {l : Launch} {e : Env} {R : Room} {s : State} {m : MethodId} {args : Array Value} {below : List Frame} {meth : Method} {c : Code} {H : Heap} {locs : List Loc} {cells slots : Nat} {Q : State → Prop} {cc : ByteArray} (hexec : p.tables.exec = Jvm.exec) (hb : c.code = cc) {own : String} {index : Nat} (hown : s.vm.findClass own = some m.cls) (hclink : (Cond.classLink own index "[[I").before args s = true) (hover : (Cond.arrayOver (.array .int)).before args s = true) (harr : (Cond.arrayClass .int).before args s = true) {g : JFrame} (hg : g.method = m) {n k : Int32} {rest : List Value} (hst : g.stack = .int k :: .int n :: rest) (hdg : decode cc g.pc = .ok (.multianewarray index 2, 4)) (N K : Nat) (hn : ¬ n < 0 ∧ n.toNatClampNeg = N) (hk : ¬ k < 0 ∧ k.toNatClampNeg = K) (hbd : N ≤ 100 ∧ K ≤ 100) (hcells : cells + (1 + N) ≤ R.cells) (hslots : slots + (N + N * K) ≤ R.slots)
    (kk : ∀ (H' : Heap) (cA cB : ClassId), s.vm.findClass ("[" ++ (FieldType.array .int).toString) = some cA → s.vm.findClass ("[" ++ FieldType.int.toString) = some cB → H'.size = H.size + 1 + N → (∀ q, q < H.size → H'[q]? = H[q]?) → H'[H.size]? = some (arrV cA N (nRow H.size N)) → (∀ j, j < N → H'[H.size + 1 + j]? = some (arrV cB K zRow)) → W p l e R s m args below meth c H' locs (cells + (1 + N)) (slots + (N + N * K)) Q { g with pc := g.pc + 4, stack := .ref H.size :: rest }) : W p l e R s m args below meth c H locs cells slots Q g := by
  intro T hT X
  cases hg
  -- the classes, by their names
  obtain ⟨cB, cA, kA, nB, -, inA, kindA, nA⟩ := arrayOverA_spec hover
  obtain ⟨cB2, kB, cC, nB2, inB, kindB⟩ := Cond.arrayClass_spec harr
  cases Option.some.inj (nB2.symm.trans nB)
  obtain ⟨cA2, nA2, links⟩ := Cond.classLink_spec hown hclink e.platform (by rw [X.admits.platform])
  have nA3 : s.vm.findClass "[[I" = some cA := nA
  cases Option.some.inj (nA2.symm.trans nA3)
  -- the entry's resolution leaves tables that are alike
  have res := State.classEntry (e := e) X.warmed links
  have alike := res.2.1.alike
  obtain ⟨kA1, inA1, eA⟩ := alike.2.2 _ _ inA
  obtain ⟨kB1, inB1, eB⟩ := alike.2.2 _ _ inB
  have X1 := X.noted res.2.1
  have Y := nest_stand X1 cA cB N K N
  obtain ⟨⟨-, sz⟩, old, fst, oth⟩ := nest_ok (outC cA N T.heap.size) (innC cB K) (T.setVm (T.vm.noted g.method.cls index (.cls cA))) N
  rw [← hT] at kk
  obtain ⟨t, go, fin⟩ := kk _ cA cB nA nB sz old fst oth _ rfl Y
  refine ⟨t, ?_, fin⟩
  have hdc : decode c.code g.pc = .ok (.multianewarray index 2, 4) := by rw [hb]; exact hdg
  jvm_step X.here [hexec, hdc]
  refine mn_sem (kA := kA1) (kB := kB1) (cC := cC) X hst res.1 ?_ res.2.1 ⟨inA1, by rw [eA]; exact kindA⟩ ⟨inB1, by rw [eB]; exact kindB⟩ hn hk hbd hcells hslots (fun d' acts' => ?_)
  · exact Nat.le_of_eq (by simp [Vm.noted])
  · simp [jvm, Y.here.top]
    exact go
theorem mk2_old {B : Nat → Nat} {ac : Nat → ClassId} {M : Mem} {n w c : Nat} (h : c < nC M) : cellE B ac (mk2 M n w) c = cellE B ac M c := by
  have e0 : ¬ c = nC M := Nat.ne_of_lt h
  have e00 : ¬ (nC M < c ∧ c ≤ nC M + n) := fun q => by omega
  have e01 : ¬ (nC M ≤ c ∧ c ≤ nC M + n) := fun q => by omega
  have e1 : kd (mk2 M n w) c = kd M c := by simp only [kd, mk2, if_neg e0, if_neg e00]
  have e2 : ln (mk2 M n w) c = ln M c := by simp only [ln, mk2, if_neg e0, if_neg e00]
  have e3 : gI (mk2 M n w) c = gI M c := by funext j; simp only [gI, mk2, if_neg e01]
  have e4 : gR (mk2 M n w) c = gR M c := by funext j; simp only [gR, mk2, if_neg e0, if_neg e00]
  simp only [cellE, e1, e2, e3, e4]
def NewC (own : String) (idx ci N : Nat) : Prop := ∃ (Cn : String) (T : u_T) (ty0 : Nat → FieldType), (∀ w ∈ u_ws Cn T N, w ∈ gw) ∧ hT_cl[ci]? = some (Cn, T, N) ∧ ci < 8 ∧ (∀ k, k < N → parseFieldDescriptor (T k).2.2.1 = some (ty0 k)) ∧ (∀ j, j < N → ((fB ci)[j]? = some true ∧ ty0 j = .int) ∨ ((fB ci)[j]? = some false ∧ defaultValue (ty0 j) = .null)) ∧ (Cond.classLink own idx Cn ∈ gw ∧ Cond.instantiable Cn N ∈ gw) ∧ Cond.initialized Cn ∈ gw
section ALLOCR
variable {x : Ctx} {cc : ByteArray} {nL pc ce sl : Nat} {own : String} {lv lv' : List (Nat × Value)} {st rest : List Value} {M : Mem}
theorem J_widen {ce' sl' : Nat} (h1 : ce ≤ ce') (h2 : sl ≤ sl') (k : J x nL pc lv st ce' sl' M) : J x nL pc lv st ce sl M := fun H locs ls q1 q2 q3 q4 => W.widen h1 h2 (k H locs ls q1 q2 q3 q4)
theorem J_name (k : ∀ N : Mem, N = M → J x nL pc lv st ce sl N) : J x nL pc lv st ce sl M := k M rfl
theorem sz_new (Cx : Cnx x) {H : Heap} (h : H.size = xB x + nC M) : Sz (xB x) (xd x) (xg x) M H := ⟨by rw [Cx.2]; exact h, by rw [Cx.2]; exact Nat.zero_le _, Bij.id Cx.1 M⟩
theorem AB_old (C : Ok x cc nL own) : ∀ q : Nat, (xs x).heap.size ≤ q → AB (xB x) q := fun q h => Nat.le_trans C.2.2.2.2.2.1.2.2.2.1 h
theorem J_new (C : Ok x cc nL own) (Cx : Cnx x) {idx ci N : Nat} (F : NewC own idx ci N) (d : decode cc pc = .ok (.new idx, 3)) (hr : ce + 1 ≤ (xR x).cells ∧ sl + N ≤ (xR x).slots) (kk : J x nL (pc + 3) lv (.ref (xd x (nC M)) :: st) (ce + 1) (sl + N) (mk M ci 0)) : J x nL pc lv st ce sl M := by
  intro H locs ls h1 h2 h3 h4
  have hS := h2
  have hd := Cx.1
  have h2 : H.size = xd x (nC M) := by have := hS.1; rw [Cx.2] at this; rw [hd]; exact this
  obtain ⟨Cn, T, ty0, f1, f2, f3, f4, f5, f6, f7⟩ := F
  have hts := C.2.2.2.2.1
  have hKn := C.2.2.2.2.2.1.1.1 ci _ f2
  refine W.newcK C.1 C.2.1 C.2.2.2.1 (hts _ f6.1) (hts _ f6.2) (hts _ f7) rfl d hr.1 hr.2 hKn.2.1 h2 fun H1 kC hkC e1 z1 o1 => ?_
  refine kk H1 locs ls (ws_grow (M' := mk M ci 0) (Nat.le_succ _) (fun c hc => ⟨rfl, mk_old hc⟩) h1 (fun q hq => o1 q (by rw [← h2]; exact hq)) ?_) (sz_new Cx (by rw [z1, hd]; rfl)) ⟨Nat.le_trans h3.1 (by rw [z1, ← h2]; omega), fun q q1 q2 => (o1 q (by have := h3.1; rw [← h2]; omega)).trans (h3.2.1 q q1 q2), h3.2.2⟩ h4
  intro c hc1 hc2
  have hc : c = nC M := by have : nC (mk M ci 0) = nC M + 1 := rfl; omega
  subst hc
  rw [cE_o (mk_kd M ci 0) f3, mk_gI, mk_gR]
  refine ⟨_, f2, (u_born ty0 hts f1 hKn hkC e1 f4).to (fun j hj => ?_)⟩
  rcases f5 j hj with ⟨g1, g2⟩ | ⟨g1, g2⟩
  · rw [g2]
    show _ = (fls _ _ _ _).getD j .null
    rw [List.getD_eq_getElem?_getD, fls_I g1]; rfl
  · rw [g2]
    show _ = (fls _ _ _ _).getD j .null
    rw [List.getD_eq_getElem?_getD, fls_R g1]; rfl
theorem cls_one {U : State} {t : FieldType} {cA cB : ClassId} (h1 : U.vm.findClass ("[" ++ t.toString) = some cA) (h2 : U.vm.findClass ("[" ++ t.toString) = some cB) : cA = cB := Option.some.inj (h1.symm.trans h2)
theorem J_newI (C : Ok x cc nL own) (Cx : Cnx x) {n : Int32} (N : Nat) (hw : Cond.arrayClass .int ∈ gw) (d : decode cc pc = .ok (.newarray .int, 2)) (hn : ¬ n < 0 ∧ n.toNatClampNeg = N) (hb : N * 4 ≤ 536870912) (hr : ce + 1 ≤ (xR x).cells ∧ sl + N ≤ (xR x).slots) (kk : J x nL (pc + 2) lv (.ref (xd x (nC M)) :: st) (ce + 1) (sl + N) (mk M 8 N)) : J x nL pc lv (.int n :: st) ce sl M := by
  intro H locs ls h1 h2 h3 h4
  have hS := h2
  have hd := Cx.1
  have h2 : H.size = xd x (nC M) := by have := hS.1; rw [Cx.2] at this; rw [hd]; exact this
  refine va_newaK C.1 C.2.1 (atype := .int) (C.2.2.2.2.1 _ hw) rfl d rfl hn.1 hn.2 hb hr.1 hr.2 h2 fun H1 cA e1 z1 o1 hAr hNm => ?_
  refine kk H1 locs ls (ws_grow (M' := mk M 8 N) (Nat.le_succ _) (fun c hc => ⟨rfl, mk_old hc⟩) h1 (fun q hq => o1 q (by rw [← h2]; exact hq)) ?_) (sz_new Cx (by rw [z1, hd]; rfl)) ⟨Nat.le_trans h3.1 (by rw [z1, ← h2]; omega), fun q q1 q2 => (o1 q (by have := h3.1; rw [← h2]; omega)).trans (h3.2.1 q q1 q2), h3.2.2⟩ h4
  intro c hc1 hc2
  have hc : c = nC M := by have : nC (mk M 8 N) = nC M + 1 := rfl; omega
  subst hc
  have e : cA = xA x 8 := cls_one (t := .int) hNm (C.2.2.2.2.2.1.1.2 0 _ rfl).2
  rw [cE_i (mk_kd M 8 N) (by decide) (by decide), mk_gI, mk_ln, ← e]
  exact e1
theorem J_newZ (C : Ok x cc nL own) (Cx : Cnx x) {n : Int32} (N : Nat) (hw : Cond.arrayClass .boolean ∈ gw) (d : decode cc pc = .ok (.newarray .boolean, 2)) (hn : ¬ n < 0 ∧ n.toNatClampNeg = N) (hb : N * 1 ≤ 536870912) (hr : ce + 1 ≤ (xR x).cells ∧ sl + N ≤ (xR x).slots) (kk : J x nL (pc + 2) lv (.ref (xd x (nC M)) :: st) (ce + 1) (sl + N) (mk M 9 N)) : J x nL pc lv (.int n :: st) ce sl M := by
  intro H locs ls h1 h2 h3 h4
  have hS := h2
  have hd := Cx.1
  have h2 : H.size = xd x (nC M) := by have := hS.1; rw [Cx.2] at this; rw [hd]; exact this
  refine va_newaK C.1 C.2.1 (atype := .boolean) (C.2.2.2.2.1 _ hw) rfl d rfl hn.1 hn.2 hb hr.1 hr.2 h2 fun H1 cA e1 z1 o1 hAr hNm => ?_
  refine kk H1 locs ls (ws_grow (M' := mk M 9 N) (Nat.le_succ _) (fun c hc => ⟨rfl, mk_old hc⟩) h1 (fun q hq => o1 q (by rw [← h2]; exact hq)) ?_) (sz_new Cx (by rw [z1, hd]; rfl)) ⟨Nat.le_trans h3.1 (by rw [z1, ← h2]; omega), fun q q1 q2 => (o1 q (by have := h3.1; rw [← h2]; omega)).trans (h3.2.1 q q1 q2), h3.2.2⟩ h4
  intro c hc1 hc2
  have hc : c = nC M := by have : nC (mk M 9 N) = nC M + 1 := rfl; omega
  subst hc
  have e : cA = xA x 9 := cls_one (t := .boolean) hNm (C.2.2.2.2.2.1.1.2 1 _ rfl).2
  rw [cE_i (mk_kd M 9 N) (by decide) (by decide), mk_gI, mk_ln, ← e]
  exact e1
theorem J_newP (C : Ok x cc nL own) (Cx : Cnx x) {n : Int32} {idx : Nat} (N : Nat) (hw : Cond.classLink own idx "HeapTower$Polynomial" ∈ gw) (d : decode cc pc = .ok (.anewarray idx, 3)) (hn : ¬ n < 0 ∧ n.toNatClampNeg = N) (hb : N * 4 ≤ 536870912) (hr : ce + 1 ≤ (xR x).cells ∧ sl + N ≤ (xR x).slots) (kk : J x nL (pc + 3) lv (.ref (xd x (nC M)) :: st) (ce + 1) (sl + N) (mk M 10 N)) : J x nL pc lv (.int n :: st) ce sl M := by
  intro H locs ls h1 h2 h3 h4
  have hS := h2
  have hd := Cx.1
  have h2 : H.size = xd x (nC M) := by have := hS.1; rw [Cx.2] at this; rw [hd]; exact this
  obtain ⟨hn1, hn2⟩ := hn
  subst hn2
  refine W.anew C.1 C.2.1 C.2.2.2.1 (C.2.2.2.2.1 _ hw) (va_AO.use C.2.2.2.2.2.1.2.2.2.2.2.1) rfl d rfl hn1 hb hr.1 hr.2 fun cA kA comp f1 f2 f3 f4 => ?_
  rw [h2]
  refine kk _ locs ls (ws_grow (M' := mk M 10 n.toNatClampNeg) (Nat.le_succ _) (fun c hc => ⟨rfl, mk_old hc⟩) h1 (fun q hq => by rw [Array.getElem?_push, if_neg (Nat.ne_of_lt hq)]) ?_) (sz_new (M := mk M 10 n.toNatClampNeg) Cx (by rw [Array.size_push, h2, hd]; rfl)) ⟨Nat.le_trans h3.1 (by rw [Array.size_push]; omega), fun q q1 q2 => ?_, h3.2.2⟩ h4
  · intro c hc1 hc2
    have hc : c = nC M := by have : nC (mk M 10 n.toNatClampNeg) = nC M + 1 := rfl; omega
    subst hc
    obtain ⟨kA2, comp2, g1, g2, g3, g4⟩ := (C.2.2.2.2.2.1.1.2 2 _ rfl).2
    have e : cA = xA x 10 := cls_one (t := .object "HeapTower$Polynomial") f1 g4
    rw [cE_r (mk_kd M 10 n.toNatClampNeg) (by decide) (by decide), mk_gR, mk_ln, ← e]
    show (H.push _)[xd x (nC M)]? = some (vp_cell _ _)
    rw [← h2, Array.getElem?_push_size, arrV_new]
    rfl
  · rw [Array.getElem?_push, if_neg (Nat.ne_of_lt (Nat.lt_of_lt_of_le q1 h3.1))]
    exact h3.2.1 q q1 q2
theorem J_aast (C : Ok x cc nL own) {c v : Nat} {i : Int32} (d : decode cc pc = .ok (.aastore, 1)) (hM : isA M c 10 i) (hv : isK M v 3) (kk : J x nL (pc + 1) lv st ce sl (sR M c i.toNatClampNeg (some v))) : J x nL pc lv (.ref (xd x v) :: .int i :: .ref (xd x c) :: st) ce sl M := by
  intro H locs ls h1 h2 h3 h4 T hT X
  have wc := ws_get (B := xd x) (ac := xA x) hM.1.1
  have wv := ws_get (B := xd x) (ac := xA x) hv.1
  rw [cE_r hM.1.2 (by decide) (by decide)] at wc
  rw [cE_o hv.2 (by decide)] at wv
  have up : H.size ≤ (xs x).heap.size + ce := by rw [← hT]; exact X.heapSize
  have down : (xs x).heap.size ≤ H.size := h3.1
  refine va_astq (cells := H.size - (xs x).heap.size) (slots := sl) (H0 := H) (A := AB (xB x)) (r := (R_Po, F_Po, 2)) C.1 C.2.1 C.2.2.2.2.2.1.1 h1 (ws_D (xA x) h2.2.2) ⟨Nat.le_refl _, fun _ _ _ => rfl, h3.2.2⟩ c 2 v 3 wc rfl wv rfl hM.2 d (fun H1 locs1 g1 _ g3 T1 hT1 X1 => ?_) T hT (stand_fit X (by rw [hT]; omega) X.used)
  have e : H1.size = H.size := by
    have w1 := X1.heapSize
    have w2 := g3.1
    rw [hT1] at w1
    omega
  have cell : cellE (xd x) (xA x) (sR M c i.toNatClampNeg (some v)) c = .inl (xA x 10, (ln M c, .inr (.inr (.inr (.inr (va_up (fun j => (gR M c j).map (xd x)) i.toNatClampNeg (some (xd x v)))))))) := by
    rw [cE_r (show kd (sR M c i.toNatClampNeg (some v)) c = 10 from hM.1.2) (by decide) (by decide), gR_sR]
    have f : (fun j => (va_up (gR M c) i.toNatClampNeg (some v) j).map (xd x)) = va_up (fun j => (gR M c j).map (xd x)) i.toNatClampNeg (some (xd x v)) := by
      funext j
      unfold va_up
      split <;> rfl
    rw [f]; rfl
  rw [ws_set hM.1.1 (M' := sR M c i.toNatClampNeg (some v)) rfl cell (fun d hd => sR_ws hd)] at g1
  exact kk H1 locs1 ls g1 (h2.keep (M' := sR M c i.toNatClampNeg (some v)) e rfl rfl (fun _ _ _ => rfl)) ⟨by rw [e]; exact h3.1, fun q w1 w2 => (g3.2.1 q (Nat.lt_of_lt_of_le w1 h3.1) w2).trans (h3.2.1 q w1 w2), g3.2.2⟩ h4 T1 hT1 (stand_widen X1 (by omega) (Nat.le_refl _))
theorem J_mna (C : Ok x cc nL own) (Cx : Cnx x) {n w : Int32} {idx : Nat} (N K : Nat) (hw : Cond.classLink own idx "[[I" ∈ gw ∧ Cond.arrayClass .int ∈ gw) (d : decode cc pc = .ok (.multianewarray idx 2, 4)) (hn : (¬ n < 0 ∧ n.toNatClampNeg = N) ∧ (¬ w < 0 ∧ w.toNatClampNeg = K)) (hb : N ≤ 100 ∧ K ≤ 100) (hr : ce + (1 + N) ≤ (xR x).cells ∧ sl + (N + N * K) ≤ (xR x).slots) (kk : J x nL (pc + 4) lv (.ref (xd x (nC M)) :: st) (ce + (1 + N)) (sl + (N + N * K)) (mk2 M N K)) : J x nL pc lv (.int w :: .int n :: st) ce sl M := by
  intro H locs ls h1 h2 h3 h4
  have hS := h2
  have hd := Cx.1
  have h2 : H.size = xd x (nC M) := by have := hS.1; rw [Cx.2] at this; rw [hd]; exact this
  have hov : (Cond.arrayOver (.array .int)).before (xa x) (xs x) = true := C.2.2.2.2.2.1.2.2.2.2.2.2
  refine W_mna C.1 C.2.1 C.2.2.2.1 (C.2.2.2.2.1 _ hw.1) hov (C.2.2.2.2.1 _ hw.2) rfl rfl d N K hn.1 hn.2 hb hr.1 hr.2 fun H1 cA cB hfA hfC z1 o1 eO eI => ?_
  have eA : cA = xA x 11 := cls_one (t := .array .int) hfA (C.2.2.2.2.2.1.1.2 3 _ rfl).2
  have eC : cB = xA x 8 := cls_one (t := .int) hfC (C.2.2.2.2.2.1.1.2 0 _ rfl).2
  have hnew : ∀ c, nC M ≤ c → c < nC (mk2 M N K) → va_at (xD x) hT_cl (xd x c, cellE (xd x) (xA x) (mk2 M N K) c) H1 := by
    intro c hc1 hc2
    have hc3 : c < nC M + 1 + N := hc2
    by_cases z : c = nC M
    · subst z
      have k1 : kd (mk2 M N K) (nC M) = 11 := by simp [kd, mk2]
      have k2 : ln (mk2 M N K) (nC M) = N := by simp [ln, mk2]
      have k3 : gR (mk2 M N K) (nC M) = fun i => if i < N then some (nC M + 1 + i) else none := by funext j; simp [gR, mk2]
      rw [cE_r k1 (by decide) (by decide), k2, k3, ← eA]
      show H1[xd x (nC M)]? = some (vp_cell _ _)
      rw [vp_cell_q, ← h2, eO]
      congr 2
      funext j
      unfold nRow
      by_cases y : j < N
      · dsimp only
        rw [if_pos y, if_pos y]
        exact congrArg Value.ref (show H.size + 1 + j = xd x (nC M + 1 + j) by have h2' : H.size = xB x + nC M := h2.trans (hd _); rw [hd]; omega)
      · dsimp only
        rw [if_neg y, if_neg y]; rfl
    · have k1 : kd (mk2 M N K) c = 8 := by simp only [kd, mk2, if_neg z, if_pos (show nC M < c ∧ c ≤ nC M + N by omega)]
      have k2 : ln (mk2 M N K) c = K := by simp only [ln, mk2, if_neg z, if_pos (show nC M < c ∧ c ≤ nC M + N by omega)]
      have k3 : gI (mk2 M N K) c = fun _ => 0 := by funext j; simp only [gI, mk2, if_pos (show nC M ≤ c ∧ c ≤ nC M + N by omega)]
      rw [cE_i k1 (by decide) (by decide), k2, k3, ← eC]
      have := eI (c - nC M - 1) (by omega)
      rw [h2, show xd x (nC M) + 1 + (c - nC M - 1) = xd x c by rw [hd, hd]; omega] at this
      exact this
  have hk := kk H1 locs ls (ws_grow (M' := mk2 M N K) (by show nC M ≤ nC M + 1 + N; omega) (fun c hc => ⟨rfl, mk2_old hc⟩) h1 o1 hnew) (sz_new Cx (by rw [z1, h2, hd]; show xB x + nC M + 1 + N = xB x + (nC M + 1 + N); omega)) ⟨Nat.le_trans h3.1 (by rw [z1]; omega), fun q q1 q2 => (o1 q (Nat.lt_of_lt_of_le q1 h3.1)).trans (h3.2.1 q q1 q2), h3.2.2⟩ h4
  rw [h2]
  exact hk
end ALLOCR
