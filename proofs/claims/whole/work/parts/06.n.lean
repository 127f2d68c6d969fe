/-! new cells -/
def mk (M : Mem) (k n : Nat) : Mem := (fun a => if a = nC M then (k, n) else M.1 a, fun a => if a = nC M then fun _ => 0 else M.2.1 a, fun a => if a = nC M then fun _ => none else M.2.2.1 a, nC M + 1)
/-- an array of n rows of w numbers each -/
def mk2 (M : Mem) (n w : Nat) : Mem := (fun a => if a = nC M then (11, n) else if nC M < a ∧ a ≤ nC M + n then (8, w) else M.1 a, fun a => if nC M ≤ a ∧ a ≤ nC M + n then fun _ => 0 else M.2.1 a, fun a => if a = nC M then (fun i => if i < n then some (nC M + 1 + i) else none) else if nC M < a ∧ a ≤ nC M + n then fun _ => none else M.2.2.1 a, nC M + 1 + n)
theorem ws_grow {D : va_G} {B B' : Nat → Nat} {ac : Nat → ClassId} {M M' : Mem} {H H1 : Heap} (hn : nC M ≤ nC M') (ho : ∀ c, c < nC M → B' c = B c ∧ cellE B' ac M' c = cellE B ac M c) (h1 : va_P D hT_cl (wsM B ac M) H) (hq : ∀ q, q < H.size → H1[q]? = H[q]?) (hnew : ∀ c, nC M ≤ c → c < nC M' → va_at D hT_cl (B' c, cellE B' ac M' c) H1) : va_P D hT_cl (wsM B' ac M') H1 := by
  intro c q hc
  by_cases hl : c < nC M'
  · rw [ws_get hl] at hc
    cases hc
    by_cases hl2 : c < nC M
    · have h := h1 c _ (ws_get hl2)
      rw [(ho c hl2).1, (ho c hl2).2]
      exact h.kept (hq _ h.lt)
    · exact hnew c (Nat.not_lt.mp hl2) hl
  · simp [wsM, hl] at hc
theorem mk_old {B : Nat → Nat} {ac : Nat → ClassId} {M : Mem} {k n c : Nat} (h : c < nC M) : cellE B ac (mk M k n) c = cellE B ac M c := by
  have hne : c ≠ nC M := Nat.ne_of_lt h
  have e1 : kd (mk M k n) c = kd M c := by simp [kd, mk, hne]
  have e2 : ln (mk M k n) c = ln M c := by simp [ln, mk, hne]
  have e3 : gI (mk M k n) c = gI M c := by funext j; simp [gI, mk, hne]
  have e4 : gR (mk M k n) c = gR M c := by funext j; simp [gR, mk, hne]
  simp only [cellE, e1, e2, e3, e4]
theorem mk_kd (M : Mem) (k n : Nat) : kd (mk M k n) (nC M) = k := by simp [kd, mk]
theorem mk_ln (M : Mem) (k n : Nat) : ln (mk M k n) (nC M) = n := by simp [ln, mk]
theorem mk_gI (M : Mem) (k n : Nat) : gI (mk M k n) (nC M) = fun _ => 0 := by funext j; simp [gI, mk]
theorem mk_gR (M : Mem) (k n : Nat) : gR (mk M k n) (nC M) = fun _ => none := by funext j; simp [gR, mk]
/-! an array of arrays, by the model -/
def nRow (h i : Nat) : Nat → Value := fun j => if j < i then .ref (h + 1 + j) else .null
def zRow : Nat → Value := fun _ => .int 0
/-- the state behind the outer array and i rows -/
def growS (T : State) (cA cB : ClassId) (N K : Nat) : Nat → State
  | 0 => T.pushCell (arrV cA N (nRow T.heap.size 0))
  | i + 1 => ((growS T cA cB N K i).pushCell (arrV cB K zRow)).setCell T.heap.size (arrV cA N (nRow T.heap.size (i + 1)))
theorem nRow_s (cA : ClassId) (N h i : Nat) : (arrV cA N (nRow h i)).setSlot i (.ref (h + 1 + i)) = arrV cA N (nRow h (i + 1)) := by
  rw [arrV_store]
  congr 1
  funext j
  unfold updV nRow
  by_cases z : j = i
  · rw [if_pos z, if_pos (by omega), z]
  · rw [if_neg z]
    by_cases y : j < i
    · rw [if_pos y, if_pos (by omega)]
    · rw [if_neg y, if_neg (by omega)]
theorem grow_h (T : State) (cA cB : ClassId) (N K : Nat) : ∀ i, (growS T cA cB N K i).heap.size = T.heap.size + 1 + i ∧ (∀ q, q < T.heap.size → (growS T cA cB N K i).heap[q]? = T.heap[q]?) ∧ (growS T cA cB N K i).heap[T.heap.size]? = some (arrV cA N (nRow T.heap.size i)) ∧ (∀ j, j < i → (growS T cA cB N K i).heap[T.heap.size + 1 + j]? = some (arrV cB K zRow)) ∧ (growS T cA cB N K i).vm = T.vm
  | 0 => by
    have e : (growS T cA cB N K 0).heap = T.heap.push (arrV cA N (nRow T.heap.size 0)) := rfl
    refine ⟨by rw [e, Array.size_push], fun q hq => ?_, ?_, fun j hj => absurd hj (Nat.not_lt_zero j), rfl⟩
    · rw [e, Array.getElem?_push, if_neg (Nat.ne_of_lt hq)]
    · rw [e, Array.getElem?_push_size]
  | i + 1 => by
    obtain ⟨h1, h2, h3, h4, h5⟩ := grow_h T cA cB N K i
    have e : ((growS T cA cB N K i).pushCell (arrV cB K zRow)).heap = (growS T cA cB N K i).heap.push (arrV cB K zRow) := rfl
    have hs : T.heap.size < ((growS T cA cB N K i).pushCell (arrV cB K zRow)).heap.size := by rw [e, Array.size_push, h1]; omega
    refine ⟨?_, fun q hq => ?_, ?_, fun j hj => ?_, h5⟩
    · show (State.setCell _ _ _).heap.size = _
      rw [size_setCell, e, Array.size_push, h1]; omega
    · show (State.setCell _ _ _).heap[q]? = _
      rw [heapAt_setCell_ne _ (show T.heap.size ≠ q by omega), e, Array.getElem?_push, if_neg (by rw [h1]; omega)]
      exact h2 q hq
    · show (State.setCell _ _ _).heap[T.heap.size]? = _
      exact heapAt_setCell_self _ hs
    · show (State.setCell _ _ _).heap[T.heap.size + 1 + j]? = _
      rw [heapAt_setCell_ne _ (show T.heap.size ≠ T.heap.size + 1 + j by omega), e, Array.getElem?_push]
      by_cases z : j = i
      · rw [if_pos (by rw [h1, z])]
      · rw [if_neg (by rw [h1]; omega)]
        exact h4 j (by omega)
theorem grow_top (T : State) (f : JFrame) (cA cB : ClassId) (N K : Nat) : ∀ i, growS (T.setTop f) cA cB N K i = (growS T cA cB N K i).setTop f
  | 0 => rfl
  | i + 1 => by
    show ((growS (T.setTop f) cA cB N K i).pushCell (arrV cB K zRow)).setCell (T.setTop f).heap.size (arrV cA N (nRow (T.setTop f).heap.size (i + 1))) = _
    rw [grow_top T f cA cB N K i, State.heap_setTop, State.pushCell_setTop, State.setCell_setTop]
    rfl
section MN1
variable {p : Program} {l : Launch} {e : Env} {R : Room} {s : State} {m : MethodId} {args : Array Value} {below : List Frame} {meth : Method} {c : Code} {T : State} {locs : List Loc} {cells slots : Nat}
theorem grow_X (X : Stand p l e R s m args below meth c T locs cells slots) (cA cB : ClassId) (N K : Nat) : ∀ i, Stand p l e R s m args below meth c (growS T cA cB N K i) locs (cells + 1 + i) (slots + N + i * K)
  | 0 => by
    have h := X.pushed (arrV cA N (nRow T.heap.size 0))
    rw [arrV_size] at h
    rw [Nat.zero_mul, Nat.add_zero, Nat.add_zero]
    exact h
  | i + 1 => by
    obtain ⟨h1, h2, h3, h4, h5⟩ := grow_h T cA cB N K i
    have Xi := (grow_X X cA cB N K i).pushed (arrV cB K zRow)
    rw [arrV_size] at Xi
    have hc : ((growS T cA cB N K i).pushCell (arrV cB K zRow)).heap[T.heap.size]? = some (arrV cA N (nRow T.heap.size i)) := by
      show ((growS T cA cB N K i).heap.push _)[T.heap.size]? = _
      rw [Array.getElem?_push, if_neg (by rw [h1]; omega)]; exact h3
    have h := (Xi.stored hc i (.ref (T.heap.size + 1 + i))).dropFresh (fun x hx => by
      rw [List.mem_singleton.mp hx]
      exact X.heapGrown)
    rw [nRow_s] at h
    have e3 : slots + N + (i + 1) * K = slots + N + i * K + K := by rw [Nat.succ_mul]; omega
    rw [e3]
    exact h
end MN1
section MN2
variable {E : CtlPost} {e : Env} {d : Bool} {acts : List Action} {s : State}
theorem mn_new {c cB : ClassId} {k : Class} {ty : FieldType} {len : Nat} {v : Value} (hk : s.vm.classes[c]? = some k) (hkind : k.kind = .array cB ty) (hl : ¬ len > e.platform.arrayLengthLimit) (hh : ¬ len * componentBytes ty > e.platform.maxHeapBytes) (hf : fits ty v = true) (hd : v.isDefault = true) {Q : Addr → Pre} (h1 : s.heap.size < e.platform.maxCells) (h2 : s.slotsUsed + len ≤ e.platform.maxSlots) (hq : Q s.heap.size d acts (s.pushCell (arrV c len (fun _ => v)))) : wp (Jvm.newArray c len v) Q E e d acts s := by
  have ha : allocActs (Array.replicate len v) s.heap.size acts = acts := by
    unfold allocActs
    rw [if_pos (by rw [Array.all_replicate]; split <;> simp [hd])]
  rw [← arrV_new] at hq
  simp only [Jvm.newArray, Jvm.arrayFits, wp_bind', W.ask, W.ite, hl, if_false, wp_pure', W.theClass, hk, hkind, hh, W.alloc, W.stop, Option.some.injEq, exists_eq_left', Array.size_replicate, ha]
  rw [if_neg (by omega)]
  refine ⟨h1, h2, fun i x hx => ?_, hq⟩
  rw [Array.getElem?_replicate] at hx
  split at hx
  · cases hx
    simp [State.fitsSlot, State.slotType?, hk, hkind, hf]
  · cases hx
end MN2
section MN3
variable {p : Program} {l : Launch} {e : Env} {R : Room} {s : State} {m : MethodId} {args : Array Value} {below : List Frame} {meth : Method} {c : Code} {T : State} {locs : List Loc} {cells slots : Nat}
/-- the model's make of two lengths, from a state that stands -/
theorem mn_make {E : CtlPost} {d : Bool} {acts : List Action} (X : Stand p l e R s m args below meth c T locs cells slots) {f : JFrame} {cA cB cC : ClassId} {kA kB : Class} {n k : Int32} (N K : Nat) (hA : T.vm.classes[cA]? = some kA) (hA2 : kA.kind = .array cB (.array .int)) (hB : T.vm.classes[cB]? = some kB) (hB2 : kB.kind = .array cC .int) (hn : ¬ n < 0 ∧ n.toNatClampNeg = N) (hk : ¬ k < 0 ∧ k.toNatClampNeg = K) (hb : N ≤ 100 ∧ K ≤ 100) (hc : cells + (1 + N) ≤ R.cells) (hs : slots + (N + N * K) ≤ R.slots) {Q : Addr → Pre} (hq : ∀ d' acts', Q T.heap.size d' acts' ((growS T cA cB N K N).setTop f)) : wp (multianewarray.make cA [n, k]) Q E e d acts (T.setTop f) := by
  have hl : ∀ a, a ≤ 100 → ¬ a > e.platform.arrayLengthLimit := fun a ha => by rw [Launch.admits_arrayLengthLimit X.admits]; omega
  have hh : ∀ a, a ≤ 100 → ¬ a * 4 > e.platform.maxHeapBytes := fun a ha => by rw [Launch.admits_maxHeapBytes X.admits]; omega
  have hrm : ∀ i, i ≤ N → (growS T cA cB N K i).heap.size + (N - i) ≤ e.platform.maxCells ∧ (growS T cA cB N K i).slotsUsed + (N - i) * K ≤ e.platform.maxSlots := fun i hi => by
    have e1 : i * K + (N - i) * K = N * K := by rw [← Nat.add_mul]; congr 1; omega
    exact (grow_X X cA cB N K i).roomAbove (by omega) (by omega)
  obtain ⟨g1, g2⟩ := X.roomAbove (a := 1 + N) (b := N + N * K) hc hs
  have hfd : ([k].find? (· < 0)) = none := by simp [hk.1]
  rw [multianewarray.make]
  simp only [wp_bind', W.ite, hn.1, if_false, wp_pure', W.theClass, State.vm_setTop, hA, hA2, Option.some.injEq, exists_eq_left']
  rw [hn.2]
  refine mn_new (k := kA) (cB := cB) (ty := .array .int) (by rw [State.vm_setTop]; exact hA) hA2 (hl N hb.1) (hh N hb.1) rfl rfl (by rw [State.heap_setTop]; omega) (by show T.slotsUsed + N ≤ _; omega) ?_
  simp only [hfd]
  rw [ite_self, wp_bind', Std.Legacy.Range.forIn_eq_forIn_range']
  rw [show ([:N] : Std.Legacy.Range).size = N by simp [Std.Legacy.Range.size]]
  show wp (forIn (List.range' 0 N 1) PUnit.unit _) _ E e d acts _
  refine wp_forIn_inv (fun rest u => ∃ i, i ≤ N ∧ rest = List.range' i (N - i) ∧ u = (growS T cA cB N K i).setTop f) _ _ ⟨0, Nat.zero_le _, rfl, ?_⟩ ?_ ?_
  · rw [State.pushCell_setTop]; rfl
  · rintro x rest u d' acts' Q' ⟨i, hi, hl2, rfl⟩ hnext
    have hiN : i < N := Classical.byContradiction (fun q => by
      rw [show N - i = 0 by omega] at hl2
      simp at hl2)
    rw [show N - i = (N - (i + 1)) + 1 by omega, List.range'_succ] at hl2
    obtain ⟨rfl, hrest⟩ := List.cons.inj hl2
    obtain ⟨h1, h2, h3, h4, h5⟩ := grow_h T cA cB N K x
    obtain ⟨m1, m2⟩ := hrm x hi
    have hxk : K ≤ (N - x) * K := Nat.le_mul_of_pos_left K (by omega)
    simp only [wp_bind']
    rw [multianewarray.make]
    simp only [wp_bind', W.ite, hk.1, if_false, wp_pure', W.theClass, State.vm_setTop, h5, hB, hB2, Option.some.injEq, exists_eq_left']
    rw [hk.2]
    refine mn_new (k := kB) (cB := cC) (ty := .int) (by rw [State.vm_setTop, h5]; exact hB) hB2 (hl K hb.2) (hh K hb.2) rfl rfl (by rw [State.heap_setTop]; omega) (by show (growS T cA cB N K x).slotsUsed + K ≤ _; omega) ?_
    rw [State.pushCell_setTop]
    simp only [wp_bind', W.writeLoc, wp_pure', State.heap_setTop, h1]
    have hc2 : ((growS T cA cB N K x).pushCell (arrV cB K zRow)).heap[T.heap.size]? = some (arrV cA N (nRow T.heap.size x)) := by
      show ((growS T cA cB N K x).heap.push _)[T.heap.size]? = _
      rw [Array.getElem?_push, if_neg (by rw [h1]; omega)]; exact h3
    refine ⟨arrV cA N (nRow T.heap.size x), hc2, by simp [arrV], by rw [arrV_size]; exact hiN, ?_, hnext _ _ _ ⟨x + 1, hiN, hrest, ?_⟩⟩
    · have h5' : ((growS T cA cB N K x).pushCell (arrV cB K zRow)).vm = T.vm := h5
      simp [State.fitsSlot, State.slotType?, arrV, State.vm_setTop, h5', h5, hA, hA2, fits]
    · rw [nRow_s, State.setCell_setTop]; rfl
  · rintro u d' acts' ⟨i, hi, hl2, rfl⟩
    have hiN : i = N := Classical.byContradiction (fun q => by
      rw [show N - i = (N - (i + 1)) + 1 by omega, List.range'_succ] at hl2
      cases hl2)
    subst hiN
    simp only [wp_pure']
    exact hq _ _
end MN3
section MN4
variable {p : Program} {l : Launch} {e : Env} {R : Room} {s : State} {m : MethodId} {args : Array Value} {below : List Frame} {meth : Method} {c : Code} {H : Heap} {locs : List Loc} {cells slots : Nat} {Q : State → Prop}
theorem W_mna {cc : ByteArray} (hexec : p.tables.exec = Jvm.exec) (hb : c.code = cc) {own : String} {index : Nat} (hown : s.vm.findClass own = some m.cls) (hclink : (Cond.classLink own index "[[I").before args s = true) (hover : (Cond.arrayOver (.array .int)).before args s = true) (harr : (Cond.arrayClass .int).before args s = true) {g : JFrame} (hg : g.method = m) (hdg : decode cc g.pc = .ok (.multianewarray index 2, 4)) {n k : Int32} {rest : List Value} (hstack : g.stack = .int k :: .int n :: rest) (N K : Nat) (hn : ¬ n < 0 ∧ n.toNatClampNeg = N) (hk : ¬ k < 0 ∧ k.toNatClampNeg = K) (hbd : N ≤ 100 ∧ K ≤ 100) (hcells : cells + (1 + N) ≤ R.cells) (hslots : slots + (N + N * K) ≤ R.slots)
    (kk : ∀ (H' : Heap) (cA cB : ClassId), s.vm.findClass ("[" ++ (FieldType.array .int).toString) = some cA → s.vm.findClass ("[" ++ FieldType.int.toString) = some cB → H'.size = H.size + 1 + N → (∀ q, q < H.size → H'[q]? = H[q]?) → H'[H.size]? = some (arrV cA N (nRow H.size N)) → (∀ j, j < N → H'[H.size + 1 + j]? = some (arrV cB K zRow)) → W p l e R s m args below meth c H' locs (cells + (1 + N)) (slots + (N + N * K)) Q { g with pc := g.pc + 4, stack := .ref H.size :: rest }) : W p l e R s m args below meth c H locs cells slots Q g := by
  intro T hT X
  subst hT; subst hb; subst hg
  have hpl : e.platform.magicAccessors = ({} : Platform).magicAccessors := by rw [X.admits.platform]
  obtain ⟨cB, cA, kA, hcB, -, hkA, hkindA, hnameA⟩ := arrayOverA_spec hover
  obtain ⟨cB', kB, cC, hcB', hkB, hkindB⟩ := Cond.arrayClass_spec harr
  have eB : cB' = cB := Option.some.inj (hcB'.symm.trans hcB)
  subst eB
  obtain ⟨c0, hfc0, hcl⟩ := Cond.classLink_spec hown hclink e.platform hpl
  have e0 : cA = c0 := Option.some.inj ((show s.vm.findClass "[[I" = some cA from hnameA).symm.trans hfc0)
  subst e0
  obtain ⟨hg₁, hwarm₁, hready₁⟩ := State.classEntry (e := e) X.warmed hcl
  generalize T.vm.noted g.method.cls index (.cls cA) = vm₁ at hg₁ hwarm₁ hready₁
  have hal : s.vm.Alike vm₁ := hwarm₁.alike
  obtain ⟨kA₁, hkA₁, heA⟩ := hal.2.2 _ _ hkA
  obtain ⟨kB₁, hkB₁, heB⟩ := hal.2.2 _ _ hkB
  have hA2 : kA₁.kind = .array cB' (.array .int) := by rw [heA]; exact hkindA
  have hB2 : kB₁.kind = .array cC .int := by rw [heB]; exact hkindB
  have X₁ := X.noted hwarm₁
  have XN := grow_X X₁ cA cB' N K N
  obtain ⟨f1, f2, f3, f4, -⟩ := grow_h (T.setVm vm₁) cA cB' N K N
  have XN' := XN
  rw [show cells + 1 + N = cells + (1 + N) by omega, show slots + N + N * K = slots + (N + N * K) by omega] at XN'
  obtain ⟨t, a1, b1⟩ := kk (growS (T.setVm vm₁) cA cB' N K N).heap cA cB' hnameA hcB' f1 f2 f3 f4 (growS (T.setVm vm₁) cA cB' N K N) rfl XN'
  refine ⟨t, ?_, b1⟩
  jvm_step X.here [hexec, hdg]
  simp only [multianewarray.sem, wp_bind', W.resolveClassAt_links (State.method?_setTop g X.here.top) hg₁]
  rw [W.popN, if_neg (by decide)]
  refine ⟨g, State.topJava?_setTop' (s := T.setVm vm₁) g X.here.top, [.int n, .int k], rest, rfl, hstack, ?_⟩
  simp only [List.mapM_cons, List.mapM_nil, wp_bind', wp_pure']
  have eS : ((T.setTop g).setVm vm₁).setTop { g with stack := rest } = (T.setVm vm₁).setTop { g with stack := rest } := by
    show ((T.setVm vm₁).setTop g).setTop _ = _
    rw [State.setTop_setTop]
  rw [eS]
  refine mn_make (kA := kA₁) (kB := kB₁) (cC := cC) X₁ N K hkA₁ hA2 hkB₁ hB2 hn hk hbd hcells hslots (fun d' acts' => ?_)
  simp only [wp_bind', W.mark, W.pushRef, State.topJava?_setTop' _ XN.here.top, Option.some.injEq, exists_eq_left', State.setTop_setTop]
  intro acts
  simp [jvm, XN.here.top]
  exact a1
end MN4
theorem mk2_old {B : Nat → Nat} {ac : Nat → ClassId} {M : Mem} {n w c : Nat} (h : c < nC M) : cellE B ac (mk2 M n w) c = cellE B ac M c := by
  have e0 : ¬ c = nC M := Nat.ne_of_lt h
  have e00 : ¬ (nC M < c ∧ c ≤ nC M + n) := fun q => by omega
  have e01 : ¬ (nC M ≤ c ∧ c ≤ nC M + n) := fun q => by omega
  have e1 : kd (mk2 M n w) c = kd M c := by simp only [kd, mk2, if_neg e0, if_neg e00]
  have e2 : ln (mk2 M n w) c = ln M c := by simp only [ln, mk2, if_neg e0, if_neg e00]
  have e3 : gI (mk2 M n w) c = gI M c := by funext j; simp only [gI, mk2, if_neg e01]
  have e4 : gR (mk2 M n w) c = gR M c := by funext j; simp only [gR, mk2, if_neg e0, if_neg e00]
  simp only [cellE, e1, e2, e3, e4]
def NewC (own : String) (idx ci N : Nat) : Prop := ∃ (Cn : String) (T : u_T) (ty0 : Nat → FieldType), (∀ w ∈ u_ws Cn T N, w ∈ gw) ∧ hT_cl[ci]? = some (Cn, T, N) ∧ ci < 8 ∧ (∀ k, k < N → parseFieldDescriptor (T k).2.2.1 = some (ty0 k)) ∧ (∀ j, j < N → ((fB ci)[j]? = some true ∧ ty0 j = .int) ∨ ((fB ci)[j]? = some false ∧ defaultValue (ty0 j) = .null)) ∧ (Cond.classLink own idx Cn ∈ gw ∧ Cond.instantiable Cn N ∈ gw) ∧ Cond.initialized Cn ∈ gw
section ALLOCR
variable {x : Ctx} {cc : ByteArray} {nL pc ce sl : Nat} {own : String} {lv lv' : List (Nat × Value)} {st rest : List Value} {M : Mem}
theorem J_widen {ce' sl' : Nat} (h1 : ce ≤ ce') (h2 : sl ≤ sl') (k : J x nL pc lv st ce' sl' M) : J x nL pc lv st ce sl M := fun H locs ls q1 q2 q3 q4 => W.widen h1 h2 (k H locs ls q1 q2 q3 q4)
theorem J_name (k : ∀ N : Mem, N = M → J x nL pc lv st ce sl N) : J x nL pc lv st ce sl M := k M rfl
theorem sz_new (Cx : Cnx x) {H : Heap} (h : H.size = xB x + nC M) : Sz (xB x) (xd x) (xg x) M H := ⟨by rw [Cx.2]; exact h, by rw [Cx.2]; exact Nat.zero_le _, Bij.id Cx.1 M⟩
theorem AB_old (C : Ok x cc nL own) : ∀ q : Nat, (xs x).heap.size ≤ q → AB (xB x) q := fun q h => Nat.le_trans C.2.2.2.2.2.1.2.2.2.1 h
theorem J_new (C : Ok x cc nL own) (Cx : Cnx x) {idx ci N : Nat} (F : NewC own idx ci N) (d : decode cc pc = .ok (.new idx, 3)) (hr : ce + 1 ≤ (xR x).cells ∧ sl + N ≤ (xR x).slots) (kk : J x nL (pc + 3) lv (.ref (xd x (nC M)) :: st) (ce + 1) (sl + N) (mk M ci 0)) : J x nL pc lv st ce sl M := by
  intro H locs ls h1 h2 h3 h4
  have hS := h2
  have hd := Cx.1
  have h2 : H.size = xd x (nC M) := by have := hS.1; rw [Cx.2] at this; rw [hd]; exact this
  obtain ⟨Cn, T, ty0, f1, f2, f3, f4, f5, f6, f7⟩ := F
  have hts := C.2.2.2.2.1
  have hKn := C.2.2.2.2.2.1.1.1 ci _ f2
  refine W.newcK C.1 C.2.1 C.2.2.2.1 (hts _ f6.1) (hts _ f6.2) (hts _ f7) rfl d hr.1 hr.2 hKn.2.1 h2 fun H1 kC hkC e1 z1 o1 => ?_
  refine kk H1 locs ls (ws_grow (M' := mk M ci 0) (Nat.le_succ _) (fun c hc => ⟨rfl, mk_old hc⟩) h1 (fun q hq => o1 q (by rw [← h2]; exact hq)) ?_) (sz_new Cx (by rw [z1, hd]; rfl)) ⟨Nat.le_trans h3.1 (by rw [z1, ← h2]; omega), fun q q1 q2 => (o1 q (by have := h3.1; rw [← h2]; omega)).trans (h3.2.1 q q1 q2), h3.2.2⟩ h4
  intro c hc1 hc2
  have hc : c = nC M := by have : nC (mk M ci 0) = nC M + 1 := rfl; omega
  subst hc
  rw [cE_o (mk_kd M ci 0) f3, mk_gI, mk_gR]
  refine ⟨_, f2, (u_born ty0 hts f1 hKn hkC e1 f4).to (fun j hj => ?_)⟩
  rcases f5 j hj with ⟨g1, g2⟩ | ⟨g1, g2⟩
  · rw [g2]
    show _ = (fls _ _ _ _).getD j .null
    rw [List.getD_eq_getElem?_getD, fls_I g1]; rfl
  · rw [g2]
    show _ = (fls _ _ _ _).getD j .null
    rw [List.getD_eq_getElem?_getD, fls_R g1]; rfl
theorem cls_one {U : State} {t : FieldType} {cA cB : ClassId} (h1 : U.vm.findClass ("[" ++ t.toString) = some cA) (h2 : U.vm.findClass ("[" ++ t.toString) = some cB) : cA = cB := Option.some.inj (h1.symm.trans h2)
theorem J_newI (C : Ok x cc nL own) (Cx : Cnx x) {n : Int32} (N : Nat) (hw : Cond.arrayClass .int ∈ gw) (d : decode cc pc = .ok (.newarray .int, 2)) (hn : ¬ n < 0 ∧ n.toNatClampNeg = N) (hb : N * 4 ≤ 536870912) (hr : ce + 1 ≤ (xR x).cells ∧ sl + N ≤ (xR x).slots) (kk : J x nL (pc + 2) lv (.ref (xd x (nC M)) :: st) (ce + 1) (sl + N) (mk M 8 N)) : J x nL pc lv (.int n :: st) ce sl M := by
  intro H locs ls h1 h2 h3 h4
  have hS := h2
  have hd := Cx.1
  have h2 : H.size = xd x (nC M) := by have := hS.1; rw [Cx.2] at this; rw [hd]; exact this
  refine va_newaK C.1 C.2.1 (atype := .int) (C.2.2.2.2.1 _ hw) rfl d rfl hn.1 hn.2 hb hr.1 hr.2 h2 fun H1 cA e1 z1 o1 hAr hNm => ?_
  refine kk H1 locs ls (ws_grow (M' := mk M 8 N) (Nat.le_succ _) (fun c hc => ⟨rfl, mk_old hc⟩) h1 (fun q hq => o1 q (by rw [← h2]; exact hq)) ?_) (sz_new Cx (by rw [z1, hd]; rfl)) ⟨Nat.le_trans h3.1 (by rw [z1, ← h2]; omega), fun q q1 q2 => (o1 q (by have := h3.1; rw [← h2]; omega)).trans (h3.2.1 q q1 q2), h3.2.2⟩ h4
  intro c hc1 hc2
  have hc : c = nC M := by have : nC (mk M 8 N) = nC M + 1 := rfl; omega
  subst hc
  have e : cA = xA x 8 := cls_one (t := .int) hNm (C.2.2.2.2.2.1.1.2 0 _ rfl).2
  rw [cE_i (mk_kd M 8 N) (by decide) (by decide), mk_gI, mk_ln, ← e]
  exact e1
theorem J_newZ (C : Ok x cc nL own) (Cx : Cnx x) {n : Int32} (N : Nat) (hw : Cond.arrayClass .boolean ∈ gw) (d : decode cc pc = .ok (.newarray .boolean, 2)) (hn : ¬ n < 0 ∧ n.toNatClampNeg = N) (hb : N * 1 ≤ 536870912) (hr : ce + 1 ≤ (xR x).cells ∧ sl + N ≤ (xR x).slots) (kk : J x nL (pc + 2) lv (.ref (xd x (nC M)) :: st) (ce + 1) (sl + N) (mk M 9 N)) : J x nL pc lv (.int n :: st) ce sl M := by
  intro H locs ls h1 h2 h3 h4
  have hS := h2
  have hd := Cx.1
  have h2 : H.size = xd x (nC M) := by have := hS.1; rw [Cx.2] at this; rw [hd]; exact this
  refine va_newaK C.1 C.2.1 (atype := .boolean) (C.2.2.2.2.1 _ hw) rfl d rfl hn.1 hn.2 hb hr.1 hr.2 h2 fun H1 cA e1 z1 o1 hAr hNm => ?_
  refine kk H1 locs ls (ws_grow (M' := mk M 9 N) (Nat.le_succ _) (fun c hc => ⟨rfl, mk_old hc⟩) h1 (fun q hq => o1 q (by rw [← h2]; exact hq)) ?_) (sz_new Cx (by rw [z1, hd]; rfl)) ⟨Nat.le_trans h3.1 (by rw [z1, ← h2]; omega), fun q q1 q2 => (o1 q (by have := h3.1; rw [← h2]; omega)).trans (h3.2.1 q q1 q2), h3.2.2⟩ h4
  intro c hc1 hc2
  have hc : c = nC M := by have : nC (mk M 9 N) = nC M + 1 := rfl; omega
  subst hc
  have e : cA = xA x 9 := cls_one (t := .boolean) hNm (C.2.2.2.2.2.1.1.2 1 _ rfl).2
  rw [cE_i (mk_kd M 9 N) (by decide) (by decide), mk_gI, mk_ln, ← e]
  exact e1
theorem J_newP (C : Ok x cc nL own) (Cx : Cnx x) {n : Int32} {idx : Nat} (N : Nat) (hw : Cond.classLink own idx "HeapTower$Polynomial" ∈ gw) (d : decode cc pc = .ok (.anewarray idx, 3)) (hn : ¬ n < 0 ∧ n.toNatClampNeg = N) (hb : N * 4 ≤ 536870912) (hr : ce + 1 ≤ (xR x).cells ∧ sl + N ≤ (xR x).slots) (kk : J x nL (pc + 3) lv (.ref (xd x (nC M)) :: st) (ce + 1) (sl + N) (mk M 10 N)) : J x nL pc lv (.int n :: st) ce sl M := by
  intro H locs ls h1 h2 h3 h4
  have hS := h2
  have hd := Cx.1
  have h2 : H.size = xd x (nC M) := by have := hS.1; rw [Cx.2] at this; rw [hd]; exact this
  obtain ⟨hn1, hn2⟩ := hn
  subst hn2
  refine W.anew C.1 C.2.1 C.2.2.2.1 (C.2.2.2.2.1 _ hw) (va_AO.use C.2.2.2.2.2.1.2.2.2.2.2.1) rfl d rfl hn1 hb hr.1 hr.2 fun cA kA comp f1 f2 f3 f4 => ?_
  rw [h2]
  refine kk _ locs ls (ws_grow (M' := mk M 10 n.toNatClampNeg) (Nat.le_succ _) (fun c hc => ⟨rfl, mk_old hc⟩) h1 (fun q hq => by rw [Array.getElem?_push, if_neg (Nat.ne_of_lt hq)]) ?_) (sz_new (M := mk M 10 n.toNatClampNeg) Cx (by rw [Array.size_push, h2, hd]; rfl)) ⟨Nat.le_trans h3.1 (by rw [Array.size_push]; omega), fun q q1 q2 => ?_, h3.2.2⟩ h4
  · intro c hc1 hc2
    have hc : c = nC M := by have : nC (mk M 10 n.toNatClampNeg) = nC M + 1 := rfl; omega
    subst hc
    obtain ⟨kA2, comp2, g1, g2, g3, g4⟩ := (C.2.2.2.2.2.1.1.2 2 _ rfl).2
    have e : cA = xA x 10 := cls_one (t := .object "HeapTower$Polynomial") f1 g4
    rw [cE_r (mk_kd M 10 n.toNatClampNeg) (by decide) (by decide), mk_gR, mk_ln, ← e]
    show (H.push _)[xd x (nC M)]? = some (vp_cell _ _)
    rw [← h2, Array.getElem?_push_size, arrV_new]
    rfl
  · rw [Array.getElem?_push, if_neg (Nat.ne_of_lt (Nat.lt_of_lt_of_le q1 h3.1))]
    exact h3.2.1 q q1 q2
theorem J_aast (C : Ok x cc nL own) {c v : Nat} {i : Int32} (d : decode cc pc = .ok (.aastore, 1)) (hM : isA M c 10 i) (hv : isK M v 3) (kk : J x nL (pc + 1) lv st ce sl (sR M c i.toNatClampNeg (some v))) : J x nL pc lv (.ref (xd x v) :: .int i :: .ref (xd x c) :: st) ce sl M := by
  intro H locs ls h1 h2 h3 h4
  have he := ws_get (B := xd x) (ac := xA x) hM.1.1
  rw [cE_r hM.1.2 (by decide) (by decide)] at he
  have hev := ws_get (B := xd x) (ac := xA x) hv.1
  rw [cE_o hv.2 (by decide)] at hev
  have hK := C.2.2.2.2.2.1.1
  have hlt : i.toNatClampNeg < ln M c := Nat.not_le.mp fun q => hM.2 (Or.inr q)
  have h0 : ¬ i < 0 := fun q => hM.2 (Or.inl q)
  obtain ⟨r', hr', cellV, g1, g2, g3, -⟩ := h1 v _ hev
  have hc3 : hT_cl[3]? = some (R_Po, F_Po, 2) := rfl
  have hcls := (hK.1 3 _ hc3).2
  obtain ⟨kA, comp, k1, k2, k3, -⟩ := (hK.2 2 _ rfl).2
  have hcomp : comp = (xD x).1 3 := Option.some.inj (k3.symm.trans hcls.1)
  subst hcomp
  obtain ⟨kC, hkC, -⟩ := hcls.2
  refine W.aast C.1 C.2.1 (h1 c _ he) (fun q h => by cases h) (fun h => by cases h) k1 k2 rfl hkC ⟨h0, by show _ < (arrV _ _ _).slots.size; rw [arrV_size]; exact hlt⟩ g1 (fun q h => by rw [g3] at h; cases h) (by rw [g2]; exact hkC) (by rw [g2]; exact va_assign hcls) rfl rfl d fun H1 e z oq => ?_
  refine kk H1 _ ls ?_ (h2.keep (M' := sR M c i.toNatClampNeg (some v)) z rfl rfl (fun _ _ _ => rfl)) (h3.put z oq (h2.2.2.ge hM.1.1)) h4
  have hP := h1.set (ws_D (xA x) h2.2.2) he (e := .inl (xA x 10, (ln M c, .inr (.inr (.inr (.inr (fun j => (va_up (gR M c) i.toNatClampNeg (some v) j).map (xd x)))))))) ?_ oq
  · rw [ws_set hM.1.1 (M' := sR M c i.toNatClampNeg (some v)) rfl ?_ (fun d hd => sR_ws hd)] at hP
    · exact hP
    · rw [cE_r (show kd (sR M c i.toNatClampNeg (some v)) c = 10 from hM.1.2) (by decide) (by decide), gR_sR]; rfl
  · show H1[xd x c]? = some (vp_cell _ _)
    rw [e, vp_cell_q, vp_cell_q, arrV_store]
    congr 2
    funext q
    by_cases hq : q = i.toNatClampNeg
    · subst hq
      simp [updV, va_up, va_rf]
    · simp [updV, va_up, hq]
theorem J_mna (C : Ok x cc nL own) (Cx : Cnx x) {n w : Int32} {idx : Nat} (N K : Nat) (hw : Cond.classLink own idx "[[I" ∈ gw ∧ Cond.arrayClass .int ∈ gw) (d : decode cc pc = .ok (.multianewarray idx 2, 4)) (hn : (¬ n < 0 ∧ n.toNatClampNeg = N) ∧ (¬ w < 0 ∧ w.toNatClampNeg = K)) (hb : N ≤ 100 ∧ K ≤ 100) (hr : ce + (1 + N) ≤ (xR x).cells ∧ sl + (N + N * K) ≤ (xR x).slots) (kk : J x nL (pc + 4) lv (.ref (xd x (nC M)) :: st) (ce + (1 + N)) (sl + (N + N * K)) (mk2 M N K)) : J x nL pc lv (.int w :: .int n :: st) ce sl M := by
  intro H locs ls h1 h2 h3 h4
  have hS := h2
  have hd := Cx.1
  have h2 : H.size = xd x (nC M) := by have := hS.1; rw [Cx.2] at this; rw [hd]; exact this
  have hov : (Cond.arrayOver (.array .int)).before (xa x) (xs x) = true := C.2.2.2.2.2.1.2.2.2.2.2.2
  refine W_mna C.1 C.2.1 C.2.2.2.1 (C.2.2.2.2.1 _ hw.1) hov (C.2.2.2.2.1 _ hw.2) rfl d rfl N K hn.1 hn.2 hb hr.1 hr.2 fun H1 cA cB hfA hfC z1 o1 eO eI => ?_
  have eA : cA = xA x 11 := cls_one (t := .array .int) hfA (C.2.2.2.2.2.1.1.2 3 _ rfl).2
  have eC : cB = xA x 8 := cls_one (t := .int) hfC (C.2.2.2.2.2.1.1.2 0 _ rfl).2
  have hnew : ∀ c, nC M ≤ c → c < nC (mk2 M N K) → va_at (xD x) hT_cl (xd x c, cellE (xd x) (xA x) (mk2 M N K) c) H1 := by
    intro c hc1 hc2
    have hc3 : c < nC M + 1 + N := hc2
    by_cases z : c = nC M
    · subst z
      have k1 : kd (mk2 M N K) (nC M) = 11 := by simp [kd, mk2]
      have k2 : ln (mk2 M N K) (nC M) = N := by simp [ln, mk2]
      have k3 : gR (mk2 M N K) (nC M) = fun i => if i < N then some (nC M + 1 + i) else none := by funext j; simp [gR, mk2]
      rw [cE_r k1 (by decide) (by decide), k2, k3, ← eA]
      show H1[xd x (nC M)]? = some (vp_cell _ _)
      rw [vp_cell_q, ← h2, eO]
      congr 2
      funext j
      unfold nRow
      by_cases y : j < N
      · dsimp only
        rw [if_pos y, if_pos y]
        exact congrArg Value.ref (show H.size + 1 + j = xd x (nC M + 1 + j) by have h2' : H.size = xB x + nC M := h2.trans (hd _); rw [hd]; omega)
      · dsimp only
        rw [if_neg y, if_neg y]; rfl
    · have k1 : kd (mk2 M N K) c = 8 := by simp only [kd, mk2, if_neg z, if_pos (show nC M < c ∧ c ≤ nC M + N by omega)]
      have k2 : ln (mk2 M N K) c = K := by simp only [ln, mk2, if_neg z, if_pos (show nC M < c ∧ c ≤ nC M + N by omega)]
      have k3 : gI (mk2 M N K) c = fun _ => 0 := by funext j; simp only [gI, mk2, if_pos (show nC M ≤ c ∧ c ≤ nC M + N by omega)]
      rw [cE_i k1 (by decide) (by decide), k2, k3, ← eC]
      have := eI (c - nC M - 1) (by omega)
      rw [h2, show xd x (nC M) + 1 + (c - nC M - 1) = xd x c by rw [hd, hd]; omega] at this
      exact this
  have hk := kk H1 locs ls (ws_grow (M' := mk2 M N K) (by show nC M ≤ nC M + 1 + N; omega) (fun c hc => ⟨rfl, mk2_old hc⟩) h1 o1 hnew) (sz_new Cx (by rw [z1, h2, hd]; show xB x + nC M + 1 + N = xB x + (nC M + 1 + N); omega)) ⟨Nat.le_trans h3.1 (by rw [z1]; omega), fun q q1 q2 => (o1 q (Nat.lt_of_lt_of_le q1 h3.1)).trans (h3.2.1 q q1 q2), h3.2.2⟩ h4
  rw [h2]
  exact hk
end ALLOCR
