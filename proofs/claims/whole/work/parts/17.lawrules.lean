/-! THE CLAIM OUT OF ONE WALK OF THE LAW'S BODY. Your part is whole_start (and what it stands on); all else here is the same for every law, but numbers. -/
def R_law : String := "HeapTowerLaw"
def lw_P (b : Addr) (xs : List Int32) (args : Array Value) (s : State) : Prop := args = #[.ref b] ∧ s.IntsAt b xs ∧ xs.length ≤ 2560 ∧ (Jvm.Cond.and given_1 narrow_1).before args s = true
def lw_Q (_ : Array Value) (s : State) (o : Outcome) (t : State) : Prop := o = .returned (some (.int 1)) ∧ Framed s o t [] 600000 7302250
def lw_Z (below : List Frame) (a : Array Value) (s : State) : State → Prop := fun t => ∃ o, t.status = .running ∧ Ended t below o ∧ lw_Q a s o t
/-- the law's own end, with 1 on the stack, nothing written that was there before, its room as the claim has it -/
theorem lw_ret {p : Program} {l : Launch} {e : Env} {s : State} {m : MethodId} {below : List Frame} {meth : Method} {c : Code} {b : Nat} (hx : p.tables.exec = Jvm.exec) (hb : c.code = code) (hr : meth.sig.returnType = ret) (hlocks : meth.locks = false) {pc : Nat} {H : Heap} {ls : Array Slot} (hdg : decode code pc = .ok (.ireturn, 1)) : W p l e room_1 s m #[Value.ref b] below meth c H [] 600000 7302250 (lw_Z below #[Value.ref b] s) (F0 m pc ls [.int 1]) := by
  intro T hT X
  obtain ⟨fs, hret, hrun, hended, hW, hframe⟩ := X.leave (v := some (.int 1)) (hlocks := hlocks) (fun h => by rw [hr] at h; cases h)
  have hmeth' : T.vm.method? m = some meth := X.method'
  refine ⟨T.setFrames fs, ?_, .returned (some (.int 1)), hrun, hended, rfl, ⟨_, rfl⟩, hW, hframe⟩
  jvm_step X.here [X.here.top, hx, hb, hdg, hmeth', hr, ret, narrow_b1]
  (try refine ⟨rfl, ?_⟩); (try refine ⟨rfl, ?_⟩)
  first | (intro acts; rw [hret _ acts rfl rfl rfl]) | rw [hret _ _ rfl rfl rfl]
  exact Steps.refl _
/-- what holds at the law's entry: the machine, the code, the tables' words (any of lw_tbl by 'hts w (by decide +kernel)'), the script of L ints xs at the cell b, what the Statement gives of the start (any of its parts by flat_of_before) -/
def lw_At (p : Program) (s : State) (m : MethodId) (meth : Method) (c : Code) (b L : Nat) (xs : Nat → Int32) : Prop :=
  p.tables.exec = Jvm.exec ∧ c.code = code ∧ meth.sig.returnType = ret ∧ c.maxLocals = 4 ∧ s.vm.findClass R_law = some m.cls ∧ (∀ w ∈ lw_tbl, w.before #[Value.ref b] s = true) ∧ va_X b L xs s s.heap ∧ b < s.heap.size ∧ meth.locks = false ∧ (Jvm.Cond.and given_1 narrow_1).before #[Value.ref b] s = true
abbrev b_La_law : ByteArray := code
def Scr (x : Ctx) (b L : Nat) (sc : Nat → Int32) : Prop := va_X b L sc (xs x) (xs x).heap ∧ b < (xs x).heap.size ∧ ¬ AB (xB x) b
def RetL (x : Ctx) (b : Nat) (post : Int32 → Mem → Prop) : Prop := (xh x).sig.returnType = ret ∧ xQ x = lw_Z (xb x) (xa x) (xs x) ∧ xa x = #[Value.ref b] ∧ xB x = (xs x).heap.size ∧ xR x = room_1 ∧ ∀ v M, post v M → v = 1
section LAWR
variable {x : Ctx} {nL pc ce sl : Nat} {own : String} {lv lv' : List (Nat × Value)} {st rest : List Value} {M : Mem} {b L : Nat} {sc : Nat → Int32}
theorem J_sld {cc : ByteArray} (C : Ok x cc nL own) (Sx : Scr x b L sc) {i : Int32} (d : decode cc pc = .ok (.iaload, 1)) (hi : vp_in i L) (kk : J x nL (pc + 1) lv (.int (sc i.toNatClampNeg) :: st) ce sl M) : J x nL pc lv (.int i :: .ref b :: st) ce sl M :=
  fun H locs ls h1 h2 h3 h4 => va_sld C.1 C.2.1 Sx.1 Sx.2.1 Sx.2.2 h3 hi d (kk H locs ls h1 h2 h3 h4)
theorem J_slen {cc : ByteArray} (C : Ok x cc nL own) (Sx : Scr x b L sc) (d : decode cc pc = .ok (.arraylength, 1)) (kk : J x nL (pc + 1) lv (.int (nI L) :: st) ce sl M) : J x nL pc lv (.ref b :: st) ce sl M :=
  fun H locs ls h1 h2 h3 h4 => va_slen C.1 C.2.1 Sx.1 Sx.2.1 Sx.2.2 h3 d (kk H locs ls h1 h2 h3 h4)
theorem J_lret {post : Int32 → Mem → Prop} {v : Int32} (C : Ok x code nL own) (Rt : RetL x b post) (d : decode code pc = .ok (.ireturn, 1)) (h : post v M) (hc : ce ≤ 600000) (hs : sl ≤ 7302250) : J x nL pc lv [.int v] ce sl M := by
  intro H locs ls h1 h2 h3 h4
  obtain ⟨g1, g2, g3, g4, g5, g6⟩ := Rt
  have hv := g6 v M h
  subst hv
  refine va_forget (fun q hq => by have := h3.2.2 q hq; rw [← g4]; exact this) ?_
  refine W.widen (k := 600000) (n := 7302250) hc hs ?_
  show W _ _ _ (xR x) _ _ (xa x) _ _ _ _ _ _ _ (xQ x) _
  rw [g2, g3, g5]
  exact lw_ret C.1 C.2.1 g1 C.2.2.2.2.2.2 d
end LAWR
