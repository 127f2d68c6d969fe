/-! THE CLAIM OUT OF ONE WALK OF THE LAW'S BODY. Your part is whole_start (and what it stands on); all else here is the same for every law, but numbers. -/
def R_law : String := "HeapTowerLaw"
def lw_P (b : Addr) (xs : List Int32) (args : Array Value) (s : State) : Prop := args = #[.ref b] ∧ s.IntsAt b xs ∧ xs.length ≤ 2560 ∧ (Jvm.Cond.and given_1 narrow_1).before args s = true
def lw_Q (_ : Array Value) (s : State) (o : Outcome) (t : State) : Prop := o = .returned (some (.int 1)) ∧ Framed s o t [] 600000 7302250
def lw_Z (below : List Frame) (a : Array Value) (s : State) : State → Prop := fun t => ∃ o, t.status = .running ∧ Ended t below o ∧ lw_Q a s o t
/-- the law's own end, with 1 on the stack, nothing written that was there before, its room as the claim has it -/
theorem lw_ret {p : Program} {l : Launch} {e : Env} {s : State} {m : MethodId} {below : List Frame} {meth : Method} {c : Code} {b : Nat} (hx : p.tables.exec = Jvm.exec) (hb : c.code = code) (hr : meth.sig.returnType = ret) (hlocks : meth.locks = false) {pc : Nat} {H : Heap} {ls : Array Slot} (hdg : decode code pc = .ok (.ireturn, 1)) : W p l e room_1 s m #[Value.ref b] below meth c H [] 600000 7302250 (lw_Z below #[Value.ref b] s) (F0 m pc ls [.int 1]) := by
  intro T hT X
  obtain ⟨fs, hret, hrun, hended, hW, hframe⟩ := X.leave (v := some (.int 1)) (hlocks := hlocks) (fun h => by rw [hr] at h; cases h)
  have hmeth' : T.vm.method? m = some meth := X.method'
  refine ⟨T.setFrames fs, ?_, .returned (some (.int 1)), hrun, hended, rfl, ⟨_, rfl⟩, hW, hframe⟩
  jvm_step X.here [X.here.top, hx, hb, hdg, hmeth', hr, ret, narrow_b1]
  (try refine ⟨rfl, ?_⟩); (try refine ⟨rfl, ?_⟩)
  first | (intro acts; rw [hret _ acts rfl rfl rfl]) | rw [hret _ _ rfl rfl rfl]
  exact Steps.refl _
/-- what holds at the law's entry: the machine, the code, the tables' words (any of lw_tbl by 'hts w (by decide +kernel)'), the script of L ints xs at the cell b, what the Statement gives of the start (any of its parts by flat_of_before) -/
def lw_At (p : Program) (s : State) (m : MethodId) (meth : Method) (c : Code) (b L : Nat) (xs : Nat → Int32) : Prop :=
  p.tables.exec = Jvm.exec ∧ c.code = code ∧ meth.sig.returnType = ret ∧ c.maxLocals = 4 ∧ s.vm.findClass R_law = some m.cls ∧ (∀ w ∈ lw_tbl, w.before #[Value.ref b] s = true) ∧ va_X b L xs s s.heap ∧ b < s.heap.size ∧ meth.locks = false ∧ (Jvm.Cond.and given_1 narrow_1).before #[Value.ref b] s = true
abbrev b_La_law : ByteArray := code
def Scr (x : Ctx) (b L : Nat) (sc : Nat → Int32) : Prop := va_X b L sc (xs x) (xs x).heap ∧ b < (xs x).heap.size ∧ ¬ AB (xB x) b
def RetL (x : Ctx) (b : Nat) (post : Int32 → Mem → Prop) : Prop := (xh x).sig.returnType = ret ∧ xQ x = lw_Z (xb x) (xa x) (xs x) ∧ xa x = #[Value.ref b] ∧ xB x = (xs x).heap.size ∧ xR x = room_1 ∧ ∀ v M, post v M → v = 1
section LAWR
variable {x : Ctx} {nL pc ce sl : Nat} {own : String} {lv lv' : List (Nat × Value)} {st rest : List Value} {M : Mem} {b L : Nat} {sc : Nat → Int32}
theorem J_sld {cc : ByteArray} (C : Ok x cc nL own) (Sx : Scr x b L sc) {i : Int32} (d : decode cc pc = .ok (.iaload, 1)) (hi : vp_in i L) (kk : J x nL (pc + 1) lv (.int (sc i.toNatClampNeg) :: st) ce sl M) : J x nL pc lv (.int i :: .ref b :: st) ce sl M :=
  fun H locs ls h1 h2 h3 h4 => va_sld C.1 C.2.1 Sx.1 Sx.2.1 Sx.2.2 h3 hi d (kk H locs ls h1 h2 h3 h4)
theorem J_slen {cc : ByteArray} (C : Ok x cc nL own) (Sx : Scr x b L sc) (d : decode cc pc = .ok (.arraylength, 1)) (kk : J x nL (pc + 1) lv (.int (nI L) :: st) ce sl M) : J x nL pc lv (.ref b :: st) ce sl M :=
  fun H locs ls h1 h2 h3 h4 => va_slen C.1 C.2.1 Sx.1 Sx.2.1 Sx.2.2 h3 d (kk H locs ls h1 h2 h3 h4)
theorem J_lret {post : Int32 → Mem → Prop} {v : Int32} (C : Ok x code nL own) (Rt : RetL x b post) (d : decode code pc = .ok (.ireturn, 1)) (h : post v M) (hc : ce ≤ 600000) (hs : sl ≤ 7302250) : J x nL pc lv [.int v] ce sl M := by
  intro H locs ls h1 h2 h3 h4
  obtain ⟨g1, g2, g3, g4, g5, g6⟩ := Rt
  have hv := g6 v M h
  subst hv
  refine va_forget (fun q hq => by have := h3.2.2 q hq; rw [← g4]; exact this) ?_
  refine W.widen (k := 600000) (n := 7302250) hc hs ?_
  show W _ _ _ (xR x) _ _ (xa x) _ _ _ _ _ _ _ (xQ x) _
  rw [g2, g3, g5]
  exact lw_ret C.1 C.2.1 g1 C.2.2.2.2.2.2 d
end LAWR
theorem Sm.rl {x x' : Ctx} (h : Sm x x') {b : Nat} {post : Int32 → Mem → Prop} (R : RetL x b post) : RetL x' b post := by
  obtain ⟨d, g, rfl⟩ := h; exact R
theorem Sm.sx {x x' : Ctx} (h : Sm x x') {b L : Nat} {sc : Nat → Int32} (R : Scr x b L sc) : Scr x' b L sc := by
  obtain ⟨d, g, rfl⟩ := h; exact R
theorem fr_L {x : Ctx} (hR : xR x = room_1) : (xR x).frames = 10 ∧ (xR x).locals = 404 := by rw [hR]; exact ⟨rfl, rfl⟩
theorem bdg_L {x : Ctx} {b : Nat} {post : Int32 → Mem → Prop} (hR : xR x = room_1) (Rt : RetL x b post) : Bdg x 110000 := by
  have e : xB x = (xs x).heap.size := Rt.2.2.2.1
  unfold Bdg
  rw [hR]
  show _ ∧ _ ≤ _ + 600000 ∧ _ ≤ 7302250
  omega
theorem J_lretD {x : Ctx} {nL pc : Nat} {own : String} {lv : List (Nat × Value)} {M : Mem} {b : Nat} {post : Int32 → Mem → Prop} {v : Int32} (C : Ok x code nL own) (Rt : RetL x b post) (Bd : Bdg x 110000) (hN : nC M + xg x ≤ 2800) (d : decode code pc = .ok (.ireturn, 1)) (h : post v M) : J x nL pc lv [.int v] (iC x M) (iS 110000 x M) M := by
  have e : xB x = (xs x).heap.size := Rt.2.2.2.1
  refine J_lret C Rt d h ?_ ?_
  · unfold iC; omega
  · unfold iS iC; omega
/-! the bases' arrays, empty as yet, are lazy ones from here on -/
def lzk (c : Nat) : Nat := if c = 147 ∨ c = 155 ∨ c = 163 ∨ c = 172 ∨ c = 189 then 2560 else if c = 148 ∨ c = 156 ∨ c = 164 ∨ c = 173 ∨ c = 190 then 286 else 0
def lzf (M : Mem) : Mem := (fun c => if lzk c = 0 then M.1 c else (12, lzk c), M.2)
def Lz0 (M : Mem) : Prop := ∀ c, lzk c ≠ 0 → kd M c = 8 ∧ ln M c = 0 ∧ gI M c 2147483648 ≠ 1
theorem lzf_ws {d : Nat → Nat} {ac : Nat → ClassId} {M : Mem} (z : Lz0 M) : wsM d ac (lzf M) = wsM d ac M := by
  unfold wsM
  apply List.map_congr_left
  intro c hc
  congr 1
  by_cases q : lzk c = 0
  · refine cellE_map ?_ rfl (fun k => rfl)
    show (if lzk c = 0 then M.1 c else (12, lzk c)) = M.1 c
    rw [if_pos q]
  · obtain ⟨z1, z2, z3⟩ := z c q
    have k1 : kd (lzf M) c = 12 := by
      show ((if lzk c = 0 then M.1 c else (12, lzk c)) : Nat × Nat).1 = 12
      rw [if_neg q]
    rw [cE_y k1, cE_i z1 (by decide) (by decide), z2, if_neg (show ¬ gI (lzf M) c 2147483648 = 1 from z3)]
    rfl
theorem J_lz {x : Ctx} {nL pc ce sl : Nat} {lv : List (Nat × Value)} {st : List Value} {M : Mem} {b : Nat} {post : Int32 → Mem → Prop} (Cx : Cnx x) (z0 : Lz0 M) (Rt : RetL x b post) (hc : ce ≤ 2800) (hs : sl ≤ 110000) (k : nC (lzf M) + xg x ≤ 2800 → J x nL pc lv st (iC x (lzf M)) (iS 110000 x (lzf M)) (lzf M)) : J x nL pc lv st ce sl M := by
  intro H locs ls h1 h2 h3 h4
  have hz : H.size = xB x + nC M + xg x := h2.1
  have hB : xB x = (xs x).heap.size := Rt.2.2.2.1
  have hn : nC (lzf M) = nC M := rfl
  intro T hT X
  have hsz := X.heapSize
  have hu := X.used
  rw [hT] at hsz
  refine k (by rw [hn]; omega) H locs ls (by rw [lzf_ws z0]; exact h1) ⟨hz, by rw [Cx.2]; exact Nat.zero_le _, Bij.id Cx.1 _⟩ h3 h4 T hT (stand_fit X ?_ ?_)
  · rw [hT]; unfold iC; rw [hn]; omega
  · unfold iS; omega
