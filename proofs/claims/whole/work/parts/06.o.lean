/-! METHODS THAT MAY MAKE LAZY ARRAYS: how much they made is read off the heap -/
def zf : Nat → Int32 := fun k => if k = 2147483648 then 1 else 0
/-- cells made since the method's start -/
def iC (x : Ctx) (M : Mem) : Nat := xB x + nC M + xg x - (xs x).heap.size
def iS (σ : Nat) (x : Ctx) (M : Mem) : Nat := σ + 2560 * iC x M
def Bdg (x : Ctx) (σ : Nat) : Prop := xB x ≤ (xs x).heap.size ∧ xB x + 2800 ≤ (xs x).heap.size + (xR x).cells ∧ σ + 2560 * (xB x + 2800 - (xs x).heap.size) ≤ (xR x).slots
def hsz (H : Heap) : Nat := H.foldl (fun n c => n + c.slots.size) 0
def hSb (H H' : Heap) : Prop := hsz H' ≤ hsz H + 2560 * (H'.size - H.size)
abbrev DM : Type := Mem × (Nat → Nat) × Nat
def QID (D : va_G) (B : Nat) (ac : Nat → ClassId) (post : Int32 → Mem → Prop) : Array Value → State → Outcome → State → Prop := fun a st oc t => va_Qi (fun r (u : DM) => post r u.1) (fun (u : DM) t => PST D B u.2.1 u.2.2 ac u.1 t) (AB B) a st oc t ∧ hSb st.heap t.heap
def QVD (D : va_G) (B : Nat) (ac : Nat → ClassId) (post : Mem → Prop) : Array Value → State → Outcome → State → Prop := fun a st oc t => va_Qv (fun (u : DM) => post u.1) (fun (u : DM) t => PST D B u.2.1 u.2.2 ac u.1 t) (AB B) a st oc t ∧ hSb st.heap t.heap
def QRD (D : va_G) (B : Nat) (ac : Nat → ClassId) (post : Nat → Mem → Prop) : Array Value → State → Outcome → State → Prop := fun a st oc t => va_Qr (fun (u : Nat × DM) => post u.1 u.2.1) (fun (u : Nat × DM) a t => a = u.2.2.1 u.1 ∧ PST D B u.2.2.1 u.2.2.2 ac u.2.1 t) (AB B) a st oc t ∧ hSb st.heap t.heap
def Sm (x x' : Ctx) : Prop := ∃ d g, x' = wd x d g
theorem Sm.ok {x x' : Ctx} (h : Sm x x') {cc : ByteArray} {nL : Nat} {own : String} (C : Ok x cc nL own) : Ok x' cc nL own := by
  obtain ⟨d, g, rfl⟩ := h; exact C
theorem Sm.bd {x x' : Ctx} (h : Sm x x') {σ : Nat} (C : Bdg x σ) : Bdg x' σ := by
  obtain ⟨d, g, rfl⟩ := h; exact C
theorem Sm.fr {x x' : Ctx} (h : Sm x x') {a b : Nat} (C : (xR x).frames = a ∧ (xR x).locals = b) : (xR x').frames = a ∧ (xR x').locals = b := by
  obtain ⟨d, g, rfl⟩ := h; exact C
abbrev rmD (fr lo z : Nat) : Room := { frames := fr, cells := 2800 - z, slots := 2560 * (2800 - z), locals := lo }
section FIT
variable {p : Program} {l : Launch} {e : Env} {R : Room} {s : State} {m : MethodId} {args : Array Value} {below : List Frame} {meth : Method} {c : Code} {T : State} {locs : List Loc} {cells slots cells' slots' : Nat}
theorem used_T (X : Stand p l e R s m args below meth c T locs cells slots) : T.slotsUsed = hsz T.heap := by
  have := X.book
  unfold State.slotsTrue at this
  exact eq_of_beq this
theorem used_s (X : Stand p l e R s m args below meth c T locs cells slots) : s.slotsUsed = hsz s.heap := by
  have h := X.room
  simp only [State.hasRoom, Bool.and_eq_true] at h
  have := h.2
  unfold State.slotsTrue at this
  exact eq_of_beq this
end FIT
section DYN
variable {x : Ctx} {cc : ByteArray} {nL pc ce sl σ : Nat} {own : String} {lv lv' : List (Nat × Value)} {st rest As : List Value} {M : Mem} {idx maxL n ci c fr lo : Nat} {y : MethodName} {bts : ByteArray} {ret : Option FieldType} {rm : Room}
theorem iC_le (Bd : Bdg x σ) (hN : nC M + xg x ≤ 2800) : iC x M + 0 ≤ (xR x).cells ∧ iS σ x M + 0 ≤ (xR x).slots := by
  obtain ⟨h1, h2, h3⟩ := Bd
  unfold iS iC
  omega
theorem RmS (Bd : Bdg x σ) (hN : nC M + xg x ≤ 2800) (h0 : rm.cells = 0 ∧ rm.slots = 0) (hr : rm.frames + 1 ≤ (xR x).frames ∧ 8 + (maxL + 11) + rm.locals ≤ (xR x).locals) : Rm rm (xR x) maxL 0 0 (iC x M) (iS σ x M) := ⟨h0.1, h0.2, hr, iC_le Bd hN⟩
theorem RmDy (Bd : Bdg x σ) (hs : (xs x).heap.size ≤ xB x + nC M + xg x) (hN : nC M + xg x ≤ 2800) (hr : fr + 1 ≤ (xR x).frames ∧ 8 + (maxL + 11) + lo ≤ (xR x).locals) : Rm (rmD fr lo (nC M + xg x)) (xR x) maxL (2800 - (nC M + xg x)) (2560 * (2800 - (nC M + xg x))) (iC x M) (iS σ x M) := by
  obtain ⟨h1, h2, h3⟩ := Bd
  refine ⟨rfl, rfl, hr, ?_, ?_⟩
  · unfold iC; omega
  · unfold iS iC; omega
theorem sameC {H H1 : Heap} {M' : Mem} {T : State} {locs : List Loc} (h2 : Sz (xB x) (xd x) (xg x) M H) (h2' : Sz (xB x) (xd x) (xg x) M' H1) (hz : H.size ≤ H1.size) (h3 : (xs x).heap.size ≤ H.size) (hT : T.heap = H1) (X : Stand (xp x) (xl x) (xe x) (xR x) (xs x) (xm x) (xa x) (xb x) (xh x) (xc x) T locs (iC x M + 0) sl) : nC M' = nC M := by
  have h := X.heapSize
  rw [hT] at h
  have a := h2.1
  have b := h2'.1
  unfold iC at h
  omega
theorem on_iS {post : Int32 → Mem → Prop} {a : Array Value} {H : Heap} {locs : List Loc} {ls : Array Slot} (hN : nC M + xg x ≤ 2800) (h2 : Sz (xB x) (xd x) (xg x) M H) (h3 : va_S (AB (xB x)) (xs x).heap H locs) (h4 : lv_has ls nL lv) (hr : va_Run (xp x) (xl x) (xe x) (xR x) (xs x) (xm x) (xa x) (xb x) (xh x) (xc x) H locs (iC x M) (iS σ x M) 0 0 (F0 (xm x) pc ls st) rest (QI (xD x) (xB x) (xd x) (xg x) (xA x) post a) (AB (xB x))) (kk : ∀ r M', nC M' + xg x ≤ 2800 → post r M' → J x nL (pc + 3) lv (.int r :: rest) (iC x M') (iS σ x M') M') : Wx x H locs (iC x M) (iS σ x M) (F0 (xm x) pc ls st) :=
  va_calli hr h3 (fun q _ h => h) (fun q h => h) (fun r M' t H1 l1 ht hvm hp hB hz hk hS => by
    intro T hT X
    have e := sameC h2 (by rw [← ht]; exact hB.1) hz h3.1 hT X
    have e1 : iC x M' = iC x M := by unfold iC; rw [e]
    have e2 : iS σ x M' = iS σ x M := by unfold iS; rw [e1]
    have k := kk r M' (by rw [e]; exact hN) hp
    rw [e1, e2] at k
    exact k H1 l1 ls (by rw [← ht]; exact hB.2) (by rw [← ht]; exact hB.1) hS h4 T hT X)
theorem on_vS {post : Mem → Prop} {a : Array Value} {H : Heap} {locs : List Loc} {ls : Array Slot} (hN : nC M + xg x ≤ 2800) (h2 : Sz (xB x) (xd x) (xg x) M H) (h3 : va_S (AB (xB x)) (xs x).heap H locs) (h4 : lv_has ls nL lv) (hr : va_Run (xp x) (xl x) (xe x) (xR x) (xs x) (xm x) (xa x) (xb x) (xh x) (xc x) H locs (iC x M) (iS σ x M) 0 0 (F0 (xm x) pc ls st) rest (QV (xD x) (xB x) (xd x) (xg x) (xA x) post a) (AB (xB x))) (kk : ∀ M', nC M' + xg x ≤ 2800 → post M' → J x nL (pc + 3) lv rest (iC x M') (iS σ x M') M') : Wx x H locs (iC x M) (iS σ x M) (F0 (xm x) pc ls st) :=
  va_callv hr h3 (fun q _ h => h) (fun q h => h) (fun M' t H1 l1 ht hvm hp hB hz hk hS => by
    intro T hT X
    have e := sameC h2 (by rw [← ht]; exact hB.1) hz h3.1 hT X
    have e1 : iC x M' = iC x M := by unfold iC; rw [e]
    have e2 : iS σ x M' = iS σ x M := by unfold iS; rw [e1]
    have k := kk M' (by rw [e]; exact hN) hp
    rw [e1, e2] at k
    exact k H1 l1 ls (by rw [← ht]; exact hB.2) (by rw [← ht]; exact hB.1) hS h4 T hT X)
theorem on_rS {post : Nat → Mem → Prop} {a : Array Value} {H : Heap} {locs : List Loc} {ls : Array Slot} (hN : nC M + xg x ≤ 2800) (h2 : Sz (xB x) (xd x) (xg x) M H) (h3 : va_S (AB (xB x)) (xs x).heap H locs) (h4 : lv_has ls nL lv) (hr : va_Run (xp x) (xl x) (xe x) (xR x) (xs x) (xm x) (xa x) (xb x) (xh x) (xc x) H locs (iC x M) (iS σ x M) 0 0 (F0 (xm x) pc ls st) rest (QR (xD x) (xB x) (xd x) (xg x) (xA x) post a) (AB (xB x))) (kk : ∀ r M', nC M' + xg x ≤ 2800 → post r M' → J x nL (pc + 3) lv (.ref (xd x r) :: rest) (iC x M') (iS σ x M') M') : Wx x H locs (iC x M) (iS σ x M) (F0 (xm x) pc ls st) :=
  va_callr hr h3 (fun q _ h => h) (fun q h => h) (fun u ra t H1 l1 ht hvm hp hB hz hk hS => by
    rw [hB.1]
    intro T hT X
    have e := sameC h2 (by rw [← ht]; exact hB.2.1) hz h3.1 hT X
    have e1 : iC x u.2 = iC x M := by unfold iC; rw [e]
    have e2 : iS σ x u.2 = iS σ x M := by unfold iS; rw [e1]
    have k := kk u.1 u.2 (by rw [e]; exact hN) hp
    rw [e1, e2] at k
    exact k H1 l1 ls (by rw [← ht]; exact hB.2.2) (by rw [← ht]; exact hB.2.1) hS h4 T hT X)
theorem JS_callVi (C : Ok x cc nL own) (Bd : Bdg x σ) (hN : nC M + xg x ≤ 2800) {post : Int32 → Mem → Prop} (ml : MLV own idx y bts maxL ret n ci) (hM : Met (xl x) y (.code y bts maxL ret :: gw) rm (va_Pc (.ref (xd x c) :: As) (PRE (xD x) (xB x) (xd x) (xg x) (xt x) (xA x) M)) (QI (xD x) (xB x) (xd x) (xg x) (xA x) post) 0 0 (AB (xB x))) (h0 : rm.cells = 0 ∧ rm.slots = 0) (hr : rm.frames + 1 ≤ (xR x).frames ∧ 8 + (maxL + 11) + rm.locals ≤ (xR x).locals) (hn : As.length = n) (hK : isK M c ci) (hst : st = As.reverse ++ .ref (xd x c) :: rest) (hcat : (rest.map fun v => v.category).sum ≤ 8) (d : decode cc pc = .ok (.invokevirtual idx, 3)) (kk : ∀ r M', nC M' + xg x ≤ 2800 → post r M' → J x nL (pc + 3) lv (.int r :: rest) (iC x M') (iS σ x M') M') : J x nL pc lv st (iC x M) (iS σ x M) M :=
  fun H locs ls h1 h2 h3 h4 => on_iS hN h2 h3 h4 (run_V C ml hM (RmS Bd hN h0 hr) hn hK hst hcat d h1 h2 h3 h4) kk
theorem JS_callVv (C : Ok x cc nL own) (Bd : Bdg x σ) (hN : nC M + xg x ≤ 2800) {post : Mem → Prop} (ml : MLV own idx y bts maxL ret n ci) (hM : Met (xl x) y (.code y bts maxL ret :: gw) rm (va_Pc (.ref (xd x c) :: As) (PRE (xD x) (xB x) (xd x) (xg x) (xt x) (xA x) M)) (QV (xD x) (xB x) (xd x) (xg x) (xA x) post) 0 0 (AB (xB x))) (h0 : rm.cells = 0 ∧ rm.slots = 0) (hr : rm.frames + 1 ≤ (xR x).frames ∧ 8 + (maxL + 11) + rm.locals ≤ (xR x).locals) (hn : As.length = n) (hK : isK M c ci) (hst : st = As.reverse ++ .ref (xd x c) :: rest) (hcat : (rest.map fun v => v.category).sum ≤ 8) (d : decode cc pc = .ok (.invokevirtual idx, 3)) (kk : ∀ M', nC M' + xg x ≤ 2800 → post M' → J x nL (pc + 3) lv rest (iC x M') (iS σ x M') M') : J x nL pc lv st (iC x M) (iS σ x M) M :=
  fun H locs ls h1 h2 h3 h4 => on_vS hN h2 h3 h4 (run_V C ml hM (RmS Bd hN h0 hr) hn hK hst hcat d h1 h2 h3 h4) kk
theorem JS_callVr (C : Ok x cc nL own) (Bd : Bdg x σ) (hN : nC M + xg x ≤ 2800) {post : Nat → Mem → Prop} (ml : MLV own idx y bts maxL ret n ci) (hM : Met (xl x) y (.code y bts maxL ret :: gw) rm (va_Pc (.ref (xd x c) :: As) (PRE (xD x) (xB x) (xd x) (xg x) (xt x) (xA x) M)) (QR (xD x) (xB x) (xd x) (xg x) (xA x) post) 0 0 (AB (xB x))) (h0 : rm.cells = 0 ∧ rm.slots = 0) (hr : rm.frames + 1 ≤ (xR x).frames ∧ 8 + (maxL + 11) + rm.locals ≤ (xR x).locals) (hn : As.length = n) (hK : isK M c ci) (hst : st = As.reverse ++ .ref (xd x c) :: rest) (hcat : (rest.map fun v => v.category).sum ≤ 8) (d : decode cc pc = .ok (.invokevirtual idx, 3)) (kk : ∀ r M', nC M' + xg x ≤ 2800 → post r M' → J x nL (pc + 3) lv (.ref (xd x r) :: rest) (iC x M') (iS σ x M') M') : J x nL pc lv st (iC x M) (iS σ x M) M :=
  fun H locs ls h1 h2 h3 h4 => on_rS hN h2 h3 h4 (run_V C ml hM (RmS Bd hN h0 hr) hn hK hst hcat d h1 h2 h3 h4) kk
theorem JS_callSi (C : Ok x cc nL own) (Bd : Bdg x σ) (hN : nC M + xg x ≤ 2800) {post : Int32 → Mem → Prop} (ml : MLS own idx y bts maxL ret n) (hM : Met (xl x) y (.code y bts maxL ret :: gw) rm (va_Pc As (PRE (xD x) (xB x) (xd x) (xg x) (xt x) (xA x) M)) (QI (xD x) (xB x) (xd x) (xg x) (xA x) post) 0 0 (AB (xB x))) (h0 : rm.cells = 0 ∧ rm.slots = 0) (hr : rm.frames + 1 ≤ (xR x).frames ∧ 8 + (maxL + 11) + rm.locals ≤ (xR x).locals) (hn : As.length = n) (hst : st = As.reverse ++ rest) (hcat : (rest.map fun v => v.category).sum ≤ 8) (d : decode cc pc = .ok (.invokestatic idx, 3)) (kk : ∀ r M', nC M' + xg x ≤ 2800 → post r M' → J x nL (pc + 3) lv (.int r :: rest) (iC x M') (iS σ x M') M') : J x nL pc lv st (iC x M) (iS σ x M) M :=
  fun H locs ls h1 h2 h3 h4 => on_iS hN h2 h3 h4 (run_S C ml hM (RmS Bd hN h0 hr) hn hst hcat d h1 h2 h3 h4) kk
/-- what is no lazy array lies where it lay -/
theorem stay {d d' : Nat → Nat} {M M' : Mem} (h : Bij (xB x) d M) (h' : Bij (xB x) d' M') {c k : Nat} (hk : k ≠ 12) (i : isK M c k) (i' : isK M' c k) : d c = d' c := by
  rw [h.1 c i.1 (by rw [i.2]; exact hk), h'.1 c i'.1 (by rw [i'.2]; exact hk)]
theorem dyn_after {H : Heap} {locs L : List Loc} {T T' : State} {M' : Mem} {d' : Nat → Nat} {g' : Nat} (h2 : Sz (xB x) (xd x) (xg x) M H) (h3 : (xs x).heap.size ≤ H.size) (hT : T.heap = H) (X : Stand (xp x) (xl x) (xe x) (xR x) (xs x) (xm x) (xa x) (xb x) (xh x) (xc x) T locs (iC x M) (iS σ x M)) (X' : Stand (xp x) (xl x) (xe x) (xR x) (xs x) (xm x) (xa x) (xb x) (xh x) (xc x) T' (locs ++ L) (iC x M + (2800 - (nC M + xg x))) (iS σ x M + 2560 * (2800 - (nC M + xg x)))) (hN : nC M + xg x ≤ 2800) (hz : H.size ≤ T'.heap.size) (h2' : Sz (xB x) d' g' M' T'.heap) (hs : hSb H T'.heap) : nC M' + g' ≤ 2800 ∧ Stand (xp x) (xl x) (xe x) (xR x) (xs x) (xm x) (xa x) (xb x) (xh x) (xc x) T' (locs ++ L) (iC (wd x d' g') M') (iS σ (wd x d' g') M') := by
  have a := h2.1
  have b := h2'.1
  have c := X'.heapSize
  have u := used_T X
  have u' := used_T X'
  have v := X.used
  unfold hSb at hs
  rw [hT] at u
  have e1 : iC x M = xB x + nC M + xg x - (xs x).heap.size := rfl
  have e2 : iC (wd x d' g') M' = xB x + nC M' + g' - (xs x).heap.size := rfl
  have e3 : iS σ x M = σ + 2560 * iC x M := rfl
  have e4 : iS σ (wd x d' g') M' = σ + 2560 * iC (wd x d' g') M' := rfl
  refine ⟨by omega, stand_fit X' (by omega) (by omega)⟩
theorem JD_callVi (C : Ok x cc nL own) (Bd : Bdg x σ) (hN : nC M + xg x ≤ 2800) {post : Int32 → Mem → Prop} (ml : MLV own idx y bts maxL ret n ci) (hM : Met (xl x) y (.code y bts maxL ret :: gw) (rmD fr lo (nC M + xg x)) (va_Pc (.ref (xd x c) :: As) (PRE (xD x) (xB x) (xd x) (xg x) (xt x) (xA x) M)) (QID (xD x) (xB x) (xA x) post) (2800 - (nC M + xg x)) (2560 * (2800 - (nC M + xg x))) (AB (xB x))) (hr : fr + 1 ≤ (xR x).frames ∧ 8 + (maxL + 11) + lo ≤ (xR x).locals) (hn : As.length = n) (hK : isK M c ci) (hst : st = As.reverse ++ .ref (xd x c) :: rest) (hcat : (rest.map fun v => v.category).sum ≤ 8) (d : decode cc pc = .ok (.invokevirtual idx, 3)) (kk : ∀ x', Sm x x' → ∀ r M', nC M' + xg x' ≤ 2800 → (∀ c k, k ≠ 12 → isK M c k → isK M' c k → xd x c = xd x' c) → post r M' → J x' nL (pc + 3) lv (.int r :: rest) (iC x' M') (iS σ x' M') M') : J x nL pc lv st (iC x M) (iS σ x M) M := by
  intro H locs ls h1 h2 h3 h4
  have hs := h3.1
  have run := run_V C ml hM (RmDy Bd (by have := h2.1; omega) hN hr) hn hK hst hcat d h1 h2 h3 h4
  intro T hT X
  obtain ⟨v, st₀, t, T', L, h0, X', hL, e1, e2, ⟨⟨⟨r, u, hv, hp, hb⟩, hz, hk⟩, hsb⟩, stp⟩ := run T hT X
  cases hv
  rw [h0] at hz hk hsb
  rw [← e1] at hz hk hsb
  have hb' : PST (xD x) (xB x) u.2.1 u.2.2 (xA x) u.1 T' := by
    unfold PST at hb ⊢; rw [e1]; exact hb
  obtain ⟨hN', X''⟩ := dyn_after h2 hs hT X X' hN hz hb'.1 hsb
  obtain ⟨t2, a1, b1⟩ := kk (wd x u.2.1 u.2.2) ⟨_, _, rfl⟩ r u.1 hN' (fun c k z i i' => stay h2.2.2 hb'.1.2.2 z i i') hp T'.heap (locs ++ L) ls hb'.2 hb'.1 ⟨Nat.le_trans h3.1 hz, fun q q1 q2 => by rw [hk q (Nat.lt_of_lt_of_le q1 h3.1) q2]; exact h3.2.1 q q1 q2, fun q hq => by
      rcases List.mem_append.mp hq with h | h
      · exact h3.2.2 q h
      · exact hL q h⟩ h4 T' rfl X''
  exact ⟨t2, stp t2 a1, b1⟩
theorem JD_callVv (C : Ok x cc nL own) (Bd : Bdg x σ) (hN : nC M + xg x ≤ 2800) {post : Mem → Prop} (ml : MLV own idx y bts maxL ret n ci) (hM : Met (xl x) y (.code y bts maxL ret :: gw) (rmD fr lo (nC M + xg x)) (va_Pc (.ref (xd x c) :: As) (PRE (xD x) (xB x) (xd x) (xg x) (xt x) (xA x) M)) (QVD (xD x) (xB x) (xA x) post) (2800 - (nC M + xg x)) (2560 * (2800 - (nC M + xg x))) (AB (xB x))) (hr : fr + 1 ≤ (xR x).frames ∧ 8 + (maxL + 11) + lo ≤ (xR x).locals) (hn : As.length = n) (hK : isK M c ci) (hst : st = As.reverse ++ .ref (xd x c) :: rest) (hcat : (rest.map fun v => v.category).sum ≤ 8) (d : decode cc pc = .ok (.invokevirtual idx, 3)) (kk : ∀ x', Sm x x' → ∀ M', nC M' + xg x' ≤ 2800 → (∀ c k, k ≠ 12 → isK M c k → isK M' c k → xd x c = xd x' c) → post M' → J x' nL (pc + 3) lv rest (iC x' M') (iS σ x' M') M') : J x nL pc lv st (iC x M) (iS σ x M) M := by
  intro H locs ls h1 h2 h3 h4
  have hs := h3.1
  have run := run_V C ml hM (RmDy Bd (by have := h2.1; omega) hN hr) hn hK hst hcat d h1 h2 h3 h4
  intro T hT X
  obtain ⟨v, st₀, t, T', L, h0, X', hL, e1, e2, ⟨⟨⟨u, hv, hp, hb⟩, hz, hk⟩, hsb⟩, stp⟩ := run T hT X
  cases hv
  rw [h0] at hz hk hsb
  rw [← e1] at hz hk hsb
  have hb' : PST (xD x) (xB x) u.2.1 u.2.2 (xA x) u.1 T' := by
    unfold PST at hb ⊢; rw [e1]; exact hb
  obtain ⟨hN', X''⟩ := dyn_after h2 hs hT X X' hN hz hb'.1 hsb
  obtain ⟨t2, a1, b1⟩ := kk (wd x u.2.1 u.2.2) ⟨_, _, rfl⟩ u.1 hN' (fun c k z i i' => stay h2.2.2 hb'.1.2.2 z i i') hp T'.heap (locs ++ L) ls hb'.2 hb'.1 ⟨Nat.le_trans h3.1 hz, fun q q1 q2 => by rw [hk q (Nat.lt_of_lt_of_le q1 h3.1) q2]; exact h3.2.1 q q1 q2, fun q hq => by
      rcases List.mem_append.mp hq with h | h
      · exact h3.2.2 q h
      · exact hL q h⟩ h4 T' rfl X''
  exact ⟨t2, stp t2 a1, b1⟩
theorem JD_callVr (C : Ok x cc nL own) (Bd : Bdg x σ) (hN : nC M + xg x ≤ 2800) {post : Nat → Mem → Prop} (ml : MLV own idx y bts maxL ret n ci) (hM : Met (xl x) y (.code y bts maxL ret :: gw) (rmD fr lo (nC M + xg x)) (va_Pc (.ref (xd x c) :: As) (PRE (xD x) (xB x) (xd x) (xg x) (xt x) (xA x) M)) (QRD (xD x) (xB x) (xA x) post) (2800 - (nC M + xg x)) (2560 * (2800 - (nC M + xg x))) (AB (xB x))) (hr : fr + 1 ≤ (xR x).frames ∧ 8 + (maxL + 11) + lo ≤ (xR x).locals) (hn : As.length = n) (hK : isK M c ci) (hst : st = As.reverse ++ .ref (xd x c) :: rest) (hcat : (rest.map fun v => v.category).sum ≤ 8) (d : decode cc pc = .ok (.invokevirtual idx, 3)) (kk : ∀ x', Sm x x' → ∀ r M', nC M' + xg x' ≤ 2800 → (∀ c k, k ≠ 12 → isK M c k → isK M' c k → xd x c = xd x' c) → post r M' → J x' nL (pc + 3) lv (.ref (xd x' r) :: rest) (iC x' M') (iS σ x' M') M') : J x nL pc lv st (iC x M) (iS σ x M) M := by
  intro H locs ls h1 h2 h3 h4
  have hs := h3.1
  have run := run_V C ml hM (RmDy Bd (by have := h2.1; omega) hN hr) hn hK hst hcat d h1 h2 h3 h4
  intro T hT X
  obtain ⟨v, st₀, t, T', L, h0, X', hL, e1, e2, ⟨⟨⟨u, ra, hv, hp, hra, hb⟩, hz, hk⟩, hsb⟩, stp⟩ := run T hT X
  cases hv
  rw [h0] at hz hk hsb
  rw [← e1] at hz hk hsb
  have hb' : PST (xD x) (xB x) u.2.2.1 u.2.2.2 (xA x) u.2.1 T' := by
    unfold PST at hb ⊢; rw [e1]; exact hb
  obtain ⟨hN', X''⟩ := dyn_after h2 hs hT X X' hN hz hb'.1 hsb
  subst hra
  obtain ⟨t2, a1, b1⟩ := kk (wd x u.2.2.1 u.2.2.2) ⟨_, _, rfl⟩ u.1 u.2.1 hN' (fun c k z i i' => stay h2.2.2 hb'.1.2.2 z i i') hp T'.heap (locs ++ L) ls hb'.2 hb'.1 ⟨Nat.le_trans h3.1 hz, fun q q1 q2 => by rw [hk q (Nat.lt_of_lt_of_le q1 h3.1) q2]; exact h3.2.1 q q1 q2, fun q hq => by
      rcases List.mem_append.mp hq with h | h
      · exact h3.2.2 q h
      · exact hL q h⟩ h4 T' rfl X''
  exact ⟨t2, stp t2 a1, b1⟩
/-! returns -/
def RetID (x : Ctx) (ty : FieldType) (post : Int32 → Mem → Prop) (z : Nat) : Prop := (xh x).sig.returnType = some ty ∧ xQ x = MQ (xb x) (QID (xD x) (xB x) (xA x) post) (xa x) (xs x) (2800 - z) (2560 * (2800 - z)) (AB (xB x)) ∧ (xs x).heap.size = xB x + z
def RetVD (x : Ctx) (post : Mem → Prop) (z : Nat) : Prop := (xh x).sig.returnType = none ∧ xQ x = MQ (xb x) (QVD (xD x) (xB x) (xA x) post) (xa x) (xs x) (2800 - z) (2560 * (2800 - z)) (AB (xB x)) ∧ (xs x).heap.size = xB x + z
def RetRD (x : Ctx) (ty : FieldType) (post : Nat → Mem → Prop) (z : Nat) : Prop := ((xh x).sig.returnType = some ty ∧ ((∃ n, ty = .object n) ∨ ∃ t, ty = .array t)) ∧ xQ x = MQ (xb x) (QRD (xD x) (xB x) (xA x) post) (xa x) (xs x) (2800 - z) (2560 * (2800 - z)) (AB (xB x)) ∧ (xs x).heap.size = xB x + z
theorem Sm.ri {x x' : Ctx} (h : Sm x x') {ty : FieldType} {post : Int32 → Mem → Prop} {z : Nat} (R : RetID x ty post z) : RetID x' ty post z := by
  obtain ⟨d, g, rfl⟩ := h; exact R
theorem Sm.rv {x x' : Ctx} (h : Sm x x') {post : Mem → Prop} {z : Nat} (R : RetVD x post z) : RetVD x' post z := by
  obtain ⟨d, g, rfl⟩ := h; exact R
theorem Sm.rr {x x' : Ctx} (h : Sm x x') {ty : FieldType} {post : Nat → Mem → Prop} {z : Nat} (R : RetRD x ty post z) : RetRD x' ty post z := by
  obtain ⟨d, g, rfl⟩ := h; exact R
theorem end_sb {H : Heap} {locs : List Loc} {T : State} (h2 : Sz (xB x) (xd x) (xg x) M H) (hT : T.heap = H) (X : Stand (xp x) (xl x) (xe x) (xR x) (xs x) (xm x) (xa x) (xb x) (xh x) (xc x) T locs (iC x M) (iS 0 x M)) : hSb (xs x).heap H := by
  have u := used_T X
  have u' := used_s X
  have v := X.used
  have a := h2.1
  have e1 : iC x M = xB x + nC M + xg x - (xs x).heap.size := rfl
  have e3 : iS 0 x M = 0 + 2560 * iC x M := rfl
  unfold hSb
  rw [hT] at u
  omega
theorem end_le {z : Nat} (hz : (xs x).heap.size = xB x + z) (hN : nC M + xg x ≤ 2800) : iC x M ≤ 2800 - z ∧ iS 0 x M ≤ 2560 * (2800 - z) := by
  unfold iS iC; omega
theorem JD_iret (C : Ok x cc nL own) {ty : FieldType} {post : Int32 → Mem → Prop} {v : Int32} {z : Nat} (hR : RetID x ty post z) (hN : nC M + xg x ≤ 2800) (d : decode cc pc = .ok (.ireturn, 1)) (hn : narrow ty (.int v) = .int v) (hp : post v M) : J x nL pc lv [.int v] (iC x M) (iS 0 x M) M := by
  intro H locs ls h1 h2 h3 h4
  obtain ⟨r1, r2, r3⟩ := hR
  have el := end_le r3 hN
  intro T hT X
  have hs := end_sb h2 hT X
  refine W.widen el.1 el.2 ?_ T hT X
  show W _ _ _ _ _ _ _ _ _ _ _ _ _ _ (xQ x) _
  rw [r2]
  exact W.zret C.1 C.2.1 r1 hn (fun t ht hW => ⟨⟨⟨v, (M, xd x, xg x), rfl, hp, by rw [ht]; exact h2, by rw [ht]; exact h1⟩, h3.F ht⟩, by rw [ht]; exact hs⟩) h3.2.2 d C.2.2.2.2.2.2
theorem JD_vret (C : Ok x cc nL own) {post : Mem → Prop} {z : Nat} (hR : RetVD x post z) (hN : nC M + xg x ≤ 2800) (d : decode cc pc = .ok (.return_, 1)) (hp : post M) : J x nL pc lv [] (iC x M) (iS 0 x M) M := by
  intro H locs ls h1 h2 h3 h4
  obtain ⟨r1, r2, r3⟩ := hR
  have el := end_le r3 hN
  intro T hT X
  have hs := end_sb h2 hT X
  refine W.widen el.1 el.2 ?_ T hT X
  show W _ _ _ _ _ _ _ _ _ _ _ _ _ _ (xQ x) _
  rw [r2]
  exact W.vret C.1 C.2.1 r1 (fun t ht hW => ⟨⟨⟨(M, xd x, xg x), rfl, hp, by rw [ht]; exact h2, by rw [ht]; exact h1⟩, h3.F ht⟩, by rw [ht]; exact hs⟩) h3.2.2 d C.2.2.2.2.2.2
theorem JD_aret (C : Ok x cc nL own) {ty : FieldType} {post : Nat → Mem → Prop} {v z : Nat} (hR : RetRD x ty post z) (hN : nC M + xg x ≤ 2800) (d : decode cc pc = .ok (.areturn, 1)) (hp : post v M) : J x nL pc lv [.ref (xd x v)] (iC x M) (iS 0 x M) M := by
  intro H locs ls h1 h2 h3 h4
  obtain ⟨⟨r0, r1⟩, r2, r3⟩ := hR
  have el := end_le r3 hN
  intro T hT X
  have hs := end_sb h2 hT X
  refine W.widen el.1 el.2 ?_ T hT X
  show W _ _ _ _ _ _ _ _ _ _ _ _ _ _ (xQ x) _
  rw [r2]
  exact W.aret C.1 C.2.1 r0 r1 (Or.inr ⟨_, rfl⟩) (fun t ht hW => ⟨⟨⟨(v, M, xd x, xg x), xd x v, rfl, hp, rfl, by rw [ht]; exact h2, by rw [ht]; exact h1⟩, h3.F ht⟩, by rw [ht]; exact hs⟩) h3.2.2 d C.2.2.2.2.2.2
end DYN
theorem Sm.rf (x : Ctx) : Sm x x := ⟨xd x, xg x, rfl⟩
theorem Sm.tr {x y z : Ctx} (h : Sm x y) (h' : Sm y z) : Sm x z := by
  obtain ⟨d, g, rfl⟩ := h
  obtain ⟨d', g', rfl⟩ := h'
  exact ⟨d', g', rfl⟩
theorem J_gC {x : Ctx} {nL pc ce sl : Nat} {lv : List (Nat × Value)} {st : List Value} {M : Mem} (k : xg x ≤ gC M → J x nL pc lv st ce sl M) : J x nL pc lv st ce sl M := fun H locs ls h1 h2 h3 h4 => k h2.2.1 H locs ls h1 h2 h3 h4
