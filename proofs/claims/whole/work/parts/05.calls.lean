def MLV (own : String) (idx : Nat) (y : MethodName) (bts : ByteArray) (maxL : Nat) (ret : Option FieldType) (n ci : Nat) : Prop := (∀ w ∈ ([.methodLink own idx y, .instanceMethod y, .selects y.cls y y, .initialized y.cls, .code y bts maxL ret] : List Cond), w ∈ gw) ∧ (y.cls ≠ "java/lang/invoke/MethodHandle" ∧ y.cls ≠ "java/lang/invoke/VarHandle" ∧ (parseMethodDescriptor y.desc).map (fun d => d.parameters.length) = some n) ∧ ∃ T N, hT_cl[ci]? = some (y.cls, T, N) ∧ ci < 8
def MLS (own : String) (idx : Nat) (y : MethodName) (bts : ByteArray) (maxL : Nat) (ret : Option FieldType) (n : Nat) : Prop := (∀ w ∈ ([.methodLink own idx y, .static y, .initialized y.cls, .code y bts maxL ret] : List Cond), w ∈ gw) ∧ (y.cls ≠ "java/lang/invoke/MethodHandle" ∧ y.cls ≠ "java/lang/invoke/VarHandle" ∧ (parseMethodDescriptor y.desc).map (fun d => d.parameters.length) = some n)
def MLI (own : String) (idx : Nat) (y : MethodName) (bts : ByteArray) (maxL : Nat) (n : Nat) : Prop := (∀ w ∈ ([.methodLink own idx y, .instanceMethod y, .initialized y.cls, .code y bts maxL none] : List Cond), w ∈ gw) ∧ (y.cls ≠ "java/lang/invoke/MethodHandle" ∧ y.cls ≠ "java/lang/invoke/VarHandle" ∧ (parseMethodDescriptor y.desc).map (fun d => d.parameters.length) = some n) ∧ y.name = "<init>"
theorem gw_GoodIn {c : Cond} (h : c ∈ gw) : GoodIn gw (c :: gw) := by
  intro w hw
  have hm : w ∈ gw := by
    rcases List.mem_cons.mp hw with e | e
    · rw [e]; exact h
    · exact e
  exact ⟨hm, good_of_word (gw_good w hm)⟩
theorem EnvF_calling {D : va_G} {B t : Nat} {ac : Nat → ClassId} {U : State} (g : JFrame) (mk : MethodId) (a : Array Value) (h : EnvF D B t ac U) : EnvF D B t ac (U.calling g mk a) := by
  obtain ⟨h1, h2, h3, h4, h5, h6, h7⟩ := h
  exact ⟨h1.moved (Vm.Alike.refl U.vm), h2.moved (Vm.Alike.refl U.vm), h3.moved (Vm.Alike.refl U.vm), h4, fun q hq => va_Nw.same rfl rfl (h5 q hq), h6.moved (Vm.Alike.refl U.vm), vAOA_moved (Vm.Alike.refl U.vm) h7⟩
theorem PRE_blind {D : va_G} {B t g : Nat} {d : Nat → Nat} {ac : Nat → ClassId} {M : Mem} (av : List Value) : FrameBlind (va_Pc av (PRE D B d g t ac M)) := fun a U g mk q => ⟨q.1, q.2.1, q.2.2.1, EnvF_calling g mk a q.2.2.2⟩
/-- how much room a call asks -/
abbrev Rm (rm R : Room) (maxL mc ms ce sl : Nat) : Prop := rm.cells = mc ∧ rm.slots = ms ∧ (rm.frames + 1 ≤ R.frames ∧ 8 + (maxL + 11) + rm.locals ≤ R.locals) ∧ (ce + mc ≤ R.cells ∧ sl + ms ≤ R.slots)
section CALLR
variable {x : Ctx} {cc : ByteArray} {nL pc ce sl : Nat} {own : String} {lv lv' : List (Nat × Value)} {st rest As : List Value} {M : Mem} {idx maxL n ci mc ms c : Nat} {y : MethodName} {bts : ByteArray} {ret : Option FieldType} {rm : Room}
theorem PRE_at (C : Ok x cc nL own) {H : Heap} {locs : List Loc} (h1 : va_P (xD x) hT_cl (wsM (xd x) (xA x) M) H) (h2 : Sz (xB x) (xd x) (xg x) M H) (h3 : va_S (AB (xB x)) (xs x).heap H locs) : ∀ U : State, U.heap = H → (xs x).WarmedH U.vm → PRE (xD x) (xB x) (xd x) (xg x) (xt x) (xA x) M U := by
  intro U hU hW
  exact ⟨by rw [hU]; exact h2, by rw [hU]; exact h1, vZ_seen hW hW.alike (by rw [hU]; exact h3.1) (fun q hq hA => by rw [hU]; exact h3.2.1 q hq hA) C.2.2.2.2.2.1⟩
theorem run_V (C : Ok x cc nL own) {Qc : Array Value → State → Outcome → State → Prop} (ml : MLV own idx y bts maxL ret n ci) (hM : Met (xl x) y (.code y bts maxL ret :: gw) rm (va_Pc (.ref (xd x c) :: As) (PRE (xD x) (xB x) (xd x) (xg x) (xt x) (xA x) M)) Qc mc ms (AB (xB x))) (hr : Rm rm (xR x) maxL mc ms ce sl) (hn : As.length = n) (hK : isK M c ci) (hst : st = As.reverse ++ .ref (xd x c) :: rest) (hcat : (rest.map fun v => v.category).sum ≤ 8) (d : decode cc pc = .ok (.invokevirtual idx, 3))
    {H : Heap} {locs : List Loc} {ls : Array Slot} (h1 : va_P (xD x) hT_cl (wsM (xd x) (xA x) M) H) (h2 : Sz (xB x) (xd x) (xg x) M H) (h3 : va_S (AB (xB x)) (xs x).heap H locs) (h4 : lv_has ls nL lv) :
    va_Run (xp x) (xl x) (xe x) (xR x) (xs x) (xm x) (xa x) (xb x) (xh x) (xc x) H locs ce sl mc ms (F0 (xm x) pc ls st) rest (Qc (Value.ref (xd x c) :: As).toArray) (AB (xB x)) := by
  obtain ⟨g1, g2, T, N, g3, g4⟩ := ml
  have hts := C.2.2.2.2.1
  have he := ws_get (B := xd x) (ac := xA x) hK.1
  rw [cE_o hK.2 g4] at he
  have hcw : Cond.code y bts maxL ret ∈ gw := g1 _ (by simp)
  have hrec : ∃ cellB : Cell, H[xd x c]? = some cellB ∧ cellB.vm.isStatics = false ∧ (xs x).vm.findClass y.cls = some cellB.cls := va_recv (q := (y.cls, T, N)) C.2.2.2.2.2.1.1 h1 g3 he
  exact va_runV (Ts := gw) (own := own) (C := y.cls) (As := As) (rest := rest) ⟨C.1, C.2.1, C.2.2.1, C.2.2.2.1, hts⟩ hM ⟨callB_of n hts (gw_GoodIn hcw) rfl hr.1 hr.2.1 (hts _ (g1 _ (by simp))) (hts _ (g1 _ (by simp))) g2 hr.2.2.1, hts _ (g1 _ (by simp)), hts _ (g1 _ (by simp))⟩ ⟨PRE_blind _, hrec, fun U hU hW => ⟨rfl, PRE_at C h1 h2 h3 U hU hW⟩⟩ rfl hn h4.1 hst (lv_room hcat) d hr.2.2.2
theorem run_S (C : Ok x cc nL own) {Qc : Array Value → State → Outcome → State → Prop} (ml : MLS own idx y bts maxL ret n) (hM : Met (xl x) y (.code y bts maxL ret :: gw) rm (va_Pc As (PRE (xD x) (xB x) (xd x) (xg x) (xt x) (xA x) M)) Qc mc ms (AB (xB x))) (hr : Rm rm (xR x) maxL mc ms ce sl) (hn : As.length = n) (hst : st = As.reverse ++ rest) (hcat : (rest.map fun v => v.category).sum ≤ 8) (d : decode cc pc = .ok (.invokestatic idx, 3))
    {H : Heap} {locs : List Loc} {ls : Array Slot} (h1 : va_P (xD x) hT_cl (wsM (xd x) (xA x) M) H) (h2 : Sz (xB x) (xd x) (xg x) M H) (h3 : va_S (AB (xB x)) (xs x).heap H locs) (h4 : lv_has ls nL lv) :
    va_Run (xp x) (xl x) (xe x) (xR x) (xs x) (xm x) (xa x) (xb x) (xh x) (xc x) H locs ce sl mc ms (F0 (xm x) pc ls st) rest (Qc As.toArray) (AB (xB x)) := by
  obtain ⟨g1, g2⟩ := ml
  have hts := C.2.2.2.2.1
  have hcw : Cond.code y bts maxL ret ∈ gw := g1 _ (by simp)
  exact va_runS (Ts := gw) (own := own) (As := As) (rest := rest) ⟨C.1, C.2.1, C.2.2.1, C.2.2.2.1, hts⟩ hM ⟨callB_of n hts (gw_GoodIn hcw) rfl hr.1 hr.2.1 (hts _ (g1 _ (by simp))) (hts _ (g1 _ (by simp))) g2 hr.2.2.1, hts _ (g1 _ (by simp))⟩ ⟨PRE_blind _, fun U hU hW => ⟨rfl, PRE_at C h1 h2 h3 U hU hW⟩⟩ rfl hn h4.1 hst (lv_room hcat) d hr.2.2.2
theorem run_I (C : Ok x cc nL own) {Qc : Array Value → State → Outcome → State → Prop} (ml : MLI own idx y bts maxL n) (hM : Met (xl x) y (.code y bts maxL none :: gw) rm (va_Pc (.ref (xd x c) :: As) (PRE (xD x) (xB x) (xd x) (xg x) (xt x) (xA x) M)) Qc mc ms (AB (xB x))) (hr : Rm rm (xR x) maxL mc ms ce sl) (hn : As.length = n) (hst : st = As.reverse ++ .ref (xd x c) :: rest) (hcat : (rest.map fun v => v.category).sum ≤ 8) (d : decode cc pc = .ok (.invokespecial idx, 3))
    {H : Heap} {locs : List Loc} {ls : Array Slot} (h1 : va_P (xD x) hT_cl (wsM (xd x) (xA x) M) H) (h2 : Sz (xB x) (xd x) (xg x) M H) (h3 : va_S (AB (xB x)) (xs x).heap H locs) (h4 : lv_has ls nL lv) :
    va_Run (xp x) (xl x) (xe x) (xR x) (xs x) (xm x) (xa x) (xb x) (xh x) (xc x) H locs ce sl mc ms (F0 (xm x) pc ls st) rest (Qc (Value.ref (xd x c) :: As).toArray) (AB (xB x)) := by
  obtain ⟨g1, g2, g3⟩ := ml
  have hts := C.2.2.2.2.1
  have hcw : Cond.code y bts maxL none ∈ gw := g1 _ (by simp)
  exact va_runI (Ts := gw) (own := own) (As := As) (rest := rest) ⟨C.1, C.2.1, C.2.2.1, C.2.2.2.1, hts⟩ hM ⟨callB_of n hts (gw_GoodIn hcw) rfl hr.1 hr.2.1 (hts _ (g1 _ (by simp))) (hts _ (g1 _ (by simp))) g2 hr.2.2.1, g3, hts _ (g1 _ (by simp))⟩ ⟨PRE_blind _, fun U hU hW => ⟨rfl, PRE_at C h1 h2 h3 U hU hW⟩⟩ rfl hn h4.1 hst (lv_room hcat) d hr.2.2.2
abbrev QI (D : va_G) (B : Nat) (d : Nat → Nat) (g : Nat) (ac : Nat → ClassId) (post : Int32 → Mem → Prop) : Array Value → State → Outcome → State → Prop := va_Qi post (PST D B d g ac) (AB B)
abbrev QV (D : va_G) (B : Nat) (d : Nat → Nat) (g : Nat) (ac : Nat → ClassId) (post : Mem → Prop) : Array Value → State → Outcome → State → Prop := va_Qv post (PST D B d g ac) (AB B)
abbrev QR (D : va_G) (B : Nat) (d : Nat → Nat) (g : Nat) (ac : Nat → ClassId) (post : Nat → Mem → Prop) : Array Value → State → Outcome → State → Prop := va_Qr (fun u : Nat × Mem => post u.1 u.2) (fun (u : Nat × Mem) a t => a = d u.1 ∧ PST D B d g ac u.2 t) (AB B)
theorem on_i {post : Int32 → Mem → Prop} {a : Array Value} {H : Heap} {locs : List Loc} {ls : Array Slot} (h3 : va_S (AB (xB x)) (xs x).heap H locs) (h4 : lv_has ls nL lv) (hr : va_Run (xp x) (xl x) (xe x) (xR x) (xs x) (xm x) (xa x) (xb x) (xh x) (xc x) H locs ce sl mc ms (F0 (xm x) pc ls st) rest (QI (xD x) (xB x) (xd x) (xg x) (xA x) post a) (AB (xB x))) (kk : ∀ r M', post r M' → J x nL (pc + 3) lv (.int r :: rest) (ce + mc) (sl + ms) M') : Wx x H locs ce sl (F0 (xm x) pc ls st) :=
  va_calli hr h3 (fun q _ h => h) (fun q h => h) (fun r M' t H1 l1 ht hvm hp hB hz hk hS => kk r M' hp H1 l1 ls (by rw [← ht]; exact hB.2) (by rw [← ht]; exact hB.1) hS h4)
theorem on_v {post : Mem → Prop} {a : Array Value} {H : Heap} {locs : List Loc} {ls : Array Slot} (h3 : va_S (AB (xB x)) (xs x).heap H locs) (h4 : lv_has ls nL lv) (hr : va_Run (xp x) (xl x) (xe x) (xR x) (xs x) (xm x) (xa x) (xb x) (xh x) (xc x) H locs ce sl mc ms (F0 (xm x) pc ls st) rest (QV (xD x) (xB x) (xd x) (xg x) (xA x) post a) (AB (xB x))) (kk : ∀ M', post M' → J x nL (pc + 3) lv rest (ce + mc) (sl + ms) M') : Wx x H locs ce sl (F0 (xm x) pc ls st) :=
  va_callv hr h3 (fun q _ h => h) (fun q h => h) (fun M' t H1 l1 ht hvm hp hB hz hk hS => kk M' hp H1 l1 ls (by rw [← ht]; exact hB.2) (by rw [← ht]; exact hB.1) hS h4)
theorem on_r {post : Nat → Mem → Prop} {a : Array Value} {H : Heap} {locs : List Loc} {ls : Array Slot} (h3 : va_S (AB (xB x)) (xs x).heap H locs) (h4 : lv_has ls nL lv) (hr : va_Run (xp x) (xl x) (xe x) (xR x) (xs x) (xm x) (xa x) (xb x) (xh x) (xc x) H locs ce sl mc ms (F0 (xm x) pc ls st) rest (QR (xD x) (xB x) (xd x) (xg x) (xA x) post a) (AB (xB x))) (kk : ∀ r M', post r M' → J x nL (pc + 3) lv (.ref (xd x r) :: rest) (ce + mc) (sl + ms) M') : Wx x H locs ce sl (F0 (xm x) pc ls st) :=
  va_callr hr h3 (fun q _ h => h) (fun q h => h) (fun u ra t H1 l1 ht hvm hp hB hz hk hS => by rw [hB.1]; exact kk u.1 u.2 hp H1 l1 ls (by rw [← ht]; exact hB.2.2) (by rw [← ht]; exact hB.2.1) hS h4)
theorem J_callVi (C : Ok x cc nL own) {post : Int32 → Mem → Prop} (ml : MLV own idx y bts maxL ret n ci) (hM : Met (xl x) y (.code y bts maxL ret :: gw) rm (va_Pc (.ref (xd x c) :: As) (PRE (xD x) (xB x) (xd x) (xg x) (xt x) (xA x) M)) (QI (xD x) (xB x) (xd x) (xg x) (xA x) post) mc ms (AB (xB x))) (hr : Rm rm (xR x) maxL mc ms ce sl) (hn : As.length = n) (hK : isK M c ci) (hst : st = As.reverse ++ .ref (xd x c) :: rest) (hcat : (rest.map fun v => v.category).sum ≤ 8) (d : decode cc pc = .ok (.invokevirtual idx, 3)) (kk : ∀ r M', post r M' → J x nL (pc + 3) lv (.int r :: rest) (ce + mc) (sl + ms) M') : J x nL pc lv st ce sl M :=
  fun H locs ls h1 h2 h3 h4 => on_i h3 h4 (run_V C ml hM hr hn hK hst hcat d h1 h2 h3 h4) kk
theorem J_callVv (C : Ok x cc nL own) {post : Mem → Prop} (ml : MLV own idx y bts maxL ret n ci) (hM : Met (xl x) y (.code y bts maxL ret :: gw) rm (va_Pc (.ref (xd x c) :: As) (PRE (xD x) (xB x) (xd x) (xg x) (xt x) (xA x) M)) (QV (xD x) (xB x) (xd x) (xg x) (xA x) post) mc ms (AB (xB x))) (hr : Rm rm (xR x) maxL mc ms ce sl) (hn : As.length = n) (hK : isK M c ci) (hst : st = As.reverse ++ .ref (xd x c) :: rest) (hcat : (rest.map fun v => v.category).sum ≤ 8) (d : decode cc pc = .ok (.invokevirtual idx, 3)) (kk : ∀ M', post M' → J x nL (pc + 3) lv rest (ce + mc) (sl + ms) M') : J x nL pc lv st ce sl M :=
  fun H locs ls h1 h2 h3 h4 => on_v h3 h4 (run_V C ml hM hr hn hK hst hcat d h1 h2 h3 h4) kk
theorem J_callVr (C : Ok x cc nL own) {post : Nat → Mem → Prop} (ml : MLV own idx y bts maxL ret n ci) (hM : Met (xl x) y (.code y bts maxL ret :: gw) rm (va_Pc (.ref (xd x c) :: As) (PRE (xD x) (xB x) (xd x) (xg x) (xt x) (xA x) M)) (QR (xD x) (xB x) (xd x) (xg x) (xA x) post) mc ms (AB (xB x))) (hr : Rm rm (xR x) maxL mc ms ce sl) (hn : As.length = n) (hK : isK M c ci) (hst : st = As.reverse ++ .ref (xd x c) :: rest) (hcat : (rest.map fun v => v.category).sum ≤ 8) (d : decode cc pc = .ok (.invokevirtual idx, 3)) (kk : ∀ r M', post r M' → J x nL (pc + 3) lv (.ref (xd x r) :: rest) (ce + mc) (sl + ms) M') : J x nL pc lv st ce sl M :=
  fun H locs ls h1 h2 h3 h4 => on_r h3 h4 (run_V C ml hM hr hn hK hst hcat d h1 h2 h3 h4) kk
theorem J_callSi (C : Ok x cc nL own) {post : Int32 → Mem → Prop} (ml : MLS own idx y bts maxL ret n) (hM : Met (xl x) y (.code y bts maxL ret :: gw) rm (va_Pc As (PRE (xD x) (xB x) (xd x) (xg x) (xt x) (xA x) M)) (QI (xD x) (xB x) (xd x) (xg x) (xA x) post) mc ms (AB (xB x))) (hr : Rm rm (xR x) maxL mc ms ce sl) (hn : As.length = n) (hst : st = As.reverse ++ rest) (hcat : (rest.map fun v => v.category).sum ≤ 8) (d : decode cc pc = .ok (.invokestatic idx, 3)) (kk : ∀ r M', post r M' → J x nL (pc + 3) lv (.int r :: rest) (ce + mc) (sl + ms) M') : J x nL pc lv st ce sl M :=
  fun H locs ls h1 h2 h3 h4 => on_i h3 h4 (run_S C ml hM hr hn hst hcat d h1 h2 h3 h4) kk
theorem J_callSv (C : Ok x cc nL own) {post : Mem → Prop} (ml : MLS own idx y bts maxL ret n) (hM : Met (xl x) y (.code y bts maxL ret :: gw) rm (va_Pc As (PRE (xD x) (xB x) (xd x) (xg x) (xt x) (xA x) M)) (QV (xD x) (xB x) (xd x) (xg x) (xA x) post) mc ms (AB (xB x))) (hr : Rm rm (xR x) maxL mc ms ce sl) (hn : As.length = n) (hst : st = As.reverse ++ rest) (hcat : (rest.map fun v => v.category).sum ≤ 8) (d : decode cc pc = .ok (.invokestatic idx, 3)) (kk : ∀ M', post M' → J x nL (pc + 3) lv rest (ce + mc) (sl + ms) M') : J x nL pc lv st ce sl M :=
  fun H locs ls h1 h2 h3 h4 => on_v h3 h4 (run_S C ml hM hr hn hst hcat d h1 h2 h3 h4) kk
theorem J_callIv (C : Ok x cc nL own) {post : Mem → Prop} (ml : MLI own idx y bts maxL n) (hM : Met (xl x) y (.code y bts maxL none :: gw) rm (va_Pc (.ref (xd x c) :: As) (PRE (xD x) (xB x) (xd x) (xg x) (xt x) (xA x) M)) (QV (xD x) (xB x) (xd x) (xg x) (xA x) post) mc ms (AB (xB x))) (hr : Rm rm (xR x) maxL mc ms ce sl) (hn : As.length = n) (hst : st = As.reverse ++ .ref (xd x c) :: rest) (hcat : (rest.map fun v => v.category).sum ≤ 8) (d : decode cc pc = .ok (.invokespecial idx, 3)) (kk : ∀ M', post M' → J x nL (pc + 3) lv rest (ce + mc) (sl + ms) M') : J x nL pc lv st ce sl M :=
  fun H locs ls h1 h2 h3 h4 => on_v h3 h4 (run_I C ml hM hr hn hst hcat d h1 h2 h3 h4) kk
/-! returns -/
def RetI (x : Ctx) (ty : FieldType) (post : Int32 → Mem → Prop) (mc ms : Nat) : Prop := (xh x).sig.returnType = some ty ∧ xQ x = MQ (xb x) (QI (xD x) (xB x) (xd x) (xg x) (xA x) post) (xa x) (xs x) mc ms (AB (xB x))
def RetV (x : Ctx) (post : Mem → Prop) (mc ms : Nat) : Prop := (xh x).sig.returnType = none ∧ xQ x = MQ (xb x) (QV (xD x) (xB x) (xd x) (xg x) (xA x) post) (xa x) (xs x) mc ms (AB (xB x))
def RetR (x : Ctx) (ty : FieldType) (post : Nat → Mem → Prop) (mc ms : Nat) : Prop := ((xh x).sig.returnType = some ty ∧ ((∃ n, ty = .object n) ∨ ∃ t, ty = .array t)) ∧ xQ x = MQ (xb x) (QR (xD x) (xB x) (xd x) (xg x) (xA x) post) (xa x) (xs x) mc ms (AB (xB x))
theorem J_iret (C : Ok x cc nL own) {ty : FieldType} {post : Int32 → Mem → Prop} {v : Int32} (hR : RetI x ty post ce sl) (d : decode cc pc = .ok (.ireturn, 1)) (hn : narrow ty (.int v) = .int v) (hp : post v M) : J x nL pc lv [.int v] ce sl M := by
  intro H locs ls h1 h2 h3 h4
  show W _ _ _ _ _ _ _ _ _ _ _ _ _ _ (xQ x) _
  rw [hR.2]
  exact W.zret C.1 C.2.1 hR.1 hn (fun t ht hW => ⟨⟨v, M, rfl, hp, by rw [ht]; exact h2, by rw [ht]; exact h1⟩, h3.F ht⟩) h3.2.2 d C.2.2.2.2.2.2
theorem J_vret (C : Ok x cc nL own) {post : Mem → Prop} (hR : RetV x post ce sl) (d : decode cc pc = .ok (.return_, 1)) (hp : post M) : J x nL pc lv [] ce sl M := by
  intro H locs ls h1 h2 h3 h4
  show W _ _ _ _ _ _ _ _ _ _ _ _ _ _ (xQ x) _
  rw [hR.2]
  exact W.vret C.1 C.2.1 hR.1 (fun t ht hW => ⟨⟨M, rfl, hp, by rw [ht]; exact h2, by rw [ht]; exact h1⟩, h3.F ht⟩) h3.2.2 d C.2.2.2.2.2.2
theorem J_aret (C : Ok x cc nL own) {ty : FieldType} {post : Nat → Mem → Prop} {v : Nat} (hR : RetR x ty post ce sl) (d : decode cc pc = .ok (.areturn, 1)) (hp : post v M) : J x nL pc lv [.ref (xd x v)] ce sl M := by
  intro H locs ls h1 h2 h3 h4
  show W _ _ _ _ _ _ _ _ _ _ _ _ _ _ (xQ x) _
  rw [hR.2]
  exact W.aret C.1 C.2.1 hR.1.1 hR.1.2 (Or.inr ⟨_, rfl⟩) (fun t ht hW => ⟨⟨(v, M), xd x v, rfl, hp, rfl, by rw [ht]; exact h2, by rw [ht]; exact h1⟩, h3.F ht⟩) h3.2.2 d C.2.2.2.2.2.2
/-! the static row of numbers -/
theorem J_first (C : Ok x cc nL own) (hn : (own, idx, "HeapTower", "FIRST", "[I", "HeapTower") ∈ nestW) (d : decode cc pc = .ok (.getstatic idx, 3)) (kk : J x nL (pc + 3) lv (.ref (xt x) :: st) ce sl M) : J x nL pc lv st ce sl M :=
  fun H locs ls h1 h2 h3 h4 => va_getsN C.1 C.2.1 C.2.2.2.2.2.1.2.1 h3 C.2.2.2.1 (va_Nw.use rfl (C.2.2.2.2.2.1.2.2.2.2.1 _ hn)) (fun _ h => h) d (kk H locs ls h1 h2 h3 h4)
theorem J_fald (C : Ok x cc nL own) {i : Int32} (d : decode cc pc = .ok (.iaload, 1)) (hi : vp_in i 12) (kk : J x nL (pc + 1) lv (.int (fst i.toNatClampNeg) :: st) ce sl M) : J x nL pc lv (.int i :: .ref (xt x) :: st) ce sl M :=
  fun H locs ls h1 h2 h3 h4 => va_ti C.1 C.2.1 C.2.2.2.2.2.1.2.2.1 h3 hi rfl d (kk H locs ls h1 h2 h3 h4)
end CALLR
/-! a method's contract out of its walk -/
theorem Met_ofWF {l : Launch} {y : MethodName} {ws ws' : List Cond} {rm : Room} {Pc : Array Value → State → Prop} {Qc : Array Value → State → Outcome → State → Prop} {mc ms : Nat} {free : Addr → Prop} {cc : ByteArray} {maxL : Nat} {ret : Option FieldType}
    (hy : plainFor y = true) (hw : ws = Cond.code y cc maxL ret :: ws')
    (body : ∀ p e s m args below meth c s₁, BodyLoose p l y (headSpec ws rm) cc maxL ret e s m args below meth c s₁ → c.maxLocals = maxL → Pc args s →
      W p l e (headSpec ws rm).room s m args below meth c s.heap [] 0 0 (MQ below Qc args s mc ms free) (entryFrame m args maxL)) : Met l y ws rm Pc Qc mc ms free := by
  refine MetFree.of_bodySF (code := cc) (maxLocals := maxL) (ret := ret) hy ?_ ?_
  · intro args s m h hn
    obtain ⟨meth, c, h1, h2, h3, h4, h5, h6, -, -⟩ := Cond.code_spec hn (atoms_spec (ws := ws) h _ (by rw [hw]; exact List.mem_cons_self))
    exact ⟨meth, c, h1, h2, h3, h4, h5, h6⟩
  · intro p e s m args below meth c s₁ B hml hP _
    have hh0 : s₁.heap = s.heap := by rw [B.state]; rfl
    obtain ⟨t, a1, o, b1, b2, b3⟩ := body p e s m args below meth c s₁ B hml hP s₁ hh0 (Stand.of_body B)
    exact ⟨t, o, a1, b1, b2, ⟨b3.1, b3.2⟩⟩
section METS
variable {l : Launch} {y : MethodName} {bts : ByteArray} {maxL mc ms B t g : Nat} {d : Nat → Nat} {rm : Room} {av : List Value} {M : Mem} {D : va_G} {ac : Nat → ClassId}
theorem entry_J {x : Ctx} (k : J x maxL 0 (lv_args 0 av) [] 0 0 M) (hlen : (lg_sl av).length ≤ maxL) (h1 : va_P (xD x) hT_cl (wsM (xd x) (xA x) M) (xs x).heap) (h2 : Sz (xB x) (xd x) (xg x) M (xs x).heap) : Wx x (xs x).heap [] 0 0 (entryFrame (xm x) av.toArray maxL) := by
  have hl := lv_entry av (n := maxL) hlen
  rw [lg_entry_eq]
  exact k _ _ _ h1 h2 va_S.rf hl
theorem met_i {ty : FieldType} {post : Int32 → Mem → Prop} (hy : plainFor y = true) (hlen : (lg_sl av).length ≤ maxL) (body : ∀ x : Ctx, xl x = l → xR x = rm → xD x = D → xB x = B → xt x = t → xA x = ac → xd x = d → xg x = g → Ok x bts maxL y.cls → RetI x ty post mc ms → J x maxL 0 (lv_args 0 av) [] 0 0 M) : Met l y (.code y bts maxL (some ty) :: gw) rm (va_Pc av (PRE D B d g t ac M)) (QI D B d g ac post) mc ms (AB B) := by
  refine Met_ofWF (cc := bts) (maxL := maxL) (ret := some ty) hy rfl ?_
  intro p e s m args below meth c s₁ Bo hml hv
  obtain ⟨rfl, hsz, hP, hE⟩ := hv
  have hts := atoms_spec (ws := .code y bts maxL (some ty) :: gw) Bo.pre
  exact entry_J (x := (p, l, e, rm, s, m, _, below, meth, c, _, D, B, t, ac, d, g)) (body _ rfl rfl rfl rfl rfl rfl rfl rfl ⟨Bo.exec, Bo.bytes, hml, findClass_of_methodNamed Bo.named, fun w hw => hts w (List.mem_cons_of_mem _ hw), hE, Bo.notSynchronized⟩ ⟨Bo.returns, rfl⟩) hlen hP hsz
theorem met_v {post : Mem → Prop} (hy : plainFor y = true) (hlen : (lg_sl av).length ≤ maxL) (body : ∀ x : Ctx, xl x = l → xR x = rm → xD x = D → xB x = B → xt x = t → xA x = ac → xd x = d → xg x = g → Ok x bts maxL y.cls → RetV x post mc ms → (xh x).name = y.name → J x maxL 0 (lv_args 0 av) [] 0 0 M) : Met l y (.code y bts maxL none :: gw) rm (va_Pc av (PRE D B d g t ac M)) (QV D B d g ac post) mc ms (AB B) := by
  refine Met_ofWF (cc := bts) (maxL := maxL) (ret := none) hy rfl ?_
  intro p e s m args below meth c s₁ Bo hml hv
  obtain ⟨rfl, hsz, hP, hE⟩ := hv
  have hts := atoms_spec (ws := .code y bts maxL none :: gw) Bo.pre
  exact entry_J (x := (p, l, e, rm, s, m, _, below, meth, c, _, D, B, t, ac, d, g)) (body _ rfl rfl rfl rfl rfl rfl rfl rfl ⟨Bo.exec, Bo.bytes, hml, findClass_of_methodNamed Bo.named, fun w hw => hts w (List.mem_cons_of_mem _ hw), hE, Bo.notSynchronized⟩ ⟨Bo.returns, rfl⟩ (name_of_methodNamed Bo.named Bo.method).1) hlen hP hsz
theorem met_r {ty : FieldType} {post : Nat → Mem → Prop} (hy : plainFor y = true) (hty : (∃ n, ty = .object n) ∨ ∃ t, ty = .array t) (hlen : (lg_sl av).length ≤ maxL) (body : ∀ x : Ctx, xl x = l → xR x = rm → xD x = D → xB x = B → xt x = t → xA x = ac → xd x = d → xg x = g → Ok x bts maxL y.cls → RetR x ty post mc ms → J x maxL 0 (lv_args 0 av) [] 0 0 M) : Met l y (.code y bts maxL (some ty) :: gw) rm (va_Pc av (PRE D B d g t ac M)) (QR D B d g ac post) mc ms (AB B) := by
  refine Met_ofWF (cc := bts) (maxL := maxL) (ret := some ty) hy rfl ?_
  intro p e s m args below meth c s₁ Bo hml hv
  obtain ⟨rfl, hsz, hP, hE⟩ := hv
  have hts := atoms_spec (ws := .code y bts maxL (some ty) :: gw) Bo.pre
  exact entry_J (x := (p, l, e, rm, s, m, _, below, meth, c, _, D, B, t, ac, d, g)) (body _ rfl rfl rfl rfl rfl rfl rfl rfl ⟨Bo.exec, Bo.bytes, hml, findClass_of_methodNamed Bo.named, fun w hw => hts w (List.mem_cons_of_mem _ hw), hE, Bo.notSynchronized⟩ ⟨⟨Bo.returns, hty⟩, rfl⟩) hlen hP hsz
end METS
