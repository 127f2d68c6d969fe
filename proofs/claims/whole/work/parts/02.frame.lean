/-! THE MACHINE OVER A MEMORY OF NUMBERED CELLS: kinds and lengths, numbers, references, how many cells -/
theorem gw_in {w : Cond} (h : w ∈ lw_tbl) (g : goodWord w = true) : w ∈ gw := List.mem_filter.mpr ⟨h, g⟩
theorem gw_good : ∀ w ∈ gw, goodWord w = true := fun _ h => (List.mem_filter.mp h).2
theorem gw_tbl : ∀ w ∈ gw, w ∈ lw_tbl := fun _ h => (List.mem_filter.mp h).1
abbrev Mem : Type := (Nat → Nat × Nat) × (Nat → Nat → Int32) × (Nat → Nat → Option Nat) × Nat
def kd (M : Mem) (c : Nat) : Nat := (M.1 c).1
def ln (M : Mem) (c : Nat) : Nat := (M.1 c).2
def gI (M : Mem) (c k : Nat) : Int32 := M.2.1 c k
def gR (M : Mem) (c k : Nat) : Option Nat := M.2.2.1 c k
def nC (M : Mem) : Nat := M.2.2.2
def sI (M : Mem) (c k : Nat) (v : Int32) : Mem := (M.1, fun a => if a = c then upd (M.2.1 c) k v else M.2.1 a, M.2.2)
def sA (M : Mem) (c : Nat) (f : Nat → Int32) : Mem := (M.1, fun a => if a = c then f else M.2.1 a, M.2.2)
def sR (M : Mem) (c k : Nat) (v : Option Nat) : Mem := (M.1, M.2.1, fun a => if a = c then va_up (M.2.2.1 c) k v else M.2.2.1 a, M.2.2.2)
/-- cell c is there, of kind k -/
def isK (M : Mem) (c k : Nat) : Prop := c < nC M ∧ kd M c = k
/-- cell c is an array of kind k, i lies within -/
def isA (M : Mem) (c k : Nat) (i : Int32) : Prop := (c < nC M ∧ kd M c = k) ∧ vp_in i (ln M c)
/-- cell c is a lazy array (kind 12) that has been made, i lies within -/
def isZ (M : Mem) (c : Nat) (i : Int32) : Prop := (c < nC M ∧ kd M c = 12) ∧ gI M c 2147483648 = 1 ∧ vp_in i (ln M c)
/-- how many of the first n -/
def gcf (Q : Nat → Bool) : Nat → Nat
  | 0 => 0
  | n + 1 => gcf Q n + (if Q n = true then 1 else 0)
theorem gcf_le (Q : Nat → Bool) : ∀ n, gcf Q n ≤ n
  | 0 => Nat.le_refl _
  | n + 1 => by
    have := gcf_le Q n
    show gcf Q n + _ ≤ _
    split <;> omega
theorem gcf_cong {Q Q' : Nat → Bool} : ∀ {n : Nat}, (∀ k, k < n → Q k = Q' k) → gcf Q n = gcf Q' n
  | 0, _ => rfl
  | n + 1, h => by
    show gcf Q n + _ = gcf Q' n + _
    rw [gcf_cong (fun k hk => h k (by omega)), h n (by omega)]
theorem gcf_one {Q Q' : Nat → Bool} {c : Nat} (h0 : Q c = false) (h1 : Q' c = true) (ho : ∀ k, k ≠ c → Q k = Q' k) : ∀ {n : Nat}, c < n → gcf Q' n = gcf Q n + 1
  | 0, h => absurd h (Nat.not_lt_zero c)
  | n + 1, h => by
    show gcf Q' n + _ = gcf Q n + _ + 1
    by_cases z : c = n
    · subst z
      rw [h0, h1, gcf_cong (Q := Q') (Q' := Q) (fun k hk => (ho k (by omega)).symm)]
      simp
    · rw [gcf_one h0 h1 ho (show c < n by omega), ho n (Ne.symm z)]; omega
/-- is cell c a lazy array that has been made -/
def isG (M : Mem) (c : Nat) : Bool := decide (kd M c = 12) && decide (gI M c 2147483648 = 1)
def gC (M : Mem) : Nat := gcf (isG M) (nC M)
theorem gC_le (M : Mem) : gC M ≤ nC M := gcf_le _ _
/-- the fields of an object: numbers and references by their table -/
def fls (b : List Bool) (B : Nat → Nat) (f : Nat → Int32) (g : Nat → Option Nat) : List Value := (List.range b.length).map (fun k => if b.getD k false = true then .int (f k) else va_rf ((g k).map B))
def cellE (B : Nat → Nat) (ac : Nat → ClassId) (M : Mem) (c : Nat) : va_E :=
  if kd M c < 8 then .inr (kd M c, fls (fB (kd M c)) B (gI M c) (gR M c))
  else if kd M c < 10 then .inl (ac (kd M c), (ln M c, .inl (gI M c)))
  else if kd M c = 12 then .inl (ac 8, ((if gI M c 2147483648 = 1 then ln M c else 0), .inl (gI M c)))
  else .inl (ac (kd M c), (ln M c, .inr (.inr (.inr (.inr (fun j => (gR M c j).map B))))))
def wsM (B : Nat → Nat) (ac : Nat → ClassId) (M : Mem) : va_W := (List.range (nC M)).map (fun c => (B c, cellE B ac M c))
def AB (B : Nat) : Nat → Prop := fun q => B ≤ q
def tysA (ac : Nat → ClassId) : List (ClassId × FieldType) := [(ac 8, .int), (ac 9, .boolean), (ac 10, .object "HeapTower$Polynomial"), (ac 11, .array .int)]
theorem ws_get {B : Nat → Nat} {ac : Nat → ClassId} {M : Mem} {c : Nat} (h : c < nC M) : (wsM B ac M)[c]? = some (B c, cellE B ac M c) := by
  simp [wsM, h]
theorem ws_set {B : Nat → Nat} {ac : Nat → ClassId} {M M' : Mem} {c : Nat} {e : va_E} (h : c < nC M) (hn : nC M' = nC M) (he : cellE B ac M' c = e) (ho : ∀ d, d ≠ c → cellE B ac M' d = cellE B ac M d) : (wsM B ac M).set c (B c, e) = wsM B ac M' := by
  apply List.ext_getElem?
  intro i
  by_cases hi : i = c
  · subst hi
    rw [List.getElem?_set_self (by simp [wsM, h]), ws_get (by rw [hn]; exact h), he]
  · rw [List.getElem?_set_ne (Ne.symm hi)]
    by_cases hl : i < nC M
    · rw [ws_get hl, ws_get (by rw [hn]; exact hl), ho i hi]
    · simp [wsM, hn, hl]
/-- where the cells lie: all but lazy arrays behind B in their order; lazy ones apart from all -/
def Bij (B : Nat) (d : Nat → Nat) (M : Mem) : Prop := (∀ c, c < nC M → kd M c ≠ 12 → d c = B + c) ∧ ∀ c, c < nC M → kd M c = 12 → B ≤ d c ∧ ∀ c', c' < nC M → c' ≠ c → d c' ≠ d c
theorem Bij.ge {B : Nat} {d : Nat → Nat} {M : Mem} (h : Bij B d M) {c : Nat} (hc : c < nC M) : B ≤ d c := by
  by_cases z : kd M c = 12
  · exact (h.2 c hc z).1
  · rw [h.1 c hc z]; omega
theorem Bij.inj {B : Nat} {d : Nat → Nat} {M : Mem} (h : Bij B d M) {i j : Nat} (hi : i < nC M) (hj : j < nC M) (e : d i = d j) : i = j := by
  by_cases z : kd M i = 12
  · by_cases y : j = i
    · exact y.symm
    · exact absurd e.symm ((h.2 i hi z).2 j hj y)
  · by_cases z2 : kd M j = 12
    · by_cases y : i = j
      · exact y
      · exact absurd e ((h.2 j hj z2).2 i hi y)
    · rw [h.1 i hi z, h.1 j hj z2] at e; omega
theorem Bij.id {B : Nat} {d : Nat → Nat} (hd : ∀ c, d c = B + c) (M : Mem) : Bij B d M := ⟨fun c _ _ => hd c, fun c _ _ => ⟨by rw [hd]; omega, fun c' _ hne e => by rw [hd, hd] at e; omega⟩⟩
/-- how long the heap is, g: what lies there beside the cells; where the cells lie -/
def Sz (B : Nat) (d : Nat → Nat) (g : Nat) (M : Mem) (H : Heap) : Prop := H.size = B + nC M + g ∧ g ≤ gC M ∧ Bij B d M
theorem ws_D {B : Nat} {d : Nat → Nat} {M : Mem} (ac : Nat → ClassId) (hb : Bij B d M) : va_D (AB B) (wsM d ac M) := by
  have key : ∀ (i : Nat) (p : Nat × va_E), (wsM d ac M)[i]? = some p → i < nC M ∧ p.1 = d i := by
    intro i p h
    by_cases hl : i < nC M
    · rw [ws_get hl] at h; cases h; exact ⟨hl, rfl⟩
    · simp [wsM, hl] at h
  refine ⟨fun i j p q hi hj e => ?_, fun k q hk => ?_⟩
  · have h1 := key i p hi
    have h2 := key j q hj
    exact hb.inj h1.1 h2.1 (by rw [← h1.2, ← h2.2]; exact e)
  · show B ≤ q.1
    rw [(key k q hk).2]; exact hb.ge (key k q hk).1
theorem fls_len (b : List Bool) (B : Nat → Nat) (f : Nat → Int32) (g : Nat → Option Nat) : (fls b B f g).length = b.length := by simp [fls]
theorem fls_I {b : List Bool} {B : Nat → Nat} {k : Nat} {f : Nat → Int32} {g : Nat → Option Nat} (h : b[k]? = some true) : (fls b B f g)[k]? = some (.int (f k)) := by
  obtain ⟨hk, he⟩ := List.getElem?_eq_some_iff.mp h
  simp [fls, hk, he]
theorem fls_R {b : List Bool} {B : Nat → Nat} {k : Nat} {f : Nat → Int32} {g : Nat → Option Nat} (h : b[k]? = some false) : (fls b B f g)[k]? = some (va_rf ((g k).map B)) := by
  obtain ⟨hk, he⟩ := List.getElem?_eq_some_iff.mp h
  simp [fls, hk, he]
theorem fls_sI {b : List Bool} {B : Nat → Nat} {k : Nat} {f : Nat → Int32} {g : Nat → Option Nat} {v : Int32} (h : b[k]? = some true) : (fls b B f g).set k (.int v) = fls b B (upd f k v) g := by
  obtain ⟨hk, he⟩ := List.getElem?_eq_some_iff.mp h
  apply List.ext_getElem?
  intro i
  by_cases hi : i = k
  · subst hi
    rw [List.getElem?_set_self (by rw [fls_len]; exact hk), fls_I h]
    simp [upd]
  · rw [List.getElem?_set_ne (Ne.symm hi)]
    by_cases hl : i < b.length
    · simp [fls, hl, upd, hi]
    · simp [fls, hl]
theorem fls_sR {b : List Bool} {B : Nat → Nat} {k : Nat} {f : Nat → Int32} {g : Nat → Option Nat} {v : Option Nat} (h : b[k]? = some false) : (fls b B f g).set k (va_rf (v.map B)) = fls b B f (va_up g k v) := by
  obtain ⟨hk, he⟩ := List.getElem?_eq_some_iff.mp h
  apply List.ext_getElem?
  intro i
  by_cases hi : i = k
  · subst hi
    rw [List.getElem?_set_self (by rw [fls_len]; exact hk), fls_R h]
    simp [va_up]
  · rw [List.getElem?_set_ne (Ne.symm hi)]
    by_cases hl : i < b.length
    · simp [fls, hl, va_up, hi]
    · simp [fls, hl]
theorem cE_o {B : Nat → Nat} {ac : Nat → ClassId} {M : Mem} {c k : Nat} (h : kd M c = k) (hk : k < 8) : cellE B ac M c = .inr (k, fls (fB k) B (gI M c) (gR M c)) := by
  subst h; simp [cellE, hk]
theorem cE_i {B : Nat → Nat} {ac : Nat → ClassId} {M : Mem} {c k : Nat} (h : kd M c = k) (h1 : 8 ≤ k) (h2 : k < 10) : cellE B ac M c = .inl (ac k, (ln M c, .inl (gI M c))) := by
  subst h; simp [cellE, Nat.not_lt.mpr h1, h2]
theorem cE_y {B : Nat → Nat} {ac : Nat → ClassId} {M : Mem} {c : Nat} (h : kd M c = 12) : cellE B ac M c = .inl (ac 8, ((if gI M c 2147483648 = 1 then ln M c else 0), .inl (gI M c))) := by
  unfold cellE; rw [h]; simp
theorem cE_r {B : Nat → Nat} {ac : Nat → ClassId} {M : Mem} {c k : Nat} (h : kd M c = k) (h1 : 10 ≤ k) (h12 : k ≠ 12) : cellE B ac M c = .inl (ac k, (ln M c, .inr (.inr (.inr (.inr (fun j => (gR M c j).map B)))))) := by
  subst h; simp [cellE, Nat.not_lt.mpr h1, Nat.not_lt.mpr (Nat.le_trans (by decide : 8 ≤ 10) h1), h12]
theorem kd_sI (M : Mem) (c k : Nat) (v : Int32) (d : Nat) : kd (sI M c k v) d = kd M d := rfl
theorem nC_sI (M : Mem) (c k : Nat) (v : Int32) : nC (sI M c k v) = nC M := rfl
theorem sI_ws {B : Nat → Nat} {ac : Nat → ClassId} {M : Mem} {c k : Nat} {v : Int32} {d : Nat} (h : d ≠ c) : cellE B ac (sI M c k v) d = cellE B ac M d := by
  have e : gI (sI M c k v) d = gI M d := by funext j; simp [gI, sI, h]
  simp only [cellE, kd_sI, e]; rfl
theorem sR_ws {B : Nat → Nat} {ac : Nat → ClassId} {M : Mem} {c k : Nat} {v : Option Nat} {d : Nat} (h : d ≠ c) : cellE B ac (sR M c k v) d = cellE B ac M d := by
  have e : gR (sR M c k v) d = gR M d := by funext j; simp [gR, sR, h]
  have e2 : kd (sR M c k v) d = kd M d := rfl
  simp only [cellE, e2, e]; rfl
theorem sA_ws {B : Nat → Nat} {ac : Nat → ClassId} {M : Mem} {c : Nat} {f : Nat → Int32} {d : Nat} (h : d ≠ c) : cellE B ac (sA M c f) d = cellE B ac M d := by
  have e : gI (sA M c f) d = gI M d := by funext j; simp [gI, sA, h]
  have e2 : kd (sA M c f) d = kd M d := rfl
  simp only [cellE, e2, e]; rfl
/-! what a method's start gives beside the memory -/
def nestW : List (String × Nat × String × String × String × String) := [("HeapTower$Products", 46, "HeapTower", "FIRST", "[I", "HeapTower"), ("HeapTower$Base", 126, "HeapTower$Products", "second", "[I", "HeapTower"), ("HeapTower$Base", 129, "HeapTower$Products", "third", "[I", "HeapTower"), ("HeapTower$Base", 124, "HeapTower$Numbers", "prime", "I", "HeapTower"), ("HeapTower$Polynomial", 31, "HeapTower", "FIRST", "[I", "HeapTower"), ("HeapTower$Base", 67, "HeapTower", "FIRST", "[I", "HeapTower")]
def fst : Nat → Int32 := fun k => match k with
  | 0 => 0
  | 1 => 1
  | 2 => 4
  | 3 => 10
  | 4 => 20
  | 5 => 35
  | 6 => 56
  | 7 => 84
  | 8 => 120
  | 9 => 165
  | 10 => 220
  | _ => 286
def fstV : Nat → Value := fun k => .int (fst k)
def vAOA (U : State) : Prop := (Cond.arrayOver (.array .int)).before #[] U = true
def EnvF (D : va_G) (B t : Nat) (ac : Nat → ClassId) (U : State) : Prop := va_K D hT_cl (tysA ac) U ∧ va_Z "HeapTower" "FIRST" "[I" (.ref t) (AB B) U U.heap ∧ va_T .int t 12 fstV (AB B) U U.heap ∧ B ≤ U.heap.size ∧ (∀ q ∈ nestW, va_Nw (.fieldLinkNest q.1 q.2.1 q.2.2.1 q.2.2.2.1 q.2.2.2.2.1 q.2.2.2.2.2) U) ∧ va_AO "HeapTower$Polynomial" U ∧ vAOA U
def PRE (D : va_G) (B : Nat) (d : Nat → Nat) (g : Nat) (t : Nat) (ac : Nat → ClassId) (M : Mem) (U : State) : Prop := Sz B d g M U.heap ∧ va_P D hT_cl (wsM d ac M) U.heap ∧ EnvF D B t ac U
def PST (D : va_G) (B : Nat) (d : Nat → Nat) (g : Nat) (ac : Nat → ClassId) (M : Mem) (t : State) : Prop := Sz B d g M t.heap ∧ va_P D hT_cl (wsM d ac M) t.heap
abbrev Ctx : Type := Program × Launch × Env × Room × State × MethodId × Array Value × List Frame × Method × Code × (State → Prop) × va_G × Nat × Nat × (Nat → ClassId) × (Nat → Nat) × Nat
abbrev xp (x : Ctx) : Program := x.1
abbrev xl (x : Ctx) : Launch := x.2.1
abbrev xe (x : Ctx) : Env := x.2.2.1
abbrev xR (x : Ctx) : Room := x.2.2.2.1
abbrev xs (x : Ctx) : State := x.2.2.2.2.1
abbrev xm (x : Ctx) : MethodId := x.2.2.2.2.2.1
abbrev xa (x : Ctx) : Array Value := x.2.2.2.2.2.2.1
abbrev xb (x : Ctx) : List Frame := x.2.2.2.2.2.2.2.1
abbrev xh (x : Ctx) : Method := x.2.2.2.2.2.2.2.2.1
abbrev xc (x : Ctx) : Code := x.2.2.2.2.2.2.2.2.2.1
abbrev xQ (x : Ctx) : State → Prop := x.2.2.2.2.2.2.2.2.2.2.1
abbrev xD (x : Ctx) : va_G := x.2.2.2.2.2.2.2.2.2.2.2.1
abbrev xB (x : Ctx) : Nat := x.2.2.2.2.2.2.2.2.2.2.2.2.1
abbrev xt (x : Ctx) : Nat := x.2.2.2.2.2.2.2.2.2.2.2.2.2.1
abbrev xA (x : Ctx) : Nat → ClassId := x.2.2.2.2.2.2.2.2.2.2.2.2.2.2.1
abbrev xd (x : Ctx) : Nat → Nat := x.2.2.2.2.2.2.2.2.2.2.2.2.2.2.2.1
abbrev xg (x : Ctx) : Nat := x.2.2.2.2.2.2.2.2.2.2.2.2.2.2.2.2
/-- the same, but where lazy arrays lie -/
abbrev wd (x : Ctx) (d : Nat → Nat) (g : Nat) : Ctx := (xp x, xl x, xe x, xR x, xs x, xm x, xa x, xb x, xh x, xc x, xQ x, xD x, xB x, xt x, xA x, d, g)
abbrev Wx (x : Ctx) (H : Heap) (locs : List Loc) (ce sl : Nat) (g : JFrame) : Prop := W (xp x) (xl x) (xe x) (xR x) (xs x) (xm x) (xa x) (xb x) (xh x) (xc x) H locs ce sl (xQ x) g
def J (x : Ctx) (nL pc : Nat) (lv : List (Nat × Value)) (st : List Value) (ce sl : Nat) (M : Mem) : Prop :=
  ∀ (H : Heap) (locs : List Loc) (ls : Array Slot), va_P (xD x) hT_cl (wsM (xd x) (xA x) M) H → Sz (xB x) (xd x) (xg x) M H → va_S (AB (xB x)) (xs x).heap H locs → lv_has ls nL lv → Wx x H locs ce sl (F0 (xm x) pc ls st)
def Ok (x : Ctx) (cc : ByteArray) (nL : Nat) (own : String) : Prop := (xp x).tables.exec = Jvm.exec ∧ (xc x).code = cc ∧ (xc x).maxLocals = nL ∧ (xs x).vm.findClass own = some (xm x).cls ∧ (∀ w ∈ gw, w.before (xa x) (xs x) = true) ∧ EnvF (xD x) (xB x) (xt x) (xA x) (xs x) ∧ (xh x).locks = false
/-- a constructor's world: no lazy array lies elsewhere yet -/
def Cnx (x : Ctx) : Prop := (∀ c, xd x c = xB x + c) ∧ xg x = 0
theorem gC_cong {M M' : Mem} (hn : nC M' = nC M) (h : ∀ c, c < nC M → isG M' c = isG M c) : gC M' = gC M := by
  unfold gC; rw [hn]; exact gcf_cong h
theorem isG_of {M M' : Mem} {c : Nat} (h1 : kd M' c = kd M c) (h2 : kd M c = 12 → gI M' c 2147483648 = gI M c 2147483648) : isG M' c = isG M c := by
  unfold isG
  rw [h1]
  by_cases z : kd M c = 12
  · rw [h2 z]
  · simp [z]
/-- a store into what is no lazy array -/
theorem Sz.keep {B : Nat} {d : Nat → Nat} {g : Nat} {M M' : Mem} {H H' : Heap} (h : Sz B d g M H) (hz : H'.size = H.size) (h1 : M'.1 = M.1) (hn : nC M' = nC M) (hf : ∀ c, c < nC M → kd M c = 12 → gI M' c 2147483648 = gI M c 2147483648) : Sz B d g M' H' := by
  have hk : ∀ c, kd M' c = kd M c := fun c => by unfold kd; rw [h1]
  refine ⟨by rw [hz, hn]; exact h.1, ?_, ?_⟩
  · rw [gC_cong hn (fun c hc => isG_of (hk c) (hf c hc))]; exact h.2.1
  · unfold Bij
    rw [hn]
    exact ⟨fun c hc hk2 => h.2.2.1 c hc (by rw [← hk]; exact hk2), fun c hc hk2 => h.2.2.2 c hc (by rw [← hk]; exact hk2)⟩
