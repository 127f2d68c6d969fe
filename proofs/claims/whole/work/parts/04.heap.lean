/-- a field of class ci, its number k, as the class own names it at idx: b: an int, fin: final -/
def Fld (own : String) (idx ci k : Nat) (b fin : Bool) : Prop := ∃ (Cn : String) (T : u_T) (N : Nat) (ty0 : Nat → FieldType), (∀ w ∈ u_ws Cn T N, w ∈ gw) ∧ hT_cl[ci]? = some (Cn, T, N) ∧ k < N ∧ (fB ci)[k]? = some b ∧ (fB ci).length = N ∧ ci < 8 ∧ (T k).1 = Cn ∧ Cond.fieldLink own idx Cn (T k).2.1 (T k).2.2.1 ∈ gw ∧ (∀ k, k < N → parseFieldDescriptor (T k).2.2.1 = some (ty0 k)) ∧ (∀ a, a < N → ∀ b, b < N → a ≠ b → (T a).2.1 ≠ (T b).2.1) ∧ (T k).2.2.2 = fin ∧ (b = true → ty0 k = .int) ∧ (b = false → (∃ n, ty0 k = .object n) ∨ ∃ e, ty0 k = .array e)
/-- the same, of a nest mate -/
def FldN (own : String) (idx ci k : Nat) (b : Bool) : Prop := ∃ (Cn : String) (T : u_T) (N : Nat), (∀ w ∈ u_ws Cn T N, w ∈ gw) ∧ hT_cl[ci]? = some (Cn, T, N) ∧ k < N ∧ (fB ci)[k]? = some b ∧ ci < 8 ∧ (T k).1 = Cn ∧ (own, idx, Cn, (T k).2.1, (T k).2.2.1, "HeapTower") ∈ nestW
section HEAPR
variable {x : Ctx} {cc : ByteArray} {nL pc ce sl : Nat} {own : String} {lv lv' : List (Nat × Value)} {st : List Value} {M : Mem}
theorem J_getI (C : Ok x cc nL own) {idx ci k c : Nat} {fin : Bool} (F : Fld own idx ci k true fin) (d : decode cc pc = .ok (.getfield idx, 3)) (hM : isK M c ci) (kk : J x nL (pc + 3) lv (.int (gI M c k) :: st) ce sl M) : J x nL pc lv (.ref (xd x c) :: st) ce sl M := by
  intro H locs ls h1 h2 h3 h4
  obtain ⟨Cn, T, N, ty0, f1, f2, f3, f4, f5, f6, f7, f8, -⟩ := F
  have he := ws_get (B := xd x) (ac := xA x) hM.1
  rw [cE_o hM.2 f6] at he
  exact va_get C.1 C.2.1 C.2.2.2.2.1 f1 C.2.2.2.1 C.2.2.2.2.2.1.1 h1 c he f2 k f3 (C.2.2.2.2.1 _ f8) (fun _ h9 => by rw [f7] at h9; exact h9) (fls_I f4) d (kk H locs ls h1 h2 h3 h4)
theorem J_getR (C : Ok x cc nL own) {idx ci k c q : Nat} {fin : Bool} (F : Fld own idx ci k false fin) (d : decode cc pc = .ok (.getfield idx, 3)) (hM : isK M c ci) (hq : gR M c k = some q) (kk : J x nL (pc + 3) lv (.ref (xd x q) :: st) ce sl M) : J x nL pc lv (.ref (xd x c) :: st) ce sl M := by
  intro H locs ls h1 h2 h3 h4
  obtain ⟨Cn, T, N, ty0, f1, f2, f3, f4, f5, f6, f7, f8, -⟩ := F
  have he := ws_get (B := xd x) (ac := xA x) hM.1
  rw [cE_o hM.2 f6] at he
  exact va_get C.1 C.2.1 C.2.2.2.2.1 f1 C.2.2.2.1 C.2.2.2.2.2.1.1 h1 c he f2 k f3 (C.2.2.2.2.1 _ f8) (fun _ h9 => by rw [f7] at h9; exact h9) (v := .ref (xd x q)) (by rw [fls_R f4, hq]; rfl) d (kk H locs ls h1 h2 h3 h4)
theorem J_getIN (C : Ok x cc nL own) {idx ci k c : Nat} (F : FldN own idx ci k true) (d : decode cc pc = .ok (.getfield idx, 3)) (hM : isK M c ci) (kk : J x nL (pc + 3) lv (.int (gI M c k) :: st) ce sl M) : J x nL pc lv (.ref (xd x c) :: st) ce sl M := by
  intro H locs ls h1 h2 h3 h4
  obtain ⟨Cn, T, N, f1, f2, f3, f4, f6, f7, f8⟩ := F
  have he := ws_get (B := xd x) (ac := xA x) hM.1
  rw [cE_o hM.2 f6] at he
  have hn := C.2.2.2.2.2.1.2.2.2.2.1 _ f8
  exact va_getN C.1 C.2.1 C.2.2.2.2.1 f1 C.2.2.2.1 C.2.2.2.2.2.1.1 h1 c he f2 k f3 (va_Nw.use rfl hn) (fun _ h9 => by rw [f7] at h9; exact h9) (fls_I f4) d (kk H locs ls h1 h2 h3 h4)
theorem J_getRN (C : Ok x cc nL own) {idx ci k c q : Nat} (F : FldN own idx ci k false) (d : decode cc pc = .ok (.getfield idx, 3)) (hM : isK M c ci) (hq : gR M c k = some q) (kk : J x nL (pc + 3) lv (.ref (xd x q) :: st) ce sl M) : J x nL pc lv (.ref (xd x c) :: st) ce sl M := by
  intro H locs ls h1 h2 h3 h4
  obtain ⟨Cn, T, N, f1, f2, f3, f4, f6, f7, f8⟩ := F
  have he := ws_get (B := xd x) (ac := xA x) hM.1
  rw [cE_o hM.2 f6] at he
  have hn := C.2.2.2.2.2.1.2.2.2.2.1 _ f8
  exact va_getN C.1 C.2.1 C.2.2.2.2.1 f1 C.2.2.2.1 C.2.2.2.2.2.1.1 h1 c he f2 k f3 (va_Nw.use rfl hn) (fun _ h9 => by rw [f7] at h9; exact h9) (v := .ref (xd x q)) (by rw [fls_R f4, hq]; rfl) d (kk H locs ls h1 h2 h3 h4)
theorem gI_sI (M : Mem) (c k : Nat) (v : Int32) : gI (sI M c k v) c = upd (gI M c) k v := by
  funext j
  show (if c = c then upd (M.2.1 c) k v else M.2.1 c) j = upd (M.2.1 c) k v j
  rw [if_pos rfl]
theorem gR_sR (M : Mem) (c k : Nat) (v : Option Nat) : gR (sR M c k v) c = va_up (gR M c) k v := by
  funext j
  show (if c = c then va_up (M.2.2.1 c) k v else M.2.2.1 c) j = va_up (M.2.2.1 c) k v j
  rw [if_pos rfl]
theorem gI_sA (M : Mem) (c : Nat) (f : Nat → Int32) : gI (sA M c f) c = f := by
  funext j
  show (if c = c then f else M.2.1 c) j = f j
  rw [if_pos rfl]
theorem Fld.lt8 {own : String} {idx ci k : Nat} {b fin : Bool} (F : Fld own idx ci k b fin) : ci ≠ 12 := by
  obtain ⟨Cn, T, N, ty0, f1, f2, f3, f4, f5, f6, -⟩ := F
  omega
theorem sI_fl {M : Mem} {c k : Nat} {v : Int32} (hc : kd M c ≠ 12) {e : Nat} (he : kd M e = 12) : gI (sI M c k v) e 2147483648 = gI M e 2147483648 := by
  have hne : e ≠ c := fun z => hc (by rw [← z]; exact he)
  show (if e = c then _ else _ : Nat → Int32) _ = _
  rw [if_neg hne]; rfl
theorem sI_fl2 {M : Mem} {c k : Nat} {v : Int32} (hk : k < 2147483648) (e : Nat) : gI (sI M c k v) e 2147483648 = gI M e 2147483648 := by
  show (if e = c then upd (M.2.1 c) k v else M.2.1 e) 2147483648 = _
  by_cases z : e = c
  · subst z; rw [if_pos rfl]; unfold upd; rw [if_neg (by omega)]; rfl
  · rw [if_neg z]; rfl
theorem clamp_lt (i : Int32) : i.toNatClampNeg < 2147483648 := by
  have h1 := Int32.toInt_lt i
  show i.toInt.toNat < _
  omega
/-- a store into a field, the world behind it -/
theorem put_any (C : Ok x cc nL own) {idx ci k c : Nat} {b fin : Bool} {v : Value} {M' : Mem} (F : Fld own idx ci k b fin) (d : decode cc pc = .ok (.putfield idx, 3)) (hM : isK M c ci) (hfin : fin = false ∨ ((xh x).name = "<init>" ∧ ∃ Cn T N, hT_cl[ci]? = some (Cn, T, N) ∧ Cn = own)) (hv : ∀ ty : FieldType, (b = true → ty = .int) → (b = false → (∃ n, ty = .object n) ∨ ∃ e, ty = .array e) → narrow ty v = v ∧ fits ty v = true) (hn : nC M' = nC M) (hm1 : M'.1 = M.1) (hfl : ∀ c, kd M c = 12 → gI M' c 2147483648 = gI M c 2147483648) (hself : cellE (xd x) (xA x) M' c = .inr (ci, (fls (fB ci) (xd x) (gI M c) (gR M c)).set k v)) (ho : ∀ d, d ≠ c → cellE (xd x) (xA x) M' d = cellE (xd x) (xA x) M d) (kk : J x nL (pc + 3) lv st ce sl M') : J x nL pc lv (v :: .ref (xd x c) :: st) ce sl M := by
  intro H locs ls h1 h2 h3 h4
  obtain ⟨Cn, T, N, ty0, f1, f2, f3, f4, f5, f6, f7, f8, f9, f10, f11, f12, f13⟩ := F
  have he := ws_get (B := xd x) (ac := xA x) hM.1
  rw [cE_o hM.2 f6] at he
  have hts := C.2.2.2.2.1
  have hK := C.2.2.2.2.2.1.1
  obtain ⟨hnar, hfit⟩ := hv (ty0 k) f12 f13
  have hap := va_apart (own := own) hts f1 ty0 f9 f10 hK f2
  obtain ⟨r, q0, cell, q1, q2, q3, q4⟩ := h1 c _ he
  have hr : r = (Cn, T, N) := Option.some.inj (q0.symm.trans f2)
  subst hr
  obtain ⟨hS, hfc, kC, hkC, hkind⟩ := hK.1 ci _ f2
  obtain ⟨cf, kf, fi, f, hi, hsl⟩ := hS k f3
  have hlay := hts _ (f1 _ (u_in_lay f3))
  have hst := (u_facts hfc hkC (u_lays hts f1 f3) hi).1
  have hl : k < (fls (fB ci) (xd x) (gI M c) (gR M c)).length := by rw [fls_len, f5]; exact f3
  have fin_ : ∀ H' : Heap, H'[xd x c]? = some (cell.setSlot f.slot v) → H'.size = H.size → (∀ q, q ≠ xd x c → H'[q]? = H[q]?) → Wx x H' (locs ++ [⟨xd x c, f.slot⟩]) ce sl (F0 (xm x) (pc + 3) ls st) := by
    intro H' e1 e2 e3
    rw [hsl] at e1 ⊢
    refine kk H' _ ls ?_ (h2.keep e2 hm1 hn (fun c _ => hfl c)) (h3.put e2 e3 (h2.2.2.ge hM.1)) h4
    have hP := h1.set (ws_D (xA x) h2.2.2) he (e := .inr (ci, (fls (fB ci) (xd x) (gI M c) (gR M c)).set k v)) ⟨_, f2, t_OB.to (V := updV (vp_V _) k v) ⟨_, e1, q2, q3, t_set q4 hap f3 v⟩ (fun j _ => vp_updV_set hl v j)⟩ e3
    rw [ws_set hM.1 hn hself ho] at hP
    exact hP
  unfold u_lay at hlay
  by_cases hf : (T k).2.2.2 = true
  · rw [if_pos hf] at hlay
    rcases hfin with hfin | ⟨hnm, Cn2, T2, N2, g1, g2⟩
    · rw [← f11, hf] at hfin; cases hfin
    · rw [f2] at g1
      cases g1
      have hcf : (xm x).cls = cf := by
        obtain ⟨w1, w2, cx, w3, w4, w5, y1, y2, found, y3, y4, y5, named, y6⟩ := Cond.laysFinal_spec hlay
        have same : cf = cx := (Prod.mk.inj (Option.some.inj (hi.symm.trans found))).1
        have nm : (xs x).vm.findClass own = some cx := by rw [← g2, ← f7]; exact named
        exact (Option.some.inj (C.2.2.2.1.symm.trans nm)).trans same.symm
      have h6 := u_fits hfc hkC hkind (Or.inr hlay) hi (f9 k f3) hnar hfit
      exact W.putFinK C.1 C.2.1 C.2.2.2.1 (hts _ f8) (show (xs x).fieldFound? Cn (T k).2.1 (T k).2.2.1 = _ by rw [← f7]; exact hi) hst hcf hnm (by rw [q2]; exact h6) q1 q3 (by rw [hsl]; exact k2_hasslot (q4 k f3)) rfl rfl d fin_
  · rw [if_neg hf] at hlay
    have h6 := u_store hfc hkC hkind hlay hi (f9 k f3) hnar hfit
    exact W.putK C.1 C.2.1 (f := f) ⟨C.2.2.2.1, hts _ f8, ⟨_, _, _, (show (xs x).fieldFound? Cn (T k).2.1 (T k).2.2.1 = _ by rw [← f7]; exact hi)⟩, hst⟩ (by rw [q2]; exact h6) q1 q3 (by rw [hsl]; exact k2_hasslot (q4 k f3)) rfl rfl d fin_
theorem J_putI (C : Ok x cc nL own) {idx ci k c : Nat} {v : Int32} (F : Fld own idx ci k true false) (d : decode cc pc = .ok (.putfield idx, 3)) (hM : isK M c ci) (kk : J x nL (pc + 3) lv st ce sl (sI M c k v)) : J x nL pc lv (.int v :: .ref (xd x c) :: st) ce sl M := by
  refine put_any (M' := sI M c k v) C F d hM (Or.inl rfl) (fun ty h _ => by rw [h rfl]; exact ⟨rfl, rfl⟩) rfl rfl (fun e he => sI_fl (by rw [hM.2]; exact F.lt8) he) ?_ (fun d hd => sI_ws hd) kk
  obtain ⟨Cn, T, N, ty0, f1, f2, f3, f4, f5, f6, -⟩ := F
  rw [cE_o (show kd (sI M c k v) c = ci from hM.2) f6, fls_sI f4, gI_sI]; rfl
theorem put_fit {q : Nat} (ty : FieldType) (h : (∃ n, ty = .object n) ∨ ∃ e, ty = .array e) : narrow ty (.ref q) = .ref q ∧ fits ty (.ref q) = true := by
  rcases h with ⟨n, rfl⟩ | ⟨e, rfl⟩ <;> exact ⟨rfl, rfl⟩
theorem J_putR (C : Ok x cc nL own) {idx ci k c q : Nat} (F : Fld own idx ci k false false) (d : decode cc pc = .ok (.putfield idx, 3)) (hM : isK M c ci) (kk : J x nL (pc + 3) lv st ce sl (sR M c k (some q))) : J x nL pc lv (.ref (xd x q) :: .ref (xd x c) :: st) ce sl M := by
  refine put_any (M' := sR M c k (some q)) C F d hM (Or.inl rfl) (fun ty _ h => put_fit ty (h rfl)) rfl rfl (fun _ _ => rfl) ?_ (fun d hd => sR_ws hd) kk
  obtain ⟨Cn, T, N, ty0, f1, f2, f3, f4, f5, f6, -⟩ := F
  have e : (fls (fB ci) (xd x) (gI M c) (gR M c)).set k (.ref (xd x q)) = fls (fB ci) (xd x) (gI M c) (va_up (gR M c) k (some q)) := fls_sR (v := some q) f4
  rw [cE_o (show kd (sR M c k (some q)) c = ci from hM.2) f6, e, gR_sR]; rfl
theorem J_putRF (C : Ok x cc nL own) {idx ci k c q : Nat} (F : Fld own idx ci k false true) (hnm : (xh x).name = "<init>") (hcl : ∃ Cn T N, hT_cl[ci]? = some (Cn, T, N) ∧ Cn = own) (d : decode cc pc = .ok (.putfield idx, 3)) (hM : isK M c ci) (kk : J x nL (pc + 3) lv st ce sl (sR M c k (some q))) : J x nL pc lv (.ref (xd x q) :: .ref (xd x c) :: st) ce sl M := by
  refine put_any (M' := sR M c k (some q)) C F d hM (Or.inr ⟨hnm, hcl⟩) (fun ty _ h => put_fit ty (h rfl)) rfl rfl (fun _ _ => rfl) ?_ (fun d hd => sR_ws hd) kk
  obtain ⟨Cn, T, N, ty0, f1, f2, f3, f4, f5, f6, -⟩ := F
  have e : (fls (fB ci) (xd x) (gI M c) (gR M c)).set k (.ref (xd x q)) = fls (fB ci) (xd x) (gI M c) (va_up (gR M c) k (some q)) := fls_sR (v := some q) f4
  rw [cE_o (show kd (sR M c k (some q)) c = ci from hM.2) f6, e, gR_sR]; rfl
theorem J_iald (C : Ok x cc nL own) {c : Nat} {i : Int32} (d : decode cc pc = .ok (.iaload, 1)) (hM : isA M c 8 i) (kk : J x nL (pc + 1) lv (.int (gI M c i.toNatClampNeg) :: st) ce sl M) : J x nL pc lv (.int i :: .ref (xd x c) :: st) ce sl M := by
  intro H locs ls h1 h2 h3 h4
  have he := ws_get (B := xd x) (ac := xA x) hM.1.1
  rw [cE_i hM.1.2 (by decide) (by decide)] at he
  exact va_iald C.1 C.2.1 C.2.2.2.2.2.1.1 h1 c 0 he rfl hM.2 d (kk H locs ls h1 h2 h3 h4)
theorem J_zald (C : Ok x cc nL own) {c : Nat} {i : Int32} (d : decode cc pc = .ok (.baload, 1)) (hM : isA M c 9 i) (kk : J x nL (pc + 1) lv (.int (gI M c i.toNatClampNeg) :: st) ce sl M) : J x nL pc lv (.int i :: .ref (xd x c) :: st) ce sl M := by
  intro H locs ls h1 h2 h3 h4
  have he := ws_get (B := xd x) (ac := xA x) hM.1.1
  rw [cE_i hM.1.2 (by decide) (by decide)] at he
  exact va_zald C.1 C.2.1 C.2.2.2.2.2.1.1 h1 c 1 he rfl hM.2 d (kk H locs ls h1 h2 h3 h4)
theorem J_aaldP (C : Ok x cc nL own) {c q : Nat} {i : Int32} (d : decode cc pc = .ok (.aaload, 1)) (hM : isA M c 10 i) (hq : gR M c i.toNatClampNeg = some q) (kk : J x nL (pc + 1) lv (.ref (xd x q) :: st) ce sl M) : J x nL pc lv (.int i :: .ref (xd x c) :: st) ce sl M := by
  intro H locs ls h1 h2 h3 h4
  have he := ws_get (B := xd x) (ac := xA x) hM.1.1
  rw [cE_r hM.1.2 (by decide) (by decide)] at he
  refine va_aldq C.1 C.2.1 C.2.2.2.2.2.1.1 h1 c 2 he rfl hM.2 d ?_
  rw [hq]
  exact kk H locs ls h1 h2 h3 h4
theorem J_aaldI (C : Ok x cc nL own) {c q : Nat} {i : Int32} (d : decode cc pc = .ok (.aaload, 1)) (hM : isA M c 11 i) (hq : gR M c i.toNatClampNeg = some q) (kk : J x nL (pc + 1) lv (.ref (xd x q) :: st) ce sl M) : J x nL pc lv (.int i :: .ref (xd x c) :: st) ce sl M := by
  intro H locs ls h1 h2 h3 h4
  have he := ws_get (B := xd x) (ac := xA x) hM.1.1
  rw [cE_r hM.1.2 (by decide) (by decide)] at he
  have hlt : i.toNatClampNeg < ln M c := Nat.not_le.mp fun q => hM.2 (Or.inr q)
  refine W.aald (v := .ref (xd x q)) (ty := .array .int) C.1 C.2.1 (h1 c _ he) ((C.2.2.2.2.2.1.1.2 3 _ rfl).1 (ln M c) (fun j => va_rf ((gR M c j).map (xd x)))) rfl (fun q => by cases q) (by show ¬ (i < 0 ∨ (arrV _ _ _).slots.size ≤ _); rw [arrV_size]; exact hM.2) (by show (arrV _ _ _).slots[_]? = _; rw [arrV_read _ _ hlt]; show some (va_rf ((gR M c i.toNatClampNeg).map _)) = _; rw [hq]; rfl) rfl rfl d (kk H locs ls h1 h2 h3 h4)
theorem J_alen (C : Ok x cc nL own) {c : Nat} (d : decode cc pc = .ok (.arraylength, 1)) (hM : isK M c 8) (kk : J x nL (pc + 1) lv (.int (nI (ln M c)) :: st) ce sl M) : J x nL pc lv (.ref (xd x c) :: st) ce sl M := by
  intro H locs ls h1 h2 h3 h4
  have he := ws_get (B := xd x) (ac := xA x) hM.1
  rw [cE_i hM.2 (by decide) (by decide)] at he
  exact va_alen C.1 C.2.1 C.2.2.2.2.2.1.1 h1 c 0 he rfl (v := nI (ln M c)) rfl d (kk H locs ls h1 h2 h3 h4)
theorem ast_any {c : Nat} {i y : Int32} {K : Nat} (h8 : 8 ≤ K) (h10 : K < 10) (hM : isA M c K i) {H H1 : Heap} {locs : List Loc} {ls : Array Slot} {j : Nat} (h1 : va_P (xD x) hT_cl (wsM (xd x) (xA x) M) H) (h2 : Sz (xB x) (xd x) (xg x) M H) (h3 : va_S (AB (xB x)) (xs x).heap H locs) (h4 : lv_has ls nL lv)
    (e : H1[xd x c]? = some ((arrV (xA x K) (ln M c) (fun j => .int (gI M c j))).setSlot i.toNatClampNeg (.int y))) (z : H1.size = H.size) (oq : ∀ q : Nat, q ≠ xd x c → H1[q]? = H[q]?) (kk : J x nL pc lv st ce sl (sI M c i.toNatClampNeg y)) : Wx x H1 (locs ++ [⟨xd x c, j⟩]) ce sl (F0 (xm x) pc ls st) := by
  have he := ws_get (B := xd x) (ac := xA x) hM.1.1
  rw [cE_i hM.1.2 h8 h10] at he
  refine kk H1 _ ls ?_ (h2.keep (M' := sI M c i.toNatClampNeg y) z rfl rfl (fun e _ _ => sI_fl2 (clamp_lt i) e)) (h3.put z oq (h2.2.2.ge hM.1.1)) h4
  have hP := h1.set (ws_D (xA x) h2.2.2) he (e := .inl (xA x K, (ln M c, .inl (upd (gI M c) i.toNatClampNeg y)))) ?_ oq
  · rw [ws_set hM.1.1 (M' := sI M c i.toNatClampNeg y) rfl ?_ (fun d hd => sI_ws hd)] at hP
    · exact hP
    · rw [cE_i (show kd (sI M c i.toNatClampNeg y) c = K from hM.1.2) h8 h10, gI_sI]; rfl
  · show H1[xd x c]? = some (vp_cell _ _)
    rw [e, vp_cell_i, arrV_store]
    congr 2
    funext q
    by_cases hq : q = i.toNatClampNeg
    · subst hq
      simp [updV, upd]
    · simp [updV, upd, hq]
theorem J_iast (C : Ok x cc nL own) {c : Nat} {i y : Int32} (d : decode cc pc = .ok (.iastore, 1)) (hM : isA M c 8 i) (kk : J x nL (pc + 1) lv st ce sl (sI M c i.toNatClampNeg y)) : J x nL pc lv (.int y :: .int i :: .ref (xd x c) :: st) ce sl M := by
  intro H locs ls h1 h2 h3 h4
  have he := ws_get (B := xd x) (ac := xA x) hM.1.1
  rw [cE_i hM.1.2 (by decide) (by decide)] at he
  exact W.iast C.1 C.2.1 (h1 c _ he) ((C.2.2.2.2.2.1.1.2 0 _ rfl).1 (ln M c) (fun j => .int (gI M c j))) (fun q => by cases q) (by show ¬ (i < 0 ∨ (arrV _ _ _).slots.size ≤ _); rw [arrV_size]; exact hM.2) rfl rfl d fun H1 e z oq => ast_any (by decide) (by decide) hM h1 h2 h3 h4 e z oq kk
theorem cE_z {B : Nat → Nat} {ac : Nat → ClassId} {M : Mem} {c : Nat} {i : Int32} (h : isZ M c i) : cellE B ac M c = .inl (ac 8, (ln M c, .inl (gI M c))) := by
  rw [cE_y h.1.2, if_pos h.2.1]
theorem J_yald (C : Ok x cc nL own) {c : Nat} {i : Int32} (d : decode cc pc = .ok (.iaload, 1)) (hM : isZ M c i) (kk : J x nL (pc + 1) lv (.int (gI M c i.toNatClampNeg) :: st) ce sl M) : J x nL pc lv (.int i :: .ref (xd x c) :: st) ce sl M := by
  intro H locs ls h1 h2 h3 h4
  have he := ws_get (B := xd x) (ac := xA x) hM.1.1
  rw [cE_z hM] at he
  exact va_iald C.1 C.2.1 C.2.2.2.2.2.1.1 h1 c 0 he rfl hM.2.2 d (kk H locs ls h1 h2 h3 h4)
theorem J_ylen (C : Ok x cc nL own) {c : Nat} (d : decode cc pc = .ok (.arraylength, 1)) (hM : isK M c 12) (kk : J x nL (pc + 1) lv (.int (nI (if gI M c 2147483648 = 1 then ln M c else 0)) :: st) ce sl M) : J x nL pc lv (.ref (xd x c) :: st) ce sl M := by
  intro H locs ls h1 h2 h3 h4
  have he := ws_get (B := xd x) (ac := xA x) hM.1
  rw [cE_y hM.2] at he
  exact va_alen C.1 C.2.1 C.2.2.2.2.2.1.1 h1 c 0 he rfl (v := nI (if gI M c 2147483648 = 1 then ln M c else 0)) rfl d (kk H locs ls h1 h2 h3 h4)
theorem J_yast (C : Ok x cc nL own) {c : Nat} {i y : Int32} (d : decode cc pc = .ok (.iastore, 1)) (hM : isZ M c i) (kk : J x nL (pc + 1) lv st ce sl (sI M c i.toNatClampNeg y)) : J x nL pc lv (.int y :: .int i :: .ref (xd x c) :: st) ce sl M := by
  intro H locs ls h1 h2 h3 h4
  have he := ws_get (B := xd x) (ac := xA x) hM.1.1
  rw [cE_z hM] at he
  refine W.iast C.1 C.2.1 (h1 c _ he) ((C.2.2.2.2.2.1.1.2 0 _ rfl).1 (ln M c) (fun j => .int (gI M c j))) (fun q => by cases q) (by show ¬ (i < 0 ∨ (arrV _ _ _).slots.size ≤ _); rw [arrV_size]; exact hM.2.2) rfl rfl d fun H1 e z oq => ?_
  refine kk H1 _ ls ?_ (h2.keep (M' := sI M c i.toNatClampNeg y) z rfl rfl (fun e _ _ => sI_fl2 (clamp_lt i) e)) (h3.put z oq (h2.2.2.ge hM.1.1)) h4
  have hZ' : isZ (sI M c i.toNatClampNeg y) c i := ⟨hM.1, by rw [sI_fl2 (clamp_lt i)]; exact hM.2.1, hM.2.2⟩
  have hP := h1.set (ws_D (xA x) h2.2.2) he (e := .inl (xA x 8, (ln M c, .inl (upd (gI M c) i.toNatClampNeg y)))) ?_ oq
  · rw [ws_set hM.1.1 (M' := sI M c i.toNatClampNeg y) rfl ?_ (fun d hd => sI_ws hd)] at hP
    · exact hP
    · rw [cE_z hZ', gI_sI]; rfl
  · show H1[xd x c]? = some (vp_cell _ _)
    rw [show H1[xd x c]? = some ((arrV (xA x 8) (ln M c) (fun j => .int (gI M c j))).setSlot i.toNatClampNeg (.int y)) from e, vp_cell_i, arrV_store]
    congr 2
    funext q
    by_cases hq : q = i.toNatClampNeg
    · subst hq
      simp [updV, upd]
    · simp [updV, upd, hq]
end HEAPR
