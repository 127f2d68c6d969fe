/-! THE LAW, from its entry -/
def M0 : Mem := (fun _ => (0, 0), fun _ _ => 0, fun _ _ => none, 0)
theorem nest_in : ∀ q ∈ nestW, Cond.fieldLinkNest q.1 q.2.1 q.2.2.1 q.2.2.2.1 q.2.2.2.2.1 q.2.2.2.2.2 ∈ lw_tbl := by
  have h : nestW.all (fun q => decide (Cond.fieldLinkNest q.1 q.2.1 q.2.2.1 q.2.2.2.1 q.2.2.2.2.1 q.2.2.2.2.2 ∈ lw_tbl)) = true := by decide +kernel
  intro q hq
  exact of_decide_eq_true (List.all_eq_true.mp h q hq)
theorem pure_law (L : Nat) (sc : Nat → Int32) (hL : L ≤ 2560) : T_La_law L sc M0 (fun v _ => v = 1) := by
  have s0 : SI M0 0 (fun _ _ => none) (fun _ _ => 0) := ⟨rfl, fun c hc => absurd hc (Nat.not_lt_zero c), fun c _ => ⟨rfl, rfl⟩⟩
  show T_HT_new 0 (mk M0 6 0) (fun M4 => T_Mo_new (nC M4) (mk M4 7 0) (fun M12 => Lz0 M12 ∧ ∃ n, L_La_law_18 L sc (fun v _ => v = 1) n 0 (nC M4) 0 (lzf M12)))
  refine s_HT (s0.m1 (by decide +kernel)) (fun M4 ρ4 En hz hPr hNu s4 u4 hT => ?_)
  show T_Mo_new (nC M4) (mk M4 7 0) (fun M12 => Lz0 M12 ∧ ∃ n, L_La_law_18 L sc (fun v _ => v = 1) n 0 (nC M4) 0 (lzf M12))
  rw [s4.1]
  refine s_Mo (s4.m1 (by decide +kernel)) ((s4.2.2 199 (Nat.le_refl _)).1) (fun M5 ρ5 s5 hρ u5 hMd => ?_)
  have lz := SI_lz s4 s5 hρ (u5 u4)
  have li := s_LI s5 hz hPr hNu (hT _ lz) (Md_lz hMd)
  exact ⟨li.2, _, law_loop hL (fun _ => rfl) 512 0 (by omega) (by omega) (lzf M5) false M5.2.1 li.1⟩
theorem fst_elem {args : Array Value} {s : State} (h : ∀ w ∈ flatC (Jvm.Cond.and given_1 narrow_1), w.before args s = true) : ∀ j : Nat, j < 12 → (Term.elem (.static "HeapTower" "FIRST" "[I") (.int (Int32.ofNat j))).eval args s none [] s = some (fstV j) := by
  intro j hj
  rcases (show j = 0 ∨ j = 1 ∨ j = 2 ∨ j = 3 ∨ j = 4 ∨ j = 5 ∨ j = 6 ∨ j = 7 ∨ j = 8 ∨ j = 9 ∨ j = 10 ∨ j = 11 by omega) with rfl | rfl | rfl | rfl | rfl | rfl | rfl | rfl | rfl | rfl | rfl | rfl
  all_goals exact va_eqt (h _ (by decide +kernel))
theorem arr_known {args : Array Value} {s : State} {ty : FieldType} (h : (Cond.arrayClass ty).before args s = true) : ∃ cA : ClassId, ArrOfT s cA ty ∧ s.vm.findClass ("[" ++ ty.toString) = some cA := by
  obtain ⟨cA, kA, comp, h1, h2, h3⟩ := Cond.arrayClass_spec h
  exact ⟨cA, fun n z => ⟨fun k h => (by cases h), kA, h2, comp, h3⟩, h1⟩
theorem arr2_known {s : State} (h : vAOA s) : ∃ cA : ClassId, ArrOfT s cA (.array .int) ∧ s.vm.findClass ("[" ++ (FieldType.array .int).toString) = some cA := by
  obtain ⟨cB, cA, kA, -, -, inA, kindA, nA⟩ := arrayOverA_spec (args := #[]) h
  exact ⟨cA, fun n z => ⟨fun k h => (by cases h), kA, inA, cB, kindA⟩, nA⟩
set_option maxHeartbeats 4000000 in
set_option maxRecDepth 100000 in
theorem whole_start {p : Program} {e : Env} {s : State} {m : MethodId} {below : List Frame} {meth : Method} {c : Code} (l : Launch) {b L : Nat} {xs : Nat → Int32} (hL : L ≤ 2560) (C0 : lw_At p s m meth c b L xs) : W p l e room_1 s m #[Value.ref b] below meth c s.heap [] 0 0 (lw_Z below #[Value.ref b] s) (entryFrame m ([Value.ref b] : List Value).toArray 4) := by
  obtain ⟨hx, hb, hr, hml, hown, hts, hX, hbl, hlocks, hgv⟩ := id C0
  have hA : ∀ a : Nat, a < s.heap.size → ¬ AB s.heap.size a := fun a h q => Nat.lt_irrefl _ (Nat.lt_of_lt_of_le h q)
  have hg := fun w (hw : w ∈ gw) => hts w (gw_tbl w hw)
  have hfl := flat_of_before _ hgv
  obtain ⟨c0, i0, hk0⟩ := u_known (C := R_Ba) (T := F_Ba) (N := 13) (n := 13) hts i_Ba (hts (.instantiable R_Ba 13) (by decide +kernel))
  obtain ⟨c1, i1, hk1⟩ := u_known (C := R_He) (T := F_He) (N := 5) (n := 5) hts i_He (hts (.instantiable R_He 5) (by decide +kernel))
  obtain ⟨c2, i2, hk2⟩ := u_known (C := R_Nu) (T := F_Nu) (N := 2) (n := 2) hts i_Nu (hts (.instantiable R_Nu 2) (by decide +kernel))
  obtain ⟨c3, i3, hk3⟩ := u_known (C := R_Po) (T := F_Po) (N := 2) (n := 2) hts i_Po (hts (.instantiable R_Po 2) (by decide +kernel))
  obtain ⟨c4, i4, hk4⟩ := u_known (C := R_Pr) (T := F_Pr) (N := 6) (n := 6) hts i_Pr (hts (.instantiable R_Pr 6) (by decide +kernel))
  obtain ⟨c5, i5, hk5⟩ := u_known (C := R_Ro) (T := F_Ro) (N := 8) (n := 8) hts i_Ro (hts (.instantiable R_Ro 8) (by decide +kernel))
  obtain ⟨c6, i6, hk6⟩ := u_known (C := R_HT) (T := F_HT) (N := 12) (n := 12) hts i_HT (hts (.instantiable R_HT 12) (by decide +kernel))
  obtain ⟨c7, i7, hk7⟩ := u_known (C := R_Mo) (T := F_Mo) (N := 18) (n := 18) hts i_Mo (hts (.instantiable R_Mo 18) (by decide +kernel))
  obtain ⟨aI, aI1, aI2⟩ := arr_known (ty := .int) (hts _ (by decide +kernel))
  obtain ⟨aZ, aZ1, aZ2⟩ := arr_known (ty := .boolean) (hts _ (by decide +kernel))
  have hAO : va_AO "HeapTower$Polynomial" s := va_AO.of (hts _ (by decide +kernel))
  have hAOA : vAOA s := by
    have h := hts (Cond.arrayOver (.array .int)) (by decide +kernel)
    exact h
  obtain ⟨aQ, aQ1, aQ2⟩ := arr2_known hAOA
  obtain ⟨comp, aP, kP, p1, p2, p3, p4, p5⟩ := Cond.arrayOver_spec hAO
  obtain ⟨t, hst, hT⟩ := va_Tof (N := 12) (f := fstV) (A := AB s.heap.size) (by decide) (hfl (.arrayOf (.static "HeapTower" "FIRST" "[I") .int) (by decide +kernel)) (va_eqt (hfl _ (by decide +kernel))) (fst_elem hfl) hA
  have hZ : va_Z "HeapTower" "FIRST" "[I" (.ref t) (AB s.heap.size) s s.heap := va_Zof (hts (.laysStatic "HeapTower" "FIRST" "[I") (by decide +kernel)) (hts (.initialized "HeapTower") (by decide +kernel)) hst hA
  let D : va_G := (fun k => match k with
    | 0 => c0
    | 1 => c1
    | 2 => c2
    | 3 => c3
    | 4 => c4
    | 5 => c5
    | 6 => c6
    | _ => c7
    , fun k => match k with
    | 0 => i0
    | 1 => i1
    | 2 => i2
    | 3 => i3
    | 4 => i4
    | 5 => i5
    | 6 => i6
    | _ => i7
    )
  let ac : Nat → ClassId := fun k => if k = 8 then aI else if k = 9 then aZ else if k = 10 then aP else aQ
  have hK : va_K D hT_cl (tysA ac) s := by
    refine ⟨fun k q hq => ?_, fun k q hq => ?_⟩
    · match k, hq with
      | 0, hq => cases hq; exact hk0
      | 1, hq => cases hq; exact hk1
      | 2, hq => cases hq; exact hk2
      | 3, hq => cases hq; exact hk3
      | 4, hq => cases hq; exact hk4
      | 5, hq => cases hq; exact hk5
      | 6, hq => cases hq; exact hk6
      | 7, hq => cases hq; exact hk7
      | k + 8, hq => simp [hT_cl] at hq
    · match k, hq with
      | 0, hq => cases hq; exact ⟨aI1, aI2⟩
      | 1, hq => cases hq; exact ⟨aZ1, aZ2⟩
      | 2, hq => cases hq; exact ⟨fun n z => ⟨fun k h => (by cases h), kP, p3, comp, p4⟩, kP, comp, p3, p4, p1, p5⟩
      | 3, hq => cases hq; exact ⟨aQ1, aQ2⟩
      | k + 4, hq => simp [tysA] at hq
  have hE : EnvF D s.heap.size t ac s := ⟨hK, hZ, hT, Nat.le_refl _, fun q hq => va_Nw.of rfl (hts _ (nest_in q hq)), hAO, hAOA⟩
  have hJ : J (p, l, e, room_1, s, m, #[Value.ref b], below, meth, c, lw_Z below #[Value.ref b] s, D, s.heap.size, t, ac, fun c => s.heap.size + c, 0) 4 0 [(0, .ref b)] [] 0 0 M0 := S_La_law (L := L) (sc := xs) (post := fun v _ => v = 1) ⟨hx, hb, hml, hown, hg, hE, hlocks⟩ rfl ⟨fun _ => rfl, rfl⟩ ⟨hX, hbl, hA b hbl⟩ ⟨hr, rfl, rfl, rfl, rfl, fun v _ h => h⟩ M0 (pure_law L xs hL)
  have hl := lv_entry ([.ref b]) (n := 4) (Nat.le_of_ble_eq_true rfl)
  rw [lg_entry_eq]
  exact hJ _ _ _ (fun k q h => by simp [wsM, M0, nC] at h) ⟨rfl, Nat.zero_le _, Bij.id (fun _ => rfl) _⟩ va_S.rf hl
-- ===== YOUR PART ENDS =====
set_option maxHeartbeats 4000000 in
theorem lw_walk (l : Launch) (b : Addr) (xs : List Int32) : MetFree l x (headSpec (Jvm.Cond.code x code maxLocals ret :: tables_1) room_1) (lw_P b xs) (fun _ _ _ _ _ => True) lw_Q := by
  refine MetFree.of_bodyS (code := code) (maxLocals := maxLocals) (ret := ret) (by decide) ?_ ?_
  · intro args s m h hn
    obtain ⟨meth, c, h1, h2, h3, h4, h5, h6, -, -⟩ := Cond.code_spec hn (atoms_spec (ws := Jvm.Cond.code x code maxLocals ret :: tables_1) h _ List.mem_cons_self)
    exact ⟨meth, c, h1, h2, h3, h4, h5, h6⟩
  · intro p e s m args below meth c s₁ B hml0 hP _
    obtain ⟨rfl, hx, hbd, hgv⟩ := hP
    obtain ⟨scr, harrAt, hlist, hof, hsmall⟩ := hx
    obtain ⟨hcb, hkn, -, -⟩ := State.arrayAt?_spec harrAt
    have hown : s.vm.findClass R_law = some m.cls := findClass_of_methodNamed B.named
    have hts0 : ∀ c ∈ (Jvm.Cond.code x code maxLocals ret :: tables_1), c.before #[Value.ref b] s = true := atoms_spec (ws := Jvm.Cond.code x code maxLocals ret :: tables_1) B.pre
    have hts : ∀ w ∈ lw_tbl, w.before #[Value.ref b] s = true := k2_hts_sels lw_privs (fun w hw => hts0 w (List.mem_cons_of_mem _ hw)) lw_privs_ok
    have hml : c.maxLocals = 4 := B.maxLocals_eq (hts0 _ List.mem_cons_self)
    have X₀ : Stand p l e room_1 s m #[Value.ref b] below meth c s₁ [] 0 0 := Stand.of_body B
    have hh0 : s₁.heap = s.heap := by rw [B.state]; rfl
    have hsz : scr.slots.size = xs.length := by rw [← Array.length_toList, hlist, List.length_map]
    have hval : ∀ j : Nat, j < xs.length → scr.slots[j]? = some (.int (xs.getD j 0)) := fun j hj => by
      rw [← Array.getElem?_toList, hlist]
      simp [hj]
    have hbl : b < s.heap.size := (Array.getElem?_eq_some_iff.mp hcb).1
    have hX : va_X b xs.length (fun j => xs.getD j 0) s s.heap := ⟨scr, hcb, hof, hkn, hsz, hval⟩
    have K : W p l e room_1 s m #[Value.ref b] below meth c s₁.heap [] 0 0 (lw_Z below #[Value.ref b] s) (entryFrame m ([Value.ref b] : List Value).toArray 4) := by
      rw [hh0]
      exact whole_start l hbd ⟨B.exec, B.bytes, B.returns, hml, hown, hts, hX, hbl, B.notSynchronized, hgv⟩
    obtain ⟨t, a1, o, b1, b2, b3⟩ := K s₁ rfl X₀
    exact ⟨t, o, a1, b1, b2, b3⟩
theorem lw_pre_spec {args : Array Value} {s : State} (h : (Jvm.Cond.and given_1 narrow_1).before args s = true) (hr : rest_1_c.before args s = true) : ∃ (b : Addr) (xs : List Int32), lw_P b xs args s := by
  have hs := flat_of_before _ h
  have hq := flat_of_before _ hr
  have hc : (Cond.count 1).before args s = true := hs _ (by decide +kernel)
  have harr : (Cond.arrayOf (.arg 0) .int).before args s = true := hs _ (by decide +kernel)
  have hle : (Cond.le (.length (.arg 0)) (.int 2560)).before args s = true := hs _ (by decide +kernel)
  have hlen : (Cond.isInt (.length (.arg 0))).before args s = true := hq _ (by decide +kernel)
  have hall : (Cond.all (.arg 0) (.isInt (.elem (.arg 0) (.index 0)))).before args s = true := hq _ (by decide +kernel)
  obtain ⟨b, xs, hb, hx⟩ := State.ints_of_pre rfl harr hlen hall
  have hsm : xs.length < 2 ^ 31 := hx.choose_spec.2.2.2
  have hev : (Term.length (.arg 0)).eval args s none [] s = some (.int xs.length.toInt32) := hx.length_eval hb
  have hv := Cond.le_ints hev (show (Term.int 2560).eval args s none [] s = some (.int 2560) from rfl)
  have hd : xs.length.toInt32 ≤ 2560 := by
    simpa [Cond.before, Cond.holds, hv] using hle
  have hN : xs.length ≤ 2560 := (Int32.ofNat_le_ofNat hsm (by decide)).mp (show Int32.ofNat xs.length ≤ Int32.ofNat 2560 from hd)
  exact ⟨b, xs, Cond.one_arg hc (show args[0]? = some (.ref b) from hb), hx, hN, h⟩
theorem lw_comes (l : Launch) : Comes l x (Jvm.Cond.code x code maxLocals ret :: tables_1) room_1 (fun tb e args s => Calls_1 tb e args s ∧ rest_1 tb e args s ∧ Pre_1 tb e args s)
    (fun _ _ args s o t => lw_Q args s o t) := by
  intro p e ha hc hk s m args below hf hfit hheap happ hpre
  obtain ⟨b, xs, hP⟩ := lw_pre_spec hpre.2.2 hpre.2.1
  obtain ⟨k, o, h1, h2, h3, hQ⟩ := lw_walk l b xs p e ha hc hk s m args below hf ((Spec.applies_iff_loose hf).mp happ).1 hP trivial
  exact ⟨k, o, h1, h2, h3, hQ⟩
theorem lw_frame {s t : State} {o : Outcome} {args : Array Value} (h : Framed s o t [] 600000 7302250) :
    Framed s o t (fieldLocs frame_1_writes args s ++ arrayLocs frame_1_arrays args s ++ staticLocs frame_1_statics s) 600000 7302250 := h
theorem lw_limb (L : Cond) (hL : ∀ (args : Array Value) (s t : State), L.after args s (.returned (some (.int 1))) t = true) :
    ArmFor flags0 classFile x code maxLocals ret World_1 tables_1 room_1 Calls_1 rest_1 Pre_1
      (fun tb e a s o t => postC L tb e a s o t ∧ Framed s o t (fieldLocs frame_1_writes a s ++ arrayLocs frame_1_arrays a s ++ staticLocs frame_1_statics s) 600000 7302250) := by
  intro l _ _ _ p e ha hc hk s m args below hf hfit hheap happ hpre
  obtain ⟨k, o, h1, h2, h3, rfl, hF⟩ := lw_comes l p e ha hc hk s m args below hf hfit hheap happ hpre
  exact ⟨k, _, h1, h2, h3, hL args s _, lw_frame hF⟩
theorem i_vc : Claimed_1_1 ∧ Claimed_1_2 := ⟨lw_limb limb_1_1 (fun args s t => by simp [limb_1_1, Cond.after, Cond.holds, Cond.value]), lw_limb limb_1_2 (fun args s t => Cond.after_iff.mpr (by
  first | (rw [show limb_1_2 = Cond.eq .result (.int 1) from rfl, Cond.eq_ints (x := 1) (y := 1) rfl rfl]; simp; done) | (simp [limb_1_2, Cond.value, Term.eval]; done)))⟩
