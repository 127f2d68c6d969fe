/-! HeapTower: order, told, row, drop, copy, claim, keep, swap -/
theorem fr_21 : ∀ d, d < 6 → fr (d + 1) - fr d ≤ 21 := by decide +kernel
theorem fr_66 : ∀ d, d < 11 → fr (d + 1) - fr d ≤ 66 := by decide +kernel
/-- one part alone -/
def oneP {p : Nat} [NeZero p] (d : Nat) (f : Mo2 → Fin p) : Nat → Mo2 → Fin p := fun e => if e = d then f else fun _ => 0
theorem oneP_hom {p : Nat} [NeZero p] {n d : Nat} {f : Mo2 → Fin p} (h : hom n d f) : ∀ e, e ≤ 10 → hom n e (oneP d f e) := fun e _ => by
  unfold oneP
  by_cases q : e = d
  · rw [if_pos q, q]; exact h
  · rw [if_neg q]; exact Dhom0
/-- a part set into a polynomial -/
theorem Rep_part {p : Nat} [NeZero p] {f g w : Nat → Int32} {F : Nat → Mo2 → Fin p} {u : Mo2 → Fin p} {d : Nat} (hd : d ≤ 10) (hF : Rep f F) (hu : RepV d w u) (h1 : ∀ q, q < fr (d + 1) - fr d → g (fr d + q) = w q) (h2 : ∀ j, j < fr d ∨ fr (d + 1) ≤ j → g j = f j) : Rep g (fun e m => if e = d then u m else F e m) := by
  intro e he m hm
  have hpe := pl_deg he hm
  by_cases q : e = d
  · subst q
    simp only [if_true]
    rw [h1 _ (by omega)]; exact hu m hm
  · simp only [if_neg q]
    rw [h2]
    · exact hF e he m hm
    · rcases Nat.lt_or_ge e d with z | z
      · have := fr_mono d (by omega) e z; omega
      · have := fr_mono e (by omega) d (by omega); omega
theorem oneP_eq {p : Nat} [NeZero p] (d : Nat) (f : Mo2 → Fin p) : (fun e m => if e = d then f m else (fun _ _ => (0 : Fin p)) e m) = oneP d f := by
  funext e m; unfold oneP; by_cases q : e = d
  · simp only [if_pos q]
  · simp only [if_neg q]
section HT4
variable {M : Mem} {I : Nat → Nat → Int32} {n ord p : Nat} {sw : Bool}
theorem op_order [NeZero p] {D : Nat → Mo2 → Fin p} {H O : Hp p} {C : Nat → Nat → Mo2 → Fin p} {x : Int32} {post : Int32 → Mem → Prop} (hT : HTOK M sw) (hS : CSt n ord D H O C sw I) (h1 : ∀ o', o' ≤ 1 → x = nI o' → ∀ I', CSt n o' D H O C sw I' → FR I I' → post (nI ord) (wI M I')) (h0 : (¬ ∃ o', o' ≤ 1 ∧ x = nI o') → post (-1000000) (wI M I)) : T_HT_order 0 x (wI M I) post := by
  have hsw := hh_ne sw
  have hT' := hT
  obtain ⟨⟨k0, r0, r1, r2, r3, r4, r5, r6, r7, r8, r9, r10, r11⟩, _, hPo, _, _, _, hP, hNu, hRo⟩ := hT'
  have hS' := hS
  obtain ⟨⟨w, hC⟩, hD, cl, ⟨e1, e2⟩, ⟨⟨t1, b1⟩, t2, b2⟩, ⟨t3, b3⟩, ⟨t4, b4⟩, t5, b5⟩ := hS'
  have k1 := hP.1.1
  have go : ∀ o', o' ≤ 1 → x = nI o' → B_HT_order_12 post 0 x (wI M I) := by
    intro o' ho hx
    subst hx
    clear h0
    have hord := hC.1.1.2
    unfold B_HT_order_12 B_HT_order_44
    simp only [isK_wI, isA_wI, gR_wI, gI_wI, sI_wI, true_and, and_true, Option.some.injEq, exists_eq_left', k0, r0, k1]
    refine sp_orderNow hP hC.1 ?_
    rw [nI_eq (by omega) (by omega)]
    refine ⟨fun z => by subst z; exact h1 o' ho rfl I hS (fun c _ => rfl), fun z => ?_⟩
    simp only [isK_wI, isA_wI, gR_wI, gI_wI, sI_wI, true_and, and_true, Option.some.injEq, exists_eq_left', k0, r0, k1]
    refine sp_letterCount hP hC.1 ?_
    simp only [isK_wI, isA_wI, gR_wI, gI_wI, sI_wI, true_and, and_true, Option.some.injEq, exists_eq_left', k1]
    refine sp_arrange hP hC.1.1.1 ho hC.1.2.1 (fun I1 s1 f1 => ?_)
    simp only [isK_wI, isA_wI, gR_wI, gI_wI, sI_wI, true_and, and_true, Option.some.injEq, exists_eq_left', k0]
    have g1 : ∀ c, 6 ≤ c → I1 c = I c := fun c hc => f1 c (by omega) (by omega) (by omega)
    refine sp_forgetAll hT ⟨t1, BaSt_kp (fun c y1 y2 => g1 c (by omega)) b1⟩ ⟨t2, BaSt_kp (fun c y1 y2 => g1 c (by omega)) b2⟩ ⟨t3, BaSt_kp (fun c y1 y2 => g1 c (by omega)) b3⟩ ⟨t4, BaSt_kp (fun c y1 y2 => g1 c (by omega)) b4⟩ ⟨t5, BaSt_kp (fun c y1 y2 => g1 c (by omega)) b5⟩ (fun I2 z1 z2 z3 z4 z5 f2 => ?_)
    have w8 : ∀ c, c < 8 → I2 c = I1 c := fun c hc => f2 c (by omega) (by omega) (by omega) (by omega) (by omega)
    have g2 : ∀ c, 6 ≤ c → c ≠ 166 → c ≠ 183 → c ≠ 141 → c ≠ 149 → c ≠ 157 → I2 c = I c := fun c hc y1 y2 y3 y4 y5 => by rw [f2 c y1 y2 y3 y4 y5, g1 c hc]
    refine h1 o' ho rfl I2 ⟨⟨w, PrSt_kp w8 s1, ?_, hC.2.2⟩, ?_, fun r hr => ?_, ⟨HeSt_kp (fun c hc => g2 c (by omega) (by omega) (by omega) (by omega) (by omega) (by omega)) e1, HeSt_kp (fun c hc => g2 c (by omega) (by omega) (by omega) (by omega) (by omega) (by omega)) e2⟩, ⟨⟨0, Ba0_to _ z1⟩, 0, Ba0_to _ z2⟩, ⟨0, Ba0_to _ z3⟩, ⟨0, Ba0_to _ z4⟩, 0, Ba0_to _ z5⟩ (fun c hc => g2 c (by omega) (by omega) (by omega) (by omega) (by omega) (by omega))
    · obtain ⟨y1, y2⟩ := hC.2.1
      have y6 := g2 6 (by omega) (by omega) (by omega) (by omega) (by omega) (by omega)
      have y7 := g2 7 (by omega) (by omega) (by omega) (by omega) (by omega) (by omega)
      exact ⟨by rw [y6]; exact y1, fun a a1 a2 => by rw [y7]; exact y2 a a1 a2⟩
    · rw [g2 126 (by omega) (by omega) (by omega) (by omega) (by omega) (by omega)]; exact hD
    · rw [g2 _ (by omega) (by omega) (by omega) (by omega) (by omega) (by omega)]; exact cl r hr
  unfold T_HT_order
  refine ⟨fun z => go 0 (by omega) z, fun z => ⟨fun z2 => go 1 (by omega) z2, fun z2 => h0 (fun ⟨o', y1, y2⟩ => ?_)⟩⟩
  have : o' = 0 ∨ o' = 1 := by omega
  rcases this with rfl | rfl
  · exact z y2
  · exact z2 y2
theorem op_told [NeZero p] {D : Nat → Mo2 → Fin p} {H O : Hp p} {C : Nat → Nat → Mo2 → Fin p} {x : Int32} {post : Int32 → Mem → Prop} (hT : HTOK M sw) (hS : CSt n ord D H O C sw I) (hn : (x.toInt < 0 ∨ 4 < x.toInt) → post (-1000000) (wI M I)) (q0 : x.toInt = 0 → post (nI n) (wI M I)) (q1 : x.toInt = 1 → post (nI p) (wI M I)) (q2 : x.toInt = 2 → post (nI ord) (wI M I)) (q3 : x.toInt = 3 → post (nI H.1) (wI M I)) (q4 : x.toInt = 4 → post (nI O.1) (wI M I)) : T_HT_told 0 x (wI M I) post := by
  have hhe := hT.he
  obtain ⟨⟨k0, r0, r1, r2, r3, r4, r5, r6, r7, r8, r9, r10, r11⟩, _, hPo, _, _, _, hP, hNu, hRo⟩ := hT
  obtain ⟨⟨w, hC⟩, hD, cl, ⟨e1, e2⟩, _⟩ := hS
  have kh := hhe.1.1.2.1
  have ko := hhe.2.1.2.1
  have k1 := hP.1.1
  have k6 := hNu.1
  unfold T_HT_told
  simp only [isK_wI, isA_wI, gR_wI, gI_wI, sI_wI, true_and, and_true, Option.some.injEq, exists_eq_left', k0, r0, r1, r10, r11, kh, ko, k1, k6]
  exact ⟨hn, fun z => sp_letterCount hP hC.1 (q0 z), fun z => sp_prime hNu hC.2.1 (q1 z), fun z => sp_orderNow hP hC.1 (q2 z), fun z => sp_Hesize hhe.1 e1 (q3 z), fun z => sp_Hesize hhe.2 e2 (q4 z)⟩
/-- three bases forget -/
theorem sp_heapChanged [NeZero p] {d t3 t4 : Nat} {G3 G4 G5 : Nat → (Mo2 → Fin p) → Prop} {post : Mem → Prop} (hT : HTOK M sw) (hd : d ≤ 10) (h3 : BaSt n ord 141 G3 t3 I) (h4 : BaSt n ord 149 G4 t4 I) (h5 : ∃ r, BaSt n ord 157 G5 r I) (h : ∀ I', BaSt n ord 141 G3 (min t3 d) I' → BaSt n ord 149 G4 (min t4 d) I' → BaSt n ord 157 G5 0 I' → (∀ c, c ≠ 141 → c ≠ 149 → c ≠ 157 → I' c = I c) → post (wI M I')) : T_HT_heapChanged 0 (nI d) (wI M I) post := by
  obtain ⟨t5, b5⟩ := h5
  obtain ⟨⟨k0, r0, r1, r2, r3, r4, r5, r6, r7, r8, r9, r10, r11⟩, _, _, _, ⟨c1, c2, c3⟩, _⟩ := hT
  have k141 := c1.2.1.1
  have k150 := c2.2.1.1
  have k159 := c3.2.1.1
  unfold T_HT_heapChanged
  simp only [isK_wI, isA_wI, gR_wI, gI_wI, sI_wI, true_and, and_true, Option.some.injEq, exists_eq_left', k0, r7, k141]
  refine sp_forget c1 (by omega) h3 (fun I3 s3 f3 => ?_)
  simp only [isK_wI, isA_wI, gR_wI, gI_wI, sI_wI, true_and, and_true, Option.some.injEq, exists_eq_left', k0, r8, k150]
  refine sp_forget c2 (by omega) (BaSt_kp (I' := I3) (fun c x1 x2 => f3 c (by omega)) h4) (fun I4 s4 f4 => ?_)
  simp only [isK_wI, isA_wI, gR_wI, gI_wI, sI_wI, true_and, and_true, Option.some.injEq, exists_eq_left', k0, r9, k159]
  refine sp_forget (d := 0) c3 (by omega) (BaSt_kp (I' := I4) (fun c x1 x2 => by rw [f4 c (by omega), f3 c (by omega)]) b5) (fun I5 s5 f5 => ?_)
  rw [Nat.min_eq_right (Nat.zero_le _)] at s5
  exact h I5 (BaSt_kp (fun c x1 x2 => by rw [f5 c (by omega), f4 c (by omega)]) s3) (BaSt_kp (fun c x1 x2 => by rw [f5 c (by omega)]) s4) s5 (fun c x1 x2 x3 => by rw [f5 c x3, f4 c x2, f3 c x1])
/-- a row more -/
def hpA {p : Nat} [NeZero p] (H : Hp p) (d : Nat) (f : Mo2 → Fin p) : Hp p := (H.1 + 1, fun r => if r = H.1 then d else H.2.1 r, fun r => if r = H.1 then f else H.2.2 r)
theorem Gh_A {p : Nat} [NeZero p] {H : Hp p} {d e : Nat} {f g : Mo2 → Fin p} (he : e ≠ d) : Gh (hpA H d f) e g ↔ Gh H e g := by
  unfold Gh Grw hpA
  constructor
  · rintro ⟨r, a, b, c⟩
    simp only at a b c
    by_cases q : r = H.1
    · rw [if_pos q] at b; omega
    · rw [if_neg q] at b c; exact ⟨r, by omega, b, c⟩
  · rintro ⟨r, a, b, c⟩
    exact ⟨r, by simp only; omega, by simp only; rw [if_neg (by omega)]; exact b, by simp only; rw [if_neg (by omega)]; exact c⟩
theorem Gprd_A {p : Nat} [NeZero p] {n ord : Nat} {H O : Hp p} {d e : Nat} {f g : Mo2 → Fin p} (he : e < d) : Gprd n ord (hpA H d f) O e g ↔ Gprd n ord H O e g := by
  unfold Gprd hpA
  constructor
  · rintro ⟨a, b, h1, h2, h3, h4⟩
    simp only at h1 h3 h4
    by_cases q : a = H.1
    · rw [if_pos q] at h3; omega
    · rw [if_neg q] at h3; rw [if_neg q, if_neg q] at h4; exact ⟨a, b, by omega, h2, h3, h4⟩
  · rintro ⟨a, b, h1, h2, h3, h4⟩
    refine ⟨a, b, by simp only; omega, h2, ?_, ?_⟩
    · simp only; rw [if_neg (by omega)]; exact h3
    · simp only; rw [if_neg (by omega), if_neg (by omega)]; exact h4
theorem op_row [NeZero p] {D : Nat → Mo2 → Fin p} {H O : Hp p} {C : Nat → Nat → Mo2 → Fin p} {post : Int32 → Mem → Prop} (hT : HTOK M sw) (hS : CSt n ord D H O C sw I) (h1 : ∀ d, dg1 D = d + 1 → 1 ≤ d → d ≤ 5 → evP D → H.1 < 6 → ∀ I', CSt n ord (fun _ _ => 0) (hpA H d (D d)) O C sw I' → FR I I' → post (nI H.1) (wI M I')) (h0 : (¬ ∃ d, dg1 D = d + 1 ∧ 1 ≤ d ∧ d ≤ 5 ∧ evP D ∧ H.1 < 6) → post (-1000000) (wI M I)) : T_HT_row 0 (wI M I) post := by
  have hhe := hT.he
  have hsw := hh_ne sw
  have hT' := hT
  obtain ⟨⟨k0, r0, r1, r2, r3, r4, r5, r6, r7, r8, r9, r10, r11⟩, _, hPo, _, ⟨c1, c2, c3⟩, _, hP, hNu, hRo⟩ := hT'
  obtain ⟨⟨w, hC⟩, hD, cl, ⟨e1, e2⟩, ⟨⟨t1, b1⟩, t2, b2⟩, ⟨t3, b3⟩, ⟨t4, b4⟩, t5, b5⟩ := hS
  have hp97 := prm_lt hC.2.2
  have kd := hPo.1.1
  have hle := dg1_le D
  obtain ⟨⟨h160, kh, g0, g1, g2, g3⟩, a10, a11, aR, hBB⟩ := hhe.1
  have kb := hBB.2.1.1
  have h6 := e1.2.1
  have NO : ∀ {P : Prop}, P → (∀ d, dg1 D = d + 1 → 1 ≤ d → d ≤ 5 → evP D → H.1 < 6 → ¬ P) → post (-1000000) (wI M I) := fun hp hh => h0 (fun ⟨d, x1, x2, x3, x4, x5⟩ => hh d x1 x2 x3 x4 x5 hp)
  unfold T_HT_row B_HT_row_38
  simp only [isK_wI, isA_wI, gR_wI, gI_wI, sI_wI, true_and, and_true, Option.some.injEq, exists_eq_left', k0, r5, kd]
  refine sp_Podegree hPo hp97.2 hD ?_
  simp only [isK_wI, isA_wI, gR_wI, gI_wI, sI_wI, true_and, and_true, Option.some.injEq, exists_eq_left', k0, r5, kd]
  refine sp_isEven hPo hp97.2 hD (fun hev => ?_) (fun hev => ⟨fun _ => NO hev (fun d x1 x2 x3 x4 x5 y => y x4), fun z => absurd rfl z⟩)
  refine ⟨fun z => absurd z (by decide), fun _ => ⟨fun z => NO z (fun d x1 x2 x3 x4 x5 y => ?_), fun z1 => ⟨fun z => NO z (fun d x1 x2 x3 x4 x5 y => ?_), fun z5 => ?_⟩⟩⟩
  · rw [x1, nI_pred, show (1 : Int32) = nI 1 from rfl, nI_ltI (by omega) (by omega)] at y; omega
  · rw [x1, nI_pred, show (5 : Int32) = nI 5 from rfl, nI_ltI (by omega) (by omega)] at y; omega
  · have hdd : ∃ d, dg1 D = d + 1 ∧ 1 ≤ d ∧ d ≤ 5 := by
      by_cases q : dg1 D = 0
      · rw [q] at z1; exact absurd (by decide) z1
      · refine ⟨dg1 D - 1, by omega, ?_⟩
        have e : dg1 D = dg1 D - 1 + 1 := by omega
        rw [e, nI_pred, show (1 : Int32) = nI 1 from rfl, nI_ltI (by omega) (by omega)] at z1
        rw [e, nI_pred, show (5 : Int32) = nI 5 from rfl, nI_ltI (by omega) (by omega)] at z5
        omega
    obtain ⟨d, hd, d1, d5⟩ := hdd
    simp only [isK_wI, isA_wI, gR_wI, gI_wI, sI_wI, true_and, and_true, Option.some.injEq, exists_eq_left', k0, r10, kh]
    refine sp_isFull hhe.1 e1 ?_
    by_cases hk6 : H.1 = 6
    · rw [if_pos hk6]
      exact ⟨fun z => absurd z (by decide), fun _ => NO hk6 (fun d x1 x2 x3 x4 x5 y => by omega)⟩
    · rw [if_neg hk6]
      refine ⟨fun _ => ?_, fun z => absurd rfl z⟩
      clear h0 NO
      have hk : H.1 < 6 := by omega
      simp only [isK_wI, isA_wI, gR_wI, gI_wI, sI_wI, true_and, and_true, Option.some.injEq, exists_eq_left', k0, r10, kh]
      refine sp_Hesize hhe.1 e1 ?_
      rw [hd, nI_pred]
      simp only [isK_wI, isA_wI, gR_wI, gI_wI, sI_wI, true_and, and_true, Option.some.injEq, exists_eq_left', k0, r5, r10, kh]
      unfold T_He_append
      simp (disch := omega) only [isK_wI, isA_wI, gR_wI, gI_wI, sI_wI, true_and, and_true, Option.some.injEq, exists_eq_left', forall_const, not_true_eq_false, not_false_eq_true, false_implies, true_implies, ne_eq, lit_nI, nI_add, pk_mul, pk_sub, pk_div, rem_n, nI_clamp, nI_leI, nI_ltI, nI_eq, in_nI, kh, kd, g3, e1.1, isA_T a11, (aR H.1 hk).1]
      refine sp_loadPart hPo (show d ≤ 10 by omega) (aR H.1 hk).2 (fr_21 d (by omega)) (by omega) (fun f hf1 hf2 => ?_)
      simp (disch := omega) only [isK_wI, isA_wI, gR_wI, gI_wI, sI_wI, true_and, and_true, Option.some.injEq, exists_eq_left', forall_const, not_true_eq_false, not_false_eq_true, false_implies, true_implies, ne_eq, lit_nI, nI_add, pk_mul, pk_sub, pk_div, rem_n, nI_clamp, nI_leI, nI_ltI, nI_eq, in_nI, kh, kb, g0, g2, sAll_ne (show hh sw ≠ hh sw + 11 + H.1 by omega), e1.1, isA_T a10, u2_ne (show ¬ (hh sw = hh sw + 9 ∧ 4 = H.1) by omega)]
      -- the memory when the base forgets
      have hfr1 : ∀ c, c ≠ hh sw + 11 + H.1 → c ≠ hh sw + 9 → c ≠ hh sw → u2 (u2 (sAll I (hh sw + 11 + H.1) f) (hh sw + 9) H.1 (nI d)) (hh sw) 4 (nI (H.1 + 1)) c = I c := fun c y1 y2 y3 => by
        unfold u2; rw [if_neg y3, if_neg y2, sAll_ne y1]
      refine sp_forget (d := d) hBB (by omega) (BaSt_kp (fun c y1 y2 => hfr1 c (by omega) (by omega) (by omega)) b1) (fun I2 s2 f2 => ?_)
      simp only [isK_wI, isA_wI, gR_wI, gI_wI, sI_wI, true_and, and_true, Option.some.injEq, exists_eq_left', k0, r5, kd]
      refine sp_Poclear hPo (fun f3 hf3 => ?_)
      simp only [isK_wI, isA_wI, gR_wI, gI_wI, sI_wI, true_and, and_true, Option.some.injEq, exists_eq_left', k0]
      have hfr3 : ∀ c, c ≠ 126 → c ≠ hh sw + 1 → c ≠ hh sw + 11 + H.1 → c ≠ hh sw + 9 → c ≠ hh sw → sAll I2 (125 + 1) f3 c = I c := fun c y0 y1 y2 y3 y4 => by
        rw [sAll_ne y0, f2 c y1, hfr1 c y2 y3 y4]
      refine sp_heapChanged (G5 := Gquo H D) hT (show d ≤ 10 by omega) (BaSt_kp (fun c y1 y2 => hfr3 c (by omega) (by omega) (by omega) (by omega) (by omega)) b3) (BaSt_kp (fun c y1 y2 => hfr3 c (by omega) (by omega) (by omega) (by omega) (by omega)) b4) ⟨t5, BaSt_kp (fun c y1 y2 => hfr3 c (by omega) (by omega) (by omega) (by omega) (by omega)) b5⟩ (fun I4 s3 s4 s5 f4 => ?_)
      have hfr4 : ∀ c, c ≠ 126 → c ≠ hh sw + 1 → c ≠ hh sw + 11 + H.1 → c ≠ hh sw + 9 → c ≠ hh sw → c ≠ 141 → c ≠ 149 → c ≠ 157 → I4 c = I c := fun c y0 y1 y2 y3 y4 y5 y6 y7 => by
        rw [f4 c y5 y6 y7, hfr3 c y0 y1 y2 y3 y4]
      have hfrH : ∀ c, (c = hh sw ∨ (hh sw + 9 ≤ c ∧ c ≤ hh sw + 16)) → I4 c = u2 (u2 (sAll I (hh sw + 11 + H.1) f) (hh sw + 9) H.1 (nI d)) (hh sw) 4 (nI (H.1 + 1)) c := fun c hc => by
        rw [f4 c (by omega) (by omega) (by omega), sAll_ne (by omega), f2 c (by omega)]
      refine h1 d hd d1 d5 hev hk I4 ⟨⟨⟨fun d _ => Dhom0, ⟨by show H.1 + 1 ≤ 6; omega, fun r hr => ?_⟩, w.2.2.1, fun r hr => ?_⟩, Cfg_kp (fun c hc => hfr4 c (by omega) (by omega) (by omega) (by omega) (by omega) (by omega) (by omega) (by omega)) hC⟩, ?_, fun r hr => ?_, ⟨⟨?_, by show H.1 + 1 ≤ 6; omega, fun r hr => ?_⟩, HeSt_kp (fun c hc => hfr4 c (by omega) (by omega) (by omega) (by omega) (by omega) (by omega) (by omega) (by omega)) e2⟩, ⟨⟨min t1 d, BaSt_cong (fun e he g => (Gh_A (by omega)).symm) (BaSt_kp (fun c y1 y2 => ?_) s2)⟩, t2, BaSt_kp (fun c y1 y2 => hfr4 c (by omega) (by omega) (by omega) (by omega) (by omega) (by omega) (by omega) (by omega)) b2⟩, ⟨min t3 d, BaSt_cong (fun e he g => ?_) s3⟩, ⟨min t4 d, BaSt_cong (fun e he g => (Gprd_A (by omega)).symm) s4⟩, 0, Ba0_to _ (Ba0_of s5)⟩ (fun c hc => hfr4 c (by omega) (by omega) (by omega) (by omega) (by omega) (by omega) (by omega) (by omega))
      · show (1 ≤ (if r = H.1 then d else H.2.1 r) ∧ (if r = H.1 then d else H.2.1 r) ≤ 5) ∧ hom n (if r = H.1 then d else H.2.1 r) (if r = H.1 then D d else H.2.2 r) ∧ ∃ m, (if r = H.1 then D d else H.2.2 r) m ≠ 0
        by_cases q : r = H.1
        · rw [if_pos q, if_pos q]; exact ⟨⟨d1, d5⟩, w.1 d (by omega), D_top hd⟩
        · rw [if_neg q, if_neg q]; exact w.2.1.2 r (by have : r < H.1 + 1 := hr; omega)
      · obtain ⟨y1, y2, y3⟩ := w.2.2.2 r hr
        refine ⟨y1, fun z => y2 (by have : H.1 + 1 ≤ r := z; omega), fun z dd hdd hlt m => ?_⟩
        have hlt' : 10 < dd + (if r = H.1 then d else H.2.1 r) := hlt
        by_cases q : r = H.1
        · exact y2 (by omega) dd hdd m
        · rw [if_neg q] at hlt'; exact y3 (by have : r < H.1 + 1 := z; omega) dd hdd hlt' m
      · rw [f4 _ (by omega) (by omega) (by omega), sAll_eq]; exact Rep_0 hf3
      · rw [hfr4 _ (by omega) (by omega) (by omega) (by omega) (by omega) (by omega) (by omega) (by omega)]; exact cl r hr
      · rw [hfrH _ (Or.inl rfl), u2_eq]; rfl
      · show I4 (hh sw + 9) r = nI (if r = H.1 then d else H.2.1 r) ∧ (1 ≤ (if r = H.1 then d else H.2.1 r) ∧ (if r = H.1 then d else H.2.1 r) ≤ 5) ∧ hom n (if r = H.1 then d else H.2.1 r) (if r = H.1 then D d else H.2.2 r) ∧ RepV (if r = H.1 then d else H.2.1 r) (I4 (hh sw + 11 + r)) (if r = H.1 then D d else H.2.2 r)
        have hr7 : r < H.1 + 1 := hr
        by_cases q : r = H.1
        · subst q
          rw [if_pos rfl, if_pos rfl, hfrH _ (by omega), hfrH _ (by omega), u2_ne (by omega), u2_eq]
          refine ⟨rfl, ⟨d1, d5⟩, w.1 d (by omega), fun m hm => ?_⟩
          have hpd := pl_deg (show d ≤ 10 by omega) hm
          rw [u2_ne (by omega), u2_ne (by omega), sAll_eq, hf1 _ (by omega)]
          exact hD d (by omega) m hm
        · rw [if_neg q, if_neg q, hfrH _ (by omega), hfrH _ (by omega), u2_ne (by omega), u2_ne (by omega), sAll_ne (by omega)]
          obtain ⟨y1, y2, y3, y4⟩ := e1.2.2 r (by omega)
          refine ⟨y1, y2, y3, ?_⟩
          have : u2 (u2 (sAll I (hh sw + 11 + H.1) f) (hh sw + 9) H.1 (nI d)) (hh sw) 4 (nI (H.1 + 1)) (hh sw + 11 + r) = I (hh sw + 11 + r) := by
            unfold u2; rw [if_neg (by omega), if_neg (by omega), sAll_ne (by omega)]
          rw [this]; exact y4
      · rw [f4 c (by omega) (by omega) (by omega), sAll_ne (by omega)]
      · unfold Gsum; rw [Gh_A (by omega)]
end HT4
