/-! HeapTower: what the draft is, times, letters, order, told -/
theorem ct_pos {Q : Nat → Bool} : ∀ {N : Nat}, ct Q N ≠ 0 → ∃ i, i < N ∧ Q i = true
  | 0, h => absurd rfl h
  | N + 1, h => by
    cases q : Q N
    · rw [ct_succ_f q] at h
      obtain ⟨i, a, b⟩ := ct_pos h
      exact ⟨i, by omega, b⟩
    · exact ⟨N, by omega, q⟩
theorem ct_zero {Q : Nat → Bool} {N i : Nat} (h : ct Q N = 0) (hi : i < N) : Q i = false := ct_end (j := 0) (N := N) (by rw [h]; rfl) (Nat.zero_le i) hi
theorem szD_0 {p : Nat} [NeZero p] {F : Nat → Mo2 → Fin p} {d : Nat} (hd : d ≤ 10) (h : szD F d = 0) {m : Mo2} (hm : m.1 + m.2 ≤ d) : F d m = 0 := by
  have h1 := pl_deg hd hm
  have := ct_zero (i := pl m) h (by omega)
  rw [unp_pl (by omega)] at this
  simpa using this
theorem szD_ne {p : Nat} [NeZero p] {F : Nat → Mo2 → Fin p} {d : Nat} (h : szD F d ≠ 0) : ∃ m, F d m ≠ 0 := by
  obtain ⟨i, _, b⟩ := ct_pos h
  exact ⟨unp i, by simpa using b⟩
theorem dgf_hi {p : Nat} [NeZero p] {F : Nat → Mo2 → Fin p} {d : Nat} : ∀ k, dgf F k ≤ d → d < k → szD F d = 0
  | 0, _, h => absurd h (Nat.not_lt_zero d)
  | k + 1, h1, h2 => by
    unfold dgf at h1
    split at h1
    · omega
    · rename_i q
      by_cases z : d = k
      · rw [z]; simpa using q
      · exact dgf_hi k h1 (by omega)
theorem D_hi {p : Nat} [NeZero p] {n : Nat} {D : Nat → Mo2 → Fin p} (hD : ∀ d, d ≤ 10 → hom n d (D d)) {d : Nat} (hd : d ≤ 10) (h : dg1 D ≤ d) (m : Mo2) : D d m = 0 := by
  have := dgf_hi 11 h (by omega)
  by_cases q : D d m = 0
  · exact q
  · exact szD_0 hd this (hD d hd m q).1
theorem D_top {p : Nat} [NeZero p] {D : Nat → Mo2 → Fin p} {d : Nat} (h : dg1 D = d + 1) : ∃ m, D d m ≠ 0 := szD_ne (dg1_zero h)
/-- the head of the draft -/
def isHead {p : Nat} [NeZero p] (n ord : Nat) (D : Nat → Mo2 → Fin p) (d i : Nat) : Prop := dg1 D = d + 1 ∧ i < nM n ord d ∧ D d (atm n ord d i) ≠ 0 ∧ ∀ j, j < i → D d (atm n ord d j) = 0
def hpE (p : Nat) [NeZero p] : Hp p := (0, fun _ => 0, fun _ _ => 0)
section HT3
variable {M : Mem} {I : Nat → Nat → Int32} {n ord p : Nat} {sw : Bool}
theorem op_headOfDraft [NeZero p] {D : Nat → Mo2 → Fin p} {H O : Hp p} {C : Nat → Nat → Mo2 → Fin p} {post : Int32 → Mem → Prop} (hT : HTOK M sw) (hS : CSt n ord D H O C sw I) (h0 : dg1 D = 0 → post (-1) (wI M I)) (h1 : ∀ d i, isHead n ord D d i → post (nI (hdN d (atm n ord d i))) (wI M I)) : T_HT_headOfDraft 0 (wI M I) post := by
  obtain ⟨⟨k0, r0, r1, r2, r3, r4, r5, r6, r7, r8, r9, r10, r11⟩, _, hPo, _, _, _, hP, hNu, hRo⟩ := hT
  obtain ⟨⟨w, hC⟩, hD, cl, hes, hbs, hb3, hb4, hb5⟩ := hS
  have hp97 := prm_lt hC.2.2
  have kd := hPo.1.1
  have k1 := hP.1.1
  unfold T_HT_headOfDraft B_HT_headOfDraft_24
  simp only [isK_wI, isA_wI, gR_wI, gI_wI, sI_wI, true_and, and_true, Option.some.injEq, exists_eq_left', k0, r5, kd]
  refine sp_Podegree hPo hp97.2 hD ?_
  simp only [isK_wI, isA_wI, gR_wI, gI_wI, sI_wI, true_and, and_true, Option.some.injEq, exists_eq_left', k0, r5, kd]
  have hle := dg1_le D
  refine sp_headPlace hP hC.1 hPo hp97.2 hD (fun z => ?_) (fun d hd i hi hlo hne => ?_) (fun d hd hz => ?_)
  · exact ⟨fun _ => h0 z, fun q => absurd ((neg1_lt hle).mpr z) q⟩
  · have pi := pl66 (ord := ord) (show d ≤ 10 by omega) hi
    refine ⟨fun q => absurd ((neg1_lt hle).mp q) (by omega), fun _ => ⟨fun _ => ?_, fun q => absurd (nI_ge0 (by omega)) q⟩⟩
    simp only [isK_wI, isA_wI, gR_wI, gI_wI, sI_wI, true_and, and_true, Option.some.injEq, exists_eq_left', k0, r0, k1]
    rw [hd, nI_pred]
    have hok := (atm_ok hi).1
    refine sp_power (l := 0) hP hC.1 (by omega) hok (by omega) ?_
    simp only [isK_wI, isA_wI, gR_wI, gI_wI, sI_wI, true_and, and_true, Option.some.injEq, exists_eq_left', k0, r0, k1]
    refine sp_power (l := 1) hP hC.1 (by omega) hok (by omega) ?_
    simp only [isK_wI, isA_wI, gR_wI, gI_wI, sI_wI, true_and, and_true, Option.some.injEq, exists_eq_left', k0, r0, k1]
    refine sp_power (l := 2) hP hC.1 (by omega) hok (by omega) ?_
    have := h1 d i ⟨hd, hi, hne, hlo⟩
    simp only [lit_nI, pk_mul, nI_add, if_true, if_false, Nat.one_ne_zero, Nat.reduceEqDiff]
    exact this
  · exfalso
    obtain ⟨m, hm⟩ := D_top hd
    have hok := w.1 d (by omega) m hm
    have := hz (psm n ord d m) (psm_lt hok)
    rw [atm_psm hok] at this
    exact hm this
theorem op_draft [NeZero p] {D : Nat → Mo2 → Fin p} {H O : Hp p} {C : Nat → Nat → Mo2 → Fin p} {x : Int32} {post : Int32 → Mem → Prop} (hT : HTOK M sw) (hS : CSt n ord D H O C sw I) (hn : (x.toInt < 0 ∨ 3 < x.toInt) → post (-1000000) (wI M I)) (q0 : x.toInt = 0 → post (nI (szP D)) (wI M I)) (q1 : x.toInt = 1 → post (nI (dg1 D) - 1) (wI M I)) (q2 : x.toInt = 2 → ∀ v, (v = 1 ∧ evP D) ∨ (v = 0 ∧ ¬ evP D) → post v (wI M I)) (q3 : x.toInt = 3 → ∀ v, (v = -1 ∧ dg1 D = 0) ∨ (∃ d i, isHead n ord D d i ∧ v = nI (hdN d (atm n ord d i))) → post v (wI M I)) : T_HT_draft 0 x (wI M I) post := by
  have hT' := hT
  obtain ⟨⟨k0, r0, r1, r2, r3, r4, r5, r6, r7, r8, r9, r10, r11⟩, _, hPo, _, _, _, hP, hNu, hRo⟩ := hT'
  have hS' := hS
  obtain ⟨⟨w, hC⟩, hD, cl, hes, hbs, hb3, hb4, hb5⟩ := hS'
  have hp97 := prm_lt hC.2.2
  have kd := hPo.1.1
  unfold T_HT_draft B_HT_draft_63
  simp only [isK_wI, isA_wI, gR_wI, gI_wI, sI_wI, true_and, and_true, Option.some.injEq, exists_eq_left', k0, r5, kd]
  refine ⟨hn, fun z => sp_Posize hPo hp97.2 hD (q0 z), fun z => sp_Podegree hPo hp97.2 hD (q1 z), fun z => sp_isEven hPo hp97.2 hD (fun e => ?_) (fun e => ?_), fun z => op_headOfDraft hT hS (fun e => q3 z _ (Or.inl ⟨rfl, e⟩)) (fun d i hi => q3 z _ (Or.inr ⟨d, i, hi, rfl⟩))⟩
  · exact ⟨fun y => absurd y (by decide), fun _ => q2 z 1 (Or.inl ⟨rfl, e⟩)⟩
  · exact ⟨fun _ => q2 z 0 (Or.inr ⟨rfl, e⟩), fun y => absurd rfl y⟩
theorem le10_pred {d k : Nat} (hd : d ≤ 11) (hk : k ≤ 10) : nI d - 1 + nI k ≤ 10 ↔ d + k ≤ 11 := by
  rw [Int32.le_iff_toInt_le]
  by_cases w : d = 0
  · subst w
    have : (nI 0 - 1 + nI k).toInt = (k : Int) - 1 := by
      have e : nI 0 - 1 + nI k = nI k - 1 := by rw [Int32.sub_eq_add_neg, Int32.sub_eq_add_neg, show nI 0 = 0 from rfl, Int32.zero_add, Int32.add_comm]
      rw [e, show (1 : Int32) = nI 1 from rfl, pk_sub_toInt (by omega) (by omega)]; rfl
    have h10 : (10 : Int32).toInt = 10 := by decide
    omega
  · obtain ⟨d', rfl⟩ : ∃ d', d = d' + 1 := ⟨d - 1, by omega⟩
    rw [nI_pred, nI_add, nI_toInt (by omega)]
    have h10 : (10 : Int32).toInt = 10 := by decide
    omega
theorem op_times [NeZero p] {D : Nat → Mo2 → Fin p} {H O : Hp p} {C : Nat → Nat → Mo2 → Fin p} {x y z : Int32} {post : Int32 → Mem → Prop} (hT : HTOK M sw) (hS : CSt n ord D H O C sw I) (h1 : ∀ a b e, IsP n x y z a b e → dg1 D + (a + b + e) ≤ 11 → ∀ I', CSt n ord (upF (a + b + e) (b, e) D) H O C sw I' → FR I I' → post (nI (szP (upF (a + b + e) (b, e) D))) (wI M I')) (h0 : (¬ ∃ a b e, IsP n x y z a b e ∧ dg1 D + (a + b + e) ≤ 11) → post (-1000000) (wI M I)) : T_HT_times 0 x y z (wI M I) post := by
  have hT' := hT
  obtain ⟨⟨k0, r0, r1, r2, r3, r4, r5, r6, r7, r8, r9, r10, r11⟩, _, hPo, _, _, _, hP, hNu, hRo⟩ := hT'
  have hS' := hS
  obtain ⟨⟨w, hC⟩, hD, cl, hes, hbs, hb3, hb4, hb5⟩ := hS'
  have hp97 := prm_lt hC.2.2
  have kd := hPo.1.1
  unfold T_HT_times B_HT_times_28
  simp only [isK_wI, isA_wI, gR_wI, gI_wI, sI_wI, true_and, and_true, Option.some.injEq, exists_eq_left', k0]
  refine sp_isProduct hT hC.1 (fun a b e hi => ?_) (fun hi => ?_)
  · refine ⟨fun q => absurd q (by decide), fun _ => ?_⟩
    have hi' := hi
    obtain ⟨rfl, rfl, rfl, i4, i5⟩ := hi'
    simp only [isK_wI, isA_wI, gR_wI, gI_wI, sI_wI, true_and, and_true, Option.some.injEq, exists_eq_left', k0, r5, kd]
    refine sp_Podegree hPo hp97.2 hD ?_
    have hle := dg1_le D
    have hassoc : nI (dg1 D) - 1 + nI a + nI b + nI e = nI (dg1 D) - 1 + nI (a + b + e) := by
      rw [Int32.add_assoc, Int32.add_assoc, ← Int32.add_assoc (nI a), nI_add, nI_add]
    rw [hassoc, nI_add, nI_add, le10_pred hle i4]
    simp only [isK_wI, isA_wI, gR_wI, gI_wI, sI_wI, true_and, and_true, Option.some.injEq, exists_eq_left', k0, r5]
    refine ⟨fun q => ?_, fun q => h0 (fun ⟨a', b', e', hi2, hl2⟩ => ?_)⟩
    · refine sp_place (by omega) (by omega) ?_
      simp only [isK_wI, isA_wI, gR_wI, gI_wI, sI_wI, true_and, and_true, Option.some.injEq, exists_eq_left', kd]
      refine sp_moveUp hP hC.1 (by omega) hPo hD w.1 i4 i5 (fun f hf => ?_)
      simp only [isK_wI, isA_wI, gR_wI, gI_wI, sI_wI, true_and, and_true, Option.some.injEq, exists_eq_left', k0]
      refine sp_draftChanged (n := n) (ord := ord) hT (G := Gquo H D) ?_ (fun I' hb hf2 => ?_)
      · obtain ⟨r, hb⟩ := hb5
        exact ⟨r, BaSt_kp (fun c h1 h2 => sAll_ne (by omega)) hb⟩
      · simp only [isK_wI, isA_wI, gR_wI, gI_wI, sI_wI, true_and, and_true, Option.some.injEq, exists_eq_left', k0, r5, kd]
        have hRf : Rep (I' 126) (upF (a + b + e) (b, e) D) := by rw [hf2 _ (by omega), sAll_eq]; exact hf
        refine sp_Posize hPo hp97.2 hRf ?_
        refine h1 a b e hi q I' (CSt_draft hS (fun d hd => ?_) hRf hb (fun c h1 h2 h3 => ?_)) (fun c hc => ?_)
        · unfold upF
          by_cases z : a + b + e ≤ d
          · rw [if_pos z]
            have := hom_mulm (w.1 (d - (a + b + e)) (by omega)) i5
            rw [show d - (a + b + e) + (a + b + e) = d by omega] at this
            exact this
          · rw [if_neg z]; exact Dhom0
        · rw [hf2 _ h3, sAll_ne h2]
        · rw [hf2 _ (by omega), sAll_ne (by omega)]
    · obtain ⟨j1, j2, j3, j4, _⟩ := hi2
      rw [nI_eq (by omega) (by omega)] at j1 j2 j3
      subst j1 j2 j3
      exact q hl2
  · exact ⟨fun _ => h0 (fun ⟨a, b, e, z, _⟩ => hi ⟨a, b, e, z⟩), fun q => absurd rfl q⟩
theorem sp_clearClaims [NeZero p] {post : Mem → Prop} (hT : HTOK M sw) (h : ∀ I', (∀ r, r < 6 → Rep (p := p) (I' (129 + 2 * r)) (fun _ _ => 0)) → (∀ c, (∀ r, r < 6 → c ≠ 129 + 2 * r) → I' c = I c) → post (wI M I')) : T_HT_clearClaims 0 (wI M I) post := by
  obtain ⟨⟨k0, r0, r1, r2, r3, r4, r5, r6, r7, r8, r9, r10, r11⟩, _, hPo, ⟨a127, aC⟩, _, _, hP, hNu, hRo⟩ := hT
  have key : ∀ t r I', r + t = 6 → (∀ r', r' < r → Rep (p := p) (I' (129 + 2 * r')) (fun _ _ => 0)) → (∀ c, (∀ r, r < 6 → c ≠ 129 + 2 * r) → I' c = I c) → L_HT_clearClaims_2 post (t + 1) 0 (nI r) (wI M I') := by
    intro t
    induction t with
    | zero =>
      intro r I' hr hR hf
      show B_HT_clearClaims_2 _ post 0 _ _
      unfold B_HT_clearClaims_2
      simp (disch := omega) only [isK_wI, isA_wI, gR_wI, gI_wI, sI_wI, true_and, and_true, Option.some.injEq, exists_eq_left', forall_const, not_true_eq_false, not_false_eq_true, false_implies, true_implies, ne_eq, lit_nI, nI_add, pk_mul, pk_sub, pk_div, rem_n, nI_clamp, nI_leI, nI_ltI, nI_eq, in_nI, k0]
      exact ⟨fun _ => h I' (fun r' hr' => hR r' (by omega)) hf, fun z => absurd (by omega) z⟩
    | succ t ih =>
      intro r I' hr hR hf
      have hr6 : r < 6 := by omega
      have kc := (aC r hr6).2.1.1
      show B_HT_clearClaims_2 (L_HT_clearClaims_2 post (t + 1)) post 0 _ _
      unfold B_HT_clearClaims_2
      simp (disch := omega) only [isK_wI, isA_wI, gR_wI, gI_wI, sI_wI, true_and, and_true, Option.some.injEq, exists_eq_left', forall_const, not_true_eq_false, not_false_eq_true, false_implies, true_implies, ne_eq, lit_nI, nI_add, pk_mul, pk_sub, pk_div, rem_n, nI_clamp, nI_leI, nI_ltI, nI_eq, in_nI, k0, r6, isA_T a127, (aC r hr6).1, kc]
      refine ⟨fun z => absurd z (by omega), fun _ => sp_Poclear (aC r hr6).2 (fun f hf2 => ?_)⟩
      refine ih (r + 1) _ (by omega) (fun r' hr' => ?_) (fun c hc => ?_)
      · by_cases z : r' = r
        · subst z
          rw [show 128 + 2 * r' + 1 = 129 + 2 * r' by omega, sAll_eq]; exact Rep_0 hf2
        · rw [sAll_ne (by omega)]; exact hR r' (by omega)
      · rw [sAll_ne (by have := hc r hr6; omega)]; exact hf c hc
  exact ⟨_, key 6 0 I (by omega) (fun r' hr' => absurd hr' (Nat.not_lt_zero r')) (fun c _ => rfl)⟩
theorem sp_forgetAll [NeZero p] {G1 G2 G3 G4 G5 : Nat → (Mo2 → Fin p) → Prop} {post : Mem → Prop} (hT : HTOK M sw) (h1 : ∃ r, BaSt n ord (hh sw + 1) G1 r I) (h2 : ∃ r, BaSt n ord (oo sw + 1) G2 r I) (h3 : ∃ r, BaSt n ord 141 G3 r I) (h4 : ∃ r, BaSt n ord 149 G4 r I) (h5 : ∃ r, BaSt n ord 157 G5 r I) (h : ∀ I', Ba0 (hh sw + 1) I' → Ba0 (oo sw + 1) I' → Ba0 141 I' → Ba0 149 I' → Ba0 157 I' → (∀ c, c ≠ 166 → c ≠ 183 → c ≠ 141 → c ≠ 149 → c ≠ 157 → I' c = I c) → post (wI M I')) : T_HT_forgetAllBases 0 (wI M I) post := by
  obtain ⟨r1', b1⟩ := h1
  obtain ⟨r2', b2⟩ := h2
  obtain ⟨r3', b3⟩ := h3
  obtain ⟨r4', b4⟩ := h4
  obtain ⟨r5', b5⟩ := h5
  have hhe := hT.he
  have hsw := hh_ne sw
  obtain ⟨⟨k0, r0, r1, r2, r3, r4, r5, r6, r7, r8, r9, r10, r11⟩, _, _, _, ⟨c1, c2, c3⟩, _⟩ := hT
  have kh := hhe.1.1.2.1
  have ko := hhe.2.1.2.1
  have k141 := c1.2.1.1
  have k150 := c2.2.1.1
  have k159 := c3.2.1.1
  unfold T_HT_forgetAllBases
  simp only [isK_wI, isA_wI, gR_wI, gI_wI, sI_wI, true_and, and_true, Option.some.injEq, exists_eq_left', k0, r10, kh]
  refine sp_forgetBase hhe.1 b1 (fun I1 s1 f1 => ?_)
  simp only [isK_wI, isA_wI, gR_wI, gI_wI, sI_wI, true_and, and_true, Option.some.injEq, exists_eq_left', k0, r11, ko]
  refine sp_forgetBase hhe.2 (BaSt_kp (fun c x1 x2 => f1 c (by omega)) b2) (fun I2 s2 f2 => ?_)
  simp only [isK_wI, isA_wI, gR_wI, gI_wI, sI_wI, true_and, and_true, Option.some.injEq, exists_eq_left', k0, r7, k141]
  refine sp_forget (d := 0) c1 (by omega) (BaSt_kp (I' := I2) (fun c x1 x2 => by rw [f2 c (by omega), f1 c (by omega)]) b3) (fun I3 s3 f3 => ?_)
  simp only [isK_wI, isA_wI, gR_wI, gI_wI, sI_wI, true_and, and_true, Option.some.injEq, exists_eq_left', k0, r8, k150]
  refine sp_forget (d := 0) c2 (by omega) (BaSt_kp (I' := I3) (fun c x1 x2 => by rw [f3 c (by omega), f2 c (by omega), f1 c (by omega)]) b4) (fun I4 s4 f4 => ?_)
  simp only [isK_wI, isA_wI, gR_wI, gI_wI, sI_wI, true_and, and_true, Option.some.injEq, exists_eq_left', k0, r9, k159]
  refine sp_forget (d := 0) c3 (by omega) (BaSt_kp (I' := I4) (fun c x1 x2 => by rw [f4 c (by omega), f3 c (by omega), f2 c (by omega), f1 c (by omega)]) b5) (fun I5 s5 f5 => ?_)
  rw [Nat.min_eq_right (Nat.zero_le _)] at s3 s4 s5
  have kp : ∀ {b : Nat} {I I' : Nat → Nat → Int32}, (∀ c, b ≤ c → c ≤ b + 7 → I' c = I c) → Ba0 b I → Ba0 b I' := fun {b I I'} hk z => ⟨by rw [hk _ (by omega) (by omega)]; exact z.1, by rw [hk _ (by omega) (by omega)]; exact z.2.1, by rw [hk _ (by omega) (by omega)]; exact z.2.2.1, by rw [hk _ (by omega) (by omega), hk _ (by omega) (by omega)]; exact z.2.2.2⟩
  refine h I5 (kp (fun c x1 x2 => ?_) (Ba0_of s1)) (kp (fun c x1 x2 => ?_) (Ba0_of s2)) (kp (fun c x1 x2 => ?_) (Ba0_of s3)) (kp (fun c x1 x2 => ?_) (Ba0_of s4)) (Ba0_of s5) (fun c x1 x2 x3 x4 x5 => ?_)
  · rw [f5 c (by omega), f4 c (by omega), f3 c (by omega), f2 c (by omega)]
  · rw [f5 c (by omega), f4 c (by omega), f3 c (by omega)]
  · rw [f5 c (by omega), f4 c (by omega)]
  · rw [f5 c (by omega)]
  · rw [f5 c (by omega), f4 c (by omega), f3 c (by omega), f2 c (by omega), f1 c (by omega)]
theorem HeSt_0 {p' : Nat} [NeZero p'] {n' h : Nat} {I' : Nat → Nat → Int32} (hz : I' h 4 = nI 0) : HeSt (p := p') n' h (hpE p').1 (hpE p').2.1 (hpE p').2.2 I' := ⟨hz, Nat.zero_le _, fun r hr => absurd hr (Nat.not_lt_zero r)⟩
theorem op_letters [NeZero p] {D : Nat → Mo2 → Fin p} {H O : Hp p} {C : Nat → Nat → Mo2 → Fin p} {x y : Int32} {post : Int32 → Mem → Prop} (hT : HTOK M sw) (hS : CSt n ord D H O C sw I) (h1 : ∀ n' p', 1 ≤ n' → n' ≤ 3 → x = nI n' → y = nI p' → prm p' = true → ∀ hz : NeZero p', ∀ I', CSt (p := p') n' ord (fun _ _ => 0) (hpE p') (hpE p') (fun _ _ _ => 0) sw I' → FR I I' → post 1 (wI M I')) (h0 : (¬ ∃ n' p', 1 ≤ n' ∧ n' ≤ 3 ∧ x = nI n' ∧ y = nI p' ∧ prm p' = true) → post (-1000000) (wI M I)) : T_HT_letters 0 x y (wI M I) post := by
  have hhe := hT.he
  have hsw := hh_ne sw
  have hT' := hT
  obtain ⟨⟨k0, r0, r1, r2, r3, r4, r5, r6, r7, r8, r9, r10, r11⟩, _, hPo, _, ⟨c1, c2, c3⟩, _, hP, hNu, hRo⟩ := hT'
  obtain ⟨⟨w, hC⟩, hD, cl, ⟨e1, e2⟩, ⟨⟨t1, b1⟩, t2, b2⟩, ⟨t3, b3⟩, ⟨t4, b4⟩, t5, b5⟩ := hS
  have kh := hhe.1.1.2.1
  have ko := hhe.2.1.2.1
  have kd := hPo.1.1
  have k1 := hP.1.1
  have k6 := hNu.1
  unfold T_HT_letters B_HT_letters_17
  have l1 : (1 : Int32).toInt = 1 := by decide
  have l3 : (3 : Int32).toInt = 3 := by decide
  refine ⟨fun q => h0 (fun ⟨n', p', a, b, c, _⟩ => ?_), fun q => ⟨fun q2 => h0 (fun ⟨n', p', a, b, c, _⟩ => ?_), fun q2 => ?_⟩⟩
  · rw [c, Int32.lt_iff_toInt_lt, nI_toInt (by omega)] at q; omega
  · rw [c, Int32.lt_iff_toInt_lt, nI_toInt (by omega)] at q2; omega
  · have hx : ∃ n', 1 ≤ n' ∧ n' ≤ 3 ∧ x = nI n' := by
      rw [Int32.lt_iff_toInt_lt] at q q2
      refine ⟨x.toInt.toNat, by omega, by omega, i32_ext ?_⟩
      rw [nI_toInt (by omega)]; omega
    obtain ⟨n', n1, n3, hx⟩ := hx
    refine sp_isPrime (fun p' hy hp7 hpr => ?_) (fun hnp => ?_)
    · refine ⟨fun _ => ?_, fun z => absurd z (by decide)⟩
      subst hx hy
      clear h0
      have hp0 := prm_lt hpr
      have hz : NeZero p' := ⟨by omega⟩
      simp only [isK_wI, isA_wI, gR_wI, gI_wI, sI_wI, true_and, and_true, Option.some.injEq, exists_eq_left', k0, r1, k6]
      refine sp_setPrime hNu hpr (fun I1 s1 f1 => ?_)
      simp only [isK_wI, isA_wI, gR_wI, gI_wI, sI_wI, true_and, and_true, Option.some.injEq, exists_eq_left', k0, r0, k1]
      have hS1 : PrSt n ord I1 := by
        obtain ⟨z1, z2, z3, z4⟩ := hC.1
        refine ⟨z1, fun q hq => by rw [f1 2 (by omega) (by omega), f1 3 (by omega) (by omega)]; exact z2 q hq, by rw [f1 1 (by omega) (by omega)]; exact z3, fun d hd => ?_⟩
        unfold PrL
        rw [f1 4 (by omega) (by omega), f1 5 (by omega) (by omega)]; exact z4 d hd
      refine sp_orderNow hP hS1 ?_
      simp only [isK_wI, isA_wI, gR_wI, gI_wI, sI_wI, true_and, and_true, Option.some.injEq, exists_eq_left', k1]
      refine sp_arrange hP ⟨n1, n3⟩ hC.1.1.2 hS1.2.1 (fun I2 s2 f2 => ?_)
      have g2 : ∀ c, 8 ≤ c → I2 c = I c := fun c hc => by rw [f2 c (by omega) (by omega) (by omega), f1 c (by omega) (by omega)]
      unfold T_He_empty
      simp only [isK_wI, isA_wI, gR_wI, gI_wI, sI_wI, true_and, and_true, Option.some.injEq, exists_eq_left', k0, r10, kh]
      refine sp_forgetBase hhe.1 (BaSt_kp (fun c y1 y2 => by unfold u2; rw [if_neg (by omega)]; exact g2 c (by omega)) b1) (fun I3 s3 f3 => ?_)
      simp only [isK_wI, isA_wI, gR_wI, gI_wI, sI_wI, true_and, and_true, Option.some.injEq, exists_eq_left', k0, r11, ko]
      refine sp_forgetBase hhe.2 (BaSt_kp (fun c y1 y2 => by unfold u2; rw [if_neg (by omega), f3 c (by omega)]; unfold u2; rw [if_neg (by omega)]; exact g2 c (by omega)) b2) (fun I4 s4 f4 => ?_)
      simp only [isK_wI, isA_wI, gR_wI, gI_wI, sI_wI, true_and, and_true, Option.some.injEq, exists_eq_left', k0]
      refine sp_clearClaims (p := p') hT (fun I5 s5 f5 => ?_)
      simp only [isK_wI, isA_wI, gR_wI, gI_wI, sI_wI, true_and, and_true, Option.some.injEq, exists_eq_left', k0, r5, kd]
      refine sp_Poclear hPo (fun f hf6 => ?_)
      simp only [isK_wI, isA_wI, gR_wI, gI_wI, sI_wI, true_and, and_true, Option.some.injEq, exists_eq_left', k0]
      have g6 : ∀ c, c ≠ 126 → (∀ r, r < 6 → c ≠ 129 + 2 * r) → c ≠ 165 → c ≠ 166 → c ≠ 182 → c ≠ 183 → sAll I5 (125 + 1) f c = I2 c := fun c y1 y2 y3 y4 y5 y6 => by
        rw [sAll_ne (by omega), f5 c y2, f4 c (by omega)]
        unfold u2; rw [if_neg (by omega), f3 c (by omega)]
        unfold u2; rw [if_neg (by omega)]
      have nc : ∀ c, (c < 129 ∨ 139 < c) → ∀ r, r < 6 → c ≠ 129 + 2 * r := fun c hc r hr => by omega
      have m1 : BaSt n ord (hh sw + 1) (Gh H) 0 (sAll I5 (125 + 1) f) := BaSt_kp (fun c y1 y2 => by
        rw [sAll_ne (by omega), f5 c (nc c (by omega)), f4 c (by omega)]
        unfold u2; rw [if_neg (by omega)]) s3
      have m2 : BaSt n ord (oo sw + 1) (Gh O) 0 (sAll I5 (125 + 1) f) := BaSt_kp (fun c y1 y2 => by
        rw [sAll_ne (by omega), f5 c (nc c (by omega))]) s4
      have lo : ∀ b, (b = 141 ∨ b = 149 ∨ b = 157) → ∀ c, b ≤ c → c ≤ b + 7 → sAll I5 (125 + 1) f c = I c := fun b hb c y1 y2 => by
        rw [g6 c (by omega) (nc c (by omega)) (by omega) (by omega) (by omega) (by omega), g2 c (by omega)]
      refine sp_forgetAll hT ⟨0, m1⟩ ⟨0, m2⟩ ⟨t3, BaSt_kp (lo 141 (by omega)) b3⟩ ⟨t4, BaSt_kp (lo 149 (by omega)) b4⟩ ⟨t5, BaSt_kp (lo 157 (by omega)) b5⟩ (fun I7 z1 z2 z3 z4 z5 f7 => ?_)
      have w8 : ∀ c, c < 8 → I7 c = I2 c := fun c hc => by rw [f7 c (by omega) (by omega) (by omega) (by omega) (by omega), g6 c (by omega) (nc c (by omega)) (by omega) (by omega) (by omega) (by omega)]
      refine h1 n' p' n1 n3 rfl rfl hpr hz I7 ⟨⟨⟨fun d _ => Dhom0, ⟨Nat.zero_le _, fun r hr => absurd hr (Nat.not_lt_zero r)⟩, ⟨Nat.zero_le _, fun r hr => absurd hr (Nat.not_lt_zero r)⟩, fun r hr => ⟨fun d _ => Dhom0, fun _ _ _ _ => rfl, fun _ _ _ _ _ => rfl⟩⟩, ?_, ?_, hpr⟩, ?_, fun r hr => ?_, ⟨HeSt_0 ?_, HeSt_0 ?_⟩, ⟨⟨0, Ba0_to _ z1⟩, 0, Ba0_to _ z2⟩, ⟨0, Ba0_to _ z3⟩, ⟨0, Ba0_to _ z4⟩, 0, Ba0_to _ z5⟩ (fun c hc => ?_)
      · exact PrSt_kp w8 s2
      · obtain ⟨y1, y2⟩ := s1
        have y6 : I7 6 = I1 6 := by rw [w8 6 (by omega), f2 6 (by omega) (by omega) (by omega)]
        have y7 : I7 7 = I1 7 := by rw [w8 7 (by omega), f2 7 (by omega) (by omega) (by omega)]
        exact ⟨by rw [y6]; exact y1, fun a a1 a2 => by rw [y7]; exact y2 a a1 a2⟩
      · rw [f7 _ (by omega) (by omega) (by omega) (by omega) (by omega), sAll_eq]; exact Rep_0 hf6
      · rw [f7 _ (by omega) (by omega) (by omega) (by omega) (by omega), sAll_ne (by omega)]; exact s5 r hr
      · rw [f7 _ (by omega) (by omega) (by omega) (by omega) (by omega), sAll_ne (by omega), f5 _ (nc _ (by omega)), f4 _ (by omega), u2_ne (by omega), f3 _ (by omega), u2_eq]; rfl
      · rw [f7 _ (by omega) (by omega) (by omega) (by omega) (by omega), sAll_ne (by omega), f5 _ (nc _ (by omega)), f4 _ (by omega), u2_eq]; rfl
      · rw [f7 _ (by omega) (by omega) (by omega) (by omega) (by omega), g6 c (by omega) (nc c (by omega)) (by omega) (by omega) (by omega) (by omega), g2 c (by omega)]
    · refine ⟨fun z => absurd rfl z, fun _ => h0 (fun ⟨n2, p', a, b, c, d, e⟩ => ?_)⟩
      have := hnp p' d (prm_lt e).2
      rw [e] at this; exact absurd this (by decide)
end HT3
