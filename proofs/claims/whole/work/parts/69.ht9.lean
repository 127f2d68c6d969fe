/-! HeapTower: quotient, regular, dimension, parts, sum -/
/-- rows by the other's base -/
def Out {p : Nat} [NeZero p] (n : Nat) (H : Hp p) (G : Nat → (Mo2 → Fin p) → Prop) (l : Nat) : Prop := (∀ r, r < H.1 → H.2.1 r < l → VP n G (H.2.1 r) (H.2.2 r)) ∧ (l = 6 ∨ ∃ r, r < H.1 ∧ H.2.1 r = l ∧ ¬ VP n G (H.2.1 r) (H.2.2 r))
section HT9
variable {M : Mem} {I : Nat → Nat → Int32} {n ord p : Nat} {sw : Bool}
theorem op_quotient [NeZero p] {D : Nat → Mo2 → Fin p} {H O : Hp p} {C : Nat → Nat → Mo2 → Fin p} {x : Int32} {post : Int32 → Mem → Prop} (hT : HTOK M sw) (hS : CSt n ord D H O C sw I) (h1 : ∀ d f, evP D → dg1 D = f + 1 → x = nI d → d + f ≤ 10 → ∀ I', CSt n ord D H O C sw I' → FR I I' → post (nI (nM n ord d) - nI (nM n ord (d + f) - vdm n ord (Gh H) (d + f)) + nI (nM n ord (d + f) - vdm n ord (Gquo H D) (d + f))) (wI M I')) (h0 : (¬ ∃ d f, evP D ∧ dg1 D = f + 1 ∧ x = nI d ∧ d + f ≤ 10) → post (-1000000) (wI M I)) : T_HT_quotient 0 x (wI M I) post := by
  have hsw := hh_ne sw
  have hhe := hT.he
  have hT' := hT
  obtain ⟨⟨k0, r0, r1, r2, r3, r4, r5, r6, r7, r8, r9, r10, r11⟩, ⟨a78, _⟩, hPo, _, ⟨c1, c2, c3⟩, _, hM⟩ := hT'
  have kh := hhe.1.1.2.1
  have hBB := hhe.1.2.2.2.2
  have kb := hBB.2.1.1
  have kd := hPo.1.1
  have k1 := hM.1.1.1
  have k159 := c3.2.1.1
  have hp97 := (prm_lt hS.1.2.2.2).2
  have hle := dg1_le D
  have NO : ∀ {P : Prop}, P → (∀ d f, evP D → dg1 D = f + 1 → x = nI d → d + f ≤ 10 → ¬ P) → post (-1000000) (wI M I) := fun hp hh => h0 (fun ⟨d, f, x1, x2, x3, x4⟩ => hh d f x1 x2 x3 x4 hp)
  unfold T_HT_quotient B_HT_quotient_34
  simp only [isK_wI, isA_wI, gR_wI, gI_wI, sI_wI, true_and, and_true, Option.some.injEq, exists_eq_left', k0, r5, kd]
  refine sp_Podegree hPo hp97 hS.2.1 ?_
  simp only [isK_wI, isA_wI, gR_wI, gI_wI, sI_wI, true_and, and_true, Option.some.injEq, exists_eq_left', k0, r5, kd]
  refine sp_isEven hPo hp97 hS.2.1 (fun hev => ?_) (fun hev => ⟨fun _ => NO hev (fun d f x1 _ _ _ y => y x1), fun z => absurd rfl z⟩)
  refine ⟨fun z => absurd z (by decide), fun _ => ⟨fun z => NO ((neg1_lt hle).mp z) (fun d f _ x2 _ _ y => by omega), fun z1 => ⟨fun z => NO z (fun d f _ _ x3 x4 y => ?_), fun z2 => ?_⟩⟩⟩
  · rw [x3, show (0 : Int32) = nI 0 from rfl, nI_ltI (by omega) (by omega)] at y; omega
  · obtain ⟨f, hf⟩ : ∃ f, dg1 D = f + 1 := by
      by_cases q : dg1 D = 0
      · exact absurd ((neg1_lt hle).mpr q) z1
      · exact ⟨dg1 D - 1, by omega⟩
    rw [hf, nI_pred, show (10 : Int32) = nI 10 from rfl, pk_sub (show f ≤ 10 by omega)]
    refine ⟨fun y => ?_, fun y => NO y (fun d f' _ x2 x3 x4 y => ?_)⟩
    · obtain ⟨d, d1, d2, rfl⟩ := betw (a := 0) (b := 10 - f) (by omega) z2 (by rw [Int32.not_lt]; exact y) (by omega)
      clear h0 NO
      simp only [isK_wI, isA_wI, gR_wI, gI_wI, sI_wI, true_and, and_true, Option.some.injEq, exists_eq_left', k0, r0, k1]
      refine sp_amount hM.1 hS.1.2.1 (by omega) ?_
      rw [nI_add]
      simp only [isK_wI, isA_wI, gR_wI, gI_wI, sI_wI, true_and, and_true, Option.some.injEq, exists_eq_left', k0, r10, kh]
      refine up_heap (d1 := d + f + 1) hT hS (by omega) (nI_pred _).symm (fun I1 r hS1 hr hB1 hf1 => ?_)
      simp only [isK_wI, isA_wI, gR_wI, gI_wI, sI_wI, true_and, and_true, Option.some.injEq, exists_eq_left', k0, kb]
      refine sp_standardCount hBB hB1 (by omega) ?_
      simp only [isK_wI, isA_wI, gR_wI, gI_wI, sI_wI, true_and, and_true, Option.some.injEq, exists_eq_left', k0]
      refine up_quo (d1 := d + f + 1) hT hS1 (by omega) (nI_pred _).symm hf (fun I2 r2 hS2 hr2 hB2 hf2 => ?_)
      simp only [isK_wI, isA_wI, gR_wI, gI_wI, sI_wI, true_and, and_true, Option.some.injEq, exists_eq_left', k0, k159]
      exact sp_standardCount c3 hB2 (by omega) (h1 d f hev hf rfl (by omega) I2 hS2 (fun c hc => by rw [hf2 c (by omega) (by omega) (by omega) (by omega), hf1 c (by omega) (by omega) (by omega)]))
    · have : f' = f := by omega
      subst this
      rw [x3, nI_leI (by omega) (by omega)] at y; omega
theorem vdm_quo [NeZero p] (H : Hp p) (D : Nat → Mo2 → Fin p) (e : Nat) : vdm n ord (Gh H) e ≤ vdm n ord (Gquo H D) e := dm_mono (fun u ⟨f, a, b⟩ => ⟨f, VP_mono (fun e he g z => Or.inl z) f a, b⟩)
theorem op_regular [NeZero p] {D : Nat → Mo2 → Fin p} {H O : Hp p} {C : Nat → Nat → Mo2 → Fin p} {post : Int32 → Mem → Prop} (hT : HTOK M sw) (hS : CSt n ord D H O C sw I) (h1 : ∀ f, evP D → dg1 D = f + 1 → ∀ v, (v = 1 ∧ ∀ d, d + f ≤ 10 → vdm n ord (Gquo H D) (d + f) - vdm n ord (Gh H) (d + f) = nM n ord d - vdm n ord (Gh H) d) ∨ (v = 0 ∧ ∃ d, d + f ≤ 10 ∧ vdm n ord (Gquo H D) (d + f) - vdm n ord (Gh H) (d + f) ≠ nM n ord d - vdm n ord (Gh H) d) → ∀ I', CSt n ord D H O C sw I' → FR I I' → post v (wI M I')) (h0 : (¬ ∃ f, evP D ∧ dg1 D = f + 1) → post (-1000000) (wI M I)) : T_HT_regular 0 (wI M I) post := by
  have hsw := hh_ne sw
  have hhe := hT.he
  have hT' := hT
  obtain ⟨⟨k0, r0, r1, r2, r3, r4, r5, r6, r7, r8, r9, r10, r11⟩, ⟨a78, _⟩, hPo, _, ⟨c1, c2, c3⟩, _, hM⟩ := hT'
  have kh := hhe.1.1.2.1
  have hBB := hhe.1.2.2.2.2
  have kb := hBB.2.1.1
  have kd := hPo.1.1
  have k159 := c3.2.1.1
  have hp97 := (prm_lt hS.1.2.2.2).2
  have hle := dg1_le D
  have hPr := hS.1.2.1
  unfold T_HT_regular B_HT_regular_22
  simp only [isK_wI, isA_wI, gR_wI, gI_wI, sI_wI, true_and, and_true, Option.some.injEq, exists_eq_left', k0, r5, kd]
  refine sp_Podegree hPo hp97 hS.2.1 ?_
  simp only [isK_wI, isA_wI, gR_wI, gI_wI, sI_wI, true_and, and_true, Option.some.injEq, exists_eq_left', k0, r5, kd]
  refine sp_isEven hPo hp97 hS.2.1 (fun hev => ?_) (fun hev => ⟨fun _ => h0 (fun ⟨f, x1, x2⟩ => hev x1), fun z => absurd rfl z⟩)
  refine ⟨fun z => absurd z (by decide), fun _ => ⟨fun z => ?_, fun z => h0 (fun ⟨f, x1, x2⟩ => ?_)⟩⟩
  · obtain ⟨f, hf⟩ : ∃ f, dg1 D = f + 1 := by
      by_cases q : dg1 D = 0
      · rw [q] at z; exact absurd z (by decide)
      · exact ⟨dg1 D - 1, by omega⟩
    clear h0
    rw [hf, nI_pred]
    have key : ∀ t d I', d + f + t = 11 → CSt n ord D H O C sw I' → FR I I' → (∀ d', d' < d → vdm n ord (Gquo H D) (d' + f) - vdm n ord (Gh H) (d' + f) = nM n ord d' - vdm n ord (Gh H) d') → L_HT_regular_27 post (t + 1) 0 (nI f) (nI (d + f)) (wI M I') := by
      intro t
      induction t with
      | zero =>
        intro d I' hd hS' hFR hall
        show B_HT_regular_27 _ post 0 _ _ _
        unfold B_HT_regular_27
        refine ⟨fun _ => h1 f hev hf 1 (Or.inl ⟨rfl, fun d' hd' => hall d' (by omega)⟩) I' hS' hFR, fun y => ?_⟩
        exfalso; apply y
        rw [show (10 : Int32) = nI 10 from rfl, nI_ltI (by omega) (by omega)]; omega
      | succ t ih =>
        intro d I' hd hS' hFR hall
        show B_HT_regular_27 (L_HT_regular_27 post (t + 1)) post 0 _ _ _
        unfold B_HT_regular_27
        refine ⟨fun y => ?_, fun _ => ?_⟩
        · rw [show (10 : Int32) = nI 10 from rfl, nI_ltI (by omega) (by omega)] at y; omega
        · simp only [isK_wI, isA_wI, gR_wI, gI_wI, sI_wI, true_and, and_true, Option.some.injEq, exists_eq_left', k0, r10, kh]
          refine up_heap (d1 := d + f + 1) hT hS' (by omega) (nI_pred _).symm (fun I1 r hS1 hr hB1 hf1 => ?_)
          simp only [isK_wI, isA_wI, gR_wI, gI_wI, sI_wI, true_and, and_true, Option.some.injEq, exists_eq_left', k0, kb]
          refine sp_standardCount hBB hB1 (by omega) ?_
          simp only [isK_wI, isA_wI, gR_wI, gI_wI, sI_wI, true_and, and_true, Option.some.injEq, exists_eq_left', k0, kb]
          refine up_quo (d1 := d + f + 1) hT hS1 (by omega) (nI_pred _).symm hf (fun I2 r2 hS2 hr2 hB2 hf2 => ?_)
          simp only [isK_wI, isA_wI, gR_wI, gI_wI, sI_wI, true_and, and_true, Option.some.injEq, exists_eq_left', k0, kb, k159]
          refine sp_standardCount c3 hB2 (by omega) ?_
          simp only [isK_wI, isA_wI, gR_wI, gI_wI, sI_wI, true_and, and_true, Option.some.injEq, exists_eq_left', k0, kb]
          rw [pk_sub (show f ≤ d + f by omega), Nat.add_sub_cancel]
          have hB1' := BaSt_kp (I' := I2) (fun c y1 y2 => hf2 c (by omega) (by omega) (by omega) (by omega)) hB1
          refine sp_standardCount hBB hB1' (by omega) ?_
          have l1 := vdm_le n ord (Gquo H D) (d + f)
          have l2 := vdm_quo (n := n) (ord := ord) H D (d + f)
          have l3 := (nM_b hPr (show d + f ≤ 10 by omega)).1
          have l4 := (nM_b hPr (show d ≤ 10 by omega)).1
          rw [pk_sub (by omega), nI_eq (by omega) (by omega), show nM n ord (d + f) - vdm n ord (Gh H) (d + f) - (nM n ord (d + f) - vdm n ord (Gquo H D) (d + f)) = vdm n ord (Gquo H D) (d + f) - vdm n ord (Gh H) (d + f) by omega]
          have hFR2 : FR I I2 := fun c hc => by rw [hf2 c (by omega) (by omega) (by omega) (by omega), hf1 c (by omega) (by omega) (by omega), hFR c hc]
          refine ⟨fun y => ?_, fun y => h1 f hev hf 0 (Or.inr ⟨rfl, d, by omega, y⟩) I2 hS2 hFR2⟩
          rw [show nI (d + f) + 1 = nI (d + 1 + f) by rw [show (1 : Int32) = nI 1 from rfl, nI_add]; congr 1; omega]
          refine ih (d + 1) I2 (by omega) hS2 hFR2 (fun d' hd' => ?_)
          by_cases q : d' = d
          · rw [q]; exact y
          · exact hall d' (by omega)
    have := key (11 - f) 0 I (by omega) hS (fun c _ => rfl) (fun d' hd' => absurd hd' (Nat.not_lt_zero d'))
    rw [Nat.zero_add] at this
    exact ⟨_, this⟩
  · rw [x2, nI_pred] at z; exact z (nI_ge0 (by omega))
theorem op_dimension [NeZero p] {D : Nat → Mo2 → Fin p} {H O : Hp p} {C : Nat → Nat → Mo2 → Fin p} {x y : Int32} {post : Int32 → Mem → Prop} (hT : HTOK M sw) (hS : CSt n ord D H O C sw I) (h1 : ∀ d, d ≤ 10 → y = nI d → ∀ v, (x.toInt = 0 ∧ v = nI (vdm n ord (Gh H) d)) ∨ (x.toInt = 1 ∧ v = nI (vdm n ord (Gh O) d)) ∨ (x.toInt = 2 ∧ v = nI (vdm n ord (Gsum H O) d)) ∨ (x.toInt = 3 ∧ v = nI (vdm n ord (Gh H) d) + nI (vdm n ord (Gh O) d) - nI (vdm n ord (Gsum H O) d)) ∨ (x.toInt = 4 ∧ v = nI (vdm n ord (Gprd n ord H O) d)) → ∀ I', CSt n ord D H O C sw I' → FR I I' → post v (wI M I')) (h0 : (¬ ((0 ≤ x.toInt ∧ x.toInt ≤ 4) ∧ ∃ d, d ≤ 10 ∧ y = nI d)) → post (-1000000) (wI M I)) : T_HT_dimension 0 x y (wI M I) post := by
  have hsw := hh_ne sw
  have hhe := hT.he
  have hT' := hT
  obtain ⟨⟨k0, r0, r1, r2, r3, r4, r5, r6, r7, r8, r9, r10, r11⟩, ⟨a78, _⟩, hPo, _, ⟨c1, c2, c3⟩, _, hM⟩ := hT'
  have kh := hhe.1.1.2.1
  have ko := hhe.2.1.2.1
  have hBB := hhe.1.2.2.2.2
  have hBO := hhe.2.2.2.2.2
  have kb := hBB.2.1.1
  have kbo := hBO.2.1.1
  have k141 := c1.2.1.1
  have k150 := c2.2.1.1
  unfold T_HT_dimension B_HT_dimension_10
  refine ⟨fun z => h0 (fun ⟨_, d, d2, e⟩ => ?_), fun z => ⟨fun z2 => ?_, fun z2 => h0 (fun ⟨_, d, d2, e⟩ => ?_)⟩⟩
  · rw [e, show (0 : Int32) = nI 0 from rfl, nI_ltI (by omega) (by omega)] at z; omega
  · obtain ⟨d, d1, d2, rfl⟩ := betw (a := 0) (b := 10) (by omega) z (by rw [Int32.not_lt]; exact z2) (by omega)
    refine ⟨fun w => h0 (fun ⟨w2, _⟩ => by omega), ?_⟩
    clear h0
    have hx := (nI_pred d).symm
    simp only [isK_wI, isA_wI, gR_wI, gI_wI, sI_wI, true_and, and_true, Option.some.injEq, exists_eq_left', k0, r10, r11, kh, ko]
    refine ⟨fun w => ?_, fun w => ?_, fun w => ?_, fun w => ?_, fun w => ?_⟩
    · refine up_heap (d1 := d + 1) hT hS (by omega) hx (fun I1 r hS1 hr hB1 hf1 => ?_)
      simp only [isK_wI, isA_wI, gR_wI, gI_wI, sI_wI, true_and, and_true, Option.some.injEq, exists_eq_left', k0, kb]
      exact sp_leadingCount hBB hM.1 hS1.1.2.1 hB1 (by omega) (h1 d d2 rfl _ (Or.inl ⟨w, rfl⟩) I1 hS1 (fun c hc => hf1 c (by omega) (by omega) (by omega)))
    · refine up_other (d1 := d + 1) hT hS (by omega) hx (fun I1 r hS1 hr hB1 hf1 => ?_)
      simp only [isK_wI, isA_wI, gR_wI, gI_wI, sI_wI, true_and, and_true, Option.some.injEq, exists_eq_left', k0, kbo]
      exact sp_leadingCount hBO hM.1 hS1.1.2.1 hB1 (by omega) (h1 d d2 rfl _ (Or.inr (Or.inl ⟨w, rfl⟩)) I1 hS1 (fun c hc => hf1 c (by omega) (by omega) (by omega)))
    · refine up_sum (d1 := d + 1) hT hS (by omega) hx (fun I1 r hS1 hr hB1 hf1 => ?_)
      simp only [isK_wI, isA_wI, gR_wI, gI_wI, sI_wI, true_and, and_true, Option.some.injEq, exists_eq_left', k0, k141]
      exact sp_leadingCount c1 hM.1 hS1.1.2.1 hB1 (by omega) (h1 d d2 rfl _ (Or.inr (Or.inr (Or.inl ⟨w, rfl⟩))) I1 hS1 hf1)
    · refine up_heap (d1 := d + 1) hT hS (by omega) hx (fun I1 r hS1 hr hB1 hf1 => ?_)
      simp only [isK_wI, isA_wI, gR_wI, gI_wI, sI_wI, true_and, and_true, Option.some.injEq, exists_eq_left', k0, kb]
      refine sp_leadingCount hBB hM.1 hS1.1.2.1 hB1 (by omega) ?_
      simp only [isK_wI, isA_wI, gR_wI, gI_wI, sI_wI, true_and, and_true, Option.some.injEq, exists_eq_left', k0, r11, ko]
      refine up_other (d1 := d + 1) hT hS1 (by omega) hx (fun I2 r2 hS2 hr2 hB2 hf2 => ?_)
      simp only [isK_wI, isA_wI, gR_wI, gI_wI, sI_wI, true_and, and_true, Option.some.injEq, exists_eq_left', k0, kbo]
      refine sp_leadingCount hBO hM.1 hS2.1.2.1 hB2 (by omega) ?_
      simp only [isK_wI, isA_wI, gR_wI, gI_wI, sI_wI, true_and, and_true, Option.some.injEq, exists_eq_left', k0]
      refine up_sum (d1 := d + 1) hT hS2 (by omega) hx (fun I3 r3 hS3 hr3 hB3 hf3 => ?_)
      simp only [isK_wI, isA_wI, gR_wI, gI_wI, sI_wI, true_and, and_true, Option.some.injEq, exists_eq_left', k0, k141]
      exact sp_leadingCount c1 hM.1 hS3.1.2.1 hB3 (by omega) (h1 d d2 rfl _ (Or.inr (Or.inr (Or.inr (Or.inl ⟨w, rfl⟩)))) I3 hS3 (fun c hc => by rw [hf3 c hc, hf2 c (by omega) (by omega) (by omega), hf1 c (by omega) (by omega) (by omega)]))
    · refine up_prd (d1 := d + 1) hT hS (by omega) hx (fun I1 r hS1 hr hB1 hf1 => ?_)
      simp only [isK_wI, isA_wI, gR_wI, gI_wI, sI_wI, true_and, and_true, Option.some.injEq, exists_eq_left', k0, k150]
      exact sp_leadingCount c2 hM.1 hS1.1.2.1 hB1 (by omega) (h1 d d2 rfl _ (Or.inr (Or.inr (Or.inr (Or.inr ⟨w, rfl⟩)))) I1 hS1 hf1)
  · rw [e, show (10 : Int32) = nI 10 from rfl, nI_leI (by omega) (by omega)] at z2; omega
theorem sp_leastOutside [NeZero p] {h b r0' : Nat} {H : Hp p} {G : Nat → (Mo2 → Fin p) → Prop} {post : Int32 → Mem → Prop} (hT : HTOK M sw) (hH : HeOK M h) (hB : BaOK M b) (hC : Cfg n ord p I) (hS : HeSt n h H.1 H.2.1 H.2.2 I) (hG : ∀ e g, G e g → hom n e g) (hSt : BaSt n ord b G r0' I) (hr6 : 6 ≤ r0') (hp : ∀ g l, l ≤ 6 → Out n H G l → post (nI l) (wI M (sAll I 78 g))) : T_HT_leastOutside 0 h b (wI M I) post := by
  obtain ⟨⟨k0, r0, r1, r2, r3, r4, r5, r6, r7, r8, r9, r10, r11⟩, ⟨a78, _⟩, hPo, _, _, _, hM⟩ := hT
  have kh := hH.1.2.1
  have h160 := hH.1.1
  have kb := hB.2.1.1
  have hb := hB.1.1
  have k1 := hM.1.1.1
  have hF := prm_field hC.2.2
  have hp97 := (prm_lt hC.2.2).2
  have h6 := hS.2.1
  have key : ∀ t r l g, r + t = H.1 → l ≤ 6 → (∀ r', r' < r → H.2.1 r' < l → VP n G (H.2.1 r') (H.2.2 r')) → (l = 6 ∨ ∃ r', r' < H.1 ∧ H.2.1 r' = l ∧ ¬ VP n G (H.2.1 r') (H.2.2 r')) → L_HT_leastOutside_6 post (t + 1) 0 h b (nI l) (nI r) (wI M (sAll I 78 g)) := by
    intro t
    induction t with
    | zero =>
      intro r l g hr hl6 hlo hex
      have hS' : HeSt n h H.1 H.2.1 H.2.2 (sAll I 78 g) := HeSt_kp (fun c hc => sAll_ne (by omega)) hS
      have hrk : r = H.1 := by omega
      subst hrk
      show B_HT_leastOutside_6 _ post 0 h b _ _ _
      unfold B_HT_leastOutside_6
      simp only [isK_wI, isA_wI, gR_wI, gI_wI, sI_wI, true_and, and_true, Option.some.injEq, exists_eq_left', kh]
      refine sp_Hesize hH hS' ?_
      rw [nI_leI (by omega) (by omega)]
      exact ⟨fun _ => hp g l hl6 ⟨hlo, hex⟩, fun z => absurd (Nat.le_refl _) z⟩
    | succ t ih =>
      intro r l g hr hl6 hlo hex
      have hrk : r < H.1 := by omega
      have hS' : HeSt n h H.1 H.2.1 H.2.2 (sAll I 78 g) := HeSt_kp (fun c hc => sAll_ne (by omega)) hS
      obtain ⟨y1, y2, y3, y4⟩ := hS.2.2 r hrk
      show B_HT_leastOutside_6 (L_HT_leastOutside_6 post (t + 1)) post 0 h b _ _ _
      unfold B_HT_leastOutside_6 B_HT_leastOutside_68
      simp only [isK_wI, isA_wI, gR_wI, gI_wI, sI_wI, true_and, and_true, Option.some.injEq, exists_eq_left', kh]
      refine sp_Hesize hH hS' ?_
      rw [nI_leI (by omega) (by omega), show nI r + 1 = nI (r + 1) from nI_add r 1]
      refine ⟨fun z => absurd z (by omega), fun _ => ?_⟩
      simp only [isK_wI, isA_wI, gR_wI, gI_wI, sI_wI, true_and, and_true, Option.some.injEq, exists_eq_left', kh]
      refine sp_HedegreeOf hH hS' hrk ?_
      simp only [isK_wI, isA_wI, gR_wI, gI_wI, sI_wI, true_and, and_true, Option.some.injEq, exists_eq_left', k0, r3, kh]
      refine sp_load hH hS' hrk a78 (by omega) (by omega) (fun g2 hg2 => ?_)
      rw [sAll_sAll]
      simp only [isK_wI, isA_wI, gR_wI, gI_wI, sI_wI, true_and, and_true, Option.some.injEq, exists_eq_left', k0, r3, kb]
      refine sp_restBy hB hM (Cfg_kp (kp_sAll (by omega)) hC) hG (BaSt_kp (fun c z1 z2 => sAll_ne (by omega)) hSt) (by omega) a78 (fun m hm => pl_lt (by omega)) (by omega) ⟨by omega, by omega⟩ (by rw [sAll_eq]; exact hg2) y3 (fun g3 f' w1 w2 w3 => ?_)
      rw [sAll_sAll, nI_leI (by omega) (by omega)]
      refine ⟨fun z => ?_, fun z => ?_⟩
      · refine ih (r + 1) l g3 (by omega) hl6 (fun r' hr' hlt => ?_) hex
        by_cases q : r' = r
        · rw [q] at hlt; omega
        · exact hlo r' (by omega) hlt
      · simp only [isK_wI, isA_wI, gR_wI, gI_wI, sI_wI, true_and, and_true, Option.some.injEq, exists_eq_left', k0, r0, r3, k1]
        have hzz : (∀ i, i < nM n ord (H.2.1 r) → sAll I 78 g3 78 (pl (atm n ord (H.2.1 r) i)) = 0) ↔ VP n G (H.2.1 r) (H.2.2 r) := by
          rw [sAll_eq, ← VV_in (ord := ord) (VP_hom hG) y3, ← isRest_in hF w3]
          constructor
          · intro hz j
            unfold vec
            by_cases q : j < nM n ord (H.2.1 r)
            · rw [if_pos q]
              have := hz j q
              rw [w1 _ (atm_ok q).1] at this
              exact (val_ne hp97 _).mp this
            · rw [if_neg q]
          · intro hz i hi
            rw [w1 _ (atm_ok hi).1]
            have := hz i
            unfold vec at this
            rw [if_pos hi] at this
            exact (val_ne hp97 _).mpr this
        refine sp_isZero (f := g3) hM.1 (PrSt_kp (kp_sAll (by omega)) hC.1) (by omega) a78 ⟨by omega, by omega⟩ (fun v => ?_) (fun v => ?_)
        · refine ⟨fun _ => ih (r + 1) l g3 (by omega) hl6 (fun r' hr' hlt => ?_) hex, fun u => absurd u (by decide)⟩
          by_cases q : r' = r
          · rw [q]; exact hzz.mp v
          · exact hlo r' (by omega) hlt
        · refine ⟨fun u => absurd rfl u, fun _ => ih (r + 1) (H.2.1 r) g3 (by omega) (by omega) (fun r' hr' hlt => ?_) (Or.inr ⟨r, hrk, rfl, fun u => v (hzz.mpr u)⟩)⟩
          by_cases q : r' = r
          · rw [q] at hlt; omega
          · exact hlo r' (by omega) (by omega)
  have := key H.1 0 6 (I 78) (by omega) (Nat.le_refl _) (fun r' hr' => absurd hr' (Nat.not_lt_zero r')) (Or.inl rfl)
  rw [sAll_self] at this
  exact ⟨_, this⟩
theorem op_parts [NeZero p] {D : Nat → Mo2 → Fin p} {H O : Hp p} {C : Nat → Nat → Mo2 → Fin p} {post : Int32 → Mem → Prop} (hT : HTOK M sw) (hS : CSt n ord D H O C sw I) (h : ∀ l1 l2 v, Out n H (Gh O) l1 → Out n O (Gh H) l2 → l1 ≤ 6 → l2 ≤ 6 → (v = if min l1 l2 ≤ 5 then nI (min l1 l2) else -1) → ∀ I', CSt n ord D H O C sw I' → FR I I' → post v (wI M I')) : T_HT_parts 0 (wI M I) post := by
  have hsw := hh_ne sw
  have hhe := hT.he
  have hT' := hT
  obtain ⟨⟨k0, r0, r1, r2, r3, r4, r5, r6, r7, r8, r9, r10, r11⟩, ⟨a78, _⟩, hPo, _, ⟨c1, c2, c3⟩, _, hM⟩ := hT'
  have kh := hhe.1.1.2.1
  have ko := hhe.2.1.2.1
  have hG := hS.hom1
  unfold T_HT_parts B_HT_parts_46
  simp only [isK_wI, isA_wI, gR_wI, gI_wI, sI_wI, true_and, and_true, Option.some.injEq, exists_eq_left', k0, r10, r11, kh, ko]
  refine up_other (d1 := 6) hT hS (by omega) (nI_pred 5).symm (fun I1 r1' hS1 hr1 hB1 hf1 => ?_)
  simp only [isK_wI, isA_wI, gR_wI, gI_wI, sI_wI, true_and, and_true, Option.some.injEq, exists_eq_left', k0, kh, ko]
  refine sp_leastOutside (H := H) hT hhe.1 hhe.2.2.2.2.2 hS1.1.2 hS1.2.2.2.1.1 hG.2.1 hB1 hr1 (fun g l1 hl1 ho1 => ?_)
  have hS2 : CSt n ord D H O C sw (sAll I1 78 g) := CSt_kp (fun c hc => sAll_ne (by omega)) hS1
  simp only [isK_wI, isA_wI, gR_wI, gI_wI, sI_wI, true_and, and_true, Option.some.injEq, exists_eq_left', k0, r10, r11, kh, ko]
  refine up_heap (d1 := 6) hT hS2 (by omega) (nI_pred 5).symm (fun I3 r3' hS3 hr3 hB3 hf3 => ?_)
  simp only [isK_wI, isA_wI, gR_wI, gI_wI, sI_wI, true_and, and_true, Option.some.injEq, exists_eq_left', k0, kh, ko]
  refine sp_leastOutside (H := O) hT hhe.2 hhe.1.2.2.2.2 hS3.1.2 hS3.2.2.2.1.2 hG.1 hB3 hr3 (fun g2 l2 hl2 ho2 => ?_)
  have hS4 : CSt n ord D H O C sw (sAll I3 78 g2) := CSt_kp (fun c hc => sAll_ne (by omega)) hS3
  have hFR : FR I (sAll I3 78 g2) := fun c hc => by rw [sAll_ne (by omega), hf3 c (by omega) (by omega) (by omega), sAll_ne (by omega), hf1 c (by omega) (by omega) (by omega)]
  refine sp_min (by omega) (by omega) ?_
  rw [show (5 : Int32) = nI 5 from rfl, nI_leI (by omega) (by omega)]
  exact ⟨fun z => h l1 l2 _ ho1 ho2 hl1 hl2 (if_pos z).symm _ hS4 hFR, fun z => h l1 l2 _ ho1 ho2 hl1 hl2 (if_neg z).symm _ hS4 hFR⟩
end HT9
