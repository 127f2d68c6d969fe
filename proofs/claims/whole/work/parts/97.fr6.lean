section FR6
variable {p : Nat} {n ord d : Nat} {M : Mem} {I : Nat → Nat → Int32} {sw : Bool}
theorem op_free [NeZero p] {D : Nat → Mo2 → Fin p} {H O : Hp p} {C : Nat → Nat → Mo2 → Fin p} {x y : Int32} {post : Int32 → Mem → Prop} (hT : HTOK M sw) (hS : CSt n ord D H O C sw I) (h1 : ∀ i j, i ≤ 3 → j ≤ 10 → x = nI i → y = nI j → ∀ v, (∀ v', FrA n ord (Gh H) i j v' → v' = v) → ∀ I', CSt n ord D H O C sw I' → FR I I' → post v (wI M I')) (h0 : (¬ ∃ i j, i ≤ 3 ∧ j ≤ 10 ∧ x = nI i ∧ y = nI j) → post (-1000000) (wI M I)) : T_HT_free 0 x y (wI M I) post := by
  have hsw := hh_ne sw
  have hhe := hT.he
  have hT' := hT
  obtain ⟨⟨k0, r0, r1, r2, r3, r4, r5, r6, r7, r8, r9, r10, r11⟩, ⟨a78, a79, a80⟩, hPo, _, _, _, hM⟩ := hT'
  have k1 := hM.1.1.1
  have kh := hhe.1.1.2.1
  have hBB := hhe.1.2.2.2.2
  have kb := hBB.2.1.1
  have hC := hS.1.2
  have hF := prm_field hC.2.2
  have hn := hC.1.1.1
  have ho := hC.1.1.2
  have hG := hS.hom1.1
  have hG1 : ∀ e g, Gh H e g → 1 ≤ e := fun e g ⟨r, z1, z2, z3⟩ => by subst z2 z3; exact (hS.1.1.2.1.2 r z1).1.1
  unfold T_HT_free B_HT_free_19
  refine ⟨fun z => h0 (fun ⟨i, j, w1, w2, w3, w4⟩ => ?_), fun z => ⟨fun z' => h0 (fun ⟨i, j, w1, w2, w3, w4⟩ => ?_), fun z' => ⟨fun q => h0 (fun ⟨i, j, w1, w2, w3, w4⟩ => ?_), fun q => ⟨fun q' => ?_, fun q' => h0 (fun ⟨i, j, w1, w2, w3, w4⟩ => ?_)⟩⟩⟩⟩
  · rw [w3, show (0 : Int32) = nI 0 from rfl, nI_ltI (by omega) (by omega)] at z; omega
  · rw [w3, show (3 : Int32) = nI 3 from rfl, nI_ltI (by omega) (by omega)] at z'; omega
  · rw [w4, show (0 : Int32) = nI 0 from rfl, nI_ltI (by omega) (by omega)] at q; omega
  · obtain ⟨i, i1, i2, rfl⟩ := betw (a := 0) (b := 3) (by omega) z z' (by omega)
    obtain ⟨j, j1, j2, rfl⟩ := betw (a := 0) (b := 10) (by omega) q (by rw [Int32.not_lt]; exact q') (by omega)
    have h1' := h1 i j i2 j2 rfl rfl
    clear h0 h1
    simp only [isK_wI, isA_wI, gR_wI, gI_wI, sI_wI, true_and, and_true, Option.some.injEq, exists_eq_left', k0, r0, k1]
    refine sp_letterCount hM.1 hC.1 ?_
    rw [nI_leI (by omega) (by omega)]
    refine ⟨fun hin => ?_, fun hin => h1' 0 (fun v' hv => ?_) I hS (fun c _ => rfl)⟩
    · simp only [isK_wI, isA_wI, gR_wI, gI_wI, sI_wI, true_and, and_true, Option.some.injEq, exists_eq_left', k0, r10, kh]
      refine up_heap (d1 := j + 1) hT hS (by omega) (nI_pred j).symm (fun I1 r hS1 hr hB1 hf1 => ?_)
      have hC1 := hS1.1.2
      have hfr1 : FR I I1 := fun c hc => hf1 c (by omega) (by omega) (by omega)
      have hS2 : ∀ I', (∀ c, (c < 8 ∨ 124 < c) → I' c = I1 c) → CSt n ord D H O C sw I' ∧ FR I I' := fun I' hf => ⟨CSt_kp (fun c hc => hf c (by omega)) hS1, fun c hc => by rw [hf c (by omega)]; exact hfr1 c hc⟩
      refine ⟨k0, ?_⟩
      rcases (show i = 0 ∨ i = 1 ∨ i = 2 ∨ i = 3 by omega) with rfl | rfl | rfl | rfl
      · refine ⟨fun w => absurd w (by decide), fun _ => ⟨k0, ?_⟩, fun w => absurd w (by decide), fun w => absurd w (by decide)⟩
        have := h1' _ (fun v' hv => FrA0 hF hn.1 hn.2 ho hG hG1 hv) I1 hS1 hfr1
        unfold T_HT_freeAtGround B_HT_freeAtGround_9
        rw [show (0 : Int32) = nI 0 from rfl, nI_eq (by omega) (by omega)]
        refine ⟨fun w => ?_, fun w => ?_⟩
        · rw [if_neg w] at this; exact this
        · rw [if_pos w] at this; exact this
      · refine ⟨fun w => absurd w (by decide), fun w => absurd w (by decide), fun _ => ⟨kb, ?_⟩, fun w => absurd w (by decide)⟩
        exact sp_neededRows hBB hB1 (by omega) (h1' _ (fun v' hv => FrA1 hF hn.1 hn.2 hG hG1 hv) I1 hS1 hfr1)
      · refine ⟨fun w => absurd w (by decide), fun w => absurd w (by decide), fun w => absurd w (by decide), fun _ => ⟨k0, ?_⟩⟩
        have tail : ∀ s I2, TopV n ord (Gh H) j s → (∀ c, (c < 8 ∨ 124 < c) → I2 c = I1 c) → B_HT_freeAtSecond_23 post 0 (hh sw + 1) (nI j) (nI n) s (wI M I2) := by
          intro s I2 ht hf
          have hB2 := BaSt_kp (I' := I2) (fun c y1 y2 => hf c (by omega)) hB1
          refine ⟨k0, sp_signedChains hBB hB2 j2 (by omega) (by omega) ⟨k0, ?_⟩⟩
          have := h1' _ (fun v' hv => FrA2 hF hin hn.2 ho hG hG1 ht hv) I2 (hS2 I2 hf).1 (hS2 I2 hf).2
          unfold T_HT_freeAtGround B_HT_freeAtGround_9
          rw [show (0 : Int32) = nI 0 from rfl, nI_eq (by omega) (by omega)]
          refine ⟨fun w => ⟨kb, sp_neededRows hBB hB2 (by omega) ?_⟩, fun w => ⟨kb, sp_neededRows hBB hB2 (by omega) ?_⟩⟩
          · rw [if_neg w] at this; exact this
          · rw [if_pos w] at this; exact this
        unfold T_HT_freeAtSecond
        simp only [isK_wI, isA_wI, gR_wI, gI_wI, sI_wI, true_and, and_true, Option.some.injEq, exists_eq_left', k0, r0, k1]
        refine sp_letterCount hM.1 hC1.1 ?_
        rw [show (3 : Int32) = nI 3 from rfl, nI_eq (by omega) (by omega)]
        refine ⟨fun w => tail 0 I1 (Or.inl ⟨Or.inl w, rfl⟩) (fun c _ => rfl), fun w => ⟨k0, ?_⟩⟩
        exact sp_freeAtThird hT hBB hC1 hG hB1 j2 (by omega) w (fun y => tail 0 I1 (Or.inl ⟨Or.inr y, rfl⟩) (fun c _ => rfl)) (fun J r' I2 y1 y2 hf => tail _ I2 (Or.inr ⟨w, J, r', y1, y2, rfl⟩) hf)
      · refine ⟨fun _ => ⟨k0, ?_⟩, fun w => absurd w (by decide), fun w => absurd w (by decide), fun w => absurd w (by decide)⟩
        exact sp_freeAtThird hT hBB hC1 hG hB1 j2 (by omega) (by omega) (fun y => h1' _ (fun v' hv => (FrA3 hF (by omega) hG hv).1 y) I1 hS1 hfr1) (fun J r' I2 y1 y2 hf => h1' _ (fun v' hv => (FrA3 hF (by omega) hG hv).2 J r' y1 y2) I2 (hS2 I2 hf).1 (hS2 I2 hf).2)
    · rcases hv with ⟨_, e⟩ | ⟨e, _⟩
      · exact e
      · omega
  · rw [w4, show (10 : Int32) = nI 10 from rfl, nI_leI (by omega) (by omega)] at q'; omega
end FR6
