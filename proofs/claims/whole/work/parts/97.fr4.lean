section FR4
variable {p : Nat} {n ord d : Nat} {M : Mem} {I : Nat → Nat → Int32} {sw : Bool}
theorem vdm_lt [NeZero p] (G : Nat → (Mo2 → Fin p) → Prop) (d : Nat) : vdm n ord G d ≤ nM n ord d := ct_le _ _
def EI [NeZero p] (n ord J : Nat) (R : Nat → Nat → Fin p) (T h c : Nat) (K : Nat → Nat → Int32) : Prop := ∃ W Pw ew, RoSt n ord J W Pw ew K ∧ (∀ v, W v → upto R T v) ∧ ((∀ c', c' < c → W (R c')) ∨ h ≤ ct Pw (nM n ord J))
theorem EI.fin [NeZero p] {J T h : Nat} {R : Nat → Nat → Fin p} {K : Nat → Nat → Int32} (h1p : (1 : Fin p) ≠ 0) (hE : EI n ord J R T h T K) (hle : dm (nM n ord J) (upto R T) ≤ h) : ∃ W Pw, ∃ ew : Nat → Nat → Fin p, RoSt n ord J W Pw ew K ∧ ct Pw (nM n ord J) = dm (nM n ord J) (upto R T) := by
  obtain ⟨W, Pw, ew, hR, hW, hd⟩ := hE
  refine ⟨W, Pw, ew, hR, ?_⟩
  have h1 := hR.2.1.2.2.1.dm h1p hR.2.1.1
  have h2 := dm_mono (N := nM n ord J) hW
  rcases hd with z | z
  · have h3 : dm (nM n ord J) (upto R T) ≤ dm (nM n ord J) W := dm_mono (fun v hv => Spn_le hR.2.1.1 (fun s ⟨i, hi, e⟩ => by rw [e]; exact z i hi) v hv)
    omega
  · omega
theorem sp_freeAtThird [NeZero p] {j b r : Nat} {G : Nat → (Mo2 → Fin p) → Prop} {post : Int32 → Mem → Prop} (hT : HTOK M sw) (hB : BaOK M b) (hC : Cfg n ord p I) (hG : ∀ e g, G e g → hom n e g) (hSt : BaSt n ord b G r I) (hj : j ≤ 10) (hr : j < r) (h3 : n = 3) (h0 : j < 3 → post 0 (wI M I)) (h : ∀ J r' I', j = J + 3 → R3 n ord J G r' → (∀ c, (c < 8 ∨ 124 < c) → I' c = I c) → post (nI (nM n ord J - vdm n ord G J) - nI r') (wI M I')) : T_HT_freeAtThird 0 b (nI j) (wI M I) post := by
  have hT' := hT
  obtain ⟨⟨k0, r0, r1, r2, r3, r4, r5, r6, r7, r8, r9, r10, r11⟩, ⟨a78, a79, a80⟩, hPo, _, _, _, hM⟩ := hT'
  have k1 := hM.1.1.1
  have k8 := hM.2.2.1.1
  have kb := hB.2.1.1
  have hb := hB.1.1
  have hF := prm_field hC.2.2
  have h1p : (1 : Fin p) ≠ 0 := hF.1
  have hn3 := hC.1.1.1
  have hord := hC.1.1.2
  unfold T_HT_freeAtThird
  by_cases z3 : j < 3
  · refine ⟨fun q => absurd q ?_, fun _ => h0 z3⟩
    rcases (show j = 0 ∨ j = 1 ∨ j = 2 by omega) with rfl | rfl | rfl <;> decide
  obtain ⟨J, rfl⟩ : ∃ J, j = J + 3 := ⟨j - 3, by omega⟩
  rw [show (3 : Int32) = nI 3 from rfl, pk_sub (show 3 ≤ J + 3 by omega), show J + 3 - 3 = J by omega]
  refine ⟨fun _ => ⟨kb, ?_⟩, fun q => absurd (nI_ge0 (by omega)) q⟩
  have hNb := nM_le n (by omega) ord (by omega) J (by omega)
  have hNc := nM_le n (by omega) ord (by omega) (J + 1) (by omega)
  refine sp_standardCount hB hSt (by omega) ?_
  simp only [isK_wI, isA_wI, gR_wI, gI_wI, sI_wI, true_and, and_true, Option.some.injEq, exists_eq_left', k0, r2, k8]
  obtain ⟨e, hE⟩ := Ech_of (N := nM n ord (J + 1)) hF (VV_sub (ord := ord) (VP_sub n G (J + 1))) (VV_range _)
  have hR3 := e_rank hF h3 hG hE
  have hle : dm (nM n ord J) (upto (erow n ord J (leadB (VV n ord J (VP n G J))) (leadB (VV n ord (J + 1) (VP n G (J + 1)))) e) (3 * nM n ord (J + 1))) ≤ nM n ord J - vdm n ord G J := e_le
  have hvd := vdm_lt (n := n) (ord := ord) G J
  have hrow : ∀ l t i, t < nM n ord (J + 1) → i < nM n ord J → erow n ord J (leadB (VV n ord J (VP n G J))) (leadB (VV n ord (J + 1) (VP n G (J + 1)))) e (l * nM n ord (J + 1) + t) i = ent n ord J (leadB (VV n ord J (VP n G J))) (leadB (VV n ord (J + 1) (VP n G (J + 1)))) e l i t := fun l t i ht hi => by
    unfold erow
    rw [if_pos hi, (div_ix ht).1, (div_ix ht).2]
  have hrow0 : ∀ c i, nM n ord J ≤ i → erow n ord J (leadB (VV n ord J (VP n G J))) (leadB (VV n ord (J + 1) (VP n G (J + 1)))) e c i = 0 := fun c i hi => by
    unfold erow
    rw [if_neg (by omega)]
  have hload := fun {K : Nat → Nat → Int32} {l : Nat} {post : Mem → Prop} (hC : Cfg n ord p K) (hSt : BaSt n ord b G r K) (hl : l < n) => sp_loadImages (post := post) (I := K) (l := l) hT hB hC hG hSt (show J ≤ 7 by omega) (show J + 1 < r by omega) hl hE
  generalize erow n ord J (leadB (VV n ord J (VP n G J))) (leadB (VV n ord (J + 1) (VP n G (J + 1)))) e = R at hR3 hle hrow hrow0
  refine sp_Robegin hM.2.2 hM.1 hM.2.1 hC.1 hC.2.1 h1p (by omega) (fun I1 hR1 hf1 => ?_)
  have fin : ∀ K, EI n ord J R (3 * nM n ord (J + 1)) (nM n ord J - vdm n ord G J) (3 * nM n ord (J + 1)) K → (∀ c, (c < 8 ∨ 124 < c) → K c = I c) → B_HT_freeAtThird_121 post 0 (nI (nM n ord J - vdm n ord G J)) (wI M K) := by
    intro K hK hf
    obtain ⟨W, Pw, ew, hR, hc⟩ := hK.fin h1p hle
    unfold B_HT_freeAtThird_121
    simp only [isK_wI, isA_wI, gR_wI, gI_wI, sI_wI, true_and, and_true, Option.some.injEq, exists_eq_left', k0, r2, k8]
    refine sp_Rosize hM.2.2 hR ?_
    rw [hc]
    exact h J _ K rfl hR3 hf
  refine pk_loop (σ := Nat → Nat → Int32) (fun N l K => L_HT_freeAtThird_28 post N 0 b (nI J) (nI (nM n ord J - vdm n ord G J)) (nI l) (wI M K)) (fun l K => EI n ord J R (3 * nM n ord (J + 1)) (nM n ord J - vdm n ord G J) (l * nM n ord (J + 1)) K ∧ ∀ c, (c < 8 ∨ 124 < c) → K c = I c) 3 0 I1 (by omega) ⟨⟨_, _, _, hR1, fun v hv => by rw [show v = fun _ => 0 from funext hv]; exact (Spn_sub _).1, Or.inl (fun c' hc' => by omega)⟩, fun c hc => hf1 c (by omega)⟩ ?_ ?_
  · intro N K hK
    show B_HT_freeAtThird_28 (L_HT_freeAtThird_28 post N) post 0 b _ _ _ _
    exact ⟨fun _ => fin K hK.1 hK.2, fun q => absurd (by decide) q⟩
  · intro N l K hl hK ih
    obtain ⟨⟨W, Pw, ew, hR, hW, hd⟩, hf⟩ := hK
    have hct := ct_le Pw (nM n ord J)
    show B_HT_freeAtThird_28 (L_HT_freeAtThird_28 post N) post 0 b _ _ _ _
    unfold B_HT_freeAtThird_28
    simp only [isK_wI, isA_wI, gR_wI, gI_wI, sI_wI, true_and, and_true, Option.some.injEq, exists_eq_left', k0, r2, k8]
    rw [show (3 : Int32) = nI 3 from rfl, nI_leI (by omega) (by omega)]
    refine ⟨fun q => absurd q (by omega), fun _ => ?_⟩
    refine sp_Rosize hM.2.2 hR ?_
    rw [nI_leI (by omega) (by omega)]
    refine ⟨fun q => fin K ⟨W, Pw, ew, hR, hW, Or.inr q⟩ hf, fun q => ⟨k0, ?_⟩⟩
    have hd' : ∀ c', c' < l * nM n ord (J + 1) → W (R c') := by
      rcases hd with y | y
      · exact y
      · exact absurd y q
    refine hload (Cfg_kp (fun c hc => hf c (by omega)) hC) (BaSt_kp (fun c y1 y2 => hf c (by omega)) hSt) (by omega) (fun K1 hK1 hfK1 => ?_)
    refine pk_loop (σ := Nat → Nat → Int32) (fun N' t K' => L_HT_freeAtThird_57 (L_HT_freeAtThird_28 post N) post N' 0 b (nI J) (nI (nM n ord J - vdm n ord G J)) (nI l) (nI t) (wI M K')) (fun t K' => EI n ord J R (3 * nM n ord (J + 1)) (nM n ord J - vdm n ord G J) (l * nM n ord (J + 1) + t) K' ∧ (∀ t', t ≤ t' → t' < nM n ord (J + 1) → K' (80 + pl (atm n ord (J + 1) t')) = K1 (80 + pl (atm n ord (J + 1) t'))) ∧ ∀ c, (c < 8 ∨ 124 < c) → K' c = I c) (nM n ord (J + 1)) 0 K1 (by omega) ⟨⟨W, Pw, ew, RoSt_kp (by omega) (fun c h1 h2 => hfK1 c (by omega) (by omega)) hR, hW, Or.inl (fun c' hc' => hd' c' (by omega))⟩, fun _ _ _ => rfl, fun c hc => by rw [hfK1 c (by omega) (by omega)]; exact hf c hc⟩ ?_ ?_
    · intro N' K' hK'
      show B_HT_freeAtThird_57 _ (L_HT_freeAtThird_57 _ post N') post 0 b _ _ _ _ _
      unfold B_HT_freeAtThird_57 B_HT_freeAtThird_115
      simp only [isK_wI, isA_wI, gR_wI, gI_wI, sI_wI, true_and, and_true, Option.some.injEq, exists_eq_left', k0, r0, k1]
      rw [nI_1 J, nI_1 l]
      refine sp_amount hM.1 (PrSt_kp (fun c hc => hK'.2.2 c (by omega)) hC.1) (by omega) ?_
      refine ⟨fun _ => ih K' ⟨?_, hK'.2.2⟩, fun q => absurd (Int32.le_refl _) q⟩
      rw [Nat.succ_mul l]; exact hK'.1
    · intro N' t K' ht hK' ih'
      obtain ⟨⟨W', Pw', ew', hR', hW', hd2⟩, hk1, hf'⟩ := hK'
      have hct' := ct_le Pw' (nM n ord J)
      have hC' : Cfg n ord p K' := Cfg_kp (fun c hc => hf' c (by omega)) hC
      show B_HT_freeAtThird_57 _ (L_HT_freeAtThird_57 _ post N') post 0 b _ _ _ _ _
      unfold B_HT_freeAtThird_57 B_HT_freeAtThird_115
      simp only [isK_wI, isA_wI, gR_wI, gI_wI, sI_wI, true_and, and_true, Option.some.injEq, exists_eq_left', k0, r0, k1]
      rw [nI_1 J, nI_1 l, nI_1 t]
      refine sp_amount hM.1 hC'.1 (by omega) ?_
      rw [nI_leI (by omega) (by omega)]
      refine ⟨fun q => absurd q (by omega), fun _ => ?_⟩
      simp only [isK_wI, isA_wI, gR_wI, gI_wI, sI_wI, true_and, and_true, Option.some.injEq, exists_eq_left', k0, r2, k8]
      refine sp_Rosize hM.2.2 hR' ?_
      rw [nI_leI (by omega) (by omega)]
      refine ⟨fun q => ih K' ⟨⟨W', Pw', ew', hR', hW', Or.inr q⟩, hf'⟩, fun q => ?_⟩
      simp only [isK_wI, isA_wI, gR_wI, gI_wI, sI_wI, true_and, and_true, Option.some.injEq, exists_eq_left', k0, r0, r2, r4, k1]
      refine sp_at hM.1 hC'.1 (by omega) ht ?_
      have ht10 : (atm n ord (J + 1) t).1 + (atm n ord (J + 1) t).2 ≤ J + 1 := (atm_ok ht).1
      have hpt : pl (atm n ord (J + 1) t) < 45 := (pl36 (atm n ord (J + 1) t).1 (by omega) (atm n ord (J + 1) t).2 (by omega)).2 (by omega)
      simp only [isK_wI, isA_wI, gR_wI, gI_wI, sI_wI, true_and, and_true, Option.some.injEq, exists_eq_left', k8]
      rw [nI_clamp (show pl (atm n ord (J + 1) t) < 2147483648 by omega)]
      refine ⟨arr_A a79 hpt (by omega), 80 + pl (atm n ord (J + 1) t), (a80 _ hpt).1, ?_⟩
      have hd3 : ∀ c', c' < l * nM n ord (J + 1) + t → W' (R c') := by
        rcases hd2 with y | y
        · exact y
        · exact absurd y q
      have hcl : l * nM n ord (J + 1) + t < 3 * nM n ord (J + 1) := by
        have := Nat.mul_le_mul_right (nM n ord (J + 1)) (show l + 1 ≤ 3 by omega)
        rw [Nat.succ_mul] at this
        omega
      refine sp_Roadd (v := R (l * nM n ord (J + 1) + t)) hM.2.2 hM.2.1 hC'.2.1 hC.2.2 (by omega) (by omega) hR' (a80 _ hpt).2 (fun i hi => ?_) (by omega) (by omega) (fun i hi => ?_) (hrow0 _) (fun v K2 P2 e2 _ hR2 hf2 => ?_)
      · have hi10 : (atm n ord J i).1 + (atm n ord J i).2 ≤ J := (atm_ok hi).1
        exact (pl36 (atm n ord J i).1 (by omega) (atm n ord J i).2 (by omega)).1 (by omega)
      · rw [hk1 t (Nat.le_refl t) ht, hK1 t ht i hi, hrow l t i ht hi]
      · refine ih' K2 ⟨⟨_, P2, e2, hR2, ?_, Or.inl (fun c' hc' => ?_)⟩, fun t' h1 h2 => ?_, fun c hc => ?_⟩
        · rintro u ⟨w, a, hw, hu⟩
          rw [funext hu]
          exact (Spn_sub _).2 w _ a (hW' w hw) (upto_of hcl)
        · by_cases y : c' = l * nM n ord (J + 1) + t
          · rw [y]; exact more_v hR'.2.1.1 _
          · exact more_le (hd3 c' (by omega))
        · have ht1 : (atm n ord (J + 1) t').1 + (atm n ord (J + 1) t').2 ≤ J + 1 := (atm_ok h2).1
          rw [hf2 _ (fun w => ?_) (by omega)]
          · exact hk1 t' (by omega) h2
          · have := atm_inj h2 ht (pl_inj (by omega) (by omega) (by omega))
            omega
        · rw [hf2 c (by omega) (by omega)]; exact hf' c hc
end FR4
