/-! HeapTower: rest, in, base, element, count, quotient, regular, dimension, parts -/
theorem isRest_0 {p : Nat} [NeZero p] {n ord d : Nat} {G : Nat → (Mo2 → Fin p) → Prop} {v : Nat → Fin p} (h : ∀ j, v j = 0) : isRest n ord G d v v := by
  refine ⟨?_, fun j _ => h j⟩
  have : (fun j => v j - v j) = fun _ => (0 : Fin p) := by funext j; grind
  rw [this]; exact (VV_sub (VP_sub _ _ _)).1
theorem isRest_in {p : Nat} [NeZero p] {n ord d : Nat} {G : Nat → (Mo2 → Fin p) → Prop} {v w : Nat → Fin p} (hF : isField p) (h : isRest n ord G d v w) : (∀ j, w j = 0) ↔ VV n ord d (VP n G d) v := by
  have hVs : Sub (VV n ord d (VP n G d)) := VV_sub (VP_sub _ _ _)
  constructor
  · intro hz
    have := h.1
    have e : (fun j => v j - w j) = v := by funext j; rw [hz j]; grind
    rw [e] at this; exact this
  · intro hv
    obtain ⟨e, hE⟩ := Ech_of (N := nM n ord d) hF hVs (VV_range _)
    have h1 := hVs.sub hv h.1
    have e1 : (fun j => v j - (v j - w j)) = w := by funext j; grind
    rw [e1] at h1
    exact hE.2 w h1 (fun i hi => h.2 i hi)
theorem vec_z {p : Nat} [NeZero p] {n ord d : Nat} {f : Mo2 → Fin p} (h : hom n d f) : (∀ j, vec n ord d f j = 0) ↔ ∀ m, f m = 0 := by
  constructor
  · intro hz m
    by_cases q : f m = 0
    · exact q
    · have hok := h m q
      have := hz (psm n ord d m)
      unfold vec at this
      rw [if_pos (psm_lt hok), atm_psm hok] at this
      exact this
  · intro hz j
    unfold vec; split
    · exact hz _
    · rfl
section HT8
variable {M : Mem} {I : Nat → Nat → Int32} {n ord p : Nat} {sw : Bool}
theorem sp_loadRest [NeZero p] {d r b : Nat} {D : Nat → Mo2 → Fin p} {G : Nat → (Mo2 → Fin p) → Prop} {post : Int32 → Mem → Prop} (hT : HTOK M sw) (hB : BaOK M b) (hC : Cfg n ord p I) (hD : Rep (I 126) D) (hDh : ∀ d, d ≤ 10 → hom n d (D d)) (hG : ∀ e g, G e g → hom n e g) (hSt : BaSt n ord b G r I) (hd : d < r) (h0 : (∀ m, D d m = 0) → ∀ g, post 0 (wI M (sAll I 78 g))) (h1 : ¬ (∀ m, D d m = 0) → ∀ g f', RepV d g f' → hom n d f' → isRest n ord G d (vec n ord d (D d)) (vec n ord d f') → post 1 (wI M (sAll I 78 g))) : T_HT_loadRestOfDraft 0 b (nI d) (wI M I) post := by
  obtain ⟨⟨k0, r0, r1, r2, r3, r4, r5, r6, r7, r8, r9, r10, r11⟩, ⟨a78, _⟩, hPo, _, _, _, hM⟩ := hT
  have hr11 := hSt.le
  have kd := hPo.1.1
  have k1 := hM.1.1.1
  have kb := hB.2.1.1
  have hb := hB.1.1
  have hp97 := (prm_lt hC.2.2).2
  have hfd := fr_66 d (by omega)
  unfold T_HT_loadRestOfDraft
  simp only [isK_wI, isA_wI, gR_wI, gI_wI, sI_wI, true_and, and_true, Option.some.injEq, exists_eq_left', k0, r3, r5, kd]
  refine sp_loadPart hPo (show d ≤ 10 by omega) a78 (by omega) (by omega) (fun g hg1 hg2 => ?_)
  have hRg : RepV d g (D d) := fun m hm => by
    have := pl_deg (show d ≤ 10 by omega) hm
    rw [hg1 _ (by omega)]; exact hD d (by omega) m hm
  simp only [isK_wI, isA_wI, gR_wI, gI_wI, sI_wI, true_and, and_true, Option.some.injEq, exists_eq_left', k0, r0, r3, k1]
  have hz : (∀ i, i < nM n ord d → sAll I 78 g 78 (pl (atm n ord d i)) = 0) ↔ ∀ m, D d m = 0 := by
    rw [sAll_eq, ← vec_z (ord := ord) (hDh d (by omega))]
    constructor
    · intro hz j
      unfold vec
      by_cases q : j < nM n ord d
      · rw [if_pos q]
        have := hz j q
        rw [hRg _ (atm_ok q).1] at this
        exact (val_ne hp97 _).mp this
      · rw [if_neg q]
    · intro hz i hi
      rw [hRg _ (atm_ok hi).1]
      have := hz i
      unfold vec at this
      rw [if_pos hi] at this
      exact (val_ne hp97 _).mpr this
  refine sp_isZero (f := g) hM.1 (PrSt_kp (kp_sAll (by omega)) hC.1) (by omega) a78 ⟨by omega, by omega⟩ (fun z => ?_) (fun z => ?_)
  · exact ⟨fun y => absurd y (by decide), fun _ => ⟨rfl, h0 (hz.mp z) g⟩⟩
  · refine ⟨fun _ => ?_, fun y => absurd rfl y⟩
    simp only [isK_wI, isA_wI, gR_wI, gI_wI, sI_wI, true_and, and_true, Option.some.injEq, exists_eq_left', k0, r3, kb]
    refine sp_restBy hB hM (Cfg_kp (kp_sAll (by omega)) hC) hG (BaSt_kp (fun c y1 y2 => sAll_ne (by omega)) hSt) hd a78 (fun m hm => pl_lt (by omega)) (by omega) ⟨by omega, by omega⟩ (by rw [sAll_eq]; exact hRg) (hDh d (by omega)) (fun g2 f' h2 h3 h4 => ?_)
    rw [sAll_sAll]
    exact ⟨rfl, h1 (fun y => z (hz.mpr y)) g2 f' h2 h3 h4⟩
theorem op_rest [NeZero p] {D : Nat → Mo2 → Fin p} {H O : Hp p} {C : Nat → Nat → Mo2 → Fin p} {post : Int32 → Mem → Prop} (hT : HTOK M sw) (hS : CSt n ord D H O C sw I) (h : ∀ D' I', (∀ d, d ≤ 10 → hom n d (D' d) ∧ isRest n ord (Gh H) d (vec n ord d (D d)) (vec n ord d (D' d))) → CSt n ord D' H O C sw I' → FR I I' → post (nI (szP D')) (wI M I')) : T_HT_rest 0 (wI M I) post := by
  have hsw := hh_ne sw
  have hT' := hT
  obtain ⟨⟨k0, r0, r1, r2, r3, r4, r5, r6, r7, r8, r9, r10, r11⟩, ⟨a78, _⟩, hPo, _, _, _, hM⟩ := hT'
  have hhe := hT.he
  have kd := hPo.1.1
  have kh := hhe.1.1.2.1
  have hle := dg1_le D
  have hp97 := (prm_lt hS.1.2.2.2).2
  have hDh := hS.1.1.1
  unfold T_HT_rest
  simp only [isK_wI, isA_wI, gR_wI, gI_wI, sI_wI, true_and, and_true, Option.some.injEq, exists_eq_left', k0, r5, kd]
  refine sp_Podegree hPo hp97 hS.2.1 ?_
  simp only [isK_wI, isA_wI, gR_wI, gI_wI, sI_wI, true_and, and_true, Option.some.injEq, exists_eq_left', k0, r10, kh]
  refine up_heap hT hS hle rfl (fun I1 r hS1 hr hB1 hf1 => ?_)
  have hG := hS.hom1.1
  have key : ∀ t d D' I2, d + t = dg1 D → (∀ e, e ≤ 10 → hom n e (D' e)) → (∀ e, e < d → isRest n ord (Gh H) e (vec n ord e (D e)) (vec n ord e (D' e))) → (∀ e, d ≤ e → D' e = D e) → Rep (I2 126) D' → (∀ c, c ≠ 78 → c ≠ 126 → I2 c = I1 c) → L_HT_rest_19 post (t + 1) 0 (nI (dg1 D) - 1) (hh sw + 1) (nI d) (wI M I2) := by
    intro t
    induction t with
    | zero =>
      intro d D' I2 hd hh hrs hsame hR hf
      show B_HT_rest_19 _ post 0 _ _ _ _
      unfold B_HT_rest_19
      refine ⟨fun _ => ?_, fun z => absurd ((lt_pred hle (by omega)).mpr (by omega)) z⟩
      simp only [isK_wI, isA_wI, gR_wI, gI_wI, sI_wI, true_and, and_true, Option.some.injEq, exists_eq_left', k0]
      obtain ⟨t5, b5⟩ := hS1.2.2.2.2.2.2.2
      refine sp_draftChanged (n := n) (ord := ord) hT (G := Gquo H D) ⟨t5, BaSt_kp (fun c y1 y2 => hf c (by omega) (by omega)) b5⟩ (fun I3 hb hf3 => ?_)
      simp only [isK_wI, isA_wI, gR_wI, gI_wI, sI_wI, true_and, and_true, Option.some.injEq, exists_eq_left', k0, r5, kd]
      have hR3 : Rep (I3 126) D' := by rw [hf3 _ (by omega)]; exact hR
      refine sp_Posize hPo hp97 hR3 ?_
      refine h D' I3 (fun e he => ⟨hh e he, ?_⟩) (CSt_draft hS1 hh hR3 hb (fun c h1 h2 h3 => ?_)) (fun c hc => ?_)
      · by_cases q : e < d
        · exact hrs e q
        · rw [hsame e (by omega)]
          exact isRest_0 ((vec_z (hDh e he)).mpr (D_hi hDh he (by omega)))
      · unfold sup at h1; rw [hf3 c h3, hf c (by omega) h2]
      · rw [hf3 c (by omega), hf c (by omega) (by omega), hf1 c (by omega) (by omega) (by omega)]
    | succ t ih =>
      intro d D' I2 hd hh hrs hsame hR hf
      show B_HT_rest_19 (L_HT_rest_19 post (t + 1)) post 0 _ _ _ _
      unfold B_HT_rest_19 B_HT_rest_45
      refine ⟨fun z => absurd ((lt_pred hle (by omega)).mp z) (by omega), fun _ => ?_⟩
      simp only [isK_wI, isA_wI, gR_wI, gI_wI, sI_wI, true_and, and_true, Option.some.injEq, exists_eq_left', k0]
      rw [show nI d + 1 = nI (d + 1) from nI_add d 1]
      have hC2 : Cfg n ord p I2 := Cfg_kp (fun c hc => hf c (by omega) (by omega)) hS1.1.2
      have hB2 := BaSt_kp (I' := I2) (fun c y1 y2 => hf c (by omega) (by omega)) hB1
      refine sp_loadRest hT hhe.1.2.2.2.2 hC2 hR hh hG hB2 (by omega) (fun z g => ?_) (fun z g f' w1 w2 w3 => ?_)
      · refine ⟨fun _ => ?_, fun y => absurd rfl y⟩
        refine ih (d + 1) D' _ (by omega) hh (fun e he => ?_) (fun e he => hsame e (by omega)) (by rw [sAll_ne (by omega)]; exact hR) (fun c h1 h2 => by rw [sAll_ne h1]; exact hf c h1 h2)
        by_cases q : e = d
        · subst q
          rw [hsame e (Nat.le_refl e)] at z ⊢
          exact isRest_0 ((vec_z (hDh e (by omega))).mpr z)
        · exact hrs e (by omega)
      · refine ⟨fun y => absurd y (by decide), fun _ => ?_⟩
        simp only [isK_wI, isA_wI, gR_wI, gI_wI, sI_wI, true_and, and_true, Option.some.injEq, exists_eq_left', k0, r3, r5, kd]
        have hfd := fr_66 d (by omega)
        refine sp_setPart hPo (show d ≤ 10 by omega) a78 (by omega) (by omega) (fun f2 hf2 hf3 => ?_)
        rw [sAll_eq] at hf2
        rw [sAll_ne (show 125 + 1 ≠ 78 by omega)] at hf3
        refine ih (d + 1) (fun e m => if e = d then f' m else D' e m) _ (by omega) (fun e he => ?_) (fun e he => ?_) (fun e he => ?_) (by rw [sAll_eq]; exact Rep_part (by omega) hR w1 hf2 hf3) (fun c h1 h2 => by rw [sAll_ne h2, sAll_ne h1]; exact hf c h1 h2)
        · by_cases q : e = d
          · subst q; simp only [if_true]; exact w2
          · simp only [if_neg q]; exact hh e he
        · by_cases q : e = d
          · subst q
            simp only [if_true]
            rw [hsame e (Nat.le_refl e)] at w3; exact w3
          · simp only [if_neg q]; exact hrs e (by omega)
        · funext m
          simp only [if_neg (show ¬ e = d by omega)]
          rw [hsame e (by omega)]
  exact ⟨k0, _, key (dg1 D) 0 D I1 (by omega) hDh (fun e he => absurd he (Nat.not_lt_zero e)) (fun e _ => rfl) (hS1.2.1) (fun c _ _ => rfl)⟩
theorem op_in [NeZero p] {D : Nat → Mo2 → Fin p} {H O : Hp p} {C : Nat → Nat → Mo2 → Fin p} {post : Int32 → Mem → Prop} (hT : HTOK M sw) (hS : CSt n ord D H O C sw I) (h1 : (∀ d, d ≤ 10 → VV n ord d (VP n (Gh H) d) (vec n ord d (D d))) → ∀ I', CSt n ord D H O C sw I' → FR I I' → post 1 (wI M I')) (h0 : (¬ ∀ d, d ≤ 10 → VV n ord d (VP n (Gh H) d) (vec n ord d (D d))) → ∀ I', CSt n ord D H O C sw I' → FR I I' → post 0 (wI M I')) : T_HT_in 0 (wI M I) post := by
  have hsw := hh_ne sw
  have hT' := hT
  obtain ⟨⟨k0, r0, r1, r2, r3, r4, r5, r6, r7, r8, r9, r10, r11⟩, ⟨a78, _⟩, hPo, _, _, _, hM⟩ := hT'
  have hhe := hT.he
  have kd := hPo.1.1
  have k1 := hM.1.1.1
  have kh := hhe.1.1.2.1
  have hle := dg1_le D
  have hF := prm_field hS.1.2.2.2
  have hp97 := (prm_lt hS.1.2.2.2).2
  have hDh := hS.1.1.1
  unfold T_HT_in
  simp only [isK_wI, isA_wI, gR_wI, gI_wI, sI_wI, true_and, and_true, Option.some.injEq, exists_eq_left', k0, r5, kd]
  refine sp_Podegree hPo hp97 hS.2.1 ?_
  simp only [isK_wI, isA_wI, gR_wI, gI_wI, sI_wI, true_and, and_true, Option.some.injEq, exists_eq_left', k0, r10, kh]
  refine up_heap hT hS hle rfl (fun I1 r hS1 hr hB1 hf1 => ?_)
  have hG := hS.hom1.1
  have hkeep : ∀ g, CSt n ord D H O C sw (sAll I1 78 g) ∧ FR I (sAll I1 78 g) := fun g => ⟨CSt_kp (fun c hc => sAll_ne (by omega)) hS1, fun c hc => by rw [sAll_ne (by omega), hf1 c (by omega) (by omega) (by omega)]⟩
  have zin : ∀ d, (∀ m, D d m = 0) → VV n ord d (VP n (Gh H) d) (vec n ord d (D d)) := fun d hz => by
    have : D d = fun _ => 0 := funext hz
    rw [this, vec_0]; exact (VV_sub (VP_sub _ _ _)).1
  have key : ∀ t d g, d + t = dg1 D → (∀ e, e < d → VV n ord e (VP n (Gh H) e) (vec n ord e (D e))) → L_HT_in_19 post (t + 1) 0 (nI (dg1 D) - 1) (hh sw + 1) (nI d) (wI M (sAll I1 78 g)) := by
    intro t
    induction t with
    | zero =>
      intro d g hd hrs
      show B_HT_in_19 _ post 0 _ _ _ _
      unfold B_HT_in_19
      refine ⟨fun _ => h1 (fun e he => ?_) _ (hkeep g).1 (hkeep g).2, fun z => absurd ((lt_pred hle (by omega)).mpr (by omega)) z⟩
      by_cases q : e < d
      · exact hrs e q
      · exact zin e (D_hi hDh he (by omega))
    | succ t ih =>
      intro d g hd hrs
      show B_HT_in_19 (L_HT_in_19 post (t + 1)) post 0 _ _ _ _
      unfold B_HT_in_19 B_HT_in_50
      refine ⟨fun z => absurd ((lt_pred hle (by omega)).mp z) (by omega), fun _ => ?_⟩
      simp only [isK_wI, isA_wI, gR_wI, gI_wI, sI_wI, true_and, and_true, Option.some.injEq, exists_eq_left', k0]
      rw [show nI d + 1 = nI (d + 1) from nI_add d 1]
      have hC2 : Cfg n ord p (sAll I1 78 g) := Cfg_kp (kp_sAll (by omega)) hS1.1.2
      have hB2 := BaSt_kp (I' := sAll I1 78 g) (fun c y1 y2 => sAll_ne (by omega)) hB1
      have step : VV n ord d (VP n (Gh H) d) (vec n ord d (D d)) → ∀ g', L_HT_in_19 post (t + 1) 0 (nI (dg1 D) - 1) (hh sw + 1) (nI (d + 1)) (wI M (sAll I1 78 g')) := fun y g' => ih (d + 1) g' (by omega) (fun e he => by
        by_cases q : e = d
        · rw [q]; exact y
        · exact hrs e (by omega))
      refine sp_loadRest hT hhe.1.2.2.2.2 hC2 (by rw [sAll_ne (by omega)]; exact hS1.2.1) hDh hG hB2 (by omega) (fun z g' => ?_) (fun z g' f' w1 w2 w3 => ?_)
      · rw [sAll_sAll]
        exact ⟨fun _ => step (zin d z) g', fun y => absurd rfl y⟩
      · rw [sAll_sAll]
        refine ⟨fun y => absurd y (by decide), fun _ => ?_⟩
        simp only [isK_wI, isA_wI, gR_wI, gI_wI, sI_wI, true_and, and_true, Option.some.injEq, exists_eq_left', k0, r0, r3, k1]
        have hzz : (∀ i, i < nM n ord d → sAll I1 78 g' 78 (pl (atm n ord d i)) = 0) ↔ ∀ j, vec n ord d f' j = 0 := by
          rw [sAll_eq]
          constructor
          · intro hz j
            unfold vec
            by_cases q : j < nM n ord d
            · rw [if_pos q]
              have := hz j q
              rw [w1 _ (atm_ok q).1] at this
              exact (val_ne hp97 _).mp this
            · rw [if_neg q]
          · intro hz i hi
            rw [w1 _ (atm_ok hi).1]
            have := hz i
            unfold vec at this
            rw [if_pos hi] at this
            exact (val_ne hp97 _).mpr this
        refine sp_isZero (f := g') hM.1 (PrSt_kp (kp_sAll (by omega)) hS1.1.2.1) (by omega) a78 ⟨by omega, by omega⟩ (fun y => ?_) (fun y => ?_)
        · exact ⟨fun _ => step ((isRest_in hF w3).mp (hzz.mp y)) g', fun v => absurd v (by decide)⟩
        · refine ⟨fun v => absurd rfl v, fun _ => h0 (fun v => y (hzz.mpr ((isRest_in hF w3).mpr (v d (by omega))))) _ (hkeep g').1 (hkeep g').2⟩
  have := key (dg1 D) 0 (I1 78) (by omega) (fun e he => absurd he (Nat.not_lt_zero e))
  rw [sAll_self] at this
  exact ⟨k0, _, this⟩
/-- a number that lies between two -/
theorem betw {x : Int32} {a b : Nat} (hb : b < 2147483648) (h1 : ¬ x < nI a) (h2 : ¬ nI b < x) (ha : a ≤ b) : ∃ d, a ≤ d ∧ d ≤ b ∧ x = nI d := by
  rw [Int32.lt_iff_toInt_lt, nI_toInt (by omega)] at h1 h2
  refine ⟨x.toInt.toNat, by omega, by omega, i32_ext ?_⟩
  rw [nI_toInt (by omega)]; omega
theorem op_base [NeZero p] {D : Nat → Mo2 → Fin p} {H O : Hp p} {C : Nat → Nat → Mo2 → Fin p} {x : Int32} {post : Int32 → Mem → Prop} (hT : HTOK M sw) (hS : CSt n ord D H O C sw I) (h1 : ∀ d, 1 ≤ d → d ≤ 10 → x = nI d → ∀ I', CSt n ord D H O C sw I' → FR I I' → post (nI (szc n ord (Gh H) (d + 1))) (wI M I')) (h0 : (¬ ∃ d, 1 ≤ d ∧ d ≤ 10 ∧ x = nI d) → post (-1000000) (wI M I)) : T_HT_base 0 x (wI M I) post := by
  have hsw := hh_ne sw
  have hhe := hT.he
  have k0 := hT.1.1
  have r10 := hT.1.2.2.2.2.2.2.2.2.2.2.2.1
  have kh := hhe.1.1.2.1
  have kb := hhe.1.2.2.2.2.2.1.1
  unfold T_HT_base B_HT_base_26 B_HT_base_28
  refine ⟨fun z => h0 (fun ⟨d, d1, d2, e⟩ => ?_), fun z => ⟨fun y => h0 (fun ⟨d, d1, d2, e⟩ => ?_), fun y => ?_⟩⟩
  · rw [e, show (1 : Int32) = nI 1 from rfl, nI_ltI (by omega) (by omega)] at z; omega
  · rw [e, show (10 : Int32) = nI 10 from rfl, nI_ltI (by omega) (by omega)] at y; omega
  · obtain ⟨d, d1, d2, rfl⟩ := betw (a := 1) (b := 10) (by omega) z y (by omega)
    clear h0
    simp only [isK_wI, isA_wI, gR_wI, gI_wI, sI_wI, true_and, and_true, Option.some.injEq, exists_eq_left', k0, r10, kh]
    refine up_heap (d1 := d + 1) hT hS (by omega) (nI_pred d).symm (fun I1 r hS1 hr hB1 hf1 => ?_)
    simp only [isK_wI, isA_wI, gR_wI, gI_wI, sI_wI, true_and, and_true, Option.some.injEq, exists_eq_left', kb]
    exact sp_sizeUpTo hhe.1.2.2.2.2 hB1 (by omega) (h1 d d1 d2 rfl I1 hS1 (fun c hc => hf1 c (by omega) (by omega) (by omega)))
theorem op_count [NeZero p] {D : Nat → Mo2 → Fin p} {H O : Hp p} {C : Nat → Nat → Mo2 → Fin p} {x : Int32} {post : Int32 → Mem → Prop} (hT : HTOK M sw) (hS : CSt n ord D H O C sw I) (h1 : ∀ d, d ≤ 10 → x = nI d → ∀ I', CSt n ord D H O C sw I' → FR I I' → post (nI (nM n ord d - vdm n ord (Gh H) d)) (wI M I')) (h0 : (¬ ∃ d, d ≤ 10 ∧ x = nI d) → post (-1000000) (wI M I)) : T_HT_count 0 x (wI M I) post := by
  have hsw := hh_ne sw
  have hhe := hT.he
  have k0 := hT.1.1
  have r10 := hT.1.2.2.2.2.2.2.2.2.2.2.2.1
  have kh := hhe.1.1.2.1
  have kb := hhe.1.2.2.2.2.2.1.1
  unfold T_HT_count B_HT_count_25 B_HT_count_27
  refine ⟨fun z => h0 (fun ⟨d, d2, e⟩ => ?_), fun z => ⟨fun y => h0 (fun ⟨d, d2, e⟩ => ?_), fun y => ?_⟩⟩
  · rw [e, show (0 : Int32) = nI 0 from rfl, nI_ltI (by omega) (by omega)] at z; omega
  · rw [e, show (10 : Int32) = nI 10 from rfl, nI_ltI (by omega) (by omega)] at y; omega
  · obtain ⟨d, d1, d2, rfl⟩ := betw (a := 0) (b := 10) (by omega) z y (by omega)
    clear h0
    simp only [isK_wI, isA_wI, gR_wI, gI_wI, sI_wI, true_and, and_true, Option.some.injEq, exists_eq_left', k0, r10, kh]
    refine up_heap (d1 := d + 1) hT hS (by omega) (nI_pred d).symm (fun I1 r hS1 hr hB1 hf1 => ?_)
    simp only [isK_wI, isA_wI, gR_wI, gI_wI, sI_wI, true_and, and_true, Option.some.injEq, exists_eq_left', kb]
    exact sp_standardCount hhe.1.2.2.2.2 hB1 (by omega) (h1 d d2 rfl I1 hS1 (fun c hc => hf1 c (by omega) (by omega) (by omega)))
theorem op_element [NeZero p] {D : Nat → Mo2 → Fin p} {H O : Hp p} {C : Nat → Nat → Mo2 → Fin p} {x : Int32} {post : Int32 → Mem → Prop} (hT : HTOK M sw) (hS : CSt n ord D H O C sw I) (h1 : ∀ k e i f, k < szc n ord (Gh H) 11 → x = nI k → e ≤ 10 → i < nM n ord e → isnew n ord (Gh H) e i = true → k = eix n ord (Gh H) (szc n ord (Gh H)) e i → isRed n ord (Gh H) e i f → hom n e f → ∀ I', CSt n ord (oneP e f) H O C sw I' → FR I I' → post (nI (szP (oneP e f))) (wI M I')) (h0 : (¬ ∃ k, k < szc n ord (Gh H) 11 ∧ x = nI k) → ∀ I', CSt n ord D H O C sw I' → FR I I' → post (-1000000) (wI M I')) : T_HT_element 0 x (wI M I) post := by
  have hsw := hh_ne sw
  have hhe := hT.he
  have hT' := hT
  obtain ⟨⟨k0, r0, r1, r2, r3, r4, r5, r6, r7, r8, r9, r10, r11⟩, ⟨a78, _⟩, hPo, _, _, _, hM⟩ := hT'
  have kh := hhe.1.1.2.1
  have hBB := hhe.1.2.2.2.2
  have kb := hBB.2.1.1
  have kd := hPo.1.1
  have hF := prm_field hS.1.2.2.2
  have hp97 := (prm_lt hS.1.2.2.2).2
  have hG := hS.hom1.1
  unfold T_HT_element B_HT_element_24
  simp only [isK_wI, isA_wI, gR_wI, gI_wI, sI_wI, true_and, and_true, Option.some.injEq, exists_eq_left', k0, r10, kh]
  refine up_heap (d1 := 11) hT hS (by omega) (nI_pred 10).symm (fun I1 r hS1 hr hB1 hf1 => ?_)
  have hr11 := hB1.le
  have hreq : r = 11 := by omega
  subst hreq
  have hFR : FR I I1 := fun c hc => hf1 c (by omega) (by omega) (by omega)
  have h66 : szc n ord (Gh H) 11 ≤ 66 := by
    obtain ⟨sz, dg, hd, gl, ld, _, hT2⟩ := hB1
    have := hT2.le66 hF.1
    rw [hT2.szc 11 (Nat.le_refl _)] at this; exact this
  refine ⟨k0, fun z => h0 (fun ⟨k, k1, e⟩ => ?_) I1 hS1 hFR, fun z => ?_⟩
  · rw [e, show (0 : Int32) = nI 0 from rfl, nI_ltI (by omega) (by omega)] at z; omega
  · simp only [isK_wI, isA_wI, gR_wI, gI_wI, sI_wI, true_and, and_true, Option.some.injEq, exists_eq_left', kb]
    refine sp_sizeUpTo (d := 10) hBB hB1 (by omega) ?_
    show (x < nI (szc n ord (Gh H) 11) → _) ∧ (¬ x < nI (szc n ord (Gh H) 11) → _)
    refine ⟨fun y => ?_, fun y => h0 (fun ⟨k, k1, e⟩ => ?_) I1 hS1 hFR⟩
    · have hk : ∃ k, k < szc n ord (Gh H) 11 ∧ x = nI k := by
        rw [Int32.lt_iff_toInt_lt] at z y
        rw [nI_toInt (by omega)] at y
        have : (0 : Int32).toInt = 0 := by decide
        refine ⟨x.toInt.toNat, by omega, i32_ext ?_⟩
        rw [nI_toInt (by omega)]; omega
      obtain ⟨k, hk, rfl⟩ := hk
      clear h0
      simp only [isK_wI, isA_wI, gR_wI, gI_wI, sI_wI, true_and, and_true, Option.some.injEq, exists_eq_left', k0, r3, kb]
      refine sp_element hBB hS1.1.2 hG hB1 hk a78 (by omega) (by omega) ⟨by omega, by omega⟩ (fun e i g f e1 e2 e3 e4 e5 e6 e7 hdeg => ?_)
      simp only [isK_wI, isA_wI, gR_wI, gI_wI, sI_wI, true_and, and_true, Option.some.injEq, exists_eq_left', k0, r5, kd]
      refine sp_Poclear hPo (fun f2 hf2 => ?_)
      simp only [isK_wI, isA_wI, gR_wI, gI_wI, sI_wI, true_and, and_true, Option.some.injEq, exists_eq_left', k0, r5, kb]
      have hdeg2 : T_Ba_degreeOf (hh sw + 1) (nI k) (wI M (sAll (sAll I1 78 g) (125 + 1) f2)) (fun r49 M49 => isK M49 0 6 ∧ ∃ q53, gR M49 0 3 = some q53 ∧ isK M49 125 3 ∧ T_Po_setPart 125 r49 q53 M49 (fun M56 => isK M56 0 6 ∧ T_HT_draftChanged 0 M56 (fun M60 => isK M60 0 6 ∧ ∃ q64, gR M60 0 5 = some q64 ∧ isK M60 q64 3 ∧ T_Po_size q64 M60 (fun r67 M67 => post r67 M67)))) := by
        have h4 := hdeg (fun v _ => v = nI e) rfl
        unfold T_Ba_degreeOf at h4 ⊢
        obtain ⟨z1, q, z2, z3, z4⟩ := h4
        have hq : q = hh sw + 1 + 2 := by
          have := hBB.2.1.2.2.2.2.2.2.2.2.1
          rw [gR_wI, this] at z2
          exact (Option.some.inj z2).symm
        refine ⟨z1, q, z2, z3, ?_⟩
        have z5 : gI (wI M (sAll (sAll I1 78 g) (125 + 1) f2)) q (Int32.toNatClampNeg (nI k)) = nI e := by
          rw [gI_wI, sAll_ne (by omega)]; exact z4
        rw [z5]
        simp only [isK_wI, isA_wI, gR_wI, gI_wI, sI_wI, true_and, and_true, Option.some.injEq, exists_eq_left', k0, r3, kd]
        have hfd := fr_66 e (by omega)
        refine sp_setPart hPo (show e ≤ 10 by omega) a78 (by omega) (by omega) (fun f3 hf3 hf4 => ?_)
        simp only [isK_wI, isA_wI, gR_wI, gI_wI, sI_wI, true_and, and_true, Option.some.injEq, exists_eq_left', k0]
        have hfm : ∀ c, c ≠ 78 → c ≠ 126 → sAll (sAll (sAll I1 78 g) (125 + 1) f2) (125 + 1) f3 c = I1 c := fun c z1 z2 => by rw [sAll_ne z2, sAll_ne z2, sAll_ne z1]
        obtain ⟨t5, b5⟩ := hS1.2.2.2.2.2.2.2
        refine sp_draftChanged (n := n) (ord := ord) hT (G := Gquo H D) ⟨t5, BaSt_kp (fun c z1 z2 => hfm c (by omega) (by omega)) b5⟩ (fun I' hb hf5 => ?_)
        simp only [isK_wI, isA_wI, gR_wI, gI_wI, sI_wI, true_and, and_true, Option.some.injEq, exists_eq_left', k0, r5, kd]
        have hRf : Rep (I' 126) (oneP e f) := by
          rw [hf5 _ (by omega), sAll_eq, ← oneP_eq]
          rw [sAll_ne (by omega), sAll_eq] at hf3
          rw [sAll_eq] at hf4
          exact Rep_part (by omega) (Rep_0 hf2) e7 hf3 hf4
        refine sp_Posize hPo hp97 hRf ?_
        exact h1 k e i f hk rfl (by omega) e2 e3 e4 e5 e6 I' (CSt_draft hS1 (oneP_hom e6) hRf hb (fun c z1 z2 z3 => by
          unfold sup at z1
          rw [hf5 c z3, hfm c (by omega) z2])) (fun c hc => by rw [hf5 c (by omega), hfm c (by omega) (by omega), hFR c hc])
      exact hdeg2
    · rw [e, nI_ltI (by omega) (by omega)] at y; exact y k1
end HT8
