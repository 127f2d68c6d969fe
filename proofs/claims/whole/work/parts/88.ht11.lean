/-! HeapTower: sum -/
section HT11
variable {M : Mem} {I : Nat → Nat → Int32} {n ord p : Nat} {sw : Bool}
theorem ar_add3 [NeZero p] (hp : p ≤ 97) (a b c : Fin p) : md p (nI (a.val + b.val * c.val)) = (a + b * c).val := by
  have h1 := a.isLt
  have h2 := b.isLt
  have h3 := c.isLt
  have hm : b.val * c.val ≤ 97 * 97 := Nat.mul_le_mul (by omega) (by omega)
  rw [md_nI (by omega), Fin.val_add, Fin.val_mul, Nat.add_mod_mod]
theorem sp_addWork [NeZero p] {rd d : Nat} {c : Mo2} {v : Fin p} {g : Mo2 → Fin p} {F : Nat → Mo2 → Fin p} {post : Mem → Prop} (hT : HTOK M sw) (hC : Cfg n ord p I) (hg : RepV rd (I 78) g) (hgh : hom n rd g) (hF : Rep (I 126) F) (hc : okm n d c) (hrd : rd + d ≤ 10) (h : ∀ f, Rep f (fun e m => if e = rd + d then F e m + v * mulm c g m else F e m) → post (wI M (sAll I 126 f))) : T_HT_addWorkToDraft 0 (nI rd) (nI d) (nI (pl c)) (nI v.val) (wI M I) post := by
  obtain ⟨⟨k0, r0, r1, r2, r3, r4, r5, r6, r7, r8, r9, r10, r11⟩, ⟨a78, _⟩, hPo, _, _, _, hP, hNu, hRo⟩ := hT
  have k1 := hP.1.1
  have k6 := hNu.1
  have kd := hPo.1.1
  have hp97 := prm_lt hC.2.2
  have hN := nM_b hC.1 (show rd ≤ 10 by omega)
  have hc1 := hc.1
  have := pk_loop (σ := Nat → Int32) (fun N i f => L_HT_addWorkToDraft_3 post N 0 (nI rd) (nI d) (nI (pl c)) (nI v.val) (nI i) (wI M (sAll I 126 f))) (fun i f => Rep f (fun e m => if e = rd + d then F e m + v * mulm c (trc n ord rd i g) m else F e m)) (nM n ord rd) 0 (I 126) (by omega) (Rep_cong hF (fun e _ m _ => by
    by_cases z : e = rd + d
    · rw [if_pos z, trc_0, mulm_z]; grind
    · rw [if_neg z])) ?_ ?_
  · simp only [sAll_self] at this
    exact this
  · intro N f hf
    have hS' := PrSt_kp (kp_sAll (I := I) (a := 126) (f := f) (by omega)) hC.1
    show B_HT_addWorkToDraft_3 (L_HT_addWorkToDraft_3 post N) post 0 _ _ _ _ _ _
    unfold B_HT_addWorkToDraft_3
    simp only [isK_wI, isA_wI, gR_wI, gI_wI, sI_wI, true_and, and_true, Option.some.injEq, exists_eq_left', k0, r0, k1]
    refine sp_amount hP hS' (by omega) ?_
    refine ⟨fun _ => h f ?_, fun q => absurd (Int32.le_refl _) q⟩
    rw [trc_all hgh] at hf; exact hf
  · intro N i f hi hf ih
    have hS' := PrSt_kp (kp_sAll (I := I) (a := 126) (f := f) (by omega)) hC.1
    have hNs' := NuSt_kp (kp_sAll (I := I) (a := 126) (f := f) (by omega)) hC.2.1
    have oki := atm_ok hi
    have pi := pl66 (ord := ord) (show rd ≤ 10 by omega) hi
    have wv := hg _ oki.1
    show B_HT_addWorkToDraft_3 (L_HT_addWorkToDraft_3 post N) post 0 _ _ _ _ _ _
    unfold B_HT_addWorkToDraft_3 B_HT_addWorkToDraft_96
    simp only [isK_wI, isA_wI, gR_wI, gI_wI, sI_wI, true_and, and_true, Option.some.injEq, exists_eq_left', k0, r0, k1]
    refine sp_amount hP hS' (by omega) ?_
    rw [nI_leI (by omega) (by omega)]
    refine ⟨fun q => absurd q (by omega), fun _ => ?_⟩
    simp only [isK_wI, isA_wI, gR_wI, gI_wI, sI_wI, true_and, and_true, Option.some.injEq, exists_eq_left', k0, r0, k1]
    refine sp_at hP hS' (by omega) hi ?_
    simp (disch := omega) only [isK_wI, isA_wI, gR_wI, gI_wI, sI_wI, true_and, and_true, Option.some.injEq, exists_eq_left', forall_const, not_true_eq_false, not_false_eq_true, false_implies, true_implies, ne_eq, lit_nI, nI_add, pk_mul, pk_sub, pk_div, rem_n, nI_clamp, nI_leI, nI_ltI, nI_eq, in_nI, k0, r3, isA_T a78, sAll_ne (show (78 : Nat) ≠ 126 by omega), wv, vz hp97.2]
    refine ⟨fun z => ih f (Rep_cong hf (fun e _ m _ => ?_)), fun z => ?_⟩
    · by_cases y : e = rd + d
      · rw [if_pos y, if_pos y, trc_s hgh hi]
        by_cases w : m = (c.1 + (atm n ord rd i).1, c.2 + (atm n ord rd i).2)
        · rw [if_pos w, z]; grind
        · rw [if_neg w]
      · rw [if_neg y, if_neg y]
    · simp only [isK_wI, isA_wI, gR_wI, gI_wI, sI_wI, true_and, and_true, Option.some.injEq, exists_eq_left', k0, r0, k1]
      refine sp_together hP hS' (by have := oki.1; omega) (by omega) ?_
      have okt := okm_add oki hc
      have ht1 := okt.1
      simp only [isK_wI, isA_wI, gR_wI, gI_wI, sI_wI, true_and, and_true, Option.some.injEq, exists_eq_left', k0, r5, kd]
      refine sp_numberAt hPo (by omega) ht1 ?_
      have fv := hf (rd + d) (by omega) _ ht1
      dsimp only at fv
      rw [if_pos rfl] at fv
      rw [sAll_eq, fv]
      simp (disch := omega) only [isK_wI, isA_wI, gR_wI, gI_wI, sI_wI, true_and, and_true, Option.some.injEq, exists_eq_left', forall_const, not_true_eq_false, not_false_eq_true, false_implies, true_implies, ne_eq, lit_nI, nI_add, pk_mul, pk_sub, pk_div, rem_n, nI_clamp, nI_leI, nI_ltI, nI_eq, in_nI, k0, r1, r3, r5, k6, isA_T a78, sAll_ne (show (78 : Nat) ≠ 126 by omega), wv]
      refine sp_modulo hNu hNs' hC.2.2 ?_
      have hm : v.val * (g (atm n ord rd i)).val ≤ 97 * 97 := Nat.mul_le_mul (by have := v.isLt; omega) (by have := (g (atm n ord rd i)).isLt; omega)
      rw [ar_add3 hp97.2]
      simp only [isK_wI, isA_wI, gR_wI, gI_wI, sI_wI, true_and, and_true, Option.some.injEq, exists_eq_left', kd]
      refine sp_setNumber hPo (by omega) ht1 ?_
      rw [u2_sAll]
      refine ih _ (Rep_cong (Rep_upd hf (by omega) ht1 _) (fun e _ m _ => ?_))
      unfold updF
      dsimp only
      by_cases y : e = rd + d
      · rw [if_pos y, if_pos y, trc_s hgh hi]
        by_cases w : m = ((atm n ord rd i).1 + c.1, (atm n ord rd i).2 + c.2)
        · rw [if_pos ⟨y, w⟩, if_pos (by rw [w]; apply Prod.ext <;> simp only <;> omega), w, y]; grind
        · rw [if_neg (fun z => w z.2), if_neg (fun z => w (by rw [z]; apply Prod.ext <;> simp only <;> omega))]
      · rw [if_neg (fun z => y z.1), if_neg y, if_neg y]
theorem sp_addClaim [NeZero p] {r : Nat} {H O : Hp p} {C : Nat → Nat → Mo2 → Fin p} {F : Nat → Mo2 → Fin p} {post : Mem → Prop} (hT : HTOK M sw) (hC : Cfg n ord p I) (e1 : HeSt n (hh sw) H.1 H.2.1 H.2.2 I) (hr : r < H.1) (hCl : Rep (I (129 + 2 * r)) (C r)) (hF : Rep (I 126) F) (h : ∀ I', Rep (I' 126) (fun e m => F e m + mulP n ord (C r) (H.2.1 r) (H.2.2 r) e m) → (∀ c, c ≠ 78 → c ≠ 126 → I' c = I c) → post (wI M I')) : T_HT_addClaimTimesRow 0 (nI r) (wI M I) post := by
  have hsw := hh_ne sw
  have hhe := hT.he
  have hT' := hT
  obtain ⟨⟨k0, r0, r1, r2, r3, r4, r5, r6, r7, r8, r9, r10, r11⟩, ⟨a78, _⟩, hPo, ⟨aC, hCO⟩, _, _, hP, hNu, hRo⟩ := hT'
  have kh := hhe.1.1.2.1
  have k1 := hP.1.1
  have hp97 := prm_lt hC.2.2
  have h6 := e1.2.1
  obtain ⟨x1, x2, x3, x4⟩ := e1.2.2 r hr
  obtain ⟨c1, c2⟩ := hCO r (by omega)
  have kc := c2.1.1
  unfold T_HT_addClaimTimesRow
  simp only [isK_wI, isA_wI, gR_wI, gI_wI, sI_wI, true_and, and_true, Option.some.injEq, exists_eq_left', k0, r10, kh]
  refine sp_HedegreeOf hhe.1 e1 hr ?_
  simp only [isK_wI, isA_wI, gR_wI, gI_wI, sI_wI, true_and, and_true, Option.some.injEq, exists_eq_left', k0, r3, r10, kh]
  refine sp_load hhe.1 e1 hr a78 (by omega) (by omega) (fun w hw => ?_)
  have := pk_loop (σ := Nat → Int32) (fun N d f => L_HT_addClaimTimesRow_23 post N 0 (nI r) (nI (H.2.1 r)) (nI d) (wI M (sAll (sAll I 78 w) 126 f))) (fun d f => Rep f (fun e m => F e m + (if H.2.1 r ≤ e ∧ e - H.2.1 r < d then prodm n ord (e - H.2.1 r) (C r (e - H.2.1 r)) (H.2.2 r) m else 0))) (11 - H.2.1 r) 0 (I 126) (by omega) (Rep_cong hF (fun e _ m _ => by rw [if_neg (by omega)]; grind)) ?_ ?_
  · have e0 : sAll (sAll I 78 w) 126 (I 126) = sAll I 78 w := by
      funext c; unfold sAll
      by_cases q : c = 126
      · rw [if_pos q, if_neg (by omega), q]
      · rw [if_neg q]
    simp only [e0] at this
    exact this
  · intro N f hf
    show B_HT_addClaimTimesRow_23 (L_HT_addClaimTimesRow_23 post N) post 0 _ _ _ _
    unfold B_HT_addClaimTimesRow_23
    rw [nI_add, show (10 : Int32) = nI 10 from rfl, nI_ltI (by omega) (by omega)]
    have hfin : Rep f (fun e m => F e m + mulP n ord (C r) (H.2.1 r) (H.2.2 r) e m) := Rep_cong hf (fun e he m _ => by
      unfold mulP
      by_cases z : H.2.1 r ≤ e
      · rw [if_pos z, if_pos ⟨z, by omega⟩]
      · rw [if_neg z, if_neg (fun y => z y.1)])
    exact ⟨fun _ => h _ (by rw [sAll_eq]; exact hfin) (fun c h1 h2 => by rw [sAll_ne h2, sAll_ne h1]), fun q => absurd (by omega) q⟩
  · intro N d f hd hf ih
    have hNd := nM_b hC.1 (show d ≤ 10 by omega)
    show B_HT_addClaimTimesRow_23 (L_HT_addClaimTimesRow_23 post N) post 0 _ _ _ _
    unfold B_HT_addClaimTimesRow_23
    rw [nI_add, show (10 : Int32) = nI 10 from rfl, nI_ltI (by omega) (by omega)]
    refine ⟨fun q => absurd q (by omega), fun _ => ?_⟩
    refine pk_loop (σ := Nat → Int32) (fun N' i f' => L_HT_addClaimTimesRow_34 (L_HT_addClaimTimesRow_23 post N) post N' 0 (nI r) (nI (H.2.1 r)) (nI d) (nI i) (wI M (sAll (sAll I 78 w) 126 f'))) (fun i f' => Rep f' (fun e m => (F e m + (if H.2.1 r ≤ e ∧ e - H.2.1 r < d then prodm n ord (e - H.2.1 r) (C r (e - H.2.1 r)) (H.2.2 r) m else 0)) + (if e = H.2.1 r + d then sm (fun i' => C r d (atm n ord d i') * mulm (atm n ord d i') (H.2.2 r) m) i else 0))) (nM n ord d) 0 f (by omega) (Rep_cong hf (fun e _ m _ => ?_)) ?_ ?_
    · show _ = _ + (if e = H.2.1 r + d then (0 : Fin p) else 0)
      split <;> grind
    · intro N' f' hf'
      have hS' : PrSt n ord (sAll (sAll I 78 w) 126 f') := PrSt_kp (fun c hc => by rw [sAll_ne (by omega), sAll_ne (by omega)]) hC.1
      show B_HT_addClaimTimesRow_34 _ (L_HT_addClaimTimesRow_34 _ post N') post 0 _ _ _ _ _
      unfold B_HT_addClaimTimesRow_34
      simp only [isK_wI, isA_wI, gR_wI, gI_wI, sI_wI, true_and, and_true, Option.some.injEq, exists_eq_left', k0, r0, k1]
      refine sp_amount hP hS' (by omega) ?_
      rw [nI_1 d]
      refine ⟨fun _ => ih f' (Rep_cong hf' (fun e _ m _ => ?_)), fun q => absurd (Int32.le_refl _) q⟩
      by_cases z : e = H.2.1 r + d
      · rw [if_pos z, if_neg (by omega), if_pos (by omega), show e - H.2.1 r = d by omega]
        show F e m + 0 + prodm n ord d (C r d) (H.2.2 r) m = _
        grind
      · rw [if_neg z]
        by_cases y : H.2.1 r ≤ e ∧ e - H.2.1 r < d
        · rw [if_pos y, if_pos ⟨y.1, by omega⟩]; grind
        · rw [if_neg y, if_neg (by omega)]; grind
    · intro N' i f' hi hf' ih'
      have hC' : Cfg n ord p (sAll (sAll I 78 w) 126 f') := Cfg_kp (fun c hc => by rw [sAll_ne (by omega), sAll_ne (by omega)]) hC
      have oki := atm_ok hi
      have hcv := hCl d (by omega) _ oki.1
      show B_HT_addClaimTimesRow_34 _ (L_HT_addClaimTimesRow_34 _ post N') post 0 _ _ _ _ _
      unfold B_HT_addClaimTimesRow_34 B_HT_addClaimTimesRow_88
      simp only [isK_wI, isA_wI, gR_wI, gI_wI, sI_wI, true_and, and_true, Option.some.injEq, exists_eq_left', k0, r0, k1]
      refine sp_amount hP hC'.1 (by omega) ?_
      rw [nI_leI (by omega) (by omega)]
      refine ⟨fun q => absurd q (by omega), fun _ => ?_⟩
      simp only [isK_wI, isA_wI, gR_wI, gI_wI, sI_wI, true_and, and_true, Option.some.injEq, exists_eq_left', k0, r0, k1]
      refine sp_at hP hC'.1 (by omega) hi ?_
      simp (disch := omega) only [isK_wI, isA_wI, gR_wI, gI_wI, sI_wI, true_and, and_true, Option.some.injEq, exists_eq_left', forall_const, not_true_eq_false, not_false_eq_true, false_implies, true_implies, ne_eq, lit_nI, nI_add, pk_mul, pk_sub, pk_div, rem_n, nI_clamp, nI_leI, nI_ltI, nI_eq, in_nI, k0, r6, isA_T aC]
      refine ⟨_, c1, ?_⟩
      simp only [isK_wI, isA_wI, gR_wI, gI_wI, sI_wI, true_and, and_true, Option.some.injEq, exists_eq_left', kc]
      refine sp_numberAt c2 (by omega) oki.1 ?_
      rw [sAll_ne (show 128 + 2 * r + 1 ≠ 126 by omega), sAll_ne (show 128 + 2 * r + 1 ≠ 78 by omega), show 128 + 2 * r + 1 = 129 + 2 * r by omega, hcv]
      simp (disch := omega) only [isK_wI, isA_wI, gR_wI, gI_wI, sI_wI, true_and, and_true, Option.some.injEq, exists_eq_left', forall_const, not_true_eq_false, not_false_eq_true, false_implies, true_implies, ne_eq, lit_nI, nI_add, pk_mul, pk_sub, pk_div, rem_n, nI_clamp, nI_leI, nI_ltI, nI_eq, in_nI, k0, vz hp97.2]
      have step : ∀ (e : Nat) (m : Mo2), sm (fun i' => C r d (atm n ord d i') * mulm (atm n ord d i') (H.2.2 r) m) (i + 1) = sm (fun i' => C r d (atm n ord d i') * mulm (atm n ord d i') (H.2.2 r) m) i + C r d (atm n ord d i) * mulm (atm n ord d i) (H.2.2 r) m := fun e m => rfl
      refine ⟨fun z => ih' f' (Rep_cong hf' (fun e _ m _ => ?_)), fun z => ?_⟩
      · by_cases y : e = H.2.1 r + d
        · rw [if_pos y, if_pos y, step e m, z]; grind
        · rw [if_neg y, if_neg y]
      · refine sp_addWork (g := H.2.2 r) hT hC' (by rw [sAll_ne (by omega), sAll_eq]; exact hw) x3 (by rw [sAll_eq]; exact hf') oki (by omega) (fun f2 hf2 => ?_)
        rw [sAll_sAll]
        refine ih' f2 (Rep_cong hf2 (fun e _ m _ => ?_))
        by_cases y : e = H.2.1 r + d
        · rw [if_pos y, if_pos y, if_pos y, step e m]; grind
        · rw [if_neg y, if_neg y, if_neg y]
theorem op_sum [NeZero p] {D : Nat → Mo2 → Fin p} {H O : Hp p} {C : Nat → Nat → Mo2 → Fin p} {post : Int32 → Mem → Prop} (hT : HTOK M sw) (hS : CSt n ord D H O C sw I) (h : ∀ I', CSt n ord (sumP n ord H C H.1) H O C sw I' → FR I I' → post (nI (szP (sumP n ord H C H.1))) (wI M I')) : T_HT_sum 0 (wI M I) post := by
  have hsw := hh_ne sw
  have hhe := hT.he
  have hT' := hT
  obtain ⟨⟨k0, r0, r1, r2, r3, r4, r5, r6, r7, r8, r9, r10, r11⟩, ⟨a78, _⟩, hPo, ⟨aC, hCO⟩, _, _, hP, hNu, hRo⟩ := hT'
  have kh := hhe.1.1.2.1
  have kd := hPo.1.1
  have hp97 := (prm_lt hS.1.2.2.2).2
  have hS' := hS
  obtain ⟨⟨w, hC⟩, hD, cl, ⟨e1, e2⟩, ⟨⟨t1, b1⟩, t2, b2⟩, ⟨t3, b3⟩, ⟨t4, b4⟩, t5, b5⟩ := hS'
  have h6 := e1.2.1
  unfold T_HT_sum
  simp only [isK_wI, isA_wI, gR_wI, gI_wI, sI_wI, true_and, and_true, Option.some.injEq, exists_eq_left', k0, r5, kd]
  refine sp_Poclear hPo (fun f0 hf0 => ?_)
  refine pk_loop (σ := Nat → Nat → Int32) (fun N r J => L_HT_sum_9 post N 0 (nI r) (wI M J)) (fun r J => Rep (J 126) (sumP n ord H C r) ∧ ∀ c, c ≠ 78 → c ≠ 126 → J c = I c) H.1 0 (sAll I 126 f0) (by omega) ⟨by rw [sAll_eq]; exact Rep_0 hf0, fun c _ h2 => sAll_ne h2⟩ ?_ ?_
  · intro N J ⟨j1, j2⟩
    have e1' : HeSt n (hh sw) H.1 H.2.1 H.2.2 J := HeSt_kp (fun c hc => j2 c (by omega) (by omega)) e1
    show B_HT_sum_9 (L_HT_sum_9 post N) post 0 _ _
    unfold B_HT_sum_9
    simp only [isK_wI, isA_wI, gR_wI, gI_wI, sI_wI, true_and, and_true, Option.some.injEq, exists_eq_left', k0, r10, kh]
    refine sp_Hesize hhe.1 e1' ?_
    refine ⟨fun _ => ?_, fun q => absurd (Int32.le_refl _) q⟩
    simp only [isK_wI, isA_wI, gR_wI, gI_wI, sI_wI, true_and, and_true, Option.some.injEq, exists_eq_left', k0]
    refine sp_draftChanged (n := n) (ord := ord) (G := Gquo H D) hT ⟨t5, BaSt_kp (fun c y1 y2 => j2 c (by omega) (by omega)) b5⟩ (fun J2 hb hf => ?_)
    have hR : Rep (J2 126) (sumP n ord H C H.1) := by rw [hf 126 (by omega)]; exact j1
    simp only [isK_wI, isA_wI, gR_wI, gI_wI, sI_wI, true_and, and_true, Option.some.injEq, exists_eq_left', k0, r5, kd]
    refine sp_Posize hPo hp97 hR ?_
    refine h J2 (CSt_draft hS (fun e _ => sumP_hom (fun r hr => (w.2.1.2 r hr).2.1) e) hR hb (fun c hs h1 h2 => ?_)) (fun c hc => ?_)
    · rw [hf c h2]
      unfold sup at hs
      exact j2 c (by omega) h1
    · rw [hf c (by omega), j2 c (by omega) (by omega)]
  · intro N r J hr ⟨j1, j2⟩ ih
    have e1' : HeSt n (hh sw) H.1 H.2.1 H.2.2 J := HeSt_kp (fun c hc => j2 c (by omega) (by omega)) e1
    show B_HT_sum_9 (L_HT_sum_9 post N) post 0 _ _
    unfold B_HT_sum_9
    simp only [isK_wI, isA_wI, gR_wI, gI_wI, sI_wI, true_and, and_true, Option.some.injEq, exists_eq_left', k0, r10, kh]
    refine sp_Hesize hhe.1 e1' ?_
    rw [nI_leI (by omega) (by omega), nI_1]
    refine ⟨fun q => absurd q (by omega), fun _ => ?_⟩
    simp only [isK_wI, isA_wI, gR_wI, gI_wI, sI_wI, true_and, and_true, Option.some.injEq, exists_eq_left', k0]
    refine sp_addClaim (O := O) hT (Cfg_kp (fun c hc => j2 c (by omega) (by omega)) hC) e1' hr (by rw [j2 _ (by omega) (by omega)]; exact cl r (by omega)) j1 (fun J2 h1 h2 => ih J2 ⟨h1, fun c c1 c2 => by rw [h2 c c1 c2, j2 c c1 c2]⟩)
end HT11
