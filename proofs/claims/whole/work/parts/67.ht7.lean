/-! HeapTower: products of rows -/
/-- cut off from position j on -/
def trc {p : Nat} [NeZero p] (n ord d j : Nat) (g : Mo2 → Fin p) : Mo2 → Fin p := fun x => if psm n ord d x < j then g x else 0
theorem trc_0 {p : Nat} [NeZero p] (n ord d : Nat) (g : Mo2 → Fin p) : trc n ord d 0 g = fun _ => 0 := by
  funext x; unfold trc; rw [if_neg (Nat.not_lt_zero _)]
theorem trc_all {p : Nat} [NeZero p] {n ord d : Nat} {g : Mo2 → Fin p} (h : hom n d g) : trc n ord d (nM n ord d) g = g := by
  funext x; unfold trc
  by_cases q : g x = 0
  · rw [q]; split <;> rfl
  · rw [if_pos (psm_lt (h x q))]
/-- one position more, moved -/
theorem trc_s {p : Nat} [NeZero p] {n ord d j : Nat} {g : Mo2 → Fin p} (h : hom n d g) (hj : j < nM n ord d) (c m : Mo2) : mulm c (trc n ord d (j + 1) g) m = if m = (c.1 + (atm n ord d j).1, c.2 + (atm n ord d j).2) then mulm c (trc n ord d j g) m + g (atm n ord d j) else mulm c (trc n ord d j g) m := by
  unfold mulm
  by_cases q : m = (c.1 + (atm n ord d j).1, c.2 + (atm n ord d j).2)
  · rw [if_pos q]
    have e1 : m.1 = c.1 + (atm n ord d j).1 := by rw [q]
    have e2 : m.2 = c.2 + (atm n ord d j).2 := by rw [q]
    have e3 : ((m.1 - c.1, m.2 - c.2) : Mo2) = atm n ord d j := by apply Prod.ext <;> simp only <;> omega
    rw [if_pos ⟨by omega, by omega⟩, if_pos ⟨by omega, by omega⟩, e3]
    unfold trc
    rw [psm_atm hj, if_pos (by omega), if_neg (by omega)]
    grind
  · rw [if_neg q]
    by_cases z : c.1 ≤ m.1 ∧ c.2 ≤ m.2
    · rw [if_pos z, if_pos z]
      unfold trc
      by_cases y : g (m.1 - c.1, m.2 - c.2) = 0
      · rw [y]; split <;> split <;> rfl
      · have hok := h _ y
        have e1 := atm_psm (ord := ord) hok
        have hne : psm n ord d (m.1 - c.1, m.2 - c.2) ≠ j := by
          intro e
          apply q
          rw [e] at e1
          rw [e1]
          apply Prod.ext <;> simp only <;> omega
        by_cases v : psm n ord d (m.1 - c.1, m.2 - c.2) < j
        · rw [if_pos v, if_pos (by omega)]
        · rw [if_neg v, if_neg (by omega)]
    · rw [if_neg z, if_neg z]
section HT7
variable {M : Mem} {I : Nat → Nat → Int32} {n ord p : Nat} {sw : Bool}
theorem sp_loadRowProduct [NeZero p] {D : Nat → Mo2 → Fin p} {H O : Hp p} {C : Nat → Nat → Mo2 → Fin p} {a b : Nat} {post : Mem → Prop} (hT : HTOK M sw) (hC : Cfg n ord p I) (e1 : HeSt n (hh sw) H.1 H.2.1 H.2.2 I) (e2 : HeSt n (oo sw) O.1 O.2.1 O.2.2 I) (ha : a < H.1) (hb : b < O.1) (h : ∀ g, RepV (H.2.1 a + O.2.1 b) g (prodm n ord (H.2.1 a) (H.2.2 a) (O.2.2 b)) → post (wI M (sAll I 78 g))) : T_HT_loadRowProduct 0 (nI a) (nI b) (wI M I) post := by
  have hsw := hh_ne sw
  have hhe := hT.he
  obtain ⟨⟨k0, r0, r1, r2, r3, r4, r5, r6, r7, r8, r9, r10, r11⟩, ⟨a78, _⟩, hPo, _, _, _, hP, hNu, hRo⟩ := hT
  have kh := hhe.1.1.2.1
  have ko := hhe.2.1.2.1
  have k1 := hP.1.1
  have k6 := hNu.1
  have hp97 := prm_lt hC.2.2
  have hA6 := e1.2.1
  have hB6 := e2.2.1
  have aA := (hhe.1.2.2.2.1 a (by omega)).2
  have aB := (hhe.2.2.2.2.1 b (by omega)).2
  obtain ⟨x1, x2, x3, x4⟩ := e1.2.2 a ha
  obtain ⟨y1, y2, y3, y4⟩ := e2.2.2 b hb
  have hNa := nM_b hC.1 (show H.2.1 a ≤ 10 by omega)
  have hNb := nM_b hC.1 (show O.2.1 b ≤ 10 by omega)
  have hp0 : ¬ p = 0 := NeZero.ne p
  unfold T_HT_loadRowProduct
  simp only [isK_wI, isA_wI, gR_wI, gI_wI, sI_wI, true_and, and_true, Option.some.injEq, exists_eq_left', k0, r10, kh]
  refine sp_numbersOf hhe.1 e1 ha ?_
  simp only [isK_wI, isA_wI, gR_wI, gI_wI, sI_wI, true_and, and_true, Option.some.injEq, exists_eq_left', k0, r11, ko]
  refine sp_numbersOf hhe.2 e2 hb ?_
  simp only [isK_wI, isA_wI, gR_wI, gI_wI, sI_wI, true_and, and_true, Option.some.injEq, exists_eq_left', k0, r1, k6]
  refine sp_prime hNu hC.2.1 ?_
  simp only [isK_wI, isA_wI, gR_wI, gI_wI, sI_wI, true_and, and_true, Option.some.injEq, exists_eq_left', k0, r3]
  refine sp_fill2 a78 (by omega) ?_
  have key : ∀ r i g, i + r = nM n ord (H.2.1 a) → RepV (H.2.1 a + O.2.1 b) g (fun m => sm (fun i' => H.2.2 a (atm n ord (H.2.1 a) i') * mulm (atm n ord (H.2.1 a) i') (O.2.2 b) m) i) → L_HT_loadRowProduct_39 post (r + 1) 0 (nI a) (nI b) (hh sw + 11 + a) (oo sw + 11 + b) (nI p) (nI i) (wI M (sAll I 78 g)) := by
    intro r
    induction r with
    | zero =>
      intro i g hi hg
      have hS' := PrSt_kp (kp_sAll (I := I) (a := 78) (f := g) (by omega)) hC.1
      have e1' : HeSt n (hh sw) H.1 H.2.1 H.2.2 (sAll I 78 g) := HeSt_kp (fun c hc => sAll_ne (by omega)) e1
      have hiN : i = nM n ord (H.2.1 a) := by omega
      subst hiN
      show B_HT_loadRowProduct_39 _ post 0 _ _ _ _ _ _ _
      unfold B_HT_loadRowProduct_39
      simp only [isK_wI, isA_wI, gR_wI, gI_wI, sI_wI, true_and, and_true, Option.some.injEq, exists_eq_left', k0, r0, r10, kh]
      refine sp_HedegreeOf hhe.1 e1' ha ?_
      simp only [isK_wI, isA_wI, gR_wI, gI_wI, sI_wI, true_and, and_true, Option.some.injEq, exists_eq_left', k1]
      refine sp_amount hP hS' (by omega) ?_
      rw [nI_leI (by omega) (by omega)]
      exact ⟨fun _ => h g hg, fun z => absurd (Nat.le_refl _) z⟩
    | succ r ih =>
      intro i g hi hg
      have hi2 : i < nM n ord (H.2.1 a) := by omega
      have hS' := PrSt_kp (kp_sAll (I := I) (a := 78) (f := g) (by omega)) hC.1
      have e1' : HeSt n (hh sw) H.1 H.2.1 H.2.2 (sAll I 78 g) := HeSt_kp (fun c hc => sAll_ne (by omega)) e1
      have oki := atm_ok hi2
      have pi := pl21 (m := atm n ord (H.2.1 a) i) (by have := oki.1; omega)
      have lv := x4 _ oki.1
      show B_HT_loadRowProduct_39 (L_HT_loadRowProduct_39 post (r + 1)) post 0 _ _ _ _ _ _ _
      unfold B_HT_loadRowProduct_39 B_HT_loadRowProduct_177
      simp only [isK_wI, isA_wI, gR_wI, gI_wI, sI_wI, true_and, and_true, Option.some.injEq, exists_eq_left', k0, r0, r10, kh]
      refine sp_HedegreeOf hhe.1 e1' ha ?_
      simp only [isK_wI, isA_wI, gR_wI, gI_wI, sI_wI, true_and, and_true, Option.some.injEq, exists_eq_left', k1]
      refine sp_amount hP hS' (by omega) ?_
      rw [nI_leI (by omega) (by omega)]
      refine ⟨fun z => absurd z (by omega), fun _ => ?_⟩
      simp only [isK_wI, isA_wI, gR_wI, gI_wI, sI_wI, true_and, and_true, Option.some.injEq, exists_eq_left', k0, r0, r10, kh]
      refine sp_HedegreeOf hhe.1 e1' ha ?_
      simp only [isK_wI, isA_wI, gR_wI, gI_wI, sI_wI, true_and, and_true, Option.some.injEq, exists_eq_left', k1]
      refine sp_at hP hS' (by omega) hi2 ?_
      simp (disch := omega) only [isK_wI, isA_wI, gR_wI, gI_wI, sI_wI, true_and, and_true, Option.some.injEq, exists_eq_left', forall_const, not_true_eq_false, not_false_eq_true, false_implies, true_implies, ne_eq, lit_nI, nI_add, pk_mul, pk_sub, pk_div, rem_n, nI_clamp, nI_leI, nI_ltI, nI_eq, in_nI, isA_T aA, sAll_ne (show hh sw + 11 + a ≠ 78 by omega), lv, vz hp97.2]
      refine ⟨fun z => ?_, fun z => ?_⟩
      · -- the row of i
        have key2 : ∀ r' j g', j + r' = nM n ord (O.2.1 b) → RepV (H.2.1 a + O.2.1 b) g' (fun m => sm (fun i' => H.2.2 a (atm n ord (H.2.1 a) i') * mulm (atm n ord (H.2.1 a) i') (O.2.2 b) m) i + H.2.2 a (atm n ord (H.2.1 a) i) * mulm (atm n ord (H.2.1 a) i) (trc n ord (O.2.1 b) j (O.2.2 b)) m) → L_HT_loadRowProduct_91 (L_HT_loadRowProduct_39 post (r + 1)) post (r' + 1) 0 (nI a) (nI b) (hh sw + 11 + a) (oo sw + 11 + b) (nI p) (nI i) (nI (pl (atm n ord (H.2.1 a) i))) (nI j) (wI M (sAll I 78 g')) := by
          intro r'
          induction r' with
          | zero =>
            intro j g' hj hg'
            have hS2 := PrSt_kp (kp_sAll (I := I) (a := 78) (f := g') (by omega)) hC.1
            have e2' : HeSt n (oo sw) O.1 O.2.1 O.2.2 (sAll I 78 g') := HeSt_kp (fun c hc => sAll_ne (by omega)) e2
            have hjN : j = nM n ord (O.2.1 b) := by omega
            subst hjN
            show B_HT_loadRowProduct_91 _ _ post 0 _ _ _ _ _ _ _ _ _
            unfold B_HT_loadRowProduct_91 B_HT_loadRowProduct_177
            simp only [isK_wI, isA_wI, gR_wI, gI_wI, sI_wI, true_and, and_true, Option.some.injEq, exists_eq_left', k0, r0, r11, ko]
            refine sp_HedegreeOf hhe.2 e2' hb ?_
            simp only [isK_wI, isA_wI, gR_wI, gI_wI, sI_wI, true_and, and_true, Option.some.injEq, exists_eq_left', k1]
            refine sp_amount hP hS2 (by omega) ?_
            rw [nI_leI (by omega) (by omega)]
            refine ⟨fun _ => ?_, fun z => absurd (Nat.le_refl _) z⟩
            rw [show nI i + 1 = nI (i + 1) from nI_add i 1]
            exact ih (i + 1) g' (by omega) (by rw [trc_all y3] at hg'; exact hg')
          | succ r' ih' =>
            intro j g' hj hg'
            have hj2 : j < nM n ord (O.2.1 b) := by omega
            have hS2 := PrSt_kp (kp_sAll (I := I) (a := 78) (f := g') (by omega)) hC.1
            have e2' : HeSt n (oo sw) O.1 O.2.1 O.2.2 (sAll I 78 g') := HeSt_kp (fun c hc => sAll_ne (by omega)) e2
            have okj := atm_ok hj2
            have pj := pl21 (m := atm n ord (O.2.1 b) j) (by have := okj.1; omega)
            have rv := y4 _ okj.1
            have okt := okm_add oki okj
            have ht1 := okt.1
            have pt := pl_lt (m := ((atm n ord (H.2.1 a) i).1 + (atm n ord (O.2.1 b) j).1, (atm n ord (H.2.1 a) i).2 + (atm n ord (O.2.1 b) j).2)) (by omega)
            have wv := hg' _ ht1
            have hlv := (H.2.2 a (atm n ord (H.2.1 a) i)).isLt
            show B_HT_loadRowProduct_91 _ (L_HT_loadRowProduct_91 _ post (r' + 1)) post 0 _ _ _ _ _ _ _ _ _
            unfold B_HT_loadRowProduct_91
            simp only [isK_wI, isA_wI, gR_wI, gI_wI, sI_wI, true_and, and_true, Option.some.injEq, exists_eq_left', k0, r0, r11, ko]
            refine sp_HedegreeOf hhe.2 e2' hb ?_
            simp only [isK_wI, isA_wI, gR_wI, gI_wI, sI_wI, true_and, and_true, Option.some.injEq, exists_eq_left', k1]
            refine sp_amount hP hS2 (by omega) ?_
            rw [nI_leI (by omega) (by omega)]
            refine ⟨fun z => absurd z (by omega), fun _ => ?_⟩
            simp only [isK_wI, isA_wI, gR_wI, gI_wI, sI_wI, true_and, and_true, Option.some.injEq, exists_eq_left', k0, r0, r11, ko]
            refine sp_HedegreeOf hhe.2 e2' hb ?_
            simp only [isK_wI, isA_wI, gR_wI, gI_wI, sI_wI, true_and, and_true, Option.some.injEq, exists_eq_left', k1]
            refine sp_at hP hS2 (by omega) hj2 ?_
            simp only [isK_wI, isA_wI, gR_wI, gI_wI, sI_wI, true_and, and_true, Option.some.injEq, exists_eq_left', k0, r0, k1]
            refine sp_together hP hS2 (by have := oki.1; omega) (by have := okj.1; omega) ?_
            simp (disch := omega) only [isK_wI, isA_wI, gR_wI, gI_wI, sI_wI, true_and, and_true, Option.some.injEq, exists_eq_left', forall_const, not_true_eq_false, not_false_eq_true, false_implies, true_implies, ne_eq, lit_nI, nI_add, pk_mul, pk_sub, pk_div, rem_n, nI_clamp, nI_leI, nI_ltI, nI_eq, in_nI, k0, r3, isA_T a78, isA_T aA, isA_T aB, sAll_eq, sAll_ne (show hh sw + 11 + a ≠ 78 by omega), sAll_ne (show oo sw + 11 + b ≠ 78 by omega), lv, rv, wv, ar_add2 hp97.2 (show (H.2.2 a (atm n ord (H.2.1 a) i)).val ≤ 97 by omega) (Nat.mod_eq_of_lt hlv).symm, u2_sAll]
            refine ⟨hp0, ih' (j + 1) _ (by omega) (RepV_cong (RepV_upd (by omega) hg' ht1 _) (fun m hm => ?_))⟩
            rw [trc_s y3 hj2]
            by_cases q : m = ((atm n ord (H.2.1 a) i).1 + (atm n ord (O.2.1 b) j).1, (atm n ord (H.2.1 a) i).2 + (atm n ord (O.2.1 b) j).2)
            · rw [if_pos q, if_pos q, q]; grind
            · rw [if_neg q, if_neg q]
        refine ⟨_, key2 (nM n ord (O.2.1 b)) 0 g (by omega) (RepV_cong hg (fun m hm => ?_))⟩
        rw [trc_0, mulm_z]; grind
      · refine ih (i + 1) g (by omega) (RepV_cong hg (fun m hm => ?_))
        show sm _ i = sm _ i + H.2.2 a (atm n ord (H.2.1 a) i) * mulm (atm n ord (H.2.1 a) i) (O.2.2 b) m
        rw [z]; grind
  refine ⟨_, key (nM n ord (H.2.1 a)) 0 _ (by omega) (fun m hm => ?_)⟩
  rw [if_pos (pl_lt (by omega))]
  show _ = nI ((0 : Fin p).val)
  rw [show (0 : Fin p).val = 0 from Nat.zero_mod p]; rfl
theorem up_prd [NeZero p] {d1 : Nat} {x : Int32} {D : Nat → Mo2 → Fin p} {H O : Hp p} {C : Nat → Nat → Mo2 → Fin p} {post : Nat → Mem → Prop} (hT : HTOK M sw) (hS : CSt n ord D H O C sw I) (hd1 : d1 ≤ 11) (hx : x = nI d1 - 1) (hp : ∀ I' r, CSt n ord D H O C sw I' → d1 ≤ r → BaSt n ord 149 (Gprd n ord H O) r I' → (∀ c, 199 ≤ c → I' c = I c) → post 149 (wI M I')) : T_HT_productBaseUpTo 0 x (wI M I) post := by
  have hsw := hh_ne sw
  have hhe := hT.he
  have hMOK := hT.2.2.2.2.2.2
  have hT' := hT
  obtain ⟨⟨k0, r0, r1, r2, r3, r4, r5, r6, r7, r8, r9, r10, r11⟩, ⟨a78, _⟩, hPo, _, ⟨c1, c2, c3⟩, _⟩ := hT'
  have kb := c2.2.1.1
  have kh := hhe.1.1.2.1
  have ko := hhe.2.1.2.1
  have hGs := hS.hom1.2.2.2.1
  have hS' := hS
  obtain ⟨⟨w, hC⟩, hD, cl, ⟨e1, e2⟩, ⟨⟨t1, b1⟩, t2, b2⟩, ⟨t3, b3⟩, ⟨t4, b4⟩, t5, b5⟩ := hS'
  have hr11 := b4.le
  have hA6 := e1.2.1
  have hB6 := e2.2.1
  -- the rows of one degree
  have offers : ∀ (d : Nat) (post2 : Mem → Prop) (I1 : Nat → Nat → Int32), d ≤ 10 → (∀ c, c ≠ 78 → c ≠ 140 → (c < 8 ∨ 77 < c) → (c < 149 ∨ 156 < c) → I1 c = I c) → BaOp n ord 149 (Gb d (Gprd n ord H O)) d I1 → (∀ I2, BaOp n ord 149 (fun e g => Gb d (Gprd n ord H O) e g ∨ (e = d ∧ Gprd n ord H O d g)) d I2 → (∀ c, c ≠ 78 → c ≠ 140 → (c < 8 ∨ 77 < c) → (c < 149 ∨ 156 < c) → I2 c = I c) → post2 (wI M I2)) → T_HT_offerRowProducts 0 (nI d) (wI M I1) post2 := by
    intro d post2 I1 hd hf1 hO1 hpost
    have hh2 : ∀ a b, a ≤ H.1 → b ≤ O.1 → ∀ e g, (Gb d (Gprd n ord H O) e g ∨ (e = d ∧ ∃ a' b', (a' < a ∨ (a' = a ∧ b' < b)) ∧ a' < H.1 ∧ b' < O.1 ∧ H.2.1 a' + O.2.1 b' = d ∧ g = prodm n ord (H.2.1 a') (H.2.2 a') (O.2.2 b'))) → hom n e g := by
      rintro a b _ _ e g (⟨_, z⟩ | ⟨rfl, a', b', _, z1, z2, z3, z4⟩)
      · exact hGs e g z
      · exact hGs _ g ⟨a', b', z1, z2, z3, z4⟩
    have key : ∀ t a I', a + t = H.1 → (∀ c, c ≠ 78 → c ≠ 140 → (c < 8 ∨ 77 < c) → (c < 149 ∨ 156 < c) → I' c = I c) → BaOp n ord 149 (fun e g => Gb d (Gprd n ord H O) e g ∨ (e = d ∧ ∃ a' b', (a' < a ∨ (a' = a ∧ b' < 0)) ∧ a' < H.1 ∧ b' < O.1 ∧ H.2.1 a' + O.2.1 b' = d ∧ g = prodm n ord (H.2.1 a') (H.2.2 a') (O.2.2 b'))) d I' → L_HT_offerRowProducts_2 post2 (t + 1) 0 (nI d) (nI a) (wI M I') := by
      intro t
      induction t with
      | zero =>
        intro a I' ha hf hO
        have e1' : HeSt n (hh sw) H.1 H.2.1 H.2.2 I' := HeSt_kp (fun c hc => hf c (by omega) (by omega) (by omega) (by omega)) e1
        have haH : a = H.1 := by omega
        subst haH
        show B_HT_offerRowProducts_2 _ post2 0 _ _ _
        unfold B_HT_offerRowProducts_2
        simp only [isK_wI, isA_wI, gR_wI, gI_wI, sI_wI, true_and, and_true, Option.some.injEq, exists_eq_left', k0, r10, kh]
        refine sp_Hesize hhe.1 e1' ?_
        rw [nI_leI (by omega) (by omega)]
        refine ⟨fun _ => hpost I' ?_ hf, fun z => absurd (Nat.le_refl _) z⟩
        have : (fun e g => Gb d (Gprd n ord H O) e g ∨ (e = d ∧ Gprd n ord H O d g)) = (fun e g => Gb d (Gprd n ord H O) e g ∨ (e = d ∧ ∃ a' b', (a' < H.1 ∨ (a' = H.1 ∧ b' < 0)) ∧ a' < H.1 ∧ b' < O.1 ∧ H.2.1 a' + O.2.1 b' = d ∧ g = prodm n ord (H.2.1 a') (H.2.2 a') (O.2.2 b'))) := by
          funext e g
          apply propext
          constructor
          · rintro (z | ⟨z1, a', b', z2, z3, z4, z5⟩)
            · exact Or.inl z
            · exact Or.inr ⟨z1, a', b', Or.inl z2, z2, z3, z4, z5⟩
          · rintro (z | ⟨z1, a', b', _, z2, z3, z4, z5⟩)
            · exact Or.inl z
            · exact Or.inr ⟨z1, a', b', z2, z3, z4, z5⟩
        rw [this]; exact hO
      | succ t ih =>
        intro a I' ha hf hO
        have haH : a < H.1 := by omega
        have e1' : HeSt n (hh sw) H.1 H.2.1 H.2.2 I' := HeSt_kp (fun c hc => hf c (by omega) (by omega) (by omega) (by omega)) e1
        show B_HT_offerRowProducts_2 (L_HT_offerRowProducts_2 post2 (t + 1)) post2 0 _ _ _
        unfold B_HT_offerRowProducts_2
        simp only [isK_wI, isA_wI, gR_wI, gI_wI, sI_wI, true_and, and_true, Option.some.injEq, exists_eq_left', k0, r10, kh]
        refine sp_Hesize hhe.1 e1' ?_
        rw [nI_leI (by omega) (by omega)]
        refine ⟨fun z => absurd z (by omega), fun _ => ?_⟩
        have key2 : ∀ t' b I2, b + t' = O.1 → (∀ c, c ≠ 78 → c ≠ 140 → (c < 8 ∨ 77 < c) → (c < 149 ∨ 156 < c) → I2 c = I c) → BaOp n ord 149 (fun e g => Gb d (Gprd n ord H O) e g ∨ (e = d ∧ ∃ a' b', (a' < a ∨ (a' = a ∧ b' < b)) ∧ a' < H.1 ∧ b' < O.1 ∧ H.2.1 a' + O.2.1 b' = d ∧ g = prodm n ord (H.2.1 a') (H.2.2 a') (O.2.2 b'))) d I2 → L_HT_offerRowProducts_15 (L_HT_offerRowProducts_2 post2 (t + 1)) post2 (t' + 1) 0 (nI d) (nI a) (nI b) (wI M I2) := by
          intro t'
          induction t' with
          | zero =>
            intro b I2 hb hf2 hO2
            have e2' : HeSt n (oo sw) O.1 O.2.1 O.2.2 I2 := HeSt_kp (fun c hc => hf2 c (by omega) (by omega) (by omega) (by omega)) e2
            have hbO : b = O.1 := by omega
            subst hbO
            show B_HT_offerRowProducts_15 _ _ post2 0 _ _ _ _
            unfold B_HT_offerRowProducts_15
            simp only [isK_wI, isA_wI, gR_wI, gI_wI, sI_wI, true_and, and_true, Option.some.injEq, exists_eq_left', k0, r11, ko]
            refine sp_Hesize hhe.2 e2' ?_
            rw [nI_leI (by omega) (by omega)]
            refine ⟨fun _ => ?_, fun z => absurd (Nat.le_refl _) z⟩
            rw [show nI a + 1 = nI (a + 1) from nI_add a 1]
            refine ih (a + 1) I2 (by omega) hf2 ?_
            have : (fun e g => Gb d (Gprd n ord H O) e g ∨ (e = d ∧ ∃ a' b', (a' < a + 1 ∨ (a' = a + 1 ∧ b' < 0)) ∧ a' < H.1 ∧ b' < O.1 ∧ H.2.1 a' + O.2.1 b' = d ∧ g = prodm n ord (H.2.1 a') (H.2.2 a') (O.2.2 b'))) = (fun e g => Gb d (Gprd n ord H O) e g ∨ (e = d ∧ ∃ a' b', (a' < a ∨ (a' = a ∧ b' < O.1)) ∧ a' < H.1 ∧ b' < O.1 ∧ H.2.1 a' + O.2.1 b' = d ∧ g = prodm n ord (H.2.1 a') (H.2.2 a') (O.2.2 b'))) := by
              funext e g
              apply propext
              constructor
              · rintro (z | ⟨z1, a', b', z0, z2, z3, z4, z5⟩)
                · exact Or.inl z
                · exact Or.inr ⟨z1, a', b', by omega, z2, z3, z4, z5⟩
              · rintro (z | ⟨z1, a', b', z0, z2, z3, z4, z5⟩)
                · exact Or.inl z
                · exact Or.inr ⟨z1, a', b', by omega, z2, z3, z4, z5⟩
            rw [this]; exact hO2
          | succ t' ih' =>
            intro b I2 hb hf2 hO2
            have hbO : b < O.1 := by omega
            have hC2 : Cfg n ord p I2 := Cfg_kp (fun c hc => hf2 c (by omega) (by omega) (by omega) (by omega)) hC
            have e1' : HeSt n (hh sw) H.1 H.2.1 H.2.2 I2 := HeSt_kp (fun c hc => hf2 c (by omega) (by omega) (by omega) (by omega)) e1
            have e2' : HeSt n (oo sw) O.1 O.2.1 O.2.2 I2 := HeSt_kp (fun c hc => hf2 c (by omega) (by omega) (by omega) (by omega)) e2
            have da := (e1'.2.2 a haH).2.1
            have db := (e2'.2.2 b hbO).2.1
            show B_HT_offerRowProducts_15 _ (L_HT_offerRowProducts_15 _ post2 (t' + 1)) post2 0 _ _ _ _
            unfold B_HT_offerRowProducts_15 B_HT_offerRowProducts_65
            simp only [isK_wI, isA_wI, gR_wI, gI_wI, sI_wI, true_and, and_true, Option.some.injEq, exists_eq_left', k0, r11, ko]
            refine sp_Hesize hhe.2 e2' ?_
            rw [nI_leI (by omega) (by omega)]
            refine ⟨fun z => absurd z (by omega), fun _ => ?_⟩
            simp only [isK_wI, isA_wI, gR_wI, gI_wI, sI_wI, true_and, and_true, Option.some.injEq, exists_eq_left', k0, r10, kh]
            refine sp_HedegreeOf hhe.1 e1' haH ?_
            simp only [isK_wI, isA_wI, gR_wI, gI_wI, sI_wI, true_and, and_true, Option.some.injEq, exists_eq_left', k0, r11, ko]
            refine sp_HedegreeOf hhe.2 e2' hbO ?_
            rw [nI_add, nI_eq (by omega) (by omega), show nI b + 1 = nI (b + 1) from nI_add b 1]
            refine ⟨fun z => ?_, fun z => ?_⟩
            · refine ih' (b + 1) I2 (by omega) hf2 ?_
              have : (fun e g => Gb d (Gprd n ord H O) e g ∨ (e = d ∧ ∃ a' b', (a' < a ∨ (a' = a ∧ b' < b + 1)) ∧ a' < H.1 ∧ b' < O.1 ∧ H.2.1 a' + O.2.1 b' = d ∧ g = prodm n ord (H.2.1 a') (H.2.2 a') (O.2.2 b'))) = (fun e g => Gb d (Gprd n ord H O) e g ∨ (e = d ∧ ∃ a' b', (a' < a ∨ (a' = a ∧ b' < b)) ∧ a' < H.1 ∧ b' < O.1 ∧ H.2.1 a' + O.2.1 b' = d ∧ g = prodm n ord (H.2.1 a') (H.2.2 a') (O.2.2 b'))) := by
                funext e g
                apply propext
                constructor
                · rintro (y | ⟨z1, a', b', z0, z2, z3, z4, z5⟩)
                  · exact Or.inl y
                  · refine Or.inr ⟨z1, a', b', ?_, z2, z3, z4, z5⟩
                    by_cases v : a' = a ∧ b' = b
                    · rw [v.1, v.2] at z4; exact absurd z4 z
                    · omega
                · rintro (y | ⟨z1, a', b', z0, z2, z3, z4, z5⟩)
                  · exact Or.inl y
                  · exact Or.inr ⟨z1, a', b', by omega, z2, z3, z4, z5⟩
              rw [this]; exact hO2
            · simp only [isK_wI, isA_wI, gR_wI, gI_wI, sI_wI, true_and, and_true, Option.some.injEq, exists_eq_left', k0]
              refine sp_loadRowProduct (D := D) (C := C) hT hC2 e1' e2' haH hbO (fun g hg => ?_)
              simp only [isK_wI, isA_wI, gR_wI, gI_wI, sI_wI, true_and, and_true, Option.some.injEq, exists_eq_left', k0, r3, r8, kb]
              rw [z] at hg
              have hO3 : BaOp n ord 149 (fun e g => Gb d (Gprd n ord H O) e g ∨ (e = d ∧ ∃ a' b', (a' < a ∨ (a' = a ∧ b' < b)) ∧ a' < H.1 ∧ b' < O.1 ∧ H.2.1 a' + O.2.1 b' = d ∧ g = prodm n ord (H.2.1 a') (H.2.2 a') (O.2.2 b'))) d (sAll I2 78 g) := by
                obtain ⟨sz, dg, hd', gl, ld, R, ⟨m12, o, mD, m8⟩, ⟨Q, e, hRo⟩, rest⟩ := hO2
                have hNb := nM_b hC.1 hd
                exact ⟨sz, dg, hd', gl, ld, R, ⟨by rw [sAll_ne (by omega)]; exact m12, OpI_kp (fun c h1 h2 _ => sAll_ne (by omega)) o, fun e he => BaD_kp (by rw [sAll_ne (by omega)]) (by rw [sAll_ne (by omega)]) (by rw [sAll_ne (by omega)]) (fun j _ => by rw [sAll_ne (by omega)]) (by omega) (mD e he), by rw [sAll_ne (by omega)]; exact m8⟩, ⟨Q, e, RoSt_kp hNb.1 (fun c h1 h2 => sAll_ne (by omega)) hRo⟩, rest⟩
              have hhom : hom n d (prodm n ord (H.2.1 a) (H.2.2 a) (O.2.2 b)) := hGs d _ ⟨a, b, haH, hbO, z, rfl⟩
              refine sp_offer c2 hMOK (Cfg_kp (kp_sAll (by omega)) hC2) hd (hh2 a b (by omega) (by omega)) hO3 a78 (fun m hm => pl_lt (by omega)) (by omega) ⟨by omega, by omega⟩ (by rw [sAll_eq]; exact hg) hhom (fun I3 hO4 hf3 => ?_)
              refine ih' (b + 1) I3 (by omega) (fun c h0 h1 h2 h3 => by rw [hf3 c h0 h2 (by omega), sAll_ne h0, hf2 c h0 h1 h2 h3]) ?_
              have : (fun e g => Gb d (Gprd n ord H O) e g ∨ (e = d ∧ ∃ a' b', (a' < a ∨ (a' = a ∧ b' < b + 1)) ∧ a' < H.1 ∧ b' < O.1 ∧ H.2.1 a' + O.2.1 b' = d ∧ g = prodm n ord (H.2.1 a') (H.2.2 a') (O.2.2 b'))) = Gadd (fun e g => Gb d (Gprd n ord H O) e g ∨ (e = d ∧ ∃ a' b', (a' < a ∨ (a' = a ∧ b' < b)) ∧ a' < H.1 ∧ b' < O.1 ∧ H.2.1 a' + O.2.1 b' = d ∧ g = prodm n ord (H.2.1 a') (H.2.2 a') (O.2.2 b'))) d (prodm n ord (H.2.1 a) (H.2.2 a) (O.2.2 b)) := by
                funext e g
                apply propext
                constructor
                · rintro (y | ⟨z1, a', b', z0, z2, z3, z4, z5⟩)
                  · exact Or.inl (Or.inl y)
                  · by_cases v : a' = a ∧ b' = b
                    · rw [v.1, v.2] at z5; exact Or.inr ⟨z1, z5⟩
                    · exact Or.inl (Or.inr ⟨z1, a', b', by omega, z2, z3, z4, z5⟩)
                · rintro ((y | ⟨z1, a', b', z0, z2, z3, z4, z5⟩) | ⟨z1, z2⟩)
                  · exact Or.inl y
                  · exact Or.inr ⟨z1, a', b', by omega, z2, z3, z4, z5⟩
                  · exact Or.inr ⟨z1, a, b, by omega, haH, hbO, z, z2⟩
              rw [this]; exact hO4
        exact ⟨_, key2 O.1 0 I' (by omega) hf hO⟩
    refine ⟨_, key H.1 0 I1 (by omega) hf1 ?_⟩
    have : (fun e g => Gb d (Gprd n ord H O) e g ∨ (e = d ∧ ∃ a' b', (a' < 0 ∨ (a' = 0 ∧ b' < 0)) ∧ a' < H.1 ∧ b' < O.1 ∧ H.2.1 a' + O.2.1 b' = d ∧ g = prodm n ord (H.2.1 a') (H.2.2 a') (O.2.2 b'))) = Gb d (Gprd n ord H O) := by
      funext e g
      apply propext
      constructor
      · rintro (y | ⟨z1, a', b', z0, _⟩)
        · exact y
        · omega
      · exact Or.inl
    rw [this]; exact hO1
  have key : ∀ t r' I', max r' d1 = max t4 d1 → r' + t = max r' d1 → BaSt n ord 149 (Gprd n ord H O) r' I' → (∀ c, c ≠ 78 → c ≠ 140 → (c < 8 ∨ 77 < c) → (c < 149 ∨ 156 < c) → I' c = I c) → L_HT_productBaseUpTo_10 post (t + 1) 0 x (nI r') (wI M I') := by
    intro t
    induction t with
    | zero =>
      intro r' I' hr0 hr hSt' hf
      show B_HT_productBaseUpTo_10 _ post 0 _ _ _
      unfold B_HT_productBaseUpTo_10
      simp only [isK_wI, isA_wI, gR_wI, gI_wI, sI_wI, true_and, and_true, Option.some.injEq, exists_eq_left', k0, r8]
      refine ⟨fun _ => hp I' r' (CSt_bases hS ⟨t1, BaSt_kp (fun c y1 y2 => hf c (by omega) (by omega) (by omega) (by omega)) b1⟩ ⟨t2, BaSt_kp (fun c y1 y2 => hf c (by omega) (by omega) (by omega) (by omega)) b2⟩ ⟨t3, BaSt_kp (fun c y1 y2 => hf c (by omega) (by omega) (by omega) (by omega)) b3⟩ ⟨r', hSt'⟩ ⟨t5, BaSt_kp (fun c y1 y2 => hf c (by omega) (by omega) (by omega) (by omega)) b5⟩ (fun c hc => hf c (by omega) (by omega) (by omega) (by omega))) (by omega) hSt' (fun c hc => hf c (by omega) (by omega) (by omega) (by omega)), fun z => ?_⟩
      exfalso; apply z
      rw [hx]; exact (lt_pred hd1 (by omega)).mpr (by omega)
    | succ t ih =>
      intro r' I' hr0 hr hSt' hf
      have hlt : r' < d1 := by omega
      have hC' : Cfg n ord p I' := Cfg_kp (fun c hc => hf c (by omega) (by omega) (by omega) (by omega)) hC
      show B_HT_productBaseUpTo_10 (L_HT_productBaseUpTo_10 post (t + 1)) post 0 _ _ _
      unfold B_HT_productBaseUpTo_10
      simp only [isK_wI, isA_wI, gR_wI, gI_wI, sI_wI, true_and, and_true, Option.some.injEq, exists_eq_left', k0, r8, kb]
      refine ⟨fun z => ?_, fun _ => ?_⟩
      · rw [hx] at z
        have := (lt_pred hd1 (by omega)).mp z
        omega
      · refine sp_open c2 hMOK hC' (by omega) hGs hSt' (fun I1 hO1 hf1 => ?_)
        simp only [isK_wI, isA_wI, gR_wI, gI_wI, sI_wI, true_and, and_true, Option.some.injEq, exists_eq_left', k0]
        have hfA : ∀ c, c ≠ 78 → c ≠ 140 → (c < 8 ∨ 77 < c) → (c < 149 ∨ 156 < c) → I1 c = I c := fun c h0 h1 h2 h3 => by rw [hf1 c h1 h2 (by omega), hf c h0 h1 h2 h3]
        refine offers r' _ I1 (by omega) hfA hO1 (fun I2 hO2 hf2 => ?_)
        simp only [isK_wI, isA_wI, gR_wI, gI_wI, sI_wI, true_and, and_true, Option.some.injEq, exists_eq_left', k0, r8, kb]
        have hG2 : ∀ e g, (Gb r' (Gprd n ord H O) e g ∨ (e = r' ∧ Gprd n ord H O r' g)) → hom n e g := by
          rintro e g (⟨_, z⟩ | ⟨rfl, z⟩)
          · exact hGs e g z
          · exact hGs _ g z
        refine sp_close c2 hMOK (Cfg_kp (fun c hc => hf2 c (by omega) (by omega) (by omega) (by omega)) hC) (by omega) hG2 hO2 (fun I4 hS4 hf4 => ?_)
        rw [show nI r' + 1 = nI (r' + 1) from nI_add r' 1]
        refine ih (r' + 1) I4 (by omega) (by omega) (BaSt_cong (fun e he g => ⟨?_, fun z => ?_⟩) hS4) (fun c h0 h1 h2 h3 => by rw [hf4 c (by omega), hf2 c h0 h1 h2 h3])
        · rintro (⟨_, z⟩ | ⟨rfl, z⟩) <;> exact z
        · by_cases y : e = r'
          · subst y; exact Or.inr ⟨rfl, z⟩
          · exact Or.inl ⟨by omega, z⟩
  unfold T_HT_productBaseUpTo
  simp only [isK_wI, isA_wI, gR_wI, gI_wI, sI_wI, true_and, and_true, Option.some.injEq, exists_eq_left', k0, r8, kb]
  refine sp_reached c2 b4 ?_
  rw [sub1_add1]
  exact ⟨_, key (max t4 d1 - t4) t4 I rfl (by omega) b4 (fun c _ _ _ _ => rfl)⟩
end HT7
