/-! HeapTower: its bases -/
def inB (b c : Nat) : Prop := b ≤ c ∧ c ≤ b + 7
theorem CSt_bases {p : Nat} [NeZero p] {n ord : Nat} {D : Nat → Mo2 → Fin p} {H O : Hp p} {C : Nat → Nat → Mo2 → Fin p} {sw : Bool} {I I' : Nat → Nat → Int32} (hS : CSt n ord D H O C sw I) (h1 : ∃ r, BaSt n ord (hh sw + 1) (Gh H) r I') (h2 : ∃ r, BaSt n ord (oo sw + 1) (Gh O) r I') (h3 : ∃ r, BaSt n ord 141 (Gsum H O) r I') (h4 : ∃ r, BaSt n ord 149 (Gprd n ord H O) r I') (h5 : ∃ r, BaSt n ord 157 (Gquo H D) r I') (h : ∀ c, (c < 8 ∨ (126 ≤ c ∧ c ≤ 139) ∨ c = 165 ∨ c = 182 ∨ (174 ≤ c ∧ c ≤ 181) ∨ (191 ≤ c ∧ c ≤ 198)) → I' c = I c) : CSt n ord D H O C sw I' := by
  obtain ⟨⟨w, c⟩, d, cl, ⟨e1, e2⟩, _⟩ := hS
  have hsw := hh_ne sw
  exact ⟨⟨w, Cfg_kp (fun c hc => h c (by omega)) c⟩, by rw [h _ (by omega)]; exact d, fun r hr => by rw [h _ (by omega)]; exact cl r hr, ⟨HeSt_kp (fun c hc => h c (by omega)) e1, HeSt_kp (fun c hc => h c (by omega)) e2⟩, ⟨h1, h2⟩, h3, h4, h5⟩
section HT6
variable {M : Mem} {I : Nat → Nat → Int32} {n ord p : Nat} {sw : Bool}
theorem CSt.hom1 [NeZero p] {D : Nat → Mo2 → Fin p} {H O : Hp p} {C : Nat → Nat → Mo2 → Fin p} (hS : CSt n ord D H O C sw I) : (∀ e g, Gh H e g → hom n e g) ∧ (∀ e g, Gh O e g → hom n e g) ∧ (∀ e g, Gsum H O e g → hom n e g) ∧ (∀ e g, Gprd n ord H O e g → hom n e g) ∧ ∀ e g, e ≤ 10 → Gquo H D e g → hom n e g := by
  obtain ⟨⟨w, c⟩, _⟩ := hS
  have a : ∀ e g, Gh H e g → hom n e g := by rintro e g ⟨r, hr, rfl, rfl⟩; exact (w.2.1.2 r hr).2.1
  have b : ∀ e g, Gh O e g → hom n e g := by rintro e g ⟨r, hr, rfl, rfl⟩; exact (w.2.2.1.2 r hr).2.1
  refine ⟨a, b, fun e g h => h.elim (a e g) (b e g), ?_, fun e g he h => ?_⟩
  · rintro e g ⟨x, y, h1, h2, rfl, rfl⟩
    have hx := (w.2.1.2 x h1).2.1
    have hy := (w.2.2.1.2 y h2).2.1
    intro m hm
    by_cases q : hom n (H.2.1 x + O.2.1 y) (prodm n ord (H.2.1 x) (H.2.2 x) (O.2.2 y))
    · exact q m hm
    · exfalso; apply q
      unfold prodm
      refine sm_in (V := hom n (H.2.1 x + O.2.1 y)) (hom_sub _ _) _ (fun i => mulm (atm n ord (H.2.1 x) i) (O.2.2 y)) _ (fun k hk => ?_)
      have := hom_mulm hy (atm_ok hk)
      rw [Nat.add_comm] at this
      exact this
  · rcases h with h | ⟨_, rfl⟩
    · exact a e g h
    · exact w.1 e he
theorem up_heap [NeZero p] {d1 : Nat} {x : Int32} {D : Nat → Mo2 → Fin p} {H O : Hp p} {C : Nat → Nat → Mo2 → Fin p} {post : Nat → Mem → Prop} (hT : HTOK M sw) (hS : CSt n ord D H O C sw I) (hd1 : d1 ≤ 11) (hx : x = nI d1 - 1) (hp : ∀ I' r, CSt n ord D H O C sw I' → d1 ≤ r → BaSt n ord (hh sw + 1) (Gh H) r I' → (∀ c, c ≠ 140 → (c < 8 ∨ 77 < c) → (c < hh sw + 1 ∨ hh sw + 8 < c) → I' c = I c) → post (hh sw + 1) (wI M I')) : T_He_baseUpTo (hh sw) x (wI M I) post := by
  have hsw := hh_ne sw
  have hS' := hS
  obtain ⟨⟨w, hC⟩, hD, cl, ⟨e1, e2⟩, ⟨⟨t1, b1⟩, t2, b2⟩, ⟨t3, b3⟩, ⟨t4, b4⟩, t5, b5⟩ := hS'
  refine sp_baseUpTo hT.he.1 hT.2.2.2.2.2.2 hC hd1 hx e1 b1 (fun I' s1 f1 => hp I' _ (CSt_bases hS ⟨_, s1⟩ ⟨t2, BaSt_kp (fun c y1 y2 => f1 c (by omega) (by omega) (by omega)) b2⟩ ⟨t3, BaSt_kp (fun c y1 y2 => f1 c (by omega) (by omega) (by omega)) b3⟩ ⟨t4, BaSt_kp (fun c y1 y2 => f1 c (by omega) (by omega) (by omega)) b4⟩ ⟨t5, BaSt_kp (fun c y1 y2 => f1 c (by omega) (by omega) (by omega)) b5⟩ (fun c hc => f1 c (by omega) (by omega) (by omega))) (by omega) s1 f1)
theorem up_other [NeZero p] {d1 : Nat} {x : Int32} {D : Nat → Mo2 → Fin p} {H O : Hp p} {C : Nat → Nat → Mo2 → Fin p} {post : Nat → Mem → Prop} (hT : HTOK M sw) (hS : CSt n ord D H O C sw I) (hd1 : d1 ≤ 11) (hx : x = nI d1 - 1) (hp : ∀ I' r, CSt n ord D H O C sw I' → d1 ≤ r → BaSt n ord (oo sw + 1) (Gh O) r I' → (∀ c, c ≠ 140 → (c < 8 ∨ 77 < c) → (c < oo sw + 1 ∨ oo sw + 8 < c) → I' c = I c) → post (oo sw + 1) (wI M I')) : T_He_baseUpTo (oo sw) x (wI M I) post := by
  have hsw := hh_ne sw
  have hS' := hS
  obtain ⟨⟨w, hC⟩, hD, cl, ⟨e1, e2⟩, ⟨⟨t1, b1⟩, t2, b2⟩, ⟨t3, b3⟩, ⟨t4, b4⟩, t5, b5⟩ := hS'
  refine sp_baseUpTo hT.he.2 hT.2.2.2.2.2.2 hC hd1 hx e2 b2 (fun I' s1 f1 => hp I' _ (CSt_bases hS ⟨t1, BaSt_kp (fun c y1 y2 => f1 c (by omega) (by omega) (by omega)) b1⟩ ⟨_, s1⟩ ⟨t3, BaSt_kp (fun c y1 y2 => f1 c (by omega) (by omega) (by omega)) b3⟩ ⟨t4, BaSt_kp (fun c y1 y2 => f1 c (by omega) (by omega) (by omega)) b4⟩ ⟨t5, BaSt_kp (fun c y1 y2 => f1 c (by omega) (by omega) (by omega)) b5⟩ (fun c hc => f1 c (by omega) (by omega) (by omega))) (by omega) s1 f1)
theorem up_sum [NeZero p] {d1 : Nat} {x : Int32} {D : Nat → Mo2 → Fin p} {H O : Hp p} {C : Nat → Nat → Mo2 → Fin p} {post : Nat → Mem → Prop} (hT : HTOK M sw) (hS : CSt n ord D H O C sw I) (hd1 : d1 ≤ 11) (hx : x = nI d1 - 1) (hp : ∀ I' r, CSt n ord D H O C sw I' → d1 ≤ r → BaSt n ord 141 (Gsum H O) r I' → (∀ c, 199 ≤ c → I' c = I c) → post 141 (wI M I')) : T_HT_sumBaseUpTo 0 x (wI M I) post := by
  have hsw := hh_ne sw
  have hhe := hT.he
  have hMOK := hT.2.2.2.2.2.2
  have hT' := hT
  obtain ⟨⟨k0, r0, r1, r2, r3, r4, r5, r6, r7, r8, r9, r10, r11⟩, _, hPo, _, ⟨c1, c2, c3⟩, _⟩ := hT'
  have kb := c1.2.1.1
  have kh := hhe.1.1.2.1
  have ko := hhe.2.1.2.1
  have hGs := hS.hom1
  have hS' := hS
  obtain ⟨⟨w, hC⟩, hD, cl, ⟨e1, e2⟩, ⟨⟨t1, b1⟩, t2, b2⟩, ⟨t3, b3⟩, ⟨t4, b4⟩, t5, b5⟩ := hS'
  have hr11 := b3.le
  have key : ∀ t r' I', max r' d1 = max t3 d1 → r' + t = max r' d1 → BaSt n ord 141 (Gsum H O) r' I' → (∀ c, c ≠ 140 → (c < 8 ∨ 77 < c) → (c < 141 ∨ 148 < c) → I' c = I c) → L_HT_sumBaseUpTo_10 post (t + 1) 0 x (nI r') (wI M I') := by
    intro t
    induction t with
    | zero =>
      intro r' I' hr0 hr hSt' hf
      show B_HT_sumBaseUpTo_10 _ post 0 _ _ _
      unfold B_HT_sumBaseUpTo_10
      simp only [isK_wI, isA_wI, gR_wI, gI_wI, sI_wI, true_and, and_true, Option.some.injEq, exists_eq_left', k0, r7]
      refine ⟨fun _ => hp I' r' (CSt_bases hS ⟨t1, BaSt_kp (fun c y1 y2 => hf c (by omega) (by omega) (by omega)) b1⟩ ⟨t2, BaSt_kp (fun c y1 y2 => hf c (by omega) (by omega) (by omega)) b2⟩ ⟨r', hSt'⟩ ⟨t4, BaSt_kp (fun c y1 y2 => hf c (by omega) (by omega) (by omega)) b4⟩ ⟨t5, BaSt_kp (fun c y1 y2 => hf c (by omega) (by omega) (by omega)) b5⟩ (fun c hc => hf c (by omega) (by omega) (by omega))) (by omega) hSt' (fun c hc => hf c (by omega) (by omega) (by omega)), fun z => ?_⟩
      exfalso; apply z
      rw [hx]; exact (lt_pred hd1 (by omega)).mpr (by omega)
    | succ t ih =>
      intro r' I' hr0 hr hSt' hf
      have hlt : r' < d1 := by omega
      have hC' : Cfg n ord p I' := Cfg_kp (fun c hc => hf c (by omega) (by omega) (by omega)) hC
      show B_HT_sumBaseUpTo_10 (L_HT_sumBaseUpTo_10 post (t + 1)) post 0 _ _ _
      unfold B_HT_sumBaseUpTo_10
      simp only [isK_wI, isA_wI, gR_wI, gI_wI, sI_wI, true_and, and_true, Option.some.injEq, exists_eq_left', k0, r7, kb]
      refine ⟨fun z => ?_, fun _ => ?_⟩
      · rw [hx] at z
        have := (lt_pred hd1 (by omega)).mp z
        omega
      · refine sp_open c1 hMOK hC' (by omega) hGs.2.2.1 hSt' (fun I1 hO1 hf1 => ?_)
        simp only [isK_wI, isA_wI, gR_wI, gI_wI, sI_wI, true_and, and_true, Option.some.injEq, exists_eq_left', k0, r7, r10, kh]
        have hfA : ∀ c, c ≠ 140 → (c < 8 ∨ 77 < c) → (c < 141 ∨ 148 < c) → I1 c = I c := fun c h1 h2 h3 => by rw [hf1 c h1 h2 (by omega), hf c h1 h2 h3]
        refine sp_offerRows hhe.1 hMOK c1 (Cfg_kp (fun c hc => hfA c (by omega) (by omega) (by omega)) hC) (by omega) (Or.inl (by omega)) (HeSt_kp (fun c hc => hfA c (by omega) (by omega) (by omega)) e1) (Gb_hom hGs.2.2.1) hO1 (fun I2 hO2 hf2 => ?_)
        simp only [isK_wI, isA_wI, gR_wI, gI_wI, sI_wI, true_and, and_true, Option.some.injEq, exists_eq_left', k0, r7, r11, ko]
        have hfB : ∀ c, c ≠ 140 → (c < 8 ∨ 77 < c) → (c < 141 ∨ 148 < c) → I2 c = I c := fun c h1 h2 h3 => by rw [hf2 c h1 h2 (by omega), hfA c h1 h2 h3]
        have hG2 : ∀ e g, (Gb r' (Gsum H O) e g ∨ (e = r' ∧ Grw H.1 H.2.1 H.2.2 r' g)) → hom n e g := by
          rintro e g (⟨_, z⟩ | ⟨rfl, z⟩)
          · exact hGs.2.2.1 e g z
          · exact hGs.1 _ g z
        refine sp_offerRows hhe.2 hMOK c1 (Cfg_kp (fun c hc => hfB c (by omega) (by omega) (by omega)) hC) (by omega) (Or.inl (by omega)) (HeSt_kp (fun c hc => hfB c (by omega) (by omega) (by omega)) e2) hG2 hO2 (fun I3 hO3 hf3 => ?_)
        simp only [isK_wI, isA_wI, gR_wI, gI_wI, sI_wI, true_and, and_true, Option.some.injEq, exists_eq_left', k0, r7, kb]
        have hfC : ∀ c, c ≠ 140 → (c < 8 ∨ 77 < c) → (c < 141 ∨ 148 < c) → I3 c = I c := fun c h1 h2 h3 => by rw [hf3 c h1 h2 (by omega), hfB c h1 h2 h3]
        have hG3 : ∀ e g, ((Gb r' (Gsum H O) e g ∨ (e = r' ∧ Grw H.1 H.2.1 H.2.2 r' g)) ∨ (e = r' ∧ Grw O.1 O.2.1 O.2.2 r' g)) → hom n e g := by
          rintro e g (z | ⟨rfl, z⟩)
          · exact hG2 e g z
          · exact hGs.2.1 _ g z
        refine sp_close c1 hMOK (Cfg_kp (fun c hc => hfC c (by omega) (by omega) (by omega)) hC) (by omega) hG3 hO3 (fun I4 hS4 hf4 => ?_)
        rw [show nI r' + 1 = nI (r' + 1) from nI_add r' 1]
        refine ih (r' + 1) I4 (by omega) (by omega) (BaSt_cong (fun e he g => ⟨?_, fun z => ?_⟩) hS4) (fun c h1 h2 h3 => by rw [hf4 c (by omega), hfC c h1 h2 h3])
        · rintro ((⟨_, z⟩ | ⟨rfl, z⟩) | ⟨rfl, z⟩)
          · exact z
          · exact Or.inl z
          · exact Or.inr z
        · by_cases y : e = r'
          · subst y
            rcases z with z | z
            · exact Or.inl (Or.inr ⟨rfl, z⟩)
            · exact Or.inr ⟨rfl, z⟩
          · exact Or.inl (Or.inl ⟨by omega, z⟩)
  unfold T_HT_sumBaseUpTo
  simp only [isK_wI, isA_wI, gR_wI, gI_wI, sI_wI, true_and, and_true, Option.some.injEq, exists_eq_left', k0, r7, kb]
  refine sp_reached c1 b3 ?_
  rw [sub1_add1]
  exact ⟨_, key (max t3 d1 - t3) t3 I rfl (by omega) b3 (fun c _ _ _ => rfl)⟩
theorem up_quo [NeZero p] {d1 f : Nat} {x : Int32} {D : Nat → Mo2 → Fin p} {H O : Hp p} {C : Nat → Nat → Mo2 → Fin p} {post : Nat → Mem → Prop} (hT : HTOK M sw) (hS : CSt n ord D H O C sw I) (hd1 : d1 ≤ 11) (hx : x = nI d1 - 1) (hf : dg1 D = f + 1) (hp : ∀ I' r, CSt n ord D H O C sw I' → d1 ≤ r → BaSt n ord 157 (Gquo H D) r I' → (∀ c, c ≠ 78 → c ≠ 140 → (c < 8 ∨ 77 < c) → (c < 157 ∨ 164 < c) → I' c = I c) → post 157 (wI M I')) : T_HT_quotientBaseUpTo 0 x (nI f) (wI M I) post := by
  have hsw := hh_ne sw
  have hhe := hT.he
  have hMOK := hT.2.2.2.2.2.2
  have hT' := hT
  obtain ⟨⟨k0, r0, r1, r2, r3, r4, r5, r6, r7, r8, r9, r10, r11⟩, ⟨a78, _⟩, hPo, _, ⟨c1, c2, c3⟩, _⟩ := hT'
  have kb := c3.2.1.1
  have kh := hhe.1.1.2.1
  have kd := hPo.1.1
  have hGs := hS.hom1
  have hle := dg1_le D
  have hS' := hS
  obtain ⟨⟨w, hC⟩, hD, cl, ⟨e1, e2⟩, ⟨⟨t1, b1⟩, t2, b2⟩, ⟨t3, b3⟩, ⟨t4, b4⟩, t5, b5⟩ := hS'
  have hr11 := b5.le
  have hGq : ∀ e g, Gquo H D e g → hom n e g := by
    rintro e g (z | ⟨z1, z2⟩)
    · exact hGs.1 e g z
    · rw [z2]; exact w.1 e (by omega)
  have key : ∀ t r' I', max r' d1 = max t5 d1 → r' + t = max r' d1 → BaSt n ord 157 (Gquo H D) r' I' → (∀ c, c ≠ 78 → c ≠ 140 → (c < 8 ∨ 77 < c) → (c < 157 ∨ 164 < c) → I' c = I c) → L_HT_quotientBaseUpTo_10 post (t + 1) 0 x (nI f) (nI r') (wI M I') := by
    intro t
    induction t with
    | zero =>
      intro r' I' hr0 hr hSt' hf'
      show B_HT_quotientBaseUpTo_10 _ post 0 _ _ _ _
      unfold B_HT_quotientBaseUpTo_10
      simp only [isK_wI, isA_wI, gR_wI, gI_wI, sI_wI, true_and, and_true, Option.some.injEq, exists_eq_left', k0, r9]
      refine ⟨fun _ => hp I' r' (CSt_bases hS ⟨t1, BaSt_kp (fun c y1 y2 => hf' c (by omega) (by omega) (by omega) (by omega)) b1⟩ ⟨t2, BaSt_kp (fun c y1 y2 => hf' c (by omega) (by omega) (by omega) (by omega)) b2⟩ ⟨t3, BaSt_kp (fun c y1 y2 => hf' c (by omega) (by omega) (by omega) (by omega)) b3⟩ ⟨t4, BaSt_kp (fun c y1 y2 => hf' c (by omega) (by omega) (by omega) (by omega)) b4⟩ ⟨r', hSt'⟩ (fun c hc => hf' c (by omega) (by omega) (by omega) (by omega))) (by omega) hSt' hf', fun z => ?_⟩
      exfalso; apply z
      rw [hx]; exact (lt_pred hd1 (by omega)).mpr (by omega)
    | succ t ih =>
      intro r' I' hr0 hr hSt' hf'
      have hlt : r' < d1 := by omega
      have hC' : Cfg n ord p I' := Cfg_kp (fun c hc => hf' c (by omega) (by omega) (by omega) (by omega)) hC
      show B_HT_quotientBaseUpTo_10 (L_HT_quotientBaseUpTo_10 post (t + 1)) post 0 _ _ _ _
      unfold B_HT_quotientBaseUpTo_10 B_HT_quotientBaseUpTo_64
      simp only [isK_wI, isA_wI, gR_wI, gI_wI, sI_wI, true_and, and_true, Option.some.injEq, exists_eq_left', k0, r9, kb]
      refine ⟨fun z => ?_, fun _ => ?_⟩
      · rw [hx] at z
        have := (lt_pred hd1 (by omega)).mp z
        omega
      · refine sp_open c3 hMOK hC' (by omega) hGq hSt' (fun I1 hO1 hf1 => ?_)
        simp only [isK_wI, isA_wI, gR_wI, gI_wI, sI_wI, true_and, and_true, Option.some.injEq, exists_eq_left', k0, r9, r10, kh]
        have hfA : ∀ c, c ≠ 78 → c ≠ 140 → (c < 8 ∨ 77 < c) → (c < 157 ∨ 164 < c) → I1 c = I c := fun c h0 h1 h2 h3 => by rw [hf1 c h1 h2 (by omega), hf' c h0 h1 h2 h3]
        refine sp_offerRows hhe.1 hMOK c3 (Cfg_kp (fun c hc => hfA c (by omega) (by omega) (by omega) (by omega)) hC) (by omega) (Or.inl (by omega)) (HeSt_kp (fun c hc => hfA c (by omega) (by omega) (by omega) (by omega)) e1) (Gb_hom hGq) hO1 (fun I2 hO2 hf2 => ?_)
        have hfB : ∀ c, c ≠ 78 → c ≠ 140 → (c < 8 ∨ 77 < c) → (c < 157 ∨ 164 < c) → I2 c = I c := fun c h0 h1 h2 h3 => by rw [hf2 c h1 h2 (by omega), hfA c h0 h1 h2 h3]
        have hG2 : ∀ e g, (Gb r' (Gquo H D) e g ∨ (e = r' ∧ Grw H.1 H.2.1 H.2.2 r' g)) → hom n e g := by
          rintro e g (⟨_, z⟩ | ⟨rfl, z⟩)
          · exact hGq e g z
          · exact hGs.1 _ g z
        rw [nI_eq (by omega) (by omega)]
        simp only [isK_wI, isA_wI, gR_wI, gI_wI, sI_wI, true_and, and_true, Option.some.injEq, exists_eq_left', k0, r3, r5, r9, kb, kd]
        refine ⟨fun z => ?_, fun z => ?_⟩
        · refine sp_close c3 hMOK (Cfg_kp (fun c hc => hfB c (by omega) (by omega) (by omega) (by omega)) hC) (by omega) hG2 hO2 (fun I4 hS4 hf4 => ?_)
          rw [show nI r' + 1 = nI (r' + 1) from nI_add r' 1]
          refine ih (r' + 1) I4 (by omega) (by omega) (BaSt_cong (fun e he g => ⟨?_, fun y0 => ?_⟩) hS4) (fun c h0 h1 h2 h3 => by rw [hf4 c (by omega), hfB c h0 h1 h2 h3])
          · rintro (⟨_, z⟩ | ⟨rfl, z⟩)
            · exact z
            · exact Or.inl z
          · by_cases y : e = r'
            · subst y
              rcases y0 with y0 | ⟨z1, z2⟩
              · exact Or.inr ⟨rfl, y0⟩
              · omega
            · exact Or.inl ⟨by omega, y0⟩
        · have hfd := fr_66 r' (by omega)
          refine sp_loadPart hPo (show r' ≤ 10 by omega) a78 (by omega) (by omega) (fun g hg1 hg2 => ?_)
          simp only [isK_wI, isA_wI, gR_wI, gI_wI, sI_wI, true_and, and_true, Option.some.injEq, exists_eq_left', k0, r3, r9, kb]
          have hRg : RepV r' g (D r') := fun m hm => by
            have := pl_deg (show r' ≤ 10 by omega) hm
            rw [hg1 _ (by omega), hfB 126 (by omega) (by omega) (by omega) (by omega)]
            exact hD r' (by omega) m hm
          have hO3 : BaOp n ord 157 (fun e g => Gb r' (Gquo H D) e g ∨ (e = r' ∧ Grw H.1 H.2.1 H.2.2 r' g)) r' (sAll I2 78 g) := by
            obtain ⟨sz, dg, hd, gl, ld, R, ⟨m12, o, mD, m8⟩, ⟨Q, e, hRo⟩, rest⟩ := hO2
            have hNb := nM_b hC.1 (show r' ≤ 10 by omega)
            exact ⟨sz, dg, hd, gl, ld, R, ⟨by rw [sAll_ne (by omega)]; exact m12, OpI_kp (fun c h1 h2 _ => sAll_ne (by omega)) o, fun e he => BaD_kp (by rw [sAll_ne (by omega)]) (by rw [sAll_ne (by omega)]) (by rw [sAll_ne (by omega)]) (fun j _ => by rw [sAll_ne (by omega)]) (by omega) (mD e he), by rw [sAll_ne (by omega)]; exact m8⟩, ⟨Q, e, RoSt_kp hNb.1 (fun c h1 h2 => sAll_ne (by omega)) hRo⟩, rest⟩
          refine sp_offer c3 hMOK (Cfg_kp (I := I) (fun c hc => by rw [sAll_ne (by omega)]; exact hfB c (by omega) (by omega) (by omega) (by omega)) hC) (by omega) hG2 hO3 a78 (fun m hm => pl_lt (by omega)) (by omega) ⟨by omega, by omega⟩ (by rw [sAll_eq]; exact hRg) (w.1 r' (by omega)) (fun I3 hO4 hf3 => ?_)
          simp only [isK_wI, isA_wI, gR_wI, gI_wI, sI_wI, true_and, and_true, Option.some.injEq, exists_eq_left', k0, r9, kb]
          have hfC : ∀ c, c ≠ 78 → c ≠ 140 → (c < 8 ∨ 77 < c) → (c < 157 ∨ 164 < c) → I3 c = I c := fun c h0 h1 h2 h3 => by rw [hf3 c h0 h2 (by omega), sAll_ne h0, hfB c h0 h1 h2 h3]
          refine sp_close c3 hMOK (Cfg_kp (fun c hc => hfC c (by omega) (by omega) (by omega) (by omega)) hC) (by omega) (Gadd_hom hG2 (w.1 r' (by omega))) hO4 (fun I4 hS4 hf4 => ?_)
          rw [show nI r' + 1 = nI (r' + 1) from nI_add r' 1]
          refine ih (r' + 1) I4 (by omega) (by omega) (BaSt_cong (fun e he g => ⟨?_, fun y => ?_⟩) hS4) (fun c h0 h1 h2 h3 => by rw [hf4 c (by omega), hfC c h0 h1 h2 h3])
          · rintro ((⟨_, y⟩ | ⟨rfl, y⟩) | ⟨rfl, rfl⟩)
            · exact y
            · exact Or.inl y
            · exact Or.inr ⟨by omega, rfl⟩
          · by_cases v : e = r'
            · subst v
              rcases y with y | ⟨y1, y2⟩
              · exact Or.inl (Or.inr ⟨rfl, y⟩)
              · exact Or.inr ⟨rfl, y2⟩
            · exact Or.inl (Or.inl ⟨by omega, y⟩)
  unfold T_HT_quotientBaseUpTo
  simp only [isK_wI, isA_wI, gR_wI, gI_wI, sI_wI, true_and, and_true, Option.some.injEq, exists_eq_left', k0, r9, kb]
  refine sp_reached c3 b5 ?_
  rw [sub1_add1]
  exact ⟨_, key (max t5 d1 - t5) t5 I rfl (by omega) b5 (fun c _ _ _ _ => rfl)⟩
end HT6
