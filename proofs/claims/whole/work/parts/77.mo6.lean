/-! the reference: letters, order, row, drop, copy, claim, keep, swap, told -/
section MO6
variable {M : Mem} {I : Nat → Nat → Int32} {n ord p : Nat}
theorem mo_letters [NeZero p] {D : Nat → Mo2 → Fin p} {H O : Hp p} {C : Nat → Nat → Mo2 → Fin p} {x y : Int32} {post : Int32 → Mem → Prop} (hM : MdOK M) (hS : MSt n ord D H O C I) (h1 : ∀ n' p', 1 ≤ n' → n' ≤ 3 → x = nI n' → y = nI p' → prm p' = true → ∀ hz : NeZero p', ∀ I', MSt (p := p') n' ord (fun _ _ => 0) (hpE p') (hpE p') (fun _ _ _ => 0) I' → FM I I' → post 1 (wI M I')) (h0 : (¬ ∃ n' p', 1 ≤ n' ∧ n' ≤ 3 ∧ x = nI n' ∧ y = nI p' ∧ prm p' = true) → post (-1000000) (wI M I)) : T_Mo_letters 199 x y (wI M I) post := by
  have hk := hM.1
  unfold T_Mo_letters B_Mo_letters_26
  refine sp_in3 (a := 1) (b := 4) (by omega) (by omega) (by decide) (fun n' n1 n2 e => ⟨fun q => absurd q (by decide), fun _ => ?_⟩) (fun hne => ⟨fun _ => h0 (fun ⟨n', p', w1, w2, w3, _⟩ => hne ⟨n', w1, by omega, w3⟩), fun q => absurd rfl q⟩)
  refine sp_in3 (a := 2) (b := 98) (by omega) (by omega) (by decide) (fun p' p1 p2 e2 => ⟨fun q => absurd q (by decide), fun _ => ?_⟩) (fun hne => ⟨fun _ => h0 (fun ⟨n', p', _, _, _, w4, w5⟩ => hne ⟨p', (prm_lt w5).1, by have := (prm_lt w5).2; omega, w4⟩), fun q => absurd rfl q⟩)
  subst e e2
  refine sp_MoisPrime ⟨p1, by omega⟩ (fun hpr => ⟨fun _ => ⟨hk, hk, hk, hk, ?_⟩, fun q => absurd q (by decide)⟩) (fun hpr => ⟨fun q => absurd rfl q, fun _ => h0 (fun ⟨n'', p'', _, _, _, w4, w5⟩ => ?_)⟩)
  · have hz : NeZero p' := ⟨by omega⟩
    rw [sI_wI, sI_wI, sI_wI, sI_wI]
    have q1 : ∀ k, k ≤ 5 → u2 (u2 (u2 (u2 I 199 1 (nI n')) 199 2 (nI p')) 199 4 0) 199 5 0 199 k = if k = 1 then nI n' else if k = 2 then nI p' else if k = 4 then 0 else if k = 5 then 0 else I 199 k := by
      intro k hk5
      rcases (show k = 0 ∨ k = 1 ∨ k = 2 ∨ k = 3 ∨ k = 4 ∨ k = 5 by omega) with rfl | rfl | rfl | rfl | rfl | rfl <;> simp [u2, upd]
    have q2 : ∀ c, c ≠ 199 → u2 (u2 (u2 (u2 I 199 1 (nI n')) 199 2 (nI p')) 199 4 0) 199 5 0 c = I c := by
      intro c hc; simp [u2, hc]
    generalize u2 (u2 (u2 (u2 I 199 1 (nI n')) 199 2 (nI p')) 199 4 0) 199 5 0 = J at q1 q2
    have := pk_loop (σ := Nat → Int32) (fun N i f => L_Mo_letters_51 post N 199 (nI i) (wI M (sAll J 200 f))) (fun i f => ∀ j, j < 1331 * i → f j = 0) 21 0 (J 200) (by omega) (fun j hj => absurd hj (by omega)) ?_ ?_
    · simp only [sAll_self] at this
      exact this
    · intro N f hf
      show B_Mo_letters_51 (L_Mo_letters_51 post N) post 199 _ _
      refine ⟨fun _ => h1 n' p' n1 (by omega) rfl rfl hpr hz _ ⟨⟨?_, ?_, ?_, ?_, ?_⟩, ?_, fun r hr => absurd hr (Nat.not_lt_zero r), fun r hr => absurd hr (Nat.not_lt_zero r), fun r hr => absurd hr (Nat.not_lt_zero r)⟩ (fun c hc => by rw [sAll_ne (by omega), q2 c (by omega)]), fun q => absurd (by decide) q⟩
      · rw [sAll_ne (by omega), q1 1 (by omega)]; rfl
      · rw [sAll_ne (by omega), q1 2 (by omega)]; rfl
      · rw [sAll_ne (by omega), q1 3 (by omega)]; exact hS.1.2.2.1
      · rw [sAll_ne (by omega), q1 4 (by omega)]; rfl
      · rw [sAll_ne (by omega), q1 5 (by omega)]; rfl
      · rw [sAll_eq]; exact MRep_0 (fun m hm => hf _ (by omega))
    · intro N i f hi hf ih
      show B_Mo_letters_51 (L_Mo_letters_51 post N) post 199 _ _
      unfold B_Mo_letters_51
      refine ⟨fun q => ?_, fun _ => ⟨hk, sp_Moclear hM (by omega) (fun g hg1 hg2 => ?_)⟩⟩
      · rw [show (21 : Int32) = nI 21 from rfl, nI_leI (by omega) (by omega)] at q; omega
      · rw [sAll_sAll, nI_1]
        rw [sAll_eq] at hg2
        refine ih g (fun j hj => ?_)
        by_cases q : j < 1331 * i
        · rw [hg2 j (Or.inl q)]; exact hf j q
        · have := hg1 (j - 1331 * i) (by omega)
          rw [show 1331 * i + (j - 1331 * i) = j by omega] at this
          exact this
  · have := (prm_lt w5).2
    rw [nI_eq (by omega) (by omega)] at w4
    rw [w4, w5] at hpr; exact absurd hpr (by decide)
theorem mo_order [NeZero p] {D : Nat → Mo2 → Fin p} {H O : Hp p} {C : Nat → Nat → Mo2 → Fin p} {x : Int32} {post : Int32 → Mem → Prop} (hM : MdOK M) (hS : MSt n ord D H O C I) (h1 : ∀ o', o' ≤ 1 → x = nI o' → ∀ I', MSt n o' D H O C I' → FM I I' → post (nI ord) (wI M I')) (h0 : (¬ ∃ o', o' ≤ 1 ∧ x = nI o') → post (-1000000) (wI M I)) : T_Mo_order 199 x (wI M I) post := by
  have hk := hM.1
  unfold T_Mo_order
  refine sp_in3 (a := 0) (b := 2) (by omega) (by omega) (by decide) (fun o' _ o2 e => ⟨fun _ => ⟨hk, hk, ?_⟩, fun q => absurd q (by decide)⟩) (fun hne => ⟨fun q => absurd rfl q, fun _ => h0 (fun ⟨o', w1, w2⟩ => hne ⟨o', by omega, by omega, w2⟩)⟩)
  subst e
  obtain ⟨⟨s1, s2, s3, s4, s5⟩, sD, sH, sC, sO⟩ := hS
  rw [sI_wI, gI_wI, s3]
  have q2 : ∀ c, c ≠ 199 → u2 I 199 3 (nI o') c = I c := by
    intro c hc; simp [u2, hc]
  refine h1 o' (by omega) rfl _ ⟨⟨by rw [u2_ne (by omega)]; exact s1, by rw [u2_ne (by omega)]; exact s2, u2_eq _ _ _ _, by rw [u2_ne (by omega)]; exact s4, by rw [u2_ne (by omega)]; exact s5⟩, by rw [q2 200 (by omega)]; exact sD, by rw [q2 200 (by omega)]; exact sH, by rw [q2 200 (by omega)]; exact sC, by rw [q2 200 (by omega)]; exact sO⟩ (fun c hc => q2 c (by omega))
theorem mo_told [NeZero p] {D : Nat → Mo2 → Fin p} {H O : Hp p} {C : Nat → Nat → Mo2 → Fin p} {x : Int32} {post : Int32 → Mem → Prop} (hM : MdOK M) (hS : MSt n ord D H O C I) (hn : (x.toInt < 0 ∨ 4 < x.toInt) → post (-1000000) (wI M I)) (q0 : x.toInt = 0 → post (nI n) (wI M I)) (q1 : x.toInt = 1 → post (nI p) (wI M I)) (q2 : x.toInt = 2 → post (nI ord) (wI M I)) (q3 : x.toInt = 3 → post (nI H.1) (wI M I)) (q4 : x.toInt = 4 → post (nI O.1) (wI M I)) : T_Mo_told 199 x (wI M I) post := by
  have hk := hM.1
  obtain ⟨⟨s1, s2, s3, s4, s5⟩, _⟩ := hS
  unfold T_Mo_told B_Mo_told_61
  rw [gI_wI, gI_wI, gI_wI, gI_wI, gI_wI, s1, s2, s3, s4, s5]
  have hne : ∀ d : Int32, ¬ x = d → x.toInt ≠ d.toInt := fun d w e => w (i32_ext e)
  refine ⟨fun z0 => ⟨fun z1 => ⟨fun z2 => ⟨fun z3 => ⟨fun z4 => hn ?_, fun z => ⟨hk, q4 (by rw [z]; rfl)⟩⟩, fun z => ⟨hk, q3 (by rw [z]; rfl)⟩⟩, fun z => ⟨hk, q2 (by rw [z]; rfl)⟩⟩, fun z => ⟨hk, q1 (by rw [z]; rfl)⟩⟩, fun z => ⟨hk, q0 (by rw [z]; rfl)⟩⟩
  have w0 := hne _ z0
  have w1 := hne _ z1
  have w2 := hne _ z2
  have w3 := hne _ z3
  have w4 := hne _ z4
  have e0 : (0 : Int32).toInt = 0 := rfl
  have e1 : (1 : Int32).toInt = 1 := rfl
  have e2 : (2 : Int32).toInt = 2 := rfl
  have e3 : (3 : Int32).toInt = 3 := rfl
  have e4 : (4 : Int32).toInt = 4 := rfl
  omega
theorem mo_row [NeZero p] {D : Nat → Mo2 → Fin p} {H O : Hp p} {C : Nat → Nat → Mo2 → Fin p} {post : Int32 → Mem → Prop} (hM : MdOK M) (hW : WfA n ord D H O C) (hS : MSt n ord D H O C I) (h1 : ∀ d, dg1 D = d + 1 → 1 ≤ d → d ≤ 5 → evP D → H.1 < 6 → ∀ I', MSt n ord (fun _ _ => 0) (hpA H d (D d)) O C I' → FM I I' → post (nI H.1) (wI M I')) (h0 : (¬ ∃ d, dg1 D = d + 1 ∧ 1 ≤ d ∧ d ≤ 5 ∧ evP D ∧ H.1 < 6) → post (-1000000) (wI M I)) : T_Mo_row 199 (wI M I) post := by
  have hp := prm_lt hW.1.2.2
  have hk := hM.1
  have hD := hW.2.1
  have hH := hW.2.2.1.1
  have hO := hW.2.2.2.1.1
  have hle := dg1_le D
  have hC6 := hW.2.2.2.2
  have hS' := hS
  obtain ⟨⟨s1, s2, s3, s4, s5⟩, sD, sH, sC, sO⟩ := hS'
  unfold T_Mo_row B_Mo_row_32
  refine ⟨hk, sp_Modegree (k := 0) hM (by omega) hp.2 hD sD ⟨hk, sp_MoisEven (k := 0) hM (by omega) hp.2 hD sD (fun hev => ⟨fun q => absurd q (by decide), fun _ => ?_⟩) (fun hev => ⟨fun _ => h0 (fun ⟨d, _, _, _, w, _⟩ => hev w), fun q => absurd rfl q⟩)⟩⟩
  have hpos : ∀ d, dg1 D = d + 1 → nI (dg1 D) - 1 = nI d := fun d e => by rw [e, nI_pred]
  refine sp_in3 (a := 1) (b := 6) (by omega) (by omega) (by decide) (fun d d1 d2 e => ⟨fun q => absurd q (by decide), fun _ => ⟨hk, ?_⟩⟩) (fun hne => ⟨fun _ => h0 (fun ⟨d, w1, w2, w3, _⟩ => hne ⟨d, w2, by omega, hpos d w1⟩), fun q => absurd rfl q⟩)
  have hd : dg1 D = d + 1 := by
    by_cases z : dg1 D = 0
    · rw [z] at e
      have : (nI 0 - 1 : Int32).toInt = (nI d).toInt := by rw [e]
      rw [nI_toInt (by omega), show (nI 0 - 1 : Int32).toInt = -1 by decide] at this; omega
    · obtain ⟨t, ht⟩ : ∃ t, dg1 D = t + 1 := ⟨dg1 D - 1, by omega⟩
      rw [ht, nI_pred, nI_eq (by omega) (by omega)] at e; omega
  rw [gI_wI, s4]
  refine ⟨fun q => ⟨hk, hk, ?_⟩, fun q => h0 (fun ⟨d', _, _, _, _, w5⟩ => ?_)⟩
  · have h6 : H.1 < 6 := by
      rcases Nat.lt_or_ge H.1 6 with w | w
      · exact w
      · exact absurd (by rw [show H.1 = 6 by omega]; rfl) q
    clear h0
    rw [show (1 : Int32) + nI H.1 = nI (1 + H.1) from nI_add 1 H.1]
    refine sp_Momove (a := 0) hM (by omega) (by omega) (by omega) (fun f hf1 hf2 => ⟨hk, hk, ?_⟩)
    rw [gI_wI, sAll_ne (by omega), s4, show (7 : Int32) + nI H.1 = nI (7 + H.1) from nI_add 7 H.1]
    refine sp_Moclear hM (by omega) (fun g hg1 hg2 => ⟨hk, ?_⟩)
    rw [sAll_sAll]
    rw [sAll_eq] at hg2
    refine sp_Moclear (k := 0) hM (by omega) (fun u hu1 hu2 => ⟨hk, hk, hk, ?_⟩)
    rw [sAll_sAll]
    rw [sAll_eq] at hu2
    rw [sI_wI, gI_wI, gI_wI, u2_eq, sAll_ne (show (199 : Nat) ≠ 200 by omega), s4, nI_1, nI_pred]
    have q2 : ∀ c, c ≠ 199 → u2 (sAll I 200 u) 199 4 (nI (H.1 + 1)) c = sAll I 200 u c := by
      intro c hc; simp [u2, hc]
    have hev2 := (evP_iff hD).mp hev
    refine h1 d hd d1 (by omega) hev h6 _ ⟨⟨?_, ?_, ?_, ?_, ?_⟩, ?_, fun r hr => ?_, fun r hr => ?_, fun r hr => ?_⟩ (fun c hc => by rw [q2 c (by omega), sAll_ne (by omega)])
    · rw [u2_ne (by omega), sAll_ne (by omega)]; exact s1
    · rw [u2_ne (by omega), sAll_ne (by omega)]; exact s2
    · rw [u2_ne (by omega), sAll_ne (by omega)]; exact s3
    · rw [u2_eq]; rfl
    · rw [u2_ne (by omega), sAll_ne (by omega)]; exact s5
    · rw [q2 200 (by omega), sAll_eq]; exact MRep_0 hu1
    · rw [q2 200 (by omega), sAll_eq]
      have hr' : r < H.1 + 1 := hr
      show MRep u (1 + r) (oneP (if r = H.1 then d else H.2.1 r) (if r = H.1 then D d else H.2.2 r))
      by_cases z : r = H.1
      · rw [if_pos z, if_pos z]
        subst z
        refine MRep_kp (g := f) (fun m hm => by rw [hu2 _ (by omega), hg2 _ (by omega)]) (fun m hm => ?_)
        rw [hf1 m hm]
        refine MRep_cong sD (fun e he m hm => ?_) m hm
        unfold oneP
        by_cases y : e = d
        · rw [if_pos y, y]
        · rw [if_neg y]; exact hev2 e he (by omega) m
      · rw [if_neg z, if_neg z]
        exact MRep_kp (g := I 200) (fun m hm => by rw [hu2 _ (by omega), hg2 _ (by omega), hf2 _ (by omega)]) (sH r (by omega))
    · rw [q2 200 (by omega), sAll_eq]
      have hr' : r < H.1 + 1 := hr
      by_cases z : r = H.1
      · subst z
        refine MRep_cong (MRep_kp (g := g) (fun m hm => hu2 _ (by omega)) (MRep_0 hg1)) (fun e he m hm => ?_)
        exact ((hC6 H.1 h6).2.1 (Nat.le_refl _) e he m).symm
      · exact MRep_kp (g := I 200) (fun m hm => by rw [hu2 _ (by omega), hg2 _ (by omega), hf2 _ (by omega)]) (sC r (by omega))
    · rw [q2 200 (by omega), sAll_eq]
      exact MRep_kp (g := I 200) (fun m hm => by rw [hu2 _ (by omega), hg2 _ (by omega), hf2 _ (by omega)]) (sO r hr)
  · rw [show (6 : Int32) = nI 6 from rfl, nI_eq (by omega) (by omega)] at q; omega
theorem mo_drop [NeZero p] {D : Nat → Mo2 → Fin p} {H O : Hp p} {C : Nat → Nat → Mo2 → Fin p} {post : Int32 → Mem → Prop} (hM : MdOK M) (hW : WfA n ord D H O C) (hS : MSt n ord D H O C I) (h1 : ∀ k, H.1 = k + 1 → ∀ I', MSt n ord D (hpD H) O (clS C k (fun _ _ => 0)) I' → FM I I' → post (nI k) (wI M I')) (h0 : H.1 = 0 → post (-1000000) (wI M I)) : T_Mo_drop 199 (wI M I) post := by
  have hk := hM.1
  have hH := hW.2.2.1.1
  obtain ⟨⟨s1, s2, s3, s4, s5⟩, sD, sH, sC, sO⟩ := hS
  unfold T_Mo_drop
  rw [gI_wI, s4]
  refine ⟨hk, fun q => ⟨hk, hk, hk, ?_⟩, fun q => h0 ?_⟩
  · obtain ⟨k, hk1⟩ : ∃ k, H.1 = k + 1 := ⟨H.1 - 1, by
      have : H.1 ≠ 0 := fun e => q (by rw [e]; rfl)
      omega⟩
    rw [sI_wI, gI_wI, u2_eq, hk1, nI_pred]
    have q2 : ∀ c, c ≠ 199 → u2 I 199 4 (nI k) c = I c := by
      intro c hc; simp [u2, hc]
    refine h1 k hk1 _ ⟨⟨?_, ?_, ?_, ?_, ?_⟩, ?_, fun r hr => ?_, fun r hr => ?_, fun r hr => ?_⟩ (fun c hc => q2 c (by omega))
    · rw [u2_ne (by omega)]; exact s1
    · rw [u2_ne (by omega)]; exact s2
    · rw [u2_ne (by omega)]; exact s3
    · rw [u2_eq]
      show nI k = nI (H.1 - 1)
      rw [hk1]; rfl
    · rw [u2_ne (by omega)]; exact s5
    · rw [q2 200 (by omega)]; exact sD
    · rw [q2 200 (by omega)]
      have hr' : r < H.1 - 1 := hr
      exact sH r (by omega)
    · rw [q2 200 (by omega)]
      have hr' : r < H.1 - 1 := hr
      unfold clS
      rw [if_neg (by omega)]
      exact sC r (by omega)
    · rw [q2 200 (by omega)]; exact sO r hr
  · rw [show (0 : Int32) = nI 0 from rfl, nI_eq (by omega) (by omega)] at q; exact q
theorem mo_copy [NeZero p] {D : Nat → Mo2 → Fin p} {H O : Hp p} {C : Nat → Nat → Mo2 → Fin p} {x : Int32} {post : Int32 → Mem → Prop} (hM : MdOK M) (hW : WfA n ord D H O C) (hS : MSt n ord D H O C I) (h1 : ∀ r, r < H.1 → x = nI r → ∀ I', MSt n ord (oneP (H.2.1 r) (H.2.2 r)) H O C I' → FM I I' → post (nI (szP (oneP (H.2.1 r) (H.2.2 r)))) (wI M I')) (h0 : (∀ r, r < H.1 → x ≠ nI r) → post (-1000000) (wI M I)) : T_Mo_copy 199 x (wI M I) post := by
  have hp := prm_lt hW.1.2.2
  have hk := hM.1
  have hH := hW.2.2.1.1
  have hO := hW.2.2.2.1.1
  have s4 := hS.1.2.2.2.1
  unfold T_Mo_copy
  rw [gI_wI, s4]
  refine ⟨hk, sp_in3 (a := 0) (b := H.1) (by omega) (by omega) rfl (fun r _ r2 e => ⟨fun _ => ⟨hk, ?_⟩, fun q => absurd q (by decide)⟩) (fun hne => ⟨fun q => absurd rfl q, fun _ => h0 (fun r hr e => hne ⟨r, by omega, hr, e⟩)⟩)⟩
  have e' := e
  subst e
  rw [show (1 : Int32) + nI r = nI (1 + r) from nI_add 1 r]
  refine sp_Momove (b := 0) hM (by omega) (by omega) (by omega) (fun f hf1 hf2 => ⟨hk, ?_⟩)
  have hR : MRep f 0 (oneP (H.2.1 r) (H.2.2 r)) := fun m hm => by rw [hf1 m hm]; exact hS.2.2.1 r r2 m hm
  refine sp_Moproducts (k := 0) hM (by omega) hp.2 (by rw [sAll_eq]; exact hR) ?_
  exact h1 r r2 rfl _ (MSt_draft hH hO (fun k _ => by rw [sAll_ne (by omega)]) (by rw [sAll_eq]; exact hR) (fun j j1 j2 => by rw [sAll_eq, hf2 j (by omega)]) hS) (fun c hc => sAll_ne (by omega))
theorem mo_claim [NeZero p] {D : Nat → Mo2 → Fin p} {H O : Hp p} {C : Nat → Nat → Mo2 → Fin p} {x : Int32} {post : Int32 → Mem → Prop} (hM : MdOK M) (hW : WfA n ord D H O C) (hS : MSt n ord D H O C I) (h1 : ∀ r, r < H.1 → x = nI r → dg1 D + H.2.1 r ≤ 11 → ∀ I', MSt n ord (fun _ _ => 0) H O (clS C r D) I' → FM I I' → post 1 (wI M I')) (h0 : (¬ ∃ r, r < H.1 ∧ x = nI r ∧ dg1 D + H.2.1 r ≤ 11) → post (-1000000) (wI M I)) : T_Mo_claim 199 x (wI M I) post := by
  have hp := prm_lt hW.1.2.2
  have hk := hM.1
  have hD := hW.2.1
  have hH := hW.2.2.1.1
  have hO := hW.2.2.2.1.1
  have hle := dg1_le D
  obtain ⟨⟨s1, s2, s3, s4, s5⟩, sD, sH, sC, sO⟩ := hS
  unfold T_Mo_claim B_Mo_claim_40
  rw [gI_wI, s4]
  refine ⟨hk, sp_in3 (a := 0) (b := H.1) (by omega) (by omega) rfl (fun r _ r2 e => ⟨fun q => absurd q (by decide), fun _ => ⟨hk, ?_⟩⟩) (fun hne => ⟨fun _ => h0 (fun ⟨r, hr, e, _⟩ => hne ⟨r, by omega, hr, e⟩), fun q => absurd rfl q⟩)⟩
  subst e
  obtain ⟨g1, g2, g3⟩ := hW.2.2.1.2 r r2
  have hdr := dg1_one (show H.2.1 r ≤ 10 by omega) g2 g3
  have go : dg1 D + H.2.1 r ≤ 11 → B_Mo_claim_43 post 199 (nI r) (wI M I) := by
    intro hdg
    unfold B_Mo_claim_43
    rw [show (7 : Int32) + nI r = nI (7 + r) from nI_add 7 r]
    refine ⟨hk, sp_Momove (a := 0) hM (by omega) (by omega) (by omega) (fun f hf1 hf2 => ⟨hk, sp_Moclear (k := 0) hM (by omega) (fun g hg1 hg2 => ?_)⟩)⟩
    rw [sAll_sAll]
    rw [sAll_eq] at hg2
    refine h1 r r2 rfl hdg _ ⟨⟨?_, ?_, ?_, ?_, ?_⟩, ?_, fun s hs => ?_, fun s hs => ?_, fun s hs => ?_⟩ (fun c hc => sAll_ne (by omega))
    · rw [sAll_ne (by omega)]; exact s1
    · rw [sAll_ne (by omega)]; exact s2
    · rw [sAll_ne (by omega)]; exact s3
    · rw [sAll_ne (by omega)]; exact s4
    · rw [sAll_ne (by omega)]; exact s5
    · rw [sAll_eq]; exact MRep_0 hg1
    · rw [sAll_eq]; exact MRep_kp (g := I 200) (fun m hm => by rw [hg2 _ (by omega), hf2 _ (by omega)]) (sH s hs)
    · rw [sAll_eq]
      unfold clS
      by_cases z : s = r
      · rw [if_pos z]
        subst z
        exact MRep_kp (g := f) (fun m hm => hg2 _ (by omega)) (fun m hm => by rw [hf1 m hm]; exact sD m hm)
      · rw [if_neg z]
        exact MRep_kp (g := I 200) (fun m hm => by rw [hg2 _ (by omega), hf2 _ (by omega)]) (sC s hs)
    · rw [sAll_eq]; exact MRep_kp (g := I 200) (fun m hm => by rw [hg2 _ (by omega), hf2 _ (by omega)]) (sO s hs)
  have hsz := szP_le D
  refine sp_Moproducts (k := 0) hM (by omega) hp.2 sD ⟨fun q => go ?_, fun q => ⟨hk, sp_Modegree (k := 0) hM (by omega) hp.2 hD sD ⟨hk, ?_⟩⟩⟩
  · rw [show (0 : Int32) = nI 0 from rfl, nI_leI (by omega) (by omega)] at q
    by_cases z : dg1 D = 0
    · omega
    · obtain ⟨t, ht⟩ : ∃ t, dg1 D = t + 1 := ⟨dg1 D - 1, by omega⟩
      have := szP_pos ht
      omega
  · rw [show (1 : Int32) + nI r = nI (1 + r) from nI_add 1 r]
    refine sp_Modegree (F := oneP (H.2.1 r) (H.2.2 r)) hM (by omega) hp.2 (oneP_hom g2) (sH r r2) ?_
    rw [hdr, nI_pred, le10_pred hle (by omega)]
    exact ⟨go, fun z => h0 (fun ⟨r', w1, w2, w3⟩ => by rw [nI_eq (by omega) (by omega)] at w2; subst w2; exact z w3)⟩
theorem mo_keep [NeZero p] {D : Nat → Mo2 → Fin p} {H O : Hp p} {C : Nat → Nat → Mo2 → Fin p} {post : Int32 → Mem → Prop} (hM : MdOK M) (hW : WfA n ord D H O C) (hS : MSt n ord D H O C I) (h : ∀ I', MSt n ord D H H C I' → FM I I' → post (nI O.1) (wI M I')) : T_Mo_keep 199 (wI M I) post := by
  have hk := hM.1
  have hH := hW.2.2.1.1
  obtain ⟨⟨s1, s2, s3, s4, s5⟩, sD, sH, sC, sO⟩ := hS
  unfold T_Mo_keep
  rw [gI_wI, s5]
  refine ⟨hk, ?_⟩
  have := pk_loop (σ := Nat → Int32) (fun N i f => L_Mo_keep_7 post N 199 (nI O.1) (nI i) (wI M (sAll I 200 f))) (fun i f => (∀ r, r < i → MRep f (13 + r) (oneP (H.2.1 r) (H.2.2 r))) ∧ ∀ j, j < 1331 * 13 → f j = I 200 j) H.1 0 (I 200) (by omega) ⟨fun r hr => absurd hr (Nat.not_lt_zero r), fun _ _ => rfl⟩ ?_ ?_
  · simp only [sAll_self] at this
    exact this
  · intro N f hf
    show B_Mo_keep_7 (L_Mo_keep_7 post N) post 199 _ _ _
    unfold B_Mo_keep_7
    rw [gI_wI, sAll_ne (by omega), s4, nI_leI (by omega) (by omega)]
    refine ⟨hk, fun _ => ⟨hk, hk, ?_⟩, fun q => absurd (Nat.le_refl _) q⟩
    rw [sI_wI]
    have q2 : ∀ c, c ≠ 199 → u2 (sAll I 200 f) 199 5 (nI H.1) c = sAll I 200 f c := by
      intro c hc; simp [u2, hc]
    refine h _ ⟨⟨?_, ?_, ?_, ?_, ?_⟩, ?_, fun r hr => ?_, fun r hr => ?_, fun r hr => ?_⟩ (fun c hc => by rw [q2 c (by omega), sAll_ne (by omega)])
    · rw [u2_ne (by omega), sAll_ne (by omega)]; exact s1
    · rw [u2_ne (by omega), sAll_ne (by omega)]; exact s2
    · rw [u2_ne (by omega), sAll_ne (by omega)]; exact s3
    · rw [u2_ne (by omega), sAll_ne (by omega)]; exact s4
    · rw [u2_eq]
    · rw [q2 200 (by omega), sAll_eq]; exact MRep_kp (g := I 200) (fun m hm => hf.2 _ (by omega)) sD
    · rw [q2 200 (by omega), sAll_eq]; exact MRep_kp (g := I 200) (fun m hm => hf.2 _ (by omega)) (sH r hr)
    · rw [q2 200 (by omega), sAll_eq]; exact MRep_kp (g := I 200) (fun m hm => hf.2 _ (by omega)) (sC r hr)
    · rw [q2 200 (by omega), sAll_eq]; exact hf.1 r hr
  · intro N i f hi hf ih
    show B_Mo_keep_7 (L_Mo_keep_7 post N) post 199 _ _ _
    unfold B_Mo_keep_7
    rw [gI_wI, sAll_ne (show (199 : Nat) ≠ 200 by omega), s4, nI_leI (by omega) (by omega), show (1 : Int32) + nI i = nI (1 + i) from nI_add 1 i, show (13 : Int32) + nI i = nI (13 + i) from nI_add 13 i]
    refine ⟨hk, fun q => absurd q (by omega), fun _ => ⟨hk, sp_Momove hM (by omega) (by omega) (by omega) (fun g hg1 hg2 => ?_)⟩⟩
    rw [sAll_sAll, nI_1]
    rw [sAll_eq] at hg1 hg2
    refine ih g ⟨fun r hr => ?_, fun j hj => by rw [hg2 j (by omega), hf.2 j hj]⟩
    by_cases z : r = i
    · subst z
      intro m hm
      rw [hg1 m hm, hf.2 _ (by omega)]
      exact sH r hi m hm
    · exact MRep_kp (g := f) (fun m hm => hg2 _ (by omega)) (hf.1 r (by omega))
theorem mo_swap [NeZero p] {D : Nat → Mo2 → Fin p} {H O : Hp p} {C : Nat → Nat → Mo2 → Fin p} {post : Int32 → Mem → Prop} (hM : MdOK M) (hW : WfA n ord D H O C) (hS : MSt n ord D H O C I) (h : ∀ I', MSt n ord D O H (fun _ _ _ => 0) I' → FM I I' → post (nI O.1) (wI M I')) : T_Mo_swap 199 (wI M I) post := by
  have hk := hM.1
  have hH := hW.2.2.1.1
  have hO := hW.2.2.2.1.1
  obtain ⟨⟨s1, s2, s3, s4, s5⟩, sD, sH, sC, sO⟩ := hS
  unfold T_Mo_swap
  have := pk_loop (σ := Nat → Int32) (fun N i f => L_Mo_swap_2 post N 199 (nI i) (wI M (sAll I 200 f))) (fun i f => (∀ r, r < 6 → ∀ m, m < 1331 → f (1331 * (1 + r) + m) = (if r < i then I 200 (1331 * (13 + r) + m) else I 200 (1331 * (1 + r) + m)) ∧ f (1331 * (13 + r) + m) = (if r < i then I 200 (1331 * (1 + r) + m) else I 200 (1331 * (13 + r) + m)) ∧ (r < i → f (1331 * (7 + r) + m) = 0)) ∧ ∀ j, j < 1331 → f j = I 200 j) 6 0 (I 200) (by omega) ⟨fun r hr m hm => ⟨by rw [if_neg (by omega)], by rw [if_neg (by omega)], fun z => absurd z (Nat.not_lt_zero r)⟩, fun _ _ => rfl⟩ ?_ ?_
  · simp only [sAll_self] at this
    exact this
  · intro N f hf
    show B_Mo_swap_2 (L_Mo_swap_2 post N) post 199 _ _
    unfold B_Mo_swap_2
    refine ⟨fun _ => ⟨hk, hk, hk, hk, hk, ?_⟩, fun q => absurd (by decide) q⟩
    rw [sI_wI, sI_wI, gI_wI, gI_wI, gI_wI, sAll_ne (show (199 : Nat) ≠ 200 by omega), s4, s5]
    have q2 : ∀ c, c ≠ 199 → u2 (u2 (sAll I 200 f) 199 4 (nI O.1)) 199 5 (nI H.1) c = sAll I 200 f c := by
      intro c hc; simp [u2, hc]
    have q4 : u2 (u2 (sAll I 200 f) 199 4 (nI O.1)) 199 5 (nI H.1) 199 4 = nI O.1 := by rw [u2_ne (by omega), u2_eq]
    rw [q4]
    refine h _ ⟨⟨?_, ?_, ?_, q4, u2_eq _ _ _ _⟩, ?_, fun r hr => ?_, fun r hr => ?_, fun r hr => ?_⟩ (fun c hc => by rw [q2 c (by omega), sAll_ne (by omega)])
    · rw [u2_ne (by omega), u2_ne (by omega), sAll_ne (by omega)]; exact s1
    · rw [u2_ne (by omega), u2_ne (by omega), sAll_ne (by omega)]; exact s2
    · rw [u2_ne (by omega), u2_ne (by omega), sAll_ne (by omega)]; exact s3
    · rw [q2 200 (by omega), sAll_eq]; exact MRep_kp (g := I 200) (fun m hm => hf.2 _ (by omega)) sD
    · rw [q2 200 (by omega), sAll_eq]
      intro m hm
      rw [(hf.1 r (by omega) m hm).1, if_pos (by omega)]; exact sO r hr m hm
    · rw [q2 200 (by omega), sAll_eq]
      exact MRep_0 (fun m hm => (hf.1 r (by omega) m hm).2.2 (by omega))
    · rw [q2 200 (by omega), sAll_eq]
      intro m hm
      rw [(hf.1 r (by omega) m hm).2.1, if_pos (by omega)]; exact sH r hr m hm
  · intro N i f hi hf ih
    show B_Mo_swap_2 (L_Mo_swap_2 post N) post 199 _ _
    unfold B_Mo_swap_2
    rw [show (1 : Int32) + nI i = nI (1 + i) from nI_add 1 i, show (13 : Int32) + nI i = nI (13 + i) from nI_add 13 i, show (7 : Int32) + nI i = nI (7 + i) from nI_add 7 i, nI_1]
    refine ⟨fun q => ?_, fun _ => ⟨hk, sp_Momove (b := 19) hM (by omega) (by omega) (by omega) (fun g1 a1 a2 => ⟨hk, sp_Momove hM (by omega) (by omega) (by omega) (fun g2 b1 b2 => ⟨hk, sp_Momove (a := 19) hM (by omega) (by omega) (by omega) (fun g3 c1 c2 => ⟨hk, sp_Moclear hM (by omega) (fun g4 d1 d2 => ?_)⟩)⟩)⟩)⟩⟩
    · rw [show (6 : Int32) = nI 6 from rfl, nI_leI (by omega) (by omega)] at q; omega
    · simp only [sAll_sAll, sAll_eq] at a1 a2 b1 b2 c1 c2 d1 d2 ⊢
      refine ih g4 ⟨fun r hr m hm => ?_, fun j hj => ?_⟩
      · obtain ⟨f1, f2, f3⟩ := hf.1 r hr m hm
        by_cases z : r = i
        · subst z
          rw [if_neg (by omega)] at f1 f2
          rw [if_pos (by omega), if_pos (by omega)]
          refine ⟨?_, ?_, fun _ => d1 m hm⟩
          · rw [d2 _ (by omega), c2 _ (by omega), b1 m hm, a2 _ (by omega), f2]
          · rw [d2 _ (by omega), c1 m hm, b2 _ (by omega), a1 m hm, f1]
        · refine ⟨?_, ?_, fun y => ?_⟩
          · rw [d2 _ (by omega), c2 _ (by omega), b2 _ (by omega), a2 _ (by omega), f1]
            by_cases y : r < i
            · rw [if_pos y, if_pos (by omega)]
            · rw [if_neg y, if_neg (by omega)]
          · rw [d2 _ (by omega), c2 _ (by omega), b2 _ (by omega), a2 _ (by omega), f2]
            by_cases y : r < i
            · rw [if_pos y, if_pos (by omega)]
            · rw [if_neg y, if_neg (by omega)]
          · rw [d2 _ (by omega), c2 _ (by omega), b2 _ (by omega), a2 _ (by omega)]
            exact f3 (by omega)
      · rw [d2 _ (by omega), c2 _ (by omega), b2 _ (by omega), a2 _ (by omega)]
        exact hf.2 j hj
end MO6
