/-! Heap -/
def HeOK (M : Mem) (h : Nat) : Prop := (160 ≤ h ∧ isK M h 1 ∧ gR M h 0 = some (h + 1) ∧ gR M h 1 = some 140 ∧ gR M h 2 = some (h + 9) ∧ gR M h 3 = some (h + 10)) ∧ arr M (h + 9) 8 6 ∧ arr M (h + 10) 11 6 ∧ (∀ r, r < 6 → gR M (h + 10) r = some (h + 11 + r) ∧ arr M (h + 11 + r) 8 21) ∧ BaOK M (h + 1)
/-- rows: how many, their degrees, the rows -/
def HeSt {p : Nat} [NeZero p] (n h : Nat) (k : Nat) (dr : Nat → Nat) (rw : Nat → Mo2 → Fin p) (I : Nat → Nat → Int32) : Prop := I h 4 = nI k ∧ k ≤ 6 ∧ ∀ r, r < k → I (h + 9) r = nI (dr r) ∧ (1 ≤ dr r ∧ dr r ≤ 5) ∧ hom n (dr r) (rw r) ∧ RepV (dr r) (I (h + 11 + r)) (rw r)
def Grw {p : Nat} [NeZero p] (k : Nat) (dr : Nat → Nat) (rw : Nat → Mo2 → Fin p) : Nat → (Mo2 → Fin p) → Prop := fun e g => ∃ r, r < k ∧ dr r = e ∧ rw r = g
theorem pl21' : ∀ y, y < 6 → ∀ z, z < 6 → y + z ≤ 5 → pl (y, z) < 21 := by decide +kernel
theorem pl21 {m : Mo2} (h : m.1 + m.2 ≤ 5) : pl m < 21 := pl21' m.1 (by omega) m.2 (by omega) h
theorem HeSt_kp {p : Nat} [NeZero p] {n h k : Nat} {dr : Nat → Nat} {rw : Nat → Mo2 → Fin p} {I I' : Nat → Nat → Int32} (hk : ∀ c, c = h ∨ (h + 9 ≤ c ∧ c ≤ h + 16) → I' c = I c) (hS : HeSt n h k dr rw I) : HeSt n h k dr rw I' := by
  obtain ⟨h1, h2, h3⟩ := hS
  refine ⟨by rw [hk _ (by omega)]; exact h1, h2, fun r hr => ?_⟩
  obtain ⟨a, b, c, d⟩ := h3 r hr
  exact ⟨by rw [hk _ (by omega)]; exact a, b, c, by rw [hk _ (by omega)]; exact d⟩
theorem Grw_hom {p : Nat} [NeZero p] {n h k : Nat} {dr : Nat → Nat} {rw : Nat → Mo2 → Fin p} {I : Nat → Nat → Int32} (hS : HeSt n h k dr rw I) : ∀ e g, Grw k dr rw e g → hom n e g := by
  rintro e g ⟨r, hr, rfl, rfl⟩; exact (hS.2.2 r hr).2.2.1
theorem va_cpy_0 (f g : Nat → Int32) (N q : Nat) (h : q < N) : va_cpy f g 0 0 N q = f q := by
  unfold va_cpy
  simp [h]
theorem lt_pred {d r : Nat} (hd : d ≤ 11) (hr : r ≤ 11) : nI d - 1 < nI r ↔ d ≤ r := by
  by_cases w : d = 0
  · rw [w, Int32.lt_iff_toInt_lt, nI_toInt (by omega)]
    have : (nI 0 - 1).toInt = -1 := by decide
    omega
  · obtain ⟨d', rfl⟩ : ∃ d', d = d' + 1 := ⟨d - 1, by omega⟩
    rw [nI_pred, nI_ltI (by omega) (by omega)]; omega
theorem sub1_add1 (x : Int32) : x - 1 + 1 = x := by
  rw [Int32.sub_eq_add_neg, Int32.add_assoc, Int32.add_left_neg, Int32.add_zero]
section HE
variable {M : Mem} {I : Nat → Nat → Int32} {n ord p d b h r k : Nat} {dr : Nat → Nat}
theorem sp_Hesize [NeZero p] {rw : Nat → Mo2 → Fin p} {post : Int32 → Mem → Prop} (hH : HeOK M h) (hS : HeSt n h k dr rw I) (hp : post (nI k) (wI M I)) : T_He_size h (wI M I) post := ⟨hH.1.2.1, by rw [gI_wI, hS.1]; exact hp⟩
theorem sp_isFull [NeZero p] {rw : Nat → Mo2 → Fin p} {post : Int32 → Mem → Prop} (hH : HeOK M h) (hS : HeSt n h k dr rw I) (hp : post (if k = 6 then 1 else 0) (wI M I)) : T_He_isFull h (wI M I) post := by
  have h6 := hS.2.1
  have k0 := hH.1.2.1
  unfold T_He_isFull B_He_isFull_14
  simp (disch := omega) only [isK_wI, isA_wI, gR_wI, gI_wI, sI_wI, true_and, and_true, Option.some.injEq, exists_eq_left', forall_const, not_true_eq_false, not_false_eq_true, false_implies, true_implies, ne_eq, lit_nI, nI_add, pk_mul, pk_sub, pk_div, rem_n, nI_clamp, nI_leI, nI_ltI, nI_eq, in_nI, k0, hS.1]
  refine ⟨fun z => ⟨rfl, ?_⟩, fun z => ⟨rfl, ?_⟩⟩
  · rw [if_neg (by omega)] at hp; exact hp
  · rw [if_pos (by omega)] at hp; exact hp
theorem sp_has [NeZero p] {rw : Nat → Mo2 → Fin p} {x : Int32} {post : Int32 → Mem → Prop} (hH : HeOK M h) (hS : HeSt n h k dr rw I) (h1 : ∀ r, r < k → x = nI r → post 1 (wI M I)) (h0 : (∀ r, r < k → x ≠ nI r) → post 0 (wI M I)) : T_He_has h x (wI M I) post := by
  have h6 := hS.2.1
  have k0 := hH.1.2.1
  unfold T_He_has B_He_has_16 B_He_has_17
  refine ⟨fun z => ⟨rfl, h0 (fun r hr e => ?_)⟩, fun z => ⟨k0, fun y => ⟨rfl, h0 (fun r hr e => ?_)⟩, fun y => ⟨rfl, ?_⟩⟩⟩
  · rw [e] at z; exact absurd z (nI_nlt0 (by omega))
  · rw [gI_wI, hS.1, e, nI_leI (by omega) (by omega)] at y; omega
  · rcases i32_abs x with ⟨a, ha, hx⟩ | ⟨a, ha, ha2, hx⟩
    · have hxa : x = nI a := i32_ext (by rw [hx, nI_toInt (by omega)])
      rw [gI_wI, hS.1, hxa, nI_leI (by omega) (by omega)] at y
      exact h1 a (by omega) hxa
    · exfalso; apply z
      rw [Int32.lt_iff_toInt_lt, hx]
      have : (0 : Int32).toInt = 0 := by decide
      omega
theorem sp_HedegreeOf [NeZero p] {rw : Nat → Mo2 → Fin p} {post : Int32 → Mem → Prop} (hH : HeOK M h) (hS : HeSt n h k dr rw I) (hr : r < k) (hp : post (nI (dr r)) (wI M I)) : T_He_degreeOf h (nI r) (wI M I) post := by
  obtain ⟨⟨h160, k0, g0, g1, g2, g3⟩, a10, a11, aR, hB⟩ := hH
  have h6 := hS.2.1
  have e1 := (hS.2.2 r hr).1
  unfold T_He_degreeOf
  simp (disch := omega) only [isK_wI, isA_wI, gR_wI, gI_wI, sI_wI, true_and, and_true, Option.some.injEq, exists_eq_left', forall_const, not_true_eq_false, not_false_eq_true, false_implies, true_implies, ne_eq, lit_nI, nI_add, pk_mul, pk_sub, pk_div, rem_n, nI_clamp, nI_leI, nI_ltI, nI_eq, in_nI, k0, g2, isA_T a10, e1]
  exact hp
theorem sp_numbersOf [NeZero p] {rw : Nat → Mo2 → Fin p} {post : Nat → Mem → Prop} (hH : HeOK M h) (hS : HeSt n h k dr rw I) (hr : r < k) (hp : post (h + 11 + r) (wI M I)) : T_He_numbersOf h (nI r) (wI M I) post := by
  obtain ⟨⟨h160, k0, g0, g1, g2, g3⟩, a10, a11, aR, hB⟩ := hH
  have h6 := hS.2.1
  unfold T_He_numbersOf
  simp (disch := omega) only [isK_wI, isA_wI, gR_wI, gI_wI, sI_wI, true_and, and_true, Option.some.injEq, exists_eq_left', forall_const, not_true_eq_false, not_false_eq_true, false_implies, true_implies, ne_eq, lit_nI, nI_add, pk_mul, pk_sub, pk_div, rem_n, nI_clamp, nI_leI, nI_ltI, nI_eq, in_nI, k0, g3, isA_T a11, (aR r (by omega)).1]
  exact hp
theorem sp_load [NeZero p] {a la : Nat} {rw : Nat → Mo2 → Fin p} {post : Mem → Prop} (hH : HeOK M h) (hS : HeSt n h k dr rw I) (hr : r < k) (ha : arr M a 8 la) (hla : 21 ≤ la) (hla2 : la < 2147483648) (hp : ∀ g, RepV (dr r) g (rw r) → post (wI M (sAll I a g))) : T_He_load h (nI r) a (wI M I) post := by
  obtain ⟨⟨h160, k0, g0, g1, g2, g3⟩, a10, a11, aR, hB⟩ := hH
  have h6 := hS.2.1
  obtain ⟨e1, e2, e3, e4⟩ := hS.2.2 r hr
  unfold T_He_load
  simp (disch := omega) only [isK_wI, isA_wI, gR_wI, gI_wI, sI_wI, true_and, and_true, Option.some.injEq, exists_eq_left', forall_const, not_true_eq_false, not_false_eq_true, false_implies, true_implies, ne_eq, lit_nI, nI_add, pk_mul, pk_sub, pk_div, rem_n, nI_clamp, nI_leI, nI_ltI, nI_eq, in_nI, k0, g3, isA_T a11, (aR r (by omega)).1]
  refine ⟨cpOk_nI (aR r (by omega)).2 ha (by omega) (by omega) (by omega) (by omega), ?_⟩
  rw [cpM_wI]
  refine hp _ (fun m hm => ?_)
  have q := pl21 (m := m) (by omega)
  rw [nI_clamp (show 0 < 2 ^ 31 by omega), nI_clamp (show 21 < 2 ^ 31 by omega), va_cpy_0 _ _ _ _ q]
  exact e4 m hm
theorem sp_forgetBase [NeZero p] {G : Nat → (Mo2 → Fin p) → Prop} {post : Mem → Prop} (hH : HeOK M h) (hSt : BaSt n ord (h + 1) G r I) (hp : ∀ I', BaSt n ord (h + 1) G 0 I' → (∀ c, c ≠ h + 1 → I' c = I c) → post (wI M I')) : T_He_forgetBase h (wI M I) post := by
  obtain ⟨⟨h160, k0, g0, g1, g2, g3⟩, a10, a11, aR, hB⟩ := hH
  have kb := hB.2.1.1
  unfold T_He_forgetBase
  simp (disch := omega) only [isK_wI, isA_wI, gR_wI, gI_wI, sI_wI, true_and, and_true, Option.some.injEq, exists_eq_left', forall_const, not_true_eq_false, not_false_eq_true, false_implies, true_implies, ne_eq, lit_nI, nI_add, pk_mul, pk_sub, pk_div, rem_n, nI_clamp, nI_leI, nI_ltI, nI_eq, in_nI, k0, g0, kb]
  exact sp_forget (d := 0) hB (by omega) hSt (fun I' h1 h2 => hp I' (by rw [Nat.min_eq_right (Nat.zero_le r)] at h1; exact h1) h2)
theorem sp_offerRows [NeZero p] {G : Nat → (Mo2 → Fin p) → Prop} {rw : Nat → Mo2 → Fin p} {post : Mem → Prop} (hH : HeOK M h) (hM : MOK M) (hB : BaOK M b) (hC : Cfg n ord p I) (hd10 : d ≤ 10) (hbh : b + 7 < h ∨ b = h + 1 ∨ h + 16 < b) (hS : HeSt n h k dr rw I) (hG : ∀ e g, G e g → hom n e g) (hSt : BaOp n ord b G d I) (hp : ∀ I', BaOp n ord b (fun e g => G e g ∨ (e = d ∧ Grw k dr rw d g)) d I' → (∀ c, c ≠ 140 → (c < 8 ∨ 77 < c) → (c < b ∨ b + 7 < c) → I' c = I c) → post (wI M I')) : T_He_offerRows h b (nI d) (wI M I) post := by
  have hH' := hH
  obtain ⟨⟨h160, k0, g0, g1, g2, g3⟩, a10, a11, aR, hBB⟩ := hH'
  have kb := hB.2.1.1
  have hb := hB.1.1
  have hbb := hBB.1.1
  have a140 := hB.2.2.2
  have h6 := hS.2.1
  have key : ∀ t r I', r + t = k → (∀ c, c ≠ 140 → (c < 8 ∨ 77 < c) → (c < b ∨ b + 7 < c) → I' c = I c) → BaOp n ord b (fun e g => G e g ∨ (e = d ∧ ∃ r', r' < r ∧ dr r' = d ∧ rw r' = g)) d I' → L_He_offerRows_2 post (t + 1) h b (nI d) (nI r) (wI M I') := by
    intro t
    induction t with
    | zero =>
      intro r I' hr hf hO
      have hS' : HeSt n h k dr rw I' := HeSt_kp (fun c hc => hf c (by omega) (by omega) (by omega)) hS
      show B_He_offerRows_2 _ post h b _ _ _
      unfold B_He_offerRows_2
      have hrk : r = k := by omega
      subst hrk
      simp (disch := omega) only [isK_wI, isA_wI, gR_wI, gI_wI, sI_wI, true_and, and_true, Option.some.injEq, exists_eq_left', forall_const, not_true_eq_false, not_false_eq_true, false_implies, true_implies, ne_eq, lit_nI, nI_add, pk_mul, pk_sub, pk_div, rem_n, nI_clamp, nI_leI, nI_ltI, nI_eq, in_nI, k0, hS'.1]
      exact ⟨fun _ => hp I' hO hf, fun z => absurd (Nat.le_refl _) z⟩
    | succ t ih =>
      intro r I' hr hf hO
      have hrk : r < k := by omega
      have hS' : HeSt n h k dr rw I' := HeSt_kp (fun c hc => hf c (by omega) (by omega) (by omega)) hS
      have hC' : Cfg n ord p I' := Cfg_kp (fun c hc => hf c (by omega) (by omega) (by omega)) hC
      obtain ⟨e1, e2, e3, e4⟩ := hS'.2.2 r hrk
      have hGr : ∀ e g, (G e g ∨ (e = d ∧ ∃ r', r' < r ∧ dr r' = d ∧ rw r' = g)) → hom n e g := by
        rintro e g (z | ⟨rfl, r', w1, w2, rfl⟩)
        · exact hG e g z
        · rw [← w2]; exact (hS.2.2 r' (by omega)).2.2.1
      show B_He_offerRows_2 (L_He_offerRows_2 post (t + 1)) post h b _ _ _
      unfold B_He_offerRows_2 B_He_offerRows_38
      simp (disch := omega) only [isK_wI, isA_wI, gR_wI, gI_wI, sI_wI, true_and, and_true, Option.some.injEq, exists_eq_left', forall_const, not_true_eq_false, not_false_eq_true, false_implies, true_implies, ne_eq, lit_nI, nI_add, pk_mul, pk_sub, pk_div, rem_n, nI_clamp, nI_leI, nI_ltI, nI_eq, in_nI, k0, g1, g2, hS'.1, isA_T a10, e1]
      refine ⟨fun z => absurd z (by omega), fun _ => ⟨fun z => ?_, fun z => ?_⟩⟩
      · refine ih (r + 1) I' (by omega) hf ?_
        have : (fun e g => G e g ∨ (e = d ∧ ∃ r', r' < r + 1 ∧ dr r' = d ∧ rw r' = g)) = (fun e g => G e g ∨ (e = d ∧ ∃ r', r' < r ∧ dr r' = d ∧ rw r' = g)) := by
          funext e g
          apply propext
          constructor
          · rintro (w | ⟨w1, r', w2, w3, w4⟩)
            · exact Or.inl w
            · by_cases y : r' = r
              · rw [y] at w3; exact absurd w3 z
              · exact Or.inr ⟨w1, r', by omega, w3, w4⟩
          · rintro (w | ⟨w1, r', w2, w3, w4⟩)
            · exact Or.inl w
            · exact Or.inr ⟨w1, r', by omega, w3, w4⟩
        rw [this]; exact hO
      · refine sp_load hH hS' hrk a140 (by omega) (by omega) (fun g hg => ?_)
        simp (disch := omega) only [isK_wI, isA_wI, gR_wI, gI_wI, sI_wI, true_and, and_true, Option.some.injEq, exists_eq_left', forall_const, not_true_eq_false, not_false_eq_true, false_implies, true_implies, ne_eq, lit_nI, nI_add, pk_mul, pk_sub, pk_div, rem_n, nI_clamp, nI_leI, nI_ltI, nI_eq, in_nI, k0, g1, kb]
        rw [z] at hg e3
        have hO2 : BaOp n ord b (fun e g => G e g ∨ (e = d ∧ ∃ r', r' < r ∧ dr r' = d ∧ rw r' = g)) d (sAll I' 140 g) := by
          obtain ⟨sz, dg, hd, gl, ld, R, ⟨m12, o, mD, m8⟩, ⟨Q, e, hRo⟩, rest⟩ := hO
          have hNb := nM_b hC.1 hd10
          exact ⟨sz, dg, hd, gl, ld, R, ⟨by rw [sAll_ne (by omega)]; exact m12, OpI_kp (fun c h1 h2 _ => sAll_ne (by omega)) o, fun e he => BaD_kp (by rw [sAll_ne (by omega)]) (by rw [sAll_ne (by omega)]) (by rw [sAll_ne (by omega)]) (fun j _ => by rw [sAll_ne (by omega)]) (by omega) (mD e he), by rw [sAll_ne (by omega)]; exact m8⟩, ⟨Q, e, RoSt_kp hNb.1 (fun c h1 h2 => sAll_ne (by omega)) hRo⟩, rest⟩
        refine sp_offer hB hM (Cfg_kp (kp_sAll (by omega)) hC') hd10 hGr hO2 a140 (fun m hm => pl_lt (by omega)) (by omega) ⟨by omega, by omega⟩ (by rw [sAll_eq]; exact hg) e3 (fun I2 hO3 hf3 => ?_)
        refine ih (r + 1) I2 (by omega) (fun c h1 h2 h3 => by rw [hf3 c h1 h2 h3, sAll_ne h1, hf c h1 h2 h3]) ?_
        have : (fun e g => G e g ∨ (e = d ∧ ∃ r', r' < r + 1 ∧ dr r' = d ∧ rw r' = g)) = Gadd (fun e g => G e g ∨ (e = d ∧ ∃ r', r' < r ∧ dr r' = d ∧ rw r' = g)) d (rw r) := by
          funext e g
          apply propext
          constructor
          · rintro (w | ⟨w1, r', w2, w3, w4⟩)
            · exact Or.inl (Or.inl w)
            · by_cases y : r' = r
              · rw [y] at w4; exact Or.inr ⟨w1, w4.symm⟩
              · exact Or.inl (Or.inr ⟨w1, r', by omega, w3, w4⟩)
          · rintro ((w | ⟨w1, r', w2, w3, w4⟩) | ⟨w1, w2⟩)
            · exact Or.inl w
            · exact Or.inr ⟨w1, r', by omega, w3, w4⟩
            · exact Or.inr ⟨w1, r, by omega, z, w2.symm⟩
        rw [this]; exact hO3
  refine ⟨_, key k 0 I (by omega) (fun c _ _ _ => rfl) ?_⟩
  have : (fun e g => G e g ∨ (e = d ∧ ∃ r', r' < 0 ∧ dr r' = d ∧ rw r' = g)) = G := by
    funext e g
    apply propext
    constructor
    · rintro (w | ⟨w1, r', w2, _⟩)
      · exact w
      · omega
    · exact Or.inl
  rw [this]; exact hSt
theorem sp_baseUpTo [NeZero p] {d1 : Nat} {x : Int32} {rw : Nat → Mo2 → Fin p} {post : Nat → Mem → Prop} (hH : HeOK M h) (hM : MOK M) (hC : Cfg n ord p I) (hd1 : d1 ≤ 11) (hx : x = nI d1 - 1) (hS : HeSt n h k dr rw I) (hSt : BaSt n ord (h + 1) (Grw k dr rw) r I) (hp : ∀ I', BaSt n ord (h + 1) (Grw k dr rw) (max r d1) I' → (∀ c, c ≠ 140 → (c < 8 ∨ 77 < c) → (c < h + 1 ∨ h + 8 < c) → I' c = I c) → post (h + 1) (wI M I')) : T_He_baseUpTo h x (wI M I) post := by
  have hH' := hH
  obtain ⟨⟨h160, k0, g0, g1, g2, g3⟩, a10, a11, aR, hB⟩ := hH'
  have kb := hB.2.1.1
  have hb := hB.1.1
  have hr11 := hSt.le
  have hG := Grw_hom hS
  have key : ∀ t r' I', max r' d1 = max r d1 → r' + t = max r' d1 → BaSt n ord (h + 1) (Grw k dr rw) r' I' → (∀ c, c ≠ 140 → (c < 8 ∨ 77 < c) → (c < h + 1 ∨ h + 8 < c) → I' c = I c) → L_He_baseUpTo_10 post (t + 1) h x (nI r') (wI M I') := by
    intro t
    induction t with
    | zero =>
      intro r' I' hr0 hr hSt' hf
      show B_He_baseUpTo_10 _ post h _ _ _
      unfold B_He_baseUpTo_10
      simp only [isK_wI, gR_wI, k0, g0, true_and, Option.some.injEq, exists_eq_left']
      refine ⟨fun _ => hp I' (by rw [show max r d1 = r' by omega]; exact hSt') hf, fun z => ?_⟩
      exfalso; apply z
      rw [hx]; exact (lt_pred hd1 (by omega)).mpr (by omega)
    | succ t ih =>
      intro r' I' hr0 hr hSt' hf
      have hlt : r' < d1 := by omega
      have hC' : Cfg n ord p I' := Cfg_kp (fun c hc => hf c (by omega) (by omega) (by omega)) hC
      show B_He_baseUpTo_10 (L_He_baseUpTo_10 post (t + 1)) post h _ _ _
      unfold B_He_baseUpTo_10
      simp only [isK_wI, gR_wI, k0, g0, kb, true_and, Option.some.injEq, exists_eq_left']
      refine ⟨fun z => ?_, fun _ => ?_⟩
      · rw [hx] at z
        have := (lt_pred hd1 (by omega)).mp z
        omega
      · refine sp_open hB hM hC' (by omega) hG hSt' (fun I1 hO1 hf1 => ?_)
        simp only [isK_wI, gR_wI, k0, g0, kb, true_and, Option.some.injEq, exists_eq_left']
        have hfA : ∀ c, c ≠ 140 → (c < 8 ∨ 77 < c) → (c < h + 1 ∨ h + 8 < c) → I1 c = I c := fun c h1 h2 h3 => by rw [hf1 c h1 h2 (by omega), hf c h1 h2 h3]
        have hS1 : HeSt n h k dr rw I1 := HeSt_kp (fun c hc => hfA c (by omega) (by omega) (by omega)) hS
        have hC1 : Cfg n ord p I1 := Cfg_kp (fun c hc => hfA c (by omega) (by omega) (by omega)) hC
        refine sp_offerRows hH hM hB hC1 (by omega) (Or.inr (Or.inl rfl)) hS1 (Gb_hom hG) hO1 (fun I2 hO2 hf2 => ?_)
        simp only [isK_wI, gR_wI, k0, g0, kb, true_and, Option.some.injEq, exists_eq_left']
        have hfB : ∀ c, c ≠ 140 → (c < 8 ∨ 77 < c) → (c < h + 1 ∨ h + 8 < c) → I2 c = I c := fun c h1 h2 h3 => by rw [hf2 c h1 h2 (by omega), hfA c h1 h2 h3]
        have hG2 : ∀ e g, (Gb r' (Grw k dr rw) e g ∨ (e = r' ∧ Grw k dr rw r' g)) → hom n e g := by
          rintro e g (⟨_, z⟩ | ⟨rfl, z⟩)
          · exact hG e g z
          · exact hG _ g z
        refine sp_close hB hM (Cfg_kp (fun c hc => hfB c (by omega) (by omega) (by omega)) hC) (by omega) hG2 hO2 (fun I3 hS3 hf3 => ?_)
        rw [show nI r' + 1 = nI (r' + 1) from nI_add r' 1]
        refine ih (r' + 1) I3 (by omega) (by omega) (BaSt_cong (fun e he g => ⟨?_, fun z => ?_⟩) hS3) (fun c h1 h2 h3 => by rw [hf3 c (by omega), hfB c h1 h2 h3])
        · rintro (⟨_, z⟩ | ⟨rfl, z⟩) <;> exact z
        · by_cases y : e = r'
          · subst y; exact Or.inr ⟨rfl, z⟩
          · exact Or.inl ⟨by omega, z⟩
  unfold T_He_baseUpTo
  simp only [isK_wI, gR_wI, k0, g0, kb, true_and, Option.some.injEq, exists_eq_left']
  refine sp_reached hB hSt ?_
  rw [sub1_add1]
  exact ⟨_, key (max r d1 - r) r I rfl (by omega) hSt (fun c _ _ _ => rfl)⟩
end HE
