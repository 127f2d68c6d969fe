/-! Rows: begin and add -/
def RoSt {p : Nat} [NeZero p] (n ord d : Nat) (W : (Nat → Fin p) → Prop) (P : Nat → Bool) (e : Nat → Nat → Fin p) (I : Nat → Nat → Int32) : Prop :=
  RoL n ord p d I ∧ (Sub W ∧ inRange (nM n ord d) W ∧ Ech (nM n ord d) W P e ∧ Rref P e) ∧ I 8 7 = nI (ct P (nM n ord d)) ∧
  (∀ i, i < nM n ord d → P i = false → I 76 (pl (atm n ord d i)) = -1) ∧
  ∃ hdr : Nat → Nat, (∀ r, r < ct P (nM n ord d) → hdr r < nM n ord d ∧ P (hdr r) = true ∧ I 76 (pl (atm n ord d (hdr r))) = nI r ∧ VR n ord d (I (10 + r)) (e (hdr r))) ∧ ∀ i, i < nM n ord d → P i = true → ∃ r, r < ct P (nM n ord d) ∧ hdr r = i
theorem neg1_lt0 : (-1 : Int32) < 0 := by decide
theorem nI_nlt0 {a : Nat} (h : a < 2147483648) : ¬ nI a < 0 := by rw [show (0 : Int32) = nI 0 from rfl, nI_ltI (by omega) (by omega)]; omega
theorem nI_ge0 {a : Nat} (h : a < 2147483648) : 0 ≤ nI a := by rw [show (0 : Int32) = nI 0 from rfl, nI_leI (by omega) (by omega)]; omega
theorem neg1_nge0 : ¬ (0 : Int32) ≤ -1 := by decide
theorem ct_0 : ∀ n, ct (fun _ => false) n = 0
  | 0 => rfl
  | n + 1 => by rw [ct, ct_0 n]; rfl
section RO2
variable {M : Mem} {I : Nat → Nat → Int32} {n ord p d : Nat}
theorem sp_Robegin [NeZero p] {post : Mem → Prop} (hM : RoOK M) (hP : PrOK M) (hNu : NuOK M) (hS : PrSt n ord I) (hNs : NuSt p I) (h1p : (1 : Fin p) ≠ 0) (hd : d ≤ 10) (h : ∀ I', RoSt (p := p) n ord d (fun v => ∀ i, v i = 0) (fun _ => false) (fun _ _ => 0) I' → (∀ c, (c < 8 ∨ 77 < c) → I' c = I c) → post (wI M I')) : T_Ro_begin 8 (nI d) (wI M I) post := by
  have hM' := hM
  obtain ⟨⟨k8, r0, r1, r2, r3, r4⟩, a9, aR, a76, a77⟩ := hM'
  have hNb := nM_b hS hd
  have k1 := hP.1.1
  have k6 := hNu.1
  unfold T_Ro_begin
  simp (disch := omega) only [isK_wI, isA_wI, gR_wI, gI_wI, sI_wI, true_and, and_true, Option.some.injEq, exists_eq_left', forall_const, lit_nI, nI_add, pk_mul, pk_sub, pk_div, rem_n, nI_clamp, nI_leI, nI_ltI, nI_eq, in_nI, k8, r0, k1]
  refine sp_amount hP hS hd ?_
  simp (disch := omega) only [isK_wI, isA_wI, gR_wI, gI_wI, sI_wI, true_and, and_true, Option.some.injEq, exists_eq_left', forall_const, lit_nI, nI_add, pk_mul, pk_sub, pk_div, rem_n, nI_clamp, nI_leI, nI_ltI, nI_eq, in_nI, k8]
  have key : ∀ r i I', i + r = nM n ord d → (∀ c, (c < 8 ∨ 77 < c) → I' c = I c) → I' 8 5 = nI (nM n ord d) → (∀ j, j < i → I' 77 j = nI (pl (atm n ord d j))) → L_Ro_begin_14 post (r + 1) 8 (nI d) (nI i) (wI M I') := by
    intro r
    induction r with
    | zero =>
      intro i I' hi hf h5 hl
      show B_Ro_begin_14 _ post 8 (nI d) (nI i) _
      unfold B_Ro_begin_14
      simp (disch := omega) only [isK_wI, isA_wI, gR_wI, gI_wI, sI_wI, true_and, and_true, Option.some.injEq, exists_eq_left', forall_const, lit_nI, nI_add, pk_mul, pk_sub, pk_div, rem_n, nI_clamp, nI_leI, nI_ltI, nI_eq, in_nI, k8, r1, h5, k6]
      refine ⟨fun _ => ?_, fun q => absurd (by omega) q⟩
      refine sp_prime hNu (NuSt_kp (fun c hc => hf c (Or.inl hc)) hNs) ?_
      simp (disch := omega) only [isK_wI, isA_wI, gR_wI, gI_wI, sI_wI, true_and, and_true, Option.some.injEq, exists_eq_left', forall_const, lit_nI, nI_add, pk_mul, pk_sub, pk_div, rem_n, nI_clamp, nI_leI, nI_ltI, nI_eq, in_nI, k8, r3]
      refine sp_fill2 a76 (by omega) ?_
      refine h _ ⟨⟨⟨?_, ?_⟩, ?_⟩, ⟨⟨?_, ?_⟩, ?_, ⟨?_, ?_⟩, ?_⟩, ?_, ?_, ?_⟩ ?_
      · rw [sAll_ne (by omega), u2_ne (by omega), u2_ne (by omega)]; exact h5
      · rw [sAll_ne (by omega), u2_ne (by omega), u2_eq]
      · intro j hj
        rw [sAll_ne (by omega), u2_ne (by omega), u2_ne (by omega)]; exact hl j (by omega)
      · intro j; rfl
      · intro u v c hu hv j
        show u j + c * v j = 0
        rw [hu, hv]; grind
      · intro v hv j hj; exact hv j
      · intro j hj; exact absurd hj Bool.false_ne_true
      · intro v hv _ j; exact hv j
      · intro j k hj; exact absurd hj Bool.false_ne_true
      · rw [sAll_ne (by omega), u2_eq, ct_0]
      · intro j hj _
        rw [sAll_eq, if_pos (pl66 hd hj)]; rfl
      · refine ⟨fun _ => 0, fun r hr => ?_, fun j hj hh => absurd hh Bool.false_ne_true⟩
        rw [ct_0] at hr; omega
      · intro c hc
        rw [sAll_ne (by omega)]
        unfold u2
        rw [if_neg (by omega), if_neg (by omega)]; exact hf c hc
    | succ r ih =>
      intro i I' hi hf h5 hl
      show B_Ro_begin_14 (L_Ro_begin_14 post (r + 1)) post 8 (nI d) (nI i) _
      unfold B_Ro_begin_14
      simp (disch := omega) only [isK_wI, isA_wI, gR_wI, gI_wI, sI_wI, true_and, and_true, Option.some.injEq, exists_eq_left', forall_const, lit_nI, nI_add, pk_mul, pk_sub, pk_div, rem_n, nI_clamp, nI_leI, nI_ltI, nI_eq, in_nI, k8, r0, r4, h5, k1]
      refine ⟨fun q => absurd q (by omega), fun _ => ?_⟩
      refine sp_at hP (PrSt_kp (fun c hc => hf c (Or.inl hc)) hS) hd (by omega) ?_
      simp (disch := omega) only [isK_wI, isA_wI, gR_wI, gI_wI, sI_wI, true_and, and_true, Option.some.injEq, exists_eq_left', forall_const, lit_nI, nI_add, pk_mul, pk_sub, pk_div, rem_n, nI_clamp, nI_leI, nI_ltI, nI_eq, in_nI, isA_T a77]
      refine ih (i + 1) _ (by omega) ?_ ?_ ?_
      · intro c hc; unfold u2; rw [if_neg (by omega)]; exact hf c hc
      · rw [u2_ne (by omega)]; exact h5
      · intro j hj
        by_cases z : j = i
        · subst z; rw [u2_eq]
        · rw [u2_ne (by omega)]; exact hl j (by omega)
  exact ⟨_, key (nM n ord d) 0 _ (by omega) (fun c hc => by unfold u2; rw [if_neg (by omega)]) (u2_eq _ _ _ _) (fun j hj => absurd hj (by omega))⟩
theorem ct_lt {P : Nat → Bool} {h : Nat} (hP : P h = false) {N : Nat} (hN : h < N) : ct P N < N := by
  have := ct_add hP hN
  have := ct_le (addP P h) N
  omega
theorem addP_h (P : Nat → Bool) (h : Nat) : addP P h h = true := by simp [addP]
theorem addP_ne {P : Nat → Bool} {h i : Nat} (q : i ≠ h) : addP P h i = P i := by simp [addP, q]
theorem sp_Roadd [NeZero p] {a la : Nat} {W : (Nat → Fin p) → Prop} {P : Nat → Bool} {e : Nat → Nat → Fin p} {v : Nat → Fin p} {post : Int32 → Mem → Prop} (hM : RoOK M) (hNu : NuOK M) (hNs : NuSt p I) (hp : prm p = true) (hd : d ≤ 10) (hN : nM n ord d ≤ 66) (hSt : RoSt n ord d W P e I) (ha : arr M a 8 la) (hla : ∀ i, i < nM n ord d → pl (atm n ord d i) < la) (hla2 : la < 2147483648) (hn : 77 < a) (hv : VR n ord d (I a) v) (hvr : ∀ i, nM n ord d ≤ i → v i = 0)
    (h : ∀ r I' P' e', (r = 1 ∧ ¬ W v ∨ r = 0 ∧ W v) → RoSt n ord d (more W v) P' e' I' → (∀ c, c ≠ a → (c < 8 ∨ 77 < c) → I' c = I c) → post r (wI M I')) : T_Ro_add 8 a (wI M I) post := by
  have hM' := hM
  obtain ⟨⟨k8, r0, r1, r2, r3, r4⟩, a9, aR, a76, a77⟩ := hM'
  obtain ⟨hL, ⟨hW, hR, hE, hRr⟩, h7, hno, hdr, hd1, hd2⟩ := hSt
  obtain ⟨⟨l5, l6⟩, l7⟩ := hL
  have hp97 := (prm_lt hp).2
  have hF := prm_field hp
  have k6 := hNu.1
  have hsN := ct_le P (nM n ord d)
  have hp0 : ¬ p = 0 := NeZero.ne p
  -- the row, cleared
  have hin : W (fun j => v j - red P e v (nM n ord d) j) := red_in (N := nM n ord d) hW hE.inV _
  have hout : ∀ i, nM n ord d ≤ i → red P e v (nM n ord d) i = 0 := fun i hi => by
    have := hR _ hin i hi
    simp only [hvr i hi] at this
    grind
  have hz := red_zero (P := P) hE.fam (v := v) (nM n ord d)
  have nope : ∀ f, W v → post 0 (wI M (sAll I a f)) := fun f hWv => by
    refine h 0 _ P e (Or.inr ⟨rfl, hWv⟩) ?_ (fun c hc _ => sAll_ne hc)
    rw [more_old hW hWv]
    refine ⟨⟨⟨by rw [sAll_ne (by omega)]; exact l5, by rw [sAll_ne (by omega)]; exact l6⟩, fun i hi => by rw [sAll_ne (by omega)]; exact l7 i hi⟩, ⟨hW, hR, hE, hRr⟩, by rw [sAll_ne (by omega)]; exact h7, fun i hi hPi => by rw [sAll_ne (by omega)]; exact hno i hi hPi, hdr, fun r hr => ?_, hd2⟩
    obtain ⟨z1, z2, z3, z4⟩ := hd1 r hr
    exact ⟨z1, z2, by rw [sAll_ne (by omega)]; exact z3, by rw [sAll_ne (by omega)]; exact z4⟩
  have key : ∀ r i f x, i + r = nM n ord d → VR n ord d f (red P e v i) → ((x = -1 ∧ ∀ j, j < i → red P e v i j = 0) ∨ ∃ k, k < i ∧ x = nI (pl (atm n ord d k)) ∧ red P e v i k ≠ 0 ∧ ∀ j, j < k → red P e v i j = 0) → L_Ro_add_4 post (r + 1) 8 a x (nI i) (wI M (sAll I a f)) := by
    intro r
    induction r with
    | zero =>
      intro i f x hi hf hx
      have hiN : i = nM n ord d := by omega
      subst hiN
      show B_Ro_add_4 _ post 8 a x (nI _) _
      unfold B_Ro_add_4 B_Ro_add_94
      simp (disch := omega) only [isK_wI, isA_wI, gR_wI, gI_wI, sI_wI, true_and, and_true, Option.some.injEq, exists_eq_left', forall_const, lit_nI, nI_add, pk_mul, pk_sub, pk_div, rem_n, nI_clamp, nI_leI, nI_ltI, nI_eq, in_nI, k8, r1, r2, k6, sAll_ne (show 8 ≠ a by omega), l5, h7]
      refine ⟨fun _ => ⟨fun q => ⟨rfl, ?_⟩, fun q => ?_⟩, fun q => absurd (Nat.le_refl _) q⟩
      · rcases hx with ⟨rfl, hx⟩ | ⟨k, hk, rfl, _⟩
        · refine nope f ?_
          have e0 : (fun j => v j - red P e v (nM n ord d) j) = v := by
            funext j
            by_cases z : j < nM n ord d
            · rw [hx j z]; grind
            · rw [hout j (by omega)]; grind
          rw [e0] at hin; exact hin
        · have := pl66 (ord := ord) hd hk
          rw [nI_ltI (by omega) (by omega)] at q; omega
      · rcases hx with ⟨rfl, hx⟩ | ⟨k, hk, rfl, hne, hx⟩
        · exact absurd (by decide) q
        have hPk : P k = false := by
          cases z : P k
          · rfl
          · exact absurd (hz k hk z) hne
        have hct := ct_lt hPk hk
        have q3 := pl66 (ord := ord) hd hk
        have q4 := hla k hk
        have e1 : f (pl (atm n ord d k)) = nI (red P e v (nM n ord d) k).val := hf k hk
        simp (disch := omega) only [isK_wI, isA_wI, gR_wI, gI_wI, sI_wI, true_and, and_true, Option.some.injEq, exists_eq_left', forall_const, lit_nI, nI_add, pk_mul, pk_sub, pk_div, rem_n, nI_clamp, nI_leI, nI_ltI, nI_eq, in_nI, sAll_eq, isA_T ha, e1]
        refine ⟨fun _ => ?_, fun q => absurd (by omega) q⟩
        have hv1 := (red P e v (nM n ord d) k).isLt
        have hv0 : (red P e v (nM n ord d) k).val ≠ 0 := fun e0 => hne (Fin.ext e0)
        refine sp_inverse hNu (NuSt_kp (kp_sAll (by omega)) hNs) hp (by omega) hv1 (fun t ht htm => ?_)
        simp (disch := omega) only [isK_wI, isA_wI, gR_wI, gI_wI, sI_wI, true_and, and_true, Option.some.injEq, exists_eq_left', forall_const, lit_nI, nI_add, pk_mul, pk_sub, pk_div, rem_n, nI_clamp, nI_leI, nI_ltI, nI_eq, in_nI, k8, r2, sAll_ne (show 8 ≠ a by omega), h7, isA_T a9]
        refine ⟨_, (aR _ (show ct P (nM n ord d) < 66 by omega)).1, ?_⟩
        have aS := (aR _ (show ct P (nM n ord d) < 66 by omega)).2
        -- the row as it is taken
        have htF : ∃ tF : Fin p, tF.val = t := ⟨⟨t, ht⟩, rfl⟩
        obtain ⟨tF, htF⟩ := htF
        have htt : red P e v (nM n ord d) k * tF = 1 := by
          apply Fin.ext
          rw [Fin.val_mul, htF, htm]
          exact (Nat.mod_eq_of_lt (by have := prm_lt hp; omega)).symm
        rw [← htF]
        have hWn : ¬ W v := fun hWv => hne (hE.red0 hW hWv k)
        have key2 : ∀ r i g, i + r = nM n ord d → (∀ j, j < i → g (pl (atm n ord d j)) = nI (red P e v (nM n ord d) j * tF).val) → L_Ro_add_121 post (r + 1) 8 a (nI (pl (atm n ord d k))) (nI tF.val) (10 + ct P (nM n ord d)) (nI i) (wI M (sAll (sAll I a f) (10 + ct P (nM n ord d)) g)) := by
          intro r
          induction r with
          | zero =>
            intro i g hi hg
            have hiN : i = nM n ord d := by omega
            subst hiN
            show B_Ro_add_121 _ post 8 a _ _ _ (nI _) _
            unfold B_Ro_add_121
            simp (disch := omega) only [isK_wI, isA_wI, gR_wI, gI_wI, sI_wI, true_and, and_true, Option.some.injEq, exists_eq_left', forall_const, lit_nI, nI_add, pk_mul, pk_sub, pk_div, rem_n, nI_clamp, nI_leI, nI_ltI, nI_eq, in_nI, k8, sAll_ne (show 8 ≠ 10 + ct P (nM n ord d) by omega), sAll_ne (show 8 ≠ a by omega), l5]
            refine ⟨fun _ => ?_, fun q => absurd (Nat.le_refl _) q⟩
            have hf' : VR n ord d g (fun j => red P e v (nM n ord d) j * tF) := hg
            have hP0 : ∀ i, P i = true → red P e v (nM n ord d) i * tF = 0 := fun i hi => by rw [hz i ((hE.1 i hi).1) hi]; grind
            have hadd := hE.add hW (f := fun j => red P e v (nM n ord d) j * tF) (v := v) (h := k) (t := tF) (t2 := red P e v (nM n ord d) k) (by
              have e0 : (fun i => v i - red P e v (nM n ord d) k * (red P e v (nM n ord d) i * tF)) = fun j => v j - red P e v (nM n ord d) j := by
                funext j
                have : red P e v (nM n ord d) k * (red P e v (nM n ord d) j * tF) = (red P e v (nM n ord d) k * tF) * red P e v (nM n ord d) j := by grind
                rw [this, htt]; grind
              rw [e0]; exact hin) (by rw [← htt]; grind) hP0 hk (by exact htt) (fun j hj => by show red P e v (nM n ord d) j * tF = 0; rw [hx j hj]; grind)
            have hRr' := hRr.add (f := fun j => red P e v (nM n ord d) j * tF) (h := k) hP0 htt
            have key3 : ∀ r i I', i + r = ct P (nM n ord d) → (∀ c, c ≠ a → (c < 10 ∨ 75 < c) → I' c = I c) → VR n ord d (I' (10 + ct P (nM n ord d))) (fun j => red P e v (nM n ord d) j * tF) → (∀ r', r' < ct P (nM n ord d) → VR n ord d (I' (10 + r')) (if r' < i then addE e k (fun j => red P e v (nM n ord d) j * tF) (hdr r') else e (hdr r'))) → L_Ro_add_165 post (r + 1) 8 (nI (pl (atm n ord d k))) (10 + ct P (nM n ord d)) (nI i) (wI M I') := by
              intro r
              induction r with
              | zero =>
                intro i I' hi hfr hs hr
                have hiN : i = ct P (nM n ord d) := by omega
                subst hiN
                show B_Ro_add_165 _ post 8 _ _ (nI _) _
                unfold B_Ro_add_165
                simp (disch := omega) only [isK_wI, isA_wI, gR_wI, gI_wI, sI_wI, true_and, and_true, Option.some.injEq, exists_eq_left', forall_const, lit_nI, nI_add, pk_mul, pk_sub, pk_div, rem_n, nI_clamp, nI_leI, nI_ltI, nI_eq, in_nI, k8, r3, hfr 8 (by omega) (by omega), h7, isA_T a76, u2_ne (show ¬ (8 = 76 ∧ 7 = pl (atm n ord d k)) by omega)]
                refine ⟨fun _ => ⟨rfl, ?_⟩, fun q => absurd (Nat.le_refl _) q⟩
                refine h 1 _ (addP P k) (addE e k (fun j => red P e v (nM n ord d) j * tF)) (Or.inl ⟨rfl, hWn⟩) ⟨⟨⟨?_, ?_⟩, ?_⟩, ⟨more_sub hW v, ?_, hadd, hRr'⟩, ?_, ?_, fun r => if r = ct P (nM n ord d) then k else hdr r, ?_, ?_⟩ ?_
                · rw [u2_ne (by omega), u2_ne (by omega), hfr 8 (by omega) (by omega)]; exact l5
                · rw [u2_ne (by omega), u2_ne (by omega), hfr 8 (by omega) (by omega)]; exact l6
                · intro j hj
                  rw [u2_ne (by omega), u2_ne (by omega), hfr 77 (by omega) (by omega)]; exact l7 j hj
                · rintro u ⟨w, c, hw, hu⟩ j hj
                  rw [hu, hR w hw j hj, hvr j hj]; grind
                · rw [u2_eq, ct_add hPk hk]
                · intro j hj hPj
                  have hjk : j ≠ k := fun z => by rw [z, addP_h] at hPj; exact absurd hPj (by decide)
                  rw [addP_ne hjk] at hPj
                  rw [u2_ne (by omega), u2_ne (fun z => hjk (plInj hd hj hk z.2)), hfr 76 (by omega) (by omega)]
                  exact hno j hj hPj
                · intro r' hr'
                  rw [ct_add hPk hk] at hr'
                  by_cases z : r' = ct P (nM n ord d)
                  · subst z
                    simp only [if_true]
                    refine ⟨hk, addP_h _ _, ?_, ?_⟩
                    · rw [u2_ne (by omega), u2_eq]
                    · have e1 : u2 (u2 I' 76 (pl (atm n ord d k)) (nI (ct P (nM n ord d)))) 8 7 (nI (ct P (nM n ord d) + 1)) (10 + ct P (nM n ord d)) = I' (10 + ct P (nM n ord d)) := by
                        unfold u2; rw [if_neg (by omega), if_neg (by omega)]
                      rw [e1]
                      unfold addE; rw [if_pos rfl]; exact hs
                  · simp only [if_neg z]
                    have hr2 : r' < ct P (nM n ord d) := by omega
                    obtain ⟨z1, z2, z3, z4⟩ := hd1 r' hr2
                    have hne2 : hdr r' ≠ k := fun z => by rw [z, hPk] at z2; exact absurd z2 (by decide)
                    refine ⟨z1, by rw [addP_ne hne2]; exact z2, ?_, ?_⟩
                    · rw [u2_ne (by omega), u2_ne (fun z => hne2 (plInj hd z1 hk z.2)), hfr 76 (by omega) (by omega)]; exact z3
                    · have e1 : u2 (u2 I' 76 (pl (atm n ord d k)) (nI (ct P (nM n ord d)))) 8 7 (nI (ct P (nM n ord d) + 1)) (10 + r') = I' (10 + r') := by
                        unfold u2; rw [if_neg (by omega), if_neg (by omega)]
                      rw [e1]
                      have := hr r' hr2
                      rw [if_pos hr2] at this
                      exact this
                · intro j hj hPj
                  rw [ct_add hPk hk]
                  by_cases z : j = k
                  · exact ⟨ct P (nM n ord d), by omega, by simp only [if_true]; exact z.symm⟩
                  · rw [addP_ne z] at hPj
                    obtain ⟨r', y1, y2⟩ := hd2 j hj hPj
                    exact ⟨r', by omega, by simp only [if_neg (show ¬ r' = ct P (nM n ord d) by omega)]; exact y2⟩
                · intro c hc hc2
                  unfold u2
                  rw [if_neg (by omega), if_neg (by omega)]
                  exact hfr c hc (by omega)
              | succ r ih =>
                intro i I' hi hfr hs hr
                have hi2 : i < ct P (nM n ord d) := by omega
                show B_Ro_add_165 (L_Ro_add_165 post (r + 1)) post 8 _ _ (nI _) _
                have hri := hr i hi2
                rw [if_neg (Nat.lt_irrefl i)] at hri
                have e1 := hri k hk
                unfold B_Ro_add_165
                simp (disch := omega) only [isK_wI, isA_wI, gR_wI, gI_wI, sI_wI, true_and, and_true, Option.some.injEq, exists_eq_left', forall_const, lit_nI, nI_add, pk_mul, pk_sub, pk_div, rem_n, nI_clamp, nI_leI, nI_ltI, nI_eq, in_nI, k8, r2, hfr 8 (by omega) (by omega), h7, isA_T a9, (aR i (by omega)).1, isA_T (aR i (by omega)).2, e1]
                refine ⟨fun q => absurd q (by omega), fun _ => ?_⟩
                refine sp_subtract hM ⟨⟨by rw [hfr 8 (by omega) (by omega)]; exact l5, by rw [hfr 8 (by omega) (by omega)]; exact l6⟩, fun j hj => by rw [hfr 77 (by omega) (by omega)]; exact l7 j hj⟩ hp97 hd hN (aR i (by omega)).2 (fun j hj => pl66 hd hj) (by omega) aS (fun j hj => pl66 hd hj) (by omega) ⟨by omega, by omega, by omega⟩ hri hs (fun g2 hg2 => ?_)
                refine ih (i + 1) _ (by omega) ?_ ?_ ?_
                · intro c hc hc2
                  rw [sAll_ne (by omega)]; exact hfr c hc hc2
                · rw [sAll_ne (by omega)]; exact hs
                · intro r' hr'
                  by_cases z : r' = i
                  · subst z
                    rw [sAll_eq, if_pos (by omega)]
                    have hne2 : hdr r' ≠ k := fun z => by
                      have := (hd1 r' hr').2.1
                      rw [z, hPk] at this; exact absurd this (by decide)
                    unfold addE; rw [if_neg hne2]; exact hg2
                  · rw [sAll_ne (by omega)]
                    have := hr r' hr'
                    by_cases u : r' < i
                    · rw [if_pos u] at this; rw [if_pos (by omega)]; exact this
                    · rw [if_neg u] at this; rw [if_neg (by omega)]; exact this
            refine ⟨_, key3 (ct P (nM n ord d)) 0 _ (by omega) ?_ ?_ ?_⟩
            · intro c hc hc2; rw [sAll_ne (by omega), sAll_ne hc]
            · rw [sAll_eq]; exact hf'
            · intro r' hr'
              rw [if_neg (by omega), sAll_ne (by omega), sAll_ne (by omega)]; exact (hd1 r' hr').2.2.2
          | succ r ih =>
            intro i g hi hg
            have hi2 : i < nM n ord d := by omega
            have q5 := hla i hi2
            have q6 := pl66 (ord := ord) hd hi2
            have e2 := hf i hi2
            show B_Ro_add_121 (L_Ro_add_121 post (r + 1)) post 8 a _ _ _ (nI _) _
            unfold B_Ro_add_121
            simp (disch := omega) only [isK_wI, isA_wI, gR_wI, gI_wI, sI_wI, true_and, and_true, Option.some.injEq, exists_eq_left', forall_const, lit_nI, nI_add, pk_mul, pk_sub, pk_div, rem_n, nI_clamp, nI_leI, nI_ltI, nI_eq, in_nI, k8, r4, sAll_ne (show 8 ≠ 10 + ct P (nM n ord d) by omega), sAll_ne (show 8 ≠ a by omega), sAll_ne (show 77 ≠ 10 + ct P (nM n ord d) by omega), sAll_ne (show 77 ≠ a by omega), sAll_ne (show a ≠ 10 + ct P (nM n ord d) by omega), sAll_eq, l5, l6, l7 i hi2, isA_T a77, isA_T ha, isA_T aS, e2, ar_mul2 hp97, u2_sAll]
            refine ⟨fun q => absurd q (by omega), fun _ => ⟨hp0, ?_⟩⟩
            refine ih (i + 1) _ (by omega) (fun j hj => ?_)
            by_cases z : j = i
            · subst z; rw [upd_eq]
            · rw [upd_ne (fun z2 => z (plInj hd (by omega) hi2 z2))]; exact hg j (by omega)
        have := key2 (nM n ord d) 0 (sAll I a f (10 + ct P (nM n ord d))) (by omega) (fun j hj => absurd hj (by omega))
        rw [sAll_self] at this
        exact ⟨_, this⟩
    | succ r ih =>
      intro i f x hi hf hx
      have hi2 : i < nM n ord d := by omega
      have q1 := hla i hi2
      have q3 := pl66 (ord := ord) hd hi2
      have e2 := hf i hi2
      show B_Ro_add_4 (L_Ro_add_4 post (r + 1)) post 8 a x (nI i) _
      unfold B_Ro_add_4 B_Ro_add_61 B_Ro_add_75
      simp (disch := omega) only [isK_wI, isA_wI, gR_wI, gI_wI, sI_wI, true_and, and_true, Option.some.injEq, exists_eq_left', forall_const, lit_nI, nI_add, pk_mul, pk_sub, pk_div, rem_n, nI_clamp, nI_leI, nI_ltI, nI_eq, in_nI, k8, r2, r3, r4, sAll_ne (show 8 ≠ a by omega), sAll_ne (show 77 ≠ a by omega), sAll_ne (show 76 ≠ a by omega), sAll_eq, l5, l7 i hi2, isA_T a77, isA_T a76, isA_T ha, e2, vz hp97]
      refine ⟨fun q => absurd q (by omega), fun _ => ⟨fun q => ⟨fun _ => ?_, fun q2 => absurd q q2⟩, fun q => ⟨fun q2 => ⟨fun q3 => absurd q3 q, fun _ => ?_⟩, fun q2 => ?_⟩⟩⟩
      · -- nothing there
        have er : red P e v (i + 1) = red P e v i := by
          funext j
          show (if P i = true then _ else _) = _
          split
          · rw [q]; grind
          · rfl
        refine ih (i + 1) f x (by omega) (by rw [er]; exact hf) ?_
        rw [er]
        rcases hx with ⟨rfl, hx⟩ | ⟨k, hk, rfl, hne, hx⟩
        · refine Or.inl ⟨rfl, fun j hj => ?_⟩
          by_cases z : j = i
          · rw [z]; exact q
          · exact hx j (by omega)
        · exact Or.inr ⟨k, by omega, rfl, hne, hx⟩
      · have hPi : P i = false := by
          cases z : P i
          · rfl
          · obtain ⟨r', y1, y2⟩ := hd2 i hi2 z
            have := (hd1 r' y1).2.2.1
            rw [y2] at this
            rw [this, nI_ltI (by omega) (by omega)] at q2; omega
        have er : red P e v (i + 1) = red P e v i := by
          funext j
          show (if P i = true then _ else _) = _
          rw [hPi]; rfl
        refine ⟨fun q4 => ?_, fun q4 => ?_⟩
        · refine ih (i + 1) f x (by omega) (by rw [er]; exact hf) ?_
          rw [er]
          rcases hx with ⟨rfl, hx⟩ | ⟨k, hk, rfl, hne, hx⟩
          · exact absurd q4 (by decide)
          · exact Or.inr ⟨k, by omega, rfl, hne, hx⟩
        · refine ih (i + 1) f _ (by omega) (by rw [er]; exact hf) ?_
          rw [er]
          rcases hx with ⟨rfl, hx⟩ | ⟨k, hk, rfl, hne, hx⟩
          · exact Or.inr ⟨i, by omega, rfl, q, hx⟩
          · exact absurd (nI_ge0 (by have := pl66 (ord := ord) hd (show k < nM n ord d by omega); omega)) q4
      · have hPi : P i = true := by
          cases z : P i
          · have := hno i hi2 z
            rw [this] at q2
            exact absurd (by decide) q2
          · rfl
        obtain ⟨r', y1, y2⟩ := hd2 i hi2 hPi
        obtain ⟨z1, z2, z3, z4⟩ := hd1 r' y1
        rw [y2] at z3 z4
        rw [z3]
        simp (disch := omega) only [isK_wI, isA_wI, gR_wI, gI_wI, sI_wI, true_and, and_true, Option.some.injEq, exists_eq_left', forall_const, lit_nI, nI_add, pk_mul, pk_sub, pk_div, rem_n, nI_clamp, nI_leI, nI_ltI, nI_eq, in_nI, isA_T a9, (aR r' (by omega)).1]
        refine sp_subtract hM ⟨⟨by rw [sAll_ne (by omega)]; exact l5, by rw [sAll_ne (by omega)]; exact l6⟩, fun j hj => by rw [sAll_ne (by omega)]; exact l7 j hj⟩ hp97 hd hN ha hla hla2 (aR r' (by omega)).2 (fun j hj => pl66 hd hj) (by omega) ⟨by omega, by omega, by omega⟩ (by rw [sAll_eq]; exact hf) (by rw [sAll_ne (by omega)]; exact z4) (fun g2 hg2 => ?_)
        rw [sAll_sAll]
        have er : red P e v (i + 1) = fun j => red P e v i j - red P e v i i * e i j := by
          funext j
          show (if P i = true then _ else _) = _
          rw [if_pos hPi]
        have hlo : ∀ j, j < i → red P e v (i + 1) j = red P e v i j := fun j hj => by
          rw [er]; simp only [(hE.fam i hPi).2 j hj]; grind
        refine ih (i + 1) g2 x (by omega) (by rw [er]; exact hg2) ?_
        rcases hx with ⟨rfl, hx⟩ | ⟨k, hk, rfl, hne, hx⟩
        · refine Or.inl ⟨rfl, fun j hj => ?_⟩
          by_cases z : j = i
          · subst z; rw [er]; simp only [(hE.fam j hPi).1]; grind
          · rw [hlo j (by omega)]; exact hx j (by omega)
        · exact Or.inr ⟨k, by omega, rfl, by rw [hlo k hk]; exact hne, fun j hj => by rw [hlo j (by omega)]; exact hx j hj⟩
  have := key (nM n ord d) 0 (I a) (-1) (by omega) hv (Or.inl ⟨rfl, fun j hj => absurd hj (by omega)⟩)
  rw [sAll_self] at this
  exact ⟨_, this⟩
theorem sp_Rosize [NeZero p] {W : (Nat → Fin p) → Prop} {P : Nat → Bool} {e : Nat → Nat → Fin p} {post : Int32 → Mem → Prop} (hM : RoOK M) (hSt : RoSt n ord d W P e I) (h : post (nI (ct P (nM n ord d))) (wI M I)) : T_Ro_size 8 (wI M I) post := ⟨hM.1.1, by rw [gI_wI, hSt.2.2.1]; exact h⟩
theorem sp_hasHead [NeZero p] {W : (Nat → Fin p) → Prop} {P : Nat → Bool} {e : Nat → Nat → Fin p} {i : Nat} {post : Int32 → Mem → Prop} (hM : RoOK M) (hd : d ≤ 10) (hN : nM n ord d ≤ 66) (hSt : RoSt n ord d W P e I) (hi : i < nM n ord d) (h : post (if P i = true then 1 else 0) (wI M I)) : T_Ro_hasHead 8 (nI (pl (atm n ord d i))) (wI M I) post := by
  obtain ⟨⟨k8, r0, r1, r2, r3, r4⟩, a9, aR, a76, a77⟩ := hM
  obtain ⟨hL, ⟨hW, hR, hE, hRr⟩, h7, hno, hdr, hd1, hd2⟩ := hSt
  have q3 := pl66 (ord := ord) hd hi
  have hsN := ct_le P (nM n ord d)
  unfold T_Ro_hasHead B_Ro_hasHead_14
  simp (disch := omega) only [isK_wI, isA_wI, gR_wI, gI_wI, sI_wI, true_and, and_true, Option.some.injEq, exists_eq_left', forall_const, lit_nI, nI_add, pk_mul, pk_sub, pk_div, rem_n, nI_clamp, nI_leI, nI_ltI, nI_eq, in_nI, k8, r3, isA_T a76]
  cases z : P i
  · rw [z] at h
    rw [hno i hi z]
    exact ⟨fun _ => ⟨rfl, h⟩, fun q => absurd (by decide) q⟩
  · rw [z] at h
    obtain ⟨r', y1, y2⟩ := hd2 i hi z
    obtain ⟨z1, z2, z3, z4⟩ := hd1 r' y1
    rw [y2] at z3
    rw [z3]
    refine ⟨fun q => ?_, fun _ => ⟨rfl, h⟩⟩
    rw [nI_ltI (by omega) (by omega)] at q; omega
theorem sp_RonumberAt [NeZero p] {W : (Nat → Fin p) → Prop} {P : Nat → Bool} {e : Nat → Nat → Fin p} {i j : Nat} {post : Int32 → Mem → Prop} (hM : RoOK M) (hd : d ≤ 10) (hN : nM n ord d ≤ 66) (hSt : RoSt n ord d W P e I) (hi : i < nM n ord d) (hPi : P i = true) (hj : j < nM n ord d) (h : post (nI (e i j).val) (wI M I)) : T_Ro_numberAt 8 (nI (pl (atm n ord d i))) (nI (pl (atm n ord d j))) (wI M I) post := by
  obtain ⟨⟨k8, r0, r1, r2, r3, r4⟩, a9, aR, a76, a77⟩ := hM
  obtain ⟨hL, ⟨hW, hR, hE, hRr⟩, h7, hno, hdr, hd1, hd2⟩ := hSt
  have q3 := pl66 (ord := ord) hd hi
  have q4 := pl66 (ord := ord) hd hj
  have hsN := ct_le P (nM n ord d)
  obtain ⟨r', y1, y2⟩ := hd2 i hi hPi
  obtain ⟨z1, z2, z3, z4⟩ := hd1 r' y1
  rw [y2] at z3 z4
  have e1 := z4 j hj
  unfold T_Ro_numberAt B_Ro_numberAt_26
  simp (disch := omega) only [isK_wI, isA_wI, gR_wI, gI_wI, sI_wI, true_and, and_true, Option.some.injEq, exists_eq_left', forall_const, lit_nI, nI_add, pk_mul, pk_sub, pk_div, rem_n, nI_clamp, nI_leI, nI_ltI, nI_eq, in_nI, k8, r2, r3, isA_T a76, isA_T a9, z3, (aR r' (by omega)).1, isA_T (aR r' (by omega)).2, e1]
  exact ⟨fun _ => h, fun q => absurd (Nat.zero_le _) q⟩
end RO2
