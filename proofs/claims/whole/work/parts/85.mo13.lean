/-! the reference: rest, in -/
theorem WfA_D {p : Nat} [NeZero p] {n ord : Nat} {D D' : Nat → Mo2 → Fin p} {H O : Hp p} {C : Nat → Nat → Mo2 → Fin p} (hW : WfA n ord D H O C) (hD : ∀ d, d ≤ 10 → hom n d (D' d)) : WfA n ord D' H O C := ⟨hW.1, hD, hW.2.2⟩
theorem psm_mem {n ord d : Nat} {q : Mo2} (h : psm n ord d q < nM n ord d) : okm n d q := mem_mons.mp (List.idxOf_lt_length_iff.mp h)
/-- a part put in place, up to a position -/
def ptP {p : Nat} [NeZero p] (n ord d : Nat) (D : Nat → Mo2 → Fin p) (u : Nat → Fin p) (k : Nat) : Nat → Mo2 → Fin p := fun e q => if e = d ∧ psm n ord d q < k then u (psm n ord d q) else D e q
theorem ptP_hom {p : Nat} [NeZero p] {n ord d : Nat} {D : Nat → Mo2 → Fin p} {u : Nat → Fin p} {k : Nat} (hk : k ≤ nM n ord d) (hD : ∀ d, d ≤ 10 → hom n d (D d)) : ∀ e, e ≤ 10 → hom n e (ptP n ord d D u k e) := by
  intro e he q hq
  unfold ptP at hq
  by_cases z : e = d ∧ psm n ord d q < k
  · rw [z.1]; exact psm_mem (ord := ord) (by omega)
  · rw [if_neg z] at hq; exact hD e he q hq
theorem ptP_vec {p : Nat} [NeZero p] {n ord d : Nat} {D : Nat → Mo2 → Fin p} {u : Nat → Fin p} (hu : ∀ i, nM n ord d ≤ i → u i = 0) : vec n ord d (ptP n ord d D u (nM n ord d) d) = u := by
  funext i
  unfold vec
  by_cases q : i < nM n ord d
  · rw [if_pos q]
    unfold ptP
    rw [psm_atm q, if_pos ⟨rfl, q⟩]
  · rw [if_neg q, hu i (by omega)]
theorem ptP_ne {p : Nat} [NeZero p] {n ord d e k : Nat} {D : Nat → Mo2 → Fin p} {u : Nat → Fin p} (h : e ≠ d) : ptP n ord d D u k e = D e := by
  funext q; unfold ptP; rw [if_neg (fun z => h z.1)]
section MO13
variable {M : Mem} {I : Nat → Nat → Int32} {n ord p d : Nat}
theorem En_red [NeZero p] {W : (Nat → Fin p) → Prop} {P : Nat → Bool} {e : Nat → Nat → Fin p} {v : Nat → Fin p} (hE : EnSt n ord d W P e I) (hvr : ∀ i, nM n ord d ≤ i → v i = 0) : W (fun j => v j - red P e v (nM n ord d) j) ∧ (∀ i, nM n ord d ≤ i → red P e v (nM n ord d) i = 0) ∧ ∀ i, P i = true → red P e v (nM n ord d) i = 0 := by
  obtain ⟨_, ⟨hW, hR, hEc, hRr⟩, _⟩ := hE
  have hin : W (fun j => v j - red P e v (nM n ord d) j) := red_in (N := nM n ord d) hW hEc.inV _
  refine ⟨hin, fun i hi => ?_, fun i hi => red_zero (P := P) hEc.fam (v := v) (nM n ord d) i (hEc.1 i hi).1 hi⟩
  have := hR _ hin i hi
  simp only [hvr i hi] at this
  grind
theorem sp_rest48 [NeZero p] {W : (Nat → Fin p) → Prop} {P : Nat → Bool} {e : Nat → Nat → Fin p} {v : Nat → Fin p} {k2 : Nat → Int32 → Mem → Prop} {post : Int32 → Mem → Prop} {x : Int32} (hM : MdOK M) (hI2 : I 199 2 = nI p) (hp : prm p = true) (hN : nM n ord d ≤ 66) (hE : EnSt n ord d W P e I) (hv : ∀ j, j < nM n ord d → I 204 j = nI (v j).val) (h : ∀ g, (∀ j, j < nM n ord d → g j = nI (red P e v (nM n ord d) j).val) → ∃ N, L_Mo_rest_93 k2 post N 199 x 0 (wI M (sAll I 204 g))) : ∃ N, L_Mo_rest_48 k2 post N 199 x 0 (wI M I) := by
  have hM' := hM
  obtain ⟨k4, r0, r6, r7, r9, r10, r11, r13, r14, r15, r17, a5, a6, a7, a8, a9, a10, a11, a12, a13, a14⟩ := hM'
  obtain ⟨hT, ⟨hW, hR, hEc, hRr⟩, h12, hpv, hcl⟩ := hE
  have h8 := hT.1
  have hp2 := prm_lt hp
  have hp97 := hp2.2
  have := pk_loop (σ := Nat → Int32) (fun K i g => L_Mo_rest_48 k2 post K 199 x (nI i) (wI M (sAll I 204 g))) (fun i g => ∀ j, j < nM n ord d → g j = nI (red P e v i j).val) (nM n ord d) 0 (I 204) (by omega) hv ?_ ?_
  · simp only [sAll_self] at this
    exact this
  · intro K g hg
    show B_Mo_rest_48 k2 (L_Mo_rest_48 k2 post K) post 199 _ _ _
    unfold B_Mo_rest_48
    rw [gI_wI, sAll_ne (by omega), h8]
    exact ⟨k4, fun _ => h g hg, fun q => absurd (Int32.le_refl _) q⟩
  · intro K i g hi hg ih
    have hgi := hg i hi
    have hpi := hpv i hi
    have keep : (P i = true → red P e v i i = 0) → L_Mo_rest_48 k2 post K 199 x (nI (i + 1)) (wI M (sAll I 204 g)) := by
      intro hzz
      refine ih g (fun j hj => ?_)
      rw [hg j hj]
      show _ = nI (if P i = true then red P e v i j - red P e v i i * e i j else red P e v i j).val
      by_cases q : P i = true
      · rw [if_pos q, hzz q]; congr 2; grind
      · rw [if_neg q]
    show B_Mo_rest_48 k2 (L_Mo_rest_48 k2 post K) post 199 _ _ _
    unfold B_Mo_rest_48 B_Mo_rest_85
    simp (disch := omega) only [isK_wI, isA_wI, gR_wI, gI_wI, sI_wI, true_and, and_true, Option.some.injEq, exists_eq_left', forall_const, not_true_eq_false, not_false_eq_true, false_implies, true_implies, ne_eq, lit_nI, nI_add, pk_mul, pk_sub, pk_div, rem_n, nI_clamp, nI_leI, nI_ltI, nI_eq, in_nI, k4, r10, r11, isA_T a9, isA_T a10, sAll_ne (show (199 : Nat) ≠ 204 by omega), sAll_ne (show (205 : Nat) ≠ 204 by omega), sAll_eq, h8, hgi, hpi, vz hp97]
    refine ⟨fun q => absurd q (by omega), fun _ => ⟨fun q => keep (fun z => ?_), fun q => ⟨fun q2 => keep (fun _ => q2), fun q2 => ?_⟩⟩⟩
    · rw [if_pos z] at q; exact absurd q (by decide)
    · have hPi : P i = true := by
        cases z : P i
        · rw [z] at q; exact absurd rfl q
        · rfl
      refine sp_Moless (v := red P e v i) (w := e i) hM (by rw [sAll_ne (by omega)]; exact hI2) hp2 (by rw [sAll_ne (by omega)]; exact h8) hN (by omega) (fun j hj => by rw [sAll_ne (by omega)]; exact hcl i hi hPi j hj) (fun j hj => by rw [sAll_eq]; exact hg j hj) (fun g2 hg2 => ?_)
      rw [sAll_sAll]
      refine ih g2 (fun j hj => ?_)
      rw [hg2 j hj]
      show _ = nI (if P i = true then red P e v i j - red P e v i i * e i j else red P e v i j).val
      rw [if_pos hPi]
theorem sp_in048 [NeZero p] {W : (Nat → Fin p) → Prop} {P : Nat → Bool} {e : Nat → Nat → Fin p} {v : Nat → Fin p} {k2 : Nat → Int32 → Mem → Prop} {post : Int32 → Mem → Prop} {x : Int32} (hM : MdOK M) (hI2 : I 199 2 = nI p) (hp : prm p = true) (hN : nM n ord d ≤ 66) (hE : EnSt n ord d W P e I) (hv : ∀ j, j < nM n ord d → I 204 j = nI (v j).val) (h : ∀ g, (∀ j, j < nM n ord d → g j = nI (red P e v (nM n ord d) j).val) → ∃ N, L_Mo_in0_93 k2 post N 199 x 0 (wI M (sAll I 204 g))) : ∃ N, L_Mo_in0_48 k2 post N 199 x 0 (wI M I) := by
  have hM' := hM
  obtain ⟨k4, r0, r6, r7, r9, r10, r11, r13, r14, r15, r17, a5, a6, a7, a8, a9, a10, a11, a12, a13, a14⟩ := hM'
  obtain ⟨hT, ⟨hW, hR, hEc, hRr⟩, h12, hpv, hcl⟩ := hE
  have h8 := hT.1
  have hp2 := prm_lt hp
  have hp97 := hp2.2
  have := pk_loop (σ := Nat → Int32) (fun K i g => L_Mo_in0_48 k2 post K 199 x (nI i) (wI M (sAll I 204 g))) (fun i g => ∀ j, j < nM n ord d → g j = nI (red P e v i j).val) (nM n ord d) 0 (I 204) (by omega) hv ?_ ?_
  · simp only [sAll_self] at this
    exact this
  · intro K g hg
    show B_Mo_in0_48 k2 (L_Mo_in0_48 k2 post K) post 199 _ _ _
    unfold B_Mo_in0_48
    rw [gI_wI, sAll_ne (by omega), h8]
    exact ⟨k4, fun _ => h g hg, fun q => absurd (Int32.le_refl _) q⟩
  · intro K i g hi hg ih
    have hgi := hg i hi
    have hpi := hpv i hi
    have keep : (P i = true → red P e v i i = 0) → L_Mo_in0_48 k2 post K 199 x (nI (i + 1)) (wI M (sAll I 204 g)) := by
      intro hzz
      refine ih g (fun j hj => ?_)
      rw [hg j hj]
      show _ = nI (if P i = true then red P e v i j - red P e v i i * e i j else red P e v i j).val
      by_cases q : P i = true
      · rw [if_pos q, hzz q]; congr 2; grind
      · rw [if_neg q]
    show B_Mo_in0_48 k2 (L_Mo_in0_48 k2 post K) post 199 _ _ _
    unfold B_Mo_in0_48 B_Mo_in0_85
    simp (disch := omega) only [isK_wI, isA_wI, gR_wI, gI_wI, sI_wI, true_and, and_true, Option.some.injEq, exists_eq_left', forall_const, not_true_eq_false, not_false_eq_true, false_implies, true_implies, ne_eq, lit_nI, nI_add, pk_mul, pk_sub, pk_div, rem_n, nI_clamp, nI_leI, nI_ltI, nI_eq, in_nI, k4, r10, r11, isA_T a9, isA_T a10, sAll_ne (show (199 : Nat) ≠ 204 by omega), sAll_ne (show (205 : Nat) ≠ 204 by omega), sAll_eq, h8, hgi, hpi, vz hp97]
    refine ⟨fun q => absurd q (by omega), fun _ => ⟨fun q => keep (fun z => ?_), fun q => ⟨fun q2 => keep (fun _ => q2), fun q2 => ?_⟩⟩⟩
    · rw [if_pos z] at q; exact absurd q (by decide)
    · have hPi : P i = true := by
        cases z : P i
        · rw [z] at q; exact absurd rfl q
        · rfl
      refine sp_Moless (v := red P e v i) (w := e i) hM (by rw [sAll_ne (by omega)]; exact hI2) hp2 (by rw [sAll_ne (by omega)]; exact h8) hN (by omega) (fun j hj => by rw [sAll_ne (by omega)]; exact hcl i hi hPi j hj) (fun j hj => by rw [sAll_eq]; exact hg j hj) (fun g2 hg2 => ?_)
      rw [sAll_sAll]
      refine ih g2 (fun j hj => ?_)
      rw [hg2 j hj]
      show _ = nI (if P i = true then red P e v i j - red P e v i i * e i j else red P e v i j).val
      rw [if_pos hPi]
theorem sp_quo148 [NeZero p] {W : (Nat → Fin p) → Prop} {P : Nat → Bool} {e : Nat → Nat → Fin p} {v : Nat → Fin p} {k2 : Nat → Int32 → Int32 → Int32 → Mem → Prop} {post : Int32 → Mem → Prop} {x y : Int32} (hM : MdOK M) (hI2 : I 199 2 = nI p) (hp : prm p = true) (hN : nM n ord d ≤ 66) (hE : EnSt n ord d W P e I) (hv : ∀ j, j < nM n ord d → I 204 j = nI (v j).val) (h : ∀ g, (∀ j, j < nM n ord d → g j = nI (red P e v (nM n ord d) j).val) → ∃ N, L_Mo_quotientOf_197 k2 post N 199 x (nI (nM n ord d)) y 0 (wI M (sAll I 204 g))) : ∃ N, L_Mo_quotientOf_148 k2 post N 199 x (nI (nM n ord d)) y 0 (wI M I) := by
  have hM' := hM
  obtain ⟨k4, r0, r6, r7, r9, r10, r11, r13, r14, r15, r17, a5, a6, a7, a8, a9, a10, a11, a12, a13, a14⟩ := hM'
  obtain ⟨hT, ⟨hW, hR, hEc, hRr⟩, h12, hpv, hcl⟩ := hE
  have h8 := hT.1
  have hp2 := prm_lt hp
  have hp97 := hp2.2
  have := pk_loop (σ := Nat → Int32) (fun K i g => L_Mo_quotientOf_148 k2 post K 199 x (nI (nM n ord d)) y (nI i) (wI M (sAll I 204 g))) (fun i g => ∀ j, j < nM n ord d → g j = nI (red P e v i j).val) (nM n ord d) 0 (I 204) (by omega) hv ?_ ?_
  · simp only [sAll_self] at this
    exact this
  · intro K g hg
    show B_Mo_quotientOf_148 k2 (L_Mo_quotientOf_148 k2 post K) post 199 _ _ _ _ _
    unfold B_Mo_quotientOf_148
    exact ⟨fun _ => h g hg, fun q => absurd (Int32.le_refl _) q⟩
  · intro K i g hi hg ih
    have hgi := hg i hi
    have hpi := hpv i hi
    have keep : (P i = true → red P e v i i = 0) → L_Mo_quotientOf_148 k2 post K 199 x (nI (nM n ord d)) y (nI (i + 1)) (wI M (sAll I 204 g)) := by
      intro hzz
      refine ih g (fun j hj => ?_)
      rw [hg j hj]
      show _ = nI (if P i = true then red P e v i j - red P e v i i * e i j else red P e v i j).val
      by_cases q : P i = true
      · rw [if_pos q, hzz q]; congr 2; grind
      · rw [if_neg q]
    show B_Mo_quotientOf_148 k2 (L_Mo_quotientOf_148 k2 post K) post 199 _ _ _ _ _
    unfold B_Mo_quotientOf_148 B_Mo_quotientOf_188
    simp (disch := omega) only [isK_wI, isA_wI, gR_wI, gI_wI, sI_wI, true_and, and_true, Option.some.injEq, exists_eq_left', forall_const, not_true_eq_false, not_false_eq_true, false_implies, true_implies, ne_eq, lit_nI, nI_add, pk_mul, pk_sub, pk_div, rem_n, nI_clamp, nI_leI, nI_ltI, nI_eq, in_nI, k4, r10, r11, isA_T a9, isA_T a10, sAll_ne (show (199 : Nat) ≠ 204 by omega), sAll_ne (show (205 : Nat) ≠ 204 by omega), sAll_eq, h8, hgi, hpi, vz hp97]
    refine ⟨fun q => absurd q (by omega), fun _ => ⟨fun q => keep (fun z => ?_), fun q => ⟨fun q2 => keep (fun _ => q2), fun q2 => ?_⟩⟩⟩
    · rw [if_pos z] at q; exact absurd q (by decide)
    · have hPi : P i = true := by
        cases z : P i
        · rw [z] at q; exact absurd rfl q
        · rfl
      refine sp_Moless (v := red P e v i) (w := e i) hM (by rw [sAll_ne (by omega)]; exact hI2) hp2 (by rw [sAll_ne (by omega)]; exact h8) hN (by omega) (fun j hj => by rw [sAll_ne (by omega)]; exact hcl i hi hPi j hj) (fun j hj => by rw [sAll_eq]; exact hg j hj) (fun g2 hg2 => ?_)
      rw [sAll_sAll]
      refine ih g2 (fun j hj => ?_)
      rw [hg2 j hj]
      show _ = nI (if P i = true then red P e v i j - red P e v i i * e i j else red P e v i j).val
      rw [if_pos hPi]
theorem mo_rest [NeZero p] {D : Nat → Mo2 → Fin p} {H O : Hp p} {C : Nat → Nat → Mo2 → Fin p} {post : Int32 → Mem → Prop} (hM : MdOK M) (hW : WfA n ord D H O C) (hS : MSt n ord D H O C I) (h : ∀ D' I', (∀ d, d ≤ 10 → hom n d (D' d) ∧ isRest n ord (Gh H) d (vec n ord d (D d)) (vec n ord d (D' d))) → MSt n ord D' H O C I' → FM I I' → post (nI (szP D')) (wI M I')) : T_Mo_rest 199 (wI M I) post := by
  have hk := hM.1
  have hM' := hM
  obtain ⟨k4, r0, r6, r7, r9, r10, r11, r13, r14, r15, r17, a5, a6, a7, a8, a9, a10, a11, a12, a13, a14⟩ := hM'
  have hp := prm_lt hW.1.2.2
  have hF := prm_field hW.1.2.2
  have hH := hW.2.2.1.1
  have hO := hW.2.2.2.1.1
  refine pk_loop (σ := (Nat → Nat → Int32) × (Nat → Mo2 → Fin p)) (fun N d s => L_Mo_rest_2 post N 199 (nI d) (wI M s.1)) (fun d s => FM I s.1 ∧ MSt n ord s.2 H O C s.1 ∧ (∀ e, e ≤ 10 → hom n e (s.2 e)) ∧ (∀ e, e < d → isRest n ord (Gh H) e (vec n ord e (D e)) (vec n ord e (s.2 e))) ∧ ∀ e, d ≤ e → s.2 e = D e) 11 0 (I, D) (by omega) ⟨fun _ _ => rfl, hS, hW.2.1, fun e he => absurd he (Nat.not_lt_zero e), fun _ _ => rfl⟩ ?_ ?_
  · intro N ⟨K, E⟩ ⟨k1, k2, k3, k4', k5⟩
    show B_Mo_rest_2 (L_Mo_rest_2 post N) post 199 _ (wI M K)
    exact ⟨fun _ => ⟨hk, sp_Moproducts (k := 0) hM (by omega) hp.2 k2.2.1 (h E K (fun d hd => ⟨k3 d hd, k4' d (by omega)⟩) k2 k1)⟩, fun q => absurd (by decide) q⟩
  · intro N d ⟨K, E⟩ hd ⟨k1, k2, k3, k4', k5⟩ ih
    have k1 : FM I K := k1
    have k2 : MSt n ord E H O C K := k2
    have k3 : ∀ e, e ≤ 10 → hom n e (E e) := k3
    have hWE := WfA_D hW k3
    have hN := hW.n66 (show d ≤ 10 by omega)
    show B_Mo_rest_2 (L_Mo_rest_2 post N) post 199 _ (wI M K)
    unfold B_Mo_rest_2
    refine ⟨fun q => ?_, fun _ => ⟨hk, sp_Moheap hM hWE k2 (by omega) (fun J hEs hJ => ?_)⟩⟩
    · rw [show (10 : Int32) = nI 10 from rfl, nI_ltI (by omega) (by omega)] at q; omega
    obtain ⟨e, hE⟩ := hEs.st hF.1
    rw [← VV_spn] at hE
    have hSJ := MSt_en hWE hJ k2
    have h8 := hE.1.1
    have hli := hE.1.2.1
    have hvD : ∀ i, nM n ord d ≤ i → vec n ord d (E d) i = 0 := fun i hi => by unfold vec; rw [if_neg (by omega)]
    -- the part comes
    have := pk_loop (σ := Nat → Int32) (fun N' i g => L_Mo_rest_15 (L_Mo_rest_2 post N) post N' 199 (nI d) (nI i) (wI M (sAll J 204 g))) (fun i g => ∀ j, j < i → g j = nI (vec n ord d (E d) j).val) (nM n ord d) 0 (J 204) (by omega) (fun j hj => absurd hj (Nat.not_lt_zero j)) ?_ ?_
    · simp only [sAll_self] at this
      exact this
    · intro N' g hg
      show B_Mo_rest_15 _ (L_Mo_rest_15 _ post N') post 199 _ _ _
      unfold B_Mo_rest_15
      rw [gI_wI, sAll_ne (by omega), h8]
      refine ⟨k4, fun _ => ?_, fun q => absurd (Int32.le_refl _) q⟩
      have hE2 : EnSt n ord d (VV n ord d (VP n (Gh H) d)) (leadB (VV n ord d (VP n (Gh H) d))) e (sAll J 204 g) := EnSt_kp (fun c hc => sAll_ne (by omega)) hE
      refine sp_rest48 (v := vec n ord d (E d)) hM (by rw [sAll_ne (by omega)]; exact hSJ.1.2.1) hW.1.2.2 hN hE2 (fun j hj => by rw [sAll_eq]; exact hg j hj) (fun g2 hg2 => ?_)
      rw [sAll_sAll]
      obtain ⟨x1, x2, x3⟩ := En_red hE2 hvD
      obtain ⟨u, hu⟩ : ∃ u, u = red (leadB (VV n ord d (VP n (Gh H) d))) e (vec n ord d (E d)) (nM n ord d) := ⟨_, rfl⟩
      rw [← hu] at x1 x2 x3 hg2
      -- and goes back
      have := pk_loop (σ := Nat → Int32) (fun N' i f => L_Mo_rest_93 (L_Mo_rest_2 post N) post N' 199 (nI d) (nI i) (wI M (sAll (sAll J 204 g2) 200 f))) (fun i f => MRep f 0 (ptP n ord d E u i) ∧ ∀ j, 1331 ≤ j → f j = J 200 j) (nM n ord d) 0 (J 200) (by omega) ⟨MRep_cong hSJ.2.1 (fun e' _ q _ => by unfold ptP; rw [if_neg (by omega)]), fun _ _ => rfl⟩ ?_ ?_
      · have e0 : sAll (sAll J 204 g2) 200 (J 200) = sAll J 204 g2 := by
          funext c; unfold sAll
          by_cases q : c = 200
          · rw [if_pos q, if_neg (by omega), q]
          · rw [if_neg q]
        simp only [e0] at this
        exact this
      · intro N2 f hf
        show B_Mo_rest_93 _ (L_Mo_rest_93 _ post N2) post 199 _ _ _
        unfold B_Mo_rest_93
        rw [gI_wI, sAll_ne (by omega), sAll_ne (by omega), h8, nI_1]
        refine ⟨k4, fun _ => ih (_, ptP n ord d E u (nM n ord d)) ⟨(k1.tr hJ.fm).tr ((FM_s (by omega)).tr (FM_s (by omega))), ?_, ptP_hom (Nat.le_refl _) k3, fun e' he' => ?_, fun e' he' => ?_⟩, fun q => absurd (Int32.le_refl _) q⟩
        · refine MSt_draft hH hO (fun k _ => ?_) ?_ (fun j h1 h2 => ?_) hSJ
          · show sAll (sAll J 204 g2) 200 f 199 k = _
            rw [sAll_ne (by omega), sAll_ne (by omega)]
          · show MRep (sAll (sAll J 204 g2) 200 f 200) 0 _
            rw [sAll_eq]; exact hf.1
          · show sAll (sAll J 204 g2) 200 f 200 j = _
            rw [sAll_eq]; exact hf.2 j h1
        · show isRest n ord (Gh H) e' (vec n ord e' (D e')) (vec n ord e' (ptP n ord d E u (nM n ord d) e'))
          by_cases q : e' = d
          · subst q
            rw [ptP_vec x2, ← k5 e' (Nat.le_refl _)]
            exact ⟨x1, x3⟩
          · rw [ptP_ne q]; exact k4' e' (by omega)
        · show ptP n ord d E u (nM n ord d) e' = D e'
          rw [ptP_ne (by omega)]; exact k5 e' (by omega)
      · intro N2 i f hi hf ih2
        have hok := atm_ok hi
        have hcd := cdm_ok (show d ≤ 10 by omega) hok.1
        show B_Mo_rest_93 _ (L_Mo_rest_93 _ post N2) post 199 _ _ _
        unfold B_Mo_rest_93
        have hgi := hg2 i hi
        have hlii := hli i hi
        simp (disch := omega) only [isK_wI, isA_wI, gR_wI, gI_wI, sI_wI, true_and, and_true, Option.some.injEq, exists_eq_left', forall_const, not_true_eq_false, not_false_eq_true, false_implies, true_implies, ne_eq, lit_nI, nI_add, pk_mul, pk_sub, pk_div, rem_n, nI_clamp, nI_leI, nI_ltI, nI_eq, in_nI, k4, r6, r10, isA_T a6, isA_T a9, sAll_ne (show (199 : Nat) ≠ 200 by omega), sAll_ne (show (199 : Nat) ≠ 204 by omega), sAll_ne (show (201 : Nat) ≠ 200 by omega), sAll_ne (show (201 : Nat) ≠ 204 by omega), sAll_ne (show (204 : Nat) ≠ 200 by omega), sAll_eq, h8, hgi, hlii]
        refine ⟨fun q => absurd q (by omega), fun _ => ?_⟩
        refine sp_Moput (k := 0) hM (by omega) hcd.1 ?_
        rw [u2_sAll]
        refine ih2 _ ⟨MRep_cong (MRep_upd hf.1 (by omega) hok.1 (u i)) (fun e' he' q hq => ?_), fun j hj => by rw [upd_ne (by omega)]; exact hf.2 j hj⟩
        unfold updF ptP
        by_cases z : e' = d ∧ q = atm n ord d i
        · rw [if_pos z, z.2, psm_atm hi, if_pos ⟨z.1, by omega⟩]
        · rw [if_neg z]
          by_cases y : e' = d ∧ psm n ord d q < i
          · rw [if_pos y, if_pos ⟨y.1, by omega⟩]
          · rw [if_neg y, if_neg]
            rintro ⟨y1, y2⟩
            apply z
            refine ⟨y1, ?_⟩
            have : psm n ord d q = i := by omega
            rw [← this, atm_psm (psm_mem (ord := ord) (by omega))]
    · intro N' i g hi hg ih2
      have hok := atm_ok hi
      have hcd := cdm_ok (show d ≤ 10 by omega) hok.1
      have hv : sAll J 204 g 200 (1331 * 0 + cdm d (atm n ord d i)) = nI (E d (atm n ord d i)).val := by
        rw [sAll_ne (by omega), hSJ.2.1 _ hcd.1, cf_at (by omega) hok.1]
      show B_Mo_rest_15 _ (L_Mo_rest_15 _ post N') post 199 _ _ _
      unfold B_Mo_rest_15
      have hlii := hli i hi
      simp (disch := omega) only [isK_wI, isA_wI, gR_wI, gI_wI, sI_wI, true_and, and_true, Option.some.injEq, exists_eq_left', forall_const, not_true_eq_false, not_false_eq_true, false_implies, true_implies, ne_eq, lit_nI, nI_add, pk_mul, pk_sub, pk_div, rem_n, nI_clamp, nI_leI, nI_ltI, nI_eq, in_nI, k4, r6, r10, isA_T a6, sAll_ne (show (199 : Nat) ≠ 204 by omega), sAll_ne (show (201 : Nat) ≠ 204 by omega), h8, hlii]
      refine ⟨fun q => absurd q (by omega), fun _ => sp_Moget (k := 0) hM (by omega) hcd.1 ⟨arr_A a9 (by omega) (by omega), ?_⟩⟩
      rw [hv, sI_wI, u2_sAll]
      refine ih2 _ (fun j hj => ?_)
      by_cases q : j = i
      · subst q
        rw [upd_eq]
        unfold vec; rw [if_pos hi]
      · rw [upd_ne q]; exact hg j (by omega)
theorem mo_in [NeZero p] {D : Nat → Mo2 → Fin p} {H O : Hp p} {C : Nat → Nat → Mo2 → Fin p} {post : Int32 → Mem → Prop} (hM : MdOK M) (hW : WfA n ord D H O C) (hS : MSt n ord D H O C I) (h1 : (∀ d, d ≤ 10 → VV n ord d (VP n (Gh H) d) (vec n ord d (D d))) → ∀ I', MSt n ord D H O C I' → FM I I' → post 1 (wI M I')) (h0 : (¬ ∀ d, d ≤ 10 → VV n ord d (VP n (Gh H) d) (vec n ord d (D d))) → ∀ I', MSt n ord D H O C I' → FM I I' → post 0 (wI M I')) : T_Mo_in0 199 (wI M I) post := by
  have hk := hM.1
  have hM' := hM
  obtain ⟨k4, r0, r6, r7, r9, r10, r11, r13, r14, r15, r17, a5, a6, a7, a8, a9, a10, a11, a12, a13, a14⟩ := hM'
  have hp := prm_lt hW.1.2.2
  have hF := prm_field hW.1.2.2
  refine pk_loop (σ := Nat → Nat → Int32) (fun N d K => L_Mo_in0_2 post N 199 (nI d) (wI M K)) (fun d K => FM I K ∧ MSt n ord D H O C K ∧ ∀ e, e < d → VV n ord e (VP n (Gh H) e) (vec n ord e (D e))) 11 0 I (by omega) ⟨fun _ _ => rfl, hS, fun e he => absurd he (Nat.not_lt_zero e)⟩ ?_ ?_
  · intro N K ⟨k1, k2, k3⟩
    show B_Mo_in0_2 (L_Mo_in0_2 post N) post 199 _ (wI M K)
    exact ⟨fun _ => h1 (fun d hd => k3 d (by omega)) K k2 k1, fun q => absurd (by decide) q⟩
  · intro N d K hd ⟨k1, k2, k3⟩ ih
    have hN := hW.n66 (show d ≤ 10 by omega)
    show B_Mo_in0_2 (L_Mo_in0_2 post N) post 199 _ (wI M K)
    unfold B_Mo_in0_2
    refine ⟨fun q => ?_, fun _ => ⟨hk, sp_Moheap hM hW k2 (by omega) (fun J hEs hJ => ?_)⟩⟩
    · rw [show (10 : Int32) = nI 10 from rfl, nI_ltI (by omega) (by omega)] at q; omega
    obtain ⟨e, hE⟩ := hEs.st hF.1
    rw [← VV_spn] at hE
    have hSJ := MSt_en hW hJ k2
    have h8 := hE.1.1
    have hli := hE.1.2.1
    have hvD : ∀ i, nM n ord d ≤ i → vec n ord d (D d) i = 0 := fun i hi => by unfold vec; rw [if_neg (by omega)]
    have := pk_loop (σ := Nat → Int32) (fun N' i g => L_Mo_in0_15 (L_Mo_in0_2 post N) post N' 199 (nI d) (nI i) (wI M (sAll J 204 g))) (fun i g => ∀ j, j < i → g j = nI (vec n ord d (D d) j).val) (nM n ord d) 0 (J 204) (by omega) (fun j hj => absurd hj (Nat.not_lt_zero j)) ?_ ?_
    · simp only [sAll_self] at this
      exact this
    · intro N' g hg
      show B_Mo_in0_15 _ (L_Mo_in0_15 _ post N') post 199 _ _ _
      unfold B_Mo_in0_15
      rw [gI_wI, sAll_ne (by omega), h8]
      refine ⟨k4, fun _ => ?_, fun q => absurd (Int32.le_refl _) q⟩
      have hE2 : EnSt n ord d (VV n ord d (VP n (Gh H) d)) (leadB (VV n ord d (VP n (Gh H) d))) e (sAll J 204 g) := EnSt_kp (fun c hc => sAll_ne (by omega)) hE
      refine sp_in048 (v := vec n ord d (D d)) hM (by rw [sAll_ne (by omega)]; exact hSJ.1.2.1) hW.1.2.2 hN hE2 (fun j hj => by rw [sAll_eq]; exact hg j hj) (fun g2 hg2 => ?_)
      rw [sAll_sAll]
      obtain ⟨x1, x2, x3⟩ := En_red hE2 hvD
      have hin := isRest_in (w := red (leadB (VV n ord d (VP n (Gh H) d))) e (vec n ord d (D d)) (nM n ord d)) hF ⟨x1, x3⟩
      have hS2 : MSt n ord D H O C (sAll J 204 g2) := MSt_en hW (EnF_s (Or.inr (Or.inl rfl))) hSJ
      have hF2 : FM I (sAll J 204 g2) := (k1.tr hJ.fm).tr (FM_s (by omega))
      refine pk_loop (σ := Unit) (fun N' i _ => L_Mo_in0_93 (L_Mo_in0_2 post N) post N' 199 (nI d) (nI i) (wI M (sAll J 204 g2))) (fun i _ => ∀ j, j < i → red (leadB (VV n ord d (VP n (Gh H) d))) e (vec n ord d (D d)) (nM n ord d) j = 0) (nM n ord d) 0 () (by omega) (fun j hj => absurd hj (Nat.not_lt_zero j)) ?_ ?_
      · intro N2 _ hz
        show B_Mo_in0_93 _ (L_Mo_in0_93 _ post N2) post 199 _ _ _
        unfold B_Mo_in0_93
        rw [gI_wI, sAll_ne (by omega), h8, nI_1]
        refine ⟨k4, fun _ => ih _ ⟨hF2, hS2, fun e' he' => ?_⟩, fun q => absurd (Int32.le_refl _) q⟩
        by_cases q : e' = d
        · subst q
          refine hin.mp (fun j => ?_)
          rcases Nat.lt_or_ge j (nM n ord e') with z | z
          · exact hz j z
          · exact x2 j z
        · exact k3 e' (by omega)
      · intro N2 i _ hi hz ih2
        show B_Mo_in0_93 _ (L_Mo_in0_93 _ post N2) post 199 _ _ _
        unfold B_Mo_in0_93
        have hgi := hg2 i hi
        simp (disch := omega) only [isK_wI, isA_wI, gR_wI, gI_wI, sI_wI, true_and, and_true, Option.some.injEq, exists_eq_left', forall_const, not_true_eq_false, not_false_eq_true, false_implies, true_implies, ne_eq, lit_nI, nI_add, pk_mul, pk_sub, pk_div, rem_n, nI_clamp, nI_leI, nI_ltI, nI_eq, in_nI, k4, r10, isA_T a9, sAll_ne (show (199 : Nat) ≠ 204 by omega), sAll_eq, h8, hgi, vz hp.2]
        refine ⟨fun q => absurd q (by omega), fun _ => ⟨fun q => ih2 () (fun j hj => ?_), fun q => h0 (fun z => q (hin.mpr (z d (by omega)) i)) _ hS2 hF2⟩⟩
        by_cases z : j = i
        · subst z; exact q
        · exact hz j (by omega)
    · intro N' i g hi hg ih2
      have hok := atm_ok hi
      have hcd := cdm_ok (show d ≤ 10 by omega) hok.1
      have hv : sAll J 204 g 200 (1331 * 0 + cdm d (atm n ord d i)) = nI (D d (atm n ord d i)).val := by
        rw [sAll_ne (by omega), hSJ.2.1 _ hcd.1, cf_at (by omega) hok.1]
      show B_Mo_in0_15 _ (L_Mo_in0_15 _ post N') post 199 _ _ _
      unfold B_Mo_in0_15
      have hlii := hli i hi
      simp (disch := omega) only [isK_wI, isA_wI, gR_wI, gI_wI, sI_wI, true_and, and_true, Option.some.injEq, exists_eq_left', forall_const, not_true_eq_false, not_false_eq_true, false_implies, true_implies, ne_eq, lit_nI, nI_add, pk_mul, pk_sub, pk_div, rem_n, nI_clamp, nI_leI, nI_ltI, nI_eq, in_nI, k4, r6, r10, isA_T a6, sAll_ne (show (199 : Nat) ≠ 204 by omega), sAll_ne (show (201 : Nat) ≠ 204 by omega), h8, hlii]
      refine ⟨fun q => absurd q (by omega), fun _ => sp_Moget (k := 0) hM (by omega) hcd.1 ⟨arr_A a9 (by omega) (by omega), ?_⟩⟩
      rw [hv, sI_wI, u2_sAll]
      refine ih2 _ (fun j hj => ?_)
      by_cases q : j = i
      · subst q
        rw [upd_eq]
        unfold vec; rw [if_pos hi]
      · rw [upd_ne q]; exact hg j (by omega)
end MO13
