/-! Base: all differences of a degree -/
def ODS {p : Nat} [NeZero p] (n ord d : Nat) (ldm : Mo2 → Nat) (U : (Nat → Fin p) → Prop) (I0 : Nat → Nat → Int32) (R : (Nat → Fin p) → Prop) (I : Nat → Nat → Int32) : Prop := (∃ Q e, RoSt n ord d R Q e I) ∧ (∀ c, c ≠ 140 → (c < 8 ∨ 77 < c) → I c = I0 c) ∧ (∀ w, R w → ∀ i, Pih n ord d ldm i = true → w i = 0) ∧ ∀ w, R w → U w
def DifP {p : Nat} [NeZero p] (n ord d : Nat) (dg : Nat → Nat) (hd : Nat → Mo2) (gl : Nat → Mo2 → Fin p) (ldm : Mo2 → Nat) (R : (Nat → Fin p) → Prop) (i l : Nat) : Prop := lbel d ldm (atm n ord d i) l ≠ 0 → lbel d ldm (atm n ord d i) l = ihf n ord d ldm i ∨ sumV (Esp n ord d hd gl ldm) R (vec n ord d (mv (atm n ord d i) (hd (lbel d ldm (atm n ord d i) l - 1)) (gl (lbel d ldm (atm n ord d i) l - 1)))) ∨ noNews d (atm n ord d i) (dg (ihf n ord d ldm i - 1)) (hd (ihf n ord d ldm i - 1)) (dg (lbel d ldm (atm n ord d i) l - 1)) (hd (lbel d ldm (atm n ord d i) l - 1))
theorem sumV_mono {ι : Type} {p : Nat} [NeZero p] {E R R' : (ι → Fin p) → Prop} (h : ∀ w, R w → R' w) : ∀ u, sumV E R u → sumV E R' u := fun _ ⟨a, b, ha, hb, hu⟩ => ⟨a, b, ha, h b hb, hu⟩
theorem DifP_mono {p : Nat} [NeZero p] {n ord d : Nat} {dg : Nat → Nat} {hd : Nat → Mo2} {gl : Nat → Mo2 → Fin p} {ldm : Mo2 → Nat} {R R' : (Nat → Fin p) → Prop} (hr : ∀ w, R w → R' w) {i l : Nat} (h : DifP n ord d dg hd gl ldm R i l) : DifP n ord d dg hd gl ldm R' i l := fun z => by
  rcases h z with a | a | a
  · exact Or.inl a
  · exact Or.inr (Or.inl (sumV_mono hr _ a))
  · exact Or.inr (Or.inr a)
section BA5
variable {M : Mem} {I I0 : Nat → Nat → Int32} {n ord p d b s : Nat} {dg : Nat → Nat} {hd : Nat → Mo2} {ldm : Mo2 → Nat}
theorem sp_od53 [NeZero p] {gl : Nat → Mo2 → Fin p} {R U : (Nat → Fin p) → Prop} {i l lt : Nat} {post : Mem → Prop} {k2 : Nat → Int32 → Int32 → Mem → Prop} {k53 : Nat → Int32 → Int32 → Int32 → Int32 → Int32 → Int32 → Mem → Prop} (hB : BaOK M b) (hM : MOK M) (hC : Cfg n ord p I0) (hd10 : d ≤ 10) (hEs : Els n ord d s dg hd gl ldm) (hO : OpI n ord b d s dg gl ldm I0) (hU : Sub U) (hU2 : ∀ i, i < nM n ord d → ∀ k, k < s → divm (dg k) (hd k) d (atm n ord d i) → U (vec n ord d (mv (atm n ord d i) (hd k) (gl k)))) (hs : ODS n ord d ldm U I0 R I) (hi : i < nM n ord d) (hl : l = 1 ∨ l = 2) (hne : ihf n ord d ldm i ≠ 0) (hlt : lt ≤ 66 ∧ (lt = ihf n ord d ldm i ∨ sumV (Esp n ord d hd gl ldm) R (vec n ord d (mv (atm n ord d i) (hd (lt - 1)) (gl (lt - 1))))))
    (h : ∀ I' R' lt', ODS n ord d ldm U I0 R' I' → (∀ w, R w → R' w) → DifP n ord d dg hd gl ldm R' i l → (lt' ≤ 66 ∧ (lt' = ihf n ord d ldm i ∨ sumV (Esp n ord d hd gl ldm) R' (vec n ord d (mv (atm n ord d i) (hd (lt' - 1)) (gl (lt' - 1)))))) → k53 b (nI d) (nI i) (nI (pl (atm n ord d i))) (nI (ihf n ord d ldm i)) (nI lt') (nI (l + 1)) (wI M I')) : B_Ba_offerDifferences_53 k2 k53 post b (nI d) (nI i) (nI (pl (atm n ord d i))) (nI (ihf n ord d ldm i)) (nI lt) (nI l) (wI M I) := by
  obtain ⟨⟨Q, e, hRo⟩, hfr, hz, hRU⟩ := hs
  have hb := hB.1.1
  have kb := hB.2.1.1
  have hok := atm_ok hi
  have hiS := (hEs.ih hne).2.1
  have hs66 := hEs.2.2.1
  have hF := prm_field hC.2.2
  have hC' : Cfg n ord p I := Cfg_kp (fun c hc => hfr c (by omega) (Or.inl hc)) hC
  have hO' : OpI n ord b d s dg gl ldm I := OpI_kp (fun c h1 h2 _ => hfr c (by omega) (Or.inr (by omega))) hO
  have hlb : lbel d ldm (atm n ord d i) l ≤ 66 := by
    unfold lbel; split
    · omega
    · have := hEs.2.1 ((atm n ord d i).1 - (lt2 l).1, (atm n ord d i).2 - (lt2 l).2); omega
  have stay : DifP n ord d dg hd gl ldm R i l → k53 b (nI d) (nI i) (nI (pl (atm n ord d i))) (nI (ihf n ord d ldm i)) (nI lt) (nI (l + 1)) (wI M I) := fun hD => h I R lt ⟨⟨Q, e, hRo⟩, hfr, hz, hRU⟩ (fun _ hw => hw) hD hlt
  unfold B_Ba_offerDifferences_53 B_Ba_offerDifferences_124 B_Ba_offerDifferences_130
  simp (disch := omega) only [isK_wI, isA_wI, gR_wI, gI_wI, sI_wI, true_and, and_true, Option.some.injEq, exists_eq_left', forall_const, not_true_eq_false, not_false_eq_true, false_implies, true_implies, ne_eq, lit_nI, nI_add, pk_mul, pk_sub, pk_div, rem_n, nI_clamp, nI_leI, nI_ltI, nI_eq, in_nI, kb]
  refine ⟨fun z => absurd z (by omega), fun _ => ⟨fun z => absurd z (by omega), fun _ => ?_⟩⟩
  refine sp_leaderBelow (ldm := ldm) hO'.1.1.2.2 hB hM.1 hC'.1 hd10 hok (by omega) hO'.2.1 ?_
  simp (disch := omega) only [isK_wI, isA_wI, gR_wI, gI_wI, sI_wI, true_and, and_true, Option.some.injEq, exists_eq_left', forall_const, not_true_eq_false, not_false_eq_true, false_implies, true_implies, ne_eq, lit_nI, nI_add, pk_mul, pk_sub, pk_div, rem_n, nI_clamp, nI_leI, nI_ltI, nI_eq, in_nI, kb]
  refine ⟨fun z => stay (fun w => absurd (by omega) w), fun z => ⟨fun z2 => stay (fun _ => Or.inl z2), fun z2 => ⟨fun z3 => stay (fun _ => ?_), fun z3 => ?_⟩⟩⟩
  · rcases hlt.2 with w | w
    · exact Or.inl (z3.trans w)
    · rw [z3]; exact Or.inr (Or.inl w)
  · have hlne : lbel d ldm (atm n ord d i) l ≠ 0 := by omega
    obtain ⟨y1, y2⟩ := hEs.lb hok (by omega) hlne
    rw [pk_sub (show 1 ≤ lbel d ldm (atm n ord d i) l by omega)]
    refine sp_isNews (p := p) (gl := gl) (hd := hd) hB hM.1 hC'.1 hF.1 hd10 hok hO'.1.2 hEs.1 hiS y1 ?_ (fun hn => ?_)
    · simp (disch := omega) only [isK_wI, isA_wI, gR_wI, gI_wI, sI_wI, true_and, and_true, Option.some.injEq, exists_eq_left', forall_const, not_true_eq_false, not_false_eq_true, false_implies, true_implies, ne_eq, lit_nI, nI_add, pk_mul, pk_sub, pk_div, rem_n, nI_clamp, nI_leI, nI_ltI, nI_eq, in_nI, kb]
      refine ⟨fun w => absurd w (by omega), fun _ => ?_⟩
      refine sp_offerMoved hB hM hC' hd10 hok hEs hO' hRo y1 y2 (fun I' Q' e' hRo' hfr' => ?_)
      have hom := offer_math (N := nM n ord d) (Spn_sub _) hRo.2.1.1 hEs.ech hz (vec n ord d (mv (atm n ord d i) (hd (lbel d ldm (atm n ord d i) l - 1)) (gl (lbel d ldm (atm n ord d i) l - 1))))
      have hv : sumV (Esp n ord d hd gl ldm) (more R (red (Pih n ord d ldm) (eff n ord d hd gl ldm) (vec n ord d (mv (atm n ord d i) (hd (lbel d ldm (atm n ord d i) l - 1)) (gl (lbel d ldm (atm n ord d i) l - 1)))) (nM n ord d))) (vec n ord d (mv (atm n ord d i) (hd (lbel d ldm (atm n ord d i) l - 1)) (gl (lbel d ldm (atm n ord d i) l - 1)))) := (hom.2.1 _).mpr (more_v (sumV_sub (Spn_sub _) hRo.2.1.1) _)
      refine h I' _ _ ⟨⟨Q', e', hRo'⟩, fun c h1 h2 => by rw [hfr' c h1 h2, hfr c h1 h2], hom.1, ?_⟩ (fun w hw => more_le hw) (fun _ => Or.inr (Or.inl hv)) ⟨hlb, Or.inr hv⟩
      rintro w ⟨w', c, hw', hw⟩
      have e1 : U (red (Pih n ord d ldm) (eff n ord d hd gl ldm) (vec n ord d (mv (atm n ord d i) (hd (lbel d ldm (atm n ord d i) l - 1)) (gl (lbel d ldm (atm n ord d i) l - 1)))) (nM n ord d)) := by
        have e2 := red_in (N := nM n ord d) (P := Pih n ord d ldm) (e := eff n ord d hd gl ldm) (v := vec n ord d (mv (atm n ord d i) (hd (lbel d ldm (atm n ord d i) l - 1)) (gl (lbel d ldm (atm n ord d i) l - 1)))) hU (fun j hj => by
          have hj' : ihf n ord d ldm j ≠ 0 := by simpa [Pih] using hj
          obtain ⟨x1, x2, x3⟩ := hEs.ih hj'
          exact hU2 j x1 _ x2 x3) (nM n ord d)
        have e3 := hU.sub (hU2 i hi _ y1 y2) e2
        have e4 : (fun j => vec n ord d (mv (atm n ord d i) (hd (lbel d ldm (atm n ord d i) l - 1)) (gl (lbel d ldm (atm n ord d i) l - 1))) j - (vec n ord d (mv (atm n ord d i) (hd (lbel d ldm (atm n ord d i) l - 1)) (gl (lbel d ldm (atm n ord d i) l - 1))) j - red (Pih n ord d ldm) (eff n ord d hd gl ldm) (vec n ord d (mv (atm n ord d i) (hd (lbel d ldm (atm n ord d i) l - 1)) (gl (lbel d ldm (atm n ord d i) l - 1)))) (nM n ord d) j)) = red (Pih n ord d ldm) (eff n ord d hd gl ldm) (vec n ord d (mv (atm n ord d i) (hd (lbel d ldm (atm n ord d i) l - 1)) (gl (lbel d ldm (atm n ord d i) l - 1)))) (nM n ord d) := by funext j; grind
        rw [e4] at e3; exact e3
      rw [show w = fun x => w' x + c * red (Pih n ord d ldm) (eff n ord d hd gl ldm) (vec n ord d (mv (atm n ord d i) (hd (lbel d ldm (atm n ord d i) l - 1)) (gl (lbel d ldm (atm n ord d i) l - 1)))) (nM n ord d) x from funext hw]
      exact hU.2 _ _ c (hRU w' hw') e1
    · simp (disch := omega) only [isK_wI, isA_wI, gR_wI, gI_wI, sI_wI, true_and, and_true, Option.some.injEq, exists_eq_left', forall_const, not_true_eq_false, not_false_eq_true, false_implies, true_implies, ne_eq, lit_nI, nI_add, pk_mul, pk_sub, pk_div, rem_n, nI_clamp, nI_leI, nI_ltI, nI_eq, in_nI, kb]
      exact stay (fun _ => Or.inr (Or.inr hn))
theorem sp_offerDifferences [NeZero p] {gl : Nat → Mo2 → Fin p} {R U : (Nat → Fin p) → Prop} {post : Mem → Prop} (hB : BaOK M b) (hM : MOK M) (hC : Cfg n ord p I0) (hd10 : d ≤ 10) (hEs : Els n ord d s dg hd gl ldm) (hO : OpI n ord b d s dg gl ldm I0) (hU : Sub U) (hU2 : ∀ i, i < nM n ord d → ∀ k, k < s → divm (dg k) (hd k) d (atm n ord d i) → U (vec n ord d (mv (atm n ord d i) (hd k) (gl k)))) (hs : ODS n ord d ldm U I0 R I0)
    (h : ∀ I' R', ODS n ord d ldm U I0 R' I' → (∀ i, i < nM n ord d → ∀ l, l < 3 → DifP n ord d dg hd gl ldm R' i l) → post (wI M I')) : T_Ba_offerDifferences b (nI d) (wI M I0) post := by
  have hB' := hB
  obtain ⟨⟨hb, hUq⟩, ⟨kb, g0, g1, g2, g3, g4, g5, g6, g7, g8, g9, g10, g11⟩, ⟨a1, a2, a3, a4, a5, a6, a7, a8⟩, a140⟩ := hB'
  have k1 := hM.1.1.1
  have hNb := nM_b hC.1 hd10
  have hs66 := hEs.2.2.1
  have h0 : ∀ (R' : (Nat → Fin p) → Prop) i, i < nM n ord d → DifP n ord d dg hd gl ldm R' i 0 := fun R' i hi z => Or.inl (by unfold ihf; rw [if_pos hi, inh_0 z])
  have key : ∀ r i R' I', i + r = nM n ord d → ODS n ord d ldm U I0 R' I' → (∀ j, j < i → ∀ l, l < 3 → DifP n ord d dg hd gl ldm R' j l) → L_Ba_offerDifferences_2 post (r + 1) b (nI d) (nI i) (wI M I') := by
    intro r
    induction r with
    | zero =>
      intro i R' I' hi hs' hD
      have hfr := hs'.2.1
      show B_Ba_offerDifferences_2 _ post b _ _ _
      unfold B_Ba_offerDifferences_2 B_Ba_offerDifferences_136
      simp (disch := omega) only [isK_wI, isA_wI, gR_wI, gI_wI, sI_wI, true_and, and_true, Option.some.injEq, exists_eq_left', forall_const, not_true_eq_false, not_false_eq_true, false_implies, true_implies, ne_eq, lit_nI, nI_add, pk_mul, pk_sub, pk_div, rem_n, nI_clamp, nI_leI, nI_ltI, nI_eq, in_nI, kb, g0, k1, hfr b (by omega) (by omega), hO.1.1]
      have done := h I' R' hs' (fun j hj => hD j (by omega))
      refine ⟨fun _ => done, fun _ => sp_amount hM.1 (PrSt_kp (fun c hc => hfr c (by omega) (Or.inl hc)) hC.1) hd10 ?_⟩
      simp (disch := omega) only [isK_wI, isA_wI, gR_wI, gI_wI, sI_wI, true_and, and_true, Option.some.injEq, exists_eq_left', forall_const, not_true_eq_false, not_false_eq_true, false_implies, true_implies, ne_eq, lit_nI, nI_add, pk_mul, pk_sub, pk_div, rem_n, nI_clamp, nI_leI, nI_ltI, nI_eq, in_nI, kb]
      exact ⟨fun _ => done, fun z => absurd (by omega) z⟩
    | succ r ih =>
      intro i R' I' hi hs' hD
      have hi2 : i < nM n ord d := by omega
      have hfr := hs'.2.1
      have hok := atm_ok hi2
      have p2 := pl_deg hd10 hok.1
      have p3 := fr_le d (by omega)
      have hS' := PrSt_kp (fun c hc => hfr c (by omega) (Or.inl hc)) hC.1
      have e1 := hO.2.2 i hi2
      have hih : ihf n ord d ldm i ≤ 66 := by
        by_cases z : ihf n ord d ldm i = 0
        · omega
        · have := (hEs.ih z).2.1; omega
      show B_Ba_offerDifferences_2 (L_Ba_offerDifferences_2 post (r + 1)) post b _ _ _
      unfold B_Ba_offerDifferences_2 B_Ba_offerDifferences_136
      simp (disch := omega) only [isK_wI, isA_wI, gR_wI, gI_wI, sI_wI, true_and, and_true, Option.some.injEq, exists_eq_left', forall_const, not_true_eq_false, not_false_eq_true, false_implies, true_implies, ne_eq, lit_nI, nI_add, pk_mul, pk_sub, pk_div, rem_n, nI_clamp, nI_leI, nI_ltI, nI_eq, in_nI, kb, g0, k1, hfr b (by omega) (by omega), hO.1.1]
      refine ⟨fun z => ?_, fun _ => sp_amount hM.1 hS' hd10 ?_⟩
      · -- at most one element: all leaders are the same
        refine h I' R' hs' (fun j hj l hl z2 => Or.inl ?_)
        have w1 := (hEs.lb (atm_ok hj) hl z2).1
        have w2 : ihf n ord d ldm j ≠ 0 := by unfold ihf; rw [if_pos hj]; exact inh_ne hl z2
        have w3 := (hEs.ih w2).2.1
        omega
      · simp (disch := omega) only [isK_wI, isA_wI, gR_wI, gI_wI, sI_wI, true_and, and_true, Option.some.injEq, exists_eq_left', forall_const, not_true_eq_false, not_false_eq_true, false_implies, true_implies, ne_eq, lit_nI, nI_add, pk_mul, pk_sub, pk_div, rem_n, nI_clamp, nI_leI, nI_ltI, nI_eq, in_nI, kb, g0, k1]
        refine ⟨fun z => absurd z (by omega), fun _ => sp_at hM.1 hS' hd10 hi2 ?_⟩
        have hL7 : I' (b + 7) 2147483648 = 1 := by rw [hfr (b + 7) (by omega) (by omega)]; exact hO.1.1.2.2
        simp (disch := omega) only [isK_wI, isA_wI, gR_wI, gI_wI, sI_wI, true_and, and_true, Option.some.injEq, exists_eq_left', forall_const, not_true_eq_false, not_false_eq_true, false_implies, true_implies, ne_eq, lit_nI, nI_add, pk_mul, pk_sub, pk_div, rem_n, nI_clamp, nI_leI, nI_ltI, nI_eq, in_nI, kb, g8, fst_fr d (by omega), isZ_T a5 (by omega) hL7, hfr (b + 7) (by omega) (by omega), e1]
        refine ⟨by omega, ?_⟩
        by_cases hne : ihf n ord d ldm i = 0
        · refine ⟨1, ?_⟩
          show B_Ba_offerDifferences_53 _ _ post b _ _ _ _ _ 1 _
          unfold B_Ba_offerDifferences_53 B_Ba_offerDifferences_130
          simp (disch := omega) only [isK_wI, isA_wI, gR_wI, gI_wI, sI_wI, true_and, and_true, Option.some.injEq, exists_eq_left', forall_const, not_true_eq_false, not_false_eq_true, false_implies, true_implies, ne_eq, lit_nI, nI_add, pk_mul, pk_sub, pk_div, rem_n, nI_clamp, nI_leI, nI_ltI, nI_eq, in_nI, kb]
          refine ⟨fun z => absurd z (by omega), fun _ => ⟨fun _ => ?_, fun z => absurd (by omega) z⟩⟩
          refine ih (i + 1) R' I' (by omega) hs' (fun j hj l hl => ?_)
          by_cases z : j = i
          · subst z
            intro z2
            exact absurd hne (by unfold ihf; rw [if_pos hi2]; exact inh_ne hl z2)
          · exact hD j (by omega) l hl
        · refine ⟨3, ?_⟩
          show B_Ba_offerDifferences_53 _ (L_Ba_offerDifferences_53 _ post 2) post b _ _ _ _ _ 1 _
          refine sp_od53 (l := 1) hB hM hC hd10 hEs hO hU hU2 hs' hi2 (Or.inl rfl) hne ⟨hih, Or.inl rfl⟩ (fun I1 R1 lt1 s1 m1 d1 t1 => ?_)
          show B_Ba_offerDifferences_53 _ (L_Ba_offerDifferences_53 _ post 1) post b _ _ _ _ _ 2 _
          refine sp_od53 (l := 2) hB hM hC hd10 hEs hO hU hU2 s1 hi2 (Or.inr rfl) hne t1 (fun I2 R2 lt2' s2 m2 d2 t2 => ?_)
          show B_Ba_offerDifferences_53 _ (L_Ba_offerDifferences_53 _ post 0) post b _ _ _ _ _ 3 _
          unfold B_Ba_offerDifferences_53 B_Ba_offerDifferences_130
          simp (disch := omega) only [isK_wI, isA_wI, gR_wI, gI_wI, sI_wI, true_and, and_true, Option.some.injEq, exists_eq_left', forall_const, not_true_eq_false, not_false_eq_true, false_implies, true_implies, ne_eq, lit_nI, nI_add, pk_mul, pk_sub, pk_div, rem_n, nI_clamp, nI_leI, nI_ltI, nI_eq, in_nI, kb]
          refine ⟨fun _ => ?_, fun z => absurd (by omega) z⟩
          refine ih (i + 1) R2 I2 (by omega) s2 (fun j hj l hl => ?_)
          by_cases z : j = i
          · subst z
            have : l = 0 ∨ l = 1 ∨ l = 2 := by omega
            rcases this with rfl | rfl | rfl
            · exact h0 R2 j hi2
            · exact DifP_mono m2 d1
            · exact d2
          · exact DifP_mono (fun w hw => m2 w (m1 w hw)) (hD j (by omega) l hl)
  exact ⟨_, key (nM n ord d) 0 R I0 (by omega) hs (fun j hj => absurd hj (by omega))⟩
end BA5
