/-! Base: begin a degree, offer a row -/
theorem RoSt_kp {p : Nat} [NeZero p] {n ord d : Nat} {R : (Nat → Fin p) → Prop} {Q : Nat → Bool} {e : Nat → Nat → Fin p} {I I' : Nat → Nat → Int32} (hN : nM n ord d ≤ 66) (h : ∀ c, 8 ≤ c → c ≤ 77 → I' c = I c) (hRo : RoSt n ord d R Q e I) : RoSt n ord d R Q e I' := by
  obtain ⟨⟨⟨l5, l6⟩, l7⟩, hW, h7, hno, hdr, hd1, hd2⟩ := hRo
  refine ⟨⟨⟨by rw [h _ (by omega) (by omega)]; exact l5, by rw [h _ (by omega) (by omega)]; exact l6⟩, fun i hi => by rw [h _ (by omega) (by omega)]; exact l7 i hi⟩, hW, by rw [h _ (by omega) (by omega)]; exact h7, fun i hi hPi => by rw [h _ (by omega) (by omega)]; exact hno i hi hPi, hdr, fun r hr => ?_, hd2⟩
  obtain ⟨z1, z2, z3, z4⟩ := hd1 r hr
  have := ct_le Q (nM n ord d)
  exact ⟨z1, z2, by rw [h _ (by omega) (by omega)]; exact z3, by rw [h _ (by omega) (by omega)]; exact z4⟩
theorem ElM_kp4 {p : Nat} [NeZero p] {n ord b s : Nat} {dg : Nat → Nat} {gl : Nat → Mo2 → Fin p} {I I' : Nat → Nat → Int32} (h : ∀ c, b < c → c ≤ b + 6 → (c < b + 3 ∨ b + 5 < c) → I' c = I c) (hE : ElM n ord b s dg gl I) : ElM n ord b s dg gl I' := by
  obtain ⟨⟨z3, z4, z5⟩, z6⟩ := hE
  refine ⟨⟨fun k hk => by rw [h _ (by omega) (by omega) (by omega)]; exact z3 k hk, z4, z5⟩, fun k hk => ?_⟩
  obtain ⟨z7, z8⟩ := z6 k hk
  refine ⟨by rw [h _ (by omega) (by omega) (by omega)]; exact z7, fun j hj hne => ?_⟩
  rw [h _ (by omega) (by omega) (by omega)]; exact z8 j hj hne
/-- a base, degree d under way -/
def BaOp {p : Nat} [NeZero p] (n ord b : Nat) (G : Nat → (Mo2 → Fin p) → Prop) (d : Nat) (I : Nat → Nat → Int32) : Prop := ∃ sz dg hd gl ld R, (I b 11 = nI d - 1 ∧ OpI n ord b d (sz d) dg gl (ldmf n ord d ld) I ∧ (∀ e, e < d → BaD n ord b G sz ld e I) ∧ I (b + 5) d = nI (ndm n ord G d)) ∧ (∃ Q e, RoSt n ord d R Q e I) ∧ BaT n ord G d sz dg hd gl ld ∧ (∀ w, R w → ∀ i, Pih n ord d (ldmf n ord d ld) i = true → w i = 0) ∧ ∀ u, sumV (Esp n ord d hd gl (ldmf n ord d ld)) R u ↔ VV n ord d (VP n G d) u
theorem BaD_kp {p : Nat} [NeZero p] {n ord b e : Nat} {G : Nat → (Mo2 → Fin p) → Prop} {sz : Nat → Nat} {ld : Nat → Nat → Nat} {I I' : Nat → Nat → Int32} (h6 : I' (b + 3) e = I (b + 3) e) (h7 : I' (b + 4) e = I (b + 4) e) (h8 : I' (b + 5) e = I (b + 5) e) (h5 : ∀ j, j < fr (e + 1) → I' (b + 7) j = I (b + 7) j) (he : e ≤ 10) (hD : BaD n ord b G sz ld e I) : BaD n ord b G sz ld e I' := by
  obtain ⟨d1, d2, d3, d4⟩ := hD
  refine ⟨by rw [h6]; exact d1, by rw [h7]; exact d2, by rw [h8]; exact d3, fun i hi => ?_⟩
  rw [h5 _ (pl_deg he (atm_ok hi).1)]; exact d4 i hi
theorem Gb_hom {p : Nat} [NeZero p] {n d : Nat} {G : Nat → (Mo2 → Fin p) → Prop} (hG : ∀ e g, G e g → hom n e g) : ∀ e g, Gb d G e g → hom n e g := fun e g h => hG e g h.2
theorem Gadd_hom {p : Nat} [NeZero p] {n d : Nat} {G : Nat → (Mo2 → Fin p) → Prop} {g : Mo2 → Fin p} (hG : ∀ e g, G e g → hom n e g) (hg : hom n d g) : ∀ e f, Gadd G d g e f → hom n e f := fun e f h => by
  rcases h with h | ⟨rfl, rfl⟩
  · exact hG e f h
  · exact hg
section BA7
variable {M : Mem} {I : Nat → Nat → Int32} {n ord p d b : Nat}
theorem sp_makeRoom [NeZero p] {G : Nat → (Mo2 → Fin p) → Prop} {r : Nat} {post : Mem → Prop} (hB : BaOK M b) (hSt : BaSt n ord b G r I) (h : ∀ I', BaSt n ord b G r I' → Fl b I' → (∀ c, c ≠ b + 6 → c ≠ b + 7 → I' c = I c) → post (wI M I')) : T_Ba_makeRoom b (wI M I) post := by
  obtain ⟨⟨hb, hUq⟩, ⟨kb, g0, g1, g2, g3, g4, g5, g6, g7, g8, g9, g10, g11⟩, ⟨a1, a2, a3, a4, a5, a6, a7, a8⟩, a140⟩ := hB
  have hSt' := hSt
  obtain ⟨sz, dg, hd, gl, ld, ⟨⟨m12, m13, mF⟩, mE, mD⟩, hT⟩ := hSt'
  refine ⟨kb, b + 6, b + 7, ⟨g4, g8⟩, ⟨a1.1, a1.2⟩, ⟨a5.1, a5.2⟩, hUq, fun z => ?_, fun z => ?_⟩
  · exact h I hSt ⟨z, mF.2.mp z⟩ (fun c _ _ => rfl)
  · have z' : ¬ I (b + 6) 2147483648 = 1 := z
    have hr0 : r = 0 := Classical.byContradiction (fun q => z' (mF.1 q))
    refine ⟨fun y => z' (mF.2.mpr y), ?_⟩
    show post (wI M (sAll (sAll I (b + 6) zf) (b + 7) zf))
    have hf : ∀ c, c ≠ b + 6 → c ≠ b + 7 → sAll (sAll I (b + 6) zf) (b + 7) zf c = I c := fun c h1 h2 => by rw [sAll_ne h2, sAll_ne h1]
    have f6 : sAll (sAll I (b + 6) zf) (b + 7) zf (b + 6) 2147483648 = 1 := by rw [sAll_ne (by omega), sAll_eq]; exact zf_g
    have f7 : sAll (sAll I (b + 6) zf) (b + 7) zf (b + 7) 2147483648 = 1 := by rw [sAll_eq]; exact zf_g
    subst hr0
    have hz0 : sz 0 = 0 := hT.1.1
    exact h _ ⟨sz, dg, hd, gl, ld, ⟨⟨by rw [hf _ (by omega) (by omega)]; exact m12, by rw [hf _ (by omega) (by omega)]; exact m13, fun q => absurd rfl q, ⟨fun _ => f7, fun _ => f6⟩⟩, ⟨⟨fun k hk => by rw [hf _ (by omega) (by omega)]; exact mE.1.1 k hk, mE.1.2.1, mE.1.2.2⟩, fun k hk => absurd hk (by rw [hz0]; omega)⟩, fun d hd => absurd hd (Nat.not_lt_zero d)⟩, hT⟩ ⟨f6, f7⟩ hf
theorem sp_open [NeZero p] {G : Nat → (Mo2 → Fin p) → Prop} {post : Mem → Prop} (hB : BaOK M b) (hM : MOK M) (hC : Cfg n ord p I) (hd10 : d ≤ 10) (hG : ∀ e g, G e g → hom n e g) (hSt : BaSt n ord b G d I) (h : ∀ I', BaOp n ord b (Gb d G) d I' → (∀ c, c ≠ 140 → (c < 8 ∨ 77 < c) → (c < b ∨ b + 7 < c) → I' c = I c) → post (wI M I')) : T_Ba_open b (nI d) (wI M I) post := by
  have hB' := hB
  obtain ⟨⟨hb, hUq⟩, ⟨kb, g0, g1, g2, g3, g4, g5, g6, g7, g8, g9, g10, g11⟩, ⟨a1, a2, a3, a4, a5, a6, a7, a8⟩, a140⟩ := hB'
  obtain ⟨hP, hNu, hRoM⟩ := hM
  have k8 := hRoM.1.1
  have hF := prm_field hC.2.2
  have hNb := nM_b hC.1 hd10
  unfold T_Ba_open
  refine ⟨kb, kb, sp_makeRoom hB hSt (fun I hSt hFl hf0 => ?_)⟩
  have h := fun I' (q1 : BaOp n ord b (Gb d G) d I') (q2 : ∀ c, c ≠ 140 → (c < 8 ∨ 77 < c) → (c < b ∨ b + 7 < c) → I' c = I c) => h I' q1 (fun c h1 h2 h3 => (q2 c h1 h2 h3).trans (hf0 c (by omega) (by omega)))
  have hC : Cfg n ord p I := Cfg_kp (fun c hc => hf0 c (by omega) (by omega)) hC
  have hSt' := BaSt_cong (G' := Gb d G) (fun e he g => ⟨fun z => ⟨he, z⟩, fun z => z.2⟩) hSt
  have hG' := Gb_hom (d := d) hG
  obtain ⟨sz, dg, hd, gl, ld, ⟨⟨m12, m13, mF⟩, mE, mD⟩, hT⟩ := hSt'
  have h66 := mE.1.2.2
  have hEs := hT.els hG' h66
  simp (disch := omega) only [isK_wI, isA_wI, gR_wI, gI_wI, sI_wI, true_and, and_true, Option.some.injEq, exists_eq_left', forall_const, not_true_eq_false, not_false_eq_true, false_implies, true_implies, ne_eq, lit_nI, nI_add, pk_mul, pk_sub, pk_div, rem_n, nI_clamp, nI_leI, nI_ltI, nI_eq, in_nI, kb, g2, k8]
  refine sp_Robegin (p := p) hRoM hP hNu hC.1 hC.2.1 hF.1 hd10 (fun I1 hR1 hf1 => ?_)
  simp (disch := omega) only [isK_wI, isA_wI, gR_wI, gI_wI, sI_wI, true_and, and_true, Option.some.injEq, exists_eq_left', forall_const, not_true_eq_false, not_false_eq_true, false_implies, true_implies, ne_eq, lit_nI, nI_add, pk_mul, pk_sub, pk_div, rem_n, nI_clamp, nI_leI, nI_ltI, nI_eq, in_nI, kb, g11, isA_T a8]
  have hf2 : ∀ c, (c < 8 ∨ 77 < c) → c ≠ b + 5 → u2 I1 (b + 5) d (nI 0) c = I c := fun c h1 h2 => by
    unfold u2; rw [if_neg h2]; exact hf1 c h1
  have hS2 : Cfg n ord p (u2 I1 (b + 5) d (nI 0)) := Cfg_kp (fun c hc => hf2 c (Or.inl hc) (by omega)) hC
  refine sp_inherit (ldm := ldmf n ord d ld) (by rw [hf2 _ (by omega) (by omega)]; exact hFl.2) hB hP hS2.1 hd10 (fun q => Nat.le_trans (hEs.2.1 q) h66) (fun hd0 q hq => ?_) (fun g hg0 hg1 hg2 => ?_)
  · rw [hf2 _ (by omega) (by omega)]
    have := (mD (d - 1) (by omega)).2.2.2 (psm n ord (d - 1) q) (psm_lt hq)
    rw [atm_psm hq] at this
    rw [this]; unfold ldmf; rw [if_neg hd0]
  · simp (disch := omega) only [isK_wI, isA_wI, gR_wI, gI_wI, sI_wI, true_and, and_true, Option.some.injEq, exists_eq_left', forall_const, not_true_eq_false, not_false_eq_true, false_implies, true_implies, ne_eq, lit_nI, nI_add, pk_mul, pk_sub, pk_div, rem_n, nI_clamp, nI_leI, nI_ltI, nI_eq, in_nI, kb]
    have hf3 : ∀ c, (c < 8 ∨ 77 < c) → c ≠ b + 5 → c ≠ b + 7 → sAll (u2 I1 (b + 5) d (nI 0)) (b + 7) g c = I c := fun c h1 h2 h3 => by rw [sAll_ne h3]; exact hf2 c h1 h2
    have hS3 : Cfg n ord p (sAll (u2 I1 (b + 5) d (nI 0)) (b + 7) g) := Cfg_kp (fun c hc => hf3 c (Or.inl hc) (by omega) (by omega)) hC
    have hO : OpI n ord b d (sz d) dg gl (ldmf n ord d ld) (sAll (u2 I1 (b + 5) d (nI 0)) (b + 7) g) := by
      refine ⟨⟨⟨by rw [hf3 _ (by omega) (by omega) (by omega)]; exact m13, by rw [hf3 _ (by omega) (by omega) (by omega)]; exact hFl.1, by rw [sAll_eq]; exact hg0⟩, ElM_kp4 (fun c h1 h2 h3 => hf3 c (by omega) (by omega) (by omega)) mE⟩, fun hd0 q hq => ?_, fun i hi => ?_⟩
      · have w4 := pl_deg (show d - 1 ≤ 10 by omega) hq.1
        rw [show d - 1 + 1 = d by omega] at w4
        rw [sAll_eq, hg1 _ w4, hf2 _ (by omega) (by omega)]
        have := (mD (d - 1) (by omega)).2.2.2 (psm n ord (d - 1) q) (psm_lt hq)
        rw [atm_psm hq] at this
        rw [this]; unfold ldmf; rw [if_neg hd0]
      · rw [sAll_eq, hg2 i hi]; unfold ihf; rw [if_pos hi]
    have hRo : RoSt (p := p) n ord d (fun v => ∀ i, v i = 0) (fun _ => false) (fun _ _ => 0) (sAll (u2 I1 (b + 5) d (nI 0)) (b + 7) g) := RoSt_kp hNb.1 (fun c h1 h2 => by rw [sAll_ne (by omega)]; unfold u2; rw [if_neg (by omega)]) hR1
    have hUs : Sub (VV n ord d (VP n (Gb d G) d)) := VV_sub (VP_sub _ _ _)
    have hU2 : ∀ i, i < nM n ord d → ∀ k, k < sz d → divm (dg k) (hd k) d (atm n ord d i) → VV n ord d (VP n (Gb d G) d) (vec n ord d (mv (atm n ord d i) (hd k) (gl k))) := fun i hi k hk hdv => ⟨_, mv_in (hT.2.2.1 k hk) (atm_ok hi) hdv, rfl⟩
    refine sp_offerDifferences (R := fun v => ∀ i, v i = 0) (U := VV n ord d (VP n (Gb d G) d)) hB ⟨hP, hNu, hRoM⟩ hS3 hd10 hEs hO hUs hU2 ⟨⟨_, _, hRo⟩, fun c _ _ => rfl, fun w hw i _ => hw i, fun w hw => by rw [show w = fun _ => 0 from funext hw]; exact hUs.1⟩ (fun I' R' hs' hD => ?_)
    obtain ⟨⟨Q, e, hRo'⟩, hfr, hz, hRU⟩ := hs'
    have hfr' : ∀ c, b ≤ c → I' c = sAll (u2 I1 (b + 5) d (nI 0)) (b + 7) g c := fun c hc => hfr c (by omega) (Or.inr (by omega))
    refine h I' ⟨sz, dg, hd, gl, ld, R', ⟨?_, OpI_kp (fun c h1 h2 _ => hfr' c h1) hO, fun e he => ?_, ?_⟩, ⟨Q, e, hRo'⟩, hT, hz, fun u => ⟨?_, ?_⟩⟩ (fun c h1 h2 h3 => by rw [hfr c h1 h2]; exact hf3 c h2 (by omega) (by omega))
    · rw [hfr' b (by omega), hf3 b (by omega) (by omega) (by omega)]; exact m12
    · refine BaD_kp ?_ ?_ ?_ (fun j hj => ?_) (by omega) (mD e he)
      · rw [hfr' _ (by omega), hf3 _ (by omega) (by omega) (by omega)]
      · rw [hfr' _ (by omega), hf3 _ (by omega) (by omega) (by omega)]
      · rw [hfr' _ (by omega), sAll_ne (by omega), u2_ne (by omega), hf1 _ (by omega)]
      · have := fr_mono d (by omega) e he
        rw [hfr' _ (by omega), sAll_eq, hg1 j (by omega), hf2 _ (by omega) (by omega)]
    · rw [hfr' _ (by omega), sAll_ne (by omega), u2_eq]
      unfold ndm
      rw [vdm_cong (G := Gb d (Gb d G)) (G' := Gb d G) (fun e he g => ⟨fun z => z.2, fun z => ⟨z.1, z⟩⟩), Nat.sub_self]
    · rintro ⟨a, w, ha, hw, hu⟩
      rw [show u = fun i => a i + w i from funext hu]
      refine hUs.add (Spn_le hUs ?_ a ha) (hRU w hw)
      rintro s ⟨j, hj, rfl⟩
      have hj' : ihf n ord d (ldmf n ord d ld) j ≠ 0 := by simpa [Pih] using hj
      obtain ⟨x1, x2, x3⟩ := hEs.ih hj'
      exact hU2 j x1 _ x2 x3
    · rintro ⟨f, hf, rfl⟩
      exact open_math hF.1 hG' hT h66 (fun e g z => z.1) hRo'.2.1.1 hD f hf
theorem sp_offer [NeZero p] {a la : Nat} {G : Nat → (Mo2 → Fin p) → Prop} {g : Mo2 → Fin p} {post : Mem → Prop} (hB : BaOK M b) (hM : MOK M) (hC : Cfg n ord p I) (hd10 : d ≤ 10) (hG : ∀ e g, G e g → hom n e g) (hSt : BaOp n ord b G d I) (ha : arr M a 8 la) (hla : ∀ m : Mo2, m.1 + m.2 ≤ d → pl m < la) (hla2 : la < 2147483648) (han : 77 < a ∧ (a < b ∨ b + 7 < a)) (hR : RepV d (I a) g) (hh : hom n d g) (h : ∀ I', BaOp n ord b (Gadd G d g) d I' → (∀ c, c ≠ a → (c < 8 ∨ 77 < c) → (c < b ∨ b + 7 < c) → I' c = I c) → post (wI M I')) : T_Ba_offer b (nI d) a (wI M I) post := by
  have hB' := hB
  obtain ⟨⟨hb, hUq⟩, ⟨kb, g0, g1, g2, g3, g4, g5, g6, g7, g8, g9, g10, g11⟩, ⟨a1, a2, a3, a4, a5, a6, a7, a8⟩, a140⟩ := hB'
  obtain ⟨hP, hNu, hRoM⟩ := hM
  have k8 := hRoM.1.1
  have hp97 := (prm_lt hC.2.2).2
  have hF := prm_field hC.2.2
  have hNb := nM_b hC.1 hd10
  obtain ⟨sz, dg, hd, gl, ld, R, ⟨m12, hO, mD, m8⟩, ⟨Q, e, hRo⟩, hT, hz, hEq⟩ := hSt
  have h66 := hO.1.2.1.2.2
  have hEs := hT.els hG h66
  unfold T_Ba_offer
  simp (disch := omega) only [isK_wI, isA_wI, gR_wI, gI_wI, sI_wI, true_and, and_true, Option.some.injEq, exists_eq_left', forall_const, not_true_eq_false, not_false_eq_true, false_implies, true_implies, ne_eq, lit_nI, nI_add, pk_mul, pk_sub, pk_div, rem_n, nI_clamp, nI_leI, nI_ltI, nI_eq, in_nI, kb]
  refine sp_reduce (ld := ihf n ord d (ldmf n ord d ld)) (hd := hd) hB hP hNu hC.1 hC.2.1 hp97 hF.1 hd10 ha hla hla2 ⟨by omega, han.2⟩ hO.1.2 hEs.1 hO.1.1.2.2 (fun i hi => ⟨hO.2.2 i hi, fun z => (hEs.ih z).2⟩) hR hh (fun gg f2 hg2 hh2 he2 => ?_)
  simp (disch := omega) only [isK_wI, isA_wI, gR_wI, gI_wI, sI_wI, true_and, and_true, Option.some.injEq, exists_eq_left', forall_const, not_true_eq_false, not_false_eq_true, false_implies, true_implies, ne_eq, lit_nI, nI_add, pk_mul, pk_sub, pk_div, rem_n, nI_clamp, nI_leI, nI_ltI, nI_eq, in_nI, kb, g2, k8]
  have hRo' := RoSt_kp (I' := sAll I a gg) hNb.1 (fun c h1 h2 => sAll_ne (by omega)) hRo
  refine sp_Roadd hRoM hNu (NuSt_kp (kp_sAll (by omega)) hC.2.1) hC.2.2 hd10 hNb.1 hRo' ha (fun i hi => hla _ (atm_ok hi).1) hla2 han.1 (v := vec n ord d f2) (by rw [sAll_eq]; exact RepV_VR hg2) (fun i hi => if_neg (by omega)) (fun r I1 P1 e1 hr hRo1 hfr1 => ?_)
  rw [he2] at hRo1 hr
  have hfrA : ∀ c, c ≠ a → (c < 8 ∨ 77 < c) → I1 c = I c := fun c h1 h2 => by rw [hfr1 c h1 h2, sAll_ne h1]
  have hom := offer_math (N := nM n ord d) (Spn_sub _) hRo.2.1.1 hEs.ech hz (vec n ord d g)
  have hVs : Sub (VV n ord d (VP n G d)) := VV_sub (VP_sub _ _ _)
  have hadd : ∀ u, VV n ord d (VP n (Gadd G d g) d) u ↔ more (VV n ord d (VP n G d)) (vec n ord d g) u := fun u => (VV_cong VP_add u).trans (VV_more u)
  have hdm : ∀ t, (t = nI 1 ∧ ¬ R (red (Pih n ord d (ldmf n ord d ld)) (eff n ord d hd gl (ldmf n ord d ld)) (vec n ord d g) (nM n ord d)) → ndm n ord (Gadd G d g) d = ndm n ord G d + 1) ∧ (t = nI 0 ∧ R (red (Pih n ord d (ldmf n ord d ld)) (eff n ord d hd gl (ldmf n ord d ld)) (vec n ord d g) (nM n ord d)) → ndm n ord (Gadd G d g) d = ndm n ord G d) := by
    intro t
    have q1 : vdm n ord (Gb d (Gadd G d g)) d = vdm n ord (Gb d G) d := vdm_cong (fun e he f => by
      unfold Gb Gadd
      constructor
      · rintro ⟨z1, z2 | z2⟩
        · exact ⟨z1, z2⟩
        · omega
      · rintro ⟨z1, z2⟩; exact ⟨z1, Or.inl z2⟩)
    have q2 : vdm n ord (Gadd G d g) d = dm (nM n ord d) (more (VV n ord d (VP n G d)) (vec n ord d g)) := dm_cong hadd
    have q3 : vdm n ord (Gb d G) d ≤ vdm n ord G d := dm_mono (fun u ⟨f, a, b⟩ => ⟨f, VP_mono (fun e he g z => z.2) f a, b⟩)
    refine ⟨fun z => ?_, fun z => ?_⟩
    · have w : ¬ VV n ord d (VP n G d) (vec n ord d g) := fun y => z.2 (hom.2.2.mpr ((hEq _).mpr y))
      have q4 := dm_more1 hF hVs (VV_range _) (v := vec n ord d g) (fun i hi => if_neg (by omega)) w
      unfold ndm; rw [q1, q2, q4]; unfold vdm at q3 ⊢; omega
    · have w : VV n ord d (VP n G d) (vec n ord d g) := (hEq _).mp (hom.2.2.mp z.2)
      unfold ndm; rw [q1, q2, more_old hVs w]; rfl
  have hnd := hdm r
  have fin : ∀ I2, (∀ c, c ≠ b + 5 → I2 c = I1 c) → (∀ j, j ≠ d → I2 (b + 5) j = I1 (b + 5) j) → I2 (b + 5) d = nI (ndm n ord (Gadd G d g) d) → post (wI M I2) := by
    intro I2 hk hk8 hk9
    refine h I2 ⟨sz, dg, hd, gl, ld, _, ⟨?_, OpI_kp (fun c h1 h2 h3 => by rw [hk c (by omega), hfrA c (by omega) (by omega)]) hO, fun e he => ?_, hk9⟩, ⟨P1, e1, RoSt_kp hNb.1 (fun c h1 h2 => hk c (by omega)) hRo1⟩, BaT_cong (fun e he f => ⟨fun z => Or.inl z, fun z => by
      rcases z with z | z
      · exact z
      · omega⟩) hT, hom.1, fun u => ?_⟩ (fun c h1 h2 h3 => by rw [hk c (by omega), hfrA c h1 h2])
    · rw [hk b (by omega), hfrA b (by omega) (by omega)]; exact m12
    · refine BaD_cong (G := G) (fun e' he' f => ⟨fun z => Or.inl z, fun z => by
        rcases z with z | z
        · exact z
        · omega⟩) (BaD_kp ?_ ?_ ?_ (fun j hj => ?_) (by omega) (mD e he))
      · rw [hk _ (by omega), hfrA _ (by omega) (by omega)]
      · rw [hk _ (by omega), hfrA _ (by omega) (by omega)]
      · rw [hk8 e (by omega), hfrA _ (by omega) (by omega)]
      · rw [hk _ (by omega), hfrA _ (by omega) (by omega)]
    · exact (hom.2.1 u).trans ((more_iff hEq u).trans (hadd u).symm)
  unfold B_Ba_offer_27
  simp (disch := omega) only [isK_wI, isA_wI, gR_wI, gI_wI, sI_wI, true_and, and_true, Option.some.injEq, exists_eq_left', forall_const, not_true_eq_false, not_false_eq_true, false_implies, true_implies, ne_eq, lit_nI, nI_add, pk_mul, pk_sub, pk_div, rem_n, nI_clamp, nI_leI, nI_ltI, nI_eq, in_nI, kb, g11, isA_T a8]
  refine ⟨fun z => ?_, fun z => ?_⟩
  · refine fin I1 (fun c _ => rfl) (fun j _ => rfl) ?_
    rcases hr with ⟨r1, _⟩ | ⟨r1, r2⟩
    · rw [r1] at z; exact absurd z (by decide)
    · rw [hnd.2 ⟨r1, r2⟩, hfrA _ (by omega) (by omega)]; exact m8
  · rcases hr with ⟨r1, r2⟩ | ⟨r1, _⟩
    · refine fin _ (fun c hc => by unfold u2; rw [if_neg hc]) (fun j hj => u2_ne (by omega)) ?_
      rw [u2_eq, hnd.1 ⟨r1, r2⟩, hfrA _ (by omega) (by omega), m8, nI_add]
    · exact absurd r1 z
end BA7
