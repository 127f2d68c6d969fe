/-! Base: forget, what is asked -/
/-- how many elements below a degree -/
noncomputable def szc {p : Nat} [NeZero p] (n ord : Nat) (G : Nat → (Mo2 → Fin p) → Prop) : Nat → Nat
  | 0 => 0
  | d + 1 => szc n ord G d + ct (isnew n ord G d) (nM n ord d)
theorem BaT.szc {p : Nat} [NeZero p] {n ord r : Nat} {G : Nat → (Mo2 → Fin p) → Prop} {sz dg : Nat → Nat} {hd : Nat → Mo2} {gl : Nat → Mo2 → Fin p} {ld : Nat → Nat → Nat} (hT : BaT n ord G r sz dg hd gl ld) : ∀ d, d ≤ r → sz d = szc n ord G d
  | 0, _ => hT.1.1
  | d + 1, h => by
    rw [hT.1.2.2 d (by omega), hT.szc d (by omega)]; rfl
theorem BaT.low {p : Nat} [NeZero p] {n ord r r' : Nat} {G : Nat → (Mo2 → Fin p) → Prop} {sz dg : Nat → Nat} {hd : Nat → Mo2} {gl : Nat → Mo2 → Fin p} {ld : Nat → Nat → Nat} (hT : BaT n ord G r sz dg hd gl ld) (h : r' ≤ r) : BaT n ord G r' sz dg hd gl ld := by
  have hm := hT.szm h (Nat.le_refl r)
  obtain ⟨⟨t1, t2, t3⟩, t4, t5, t6, t7⟩ := hT
  exact ⟨⟨t1, by omega, fun d hd => t3 d (by omega)⟩, fun d hd => t4 d (by omega), fun k hk => t5 k (by omega), fun d hd => t6 d (by omega), fun d hd => t7 d (by omega)⟩
/-- the rest of v -/
def isRest {p : Nat} [NeZero p] (n ord : Nat) (G : Nat → (Mo2 → Fin p) → Prop) (d : Nat) (v w : Nat → Fin p) : Prop := VV n ord d (VP n G d) (fun j => v j - w j) ∧ ∀ j, leadB (VV n ord d (VP n G d)) j = true → w j = 0
/-- the reduced row with its head at i -/
def isRed {p : Nat} [NeZero p] (n ord : Nat) (G : Nat → (Mo2 → Fin p) → Prop) (d i : Nat) (f : Mo2 → Fin p) : Prop := VP n G d f ∧ vec n ord d f i = 1 ∧ ∀ j, j ≠ i → leadB (VV n ord d (VP n G d)) j = true → vec n ord d f j = 0
theorem vdm_le {p : Nat} [NeZero p] (n ord : Nat) (G : Nat → (Mo2 → Fin p) → Prop) (d : Nat) : vdm n ord G d ≤ nM n ord d := ct_le _ _
section BQ
variable {M : Mem} {I : Nat → Nat → Int32} {n ord p d b r : Nat}
theorem BaSt.le [NeZero p] {G : Nat → (Mo2 → Fin p) → Prop} (hSt : BaSt n ord b G r I) : r ≤ 11 := by
  obtain ⟨sz, dg, hd, gl, ld, hM, hT⟩ := hSt
  exact hT.1.2.1
theorem sp_reached [NeZero p] {G : Nat → (Mo2 → Fin p) → Prop} {post : Int32 → Mem → Prop} (hB : BaOK M b) (hSt : BaSt n ord b G r I) (h : post (nI r - 1) (wI M I)) : T_Ba_reached b (wI M I) post := by
  obtain ⟨sz, dg, hd, gl, ld, ⟨⟨m12, m13, mF⟩, mE, mD⟩, hT⟩ := hSt
  exact ⟨hB.2.1.1, by rw [gI_wI, m12]; exact h⟩
theorem BaSt_kp [NeZero p] {G : Nat → (Mo2 → Fin p) → Prop} {I' : Nat → Nat → Int32} (h : ∀ c, b ≤ c → c ≤ b + 7 → I' c = I c) (hSt : BaSt n ord b G r I) : BaSt n ord b G r I' := by
  obtain ⟨sz, dg, hd, gl, ld, ⟨⟨m12, m13, mF⟩, mE, mD⟩, hT⟩ := hSt
  have := hT.1.2.1
  exact ⟨sz, dg, hd, gl, ld, ⟨⟨by rw [h _ (by omega) (by omega)]; exact m12, by rw [h _ (by omega) (by omega)]; exact m13, by unfold FlS; rw [h _ (by omega) (by omega), h _ (by omega) (by omega)]; exact mF⟩, ElM_kp (fun c h1 h2 _ => h c h1 (by omega)) mE, fun d hd => BaD_kp (by rw [h _ (by omega) (by omega)]) (by rw [h _ (by omega) (by omega)]) (by rw [h _ (by omega) (by omega)]) (fun j _ => by rw [h _ (by omega) (by omega)]) (by omega) (mD d hd)⟩, hT⟩
theorem sp_forget [NeZero p] {G : Nat → (Mo2 → Fin p) → Prop} {post : Mem → Prop} (hB : BaOK M b) (hd : d ≤ 11) (hSt : BaSt n ord b G r I) (h : ∀ I', BaSt n ord b G (min r d) I' → (∀ c, c ≠ b → I' c = I c) → post (wI M I')) : T_Ba_forget b (nI d) (wI M I) post := by
  obtain ⟨⟨hb, hUq⟩, ⟨kb, g0, g1, g2, g3, g4, g5, g6, g7, g8, g9, g10, g11⟩, ⟨a1, a2, a3, a4, a5, a6, a7, a8⟩, a140⟩ := hB
  have hSt' := hSt
  obtain ⟨sz, dg, hdd, gl, ld, ⟨⟨m12, m13, mF⟩, mE, mD⟩, hT⟩ := hSt
  have hr := hT.1.2.1
  unfold T_Ba_forget B_Ba_forget_43
  refine ⟨kb, fun z => ?_, fun z => ?_⟩
  · rw [gI_wI, m12] at z
    have hrd : r ≤ d := by
      by_cases w : r = 0
      · omega
      · obtain ⟨r', rfl⟩ : ∃ r', r = r' + 1 := ⟨r - 1, by omega⟩
        rw [nI_pred, nI_ltI (by omega) (by omega)] at z; omega
    exact h I (by rw [Nat.min_eq_left hrd]; exact hSt') (fun c _ => rfl)
  · rw [gI_wI, m12] at z
    have hrd : d < r := by
      by_cases w : r = 0
      · exfalso; apply z
        rw [w]
        have : nI 0 - 1 < nI 0 := by decide
        by_cases y : d = 0
        · rw [y]; exact this
        · have h2 : nI 0 - 1 < nI d := by
            rw [Int32.lt_iff_toInt_lt, nI_toInt (by omega)]
            have : (nI 0 - 1).toInt = -1 := by decide
            omega
          exact h2
      · obtain ⟨r', rfl⟩ : ∃ r', r = r' + 1 := ⟨r - 1, by omega⟩
        rw [nI_pred, nI_ltI (by omega) (by omega)] at z; omega
    refine sp_max (a := d) (b := 0) (by omega) (by omega) ?_
    rw [Nat.max_eq_left (Nat.zero_le d)]
    have hszm := hT.szm (show d ≤ r by omega) (Nat.le_refl r)
    have fin : post (wI M (u2 (u2 I b 11 (nI d - 1)) b 12 (nI (sz d)))) := by
      refine h _ ?_ (fun c hc => by unfold u2; rw [if_neg hc, if_neg hc])
      rw [Nat.min_eq_right (by omega)]
      have hk : ∀ c, c ≠ b → u2 (u2 I b 11 (nI d - 1)) b 12 (nI (sz d)) c = I c := fun c hc => by unfold u2; rw [if_neg hc, if_neg hc]
      obtain ⟨⟨z3, z4, z5⟩, z6⟩ := mE
      refine ⟨sz, dg, hdd, gl, ld, ⟨⟨by rw [u2_ne (by omega), u2_eq], by rw [u2_eq], by unfold FlS; rw [hk _ (by omega), hk _ (by omega)]; exact ⟨fun _ => mF.1 (by omega), mF.2⟩⟩, ⟨⟨fun k hk2 => by rw [hk _ (by omega)]; exact z3 k (by omega), Nat.le_trans (stt_up hszm) z4, by omega⟩, fun k hk2 => ?_⟩, fun e he => BaD_kp (by rw [hk _ (by omega)]) (by rw [hk _ (by omega)]) (by rw [hk _ (by omega)]) (fun j _ => by rw [hk _ (by omega)]) (by omega) (mD e (by omega))⟩, hT.low (by omega)⟩
      obtain ⟨z7, z8⟩ := z6 k (by omega)
      exact ⟨by rw [hk _ (by omega)]; exact z7, fun j hj hne => by rw [hk _ (by omega)]; exact z8 j hj hne⟩
    unfold B_Ba_forget_40 B_Ba_forget_43
    by_cases y : d = 0
    · subst y
      have hz0 : sz 0 = 0 := hT.1.1
      rw [hz0] at fin
      simp only [isK_wI, isA_wI, gR_wI, gI_wI, sI_wI, true_and, kb, u2_eq]
      refine ⟨fun w => absurd w (by decide), fun _ => fin⟩
    · obtain ⟨d', rfl⟩ : ∃ d', d = d' + 1 := ⟨d - 1, by omega⟩
      have e6 := (mD d' (by omega)).1
      rw [nI_pred] at fin ⊢
      simp (disch := omega) only [isK_wI, isA_wI, gR_wI, gI_wI, sI_wI, true_and, and_true, Option.some.injEq, exists_eq_left', forall_const, not_true_eq_false, not_false_eq_true, false_implies, true_implies, ne_eq, lit_nI, nI_add, pk_mul, pk_sub, pk_div, rem_n, nI_clamp, nI_leI, nI_ltI, nI_eq, in_nI, kb, g9, u2_eq, u2_ne (show ¬ (b + 3 = b ∧ d' = 11) by omega), isA_T a6, e6]
      exact ⟨fun _ => fin, fun w => absurd (Nat.zero_le _) w⟩
theorem sp_sizeUpTo [NeZero p] {G : Nat → (Mo2 → Fin p) → Prop} {post : Int32 → Mem → Prop} (hB : BaOK M b) (hSt : BaSt n ord b G r I) (hd : d < r) (h : post (nI (szc n ord G (d + 1))) (wI M I)) : T_Ba_sizeUpTo b (nI d) (wI M I) post := by
  obtain ⟨⟨hb, hUq⟩, ⟨kb, g0, g1, g2, g3, g4, g5, g6, g7, g8, g9, g10, g11⟩, ⟨a1, a2, a3, a4, a5, a6, a7, a8⟩, a140⟩ := hB
  obtain ⟨sz, dg, hdd, gl, ld, ⟨⟨m12, m13, mF⟩, mE, mD⟩, hT⟩ := hSt
  have hr := hT.1.2.1
  have e6 := (mD d hd).1
  rw [hT.szc (d + 1) hd] at e6
  unfold T_Ba_sizeUpTo
  simp (disch := omega) only [isK_wI, isA_wI, gR_wI, gI_wI, sI_wI, true_and, and_true, Option.some.injEq, exists_eq_left', forall_const, not_true_eq_false, not_false_eq_true, false_implies, true_implies, ne_eq, lit_nI, nI_add, pk_mul, pk_sub, pk_div, rem_n, nI_clamp, nI_leI, nI_ltI, nI_eq, in_nI, kb, g9, isA_T a6, e6]
  exact h
theorem sp_standardCount [NeZero p] {G : Nat → (Mo2 → Fin p) → Prop} {post : Int32 → Mem → Prop} (hB : BaOK M b) (hSt : BaSt n ord b G r I) (hd : d < r) (h : post (nI (nM n ord d - vdm n ord G d)) (wI M I)) : T_Ba_standardCount b (nI d) (wI M I) post := by
  obtain ⟨⟨hb, hUq⟩, ⟨kb, g0, g1, g2, g3, g4, g5, g6, g7, g8, g9, g10, g11⟩, ⟨a1, a2, a3, a4, a5, a6, a7, a8⟩, a140⟩ := hB
  obtain ⟨sz, dg, hdd, gl, ld, ⟨⟨m12, m13, mF⟩, mE, mD⟩, hT⟩ := hSt
  have hr := hT.1.2.1
  have e7 := (mD d hd).2.1
  unfold T_Ba_standardCount
  simp (disch := omega) only [isK_wI, isA_wI, gR_wI, gI_wI, sI_wI, true_and, and_true, Option.some.injEq, exists_eq_left', forall_const, not_true_eq_false, not_false_eq_true, false_implies, true_implies, ne_eq, lit_nI, nI_add, pk_mul, pk_sub, pk_div, rem_n, nI_clamp, nI_leI, nI_ltI, nI_eq, in_nI, kb, g10, isA_T a7, e7]
  exact h
theorem sp_leadingCount [NeZero p] {G : Nat → (Mo2 → Fin p) → Prop} {post : Int32 → Mem → Prop} (hB : BaOK M b) (hP : PrOK M) (hS : PrSt n ord I) (hSt : BaSt n ord b G r I) (hd : d < r) (h : post (nI (vdm n ord G d)) (wI M I)) : T_Ba_leadingCount b (nI d) (wI M I) post := by
  obtain ⟨⟨hb, hUq⟩, ⟨kb, g0, g1, g2, g3, g4, g5, g6, g7, g8, g9, g10, g11⟩, ⟨a1, a2, a3, a4, a5, a6, a7, a8⟩, a140⟩ := hB
  obtain ⟨sz, dg, hdd, gl, ld, ⟨⟨m12, m13, mF⟩, mE, mD⟩, hT⟩ := hSt
  have hr := hT.1.2.1
  have e7 := (mD d hd).2.1
  have k1 := hP.1.1
  have hl := vdm_le n ord G d
  unfold T_Ba_leadingCount
  simp (disch := omega) only [isK_wI, isA_wI, gR_wI, gI_wI, sI_wI, true_and, and_true, Option.some.injEq, exists_eq_left', forall_const, not_true_eq_false, not_false_eq_true, false_implies, true_implies, ne_eq, lit_nI, nI_add, pk_mul, pk_sub, pk_div, rem_n, nI_clamp, nI_leI, nI_ltI, nI_eq, in_nI, kb, g0, k1]
  refine sp_amount hP hS (by omega) ?_
  simp (disch := omega) only [isK_wI, isA_wI, gR_wI, gI_wI, sI_wI, true_and, and_true, Option.some.injEq, exists_eq_left', forall_const, not_true_eq_false, not_false_eq_true, false_implies, true_implies, ne_eq, lit_nI, nI_add, pk_mul, pk_sub, pk_div, rem_n, nI_clamp, nI_leI, nI_ltI, nI_eq, in_nI, kb, g10, isA_T a7, e7]
  rw [show nM n ord d - (nM n ord d - vdm n ord G d) = vdm n ord G d by omega]
  exact h
theorem sp_neededRows [NeZero p] {G : Nat → (Mo2 → Fin p) → Prop} {post : Int32 → Mem → Prop} (hB : BaOK M b) (hSt : BaSt n ord b G r I) (hd : d < r) (h : post (nI (ndm n ord G d)) (wI M I)) : T_Ba_neededRows b (nI d) (wI M I) post := by
  obtain ⟨⟨hb, hUq⟩, ⟨kb, g0, g1, g2, g3, g4, g5, g6, g7, g8, g9, g10, g11⟩, ⟨a1, a2, a3, a4, a5, a6, a7, a8⟩, a140⟩ := hB
  obtain ⟨sz, dg, hdd, gl, ld, ⟨⟨m12, m13, mF⟩, mE, mD⟩, hT⟩ := hSt
  have hr := hT.1.2.1
  have e8 := (mD d hd).2.2.1
  unfold T_Ba_neededRows
  simp (disch := omega) only [isK_wI, isA_wI, gR_wI, gI_wI, sI_wI, true_and, and_true, Option.some.injEq, exists_eq_left', forall_const, not_true_eq_false, not_false_eq_true, false_implies, true_implies, ne_eq, lit_nI, nI_add, pk_mul, pk_sub, pk_div, rem_n, nI_clamp, nI_leI, nI_ltI, nI_eq, in_nI, kb, g11, isA_T a8, e8]
  exact h
theorem sp_isStandard [NeZero p] {G : Nat → (Mo2 → Fin p) → Prop} {i : Nat} {post : Int32 → Mem → Prop} (h1p : (1 : Fin p) ≠ 0) (hB : BaOK M b) (hSt : BaSt n ord b G r I) (hd : d < r) (hi : i < nM n ord d) (h : post (if leadB (VV n ord d (VP n G d)) i = true then 0 else 1) (wI M I)) : T_Ba_isStandard b (nI d) (nI (pl (atm n ord d i))) (wI M I) post := by
  obtain ⟨⟨hb, hUq⟩, ⟨kb, g0, g1, g2, g3, g4, g5, g6, g7, g8, g9, g10, g11⟩, ⟨a1, a2, a3, a4, a5, a6, a7, a8⟩, a140⟩ := hB
  obtain ⟨sz, dg, hdd, gl, ld, ⟨⟨m12, m13, mF⟩, mE, mD⟩, hT⟩ := hSt
  have hr := hT.1.2.1
  have e5 := (mD d hd).2.2.2 i hi
  have hE := (hT.2.2.2.1 d hd).1
  have hlB := congrFun (hE.lB h1p (VV_sub (VP_sub _ _ _))) i
  have pfr := pl_deg (show d ≤ 10 by omega) (atm_ok hi).1
  have hfr := fr_le d (by omega)
  have hld : ld d i ≤ 66 := by
    by_cases z : ld d i = 0
    · omega
    · have := ((hT.2.2.2.1 d hd).2 i z).1
      have := hT.szm (show d + 1 ≤ r by omega) (Nat.le_refl r)
      have := mE.1.2.2
      omega
  rw [hlB] at h
  unfold T_Ba_isStandard B_Ba_isStandard_20
  simp (disch := omega) only [isK_wI, isA_wI, gR_wI, gI_wI, sI_wI, true_and, and_true, Option.some.injEq, exists_eq_left', forall_const, not_true_eq_false, not_false_eq_true, false_implies, true_implies, ne_eq, lit_nI, nI_add, pk_mul, pk_sub, pk_div, rem_n, nI_clamp, nI_leI, nI_ltI, nI_eq, in_nI, kb, g8, fst_fr d (by omega), isZ_T a5 (by omega) (mF.2.mp (mF.1 (by omega))), e5]
  refine ⟨by omega, fun z => ⟨rfl, ?_⟩, fun z => ⟨rfl, ?_⟩⟩
  · rw [if_pos (by simpa using z)] at h; exact h
  · rw [if_neg (by simpa using z)] at h; exact h
theorem sp_restBy [NeZero p] {a la : Nat} {G : Nat → (Mo2 → Fin p) → Prop} {f : Mo2 → Fin p} {post : Mem → Prop} (hB : BaOK M b) (hM : MOK M) (hC : Cfg n ord p I) (hG : ∀ e g, G e g → hom n e g) (hSt : BaSt n ord b G r I) (hd : d < r) (ha : arr M a 8 la) (hla : ∀ m : Mo2, m.1 + m.2 ≤ d → pl m < la) (hla2 : la < 2147483648) (han : 8 ≤ a ∧ (a < b ∨ b + 7 < a)) (hR : RepV d (I a) f) (hh : hom n d f) (h : ∀ g f', RepV d g f' → hom n d f' → isRest n ord G d (vec n ord d f) (vec n ord d f') → post (wI M (sAll I a g))) : T_Ba_reduce b (nI d) a (wI M I) post := by
  have hp97 := (prm_lt hC.2.2).2
  have hF := prm_field hC.2.2
  obtain ⟨sz, dg, hdd, gl, ld, ⟨⟨m12, m13, mF⟩, mE, mD⟩, hT⟩ := hSt
  have hr := hT.1.2.1
  have hE := (hT.2.2.2.1 d hd).1
  have hVs : Sub (VV n ord d (VP n G d)) := VV_sub (VP_sub _ _ _)
  have hlB := hE.lB hF.1 hVs
  have hszm := hT.szm (show d + 1 ≤ r by omega) (Nat.le_refl r)
  refine sp_reduce (ld := ld d) (hd := hdd) hB hM.1 hM.2.1 hC.1 hC.2.1 hp97 hF.1 (by omega) ha hla hla2 han mE (fun k hk => (hT.2.2.1 k hk).F hG (by have := (hT.2.1 r (Nat.le_refl r)).1 k hk; omega)) (mF.2.mp (mF.1 (by omega))) (fun i hi => ⟨(mD d hd).2.2.2 i hi, fun z => ⟨by have := ((hT.2.2.2.1 d hd).2 i z).1; omega, ((hT.2.2.2.1 d hd).2 i z).2⟩⟩) hR hh (fun g f' hg hf' he => h g f' hg hf' ⟨?_, fun j hj => ?_⟩)
  · rw [he]; exact red_in (N := nM n ord d) hVs hE.inV _
  · rw [hlB] at hj
    rw [he]; exact red_zero (P := fun i => decide (ld d i ≠ 0)) hE.fam _ j (hE.1 j hj).1 hj
theorem sp_element [NeZero p] {a la k : Nat} {G : Nat → (Mo2 → Fin p) → Prop} {post : Mem → Prop} (hB : BaOK M b) (hC : Cfg n ord p I) (hG : ∀ e g, G e g → hom n e g) (hSt : BaSt n ord b G r I) (hk : k < szc n ord G r) (ha : arr M a 8 la) (hla : 66 ≤ la) (hla2 : la < 2147483648) (han : 8 ≤ a ∧ (a < b ∨ b + 7 < a)) (h : ∀ e i g f, e < r → i < nM n ord e → isnew n ord G e i = true → k = eix n ord G (szc n ord G) e i → isRed n ord G e i f → hom n e f → RepV e g f → (∀ post' : Int32 → Mem → Prop, post' (nI e) (wI M (sAll I a g)) → T_Ba_degreeOf b (nI k) (wI M (sAll I a g)) post') → post (wI M (sAll I a g))) : T_Ba_loadElement b (nI k) a (wI M I) post := by
  have hp97 := (prm_lt hC.2.2).2
  have hF := prm_field hC.2.2
  obtain ⟨sz, dg, hdd, gl, ld, ⟨⟨m12, m13, mF⟩, mE, mD⟩, hT⟩ := hSt
  have hr := hT.1.2.1
  have hszr := hT.szc r (Nat.le_refl r)
  rw [← hszr] at hk
  obtain ⟨e, i, e1, e2, e3, e4⟩ := hT.ex r (Nat.le_refl r) k hk
  obtain ⟨f1, f2, f3⟩ := hT.2.2.2.2 e e1 i e2 e3
  rw [← e4] at f1 f2 f3
  have hEl := hT.2.2.1 k hk
  have h66 := mE.1.2.2
  refine sp_loadElement (dg := dg) (gl := gl) (hk := hdd k) hB hp97 ha hla hla2 han mE hk (hEl.F hG (by omega)) (fun g hg => ?_)
  rw [f1] at hg hEl
  have hat : vec n ord e (gl k) i = 1 := by
    unfold vec; rw [if_pos e2, ← f2]; exact hEl.2.2.1
  refine h e i g (gl k) e1 e2 e3 ?_ ⟨hEl.2.1, hat, f3⟩ (VP_hom hG _ hEl.2.1) hg (fun post' hpo => ?_)
  · rw [e4]; unfold eix; rw [hT.szc e (by omega)]
  · obtain ⟨⟨hb, hUq⟩, ⟨kb, g0, g1, g2, g3, g4, g5, g6, g7, g8, g9, g10, g11⟩, ⟨a1, a2, a3, a4, a5, a6, a7, a8⟩, a140⟩ := hB
    have e7 := (mE.2 k hk).1
    rw [f1] at e7
    unfold T_Ba_degreeOf
    simp (disch := omega) only [isK_wI, isA_wI, gR_wI, gI_wI, sI_wI, true_and, and_true, Option.some.injEq, exists_eq_left', forall_const, not_true_eq_false, not_false_eq_true, false_implies, true_implies, ne_eq, lit_nI, nI_add, pk_mul, pk_sub, pk_div, rem_n, nI_clamp, nI_leI, nI_ltI, nI_eq, in_nI, kb, g7, isA_T a4, sAll_ne (show b + 2 ≠ a by omega), e7]
    exact hpo
end BQ
