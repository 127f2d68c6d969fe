/-! Base: append, close, forget, what is asked -/
section BA9
variable {M : Mem} {I : Nat → Nat → Int32} {n ord p d b s : Nat} {dg : Nat → Nat}
theorem sp_append [NeZero p] {gl : Nat → Mo2 → Fin p} {R : (Nat → Fin p) → Prop} {Q : Nat → Bool} {e : Nat → Nat → Fin p} {i : Nat} {post : Mem → Prop} (hB : BaOK M b) (hM : MOK M) (hC : Cfg n ord p I) (hd10 : d ≤ 10) (hRo : RoSt n ord d R Q e I) (hFl : Fl b I) (hEl : ElM n ord b s dg gl I) (h13 : I b 12 = nI s) (hs : s < 66) (hst : stt n ord dg gl s + (nM n ord d - i) ≤ 2560) (hi : i < nM n ord d) (hQ : Q i = true) (hdg : dg s = d) (hgl : gl s = unv n ord d (e i))
    (h : ∀ I', Fl b I' → ElM n ord b (s + 1) dg gl I' → I' b 12 = nI (s + 1) → (∀ j, j ≠ 12 → I' b j = I b j) → I' (b + 7) = upd (I (b + 7)) (fr d + pl (atm n ord d i)) (nI (s + 1)) → (∀ c, (c < b ∨ b + 7 < c ∨ (b + 3 ≤ c ∧ c ≤ b + 5)) → I' c = I c) → post (wI M I')) : T_Ba_append b (nI d) (nI i) (wI M I) post := by
  have hB' := hB
  obtain ⟨⟨hb, hUq⟩, ⟨kb, g0, g1, g2, g3, g4, g5, g6, g7, g8, g9, g10, g11⟩, ⟨a1, a2, a3, a4, a5, a6, a7, a8⟩, a140⟩ := hB'
  obtain ⟨hP, hNu, hRoM⟩ := hM
  have k8 := hRoM.1.1
  have k1 := hP.1.1
  have hp97 := (prm_lt hC.2.2).2
  have hNb := nM_b hC.1 hd10
  have hfr := fr_le d (by omega)
  have hok := atm_ok hi
  have pfr := pl_deg hd10 hok.1
  have pa := pl66 (ord := ord) hd10 hi
  have hEl' := hEl
  obtain ⟨⟨e3, hst0, _⟩, hEk⟩ := hEl'
  have q3 := e3 s (Nat.le_refl s)
  have hve : vec n ord (dg s) (gl s) = e i := by rw [hdg, hgl, vec_unv (hRo.2.1.2.1 _ (hRo.2.1.2.2.1.1 i hQ).2.1)]
  have hnz : nzc n ord (dg s) (gl s) = ct (Qf (e i)) (nM n ord d) := by unfold nzc; rw [hve, hdg]
  have hc0 : ct (Qf (e i)) i = 0 := ct_none (fun j hj => Qf_f.mpr ((hRo.2.1.2.2.1.1 i hQ).2.2.2 j hj))
  have hcle : ct (Qf (e i)) (nM n ord d) ≤ nM n ord d - i := by
    have := ct_split (Qf (e i)) i (nM n ord d - i)
    rw [show i + (nM n ord d - i) = nM n ord d by omega] at this
    have := ct_le (fun k => Qf (e i) (i + k)) (nM n ord d - i)
    omega
  unfold T_Ba_append B_Ba_append_35
  simp (disch := omega) only [isK_wI, isA_wI, gR_wI, gI_wI, sI_wI, true_and, and_true, Option.some.injEq, exists_eq_left', forall_const, not_true_eq_false, not_false_eq_true, false_implies, true_implies, ne_eq, lit_nI, nI_add, pk_mul, pk_sub, pk_div, rem_n, nI_clamp, nI_leI, nI_ltI, nI_eq, in_nI, kb, g0, g6, k1, h13, isA_T a3, q3]
  refine ⟨fun z => absurd z (by omega), fun _ => sp_amount hP hC.1 hd10 ?_⟩
  simp (disch := omega) only [isK_wI, isA_wI, gR_wI, gI_wI, sI_wI, true_and, and_true, Option.some.injEq, exists_eq_left', forall_const, not_true_eq_false, not_false_eq_true, false_implies, true_implies, ne_eq, lit_nI, nI_add, pk_mul, pk_sub, pk_div, rem_n, nI_clamp, nI_leI, nI_ltI, nI_eq, in_nI, kb, g0, g6, k1, h13, isA_T a3, q3]
  refine ⟨fun _ => sp_at hP hC.1 hd10 hi ?_, fun z => absurd (by omega) z⟩
  simp (disch := omega) only [isK_wI, isA_wI, gR_wI, gI_wI, sI_wI, true_and, and_true, Option.some.injEq, exists_eq_left', forall_const, not_true_eq_false, not_false_eq_true, false_implies, true_implies, ne_eq, lit_nI, nI_add, pk_mul, pk_sub, pk_div, rem_n, nI_clamp, nI_leI, nI_ltI, nI_eq, in_nI, kb, g6, h13, isA_T a3, q3]
  have key : ∀ r j A, j + r = nM n ord d → i ≤ j → A 2147483648 = 1 → (∀ x, x < stt n ord dg gl s → A x = I (b + 6) x) → (∀ j', j' < j → e i j' ≠ 0 → A (stt n ord dg gl s + ct (Qf (e i)) j') = nI (128 * (e i j').val + pl (atm n ord d j'))) → L_Ba_append_60 post (r + 1) b (nI d) (nI (pl (atm n ord d i))) (nI (stt n ord dg gl s + ct (Qf (e i)) j)) (nI j) (wI M (sAll I (b + 6) A)) := by
    intro r
    induction r with
    | zero =>
      intro j A hj hij hA0 hA hAB
      have hjN : j = nM n ord d := by omega
      subst hjN
      have hf : ∀ c, c ≠ b + 6 → sAll I (b + 6) A c = I c := fun c h1 => sAll_ne h1
      have hS' := PrSt_kp (fun c hc => hf c (by omega)) hC.1
      show B_Ba_append_60 _ post b _ _ _ _ _
      unfold B_Ba_append_60
      simp (disch := omega) only [isK_wI, isA_wI, gR_wI, gI_wI, sI_wI, true_and, and_true, Option.some.injEq, exists_eq_left', forall_const, not_true_eq_false, not_false_eq_true, false_implies, true_implies, ne_eq, lit_nI, nI_add, pk_mul, pk_sub, pk_div, rem_n, nI_clamp, nI_leI, nI_ltI, nI_eq, in_nI, kb, g0, k1]
      refine sp_amount hP hS' hd10 ?_
      simp (disch := omega) only [isK_wI, isA_wI, gR_wI, gI_wI, sI_wI, true_and, and_true, Option.some.injEq, exists_eq_left', forall_const, not_true_eq_false, not_false_eq_true, false_implies, true_implies, ne_eq, lit_nI, nI_add, pk_mul, pk_sub, pk_div, rem_n, nI_clamp, nI_leI, nI_ltI, nI_eq, in_nI, kb, g6, g7, g8, hf b (by omega), h13, isA_T a4, isA_T a3, isZ_u2, isZ_sA (show b + 7 ≠ b + 6 by omega), isZ_T a5 (by omega) hFl.2, fst_fr d (by omega), u2_eq, u2_ne (show ¬ (b = b + 2 ∧ 12 = s) by omega), u2_ne (show ¬ (b = b + 1 ∧ 12 = s + 1) by omega)]
      refine ⟨fun _ => ⟨by omega, ?_⟩, fun z => absurd (Nat.le_refl _) z⟩
      obtain ⟨I', hI'⟩ : ∃ I', I' = u2 (u2 (u2 (u2 (sAll I (b + 6) A) (b + 2) s (nI d)) b 12 (nI (s + 1))) (b + 1) (s + 1) (nI (stt n ord dg gl s + ct (Qf (e i)) (nM n ord d)))) (b + 7) (fr d + pl (atm n ord d i)) (nI (s + 1)) := ⟨_, rfl⟩
      rw [← hI']
      have i6 : I' (b + 6) = A := by rw [hI']; unfold u2; rw [if_neg (by omega), if_neg (by omega), if_neg (by omega), if_neg (by omega), sAll_eq]
      have i7 : I' (b + 7) = upd (I (b + 7)) (fr d + pl (atm n ord d i)) (nI (s + 1)) := by
        rw [hI']; unfold u2; rw [if_pos rfl, if_neg (by omega), if_neg (by omega), if_neg (by omega), hf _ (by omega)]
      have i2 : I' (b + 2) = upd (I (b + 2)) s (nI d) := by
        rw [hI']; unfold u2; rw [if_neg (by omega), if_neg (by omega), if_neg (by omega), if_pos rfl, hf _ (by omega)]
      have i1 : I' (b + 1) = upd (I (b + 1)) (s + 1) (nI (stt n ord dg gl s + ct (Qf (e i)) (nM n ord d))) := by
        rw [hI']; unfold u2; rw [if_neg (by omega), if_pos rfl, if_neg (by omega), if_neg (by omega), hf _ (by omega)]
      have i0 : I' b = upd (I b) 12 (nI (s + 1)) := by
        rw [hI']; unfold u2; rw [if_neg (by omega), if_neg (by omega), if_pos rfl, if_neg (by omega), hf _ (by omega)]
      refine h I' ⟨by rw [i6]; exact hA0, by rw [i7, upd_ne (by omega)]; exact hFl.2⟩ ⟨⟨fun k hk => ?_, ?_, by omega⟩, fun k hk => ?_⟩ (by rw [i0, upd_eq]) (fun j hj => by rw [i0, upd_ne hj]) i7 (fun c hc => ?_)
      · rw [i1]
        by_cases z : k = s + 1
        · subst z; rw [upd_eq]; show _ = nI (stt n ord dg gl s + nzc n ord (dg s) (gl s)); rw [hnz]
        · rw [upd_ne z]; exact e3 k (by omega)
      · show stt n ord dg gl s + nzc n ord (dg s) (gl s) ≤ 2560
        rw [hnz]; omega
      · by_cases z : k = s
        · subst z
          refine ⟨by rw [i2, upd_eq, hdg], fun j hj hne => ?_⟩
          rw [hve] at hne ⊢
          rw [hdg] at hj ⊢
          rw [i6]
          exact ⟨hA0, hAB j hj hne⟩
        · obtain ⟨z7, z8⟩ := hEk k (by omega)
          refine ⟨by rw [i2, upd_ne z]; exact z7, fun j hj hne => ?_⟩
          have w1 := ct_succ_t (Q := Qf (vec n ord (dg k) (gl k))) (j := j) (Qf_iff.mpr hne)
          have w2 := ct_up (Q := Qf (vec n ord (dg k) (gl k))) (show j + 1 ≤ nM n ord (dg k) by omega)
          have w3 := stt_up (n := n) (ord := ord) (dg := dg) (gl := gl) (show k + 1 ≤ s by omega)
          have w4 : stt n ord dg gl (k + 1) = stt n ord dg gl k + ct (Qf (vec n ord (dg k) (gl k))) (nM n ord (dg k)) := rfl
          rw [i6]
          exact ⟨hA0, by rw [hA _ (by omega)]; exact (z8 j hj hne).2⟩
      · rw [hI']
        unfold u2
        rw [if_neg (by omega), if_neg (by omega), if_neg (by omega), if_neg (by omega), hf _ (by omega)]
    | succ r ih =>
      intro j A hj hij hA0 hA hAB
      have hj2 : j < nM n ord d := by omega
      have hf : ∀ c, c ≠ b + 6 → sAll I (b + 6) A c = I c := fun c h1 => sAll_ne h1
      have hS' := PrSt_kp (fun c hc => hf c (by omega)) hC.1
      have hRo' := RoSt_kp (I' := sAll I (b + 6) A) hNb.1 (fun c h1 h2 => hf c (by omega)) hRo
      have hcj := ct_up (Q := Qf (e i)) (show j ≤ nM n ord d by omega)
      have hvj := (e i j).isLt
      have plj := pl66 (ord := ord) hd10 hj2
      have hfz : sAll I (b + 6) A (b + 6) 2147483648 = 1 := by rw [sAll_eq]; exact hA0
      show B_Ba_append_60 (L_Ba_append_60 post (r + 1)) post b _ _ _ _ _
      unfold B_Ba_append_60 B_Ba_append_120
      simp (disch := omega) only [isK_wI, isA_wI, gR_wI, gI_wI, sI_wI, true_and, and_true, Option.some.injEq, exists_eq_left', forall_const, not_true_eq_false, not_false_eq_true, false_implies, true_implies, ne_eq, lit_nI, nI_add, pk_mul, pk_sub, pk_div, rem_n, nI_clamp, nI_leI, nI_ltI, nI_eq, in_nI, kb, g0, k1]
      refine sp_amount hP hS' hd10 ?_
      simp (disch := omega) only [isK_wI, isA_wI, gR_wI, gI_wI, sI_wI, true_and, and_true, Option.some.injEq, exists_eq_left', forall_const, not_true_eq_false, not_false_eq_true, false_implies, true_implies, ne_eq, lit_nI, nI_add, pk_mul, pk_sub, pk_div, rem_n, nI_clamp, nI_leI, nI_ltI, nI_eq, in_nI, kb, g0, k1]
      refine ⟨fun z => absurd z (by omega), fun _ => sp_at hP hS' hd10 hj2 ?_⟩
      simp (disch := omega) only [isK_wI, isA_wI, gR_wI, gI_wI, sI_wI, true_and, and_true, Option.some.injEq, exists_eq_left', forall_const, not_true_eq_false, not_false_eq_true, false_implies, true_implies, ne_eq, lit_nI, nI_add, pk_mul, pk_sub, pk_div, rem_n, nI_clamp, nI_leI, nI_ltI, nI_eq, in_nI, kb, g2, k8]
      refine sp_RonumberAt hRoM hd10 hNb.1 hRo' hi hQ hj2 ?_
      simp (disch := omega) only [isK_wI, isA_wI, gR_wI, gI_wI, sI_wI, true_and, and_true, Option.some.injEq, exists_eq_left', forall_const, not_true_eq_false, not_false_eq_true, false_implies, true_implies, ne_eq, lit_nI, nI_add, pk_mul, pk_sub, pk_div, rem_n, nI_clamp, nI_leI, nI_ltI, nI_eq, in_nI, kb, g4, k8, vz hp97]
      refine ⟨fun z => ?_, fun z => ?_⟩
      · have hih := ih (j + 1) A (by omega) (by omega) hA0 hA (fun j' hj' hne => by
          by_cases y : j' = j
          · rw [y] at hne; exact absurd z hne
          · exact hAB j' (by omega) hne)
        rw [ct_succ_f (Qf_f.mpr z)] at hih
        exact hih
      · have w1 := ct_succ_t (Qf_iff.mpr z)
        have w2 := ct_up (Q := Qf (e i)) (show j + 1 ≤ nM n ord d by omega)
        simp (disch := omega) only [isK_wI, isA_wI, gR_wI, gI_wI, sI_wI, true_and, and_true, Option.some.injEq, exists_eq_left', forall_const, not_true_eq_false, not_false_eq_true, false_implies, true_implies, ne_eq, lit_nI, nI_add, pk_mul, pk_sub, pk_div, rem_n, nI_clamp, nI_leI, nI_ltI, nI_eq, in_nI, isZ_T a1 (by omega) hfz, pkO, u2_sAll]
        have hih := ih (j + 1) (upd A (stt n ord dg gl s + ct (Qf (e i)) j) (nI (128 * (e i j).val + pl (atm n ord d j)))) (by omega) (by omega) (by rw [upd_ne (by omega)]; exact hA0) (fun x hx => by rw [upd_ne (by omega)]; exact hA x hx) (fun j' hj' hne => by
          by_cases y : j' = j
          · subst y; rw [upd_eq]
          · have v1 := ct_succ_t (Qf_iff.mpr hne)
            have v2 := ct_up (Q := Qf (e i)) (show j' + 1 ≤ j by omega)
            rw [upd_ne (by omega)]; exact hAB j' (by omega) hne)
        rw [w1, ← Nat.add_assoc] at hih
        exact hih
  have hend := key (nM n ord d - i) i (I (b + 6)) (by omega) (Nat.le_refl i) hFl.1 (fun x hx => rfl) (fun j' hj' hne => absurd ((hRo.2.1.2.2.1.1 i hQ).2.2.2 j' hj') hne)
  rw [sAll_self, hc0, Nat.add_zero] at hend
  exact ⟨_, hend⟩
theorem ct_sub_t {Q : Nat → Bool} {t N : Nat} (h : Q t = true) (ht : t + 1 ≤ N) : ct Q N - ct Q t = ct Q N - ct Q (t + 1) + 1 := by
  have := ct_succ_t h
  have := ct_up (Q := Q) ht
  omega
theorem m1n (x : Int32) : x + -nI 1 = x - 1 := m1_eq x
theorem qs_le : ∀ d, d < 12 → qs d ≤ 1071 := by decide +kernel
theorem sp_close [NeZero p] {G : Nat → (Mo2 → Fin p) → Prop} {post : Mem → Prop} (hB : BaOK M b) (hM : MOK M) (hC : Cfg n ord p I) (hd10 : d ≤ 10) (hG : ∀ e g, G e g → hom n e g) (hSt : BaOp n ord b G d I) (h : ∀ I', BaSt n ord b G (d + 1) I' → (∀ c, (c < b ∨ b + 7 < c) → I' c = I c) → post (wI M I')) : T_Ba_close b (nI d) (wI M I) post := by
  have hB' := hB
  obtain ⟨⟨hb, hUq⟩, ⟨kb, g0, g1, g2, g3, g4, g5, g6, g7, g8, g9, g10, g11⟩, ⟨a1, a2, a3, a4, a5, a6, a7, a8⟩, a140⟩ := hB'
  have hM' := hM
  obtain ⟨hP, hNu, hRoM⟩ := hM'
  have k8 := hRoM.1.1
  have k1 := hP.1.1
  have hF := prm_field hC.2.2
  have hNb := nM_b hC.1 hd10
  have hfr := fr_le d (by omega)
  obtain ⟨sz, dg, hd, gl, ld, R, ⟨m12, ⟨⟨o1, o2⟩, o3, o4⟩, mD, m8⟩, ⟨Q, e, hRo⟩, hT, hz, hEq⟩ := hSt
  have hRo' := hRo
  obtain ⟨_, ⟨hRs, hRr0, hE, hRr⟩, _⟩ := hRo'
  have h66 := o2.1.2.2
  obtain ⟨hT2, hnew, hvdm⟩ := close_math hF.1 hC.1.1.1.2 hC.1.1.2 hd10 hG hT h66 hRs hRr0 hE hRr hz hEq
  have hsz : szF n ord d Q sz (d + 1) = sz d + ct Q (nM n ord d) := if_neg (by omega)
  have h66b := hT2.le66 hF.1
  rw [hsz] at h66b
  have hqs := qs_le (d + 1) (by omega)
  have hbd : ∀ j, j ≤ ct Q (nM n ord d) → stt n ord (dgF (sz d) d dg) (glF n ord d (sz d) Q e gl) (sz d + j) ≤ 2457 := fun j hj => by
    have q1 := stt_up (n := n) (ord := ord) (dg := dgF (sz d) d dg) (gl := glF n ord d (sz d) Q e gl) (show sz d + j ≤ sz d + ct Q (nM n ord d) by omega)
    have q2 := (hT2.2.1 (d + 1) (Nat.le_refl _)).2
    rw [hsz] at q2
    omega
  have hEs := hT.els hG h66
  have hLd : ∀ i, i < nM n ord d → ihf n ord d (ldmf n ord d ld) i ≤ 66 := fun i hi => by
    by_cases z : ihf n ord d (ldmf n ord d ld) i = 0
    · omega
    · have := (hEs.ih z).2.1; omega
  have hQP : ∀ i, Q i = true → Pih n ord d (ldmf n ord d ld) i = false := fun i hi => by
    cases z : Pih n ord d (ldmf n ord d ld) i
    · rfl
    · have := hz _ (hE.1 i hi).2.1 i z
      rw [(hE.1 i hi).2.2.1] at this
      exact absurd this hF.1
  unfold T_Ba_close
  simp (disch := omega) only [isK_wI, isA_wI, gR_wI, gI_wI, sI_wI, true_and, and_true, Option.some.injEq, exists_eq_left', forall_const, not_true_eq_false, not_false_eq_true, false_implies, true_implies, ne_eq, lit_nI, nI_add, pk_mul, pk_sub, pk_div, rem_n, nI_clamp, nI_leI, nI_ltI, nI_eq, in_nI, kb, g0, k1]
  refine sp_amount hP hC.1 hd10 ?_
  have key : ∀ t I', t ≤ nM n ord d → (∀ c, (c < b ∨ b + 7 < c ∨ (b + 3 ≤ c ∧ c ≤ b + 5)) → I' c = I c) → (∀ j, j ≠ 12 → I' b j = I b j) → Fl b I' → I' b 12 = nI (sz d + (ct Q (nM n ord d) - ct Q t)) → ElM n ord b (sz d + (ct Q (nM n ord d) - ct Q t)) (dgF (sz d) d dg) (glF n ord d (sz d) Q e gl) I' → (∀ j, j < fr d → I' (b + 7) j = I (b + 7) j) → (∀ i, i < nM n ord d → I' (b + 7) (fr d + pl (atm n ord d i)) = nI (if t ≤ i then ldF n ord d Q (ldmf n ord d ld) sz ld d i else ihf n ord d (ldmf n ord d ld) i)) → L_Ba_close_13 post (t + 1) b (nI d) (nI (ct (fun i => Pih n ord d (ldmf n ord d ld) i || Q i) (nM n ord d) - ct (fun i => Pih n ord d (ldmf n ord d ld) i || Q i) t)) (nI t - 1) (wI M I') := by
    intro t
    induction t with
    | zero =>
      intro I' _ hf hf12 hFl h13 hEl hlo hld
      have hS' := PrSt_kp (fun c hc => hf c (by omega)) hC.1
      have e0 : ct (fun i => Pih n ord d (ldmf n ord d ld) i || Q i) 0 = 0 := rfl
      have e0' : ct Q 0 = 0 := rfl
      rw [e0, Nat.sub_zero]
      rw [e0', Nat.sub_zero] at h13 hEl
      show B_Ba_close_13 _ post b _ _ _ _
      unfold B_Ba_close_13
      have hneg : nI 0 - 1 < 0 := by decide
      refine ⟨fun _ => ?_, fun z => absurd hneg z⟩
      simp (disch := omega) only [isK_wI, isA_wI, gR_wI, gI_wI, sI_wI, true_and, and_true, Option.some.injEq, exists_eq_left', forall_const, not_true_eq_false, not_false_eq_true, false_implies, true_implies, ne_eq, lit_nI, nI_add, pk_mul, pk_sub, pk_div, rem_n, nI_clamp, nI_leI, nI_ltI, nI_eq, in_nI, kb, g0, g10, k1]
      refine sp_amount hP hS' hd10 ?_
      have hle := ct_le (fun i => Pih n ord d (ldmf n ord d ld) i || Q i) (nM n ord d)
      simp (disch := omega) only [isK_wI, isA_wI, gR_wI, gI_wI, sI_wI, true_and, and_true, Option.some.injEq, exists_eq_left', forall_const, not_true_eq_false, not_false_eq_true, false_implies, true_implies, ne_eq, lit_nI, nI_add, pk_mul, pk_sub, pk_div, rem_n, nI_clamp, nI_leI, nI_ltI, nI_eq, in_nI, kb, g9, isA_T a6, isA_T a7, u2_ne (show ¬ (b = b + 4 ∧ 12 = d) by omega), h13]
      refine h _ ⟨szF n ord d Q sz, dgF (sz d) d dg, hdF n ord d (sz d) Q hd, glF n ord d (sz d) Q e gl, ldF n ord d Q (ldmf n ord d ld) sz ld, ⟨⟨?_, ?_, fun _ => by rw [u2_ne (by omega), u2_ne (by omega), u2_ne (by omega)]; exact hFl.1, fun _ => by rw [u2_ne (by omega), u2_ne (by omega), u2_ne (by omega)]; exact hFl.2, fun _ => by rw [u2_ne (by omega), u2_ne (by omega), u2_ne (by omega)]; exact hFl.1⟩, ?_, fun c hc => ?_⟩, hT2⟩ ?_
      · rw [u2_eq]
        show nI d = nI (d + 1) - nI 1
        rw [pk_sub (by omega)]; rfl
      · rw [u2_ne (by omega), u2_ne (by omega), u2_ne (by omega), h13, hsz]
      · rw [hsz]
        refine ElM_kp4 (fun c h1 h2 h3 => ?_) hEl
        unfold u2; rw [if_neg (by omega), if_neg (by omega), if_neg (by omega)]
      · by_cases z : c = d
        · subst z
          refine ⟨?_, ?_, ?_, fun i hi => ?_⟩
          · rw [u2_ne (by omega), u2_eq, hsz]
          · rw [u2_ne (by omega), u2_ne (by omega), u2_eq, hvdm]
          · rw [u2_ne (by omega), u2_ne (by omega), u2_ne (by omega), hf _ (by omega)]; exact m8
          · rw [u2_ne (by omega), u2_ne (by omega), u2_ne (by omega), hld i hi, if_pos (Nat.zero_le i)]
        · obtain ⟨d1, d2, d3, d4⟩ := mD c (by omega)
          refine ⟨?_, ?_, ?_, fun i hi => ?_⟩
          · rw [u2_ne (by omega), u2_ne (by omega), u2_ne (by omega), hf _ (by omega), d1]
            unfold szF; rw [if_pos (by omega)]
          · rw [u2_ne (by omega), u2_ne (by omega), u2_ne (by omega), hf _ (by omega), d2]
          · rw [u2_ne (by omega), u2_ne (by omega), u2_ne (by omega), hf _ (by omega), d3]
          · have w4 := pl_deg (show c ≤ 10 by omega) (atm_ok hi).1
            have w5 := fr_mono d (by omega) c (by omega)
            rw [u2_ne (by omega), u2_ne (by omega), u2_ne (by omega), hlo _ (by omega), d4 i hi]
            unfold ldF; rw [if_neg z]
      · intro c hc
        unfold u2; rw [if_neg (by omega), if_neg (by omega), if_neg (by omega)]; exact hf c (by omega)
    | succ t ih =>
      intro I' ht hf hf12 hFl h13 hEl hlo hld
      have ht2 : t < nM n ord d := by omega
      have hC' : Cfg n ord p I' := Cfg_kp (fun c hc => hf c (by omega)) hC
      have hRo2 := RoSt_kp (I' := I') hNb.1 (fun c h1 h2 => hf c (by omega)) hRo
      have hok := atm_ok ht2
      have pfr := pl_deg hd10 hok.1
      show B_Ba_close_13 (L_Ba_close_13 post (t + 1)) post b _ _ _ _
      rw [nI_pred]
      unfold B_Ba_close_13
      simp (disch := omega) only [isK_wI, isA_wI, gR_wI, gI_wI, sI_wI, true_and, and_true, Option.some.injEq, exists_eq_left', forall_const, not_true_eq_false, not_false_eq_true, false_implies, true_implies, ne_eq, lit_nI, nI_add, pk_mul, pk_sub, pk_div, rem_n, nI_clamp, nI_leI, nI_ltI, nI_eq, in_nI, kb, g0, g2, k1]
      refine ⟨fun z => absurd z (by omega), fun _ => sp_at hP hC'.1 hd10 ht2 ?_⟩
      simp (disch := omega) only [isK_wI, isA_wI, gR_wI, gI_wI, sI_wI, true_and, and_true, Option.some.injEq, exists_eq_left', forall_const, not_true_eq_false, not_false_eq_true, false_implies, true_implies, ne_eq, lit_nI, nI_add, pk_mul, pk_sub, pk_div, rem_n, nI_clamp, nI_leI, nI_ltI, nI_eq, in_nI, k8]
      refine sp_hasHead hRoM hd10 hNb.1 hRo2 ht2 ?_
      -- the count, and on
      have cont : ∀ I'', (∀ c, (c < b ∨ b + 7 < c ∨ (b + 3 ≤ c ∧ c ≤ b + 5)) → I'' c = I c) → (∀ j, j ≠ 12 → I'' b j = I b j) → Fl b I'' → I'' b 12 = nI (sz d + (ct Q (nM n ord d) - ct Q t)) → ElM n ord b (sz d + (ct Q (nM n ord d) - ct Q t)) (dgF (sz d) d dg) (glF n ord d (sz d) Q e gl) I'' → (∀ j, j < fr d → I'' (b + 7) j = I (b + 7) j) → (∀ i, i < nM n ord d → I'' (b + 7) (fr d + pl (atm n ord d i)) = nI (if t ≤ i then ldF n ord d Q (ldmf n ord d ld) sz ld d i else ihf n ord d (ldmf n ord d ld) i)) → B_Ba_close_42 (L_Ba_close_13 post (t + 1)) post b (nI d) (nI (ct (fun i => Pih n ord d (ldmf n ord d ld) i || Q i) (nM n ord d) - ct (fun i => Pih n ord d (ldmf n ord d ld) i || Q i) (t + 1))) (nI t) (wI M I'') := by
        intro I'' hf' hf12' hFl' h13' hEl' hlo' hld'
        have hS'' := PrSt_kp (fun c hc => hf' c (by omega)) hC.1
        have hgo := ih I'' (by omega) hf' hf12' hFl' h13' hEl' hlo' hld'
        have e1 := hld' t ht2
        rw [if_pos (Nat.le_refl t)] at e1
        have e2 : ldF n ord d Q (ldmf n ord d ld) sz ld d t ≤ 67 := by
          unfold ldF; rw [if_pos rfl]; split
          · have := ct_up (Q := Q) (show t + 1 ≤ nM n ord d by omega)
            have := ct_succ_t (Q := Q) (j := t) (by assumption)
            omega
          · have := hLd t ht2; omega
        have e3 : ldF n ord d Q (ldmf n ord d ld) sz ld d t = 0 ↔ (Pih n ord d (ldmf n ord d ld) t || Q t) = false := by
          unfold ldF; rw [if_pos rfl]
          cases z : Q t
          · rw [if_neg (by decide)]; simp [Pih]
          · rw [if_pos rfl]; simp
        unfold B_Ba_close_42 B_Ba_close_65
        simp (disch := omega) only [isK_wI, isA_wI, gR_wI, gI_wI, sI_wI, true_and, and_true, Option.some.injEq, exists_eq_left', forall_const, not_true_eq_false, not_false_eq_true, false_implies, true_implies, ne_eq, lit_nI, nI_add, pk_mul, pk_sub, pk_div, rem_n, nI_clamp, nI_leI, nI_ltI, nI_eq, in_nI, kb, g0, k1]
        refine sp_at hP hS'' hd10 ht2 ?_
        unfold T_Ba_isStandard B_Ba_isStandard_20
        simp (disch := omega) only [isK_wI, isA_wI, gR_wI, gI_wI, sI_wI, true_and, and_true, Option.some.injEq, exists_eq_left', forall_const, not_true_eq_false, not_false_eq_true, false_implies, true_implies, ne_eq, lit_nI, nI_add, pk_mul, pk_sub, pk_div, rem_n, nI_clamp, nI_leI, nI_ltI, nI_eq, in_nI, kb, g8, fst_fr d (by omega), isZ_T a5 (by omega) hFl'.2, e1]
        have hup := ct_up (Q := fun i => Pih n ord d (ldmf n ord d ld) i || Q i) (show t + 1 ≤ nM n ord d by omega)
        refine ⟨by omega, fun z => ⟨rfl, ?_⟩, fun z => ⟨rfl, ?_⟩⟩
        · have w : (Pih n ord d (ldmf n ord d ld) t || Q t) = true := by
            cases y : (Pih n ord d (ldmf n ord d ld) t || Q t)
            · exact absurd (e3.mpr y) z
            · rfl
          rw [ct_sub_t (Q := fun i => Pih n ord d (ldmf n ord d ld) i || Q i) w (by omega)] at hgo
          rw [m1n]
          exact hgo
        · have w := e3.mp z
          have w2 := ct_succ_f (Q := fun i => Pih n ord d (ldmf n ord d ld) i || Q i) (j := t) w
          rw [w2, m1n]
          refine ⟨fun y => absurd y (by decide), fun _ => ?_⟩
          exact hgo
      by_cases hQt : Q t = true
      · rw [if_pos hQt]
        refine ⟨fun z => absurd z (by decide), fun _ => ?_⟩
        simp (disch := omega) only [isK_wI, isA_wI, gR_wI, gI_wI, sI_wI, true_and, and_true, Option.some.injEq, exists_eq_left', forall_const, not_true_eq_false, not_false_eq_true, false_implies, true_implies, ne_eq, lit_nI, nI_add, pk_mul, pk_sub, pk_div, rem_n, nI_clamp, nI_leI, nI_ltI, nI_eq, in_nI, kb]
        have hct := ct_sub_t hQt (show t + 1 ≤ nM n ord d by omega)
        have hb1 := hbd (ct Q (nM n ord d) - ct Q (t + 1)) (by omega)
        have hpk := pick_eq (N := nM n ord d) ht2 hQt
        have hup := ct_up (Q := Q) (show t + 1 ≤ nM n ord d by omega)
        have hsu := ct_succ_t hQt
        refine sp_append hB hM hC' hd10 hRo2 hFl hEl h13 (by omega) (by omega) ht2 hQt (if_neg (by omega)) (by unfold glF; rw [if_neg (by omega), Nat.add_sub_cancel_left, hpk]) (fun I'' n0 n1 n2 n3 n4 n5 => ?_)
        refine cont I'' (fun c hc => by rw [n5 c hc, hf c hc]) (fun j hj => by rw [n3 j hj, hf12 j hj]) n0 (by rw [hct]; exact n2) (by rw [hct]; exact n1) (fun j hj => by rw [n4, upd_ne (by omega), hlo j hj]) (fun i hi => ?_)
        rw [n4]
        by_cases z : i = t
        · subst z
          rw [upd_eq, if_pos (Nat.le_refl i)]
          unfold ldF; rw [if_pos rfl, if_pos hQt]
        · rw [upd_ne (fun y => z (plInj hd10 hi ht2 (by omega))), hld i hi]
          by_cases y : t ≤ i
          · rw [if_pos y, if_pos (by omega)]
          · rw [if_neg y, if_neg (by omega)]
      · rw [if_neg hQt]
        have hQf : Q t = false := by simpa using hQt
        have hct := ct_succ_f hQf
        refine ⟨fun _ => ?_, fun z => absurd rfl z⟩
        rw [hct] at h13 hEl
        refine cont I' hf hf12 hFl h13 hEl hlo (fun i hi => ?_)
        rw [hld i hi]
        by_cases z : i = t
        · subst z
          rw [if_neg (by omega), if_pos (Nat.le_refl i)]
          unfold ldF; rw [if_pos rfl, if_neg hQt]
        · by_cases y : t ≤ i
          · rw [if_pos y, if_pos (by omega)]
          · rw [if_neg y, if_neg (by omega)]
  have hgo := key (nM n ord d) I (Nat.le_refl _) (fun c _ => rfl) (fun j _ => rfl) o1.2 (by rw [Nat.sub_self, Nat.add_zero]; exact o1.1) (by
    rw [Nat.sub_self, Nat.add_zero]
    obtain ⟨⟨z3, z4, z5⟩, z6⟩ := o2
    have hcg : ∀ k, k ≤ sz d → stt n ord (dgF (sz d) d dg) (glF n ord d (sz d) Q e gl) k = stt n ord dg gl k := fun k hk => stt_cong (fun j hj => ⟨if_pos (by omega), if_pos (by omega)⟩)
    refine ⟨⟨fun k hk => by rw [hcg k hk]; exact z3 k hk, by rw [hcg _ (Nat.le_refl _)]; exact z4, z5⟩, fun k hk => ?_⟩
    unfold ElK
    rw [hcg k (by omega), show dgF (sz d) d dg k = dg k from if_pos hk, show glF n ord d (sz d) Q e gl k = gl k from if_pos hk]
    exact z6 k hk) (fun j _ => rfl) (fun i hi => by rw [if_neg (by omega)]; exact o4 i hi)
  rw [Nat.sub_self] at hgo
  exact ⟨_, hgo⟩
end BA9
