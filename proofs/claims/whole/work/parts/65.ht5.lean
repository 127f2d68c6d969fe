/-! HeapTower: drop, copy, claim, keep, swap -/
/-- a row fewer -/
def hpD {p : Nat} [NeZero p] (H : Hp p) : Hp p := (H.1 - 1, H.2.1, H.2.2)
/-- one claim set -/
def clS {p : Nat} [NeZero p] (C : Nat → Nat → Mo2 → Fin p) (r : Nat) (F : Nat → Mo2 → Fin p) : Nat → Nat → Mo2 → Fin p := fun s => if s = r then F else C s
section HT5
variable {M : Mem} {I : Nat → Nat → Int32} {n ord p : Nat} {sw : Bool}
theorem Gh_D [NeZero p] {H : Hp p} {k e : Nat} {g : Mo2 → Fin p} (hk : H.1 = k + 1) (he : e ≠ H.2.1 k) : Gh H e g ↔ Gh (hpD H) e g := by
  unfold Gh Grw hpD
  simp only [hk, Nat.add_sub_cancel]
  constructor
  · rintro ⟨r, a, b, c⟩
    by_cases q : r = k
    · rw [q] at b; omega
    · exact ⟨r, by omega, b, c⟩
  · rintro ⟨r, a, b, c⟩; exact ⟨r, by omega, b, c⟩
theorem Gprd_D [NeZero p] {H O : Hp p} {k e : Nat} {g : Mo2 → Fin p} (hk : H.1 = k + 1) (he : e < H.2.1 k) : Gprd n ord H O e g ↔ Gprd n ord (hpD H) O e g := by
  unfold Gprd hpD
  simp only [hk, Nat.add_sub_cancel]
  constructor
  · rintro ⟨a, b, h1, h2, h3, h4⟩
    by_cases q : a = k
    · rw [q] at h3; omega
    · exact ⟨a, b, by omega, h2, h3, h4⟩
  · rintro ⟨a, b, h1, h2, h3, h4⟩; exact ⟨a, b, by omega, h2, h3, h4⟩
theorem op_drop [NeZero p] {D : Nat → Mo2 → Fin p} {H O : Hp p} {C : Nat → Nat → Mo2 → Fin p} {post : Int32 → Mem → Prop} (hT : HTOK M sw) (hS : CSt n ord D H O C sw I) (h1 : ∀ k, H.1 = k + 1 → ∀ I', CSt n ord D (hpD H) O (clS C k (fun _ _ => 0)) sw I' → FR I I' → post (nI k) (wI M I')) (h0 : H.1 = 0 → post (-1000000) (wI M I)) : T_HT_drop 0 (wI M I) post := by
  have hhe := hT.he
  have hsw := hh_ne sw
  have hT' := hT
  obtain ⟨⟨k0, r0, r1, r2, r3, r4, r5, r6, r7, r8, r9, r10, r11⟩, _, hPo, ⟨a127, aC⟩, ⟨c1, c2, c3⟩, _, hP, hNu, hRo⟩ := hT'
  obtain ⟨⟨w, hC⟩, hD, cl, ⟨e1, e2⟩, ⟨⟨t1, b1⟩, t2, b2⟩, ⟨t3, b3⟩, ⟨t4, b4⟩, t5, b5⟩ := hS
  obtain ⟨⟨h160, kh, g0, g1, g2, g3⟩, a10, a11, aR, hBB⟩ := hhe.1
  have kb := hBB.2.1.1
  have h6 := e1.2.1
  unfold T_HT_drop
  simp only [isK_wI, isA_wI, gR_wI, gI_wI, sI_wI, true_and, and_true, Option.some.injEq, exists_eq_left', k0, r10, kh]
  refine sp_Hesize hhe.1 e1 ?_
  rw [show (0 : Int32) = nI 0 from rfl, nI_eq (by omega) (by omega)]
  refine ⟨fun z => ?_, h0⟩
  obtain ⟨k, hk⟩ : ∃ k, H.1 = k + 1 := ⟨H.1 - 1, by omega⟩
  have hdk := e1.2.2 k (by omega)
  simp only [isK_wI, isA_wI, gR_wI, gI_wI, sI_wI, true_and, and_true, Option.some.injEq, exists_eq_left', k0, r10, kh]
  refine sp_Hesize hhe.1 e1 ?_
  rw [hk, nI_pred]
  simp only [isK_wI, isA_wI, gR_wI, gI_wI, sI_wI, true_and, and_true, Option.some.injEq, exists_eq_left', k0, r10, kh]
  refine sp_HedegreeOf hhe.1 e1 (by omega) ?_
  simp only [isK_wI, isA_wI, gR_wI, gI_wI, sI_wI, true_and, and_true, Option.some.injEq, exists_eq_left', k0, r10, kh]
  unfold T_He_removeLatest
  simp (disch := omega) only [isK_wI, isA_wI, gR_wI, gI_wI, sI_wI, true_and, and_true, Option.some.injEq, exists_eq_left', forall_const, not_true_eq_false, not_false_eq_true, false_implies, true_implies, ne_eq, lit_nI, nI_add, pk_mul, pk_sub, pk_div, rem_n, nI_clamp, nI_leI, nI_ltI, nI_eq, in_nI, kh, kb, g0, g2, e1.1, u2_eq, hk, Nat.add_sub_cancel, isA_T a10, u2_ne (show ¬ (hh sw + 9 = hh sw ∧ k = 4) by omega), hdk.1]
  have hfr1 : ∀ c, c ≠ hh sw → u2 I (hh sw) 4 (nI k) c = I c := fun c y => by unfold u2; rw [if_neg y]
  refine sp_forget (d := H.2.1 k) hBB (by have := hdk.2.1; omega) (BaSt_kp (fun c y1 y2 => hfr1 c (by omega)) b1) (fun I2 s2 f2 => ?_)
  have kc := (aC k (by omega)).2.1.1
  simp (disch := omega) only [isK_wI, isA_wI, gR_wI, gI_wI, sI_wI, true_and, and_true, Option.some.injEq, exists_eq_left', forall_const, not_true_eq_false, not_false_eq_true, false_implies, true_implies, ne_eq, lit_nI, nI_add, pk_mul, pk_sub, pk_div, rem_n, nI_clamp, nI_leI, nI_ltI, nI_eq, in_nI, k0, r6, isA_T a127, (aC k (by omega)).1, kc]
  refine sp_Poclear (aC k (by omega)).2 (fun f hf => ?_)
  simp only [isK_wI, isA_wI, gR_wI, gI_wI, sI_wI, true_and, and_true, Option.some.injEq, exists_eq_left', k0]
  have hfr3 : ∀ c, c ≠ 129 + 2 * k → c ≠ hh sw + 1 → c ≠ hh sw → sAll I2 (128 + 2 * k + 1) f c = I c := fun c y1 y2 y3 => by
    rw [sAll_ne (by omega), f2 c y2, hfr1 c y3]
  refine sp_heapChanged (G5 := Gquo H D) hT (show H.2.1 k ≤ 10 by have := hdk.2.1; omega) (BaSt_kp (fun c y1 y2 => hfr3 c (by omega) (by omega) (by omega)) b3) (BaSt_kp (fun c y1 y2 => hfr3 c (by omega) (by omega) (by omega)) b4) ⟨t5, BaSt_kp (fun c y1 y2 => hfr3 c (by omega) (by omega) (by omega)) b5⟩ (fun I4 s3 s4 s5 f4 => ?_)
  have hfr4 : ∀ c, c ≠ 129 + 2 * k → c ≠ hh sw + 1 → c ≠ hh sw → c ≠ 141 → c ≠ 149 → c ≠ 157 → I4 c = I c := fun c y1 y2 y3 y4 y5 y6 => by rw [f4 c y4 y5 y6, hfr3 c y1 y2 y3]
  have hD1 : (hpD H).1 = k := by unfold hpD; simp only; omega
  refine h1 k hk I4 ⟨⟨⟨w.1, ⟨by rw [hD1]; omega, fun r hr => w.2.1.2 r (by rw [hD1] at hr; omega)⟩, w.2.2.1, fun r hr => ?_⟩, Cfg_kp (fun c hc => hfr4 c (by omega) (by omega) (by omega) (by omega) (by omega) (by omega)) hC⟩, ?_, fun r hr => ?_, ⟨⟨?_, by rw [hD1]; omega, fun r hr => ?_⟩, HeSt_kp (fun c hc => hfr4 c (by omega) (by omega) (by omega) (by omega) (by omega) (by omega)) e2⟩, ⟨⟨min t1 (H.2.1 k), BaSt_cong (fun e he g => Gh_D hk (by omega)) (BaSt_kp (fun c y1 y2 => ?_) s2)⟩, t2, BaSt_kp (fun c y1 y2 => hfr4 c (by omega) (by omega) (by omega) (by omega) (by omega) (by omega)) b2⟩, ⟨min t3 (H.2.1 k), BaSt_cong (fun e he g => ?_) s3⟩, ⟨min t4 (H.2.1 k), BaSt_cong (fun e he g => Gprd_D hk (by omega)) s4⟩, 0, Ba0_to _ (Ba0_of s5)⟩ (fun c hc => hfr4 c (by omega) (by omega) (by omega) (by omega) (by omega) (by omega))
  · unfold clS
    by_cases q : r = k
    · rw [if_pos q]; exact ⟨fun d _ => Dhom0, fun _ _ _ _ => rfl, fun _ _ _ _ _ => rfl⟩
    · rw [if_neg q]
      obtain ⟨y1, y2, y3⟩ := w.2.2.2 r hr
      refine ⟨y1, fun z => y2 (by rw [hD1] at z; omega), fun z => y3 (by rw [hD1] at z; omega)⟩
  · rw [hfr4 _ (by omega) (by omega) (by omega) (by omega) (by omega) (by omega)]; exact hD
  · unfold clS
    by_cases q : r = k
    · subst q
      rw [if_pos rfl, f4 _ (by omega) (by omega) (by omega), show 128 + 2 * r + 1 = 129 + 2 * r by omega, sAll_eq]; exact Rep_0 hf
    · rw [if_neg q, hfr4 _ (by omega) (by omega) (by omega) (by omega) (by omega) (by omega)]; exact cl r hr
  · rw [f4 _ (by omega) (by omega) (by omega), sAll_ne (by omega), f2 _ (by omega), u2_eq, hD1]
  · rw [hD1] at hr
    obtain ⟨y1, y2, y3, y4⟩ := e1.2.2 r (by omega)
    rw [hfr4 _ (by omega) (by omega) (by omega) (by omega) (by omega) (by omega), hfr4 _ (by omega) (by omega) (by omega) (by omega) (by omega) (by omega)]
    exact ⟨y1, y2, y3, y4⟩
  · rw [f4 c (by omega) (by omega) (by omega), sAll_ne (by omega)]
  · unfold Gsum; rw [Gh_D hk (by omega)]
theorem op_copy [NeZero p] {D : Nat → Mo2 → Fin p} {H O : Hp p} {C : Nat → Nat → Mo2 → Fin p} {x : Int32} {post : Int32 → Mem → Prop} (hT : HTOK M sw) (hS : CSt n ord D H O C sw I) (h1 : ∀ r, r < H.1 → x = nI r → ∀ I', CSt n ord (oneP (H.2.1 r) (H.2.2 r)) H O C sw I' → FR I I' → post (nI (szP (oneP (H.2.1 r) (H.2.2 r)))) (wI M I')) (h0 : (∀ r, r < H.1 → x ≠ nI r) → post (-1000000) (wI M I)) : T_HT_copy 0 x (wI M I) post := by
  have hhe := hT.he
  have hsw := hh_ne sw
  have hT' := hT
  obtain ⟨⟨k0, r0, r1, r2, r3, r4, r5, r6, r7, r8, r9, r10, r11⟩, ⟨a78, _⟩, hPo, _, ⟨c1, c2, c3⟩, _, hP, hNu, hRo⟩ := hT'
  have hS' := hS
  obtain ⟨⟨w, hC⟩, hD, cl, ⟨e1, e2⟩, ⟨⟨t1, b1⟩, t2, b2⟩, ⟨t3, b3⟩, ⟨t4, b4⟩, t5, b5⟩ := hS'
  have hp97 := prm_lt hC.2.2
  have kd := hPo.1.1
  have kh := hhe.1.1.2.1
  unfold T_HT_copy
  simp only [isK_wI, isA_wI, gR_wI, gI_wI, sI_wI, true_and, and_true, Option.some.injEq, exists_eq_left', k0, r10, kh]
  refine sp_has hhe.1 e1 (fun r hr hx => ?_) (fun hx => ⟨fun z => absurd rfl z, fun _ => h0 hx⟩)
  refine ⟨fun _ => ?_, fun z => absurd z (by decide)⟩
  subst hx
  clear h0
  obtain ⟨y1, y2, y3, y4⟩ := e1.2.2 r hr
  simp only [isK_wI, isA_wI, gR_wI, gI_wI, sI_wI, true_and, and_true, Option.some.injEq, exists_eq_left', k0, r3, r10, kh]
  refine sp_load hhe.1 e1 hr a78 (by omega) (by omega) (fun g hg => ?_)
  simp only [isK_wI, isA_wI, gR_wI, gI_wI, sI_wI, true_and, and_true, Option.some.injEq, exists_eq_left', k0, r5, kd]
  refine sp_Poclear hPo (fun f hf => ?_)
  simp only [isK_wI, isA_wI, gR_wI, gI_wI, sI_wI, true_and, and_true, Option.some.injEq, exists_eq_left', k0, r5, r10, kh]
  have e1' : HeSt n (hh sw) H.1 H.2.1 H.2.2 (sAll (sAll I 78 g) (125 + 1) f) := HeSt_kp (fun c hc => by rw [sAll_ne (by omega), sAll_ne (by omega)]) e1
  refine sp_HedegreeOf hhe.1 e1' hr ?_
  simp only [isK_wI, isA_wI, gR_wI, gI_wI, sI_wI, true_and, and_true, Option.some.injEq, exists_eq_left', k0, r3, kd]
  have hfr := fr_66 (H.2.1 r) (by omega)
  refine sp_setPart hPo (show H.2.1 r ≤ 10 by omega) a78 (by omega) (by omega) (fun f2 hf2 hf3 => ?_)
  simp only [isK_wI, isA_wI, gR_wI, gI_wI, sI_wI, true_and, and_true, Option.some.injEq, exists_eq_left', k0]
  have hfm : ∀ c, c ≠ 78 → c ≠ 126 → sAll (sAll (sAll I 78 g) (125 + 1) f) (125 + 1) f2 c = I c := fun c z1 z2 => by rw [sAll_ne z2, sAll_ne z2, sAll_ne z1]
  refine sp_draftChanged (n := n) (ord := ord) hT (G := Gquo H D) ⟨t5, BaSt_kp (fun c z1 z2 => hfm c (by omega) (by omega)) b5⟩ (fun I' hb hf4 => ?_)
  simp only [isK_wI, isA_wI, gR_wI, gI_wI, sI_wI, true_and, and_true, Option.some.injEq, exists_eq_left', k0, r5, kd]
  have hRf : Rep (I' 126) (oneP (H.2.1 r) (H.2.2 r)) := by
    rw [hf4 _ (by omega), sAll_eq, ← oneP_eq]
    rw [sAll_ne (by omega), sAll_eq] at hf2
    rw [sAll_eq] at hf3
    exact Rep_part (by omega) (Rep_0 hf) hg hf2 hf3
  refine sp_Posize hPo hp97.2 hRf ?_
  exact h1 r hr rfl I' (CSt_draft hS (oneP_hom y3) hRf hb (fun c z1 z2 z3 => by
    unfold sup at z1
    rw [hf4 c z3, hfm c (by omega) z2])) (fun c hc => by rw [hf4 c (by omega), hfm c (by omega) (by omega)])
theorem op_claim [NeZero p] {D : Nat → Mo2 → Fin p} {H O : Hp p} {C : Nat → Nat → Mo2 → Fin p} {x : Int32} {post : Int32 → Mem → Prop} (hT : HTOK M sw) (hS : CSt n ord D H O C sw I) (h1 : ∀ r, r < H.1 → x = nI r → dg1 D + H.2.1 r ≤ 11 → ∀ I', CSt n ord (fun _ _ => 0) H O (clS C r D) sw I' → FR I I' → post 1 (wI M I')) (h0 : (¬ ∃ r, r < H.1 ∧ x = nI r ∧ dg1 D + H.2.1 r ≤ 11) → post (-1000000) (wI M I)) : T_HT_claim 0 x (wI M I) post := by
  have hhe := hT.he
  have hsw := hh_ne sw
  have hT' := hT
  obtain ⟨⟨k0, r0, r1, r2, r3, r4, r5, r6, r7, r8, r9, r10, r11⟩, _, hPo, ⟨a127, aC⟩, ⟨c1, c2, c3⟩, _, hP, hNu, hRo⟩ := hT'
  have hS' := hS
  obtain ⟨⟨w, hC⟩, hD, cl, ⟨e1, e2⟩, ⟨⟨t1, b1⟩, t2, b2⟩, ⟨t3, b3⟩, ⟨t4, b4⟩, t5, b5⟩ := hS'
  have hp97 := prm_lt hC.2.2
  have kd := hPo.1.1
  have kh := hhe.1.1.2.1
  have hle := dg1_le D
  have h6 := e1.2.1
  unfold T_HT_claim B_HT_claim_32
  simp only [isK_wI, isA_wI, gR_wI, gI_wI, sI_wI, true_and, and_true, Option.some.injEq, exists_eq_left', k0, r10, kh]
  refine sp_has hhe.1 e1 (fun r hr hx => ?_) (fun hx => ⟨fun _ => h0 (fun ⟨r, z1, z2, _⟩ => hx r z1 z2), fun z => absurd rfl z⟩)
  refine ⟨fun z => absurd z (by decide), fun _ => ?_⟩
  subst hx
  obtain ⟨y1, y2, y3, y4⟩ := e1.2.2 r hr
  simp only [isK_wI, isA_wI, gR_wI, gI_wI, sI_wI, true_and, and_true, Option.some.injEq, exists_eq_left', k0, r5, kd]
  refine sp_Podegree hPo hp97.2 hD ?_
  simp only [isK_wI, isA_wI, gR_wI, gI_wI, sI_wI, true_and, and_true, Option.some.injEq, exists_eq_left', k0, r10, kh]
  refine sp_HedegreeOf hhe.1 e1 hr ?_
  rw [le10_pred hle (by omega)]
  refine ⟨fun q => ?_, fun q => h0 (fun ⟨r', z1, z2, z3⟩ => ?_)⟩
  · clear h0
    have kc := (aC r (by omega)).2.1.1
    simp (disch := omega) only [isK_wI, isA_wI, gR_wI, gI_wI, sI_wI, true_and, and_true, Option.some.injEq, exists_eq_left', forall_const, not_true_eq_false, not_false_eq_true, false_implies, true_implies, ne_eq, lit_nI, nI_add, pk_mul, pk_sub, pk_div, rem_n, nI_clamp, nI_leI, nI_ltI, nI_eq, in_nI, k0, r5, r6, isA_T a127, (aC r (by omega)).1, kc]
    refine sp_Pobecome (aC r (by omega)).2 hPo (fun f hf => ?_)
    simp only [isK_wI, isA_wI, gR_wI, gI_wI, sI_wI, true_and, and_true, Option.some.injEq, exists_eq_left', k0, r5, kd]
    refine sp_Poclear hPo (fun f2 hf2 => ?_)
    simp only [isK_wI, isA_wI, gR_wI, gI_wI, sI_wI, true_and, and_true, Option.some.injEq, exists_eq_left', k0]
    have hfm : ∀ c, c ≠ 129 + 2 * r → c ≠ 126 → sAll (sAll I (128 + 2 * r + 1) f) (125 + 1) f2 c = I c := fun c z1 z2 => by rw [sAll_ne z2, sAll_ne (by omega)]
    refine sp_draftChanged (n := n) (ord := ord) hT (G := Gquo H D) ⟨t5, BaSt_kp (fun c z1 z2 => hfm c (by omega) (by omega)) b5⟩ (fun I' hb hf4 => ?_)
    have hfA : ∀ c, c ≠ 129 + 2 * r → c ≠ 126 → c ≠ 157 → I' c = I c := fun c z1 z2 z3 => by rw [hf4 c z3, hfm c z1 z2]
    refine h1 r hr rfl q I' ⟨⟨⟨fun d _ => Dhom0, w.2.1, w.2.2.1, fun s hs => ?_⟩, Cfg_kp (fun c hc => hfA c (by omega) (by omega) (by omega)) hC⟩, ?_, fun s hs => ?_, ⟨HeSt_kp (fun c hc => hfA c (by omega) (by omega) (by omega)) e1, HeSt_kp (fun c hc => hfA c (by omega) (by omega) (by omega)) e2⟩, ⟨⟨t1, BaSt_kp (fun c z1 z2 => hfA c (by omega) (by omega) (by omega)) b1⟩, t2, BaSt_kp (fun c z1 z2 => hfA c (by omega) (by omega) (by omega)) b2⟩, ⟨t3, BaSt_kp (fun c z1 z2 => hfA c (by omega) (by omega) (by omega)) b3⟩, ⟨t4, BaSt_kp (fun c z1 z2 => hfA c (by omega) (by omega) (by omega)) b4⟩, 0, Ba0_to _ (Ba0_of hb)⟩ (fun c hc => hfA c (by omega) (by omega) (by omega))
    · unfold clS
      by_cases z : s = r
      · subst z
        rw [if_pos rfl]
        exact ⟨w.1, fun z => by omega, fun _ d hd hlt m => D_hi w.1 hd (by omega) m⟩
      · rw [if_neg z]; exact w.2.2.2 s hs
    · rw [hf4 _ (by omega), sAll_eq]; exact Rep_0 hf2
    · unfold clS
      by_cases z : s = r
      · subst z
        rw [if_pos rfl, hf4 _ (by omega), sAll_ne (by omega), show 128 + 2 * s + 1 = 129 + 2 * s by omega, sAll_eq]
        intro d hd m hm
        have z1 := pl_deg hd hm
        have z2 := fr_le d (by omega)
        rw [hf _ (by omega)]; exact hD d hd m hm
      · rw [if_neg z, hfA _ (by omega) (by omega) (by omega)]; exact cl s hs
  · rw [nI_eq (by omega) (by omega)] at z2
    subst z2; exact q z3
theorem op_keep [NeZero p] {D : Nat → Mo2 → Fin p} {H O : Hp p} {C : Nat → Nat → Mo2 → Fin p} {post : Int32 → Mem → Prop} (hT : HTOK M sw) (hS : CSt n ord D H O C sw I) (h : ∀ I', CSt n ord D H H C sw I' → FR I I' → post (nI O.1) (wI M I')) : T_HT_keep 0 (wI M I) post := by
  have hhe := hT.he
  have hsw := hh_ne sw
  have hT' := hT
  obtain ⟨⟨k0, r0, r1, r2, r3, r4, r5, r6, r7, r8, r9, r10, r11⟩, _, hPo, _, ⟨c1, c2, c3⟩, _, hP, hNu, hRo⟩ := hT'
  obtain ⟨⟨w, hC⟩, hD, cl, ⟨e1, e2⟩, ⟨⟨t1, b1⟩, t2, b2⟩, ⟨t3, b3⟩, ⟨t4, b4⟩, t5, b5⟩ := hS
  obtain ⟨⟨h160, kh, g0, g1, g2, g3⟩, a10, a11, aR, hBB⟩ := hhe.1
  obtain ⟨⟨h160', ko, f0, f1, f2, f3⟩, b10, b11, bR, hBO⟩ := hhe.2
  have k141 := c1.2.1.1
  have k150 := c2.2.1.1
  have h6 := e1.2.1
  unfold T_HT_keep
  simp only [isK_wI, isA_wI, gR_wI, gI_wI, sI_wI, true_and, and_true, Option.some.injEq, exists_eq_left', k0, r11, ko]
  refine sp_Hesize hhe.2 e2 ?_
  simp only [isK_wI, isA_wI, gR_wI, gI_wI, sI_wI, true_and, and_true, Option.some.injEq, exists_eq_left', k0, r10, r11, ko]
  have key : ∀ t r I', r + t = H.1 → (∀ c, c ≠ oo sw + 9 → (c < oo sw + 11 ∨ oo sw + 16 < c) → I' c = I c) → (∀ r', r' < r → I' (oo sw + 9) r' = nI (H.2.1 r') ∧ RepV (H.2.1 r') (I' (oo sw + 11 + r')) (H.2.2 r')) → L_He_become_2 (fun M16 => isK M16 0 6 ∧ ∃ q20, gR M16 0 7 = some q20 ∧ isK M16 q20 0 ∧ T_Ba_forget q20 0 M16 (fun M24 => isK M24 0 6 ∧ ∃ q28, gR M24 0 8 = some q28 ∧ isK M24 q28 0 ∧ T_Ba_forget q28 0 M24 (fun M32 => post (nI O.1) M32))) (t + 1) (oo sw) (hh sw) (nI r) (wI M I') := by
    intro t
    induction t with
    | zero =>
      intro r I' hr hf hR
      have hrk : r = H.1 := by omega
      subst hrk
      have e1' : HeSt n (hh sw) H.1 H.2.1 H.2.2 I' := HeSt_kp (fun c hc => hf c (by omega) (by omega)) e1
      show B_He_become_2 _ _ (oo sw) (hh sw) _ _
      unfold B_He_become_2
      simp (disch := omega) only [isK_wI, isA_wI, gR_wI, gI_wI, sI_wI, true_and, and_true, Option.some.injEq, exists_eq_left', forall_const, not_true_eq_false, not_false_eq_true, false_implies, true_implies, ne_eq, lit_nI, nI_add, pk_mul, pk_sub, pk_div, rem_n, nI_clamp, nI_leI, nI_ltI, nI_eq, in_nI, kh, ko, e1'.1]
      refine ⟨fun _ => ?_, fun z => absurd (Nat.le_refl _) z⟩
      have hfu : ∀ c, c ≠ oo sw → u2 I' (oo sw) 4 (nI H.1) c = I' c := fun c hc => by unfold u2; rw [if_neg hc]
      refine sp_forgetBase hhe.2 (BaSt_kp (fun c y1 y2 => by rw [hfu c (by omega), hf c (by omega) (by omega)]) b2) (fun I2 s2 q2 => ?_)
      simp only [isK_wI, isA_wI, gR_wI, gI_wI, sI_wI, true_and, and_true, Option.some.injEq, exists_eq_left', k0, r7, k141]
      refine sp_forget (d := 0) c1 (by omega) (BaSt_kp (I' := I2) (fun c y1 y2 => by rw [q2 c (by omega), hfu c (by omega), hf c (by omega) (by omega)]) b3) (fun I3 s3 q3 => ?_)
      simp only [isK_wI, isA_wI, gR_wI, gI_wI, sI_wI, true_and, and_true, Option.some.injEq, exists_eq_left', k0, r8, k150]
      refine sp_forget (d := 0) c2 (by omega) (BaSt_kp (I' := I3) (fun c y1 y2 => by rw [q3 c (by omega), q2 c (by omega), hfu c (by omega), hf c (by omega) (by omega)]) b4) (fun I4 s4 q4 => ?_)
      rw [Nat.min_eq_right (Nat.zero_le _)] at s3 s4
      have hA : ∀ c, c ≠ oo sw → c ≠ oo sw + 1 → c ≠ oo sw + 9 → (c < oo sw + 11 ∨ oo sw + 16 < c) → c ≠ 141 → c ≠ 149 → I4 c = I c := fun c y1 y2 y3 y4 y5 y6 => by rw [q4 c y6, q3 c y5, q2 c y2, hfu c y1, hf c y3 y4]
      have hB : ∀ c, c ≠ oo sw + 1 → c ≠ 141 → c ≠ 149 → I4 c = u2 I' (oo sw) 4 (nI H.1) c := fun c y1 y2 y3 => by rw [q4 c y3, q3 c y2, q2 c y1]
      refine h I4 ⟨⟨⟨w.1, w.2.1, w.2.1, w.2.2.2⟩, Cfg_kp (fun c hc => hA c (by omega) (by omega) (by omega) (by omega) (by omega) (by omega)) hC⟩, ?_, fun r hr => ?_, ⟨HeSt_kp (fun c hc => hA c (by omega) (by omega) (by omega) (by omega) (by omega) (by omega)) e1, ⟨?_, h6, fun r hr => ?_⟩⟩, ⟨⟨t1, BaSt_kp (fun c y1 y2 => hA c (by omega) (by omega) (by omega) (by omega) (by omega) (by omega)) b1⟩, 0, Ba0_to _ (Ba0_of (BaSt_kp (I' := I4) (fun c y1 y2 => by rw [q4 c (by omega), q3 c (by omega)]) s2))⟩, ⟨0, Ba0_to _ (Ba0_of (BaSt_kp (I' := I4) (fun c y1 y2 => q4 c (by omega)) s3))⟩, ⟨0, Ba0_to _ (Ba0_of s4)⟩, t5, BaSt_kp (fun c y1 y2 => hA c (by omega) (by omega) (by omega) (by omega) (by omega) (by omega)) b5⟩ (fun c hc => hA c (by omega) (by omega) (by omega) (by omega) (by omega) (by omega))
      · rw [hA 126 (by omega) (by omega) (by omega) (by omega) (by omega) (by omega)]; exact hD
      · rw [hA _ (by omega) (by omega) (by omega) (by omega) (by omega) (by omega)]; exact cl r hr
      · rw [hB _ (by omega) (by omega) (by omega), u2_eq]
      · have y := e1.2.2 r hr
        obtain ⟨z1, z2⟩ := hR r hr
        have z3 : I4 (oo sw + 9) = I' (oo sw + 9) := by rw [hB _ (by omega) (by omega) (by omega), hfu _ (by omega)]
        have z4 : I4 (oo sw + 11 + r) = I' (oo sw + 11 + r) := by rw [hB _ (by omega) (by omega) (by omega), hfu _ (by omega)]
        rw [z3, z4]
        exact ⟨z1, y.2.1, y.2.2.1, z2⟩
    | succ t ih =>
      intro r I' hr hf hR
      have hrk : r < H.1 := by omega
      have e1' : HeSt n (hh sw) H.1 H.2.1 H.2.2 I' := HeSt_kp (fun c hc => hf c (by omega) (by omega)) e1
      obtain ⟨y1, y2, y3, y4⟩ := e1'.2.2 r hrk
      show B_He_become_2 (L_He_become_2 _ (t + 1)) _ (oo sw) (hh sw) _ _
      unfold B_He_become_2
      simp (disch := omega) only [isK_wI, isA_wI, gR_wI, gI_wI, sI_wI, true_and, and_true, Option.some.injEq, exists_eq_left', forall_const, not_true_eq_false, not_false_eq_true, false_implies, true_implies, ne_eq, lit_nI, nI_add, pk_mul, pk_sub, pk_div, rem_n, nI_clamp, nI_leI, nI_ltI, nI_eq, in_nI, kh, ko, e1'.1, g2, g3, f2, f3, isA_T a11, isA_T b11, (aR r (by omega)).1, (bR r (by omega)).1]
      refine ⟨fun z => absurd z (by omega), fun _ => ⟨cpOk_nI (aR r (by omega)).2 (bR r (by omega)).2 (by omega) (by omega) (by omega) (by omega), ?_⟩⟩
      rw [cpM_wI]
      simp (disch := omega) only [isK_wI, isA_wI, gR_wI, gI_wI, sI_wI, true_and, and_true, Option.some.injEq, exists_eq_left', forall_const, not_true_eq_false, not_false_eq_true, false_implies, true_implies, ne_eq, lit_nI, nI_add, pk_mul, pk_sub, pk_div, rem_n, nI_clamp, nI_leI, nI_ltI, nI_eq, in_nI, kh, ko, g2, f2, isA_T a10, isA_T b10, sAll_ne (show hh sw + 9 ≠ oo sw + 11 + r by omega), y1]
      refine ih (r + 1) _ (by omega) (fun c z1 z2 => ?_) (fun r' hr' => ?_)
      · unfold u2; rw [if_neg z1, sAll_ne (by omega), hf c z1 z2]
      · by_cases q : r' = r
        · subst q
          refine ⟨u2_eq _ _ _ _, fun m hm => ?_⟩
          have qm := pl21 (m := m) (by omega)
          rw [u2_ne (by omega), sAll_eq, va_cpy_0 _ _ _ _ qm]
          exact y4 m hm
        · obtain ⟨z1, z2⟩ := hR r' (by omega)
          have e : u2 (sAll I' (oo sw + 11 + r) (va_cpy (I' (hh sw + 11 + r)) (I' (oo sw + 11 + r)) 0 0 21)) (oo sw + 9) r (nI (H.2.1 r)) (oo sw + 11 + r') = I' (oo sw + 11 + r') := by
            unfold u2; rw [if_neg (by omega), sAll_ne (by omega)]
          rw [u2_ne (by omega), sAll_ne (by omega), e]
          exact ⟨z1, z2⟩
  exact ⟨_, key H.1 0 I (by omega) (fun c _ _ => rfl) (fun r' hr' => absurd hr' (Nat.not_lt_zero r'))⟩
theorem op_swap [NeZero p] {M' : Mem} {D : Nat → Mo2 → Fin p} {H O : Hp p} {C : Nat → Nat → Mo2 → Fin p} {post : Int32 → Mem → Prop} (hT : HTOK M sw) (hS : CSt n ord D H O C sw I) (hM' : ∀ I, sR (sR (wI M I) 0 10 (some (oo sw))) 0 11 (some (hh sw)) = wI M' I) (hT2 : HTOK M' (!sw)) (h : ∀ I', CSt n ord D O H (fun _ _ _ => 0) (!sw) I' → FR I I' → post (nI O.1) (wI M' I')) : T_HT_swap 0 (wI M I) post := by
  have hhe := hT2.he
  have hsw := hh_ne sw
  have hsx : hh (!sw) = oo sw ∧ oo (!sw) = hh sw := by cases sw <;> simp [hh, oo]
  have hT' := hT2
  obtain ⟨⟨k0, r0, r1, r2, r3, r4, r5, r6, r7, r8, r9, r10, r11⟩, _, hPo, _, ⟨c1, c2, c3⟩, _, hP, hNu, hRo⟩ := hT'
  obtain ⟨⟨w, hC⟩, hD, cl, ⟨e1, e2⟩, ⟨⟨t1, b1⟩, t2, b2⟩, ⟨t3, b3⟩, ⟨t4, b4⟩, t5, b5⟩ := hS
  have q0 := hT.1.1
  have q10 := hT.1.2.2.2.2.2.2.2.2.2.2.2.1
  have q11 := hT.1.2.2.2.2.2.2.2.2.2.2.2.2
  have k159 := c3.2.1.1
  have kh := hhe.1.1.2.1
  have kk : isK (sR (wI M I) 0 10 (some (oo sw))) 0 6 := q0
  unfold T_HT_swap
  refine ⟨q0, hh sw, q10, q0, oo sw, q11, q0, kk, ?_⟩
  rw [hM']
  refine ⟨k0, sp_clearClaims (p := p) hT2 (fun I1 s1 f1 => ?_)⟩
  simp only [isK_wI, isA_wI, gR_wI, gI_wI, sI_wI, true_and, and_true, Option.some.injEq, exists_eq_left', k0, r9, k159]
  have nc : ∀ c, (c < 129 ∨ 139 < c) → ∀ r, r < 6 → c ≠ 129 + 2 * r := fun c hc r hr => by omega
  refine sp_forget (d := 0) c3 (by omega) (BaSt_kp (I' := I1) (fun c y1 y2 => f1 c (nc c (by omega))) b5) (fun I2 s2 f2 => ?_)
  rw [Nat.min_eq_right (Nat.zero_le _)] at s2
  have hA : ∀ c, (c < 129 ∨ 139 < c) → c ≠ 157 → I2 c = I c := fun c y1 y2 => by rw [f2 c y2, f1 c (nc c y1)]
  simp only [isK_wI, isA_wI, gR_wI, gI_wI, sI_wI, true_and, and_true, Option.some.injEq, exists_eq_left', k0, r10, kh]
  have e2' : HeSt n (hh (!sw)) O.1 O.2.1 O.2.2 I2 := by rw [hsx.1]; exact HeSt_kp (fun c hc => hA c (by omega) (by omega)) e2
  refine sp_Hesize hhe.1 e2' ?_
  refine h I2 ⟨⟨⟨w.1, w.2.2.1, w.2.1, fun r hr => ⟨fun d _ => Dhom0, fun _ _ _ _ => rfl, fun _ _ _ _ _ => rfl⟩⟩, Cfg_kp (fun c hc => hA c (by omega) (by omega)) hC⟩, ?_, fun r hr => ?_, ⟨e2', ?_⟩, ⟨⟨t2, ?_⟩, t1, ?_⟩, ⟨t3, BaSt_cong (fun e he g => Or.comm) (BaSt_kp (fun c y1 y2 => hA c (by omega) (by omega)) b3)⟩, ⟨t4, BaSt_cong (fun e he g => ?_) (BaSt_kp (fun c y1 y2 => hA c (by omega) (by omega)) b4)⟩, 0, Ba0_to _ (Ba0_of s2)⟩ (fun c hc => hA c (by omega) (by omega))
  · rw [hA 126 (by omega) (by omega)]; exact hD
  · rw [f2 _ (by omega)]; exact s1 r hr
  · rw [hsx.2]; exact HeSt_kp (fun c hc => hA c (by omega) (by omega)) e1
  · rw [hsx.1]; exact BaSt_kp (fun c y1 y2 => hA c (by omega) (by omega)) b2
  · rw [hsx.2]; exact BaSt_kp (fun c y1 y2 => hA c (by omega) (by omega)) b1
  · unfold Gprd
    constructor
    · rintro ⟨a, b, h1, h2, h3, h4⟩
      exact ⟨b, a, h2, h1, by omega, by rw [h4]; exact prodm_comm (w.2.1.2 a h1).2.1 (w.2.2.1.2 b h2).2.1⟩
    · rintro ⟨a, b, h1, h2, h3, h4⟩
      exact ⟨b, a, h2, h1, by omega, by rw [h4]; exact prodm_comm (w.2.2.1.2 a h1).2.1 (w.2.1.2 b h2).2.1⟩
end HT5
