section FR3
variable {p : Nat} {n ord d : Nat} {M : Mem} {I : Nat → Nat → Int32} {sw : Bool}
def ent [NeZero p] (n ord J : Nat) (P' P : Nat → Bool) (e : Nat → Nat → Fin p) (l i t : Nat) : Fin p := if P' i = true then 0 else rstf n ord (J + 1) P e (mulm (lt2 l) (dl (atm n ord J i))) (atm n ord (J + 1) t)
def erow [NeZero p] (n ord J : Nat) (P' P : Nat → Bool) (e : Nat → Nat → Fin p) (c i : Nat) : Fin p := if i < nM n ord J then ent n ord J P' P e (c / nM n ord (J + 1)) i (c % nM n ord (J + 1)) else 0
theorem e_le [NeZero p] {J k : Nat} {P' P : Nat → Bool} {e : Nat → Nat → Fin p} : dm (nM n ord J) (upto (erow n ord J P' P e) k) ≤ nM n ord J - ct P' (nM n ord J) := by
  have h1 : ct (leadB (upto (erow n ord J P' P e) k)) (nM n ord J) ≤ ct (fun i => !P' i) (nM n ord J) := by
    refine ct_mono (fun i hi h => ?_)
    obtain ⟨v, hv, h0, _⟩ := leadB_iff.mp h
    cases w : P' i with
    | false => rfl
    | true =>
      refine absurd (Spn_le (V := fun v => v i = (0 : Fin p)) ⟨rfl, fun u v c hu hv => by simp only; rw [hu, hv]; grind⟩ ?_ v hv) h0
      rintro s ⟨c, _, rfl⟩
      unfold erow ent
      rw [if_pos hi, if_pos w]
  have h2 := ct_not P' (nM n ord J)
  unfold dm
  omega
theorem e_rank [NeZero p] {J : Nat} {G : Nat → (Mo2 → Fin p) → Prop} {e : Nat → Nat → Fin p} (hF : isField p) (h3 : n = 3) (hG : ∀ e g, G e g → hom n e g) (hE : Ech (nM n ord (J + 1)) (VV n ord (J + 1) (VP n G (J + 1))) (leadB (VV n ord (J + 1) (VP n G (J + 1)))) e) : R3 n ord J G (dm (nM n ord J) (upto (erow n ord J (leadB (VV n ord J (VP n G J))) (leadB (VV n ord (J + 1) (VP n G (J + 1)))) e) (3 * nM n ord (J + 1)))) := by
  refine ⟨e, hE, ?_⟩
  generalize leadB (VV n ord J (VP n G J)) = P'
  generalize leadB (VV n ord (J + 1) (VP n G (J + 1))) = P at hE
  refine Dim_cong (fun t => st_img (k3c_lin n ord J P e) t) ?_
  refine ⟨3 * nM n ord (J + 1), fun c => (c / nM n ord (J + 1), atm n ord (J + 1) (c % nM n ord (J + 1))), Sup_spn ?_, ?_⟩
  · rintro t ⟨s, hs, hP, rfl⟩ ⟨l, m⟩ hx
    unfold k3c at hx
    by_cases z : l < 3
    · rw [if_pos z] at hx
      obtain ⟨⟨q1, q2⟩, _⟩ := rst_ok hG hE (hom_mulm (dl_hom (p := p) (atm_ok hs)) (okl (n := n) (by omega) z))
      have hokm := q1 m hx
      have hlt := psm_lt (ord := ord) hokm
      have hdv := div_ix (q := l) hlt
      refine ⟨l * nM n ord (J + 1) + psm n ord (J + 1) m, ?_, ?_⟩
      · have := Nat.mul_le_mul_right (nM n ord (J + 1)) (show l + 1 ≤ 3 from z)
        rw [Nat.succ_mul] at this
        omega
      · simp only [hdv.1, hdv.2]
        rw [atm_psm (ord := ord) hokm]
    · rw [if_neg z] at hx; exact absurd rfl hx
  · rw [show upto (erow n ord J P' P e) (3 * nM n ord (J + 1)) = upto (fun c i => if i < nM n ord J then (fun i c => ent n ord J P' P e (c / nM n ord (J + 1)) i (c % nM n ord (J + 1))) i c else 0) (3 * nM n ord (J + 1)) from rfl, rank_eq hF]
    refine dm_cong (fun v => ?_)
    rw [img_spn (rsV_lin _ _)]
    have hr : ∀ s, P' s = false → (fun c => if c < 3 * nM n ord (J + 1) then ent n ord J P' P e (c / nM n ord (J + 1)) s (c % nM n ord (J + 1)) else 0) = rsV (3 * nM n ord (J + 1)) (fun c => (c / nM n ord (J + 1), atm n ord (J + 1) (c % nM n ord (J + 1)))) (k3c n ord J P e (dl (atm n ord J s))) := fun s hs => by
      funext c
      unfold rsV k3c ent
      by_cases z : c < 3 * nM n ord (J + 1)
      · rw [if_pos z, if_pos z, if_neg (by rw [hs]; decide)]
        dsimp only
        rw [if_pos (Nat.div_lt_of_lt_mul (by rw [Nat.mul_comm]; exact z))]
      · rw [if_neg z, if_neg z]
    constructor
    · intro hv
      refine Spn_le (Spn_sub _) ?_ v hv
      rintro w ⟨t, ⟨s, hs, hP, rfl⟩, rfl⟩
      exact Spn_of ⟨s, hs, (hr s hP).symm⟩
    · intro hv
      refine Spn_le (Spn_sub _) ?_ v hv
      rintro w ⟨s, hs, rfl⟩
      cases w : P' s with
      | false => exact Spn_of ⟨_, ⟨s, hs, w, rfl⟩, hr s w⟩
      | true =>
        have : (fun c => if c < 3 * nM n ord (J + 1) then ent n ord J P' P e (c / nM n ord (J + 1)) s (c % nM n ord (J + 1)) else 0) = fun _ => 0 := by
          funext c
          unfold ent
          rw [if_pos w, ite_self]
        dsimp only
        rw [this]; exact (Spn_sub _).1
theorem pl36 : ∀ y, y < 9 → ∀ z, z < 9 → (y + z ≤ 7 → pl (y, z) < 36) ∧ (y + z ≤ 8 → pl (y, z) < 45) := by decide +kernel
theorem rest_st [NeZero p] {G : Nat → (Mo2 → Fin p) → Prop} {d : Nat} {e : Nat → Nat → Fin p} (hG : ∀ e g, G e g → hom n e g) (hE : Ech (nM n ord d) (VV n ord d (VP n G d)) (leadB (VV n ord d (VP n G d))) e) {f f' : Mo2 → Fin p} (hf : hom n d f) (hf' : hom n d f') (h : isRest n ord G d (vec n ord d f) (vec n ord d f')) : f' = rstf n ord d (leadB (VV n ord d (VP n G d))) e f := by
  obtain ⟨⟨a1, a2⟩, a3⟩ := rst_ok hG hE hf
  have hv : VV n ord d (VP n G d) (fun i => vec n ord d f' i - vec n ord d (rstf n ord d (leadB (VV n ord d (VP n G d))) e f) i) := by
    have h1 : VV n ord d (VP n G d) (fun i => vec n ord d f i - vec n ord d (rstf n ord d (leadB (VV n ord d (VP n G d))) e f) i) := by
      rw [← vec_sub]; exact ⟨_, a3, rfl⟩
    have h2 := (VV_sub (ord := ord) (VP_sub n G d)).sub h1 h.1
    have e0 : (fun j => (vec n ord d f j - vec n ord d (rstf n ord d (leadB (VV n ord d (VP n G d))) e f) j) - (vec n ord d f j - vec n ord d f' j)) = fun i => vec n ord d f' i - vec n ord d (rstf n ord d (leadB (VV n ord d (VP n G d))) e f) i := by funext i; grind
    rw [e0] at h2; exact h2
  have := hE.rest1 hv (fun i hi => h.2 i hi) a2
  rw [← unv_vec (ord := ord) hf', ← unv_vec (ord := ord) a1, this]
theorem sp_loadImages [NeZero p] {J l b r : Nat} {G : Nat → (Mo2 → Fin p) → Prop} {e : Nat → Nat → Fin p} {post : Mem → Prop} (hT : HTOK M sw) (hB : BaOK M b) (hC : Cfg n ord p I) (hG : ∀ e g, G e g → hom n e g) (hSt : BaSt n ord b G r I) (hJ : J ≤ 7) (hr : J + 1 < r) (hl : l < n) (hE : Ech (nM n ord (J + 1)) (VV n ord (J + 1) (VP n G (J + 1))) (leadB (VV n ord (J + 1) (VP n G (J + 1)))) e) (h : ∀ I', (∀ t, t < nM n ord (J + 1) → ∀ i, i < nM n ord J → I' (80 + pl (atm n ord (J + 1) t)) (pl (atm n ord J i)) = nI (ent n ord J (leadB (VV n ord J (VP n G J))) (leadB (VV n ord (J + 1) (VP n G (J + 1)))) e l i t).val) → (∀ c, c ≠ 78 → (c < 80 ∨ 124 < c) → I' c = I c) → post (wI M I')) : T_HT_loadImages 0 b (nI J) (nI l) (wI M I) post := by
  have hT' := hT
  obtain ⟨⟨k0, r0, r1, r2, r3, r4, r5, r6, r7, r8, r9, r10, r11⟩, ⟨a78, a79, a80⟩, hPo, _, _, _, hM⟩ := hT'
  have k1 := hM.1.1.1
  have kb := hB.2.1.1
  have hb := hB.1.1
  have hp := prm_lt hC.2.2
  have h1p : (1 : Fin p) ≠ 0 := (prm_field hC.2.2).1
  have hn3 := hC.1.1.1
  have hord := hC.1.1.2
  have hNb := nM_le n (by omega) ord (by omega) J (by omega)
  have hNc := nM_le n (by omega) ord (by omega) (J + 1) (by omega)
  have hl3 : l < 3 := by omega
  refine pk_loop (σ := Nat → Nat → Int32) (fun N i K => L_HT_loadImages_3 post N 0 b (nI J) (nI l) (nI i) (wI M K)) (fun i K => (∀ t, t < nM n ord (J + 1) → ∀ i', i' < i → K (80 + pl (atm n ord (J + 1) t)) (pl (atm n ord J i')) = nI (ent n ord J (leadB (VV n ord J (VP n G J))) (leadB (VV n ord (J + 1) (VP n G (J + 1)))) e l i' t).val) ∧ ∀ c, c ≠ 78 → (c < 80 ∨ 124 < c) → K c = I c) (nM n ord J) 0 I (by omega) ⟨fun t _ i' hi' => absurd hi' (by omega), fun c _ _ => rfl⟩ ?_ ?_
  · intro N K hK
    show B_HT_loadImages_3 (L_HT_loadImages_3 post N) post 0 b _ _ _ _
    unfold B_HT_loadImages_3
    simp only [isK_wI, isA_wI, gR_wI, gI_wI, sI_wI, true_and, and_true, Option.some.injEq, exists_eq_left', k0, r0, k1]
    refine sp_amount hM.1 (PrSt_kp (fun c hc => hK.2 c (by omega) (by omega)) hC.1) (by omega) ?_
    exact ⟨fun _ => h K hK.1 hK.2, fun q => absurd (Int32.le_refl _) q⟩
  · intro N i K hi hK ih
    have hCK : Cfg n ord p K := Cfg_kp (fun c hc => hK.2 c (by omega) (by omega)) hC
    show B_HT_loadImages_3 (L_HT_loadImages_3 post N) post 0 b _ _ _ _
    unfold B_HT_loadImages_3
    simp only [isK_wI, isA_wI, gR_wI, gI_wI, sI_wI, true_and, and_true, Option.some.injEq, exists_eq_left', k0, r0, k1]
    refine sp_amount hM.1 hCK.1 (by omega) ?_
    rw [nI_leI (by omega) (by omega)]
    refine ⟨fun q => absurd q (by omega), fun _ => ?_⟩
    simp only [isK_wI, isA_wI, gR_wI, gI_wI, sI_wI, true_and, and_true, Option.some.injEq, exists_eq_left', k0, r0, k1]
    refine sp_at hM.1 hCK.1 (by omega) hi ?_
    simp only [isK_wI, isA_wI, gR_wI, gI_wI, sI_wI, true_and, and_true, Option.some.injEq, exists_eq_left', k0, r3]
    refine sp_fill2 a78 (by omega) ?_
    simp only [isK_wI, isA_wI, gR_wI, gI_wI, sI_wI, true_and, and_true, Option.some.injEq, exists_eq_left', kb]
    have hoki := atm_ok hi
    have hi10 : (atm n ord J i).1 + (atm n ord J i).2 ≤ J := hoki.1
    have hpi : pl (atm n ord J i) < 36 := (pl36 (atm n ord J i).1 (by omega) (atm n ord J i).2 (by omega)).1 (by omega)
    have inner : ∀ g, (∀ t, t < nM n ord (J + 1) → g (pl (atm n ord (J + 1) t)) = nI (ent n ord J (leadB (VV n ord J (VP n G J))) (leadB (VV n ord (J + 1) (VP n G (J + 1)))) e l i t).val) → B_HT_loadImages_73 (L_HT_loadImages_3 post N) post 0 b (nI J) (nI l) (nI i) (nI (pl (atm n ord J i))) (wI M (sAll K 78 g)) := by
      intro g hg
      refine pk_loop (σ := Nat → Nat → Int32) (fun N' t K' => L_HT_loadImages_76 (L_HT_loadImages_3 post N) post N' 0 b (nI J) (nI l) (nI i) (nI (pl (atm n ord J i))) (nI t) (wI M K')) (fun t K' => (∀ t', t' < nM n ord (J + 1) → ∀ i', i' < i ∨ (i' = i ∧ t' < t) → K' (80 + pl (atm n ord (J + 1) t')) (pl (atm n ord J i')) = nI (ent n ord J (leadB (VV n ord J (VP n G J))) (leadB (VV n ord (J + 1) (VP n G (J + 1)))) e l i' t').val) ∧ K' 78 = g ∧ ∀ c, c ≠ 78 → (c < 80 ∨ 124 < c) → K' c = I c) (nM n ord (J + 1)) 0 (sAll K 78 g) (by omega) ⟨fun t' ht' i' hi' => ?_, sAll_eq _ _ _, fun c h1 h2 => by rw [sAll_ne h1]; exact hK.2 c h1 h2⟩ ?_ ?_
      · rw [sAll_ne (by omega)]; exact hK.1 t' ht' i' (by omega)
      · intro N' K' hK'
        show B_HT_loadImages_76 _ (L_HT_loadImages_76 _ post N') post 0 b _ _ _ _ _ _
        unfold B_HT_loadImages_76
        simp only [isK_wI, isA_wI, gR_wI, gI_wI, sI_wI, true_and, and_true, Option.some.injEq, exists_eq_left', k0, r0, k1]
        rw [nI_1 J, nI_1 i]
        refine sp_amount hM.1 (PrSt_kp (fun c hc => hK'.2.2 c (by omega) (by omega)) hC.1) (by omega) ?_
        exact ⟨fun _ => ih K' ⟨fun t ht i' hi' => hK'.1 t ht i' (by omega), hK'.2.2⟩, fun q => absurd (Int32.le_refl _) q⟩
      · intro N' t K' ht hK' ih'
        have hCK' : Cfg n ord p K' := Cfg_kp (fun c hc => hK'.2.2 c (by omega) (by omega)) hC
        have hokt := atm_ok ht
        have ht10 : (atm n ord (J + 1) t).1 + (atm n ord (J + 1) t).2 ≤ J + 1 := hokt.1
        have hpt : pl (atm n ord (J + 1) t) < 45 := (pl36 (atm n ord (J + 1) t).1 (by omega) (atm n ord (J + 1) t).2 (by omega)).2 (by omega)
        show B_HT_loadImages_76 _ (L_HT_loadImages_76 _ post N') post 0 b _ _ _ _ _ _
        unfold B_HT_loadImages_76
        simp only [isK_wI, isA_wI, gR_wI, gI_wI, sI_wI, true_and, and_true, Option.some.injEq, exists_eq_left', k0, r0, k1]
        rw [nI_1 J, nI_1 t]
        refine sp_amount hM.1 hCK'.1 (by omega) ?_
        rw [nI_leI (by omega) (by omega)]
        refine ⟨fun q => absurd q (by omega), fun _ => ?_⟩
        simp only [isK_wI, isA_wI, gR_wI, gI_wI, sI_wI, true_and, and_true, Option.some.injEq, exists_eq_left', k0, r0, k1]
        refine sp_at hM.1 hCK'.1 (by omega) ht ?_
        simp only [isK_wI, isA_wI, gR_wI, gI_wI, sI_wI, true_and, and_true, Option.some.injEq, exists_eq_left', k0, r4, r3]
        rw [nI_clamp (show pl (atm n ord (J + 1) t) < 2147483648 by omega), nI_clamp (show pl (atm n ord J i) < 2147483648 by omega)]
        simp only [(a80 _ hpt).1, Option.some.injEq, exists_eq_left']
        refine ⟨arr_A a79 hpt (by omega), arr_A a78 (by omega) (by omega), arr_A (a80 _ hpt).2 hpi (by omega), ?_⟩
        refine ih' _ ⟨fun t' ht' i' hi' => ?_, ?_, fun c h1 h2 => ?_⟩
        · have ht1 : (atm n ord (J + 1) t').1 + (atm n ord (J + 1) t').2 ≤ J + 1 := (atm_ok ht').1
          have hii : i' < nM n ord J := by omega
          have hi1 : (atm n ord J i').1 + (atm n ord J i').2 ≤ J := (atm_ok hii).1
          by_cases z : t' = t ∧ i' = i
          · rw [z.1, z.2]
            unfold u2 upd
            rw [if_pos rfl, if_pos rfl, hK'.2.1, hg t ht]
          · rw [← hK'.1 t' ht' i' (by omega)]
            unfold u2 upd
            by_cases y : 80 + pl (atm n ord (J + 1) t') = 80 + pl (atm n ord (J + 1) t)
            · rw [if_pos y, ← y]
              refine if_neg (fun w => z ⟨atm_inj ht' ht (pl_inj (by omega) (by omega) (by omega)), atm_inj hii hi (pl_inj (by omega) (by omega) w)⟩)
            · rw [if_neg y]
        · unfold u2; rw [if_neg (by omega)]; exact hK'.2.1
        · unfold u2; rw [if_neg (by omega)]; exact hK'.2.2 c h1 h2
    refine sp_isStandard h1p hB (BaSt_kp (fun c y1 y2 => by rw [sAll_ne (by omega)]; exact hK.2 c (by omega) (by omega)) hSt) (by omega) hi ?_
    by_cases hP : leadB (VV n ord J (VP n G J)) i = true
    · rw [if_pos hP]
      refine ⟨fun _ => inner _ (fun t ht => ?_), fun q => absurd rfl q⟩
      have ht10 : (atm n ord (J + 1) t).1 + (atm n ord (J + 1) t).2 ≤ J + 1 := (atm_ok ht).1
      have := pl_lt (m := atm n ord (J + 1) t) (by omega)
      rw [if_pos (by omega)]
      unfold ent
      rw [if_pos hP]; rfl
    · rw [if_neg hP]
      refine ⟨fun q => absurd q (by decide), fun _ => ?_⟩
      simp only [isK_wI, isA_wI, gR_wI, gI_wI, sI_wI, true_and, and_true, Option.some.injEq, exists_eq_left', k0, r0, r3, k1]
      refine sp_raised hM.1 (PrSt_kp (kp_sAll (by omega)) hCK.1) (by omega) hl3 ?_
      have hokl := okl (n := n) hl hl3
      have hh1 := hom_mulm (dl_hom (p := p) hoki) hokl
      have hm0 : okm n (J + 1) ((lt2 l).1 + (atm n ord J i).1, (lt2 l).2 + (atm n ord J i).2) := by
        refine hh1 _ ?_
        rw [mulm_dl]; unfold dl; rw [if_pos rfl]; exact h1p
      have hm1 : (atm n ord J i).1 + (lt2 l).1 + ((atm n ord J i).2 + (lt2 l).2) ≤ J + 1 := by have := hm0.1; simp only at this; omega
      have hpl := pl_lt (m := ((atm n ord J i).1 + (lt2 l).1, (atm n ord J i).2 + (lt2 l).2)) (by simp only; omega)
      simp only [isK_wI, isA_wI, gR_wI, gI_wI, sI_wI, true_and, and_true, Option.some.injEq, exists_eq_left', k0, r3, kb]
      rw [nI_clamp (show pl ((atm n ord J i).1 + (lt2 l).1, (atm n ord J i).2 + (lt2 l).2) < 2147483648 by omega), u2_sAll, nI_1 J]
      refine ⟨arr_A a78 hpl (by omega), ?_⟩
      refine sp_restBy (f := mulm (lt2 l) (dl (atm n ord J i))) hB hM (Cfg_kp (kp_sAll (by omega)) hCK) hG (BaSt_kp (fun c y1 y2 => by rw [sAll_ne (by omega)]; exact hK.2 c (by omega) (by omega)) hSt) hr a78 (fun m hm => pl_lt (by omega)) (by omega) ⟨by omega, by omega⟩ ?_ hh1 (fun g2 f' w1 w2 w3 => ?_)
      · rw [sAll_eq, mulm_dl]
        intro m hm
        have hpm := pl_lt (m := m) (by omega)
        unfold upd dl
        by_cases z : m = ((lt2 l).1 + (atm n ord J i).1, (lt2 l).2 + (atm n ord J i).2)
        · have z2 : m = ((atm n ord J i).1 + (lt2 l).1, (atm n ord J i).2 + (lt2 l).2) := by rw [z]; ext <;> simp only <;> omega
          rw [if_pos z, if_pos (by rw [z2])]
          rw [show (1 : Fin p).val = 1 from Nat.mod_eq_of_lt (show 1 < p by omega)]; rfl
        · have z2 : pl m ≠ pl ((atm n ord J i).1 + (lt2 l).1, (atm n ord J i).2 + (lt2 l).2) := fun w => z (by
            have := pl_inj (a := m) (by omega) (by simp only; omega) w
            rw [this]; ext <;> simp only <;> omega)
          rw [if_neg z, if_neg z2]; dsimp only; rw [if_pos hpm]; rfl
      · rw [sAll_sAll]
        refine inner g2 (fun t ht => ?_)
        have ht10 : (atm n ord (J + 1) t).1 + (atm n ord (J + 1) t).2 ≤ J + 1 := (atm_ok ht).1
        rw [w1 _ ht10, rest_st hG hE hh1 w2 w3]
        unfold ent
        rw [if_neg hP]
end FR3
