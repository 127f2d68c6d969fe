/-! the reference: quotient, regular -/
/-- rests of a polynomial's multiples, and the heap with it as one row more -/
theorem quo_rank {p : Nat} [NeZero p] {n ord d f : Nat} {H : Hp p} {D : Nat → Mo2 → Fin p} {e : Nat → Nat → Fin p} (hF : isField p) (hf : dg1 D = f + 1) (hE : Ech (nM n ord (d + f)) (VV n ord (d + f) (VP n (Gh H) (d + f))) (leadB (VV n ord (d + f) (VP n (Gh H) (d + f)))) e) : vdm n ord (Gquo H D) (d + f) = vdm n ord (Gh H) (d + f) + dm (nM n ord (d + f)) (upto (fun s => red (leadB (VV n ord (d + f) (VP n (Gh H) (d + f)))) e (vec n ord (d + f) (mulm (atm n ord d s) (D f))) (nM n ord (d + f))) (nM n ord d)) := by
  have hVs : Sub (VV n ord (d + f) (VP n (Gh H) (d + f))) := VV_sub (VP_sub _ _ _)
  have hVr : inRange (nM n ord (d + f)) (VV n ord (d + f) (VP n (Gh H) (d + f))) := VV_range _
  generalize hP : leadB (VV n ord (d + f) (VP n (Gh H) (d + f))) = P at hE
  have u_in : ∀ s, VV n ord (d + f) (VP n (Gh H) (d + f)) (fun j => vec n ord (d + f) (mulm (atm n ord d s) (D f)) j - red P e (vec n ord (d + f) (mulm (atm n ord d s) (D f))) (nM n ord (d + f)) j) := fun s => red_in (N := nM n ord (d + f)) hVs hE.inV _
  have u_out : ∀ s i, nM n ord (d + f) ≤ i → red P e (vec n ord (d + f) (mulm (atm n ord d s) (D f))) (nM n ord (d + f)) i = 0 := fun s i hi => by
    have := hVr _ (u_in s) i hi
    have e0 : vec n ord (d + f) (mulm (atm n ord d s) (D f)) i = 0 := by unfold vec; rw [if_neg (by omega)]
    simp only [e0] at this
    grind
  have u_z : ∀ s i, P i = true → red P e (vec n ord (d + f) (mulm (atm n ord d s) (D f))) (nM n ord (d + f)) i = 0 := fun s i hi => red_zero (P := P) hE.fam (nM n ord (d + f)) i (hE.1 i hi).1 hi
  obtain ⟨u, hu⟩ : ∃ u : Nat → Nat → Fin p, u = fun s => red P e (vec n ord (d + f) (mulm (atm n ord d s) (D f))) (nM n ord (d + f)) := ⟨_, rfl⟩
  have hu' : ∀ s, u s = red P e (vec n ord (d + f) (mulm (atm n ord d s) (D f))) (nM n ord (d + f)) := fun s => by rw [hu]
  rw [← hu]
  simp only [← hu'] at u_in u_out u_z
  have hWs : Sub (upto u (nM n ord d)) := Spn_sub _
  have hWr : inRange (nM n ord (d + f)) (upto u (nM n ord d)) := upto_range u_out _
  obtain ⟨e', hE'⟩ := Ech_of hF hWs hWr
  have hz : ∀ w, upto u (nM n ord d) w → ∀ i, P i = true → w i = 0 := by
    intro w hw i hi
    refine Spn_le (V := fun w => w i = 0) ⟨rfl, fun a b c ha hb => ?_⟩ (fun s ⟨k, _, hs⟩ => by rw [hs]; exact u_z k i hi) w hw
    show a i + c * b i = 0
    rw [ha, hb]; grind
  have hs := dm_sum hF.1 hVs hWs hE hE' hz
  have hV : vdm n ord (Gh H) (d + f) = ct P (nM n ord (d + f)) := hE.dm hF.1 hVs
  rw [hV, ← hs]
  unfold vdm
  refine dm_cong (fun w => ?_)
  rw [VV_spn]
  have hsub : Sub (sumV (VV n ord (d + f) (VP n (Gh H) (d + f))) (upto u (nM n ord d))) := sumV_sub hVs hWs
  constructor
  · intro hw
    refine Spn_le hsub (fun s hs => ?_) w hw
    obtain ⟨e1, g, c, hG, h2, h3, h4⟩ := hs
    rcases hG with hG | ⟨hG, hg⟩
    · refine ⟨s, fun _ => 0, ?_, hWs.1, fun i => by grind⟩
      rw [VV_spn]
      exact Spn_of ⟨e1, g, c, hG, h2, h3, h4⟩
    · have : e1 = f := by omega
      subst this
      rw [Nat.add_sub_cancel] at h3
      subst hg
      have hat := atm_psm (ord := ord) h3
      refine ⟨_, u (psm n ord d c), u_in (psm n ord d c), upto_of (psm_lt h3), fun i => ?_⟩
      rw [hat, h4]; grind
  · rintro ⟨a, b, ha, hb, hab⟩
    have h1 : Spn (RS n ord (d + f) (Gquo H D)) a := by
      rw [VV_spn] at ha
      exact Spn_le (Spn_sub _) (fun s ⟨e1, g, c, hG, h2⟩ => Spn_of ⟨e1, g, c, Or.inl hG, h2⟩) a ha
    have h2 : Spn (RS n ord (d + f) (Gquo H D)) b := by
      refine Spn_le (Spn_sub _) (fun s ⟨k, hk, hs⟩ => ?_) b hb
      have hv : Spn (RS n ord (d + f) (Gquo H D)) (vec n ord (d + f) (mulm (atm n ord d k) (D f))) := Spn_of ⟨f, D f, atm n ord d k, Or.inr ⟨hf, rfl⟩, by omega, by rw [Nat.add_sub_cancel]; exact atm_ok hk, rfl⟩
      have hd := u_in k
      rw [VV_spn] at hd
      have hd' : Spn (RS n ord (d + f) (Gquo H D)) (fun j => vec n ord (d + f) (mulm (atm n ord d k) (D f)) j - u k j) := Spn_le (Spn_sub _) (fun s ⟨e1, g, c, hG, h2⟩ => Spn_of ⟨e1, g, c, Or.inl hG, h2⟩) _ hd
      have := (Spn_sub (RS n ord (d + f) (Gquo H D))).sub hv hd'
      have e0 : (fun i => vec n ord (d + f) (mulm (atm n ord d k) (D f)) i - (vec n ord (d + f) (mulm (atm n ord d k) (D f)) i - u k i)) = s := by
        rw [hs]; funext i; grind
      rw [e0] at this; exact this
    have := (Spn_sub (RS n ord (d + f) (Gquo H D))).add h1 h2
    have e0 : (fun i => a i + b i) = w := funext (fun i => (hab i).symm)
    rw [e0] at this; exact this
theorem qsub {a b c r : Nat} (h : b = c + r) (hr : r ≤ a) : nI a - nI b + nI c = nI (a - r) := by
  have e : nI a + nI c = nI (a - r) + nI b := by rw [nI_add, nI_add]; congr 1; omega
  have e2 : nI a - nI b + nI c = (nI a + nI c) - nI b := by grind
  rw [e2, e]; grind
section MO14
variable {M : Mem} {I : Nat → Nat → Int32} {n ord p : Nat}
theorem sp_quotientOf [NeZero p] {d f : Nat} {D : Nat → Mo2 → Fin p} {H O : Hp p} {C : Nat → Nat → Mo2 → Fin p} {post : Int32 → Mem → Prop} (hM : MdOK M) (hW : WfA n ord D H O C) (hS : MSt n ord D H O C I) (hev : evP D) (hf : dg1 D = f + 1) (hd : d + f ≤ 10) (h : ∀ I' r, vdm n ord (Gquo H D) (d + f) = vdm n ord (Gh H) (d + f) + r → r ≤ nM n ord d → MSt n ord D H O C I' → FM I I' → post (nI (nM n ord d - r)) (wI M I')) : T_Mo_quotientOf 199 (nI d) (wI M I) post := by
  have hk := hM.1
  have hM' := hM
  obtain ⟨k4, r0, r6, r7, r9, r10, r11, r13, r14, r15, r17, a5, a6, a7, a8, a9, a10, a11, a12, a13, a14⟩ := hM'
  have hp := prm_lt hW.1.2.2
  have hF := prm_field hW.1.2.2
  have hD := hW.2.1
  have hle := dg1_le D
  have hev2 := (evP_iff hD).mp hev
  have hN := hW.n66 (show d ≤ 10 by omega)
  have hN2 := hW.n66 (show d + f ≤ 10 by omega)
  refine ⟨hk, sp_Modegree (k := 0) hM (by omega) hp.2 hD hS.2.1 ⟨hk, ?_⟩⟩
  refine sp_Motake hM hS.1.1 hW.1.1.2 hS.1.2.2.1 hW.1.2.1 (by omega) (fun J hT hJ => ⟨hk, ?_⟩)
  rw [hf, nI_pred, gI_wI, hT.1]
  -- the products of degree d
  have := pk_loop (σ := Nat → Int32) (fun N i g => L_Mo_quotientOf_19 post N 199 (nI d) (nI f) (nI (nM n ord d)) (nI i) (wI M (sAll J 208 g))) (fun i g => ∀ k, k < i → g k = nI (cdm d (atm n ord d k))) (nM n ord d) 0 (J 208) (by omega) (fun k hk => absurd hk (Nat.not_lt_zero k)) ?_ ?_
  · simp only [sAll_self] at this
    exact this
  · intro N g hg
    show B_Mo_quotientOf_19 (L_Mo_quotientOf_19 post N) post 199 _ _ _ _ _
    unfold B_Mo_quotientOf_19
    rw [nI_add]
    refine ⟨fun _ => ⟨hk, ?_⟩, fun q => absurd (Int32.le_refl _) q⟩
    have hS1 : MSt n ord D H O C (sAll J 208 g) := MSt_kp hW.2.2.1.1 hW.2.2.2.1.1 (fun k hk => by rw [sAll_ne (by omega)]; exact hJ.2 k (by omega)) (fun j _ => by rw [sAll_ne (by omega), hJ.1 200 (by omega) (by omega) (by omega)]) hS
    have hF1 : FM I (sAll J 208 g) := hJ.en.fm.tr (FM_s (by omega))
    refine sp_Moheap hM hW hS1 hd (fun K hEs hK => ⟨hk, ?_⟩)
    obtain ⟨e, hE⟩ := hEs.st hF.1
    rw [← VV_spn] at hE
    have hSK := MSt_en hW hK hS1
    have hstd : ∀ k, k < nM n ord d → K 208 k = nI (cdm d (atm n ord d k)) := fun k hk => by
      rw [hK.1 208 (by omega) (by omega) (by omega) (by omega) (by omega) (by omega), sAll_eq]; exact hg k hk
    have hT2 := hE.1
    rw [gI_wI, hT2.1]
    have hq := quo_rank hF hf hE.2.1.2.2.1
    -- row by row
    refine pk_loop (σ := (Nat → Int32) × (Nat → Int32)) (fun N s g => L_Mo_quotientOf_61 post N 199 (nI (nM n ord d)) (nI (nM n ord (d + f))) (nI s) (wI M (sAll (sAll K 204 g.1) 207 g.2))) (fun s g => MxR (nM n ord (d + f)) s g.2 (fun s => red (leadB (VV n ord (d + f) (VP n (Gh H) (d + f)))) e (vec n ord (d + f) (mulm (atm n ord d s) (D f))) (nM n ord (d + f)))) (nM n ord d) 0 (K 204, K 207) (by omega) (fun r hr => absurd hr (Nat.not_lt_zero r)) ?_ ?_ |> fun q => by
        have e0 : sAll (sAll K 204 (K 204)) 207 (K 207) = K := by rw [sAll_self, sAll_self]
        simp only [e0] at q; exact q
    · intro N' ⟨g1, g2⟩ hg2
      have hg2 : MxR (nM n ord (d + f)) (nM n ord d) g2 (fun s => red (leadB (VV n ord (d + f) (VP n (Gh H) (d + f)))) e (vec n ord (d + f) (mulm (atm n ord d s) (D f))) (nM n ord (d + f))) := hg2
      show B_Mo_quotientOf_61 (L_Mo_quotientOf_61 post N') post 199 _ _ _ (wI M (sAll (sAll K 204 g1) 207 g2))
      unfold B_Mo_quotientOf_61
      refine ⟨fun _ => ⟨hk, ?_⟩, fun q => absurd (Int32.le_refl _) q⟩
      have hbd : nM n ord (d + f) * nM n ord d ≤ 66 * 66 := Nat.mul_le_mul hN2 hN
      refine sp_rankOf hM (by rw [sAll_ne (by omega), sAll_ne (by omega)]; exact hSK.1.2.1) hW.1.2.2 (by omega) (by omega) (by omega) (by rw [sAll_eq]; exact hg2) (fun g3 => ?_)
      have em : mrow (nM n ord (d + f)) (fun s => red (leadB (VV n ord (d + f) (VP n (Gh H) (d + f)))) e (vec n ord (d + f) (mulm (atm n ord d s) (D f))) (nM n ord (d + f))) = fun s => red (leadB (VV n ord (d + f) (VP n (Gh H) (d + f)))) e (vec n ord (d + f) (mulm (atm n ord d s) (D f))) (nM n ord (d + f)) := by
        funext s c
        unfold mrow
        by_cases z : c < nM n ord (d + f)
        · rw [if_pos z]
        · rw [if_neg z, (En_red hE (v := vec n ord (d + f) (mulm (atm n ord d s) (D f))) (fun i hi => by unfold vec; rw [if_neg (by omega)])).2.1 c (by omega)]
      rw [em]
      have hr := dm_upto (N := nM n ord (d + f)) hF (f := fun s => red (leadB (VV n ord (d + f) (VP n (Gh H) (d + f)))) e (vec n ord (d + f) (mulm (atm n ord d s) (D f))) (nM n ord (d + f))) (fun s c hc => (En_red hE (v := vec n ord (d + f) (mulm (atm n ord d s) (D f))) (fun i hi => by unfold vec; rw [if_neg (by omega)])).2.1 c hc) (nM n ord d)
      rw [pk_sub hr, sAll_sAll]
      refine h _ _ hq hr (MSt_kp hW.2.2.1.1 hW.2.2.2.1.1 (fun k _ => by rw [sAll_ne (by omega), sAll_ne (by omega)]) (fun j _ => by rw [sAll_ne (by omega), sAll_ne (by omega)]) hSK) ((hF1.tr hK.fm).tr ((FM_s (by omega)).tr (FM_s (by omega))))
    · intro N' s ⟨g1, g2⟩ hs hg2 ih
      have hg2 : MxR (nM n ord (d + f)) s g2 (fun s => red (leadB (VV n ord (d + f) (VP n (Gh H) (d + f)))) e (vec n ord (d + f) (mulm (atm n ord d s) (D f))) (nM n ord (d + f))) := hg2
      have hoks := atm_ok hs
      have hcs := cdm_ok (show d ≤ 10 by omega) hoks.1
      show B_Mo_quotientOf_61 (L_Mo_quotientOf_61 post N') post 199 _ _ _ (wI M (sAll (sAll K 204 g1) 207 g2))
      unfold B_Mo_quotientOf_61
      refine ⟨fun q => ?_, fun _ => ?_⟩
      · rw [nI_leI (by omega) (by omega)] at q; omega
      have ec : ∀ (g1 g : Nat → Int32), sAll (sAll K 207 g2) 204 g = sAll (sAll K 204 g) 207 g2 := by
        intro _ g; funext c; unfold sAll
        by_cases z : c = 204
        · rw [if_pos z, if_neg (by omega), if_pos z]
        · rw [if_neg z]
          by_cases z2 : c = 207
          · rw [if_pos z2, if_pos z2]
          · rw [if_neg z2, if_neg z2, if_neg z]
      obtain ⟨Q, hQ⟩ : ∃ Q, Q = sAll K 207 g2 := ⟨_, rfl⟩
      rw [← ec g1 g1, ← hQ]
      have Q8 : Q 199 8 = nI (nM n ord (d + f)) := by rw [hQ, sAll_ne (by omega)]; exact hT2.1
      have Q7 : Q 202 = K 202 := by rw [hQ, sAll_ne (by omega)]
      have Q13 : Q 208 = K 208 := by rw [hQ, sAll_ne (by omega)]
      have Q5 : Q 200 = K 200 := by rw [hQ, sAll_ne (by omega)]
      have hEQ : EnSt n ord (d + f) (VV n ord (d + f) (VP n (Gh H) (d + f))) (leadB (VV n ord (d + f) (VP n (Gh H) (d + f)))) e Q := EnSt_kp (fun c hc => by rw [hQ]; exact sAll_ne (by omega)) hE
      have QI2 : Q 199 2 = nI p := by rw [hQ, sAll_ne (by omega)]; exact hSK.1.2.1
      refine pk_loop (σ := Nat → Int32) (fun N2 i g => L_Mo_quotientOf_70 (L_Mo_quotientOf_61 post N') post N2 199 (nI (nM n ord d)) (nI (nM n ord (d + f))) (nI s) (nI i) (wI M (sAll Q 204 g))) (fun i g => ∀ j, j < i → g j = 0) (nM n ord (d + f)) 0 g1 (by omega) (fun j hj => absurd hj (Nat.not_lt_zero j)) ?_ ?_
      · intro N2 g hg
        show B_Mo_quotientOf_70 _ (L_Mo_quotientOf_70 _ post N2) post 199 _ _ _ _ _
        refine ⟨fun _ => ?_, fun q => absurd (Int32.le_refl _) q⟩
        refine pk_loop (σ := Nat → Int32) (fun N3 i g' => L_Mo_quotientOf_94 (L_Mo_quotientOf_61 post N') post N3 199 (nI (nM n ord d)) (nI (nM n ord (d + f))) (nI s) (nI i) (wI M (sAll Q 204 g'))) (fun i g' => ∀ j, j < nM n ord (d + f) → g' j = nI (if cdm d (atm n ord d s) ≤ cdm (d + f) (atm n ord (d + f) j) ∧ cdm (d + f) (atm n ord (d + f) j) - cdm d (atm n ord d s) < i then cf D (cdm (d + f) (atm n ord (d + f) j) - cdm d (atm n ord d s)) else 0).val) 1331 0 g (by omega) (fun j hj => ?_) ?_ ?_
        · rw [hg j hj, if_neg (by omega), show (0 : Fin p).val = 0 from Nat.zero_mod p]; rfl
        · intro N3 g' hg'
          show B_Mo_quotientOf_94 _ (L_Mo_quotientOf_94 _ post N3) post 199 _ _ _ _ _
          refine ⟨fun _ => ?_, fun q => absurd (by decide) q⟩
          refine sp_quo148 (v := vec n ord (d + f) (mulm (atm n ord d s) (D f))) hM (by rw [sAll_ne (by omega)]; exact QI2) hW.1.2.2 hN2 (EnSt_kp (fun c hc => sAll_ne (by omega)) hEQ) (fun j hj => ?_) (fun g3 hg3 => ?_)
          · have hoj := atm_ok hj
            have hcj := cdm_ok hd hoj.1
            rw [sAll_eq, hg' j hj]
            have e1 : cf (upF d (atm n ord d s) D) (cdm (d + f) (atm n ord (d + f) j)) = mulm (atm n ord d s) (D f) (atm n ord (d + f) j) := by
              rw [cf_at hd hoj.1]
              unfold upF
              rw [if_pos (by omega), show d + f - d = f by omega]
            unfold vec
            rw [if_pos hj, ← e1, ← cf_up hD (by omega) hoks (by omega) hcj.1]
            by_cases w : cdm d (atm n ord d s) ≤ cdm (d + f) (atm n ord (d + f) j)
            · rw [if_pos w, if_pos ⟨w, by omega⟩]
            · rw [if_neg w, if_neg (fun z => w z.1)]
          · rw [sAll_sAll, hQ, ec g1 g3]
            -- to the matrix
            refine pk_loop (σ := Nat → Int32) (fun N4 i m => L_Mo_quotientOf_197 (L_Mo_quotientOf_61 post N') post N4 199 (nI (nM n ord d)) (nI (nM n ord (d + f))) (nI s) (nI i) (wI M (sAll (sAll K 204 g3) 207 m))) (fun i m => MxR (nM n ord (d + f)) s m (fun s => red (leadB (VV n ord (d + f) (VP n (Gh H) (d + f)))) e (vec n ord (d + f) (mulm (atm n ord d s) (D f))) (nM n ord (d + f))) ∧ ∀ j, j < i → m (nM n ord (d + f) * s + j) = nI (red (leadB (VV n ord (d + f) (VP n (Gh H) (d + f)))) e (vec n ord (d + f) (mulm (atm n ord d s) (D f))) (nM n ord (d + f)) j).val) (nM n ord (d + f)) 0 g2 (by omega) ⟨hg2, fun j hj => absurd hj (Nat.not_lt_zero j)⟩ ?_ ?_
            · intro N4 m ⟨m1, m2⟩
              show B_Mo_quotientOf_197 _ (L_Mo_quotientOf_197 _ post N4) post 199 _ _ _ _ _
              unfold B_Mo_quotientOf_197
              rw [nI_1]
              refine ⟨fun _ => ih (g3, m) (fun r hr c hc => ?_), fun q => absurd (Int32.le_refl _) q⟩
              by_cases z : r = s
              · subst z; exact m2 c hc
              · exact m1 r (by omega) c hc
            · intro N4 i m hi ⟨m1, m2⟩ ih4
              have hix := ix_lt (w := nM n ord (d + f)) hs hi
              have hbd : nM n ord (d + f) * nM n ord d ≤ 66 * 66 := Nat.mul_le_mul hN2 hN
              have hgi := hg3 i hi
              show B_Mo_quotientOf_197 _ (L_Mo_quotientOf_197 _ post N4) post 199 _ _ _ _ _
              unfold B_Mo_quotientOf_197
              rw [nI_leI (by omega) (by omega), pk_mul, nI_add, nI_1 i]
              refine ⟨fun q => absurd q (by omega), fun _ => ⟨hk, 207, r14, hk, 204, r10, arr_A a9 (by omega) (by omega), arr_A a12 (by omega) (by omega), ?_⟩⟩
              rw [gI_wI, nI_clamp (by omega), nI_clamp (by omega), sAll_ne (show (204 : Nat) ≠ 207 by omega), sAll_eq, hgi, sI_wI, u2_sAll]
              refine ih4 _ ⟨fun r hr c hc => ?_, fun j hj => ?_⟩
              · rw [upd_ne (fun z => by have := (ix_inj hc hi z).1; omega)]; exact m1 r hr c hc
              · by_cases z : j = i
                · subst z; exact upd_eq _ _ _
                · rw [upd_ne (by omega)]; exact m2 j (by omega)
        · intro N3 i g' hi hg' ih3
          have hv : sAll Q 204 g' 200 (1331 * 0 + i) = nI (cf D i).val := by rw [sAll_ne (by omega), Q5]; exact hSK.2.1 i hi
          show B_Mo_quotientOf_94 _ (L_Mo_quotientOf_94 _ post N3) post 199 _ _ _ _ _
          unfold B_Mo_quotientOf_94 B_Mo_quotientOf_139
          refine ⟨fun q => ?_, fun _ => ⟨hk, sp_Moget (k := 0) hM (by omega) hi ⟨fun q => ?_, fun q => ⟨hk, 204, r10, hk, 202, r7, hk, 208, r15, arr_A a13 (by omega) (by omega), ?_⟩⟩⟩⟩
          · rw [show (1331 : Int32) = nI 1331 from rfl, nI_leI (by omega) (by omega)] at q; omega
          · rw [hv, val_ne hp.2] at q
            rw [nI_1]
            refine ih3 g' (fun j hj => ?_)
            rw [hg' j hj]
            by_cases w : cdm d (atm n ord d s) ≤ cdm (d + f) (atm n ord (d + f) j) ∧ cdm (d + f) (atm n ord (d + f) j) - cdm d (atm n ord d s) < i
            · rw [if_pos w, if_pos ⟨w.1, by omega⟩]
            · rw [if_neg w]
              by_cases y : cdm d (atm n ord d s) ≤ cdm (d + f) (atm n ord (d + f) j) ∧ cdm (d + f) (atm n ord (d + f) j) - cdm d (atm n ord d s) < i + 1
              · rw [if_pos y, show cdm (d + f) (atm n ord (d + f) j) - cdm d (atm n ord d s) = i by omega, q]
              · rw [if_neg y]
          · rw [hv, val_ne hp.2] at q
            obtain ⟨q1, q2⟩ := cf_ne q
            have hed : mdeg i = f := by
              by_cases z : mdeg i = f
              · exact z
              · exact absurd (hev2 _ q1 (by omega) _) q2
            have hok := hD _ q1 _ q2
            have hmi := mmo_ok hi
            have hsum : i + cdm d (atm n ord d s) = cdm (d + f) ((mmo i).1 + (atm n ord d s).1, (mmo i).2 + (atm n ord d s).2) := by
              have := cdm_add hmi.1 hoks.1
              rw [hmi.2, hed, Nat.add_comm f d] at this
              exact this
            have hokd : okm n (d + f) ((mmo i).1 + (atm n ord d s).1, (mmo i).2 + (atm n ord d s).2) := by
              have := okm_add hok hoks
              rw [hed, Nat.add_comm f d] at this
              exact this
            have hlt := psm_lt (ord := ord) hokd
            have hat := atm_psm (ord := ord) hokd
            have hpl := hT2.2.2 _ hlt
            rw [hat] at hpl
            have hct := cdm_ok hd hokd.1
            rw [gI_wI, gI_wI, nI_clamp (show s < 2 ^ 31 by omega), sAll_ne (show (208 : Nat) ≠ 204 by omega), Q13, hstd s hs, nI_add, hsum, nI_clamp (by omega), sAll_ne (show (202 : Nat) ≠ 204 by omega), Q7, hpl]
            refine ⟨arr_A a7 hct.1 (by omega), hk, sp_Moget (k := 0) hM (by omega) hi ⟨arr_A a9 (by omega) (by omega), ?_⟩⟩
            rw [hv, nI_clamp (by omega), sI_wI, u2_sAll, nI_1]
            refine ih3 _ (fun j hj => ?_)
            by_cases w : j = psm n ord (d + f) ((mmo i).1 + (atm n ord d s).1, (mmo i).2 + (atm n ord d s).2)
            · subst w
              rw [upd_eq, hat, ← hsum, if_pos ⟨by omega, by omega⟩, Nat.add_sub_cancel]
            · rw [upd_ne w, hg' j hj]
              have hoj := atm_ok hj
              have hcj := cdm_ok hd hoj.1
              have hnj : cdm (d + f) (atm n ord (d + f) j) ≠ i + cdm d (atm n ord d s) := fun z => by
                rw [hsum] at z
                have : atm n ord (d + f) j = ((mmo i).1 + (atm n ord d s).1, (mmo i).2 + (atm n ord d s).2) := by rw [← hcj.2.2, z]; exact hct.2.2
                apply w
                rw [← this, psm_atm hj]
              by_cases y : cdm d (atm n ord d s) ≤ cdm (d + f) (atm n ord (d + f) j) ∧ cdm (d + f) (atm n ord (d + f) j) - cdm d (atm n ord d s) < i
              · rw [if_pos y, if_pos ⟨y.1, by omega⟩]
              · rw [if_neg y, if_neg (by omega)]
      · intro N2 i g hi hg ih2
        show B_Mo_quotientOf_70 _ (L_Mo_quotientOf_70 _ post N2) post 199 _ _ _ _ _
        unfold B_Mo_quotientOf_70
        rw [nI_leI (by omega) (by omega)]
        refine ⟨fun q => absurd q (by omega), fun _ => ⟨hk, 204, r10, arr_A a9 (by omega) (by omega), ?_⟩⟩
        rw [sI_wI, nI_clamp (by omega), u2_sAll, nI_1]
        refine ih2 _ (fun j hj => ?_)
        by_cases w : j = i
        · subst w; exact upd_eq _ _ _
        · rw [upd_ne w]; exact hg j (by omega)
  · intro N i g hi hg ih
    have hli := hT.2.1 i hi
    show B_Mo_quotientOf_19 (L_Mo_quotientOf_19 post N) post 199 _ _ _ _ _
    unfold B_Mo_quotientOf_19
    rw [nI_leI (by omega) (by omega)]
    refine ⟨fun q => absurd q (by omega), fun _ => ⟨hk, 208, r15, hk, 201, r6, arr_A a6 (by omega) (by omega), arr_A a13 (by omega) (by omega), ?_⟩⟩
    rw [gI_wI, nI_clamp (by omega), sAll_ne (show (201 : Nat) ≠ 208 by omega), hli, sI_wI, u2_sAll, nI_1]
    refine ih _ (fun k hk => ?_)
    by_cases w : k = i
    · subst w; exact upd_eq _ _ _
    · rw [upd_ne w]; exact hg k (by omega)
theorem sp_mayAsk [NeZero p] {D : Nat → Mo2 → Fin p} {H O : Hp p} {C : Nat → Nat → Mo2 → Fin p} {post : Int32 → Mem → Prop} (hM : MdOK M) (hW : WfA n ord D H O C) (hS : MSt n ord D H O C I) (h1 : ∀ f, evP D → dg1 D = f + 1 → post 1 (wI M I)) (h0 : (¬ ∃ f, evP D ∧ dg1 D = f + 1) → post 0 (wI M I)) : T_Mo_mayAsk 199 (wI M I) post := by
  have hk := hM.1
  have hp := prm_lt hW.1.2.2
  have hD := hW.2.1
  have hle := szP_le D
  unfold T_Mo_mayAsk B_Mo_mayAsk_20 B_Mo_mayAsk_21
  refine ⟨hk, sp_Moproducts (k := 0) hM (by omega) hp.2 hS.2.1 ⟨fun q => ⟨rfl, h0 (fun ⟨f, _, z⟩ => ?_)⟩, fun q => ⟨hk, sp_MoisEven (k := 0) hM (by omega) hp.2 hD hS.2.1 (fun ev => ⟨fun z => absurd z (by decide), fun _ => ⟨rfl, ?_⟩⟩) (fun ev => ⟨fun _ => ⟨rfl, h0 (fun ⟨f, z, _⟩ => ev z)⟩, fun z => absurd rfl z⟩)⟩⟩⟩
  · rw [show (0 : Int32) = nI 0 from rfl, nI_leI (by omega) (by omega)] at q
    have := szP_pos z
    omega
  · by_cases z : dg1 D = 0
    · exfalso
      apply q
      rw [szP_zero hD z]; decide
    · exact h1 (dg1 D - 1) ev (by omega)
theorem mo_quotient [NeZero p] {D : Nat → Mo2 → Fin p} {H O : Hp p} {C : Nat → Nat → Mo2 → Fin p} {x : Int32} {post : Int32 → Mem → Prop} (hM : MdOK M) (hW : WfA n ord D H O C) (hS : MSt n ord D H O C I) (h1 : ∀ d f, evP D → dg1 D = f + 1 → x = nI d → d + f ≤ 10 → ∀ I', MSt n ord D H O C I' → FM I I' → post (nI (nM n ord d) - nI (nM n ord (d + f) - vdm n ord (Gh H) (d + f)) + nI (nM n ord (d + f) - vdm n ord (Gquo H D) (d + f))) (wI M I')) (h0 : (¬ ∃ d f, evP D ∧ dg1 D = f + 1 ∧ x = nI d ∧ d + f ≤ 10) → post (-1000000) (wI M I)) : T_Mo_quotient 199 x (wI M I) post := by
  have hk := hM.1
  have hp := prm_lt hW.1.2.2
  have hle := dg1_le D
  unfold T_Mo_quotient B_Mo_quotient_23
  refine ⟨hk, sp_mayAsk hM hW hS (fun f ev hf => ⟨fun z => absurd z (by decide), fun _ => ⟨hk, sp_Modegree (k := 0) hM (by omega) hp.2 hW.2.1 hS.2.1 ?_⟩⟩) (fun hn => ⟨fun _ => h0 (fun ⟨d, f, z1, z2, _⟩ => hn ⟨f, z1, z2⟩), fun z => absurd rfl z⟩)⟩
  rw [hf, nI_pred, show (10 : Int32) = nI 10 from rfl, pk_sub (show f ≤ 10 by omega)]
  refine sp_in3 (a := 0) (b := 10 - f + 1) (by omega) (by omega) (by rw [nI_pred]) (fun d _ d2 e => ⟨fun _ => ⟨hk, ?_⟩, fun z => absurd z (by decide)⟩) (fun hn => ⟨fun z => absurd rfl z, fun _ => h0 (fun ⟨d, f', _, z2, z3, z4⟩ => hn ⟨d, by omega, by omega, z3⟩)⟩)
  subst e
  refine sp_quotientOf hM hW hS ev hf (by omega) (fun J r hr hrl hSJ hFJ => ?_)
  have := h1 d f ev hf rfl (by omega) J hSJ hFJ
  have l1 := vdm_le n ord (Gquo H D) (d + f)
  rw [qsub (r := r) (by omega) hrl] at this
  exact this
theorem mo_regular [NeZero p] {D : Nat → Mo2 → Fin p} {H O : Hp p} {C : Nat → Nat → Mo2 → Fin p} {post : Int32 → Mem → Prop} (hM : MdOK M) (hW : WfA n ord D H O C) (hS : MSt n ord D H O C I) (h1 : ∀ f, evP D → dg1 D = f + 1 → ∀ v, (v = 1 ∧ ∀ d, d + f ≤ 10 → vdm n ord (Gquo H D) (d + f) - vdm n ord (Gh H) (d + f) = nM n ord d - vdm n ord (Gh H) d) ∨ (v = 0 ∧ ∃ d, d + f ≤ 10 ∧ vdm n ord (Gquo H D) (d + f) - vdm n ord (Gh H) (d + f) ≠ nM n ord d - vdm n ord (Gh H) d) → ∀ I', MSt n ord D H O C I' → FM I I' → post v (wI M I')) (h0 : (¬ ∃ f, evP D ∧ dg1 D = f + 1) → post (-1000000) (wI M I)) : T_Mo_regular 199 (wI M I) post := by
  have hk := hM.1
  have hp := prm_lt hW.1.2.2
  have hF := prm_field hW.1.2.2
  have hle := dg1_le D
  unfold T_Mo_regular
  refine ⟨hk, sp_mayAsk hM hW hS (fun f ev hf => ⟨fun _ => ?_, fun z => absurd z (by decide)⟩) (fun hn => ⟨fun z => absurd rfl z, fun _ => h0 hn⟩)⟩
  refine pk_loop (σ := Nat → Nat → Int32) (fun N d K => L_Mo_regular_12 post N 199 (nI d) (wI M K)) (fun d K => FM I K ∧ MSt n ord D H O C K ∧ ∀ e, e < d → vdm n ord (Gquo H D) (e + f) - vdm n ord (Gh H) (e + f) = nM n ord e - vdm n ord (Gh H) e) (11 - f) 0 I (by omega) ⟨fun _ _ => rfl, hS, fun e he => absurd he (Nat.not_lt_zero e)⟩ ?_ ?_
  · intro N K ⟨k1, k2, k3⟩
    show B_Mo_regular_12 (L_Mo_regular_12 post N) post 199 _ _
    refine ⟨hk, sp_Modegree (k := 0) hM (by omega) hp.2 hW.2.1 k2.2.1 ?_⟩
    rw [hf, nI_pred, nI_add, show (10 : Int32) = nI 10 from rfl, nI_ltI (by omega) (by omega)]
    exact ⟨fun _ => h1 f ev hf 1 (Or.inl ⟨rfl, fun d hd => k3 d (by omega)⟩) K k2 k1, fun q => absurd (by omega) q⟩
  · intro N d K hd ⟨k1, k2, k3⟩ ih
    have l66 := hW.n66 (show d ≤ 10 by omega)
    have l1 := vdm_le n ord (Gh H) d
    show B_Mo_regular_12 (L_Mo_regular_12 post N) post 199 _ _
    refine ⟨hk, sp_Modegree (k := 0) hM (by omega) hp.2 hW.2.1 k2.2.1 ?_⟩
    rw [hf, nI_pred, nI_add, show (10 : Int32) = nI 10 from rfl, nI_ltI (by omega) (by omega)]
    refine ⟨fun q => absurd q (by omega), fun _ => ⟨hk, sp_quotientOf hM hW k2 ev hf (by omega) (fun J r hr hrl hSJ hFJ => ⟨hk, sp_Moheap hM hW hSJ (by omega) (fun J2 hE hJ2 => ⟨hk, ?_⟩)⟩)⟩⟩
    have hS2 := MSt_en hW hJ2 hSJ
    have hF2 := (k1.tr hFJ).tr hJ2.fm
    rw [gI_wI, hE.rank hF.1, ← vdm_RS, nI_eq (by omega) (by omega), nI_1]
    refine ⟨fun q => ih J2 ⟨hF2, hS2, fun e he => ?_⟩, fun q => h1 f ev hf 0 (Or.inr ⟨rfl, d, by omega, by omega⟩) J2 hS2 hF2⟩
    by_cases z : e = d
    · subst z; omega
    · exact k3 e (by omega)
end MO14
