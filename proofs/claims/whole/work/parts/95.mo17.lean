/-! the reference: steps -/
theorem sm_ne {p : Nat} [NeZero p] {f : Nat → Fin p} {n : Nat} (h : sm f n ≠ 0) : ∃ l, l < n ∧ f l ≠ 0 := Classical.byContradiction (fun z => h (sm_none (fun j hj => Classical.byContradiction (fun w => z ⟨j, hj, w⟩))))
def uS (i q : Nat) : Nat := ((List.range 8).find? (fun t => onesN t == i && plN t == q)).getD 0
theorem uS_ok : ∀ u, u < 8 → uS (onesN u) (plN u) = u := by decide +kernel
theorem mx_le : ∀ n, n < 4 → ∀ o, o < 2 → ∀ i, i < 4 → ∀ J, J < 10 → decide (J + i ≤ 10) = true → stN n (i - 1) * nM n o (J + 1) * (stN n i * nM n o J) ≤ 30000 := by decide +kernel
theorem st_le : ∀ n, n < 4 → ∀ i, i < 5 → stN n i ≤ 3 := by decide +kernel
theorem div_ix {w q x : Nat} (hx : x < w) : (q * w + x) / w = q ∧ (q * w + x) % w = x := by
  constructor
  · rw [Nat.mul_comm, Nat.mul_add_div (by omega), Nat.div_eq_of_lt hx, Nat.add_zero]
  · rw [Nat.mul_comm, Nat.mul_add_mod, Nat.mod_eq_of_lt hx]
section MO17
variable {M : Mem} {I : Nat → Nat → Int32} {n ord p : Nat}
/-- an entry of the matrix -/
def rF [NeZero p] (n ord J : Nat) (P' P : Nat → Bool) (e : Nat → Nat → Fin p) (u x c : Nat) : Fin p := rwT n ord J P e u (nth (nQ P') (nM n ord J) x) (c / ct (nQ P) (nM n ord (J + 1)), atm n ord (J + 1) (nth (nQ P) (nM n ord (J + 1)) (c % ct (nQ P) (nM n ord (J + 1)))))
theorem RWT_dim [NeZero p] {J i : Nat} {G : Nat → (Mo2 → Fin p) → Prop} {P' P : Nat → Bool} {e : Nat → Nat → Fin p} (hn : n ≤ 3) (hi1 : 1 ≤ i) (hi : i ≤ 3) (hG : ∀ e g, G e g → hom n e g) (hE : Ech (nM n ord (J + 1)) (VV n ord (J + 1) (VP n G (J + 1))) P e) : Dim (Spn (RWT n ord J P' P e i)) (dm (stN n (i - 1) * ct (nQ P) (nM n ord (J + 1))) (upto (mrow (stN n (i - 1) * ct (nQ P) (nM n ord (J + 1))) (fun r c => rF n ord J P' P e (uS i (r / ct (nQ P') (nM n ord J))) (r % ct (nQ P') (nM n ord J)) c)) (stN n i * ct (nQ P') (nM n ord J)))) := by
  have h8 := n_two n (by omega)
  refine ⟨stN n (i - 1) * ct (nQ P) (nM n ord (J + 1)), fun c => (c / ct (nQ P) (nM n ord (J + 1)), atm n ord (J + 1) (nth (nQ P) (nM n ord (J + 1)) (c % ct (nQ P) (nM n ord (J + 1))))), Sup_spn ?_, ?_⟩
  · rintro t ⟨u, s, hu, ho, hs, hP, rfl⟩ ⟨Q, m⟩ hx
    obtain ⟨l, hl, hne⟩ := sm_ne hx
    by_cases z : bitN u l = true ∧ plN (u - 2 ^ l) = Q
    · rw [if_pos z] at hne
      have hokl := okl hl (show l < 3 by omega)
      have hr0 : rstf n ord (J + 1) P e (mulm (lt2 l) (dl (atm n ord J s))) m ≠ 0 := fun w => hne (by unfold sgF; rw [w]; split <;> grind)
      obtain ⟨⟨q1, q2⟩, _⟩ := rst_ok hG hE (hom_mulm (dl_hom (p := p) (atm_ok hs)) hokl)
      have hokm := q1 m hr0
      have hlt := psm_lt (ord := ord) hokm
      have hat := atm_psm (ord := ord) hokm
      have hPk : P (psm n ord (J + 1) m) = false := by
        cases w : P (psm n ord (J + 1) m)
        · rfl
        · have := q2 _ w
          unfold vec at this
          rw [if_pos hlt, hat] at this
          exact absurd this hr0
      have hQ := nQ_t.mpr hPk
      have hck : ct (nQ P) (psm n ord (J + 1) m) < ct (nQ P) (nM n ord (J + 1)) := by
        have := ct_up (Q := nQ P) (show psm n ord (J + 1) m + 1 ≤ nM n ord (J + 1) from hlt)
        rw [ct_succ_t hQ] at this
        omega
      have hb := n_set2 n (by omega) u (by omega) l (by omega) (by simp only [Bool.and_eq_true, decide_eq_true_eq]; exact ⟨⟨hu, hl⟩, z.1⟩)
      rw [ho, z.2] at hb
      have hdv := div_ix (q := Q) hck
      refine ⟨Q * ct (nQ P) (nM n ord (J + 1)) + ct (nQ P) (psm n ord (J + 1) m), ?_, ?_⟩
      · have := Nat.mul_le_mul_right (ct (nQ P) (nM n ord (J + 1))) (show Q + 1 ≤ stN n (i - 1) from hb)
        rw [Nat.succ_mul] at this
        omega
      · simp only [hdv.1, hdv.2]
        rw [nth_ct hlt hQ, hat]
    · rw [if_neg z] at hne; exact absurd rfl hne
  · refine dm_cong (fun v => ?_)
    rw [img_spn (rsV_lin _ _)]
    refine Iff.of_eq (congrFun (Spn_iff (fun w => ?_)) v)
    constructor
    · rintro ⟨t, ⟨u, s, hu, ho, hs, hP, rfl⟩, rfl⟩
      have hQ := nQ_t.mpr hP
      have hck : ct (nQ P') s < ct (nQ P') (nM n ord J) := by
        have := ct_up (Q := nQ P') (show s + 1 ≤ nM n ord J from hs)
        rw [ct_succ_t hQ] at this
        omega
      have hb := n_set1 n (by omega) u (by omega) hu
      rw [ho] at hb
      have hdv := div_ix (q := plN u) hck
      refine ⟨plN u * ct (nQ P') (nM n ord J) + ct (nQ P') s, ?_, ?_⟩
      · have := Nat.mul_le_mul_right (ct (nQ P') (nM n ord J)) (show plN u + 1 ≤ stN n i from hb)
        rw [Nat.succ_mul] at this
        omega
      · funext c
        unfold mrow rsV rF
        dsimp only
        rw [hdv.1, hdv.2, nth_ct hs hQ, ← ho, uS_ok u (by omega)]
    · rintro ⟨r, hr, rfl⟩
      have hpos : 0 < ct (nQ P') (nM n ord J) := by
        rcases Nat.eq_zero_or_pos (ct (nQ P') (nM n ord J)) with z | z
        · rw [z, Nat.mul_zero] at hr; omega
        · exact z
      have hq : r / ct (nQ P') (nM n ord J) < stN n i := by
        rw [Nat.div_lt_iff_lt_mul hpos]; exact hr
      have hx : r % ct (nQ P') (nM n ord J) < ct (nQ P') (nM n ord J) := Nat.mod_lt _ hpos
      obtain ⟨u, hu, ho, hpl⟩ := n_onto n (by omega) i (by omega) _ hq
      have hn0 := nth_ok hx
      refine ⟨rwT n ord J P e u (nth (nQ P') (nM n ord J) (r % ct (nQ P') (nM n ord J))), ⟨u, _, hu, ho, hn0.1, nQ_t.mp hn0.2.1, rfl⟩, ?_⟩
      funext c
      unfold mrow rsV rF
      dsimp only
      rw [← hpl, ← ho, uS_ok u (by omega)]
theorem sp_steps [NeZero p] {i j : Nat} {D : Nat → Mo2 → Fin p} {H O : Hp p} {C : Nat → Nat → Mo2 → Fin p} {post : Int32 → Mem → Prop} (hM : MdOK M) (hW : WfA n ord D H O C) (hS : MSt n ord D H O C I) (hi4 : i ≤ 4) (hj : j ≤ 10) (h0 : (i = 0 ∨ n < i ∨ j < i) → post (nI 0) (wI M I)) (h1 : 1 ≤ i → i ≤ n → i ≤ j → ∀ I' e r, Ech (nM n ord (j - i + 1)) (VV n ord (j - i + 1) (VP n (Gh H) (j - i + 1))) (leadB (VV n ord (j - i + 1) (VP n (Gh H) (j - i + 1)))) e → Dim (Spn (RWT n ord (j - i) (leadB (VV n ord (j - i) (VP n (Gh H) (j - i)))) (leadB (VV n ord (j - i + 1) (VP n (Gh H) (j - i + 1)))) e i)) r → r < 30000 → SF I I' → post (nI r) (wI M I')) : T_Mo_steps 199 (nI i) (nI j) (wI M I) post := by
  have hM' := hM
  obtain ⟨k4, r0, r6, r7, r9, r10, r11, r13, r14, r15, r17, a5, a6, a7, a8, a9, a10, a11, a12, a13, a14⟩ := hM'
  have hp := prm_lt hW.1.2.2
  have hF := prm_field hW.1.2.2
  have hn := hS.1.1
  have hn3 := hW.1.1.2
  have hn1 := hW.1.1.1
  have hG : ∀ e g, Gh H e g → hom n e g := fun e g ⟨r, z1, z2, z3⟩ => by subst z2 z3; exact (hW.2.2.1.2 r z1).2.1
  unfold T_Mo_steps B_Mo_steps_17
  rw [gI_wI, hn, show (0 : Int32) = nI 0 from rfl, nI_eq (by omega) (by omega), nI_ltI (by omega) (by omega), nI_leI (by omega) (by omega)]
  refine ⟨fun z => h0 (Or.inl z), fun z0 => ⟨k4, fun z => h0 (Or.inr (Or.inl z)), fun z1 => ⟨fun z2 => ⟨k4, ?_⟩, fun z => h0 (Or.inr (Or.inr (by omega)))⟩⟩⟩
  have h1' := h1 (by omega) (by omega) z2
  clear h0 h1
  rw [pk_sub z2]
  obtain ⟨J, hJ⟩ : ∃ J, J = j - i := ⟨_, rfl⟩
  rw [← hJ] at h1' ⊢
  have hJ10 : J + i ≤ 10 := by omega
  refine sp_takeStandard hM hW hS (by omega) (fun I1 s16 sst hsf1 => ⟨k4, k4, ?_⟩)
  have hS1 := MSt_sf hW hsf1 hS
  rw [nI_1, gI_wI, s16]
  refine sp_Moheap hM hW hS1 (by omega) (fun K hEs hK => ?_)
  obtain ⟨e, hEn⟩ := hEs.st hF.1
  rw [← VV_spn] at hEn
  have hSK := MSt_en hW hK hS1
  have hKs : ∀ x, x < ct (nQ (leadB (VV n ord J (VP n (Gh H) J)))) (nM n ord J) → K 208 x = nI (cdm J (atm n ord J (nth (nQ (leadB (VV n ord J (VP n (Gh H) J)))) (nM n ord J) x))) := fun x hx => by
    rw [hK.1 208 (by omega) (by omega) (by omega) (by omega) (by omega) (by omega)]; exact sst x hx
  have h1'' := fun I' r => h1' I' e r hEn.2.1.2.2.1
  have hdim := RWT_dim (J := J) (P' := leadB (VV n ord J (VP n (Gh H) J))) hn3 (show 1 ≤ i by omega) (show i ≤ 3 by omega) hG hEn.2.1.2.2.1
  clear h1' sst
  generalize leadB (VV n ord J (VP n (Gh H) J)) = P' at hKs h1'' hdim
  generalize leadB (VV n ord (J + 1) (VP n (Gh H) (J + 1))) = P at hEn h1'' hdim
  have hsfK : SF I K := hsf1.tr hK.sf
  have hNJ := hW.n66 (show J ≤ 10 by omega)
  have hNJ1 := hW.n66 (show J + 1 ≤ 10 by omega)
  obtain ⟨fm, hfm⟩ : ∃ fm, fm = ct (nQ P') (nM n ord J) := ⟨_, rfl⟩
  obtain ⟨to, hto⟩ : ∃ to, to = ct (nQ P) (nM n ord (J + 1)) := ⟨_, rfl⟩
  have hfle : fm ≤ nM n ord J := by rw [hfm]; exact ct_le _ _
  have htle : to ≤ nM n ord (J + 1) := by rw [hto]; exact ct_le _ _
  have hEn' := hEn
  obtain ⟨⟨h8, hli, hplc⟩, _, _, hpv, _⟩ := hEn'
  have hst1 := st_le n (by omega) (i - 1) (by omega)
  have hst2 := st_le n (by omega) i (by omega)
  rw [← hfm] at hdim hKs ⊢
  rw [← hto] at hdim
  -- bounds
  have hwide : stN n (i - 1) * to ≤ 3 * 66 := Nat.mul_le_mul hst1 (by omega)
  have hlines : stN n i * fm ≤ 3 * 66 := Nat.mul_le_mul hst2 (by omega)
  have hmx : stN n (i - 1) * to * (stN n i * fm) ≤ 30000 := Nat.le_trans (Nat.mul_le_mul (Nat.mul_le_mul_left _ htle) (Nat.mul_le_mul_left _ hfle)) (mx_le n (by omega) ord (by have := hW.1.2.1; omega) i (by omega) J (by omega) (decide_eq_true hJ10))
  have hrank : ∀ f : Nat → Nat → Fin p, (∀ i j, stN n (i - 1) * to ≤ j → f i j = 0) → True := fun _ _ => trivial
  -- the columns
  have := pk_loop (σ := Nat → Int32) (fun N k g => L_Mo_steps_46 post N 199 (nI i) (nI fm) (nI (ct (nQ P) k)) (nI k) (wI M (sAll K 209 g))) (fun k g => ∀ t, t < k → P t = false → g t = nI (ct (nQ P) t)) (nM n ord (J + 1)) 0 (K 209) (by omega) (fun t ht => absurd ht (Nat.not_lt_zero t)) ?_ ?_
  · simp only [sAll_self] at this
    exact this
  · intro N g hg
    show B_Mo_steps_46 (L_Mo_steps_46 post N) post 199 _ _ _ _ _
    unfold B_Mo_steps_46 B_Mo_steps_117
    rw [gI_wI, sAll_ne (by omega), h8, show (1 : Int32) = nI 1 from rfl, pk_sub (show 1 ≤ i by omega), ← hto]
    have hnK : sAll K 209 g 199 1 = nI n := by rw [sAll_ne (by omega)]; exact hSK.1.1
    refine ⟨k4, fun _ => ⟨k4, sp_setsOf hM hnK hn3 (by omega) ⟨k4, sp_setsOf hM hnK hn3 (by omega) ?_⟩⟩, fun q => absurd (Int32.le_refl _) q⟩
    rw [pk_mul, pk_mul, show (0 : Int32) = nI 0 from rfl, nI_eq (by omega) (by omega), nI_eq (by omega) (by omega)]
    obtain ⟨w, hw⟩ : ∃ w, w = stN n (i - 1) * to := ⟨_, rfl⟩
    obtain ⟨L, hL⟩ : ∃ L, L = stN n i * fm := ⟨_, rfl⟩
    rw [← hw, ← hL] at hdim hmx
    rw [← hw] at hwide
    rw [← hL] at hlines
    rw [← hw, ← hL]
    have hsfg : SF I (sAll K 209 g) := hsfK.tr (SF_s (by omega))
    refine ⟨fun z => ?_, fun z => ⟨fun z' => ?_, fun z' => ?_⟩⟩
    · refine h1'' _ 0 ?_ (by omega) hsfg
      rw [z] at hdim
      exact hdim
    · -- the matrix
      obtain ⟨Q, hQ⟩ : ∃ Q, Q = sAll K 209 g := ⟨_, rfl⟩
      rw [← hQ] at hsfg ⊢
      have Q1 : Q 199 1 = nI n := by rw [hQ]; exact hnK
      have QE : EnSt n ord (J + 1) (VV n ord (J + 1) (VP n (Gh H) (J + 1))) P e Q := EnSt_kp (fun c hc => by rw [hQ]; exact sAll_ne (by omega)) hEn
      have Q14 : ∀ k, k < nM n ord (J + 1) → P k = false → Q 209 k = nI (ct (nQ P) k) := fun k hk hP => by rw [hQ, sAll_eq]; exact hg k hk hP
      have Q13 : ∀ x, x < fm → Q 208 x = nI (cdm J (atm n ord J (nth (nQ P') (nM n ord J) x))) := fun x hx => by rw [hQ, sAll_ne (by omega)]; exact hKs x hx
      have Q2 : Q 199 2 = nI p := by rw [hQ, sAll_ne (by omega)]; exact hSK.1.2.1
      have h8' := n_two n (by omega)
      -- rows by sets
      obtain ⟨ln, hln⟩ : ∃ ln : Nat → Nat → Nat, ln = fun u x => plN u * fm + x := ⟨_, rfl⟩
      have lnL : ∀ u x, u < 2 ^ n → onesN u = i → x < fm → ln u x < L := fun u x hu ho hx => by
        have hb := n_set1 n (by omega) u (by omega) hu
        rw [ho] at hb
        have := Nat.mul_le_mul_right fm (show plN u + 1 ≤ stN n i from hb)
        rw [Nat.succ_mul] at this
        rw [hln, hL]; simp only; omega
      have lnI : ∀ u x u' x', u < 2 ^ n → u' < 2 ^ n → onesN u = i → onesN u' = i → x < fm → x' < fm → ln u x = ln u' x' → u = u' ∧ x = x' := fun u x u' x' hu hu' ho ho' hx hx' he => by
        rw [hln] at he
        simp only at he
        rw [Nat.mul_comm, Nat.mul_comm (plN u')] at he
        have := ix_inj hx hx' he
        exact ⟨n_inj u (by omega) u' (by omega) (by rw [ho, ho']) this.1, this.2⟩
      obtain ⟨rc, hrc⟩ : ∃ rc : Nat → Nat → Nat → Fin p, rc = fun u x c => rF n ord J P' P e u x c := ⟨_, rfl⟩
      have fin : ∀ f, (∀ u, u < 2 ^ n → onesN u = i → ∀ x, x < fm → ∀ c, c < w → f (w * ln u x + c) = nI (rc u x c).val) → T_Mo_rankOf 199 (nI L) (nI w) (wI M (sAll Q 207 f)) (fun r346 M346 => post r346 M346) := by
        intro f hf
        refine sp_rankOf (a := fun r c => rF n ord J P' P e (uS i (r / fm)) (r % fm) c) hM (by rw [sAll_ne (by omega)]; exact Q2) hW.1.2.2 hmx (by omega) (by omega) (fun r hr c hc => ?_) (fun f2 => ?_)
        · have hpos : 0 < fm := by
            rcases Nat.eq_zero_or_pos fm with y | y
            · rw [hL, y, Nat.mul_zero] at hr; omega
            · exact y
          have hq : r / fm < stN n i := by
            rw [Nat.div_lt_iff_lt_mul hpos, ← hL]; exact hr
          obtain ⟨u, hu, ho, hpl⟩ := n_onto n (by omega) i (by omega) _ hq
          have hx := Nat.mod_lt r hpos
          have he : r = ln u (r % fm) := by
            rw [hln]; simp only; rw [hpl]
            have := Nat.div_add_mod r fm
            rw [Nat.mul_comm] at this
            exact this.symm
          rw [sAll_eq]
          have := hf u hu ho (r % fm) hx c hc
          rw [← he] at this
          rw [this, hrc]
          dsimp only
          rw [← hpl, ← ho, uS_ok u (by omega)]
        · rw [sAll_sAll]
          refine h1'' _ _ hdim ?_ (hsfg.tr (SF_s (by omega)))
          have := ct_le (leadB (upto (mrow w (fun r c => rF n ord J P' P e (uS i (r / fm)) (r % fm) c)) L)) w
          show ct _ w < 30000
          omega
      -- all sets
      have sets : ∀ f0 : Nat → Int32, (∀ k, k < w * L → f0 k = 0) → ∃ N', L_Mo_steps_149 post N' 199 (nI i) (nI fm) (nI to) (nI w) (nI L) 0 (wI M (sAll Q 207 f0)) := by
        intro f0 hf0
        have zz : ∀ u x c, u < 2 ^ n → onesN u = i → x < fm → c < w → w * ln u x + c < w * L := fun u x c hu ho hx hc => ix_lt (lnL u x hu ho hx) hc
        refine pk_loop (σ := Nat → Int32) (fun N' t f => L_Mo_steps_149 post N' 199 (nI i) (nI fm) (nI to) (nI w) (nI L) (nI t) (wI M (sAll Q 207 f))) (fun t f => ∀ u, u < 2 ^ n → onesN u = i → ∀ x, x < fm → ∀ c, c < w → f (w * ln u x + c) = nI (if u < t then rc u x c else 0).val) (2 ^ n) 0 f0 (Nat.zero_le _) (fun u hu ho x hx c hc => by rw [hf0 _ (zz u x c hu ho hx hc), if_neg (Nat.not_lt_zero u), show (0 : Fin p).val = 0 from Nat.zero_mod p]; rfl) ?_ ?_
        · intro N' f hf
          show B_Mo_steps_149 (L_Mo_steps_149 post N') post 199 _ _ _ _ _ _ _
          unfold B_Mo_steps_149
          rw [gI_wI, sAll_ne (by omega), Q1, b_two n (by omega)]
          exact ⟨k4, fun _ => ⟨k4, fin f (fun u hu ho x hx c hc => by rw [hf u hu ho x hx c hc, if_pos hu])⟩, fun q => absurd (Int32.le_refl _) q⟩
        · intro N' t f ht hf ih
          have ht8 : t < 8 := by omega
          have hot := (n_small t ht8).1
          show B_Mo_steps_149 (L_Mo_steps_149 post N') post 199 _ _ _ _ _ _ _
          unfold B_Mo_steps_149 B_Mo_steps_335
          rw [gI_wI, sAll_ne (show (199 : Nat) ≠ 207 by omega), Q1, b_two n (by omega), nI_leI (by omega) (by omega), nI_1]
          refine ⟨k4, fun q => absurd q (by omega), fun _ => sp_ones ht8 ?_⟩
          rw [nI_eq (by omega) (by omega)]
          refine ⟨fun ho => ?_, fun ho => ih f (fun u hu hou x hx c hc => ?_)⟩
          · -- one set: all standard products
            refine pk_loop (σ := Nat → Int32) (fun N2 x f' => L_Mo_steps_175 (L_Mo_steps_149 post N') post N2 199 (nI i) (nI fm) (nI to) (nI w) (nI L) (nI t) (nI x) (wI M (sAll Q 207 f'))) (fun x f' => ∀ u, u < 2 ^ n → onesN u = i → ∀ x', x' < fm → ∀ c, c < w → f' (w * ln u x' + c) = nI (if u < t ∨ (u = t ∧ x' < x) then rc u x' c else 0).val) fm 0 f (Nat.zero_le _) (fun u hu hou x' hx' c hc => ?_) ?_ ?_
            · rw [hf u hu hou x' hx' c hc]
              by_cases y : u < t
              · rw [if_pos y, if_pos (Or.inl y)]
              · rw [if_neg y, if_neg (by omega)]
            · intro N2 f' hf'
              show B_Mo_steps_175 _ (L_Mo_steps_175 _ post N2) post 199 _ _ _ _ _ _ _ _
              unfold B_Mo_steps_175 B_Mo_steps_335
              rw [nI_1]
              refine ⟨fun _ => ih f' (fun u hu hou x' hx' c hc => ?_), fun q => absurd (Int32.le_refl _) q⟩
              rw [hf' u hu hou x' hx' c hc]
              by_cases y : u < t ∨ (u = t ∧ x' < fm)
              · rw [if_pos y, if_pos (by omega)]
              · rw [if_neg y, if_neg (by omega)]
            · intro N2 x f' hx hf' ih2
              have hplt := n_small t ht8
              have hlt := lnL t x ht ho hx
              have hplf : plN t * fm ≤ 2 * 66 := Nat.mul_le_mul hplt.2 (by omega)
              have hnx := nth_ok (show x < ct (nQ P') (nM n ord J) by rw [← hfm]; exact hx)
              obtain ⟨sx, hsx⟩ : ∃ sx, sx = nth (nQ P') (nM n ord J) x := ⟨_, rfl⟩
              rw [← hsx] at hnx
              have hoks := atm_ok hnx.1
              show B_Mo_steps_175 _ (L_Mo_steps_175 _ post N2) post 199 _ _ _ _ _ _ _ _
              unfold B_Mo_steps_175
              rw [nI_leI (by omega) (by omega)]
              refine ⟨fun q => absurd q (by omega), fun _ => ⟨k4, sp_Moplace ht8 ?_⟩⟩
              rw [pk_mul, nI_add, show plN t * fm + x = ln t x by rw [hln]]
              -- the terms of a row
              obtain ⟨tm, htm⟩ : ∃ tm : Nat → Nat → Fin p, tm = fun c l => if bitN t l = true ∧ plN (t - 2 ^ l) = c / to then sgF (oppN t l) (rstf n ord (J + 1) P e (mulm (lt2 l) (dl (atm n ord J sx))) (atm n ord (J + 1) (nth (nQ P) (nM n ord (J + 1)) (c % to)))) else 0 := ⟨_, rfl⟩
              have htr : ∀ c, rc t x c = sm (tm c) n := fun c => by rw [hrc, htm]; simp only; unfold rF rwT; rw [← hsx, ← hto]
              refine pk_loop (σ := Nat → Int32) (fun N3 l f2 => L_Mo_steps_197 (L_Mo_steps_149 post N') (L_Mo_steps_175 (L_Mo_steps_149 post N') post N2) post N3 199 (nI i) (nI fm) (nI to) (nI w) (nI L) (nI t) (nI x) (nI (ln t x)) (nI l) (wI M (sAll Q 207 f2))) (fun l f2 => ∀ u, u < 2 ^ n → onesN u = i → ∀ x', x' < fm → ∀ c, c < w → f2 (w * ln u x' + c) = nI (if u = t ∧ x' = x then sm (tm c) l else if u < t ∨ (u = t ∧ x' < x) then rc u x' c else 0).val) n 0 f' (Nat.zero_le _) (fun u hu hou x' hx' c hc => ?_) ?_ ?_
              · rw [hf' u hu hou x' hx' c hc]
                by_cases y : u = t ∧ x' = x
                · rw [if_pos y, if_neg (by omega)]; rfl
                · rw [if_neg y]
              · intro N3 f2 hf2
                show B_Mo_steps_197 _ _ (L_Mo_steps_197 _ _ post N3) post 199 _ _ _ _ _ _ _ _ _ _
                unfold B_Mo_steps_197
                rw [gI_wI, sAll_ne (by omega), Q1, nI_1]
                refine ⟨k4, fun _ => ih2 f2 (fun u hu hou x' hx' c hc => ?_), fun q => absurd (Int32.le_refl _) q⟩
                rw [hf2 u hu hou x' hx' c hc]
                by_cases y : u = t ∧ x' = x
                · rw [if_pos y, if_pos (by omega), y.1, y.2, htr c]
                · rw [if_neg y]
                  by_cases y2 : u < t ∨ (u = t ∧ x' < x)
                  · rw [if_pos y2, if_pos (by omega)]
                  · rw [if_neg y2, if_neg (by omega)]
              · intro N3 l f2 hl hf2 ih3
                have hl3 : l < 3 := by omega
                show B_Mo_steps_197 _ _ (L_Mo_steps_197 _ _ post N3) post 199 _ _ _ _ _ _ _ _ _ _
                unfold B_Mo_steps_197 B_Mo_steps_323
                rw [gI_wI, sAll_ne (show (199 : Nat) ≠ 207 by omega), Q1, nI_leI (by omega) (by omega), b_bit t ht8 l hl3, nI_1 l]
                refine ⟨k4, fun q => absurd q (by omega), fun _ => ⟨fun q => ?_, fun q => ih3 f2 (fun u hu hou x' hx' c hc => ?_)⟩⟩
                · have hbit : bitN t l = true := by
                    cases y : bitN t l
                    · rw [y] at q; exact absurd rfl q
                    · rfl
                  obtain ⟨hle1, hle2⟩ := b_less t ht8 l hl3 hbit
                  obtain ⟨hop1, hop2⟩ := b_opp t ht8 l hl3 hbit
                  have hplB := n_set2 n (by omega) t ht8 l hl3 (by simp only [Bool.and_eq_true, decide_eq_true_eq]; exact ⟨⟨ht, hl⟩, hbit⟩)
                  rw [ho] at hplB
                  have hpl2 := (n_small (t - 2 ^ l) hle2).2
                  have hone := (n_small _ hop2).1
                  rw [hle1, hop1]
                  have hBto : (plN (t - 2 ^ l) + 1) * to ≤ w := by rw [hw]; exact Nat.mul_le_mul_right to hplB
                  rw [Nat.succ_mul] at hBto
                  have hwl : w * ln t x + w ≤ w * L := by
                    have := Nat.mul_le_mul_left w (show ln t x + 1 ≤ L from hlt)
                    rw [Nat.mul_succ] at this; exact this
                  have hokl := okl hl hl3
                  have hokq := okm_add hoks hokl
                  have hqlt := psm_lt (ord := ord) hokq
                  have hqat := atm_psm (ord := ord) hokq
                  have hcda := cdm_add (d := J) (k := 1) hoks.1 hokl.1
                  -- the product's rest comes to the row
                  have hprod : T_Mo_product 199 (nI (cdm (J + 1) (atm n ord (J + 1) (psm n ord (J + 1) ((atm n ord J sx).1 + (lt2 l).1, (atm n ord J sx).2 + (lt2 l).2))))) (nI (w * ln t x + plN (t - 2 ^ l) * to)) (if oppN t l = true then 1 else 0) (wI M (sAll Q 207 f2)) (fun M320 => L_Mo_steps_197 (L_Mo_steps_149 post N') (L_Mo_steps_175 (L_Mo_steps_149 post N') post N2) post N3 199 (nI i) (nI fm) (nI to) (nI w) (nI L) (nI t) (nI x) (nI (ln t x)) (nI (l + 1)) M320) := by
                    refine sp_product (G := Gh H) (g := fun y => sm (tm (plN (t - 2 ^ l) * to + y)) l) hM (by rw [sAll_ne (by omega)]; exact Q2) hp hG (by omega) hNJ1 (EnSt_kp (fun c hc => sAll_ne (by omega)) QE) (fun k hk hP => by rw [sAll_ne (by omega)]; exact Q14 k hk hP) hqlt (by rw [← hto]; omega) (fun y hy => ?_) (fun f3 f31 f32 => ?_)
                    · rw [← hto] at hy
                      rw [sAll_eq, Nat.add_assoc, hf2 t ht ho x hx _ (by omega), if_pos ⟨rfl, rfl⟩]
                    · rw [sAll_sAll]
                      rw [← hto] at f31 f32
                      rw [sAll_eq] at f32
                      refine ih3 f3 (fun u hu hou x' hx' c hc => ?_)
                      by_cases y : u = t ∧ x' = x
                      · rw [if_pos y, y.1, y.2]
                        have hold := hf2 t ht ho x hx c hc
                        rw [if_pos ⟨rfl, rfl⟩] at hold
                        show _ = nI (sm (tm c) l + tm c l).val
                        by_cases v : c / to = plN (t - 2 ^ l)
                        · have hto0 : 0 < to := by
                            rcases Nat.eq_zero_or_pos to with w0 | w0
                            · rw [hw, w0, Nat.mul_zero] at hc; omega
                            · exact w0
                          have hmod := Nat.mod_lt c hto0
                          have hdm : c = plN (t - 2 ^ l) * to + c % to := by
                            have := Nat.div_add_mod c to
                            rw [Nat.mul_comm, v] at this
                            exact this.symm
                          have := f31 (c % to) hmod
                          rw [Nat.add_assoc, ← hdm] at this
                          rw [this]
                          congr 2
                          rw [htm]
                          simp only
                          rw [if_pos ⟨hbit, v.symm⟩, hqat, mulm_dl]
                          congr 4
                          apply Prod.ext <;> simp only <;> omega
                        · have e0 : tm c l = 0 := by
                            rw [htm]; simp only; rw [if_neg (fun z => v z.2.symm)]
                          rw [e0, f32 _ ?_, hold]
                          · congr 2; grind
                          · rcases Nat.lt_or_ge c (plN (t - 2 ^ l) * to) with w1 | w1
                            · exact Or.inl (by omega)
                            · rcases Nat.lt_or_ge c (plN (t - 2 ^ l) * to + to) with w2 | w2
                              · exfalso
                                apply v
                                have := (div_ix (w := to) (q := plN (t - 2 ^ l)) (x := c - plN (t - 2 ^ l) * to) (by omega)).1
                                rw [show plN (t - 2 ^ l) * to + (c - plN (t - 2 ^ l) * to) = c by omega] at this
                                exact this
                              · exact Or.inr (by omega)
                      · rw [if_neg y, f32 _ ?_, hf2 u hu hou x' hx' c hc, if_neg y]
                        have hne : ln u x' ≠ ln t x := fun z => y (lnI u x' t x hu ht hou ho hx' hx z)
                        rcases Nat.lt_or_gt_of_ne hne with w1 | w1
                        · left
                          have := Nat.mul_le_mul_left w (show ln u x' + 1 ≤ ln t x from w1)
                          rw [Nat.mul_succ] at this; omega
                        · right
                          have := Nat.mul_le_mul_left w (show ln t x + 1 ≤ ln u x' from w1)
                          rw [Nat.mul_succ] at this; omega
                  rw [hqat, ← hcda] at hprod
                  have h253 : ∀ s0 : Int32, s0 = (if oppN t l = true then 1 else 0) → B_Mo_steps_253 (L_Mo_steps_149 post N') (L_Mo_steps_175 (L_Mo_steps_149 post N') post N2) (L_Mo_steps_197 (L_Mo_steps_149 post N') (L_Mo_steps_175 (L_Mo_steps_149 post N') post N2) post N3) post 199 (nI i) (nI fm) (nI to) (nI w) (nI L) (nI t) (nI x) (nI (ln t x)) (nI l) (nI (t - 2 ^ l)) s0 (wI M (sAll Q 207 f2)) := by
                    intro s0 hs0
                    have hstd := Q13 x hx
                    rw [← hsx] at hstd
                    unfold B_Mo_steps_253 B_Mo_steps_290 B_Mo_steps_301 B_Mo_steps_312 B_Mo_steps_323
                    refine ⟨k4, sp_Moplace hle2 ⟨k4, 208, r15, arr_A a13 (by omega) (by omega), ?_⟩⟩
                    rw [pk_mul, pk_mul, nI_add, gI_wI, nI_clamp (by omega), sAll_ne (show (208 : Nat) ≠ 207 by omega), hstd, nI_1, hs0]
                    unfold T_Mo_powers
                    rcases (show l = 0 ∨ l = 1 ∨ l = 2 by omega) with rfl | rfl | rfl
                    · refine ⟨fun y => absurd rfl y, fun _ => ⟨fun _ => ⟨fun _ => ⟨k4, ?_⟩, fun y => absurd y (by decide)⟩, fun y => absurd y (by decide)⟩⟩
                      have e9 : nI (cdm J (atm n ord J sx)) + (121 * 1 + 11 * 0 + 0) = nI (cdm J (atm n ord J sx) + cdm 1 (lt2 0)) := by
                        rw [← nI_add]; rfl
                      rw [e9]; exact hprod
                    · refine ⟨fun _ => ⟨fun y => absurd rfl y, fun _ => ⟨fun _ => ⟨k4, ?_⟩, fun y => absurd y (by decide)⟩⟩, fun y => absurd y (by decide)⟩
                      have e9 : nI (cdm J (atm n ord J sx)) + (121 * 0 + 11 * 1 + 0) = nI (cdm J (atm n ord J sx) + cdm 1 (lt2 1)) := by
                        rw [← nI_add]; rfl
                      rw [e9]; exact hprod
                    · refine ⟨fun _ => ⟨fun _ => ⟨fun y => absurd rfl y, fun _ => ⟨k4, ?_⟩⟩, fun y => absurd y (by decide)⟩, fun y => absurd y (by decide)⟩
                      have e9 : nI (cdm J (atm n ord J sx)) + (121 * 0 + 11 * 0 + 1) = nI (cdm J (atm n ord J sx) + cdm 1 (lt2 2)) := by
                        rw [← nI_add]; rfl
                      rw [e9]; exact hprod
                  refine sp_ones hop2 ⟨by decide, fun y => h253 0 ?_, fun y => h253 1 ?_⟩
                  · rw [show (2 : Int32) = nI 2 from rfl, pk_rem (by omega) (by omega) (by omega), show (1 : Int32) = nI 1 from rfl, nI_eq (by omega) (by omega)] at y
                    have : oppN t l = false := decide_eq_false y
                    rw [this]; rfl
                  · rw [show (2 : Int32) = nI 2 from rfl, pk_rem (by omega) (by omega) (by omega), show (1 : Int32) = nI 1 from rfl, nI_eq (by omega) (by omega)] at y
                    have : oppN t l = true := decide_eq_true y
                    rw [this]; rfl
                · have hbit : bitN t l = false := by
                    cases y : bitN t l
                    · rfl
                    · rw [y] at q; exact absurd q (by decide)
                  rw [hf2 u hu hou x' hx' c hc]
                  by_cases y : u = t ∧ x' = x
                  · rw [if_pos y, if_pos y]
                    show _ = nI (sm (tm c) l + tm c l).val
                    have e0 : tm c l = 0 := by
                      rw [htm]; simp only; rw [if_neg (fun z => by rw [hbit] at z; exact absurd z.1 (by decide))]
                    rw [e0]; congr 2; grind
                  · rw [if_neg y, if_neg y]
          · rw [hf u hu hou x hx c hc]
            have : u ≠ t := fun y => ho (by rw [← y]; exact hou)
            by_cases y : u < t
            · rw [if_pos y, if_pos (by omega)]
            · rw [if_neg y, if_neg (by omega)]
      have := pk_loop (σ := Nat → Int32) (fun N' k f => L_Mo_steps_122 post N' 199 (nI i) (nI fm) (nI to) (nI w) (nI L) (nI k) (wI M (sAll Q 207 f))) (fun k f => ∀ t, t < k → f t = 0) (w * L) 0 (Q 207) (Nat.zero_le _) (fun t ht => absurd ht (Nat.not_lt_zero t)) ?_ ?_
      · simp only [sAll_self] at this
        exact this
      · intro N' f hf
        show B_Mo_steps_122 (L_Mo_steps_122 post N') post 199 _ _ _ _ _ _ _
        unfold B_Mo_steps_122
        rw [pk_mul]
        exact ⟨fun _ => sets f hf, fun q => absurd (Int32.le_refl _) q⟩
      · intro N' k f hk hf ih
        show B_Mo_steps_122 (L_Mo_steps_122 post N') post 199 _ _ _ _ _ _ _
        unfold B_Mo_steps_122
        rw [pk_mul, nI_leI (by omega) (by omega), nI_1]
        refine ⟨fun q => absurd q (by omega), fun _ => ⟨k4, 207, r14, arr_A a12 (by omega) (by omega), ?_⟩⟩
        rw [sI_wI, nI_clamp (by omega), u2_sAll]
        refine ih _ (fun t ht => ?_)
        by_cases y : t = k
        · subst y; exact upd_eq _ _ _
        · rw [upd_ne y]; exact hf t (by omega)
    · refine h1'' _ 0 ?_ (by omega) hsfg
      rw [z'] at hdim
      have : dm w (upto (mrow w (fun r c => rF n ord J P' P e (uS i (r / fm)) (r % fm) c)) 0) = 0 := Nat.le_zero.mp (dm_upto hF (fun i j hj => if_neg (by omega)) 0)
      rw [this] at hdim
      exact hdim
  · intro N k g hk hg ih
    have hpk := hpv k hk
    have hck := ct_le (nQ P) k
    show B_Mo_steps_46 (L_Mo_steps_46 post N) post 199 _ _ _ _ _
    unfold B_Mo_steps_46 B_Mo_steps_80
    rw [gI_wI, sAll_ne (show (199 : Nat) ≠ 209 by omega), h8, nI_leI (by omega) (by omega), nI_1 k]
    refine ⟨k4, fun q => absurd q (by omega), fun _ => ⟨k4, 205, r11, arr_A a10 (by omega) (by omega), ?_⟩⟩
    rw [gI_wI, nI_clamp (by omega), sAll_ne (show (205 : Nat) ≠ 209 by omega), hpk]
    refine ⟨fun q => ⟨k4, 209, r17, arr_A a14 (by omega) (by omega), ?_⟩, fun q => ?_⟩
    · have hPk : P k = false := by
        cases y : P k
        · rfl
        · rw [y] at q; exact absurd q (by decide)
      rw [sI_wI, u2_sAll, nI_1]
      have := ih (upd g k (nI (ct (nQ P) k))) (fun t ht hPt => ?_)
      · rw [ct_succ_t (nQ_t.mpr hPk)] at this
        exact this
      · by_cases y : t = k
        · subst y; exact upd_eq _ _ _
        · rw [upd_ne y]; exact hg t (by omega) hPt
    · have hPk : P k = true := by
        cases y : P k
        · rw [y] at q; exact absurd rfl q
        · rfl
      have := ih g (fun t ht hPt => hg t (by
        by_cases y : t = k
        · rw [y, hPk] at hPt; exact absurd hPt (by decide)
        · omega) hPt)
      rw [ct_succ_f (nQ_f.mpr hPk)] at this
      exact this
end MO17
