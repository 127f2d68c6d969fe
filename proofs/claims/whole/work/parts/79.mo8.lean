/-! the reference: rows that are cleared -/
def EnSt {p : Nat} [NeZero p] (n ord d : Nat) (W : (Nat → Fin p) → Prop) (P : Nat → Bool) (e : Nat → Nat → Fin p) (I : Nat → Nat → Int32) : Prop :=
  TkS n ord d I ∧ (Sub W ∧ inRange (nM n ord d) W ∧ Ech (nM n ord d) W P e ∧ Rref P e) ∧ I 199 12 = nI (ct P (nM n ord d)) ∧ (∀ k, k < nM n ord d → I 205 k = if P k = true then 1 else 0) ∧ ∀ k, k < nM n ord d → P k = true → ∀ j, j < nM n ord d → I 203 (66 * k + j) = nI (e k j).val
def EnF (I I' : Nat → Nat → Int32) : Prop := (∀ c, c ≠ 199 → c ≠ 201 → c ≠ 202 → c ≠ 203 → c ≠ 204 → c ≠ 205 → I' c = I c) ∧ ∀ k, k ≠ 8 → k ≠ 12 → I' 199 k = I 199 k
theorem EnF.tr {I J K : Nat → Nat → Int32} (h1 : EnF I J) (h2 : EnF J K) : EnF I K := ⟨fun c a b e f g k => by rw [h2.1 c a b e f g k, h1.1 c a b e f g k], fun k hk h => by rw [h2.2 k hk h, h1.2 k hk h]⟩
theorem EnF.rf (I : Nat → Nat → Int32) : EnF I I := ⟨fun _ _ _ _ _ _ _ => rfl, fun _ _ _ => rfl⟩
theorem TkF.en {I J : Nat → Nat → Int32} (h : TkF I J) : EnF I J := ⟨fun c a b e _ _ _ => h.1 c a b e, fun k hk _ => h.2 k hk⟩
theorem EnF_s {I : Nat → Nat → Int32} {a : Nat} {f : Nat → Int32} (h : a = 203 ∨ a = 204 ∨ a = 205) : EnF I (sAll I a f) := ⟨fun c _ _ _ _ _ _ => sAll_ne (by omega), fun k _ _ => by rw [sAll_ne (by omega)]⟩
theorem EnF_12 (I : Nat → Nat → Int32) (v : Int32) : EnF I (u2 I 199 12 v) := ⟨fun c a _ _ _ _ _ => by unfold u2; rw [if_neg a], fun k _ h => u2_ne (by omega)⟩
theorem TkS_kp {n ord d : Nat} {I I' : Nat → Nat → Int32} (h1 : I' 199 8 = I 199 8) (h2 : I' 201 = I 201) (h3 : I' 202 = I 202) (h : TkS n ord d I) : TkS n ord d I' := ⟨by rw [h1]; exact h.1, by rw [h2]; exact h.2.1, by rw [h3]; exact h.2.2⟩
theorem nar0 : vp_nar .boolean 0 = 0 := rfl
theorem nar1 : vp_nar .boolean 1 = 1 := rfl
section MO8
variable {M : Mem} {I : Nat → Nat → Int32} {n ord p d : Nat}
theorem sp_Mobegin [NeZero p] {post : Mem → Prop} (hM : MdOK M) (hn : I 199 1 = nI n) (hn3 : n ≤ 3) (ho : I 199 3 = nI ord) (ho1 : ord ≤ 1) (h1p : (1 : Fin p) ≠ 0) (hd : d ≤ 10) (h : ∀ I', EnSt (p := p) n ord d (fun v => ∀ i, v i = 0) (fun _ => false) (fun _ _ => 0) I' → EnF I I' → post (wI M I')) : T_Mo_begin 199 (nI d) (wI M I) post := by
  have hmn := nM_le n (by omega) ord (by omega) d (by omega)
  have hM' := hM
  obtain ⟨k4, r0, r6, r7, r9, r10, r11, r13, r14, r15, r17, a5, a6, a7, a8, a9, a10, a11, a12, a13, a14⟩ := hM'
  refine ⟨k4, sp_Motake hM hn hn3 ho ho1 hd (fun J hT hF => ⟨k4, ?_⟩)⟩
  rw [sI_wI]
  have := pk_loop (σ := Nat → Int32) (fun N i g => L_Mo_begin_12 post N 199 (nI i) (wI M (sAll (u2 J 199 12 0) 205 g))) (fun i g => ∀ k, k < i → g k = 0) 66 0 (u2 J 199 12 0 205) (by omega) (fun k hk => absurd hk (Nat.not_lt_zero k)) ?_ ?_
  · simp only [sAll_self] at this
    exact this
  · intro N g hg
    show B_Mo_begin_12 (L_Mo_begin_12 post N) post 199 _ _
    refine ⟨fun _ => h _ ⟨TkS_kp (I := J) ?_ ?_ ?_ hT, ⟨⟨fun _ => rfl, fun u v c hu hv i => by show u i + c * v i = 0; rw [hu i, hv i]; grind⟩, fun v hv i _ => hv i, ⟨fun i hi => Bool.noConfusion hi, fun v hv _ => hv⟩, fun i j hi => Bool.noConfusion hi⟩, ?_, fun k hk => ?_, fun k _ hk => Bool.noConfusion hk⟩ ((hF.en.tr (EnF_12 _ _)).tr (EnF_s (Or.inr (Or.inr rfl)))), fun q => absurd (by decide) q⟩
    · rw [sAll_ne (by omega), u2_ne (by omega)]
    · rw [sAll_ne (by omega)]; unfold u2; rw [if_neg (by omega)]
    · rw [sAll_ne (by omega)]; unfold u2; rw [if_neg (by omega)]
    · rw [sAll_ne (by omega), u2_eq, ct_0]; rfl
    · rw [sAll_eq, hg k (by omega)]; rfl
  · intro N i g hi hg ih
    show B_Mo_begin_12 (L_Mo_begin_12 post N) post 199 _ _
    unfold B_Mo_begin_12
    simp (disch := omega) only [isK_wI, isA_wI, gR_wI, gI_wI, sI_wI, true_and, and_true, Option.some.injEq, exists_eq_left', forall_const, not_true_eq_false, not_false_eq_true, false_implies, true_implies, ne_eq, lit_nI, nI_add, pk_mul, pk_sub, pk_div, rem_n, nI_clamp, nI_leI, nI_ltI, nI_eq, in_nI, k4, r11, isA_T a10]
    refine ⟨fun q => absurd q (by omega), fun _ => ?_⟩
    rw [u2_sAll]
    refine ih _ (fun k hk => ?_)
    by_cases e : k = i
    · subst e; rw [upd_eq]; rfl
    · rw [upd_ne e]; exact hg k (by omega)
theorem sp_Moless [NeZero p] {row N : Nat} {c : Fin p} {v w : Nat → Fin p} {post : Mem → Prop} (hM : MdOK M) (hI2 : I 199 2 = nI p) (hp : 2 ≤ p ∧ p ≤ 97) (h8 : I 199 8 = nI N) (hN : N ≤ 66) (hr : row < 66) (hw : ∀ j, j < N → I 203 (66 * row + j) = nI (w j).val) (hv : ∀ j, j < N → I 204 j = nI (v j).val) (h : ∀ g, (∀ j, j < N → g j = nI (v j - c * w j).val) → post (wI M (sAll I 204 g))) : T_Mo_less 199 (nI row) (nI c.val) (wI M I) post := by
  have hM' := hM
  obtain ⟨k4, r0, r6, r7, r9, r10, r11, r13, r14, r15, r17, a5, a6, a7, a8, a9, a10, a11, a12, a13, a14⟩ := hM'
  have := pk_loop (σ := Nat → Int32) (fun K i g => L_Mo_less_2 post K 199 (nI row) (nI c.val) (nI i) (wI M (sAll I 204 g))) (fun i g => ∀ j, j < N → g j = nI (if j < i then v j - c * w j else v j).val) N 0 (I 204) (by omega) (fun j hj => by rw [if_neg (Nat.not_lt_zero j)]; exact hv j hj) ?_ ?_
  · simp only [sAll_self] at this
    exact this
  · intro K g hg
    show B_Mo_less_2 (L_Mo_less_2 post K) post 199 _ _ _ _
    unfold B_Mo_less_2
    rw [gI_wI, sAll_ne (by omega), h8]
    exact ⟨k4, fun _ => h g (fun j hj => by rw [hg j hj, if_pos hj]), fun q => absurd (Int32.le_refl _) q⟩
  · intro K i g hi hg ih
    have hvi := hg i hi
    rw [if_neg (by omega)] at hvi
    have hwi := hw i hi
    show B_Mo_less_2 (L_Mo_less_2 post K) post 199 _ _ _ _
    unfold B_Mo_less_2
    simp (disch := omega) only [isK_wI, isA_wI, gR_wI, gI_wI, sI_wI, true_and, and_true, Option.some.injEq, exists_eq_left', forall_const, not_true_eq_false, not_false_eq_true, false_implies, true_implies, ne_eq, lit_nI, nI_add, pk_mul, pk_sub, pk_div, rem_n, nI_clamp, nI_leI, nI_ltI, nI_eq, in_nI, k4, r9, r10, isA_T a9, isA_T a8, sAll_ne (show (199 : Nat) ≠ 204 by omega), sAll_ne (show (203 : Nat) ≠ 204 by omega), sAll_eq, h8, hvi, hwi]
    refine ⟨fun q => absurd q (by omega), fun _ => ?_⟩
    refine sp_modS hM (by rw [sAll_ne (by omega)]; exact hI2) hp rfl rfl rfl ?_
    simp (disch := omega) only [isK_wI, isA_wI, gR_wI, gI_wI, sI_wI, true_and, and_true, Option.some.injEq, exists_eq_left', forall_const, not_true_eq_false, not_false_eq_true, false_implies, true_implies, ne_eq, lit_nI, nI_add, pk_mul, pk_sub, pk_div, rem_n, nI_clamp, nI_leI, nI_ltI, nI_eq, in_nI, isA_T a9]
    rw [u2_sAll]
    refine ih _ (fun j hj => ?_)
    by_cases e : j = i
    · subst e; rw [upd_eq, if_pos (by omega)]
    · rw [upd_ne e, hg j hj]
      by_cases z : j < i
      · rw [if_pos z, if_pos (by omega)]
      · rw [if_neg z, if_neg (by omega)]
theorem sp_Moenter [NeZero p] {W : (Nat → Fin p) → Prop} {P : Nat → Bool} {e : Nat → Nat → Fin p} {v : Nat → Fin p} {post : Mem → Prop} (hM : MdOK M) (hI2 : I 199 2 = nI p) (hp : prm p = true) (hN : nM n ord d ≤ 66) (hSt : EnSt n ord d W P e I) (hv : ∀ j, j < nM n ord d → I 204 j = nI (v j).val) (hvr : ∀ i, nM n ord d ≤ i → v i = 0) (h : ∀ I' P' e', EnSt n ord d (more W v) P' e' I' → EnF I I' → post (wI M I')) : T_Mo_enter 199 (wI M I) post := by
  have hM' := hM
  obtain ⟨k4, r0, r6, r7, r9, r10, r11, r13, r14, r15, r17, a5, a6, a7, a8, a9, a10, a11, a12, a13, a14⟩ := hM'
  obtain ⟨hT, ⟨hW, hR, hE, hRr⟩, h12, hpv, hcl⟩ := hSt
  have h8 := hT.1
  have hp2 := prm_lt hp
  have hp97 := hp2.2
  have hF := prm_field hp
  -- the row, cleared
  have hin : W (fun j => v j - red P e v (nM n ord d) j) := red_in (N := nM n ord d) hW hE.inV _
  have hout : ∀ i, nM n ord d ≤ i → red P e v (nM n ord d) i = 0 := fun i hi => by
    have := hR _ hin i hi
    simp only [hvr i hi] at this
    grind
  have hz := red_zero (P := P) hE.fam (v := v) (nM n ord d)
  have nope : ∀ g, W v → post (wI M (sAll I 204 g)) := fun g hWv => by
    refine h _ P e ?_ (EnF_s (Or.inr (Or.inl rfl)))
    rw [more_old hW hWv]
    exact ⟨TkS_kp (by rw [sAll_ne (by omega)]) (sAll_ne (by omega)) (sAll_ne (by omega)) hT, ⟨hW, hR, hE, hRr⟩, by rw [sAll_ne (by omega)]; exact h12, fun k hk => by rw [sAll_ne (by omega)]; exact hpv k hk, fun k hk hP j hj => by rw [sAll_ne (by omega)]; exact hcl k hk hP j hj⟩
  -- the rows here, cleared at the new head
  have tail : ∀ (g : Nat → Int32) (k : Nat) (b : Fin p), k < nM n ord d → b * red P e v (nM n ord d) k = 1 → (∀ j, j < k → red P e v (nM n ord d) j = 0) → ∀ g8 : Nat → Int32, (∀ j, j < nM n ord d → g8 (66 * k + j) = nI (b * red P e v (nM n ord d) j).val) → (∀ r, r < nM n ord d → r ≠ k → ∀ j, j < nM n ord d → g8 (66 * r + j) = I 203 (66 * r + j)) → ∃ N', L_Mo_enter_150 post N' 199 (nI k) 0 (wI M (u2 (u2 (sAll (sAll I 204 g) 203 g8) 205 k 1) 199 12 (nI (ct P (nM n ord d)) + 1))) := by
    intro g k b hk hb hx g8 hg8 hg8'
    have hne : red P e v (nM n ord d) k ≠ 0 := fun z => by rw [z] at hb; exact hF.1 (by rw [← hb]; grind)
    have hPk : P k = false := by
      cases z : P k
      · rfl
      · exact absurd (hz k hk z) hne
    have htt : red P e v (nM n ord d) k * b = 1 := by rw [← hb]; grind
    have hP0 : ∀ i, P i = true → b * red P e v (nM n ord d) i = 0 := fun i hi => by rw [hz i ((hE.1 i hi).1) hi]; grind
    have hadd := hE.add hW (f := fun j => b * red P e v (nM n ord d) j) (v := v) (h := k) (t := b) (t2 := red P e v (nM n ord d) k) (by
      have e0 : (fun i => v i - red P e v (nM n ord d) k * (b * red P e v (nM n ord d) i)) = fun j => v j - red P e v (nM n ord d) j := by
        funext j
        have : red P e v (nM n ord d) k * (b * red P e v (nM n ord d) j) = (red P e v (nM n ord d) k * b) * red P e v (nM n ord d) j := by grind
        rw [this, htt]; grind
      rw [e0]; exact hin) hb hP0 hk hb (fun j hj => by show b * red P e v (nM n ord d) j = 0; rw [hx j hj]; grind)
    have hRr' := hRr.add (f := fun j => b * red P e v (nM n ord d) j) (h := k) hP0 hb
    have hct := ct_add hPk hk
    have hran : inRange (nM n ord d) (more W v) := by
      rintro u ⟨w, c, hw, hu⟩ i hi
      rw [hu i, hR w hw i hi, hvr i hi]; grind
    -- the memory
    have J12 : u2 (u2 (sAll (sAll I 204 g) 203 g8) 205 k 1) 199 12 (nI (ct P (nM n ord d)) + 1) 199 12 = nI (ct P (nM n ord d) + 1) := by rw [u2_eq, nI_1]
    have J204 : ∀ j, j ≠ 12 → u2 (u2 (sAll (sAll I 204 g) 203 g8) 205 k 1) 199 12 (nI (ct P (nM n ord d)) + 1) 199 j = I 199 j := fun j hj => by rw [u2_ne (by omega), u2_ne (by omega), sAll_ne (by omega), sAll_ne (by omega)]
    have J210 : ∀ j, u2 (u2 (sAll (sAll I 204 g) 203 g8) 205 k 1) 199 12 (nI (ct P (nM n ord d)) + 1) 205 j = if j = k then 1 else I 205 j := fun j => by
      rw [u2_ne (by omega)]
      by_cases q : j = k
      · rw [if_pos q, q, u2_eq]
      · rw [if_neg q, u2_ne (by omega), sAll_ne (by omega), sAll_ne (by omega)]
    have J208 : u2 (u2 (sAll (sAll I 204 g) 203 g8) 205 k 1) 199 12 (nI (ct P (nM n ord d)) + 1) 203 = g8 := by
      unfold u2; rw [if_neg (by omega), if_neg (by omega), sAll_eq]
    have Jc : ∀ c, c ≠ 199 → c ≠ 203 → c ≠ 204 → c ≠ 205 → u2 (u2 (sAll (sAll I 204 g) 203 g8) 205 k 1) 199 12 (nI (ct P (nM n ord d)) + 1) c = I c := fun c h1 h2 h3 h4 => by
      unfold u2; rw [if_neg h1, if_neg h4, sAll_ne h2, sAll_ne h3]
    generalize u2 (u2 (sAll (sAll I 204 g) 203 g8) 205 k 1) 199 12 (nI (ct P (nM n ord d)) + 1) = J at J12 J204 J210 J208 Jc
    have J8 : J 199 8 = nI (nM n ord d) := by rw [J204 8 (by omega)]; exact h8
    have JF : EnF I J := ⟨fun c h1 _ _ h2 h3 h4 => Jc c h1 h2 h3 h4, fun j _ hj => J204 j hj⟩
    have := pk_loop (σ := Nat → Int32) (fun K i f => L_Mo_enter_150 post K 199 (nI k) (nI i) (wI M (sAll J 203 f))) (fun i f => ∀ r, r < nM n ord d → addP P k r = true → ∀ j, j < nM n ord d → f (66 * r + j) = nI (if r < i ∨ r = k then addE e k (fun j => b * red P e v (nM n ord d) j) r j else e r j).val) (nM n ord d) 0 g8 (by omega) (fun r hr hPr j hj => ?_) ?_ ?_
    · simp only [← J208, sAll_self] at this
      exact this
    · by_cases q : r = k
      · rw [if_pos (Or.inr q), q, hg8 j hj]
        unfold addE; rw [if_pos rfl]
      · rw [if_neg (by omega), hg8' r hr q j hj]
        rw [addP_ne q] at hPr
        exact hcl r hr hPr j hj
    · intro K f hf
      show B_Mo_enter_150 (L_Mo_enter_150 post K) post 199 _ _ _
      unfold B_Mo_enter_150
      rw [gI_wI, sAll_ne (by omega), J8]
      refine ⟨k4, fun _ => h _ (addP P k) (addE e k (fun j => b * red P e v (nM n ord d) j)) ⟨TkS_kp (I := I) ?_ ?_ ?_ hT, ⟨more_sub hW v, hran, hadd, hRr'⟩, ?_, fun r hr => ?_, fun r hr hPr j hj => ?_⟩ (JF.tr (EnF_s (Or.inl rfl))), fun q => absurd (Int32.le_refl _) q⟩
      · rw [sAll_ne (by omega), J204 8 (by omega)]
      · rw [sAll_ne (by omega), Jc _ (by omega) (by omega) (by omega) (by omega)]
      · rw [sAll_ne (by omega), Jc _ (by omega) (by omega) (by omega) (by omega)]
      · rw [sAll_ne (by omega), J12, hct]
      · rw [sAll_ne (by omega), J210]
        by_cases q : r = k
        · rw [if_pos q, q, if_pos (addP_h P k)]
        · rw [if_neg q, addP_ne q]; exact hpv r hr
      · rw [sAll_eq, hf r hr hPr j hj, if_pos (Or.inl hr)]
    · intro K i f hi hf ih
      show B_Mo_enter_150 (L_Mo_enter_150 post K) post 199 _ _ _
      unfold B_Mo_enter_150 B_Mo_enter_267
      have skip : (∀ j, j < nM n ord d → addP P k i = true → i ≠ k → addE e k (fun j => b * red P e v (nM n ord d) j) i j = e i j) → L_Mo_enter_150 post K 199 (nI k) (nI (i + 1)) (wI M (sAll J 203 f)) := by
        intro hsame
        refine ih f (fun r hr hPr j hj => ?_)
        rw [hf r hr hPr j hj]
        by_cases q : r < i ∨ r = k
        · rw [if_pos q, if_pos (by omega)]
        · rw [if_neg q]
          by_cases q2 : r < i + 1 ∨ r = k
          · rw [if_pos q2]
            have : r = i := by omega
            subst this
            rw [hsame j hj hPr (by omega)]
          · rw [if_neg q2]
      have hpi := J210 i
      simp (disch := omega) only [isK_wI, isA_wI, gR_wI, gI_wI, sI_wI, true_and, and_true, Option.some.injEq, exists_eq_left', forall_const, not_true_eq_false, not_false_eq_true, false_implies, true_implies, ne_eq, lit_nI, nI_add, pk_mul, pk_sub, pk_div, rem_n, nI_clamp, nI_leI, nI_ltI, nI_eq, in_nI, k4, r9, r11, isA_T a10, sAll_ne (show (199 : Nat) ≠ 203 by omega), sAll_ne (show (205 : Nat) ≠ 203 by omega), J8, hpi]
      refine ⟨fun q => absurd q (by omega), fun _ => ⟨fun q => skip (fun j hj hPi hik => ?_), fun q => ⟨fun q2 => skip (fun j hj hPi hik => absurd q2 hik), fun q2 => ?_⟩⟩⟩
      · rw [if_neg hik, hpv i hi] at q
        rw [addP_ne hik] at hPi
        rw [if_pos hPi] at q
        exact absurd q (by decide)
      · have hPi : P i = true := by
          rw [if_neg q2, hpv i hi] at q
          cases z : P i
          · rw [z] at q; exact absurd rfl q
          · rfl
        have hPi' : addP P k i = true := by rw [addP_ne q2]; exact hPi
        have hc := hf i hi hPi' k hk
        rw [if_neg (by omega)] at hc
        simp (disch := omega) only [isK_wI, isA_wI, gR_wI, gI_wI, sI_wI, true_and, and_true, Option.some.injEq, exists_eq_left', forall_const, not_true_eq_false, not_false_eq_true, false_implies, true_implies, ne_eq, lit_nI, nI_add, pk_mul, pk_sub, pk_div, rem_n, nI_clamp, nI_leI, nI_ltI, nI_eq, in_nI, k4, isA_T a8, sAll_eq, hc, vz hp97]
        refine ⟨fun q3 => ?_, fun q3 => skip (fun j hj _ _ => ?_)⟩
        · -- clear row i
          have := pk_loop (σ := Nat → Int32) (fun K' t f' => L_Mo_enter_205 (L_Mo_enter_150 post K) post K' 199 (nI k) (nI i) (nI (e i k).val) (nI t) (wI M (sAll J 203 f'))) (fun t f' => (∀ j, j < nM n ord d → f' (66 * i + j) = nI (if j < t then e i j - e i k * (b * red P e v (nM n ord d) j) else e i j).val) ∧ ∀ r, r < nM n ord d → r ≠ i → ∀ j, j < nM n ord d → f' (66 * r + j) = f (66 * r + j)) (nM n ord d) 0 f (by omega) ⟨fun j hj => by rw [if_neg (Nat.not_lt_zero j), hf i hi hPi' j hj, if_neg (by omega)], fun _ _ _ _ _ => rfl⟩ ?_ ?_
          · exact this
          · intro K' f' hf'
            show B_Mo_enter_205 _ (L_Mo_enter_205 (L_Mo_enter_150 post K) post K') post 199 _ _ _ _ _
            unfold B_Mo_enter_205 B_Mo_enter_267
            rw [gI_wI, sAll_ne (by omega), J8, nI_1]
            refine ⟨k4, fun _ => ih f' (fun r hr hPr j hj => ?_), fun q => absurd (Int32.le_refl _) q⟩
            by_cases q : r = i
            · subst q
              rw [hf'.1 j hj, if_pos hj, if_pos (by omega)]
              unfold addE; rw [if_neg q2]
            · rw [hf'.2 r hr q j hj, hf r hr hPr j hj]
              by_cases q4 : r < i ∨ r = k
              · rw [if_pos q4, if_pos (by omega)]
              · rw [if_neg q4, if_neg (by omega)]
          · intro K' t f' ht hf' ih'
            have u1 := hf'.1 t ht
            rw [if_neg (by omega)] at u1
            have u2' : f' (66 * k + t) = nI (b * red P e v (nM n ord d) t).val := by
              rw [hf'.2 k hk (fun z => q2 z.symm) t ht, hf k hk (addP_h P k) t ht, if_pos (Or.inr rfl)]
              unfold addE; rw [if_pos rfl]
            show B_Mo_enter_205 _ (L_Mo_enter_205 (L_Mo_enter_150 post K) post K') post 199 _ _ _ _ _
            unfold B_Mo_enter_205
            simp (disch := omega) only [isK_wI, isA_wI, gR_wI, gI_wI, sI_wI, true_and, and_true, Option.some.injEq, exists_eq_left', forall_const, not_true_eq_false, not_false_eq_true, false_implies, true_implies, ne_eq, lit_nI, nI_add, pk_mul, pk_sub, pk_div, rem_n, nI_clamp, nI_leI, nI_ltI, nI_eq, in_nI, k4, r9, isA_T a8, sAll_ne (show (199 : Nat) ≠ 203 by omega), sAll_eq, J8, u1, u2']
            refine ⟨fun q => absurd q (by omega), fun _ => ?_⟩
            refine sp_modS hM (by rw [sAll_ne (by omega), J204 2 (by omega)]; exact hI2) hp2 rfl rfl rfl ?_
            simp (disch := omega) only [isK_wI, isA_wI, gR_wI, gI_wI, sI_wI, true_and, and_true, Option.some.injEq, exists_eq_left', forall_const, not_true_eq_false, not_false_eq_true, false_implies, true_implies, ne_eq, lit_nI, nI_add, pk_mul, pk_sub, pk_div, rem_n, nI_clamp, nI_leI, nI_ltI, nI_eq, in_nI, isA_T a8]
            rw [u2_sAll]
            refine ih' _ ⟨fun j hj => ?_, fun r hr hne' j hj => ?_⟩
            · by_cases q : j = t
              · subst q; rw [upd_eq, if_pos (by omega)]
              · rw [upd_ne (by omega), hf'.1 j hj]
                by_cases q4 : j < t
                · rw [if_pos q4, if_pos (by omega)]
                · rw [if_neg q4, if_neg (by omega)]
            · rw [upd_ne (by omega)]; exact hf'.2 r hr hne' j hj
        · unfold addE
          rw [if_neg q2]
          simp only
          rw [q3]; grind
  -- the first number
  have mid : ∀ g, (∀ j, j < nM n ord d → g j = nI (red P e v (nM n ord d) j).val) → ∃ N', L_Mo_enter_47 post N' 199 0 (wI M (sAll I 204 g)) := by
    intro g hg
    have at70 : ∀ k, k < nM n ord d → red P e v (nM n ord d) k ≠ 0 → (∀ j, j < k → red P e v (nM n ord d) j = 0) → B_Mo_enter_70 post 199 (nI k) (wI M (sAll I 204 g)) := by
      intro k hk hne hx
      have hgk := hg k hk
      unfold B_Mo_enter_70
      simp (disch := omega) only [isK_wI, isA_wI, gR_wI, gI_wI, sI_wI, true_and, and_true, Option.some.injEq, exists_eq_left', forall_const, not_true_eq_false, not_false_eq_true, false_implies, true_implies, ne_eq, lit_nI, nI_add, pk_mul, pk_sub, pk_div, rem_n, nI_clamp, nI_leI, nI_ltI, nI_eq, in_nI, k4, r10, isA_T a9, sAll_ne (show (199 : Nat) ≠ 204 by omega), sAll_eq, h8, hgk]
      refine ⟨fun _ => ?_, fun q => absurd q (by omega)⟩
      refine sp_Moinv hM (by rw [sAll_ne (by omega)]; exact hI2) hp hne rfl (fun b hb => ?_)
      have := pk_loop (σ := Nat → Int32) (fun K i f => L_Mo_enter_92 post K 199 (nI k) (nI b.val) (nI i) (wI M (sAll (sAll I 204 g) 203 f))) (fun i f => (∀ j, j < i → f (66 * k + j) = nI (b * red P e v (nM n ord d) j).val) ∧ ∀ r, r < nM n ord d → r ≠ k → ∀ j, j < nM n ord d → f (66 * r + j) = I 203 (66 * r + j)) (nM n ord d) 0 (I 203) (by omega) ⟨fun j hj => absurd hj (Nat.not_lt_zero j), fun _ _ _ _ _ => rfl⟩ ?_ ?_
      · have e0 : sAll (sAll I 204 g) 203 (I 203) = sAll I 204 g := by
          funext c; unfold sAll
          by_cases q : c = 203
          · rw [if_pos q, if_neg (by omega), q]
          · rw [if_neg q]
        simp only [e0] at this
        exact this
      · intro K f hf
        show B_Mo_enter_92 (L_Mo_enter_92 post K) post 199 _ _ _ _
        unfold B_Mo_enter_92
        rw [gI_wI, sAll_ne (by omega), sAll_ne (by omega), h8]
        refine ⟨k4, fun _ => ⟨k4, 205, r11, arr_A a10 (by omega) (by omega), k4, k4, ?_⟩, fun q => absurd (Int32.le_refl _) q⟩
        rw [sI_wI, sI_wI, gI_wI, nI_clamp (by omega), u2_ne (by omega), sAll_ne (by omega), sAll_ne (by omega), h12, nar1]
        exact tail g k b hk hb hx f hf.1 hf.2
      · intro K i f hi hf ih
        have hgi := hg i hi
        show B_Mo_enter_92 (L_Mo_enter_92 post K) post 199 _ _ _ _
        unfold B_Mo_enter_92
        rw [gI_wI, sAll_ne (show (199 : Nat) ≠ 203 by omega), sAll_ne (show (199 : Nat) ≠ 204 by omega), h8, nI_leI (by omega) (by omega)]
        refine ⟨k4, fun q => absurd q (by omega), fun _ => ⟨k4, 203, r9, k4, 204, r10, arr_A a9 (by omega) (by omega), k4, ?_⟩⟩
        rw [gI_wI, nI_clamp (by omega), sAll_ne (show (204 : Nat) ≠ 203 by omega), sAll_eq, hgi]
        refine sp_modM hM (by rw [sAll_ne (by omega), sAll_ne (by omega)]; exact hI2) hp2 rfl rfl ?_
        simp (disch := omega) only [isK_wI, isA_wI, gR_wI, gI_wI, sI_wI, true_and, and_true, Option.some.injEq, exists_eq_left', forall_const, not_true_eq_false, not_false_eq_true, false_implies, true_implies, ne_eq, lit_nI, nI_add, pk_mul, pk_sub, pk_div, rem_n, nI_clamp, nI_leI, nI_ltI, nI_eq, in_nI, isA_T a8]
        rw [u2_sAll]
        refine ih _ ⟨fun j hj => ?_, fun r hr hne' j hj => ?_⟩
        · by_cases q : j = i
          · subst q; rw [upd_eq]
          · rw [upd_ne (by omega)]; exact hf.1 j (by omega)
        · rw [upd_ne (by omega)]; exact hf.2 r hr hne' j hj
    refine pk_loop (σ := Unit) (fun K i _ => L_Mo_enter_47 post K 199 (nI i) (wI M (sAll I 204 g))) (fun i _ => ∀ j, j < i → red P e v (nM n ord d) j = 0) (nM n ord d) 0 () (by omega) (fun j hj => absurd hj (Nat.not_lt_zero j)) ?_ ?_
    · intro K _ hx
      show B_Mo_enter_47 (L_Mo_enter_47 post K) post 199 _ _
      unfold B_Mo_enter_47 B_Mo_enter_70
      rw [gI_wI, sAll_ne (by omega), h8]
      refine ⟨k4, fun _ => ⟨k4, fun q => absurd rfl q, fun _ => nope g ?_⟩, fun q => absurd (Int32.le_refl _) q⟩
      have e0 : (fun j => v j - red P e v (nM n ord d) j) = v := by
        funext j
        by_cases z : j < nM n ord d
        · rw [hx j z]; grind
        · rw [hout j (by omega)]; grind
      rw [e0] at hin; exact hin
    · intro K i _ hi hx ih
      have hgi := hg i hi
      show B_Mo_enter_47 (L_Mo_enter_47 post K) post 199 _ _
      unfold B_Mo_enter_47
      simp (disch := omega) only [isK_wI, isA_wI, gR_wI, gI_wI, sI_wI, true_and, and_true, Option.some.injEq, exists_eq_left', forall_const, not_true_eq_false, not_false_eq_true, false_implies, true_implies, ne_eq, lit_nI, nI_add, pk_mul, pk_sub, pk_div, rem_n, nI_clamp, nI_leI, nI_ltI, nI_eq, in_nI, k4, r10, isA_T a9, sAll_ne (show (199 : Nat) ≠ 204 by omega), sAll_eq, h8, hgi, vz hp97]
      refine ⟨fun q => absurd q (by omega), fun _ => ⟨fun q => at70 i hi q hx, fun q => ih () (fun j hj => ?_)⟩⟩
      by_cases z : j = i
      · subst z; exact q
      · exact hx j (by omega)
  -- clearing
  have := pk_loop (σ := Nat → Int32) (fun K i g => L_Mo_enter_2 post K 199 (nI i) (wI M (sAll I 204 g))) (fun i g => ∀ j, j < nM n ord d → g j = nI (red P e v i j).val) (nM n ord d) 0 (I 204) (by omega) hv ?_ ?_
  · simp only [sAll_self] at this
    exact this
  · intro K g hg
    show B_Mo_enter_2 (L_Mo_enter_2 post K) post 199 _ _
    unfold B_Mo_enter_2
    rw [gI_wI, sAll_ne (by omega), h8]
    exact ⟨k4, fun _ => mid g hg, fun q => absurd (Int32.le_refl _) q⟩
  · intro K i g hi hg ih
    have hgi := hg i hi
    have hpi := hpv i hi
    have keep : (P i = true → red P e v i i = 0) → L_Mo_enter_2 post K 199 (nI (i + 1)) (wI M (sAll I 204 g)) := by
      intro hzz
      refine ih g (fun j hj => ?_)
      rw [hg j hj]
      show _ = nI (if P i = true then red P e v i j - red P e v i i * e i j else red P e v i j).val
      by_cases q : P i = true
      · rw [if_pos q, hzz q]; congr 2; grind
      · rw [if_neg q]
    show B_Mo_enter_2 (L_Mo_enter_2 post K) post 199 _ _
    unfold B_Mo_enter_2 B_Mo_enter_39
    simp (disch := omega) only [isK_wI, isA_wI, gR_wI, gI_wI, sI_wI, true_and, and_true, Option.some.injEq, exists_eq_left', forall_const, not_true_eq_false, not_false_eq_true, false_implies, true_implies, ne_eq, lit_nI, nI_add, pk_mul, pk_sub, pk_div, rem_n, nI_clamp, nI_leI, nI_ltI, nI_eq, in_nI, k4, r10, r11, isA_T a9, isA_T a10, sAll_ne (show (199 : Nat) ≠ 204 by omega), sAll_ne (show (205 : Nat) ≠ 204 by omega), sAll_eq, h8, hgi, hpi, vz hp97]
    refine ⟨fun q => absurd q (by omega), fun _ => ⟨fun q => keep (fun z => ?_), fun q => ⟨fun q2 => keep (fun _ => q2), fun q2 => ?_⟩⟩⟩
    · rw [if_pos z] at q; exact absurd q (by decide)
    · have hPi : P i = true := by
        cases z : P i
        · rw [z] at q; exact absurd rfl q
        · rfl
      refine sp_Moless (v := red P e v i) (w := e i) hM (by rw [sAll_ne (by omega)]; exact hI2) hp2 (by rw [sAll_ne (by omega)]; exact h8) hN (by omega) (fun j hj => by rw [sAll_ne (by omega)]; exact hcl i hi hPi j hj) (fun j hj => by rw [sAll_eq]; exact hg j hj) (fun g2 hg2 => ?_)
      rw [sAll_sAll]
      refine ih g2 (fun j hj => ?_)
      rw [hg2 j hj]
      show _ = nI (if P i = true then red P e v i j - red P e v i i * e i j else red P e v i j).val
      rw [if_pos hPi]
end MO8
