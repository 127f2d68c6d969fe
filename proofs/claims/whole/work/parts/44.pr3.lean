theorem fr_mono : ∀ d, d < 12 → ∀ e, e < d → fr (e + 1) ≤ fr d := by decide +kernel
section PR3
variable {M : Mem} {I : Nat → Nat → Int32} {n ord : Nat}
theorem sp_arrange {post : Mem → Prop} (hM : PrOK M) (hn : 1 ≤ n ∧ n ≤ 3) (ho : ord ≤ 1) (hT : PrT I) (h : ∀ I', PrSt n ord I' → (∀ c, c ≠ 1 → c ≠ 4 → c ≠ 5 → I' c = I c) → post (wI M I')) : T_Pr_arrange 1 (nI n) (nI ord) (wI M I) post := by
  have hM' := hM
  obtain ⟨⟨m1, m2, m3, m4, m5⟩, -, -, m8, m9⟩ := hM
  unfold T_Pr_arrange
  refine ⟨m1, m1, ?_⟩
  rw [sI_wI, sI_wI]
  have key : ∀ r d I', d + r = 11 → (I' 1 4 = nI n ∧ I' 1 5 = nI ord) → (∀ c, c ≠ 1 → c ≠ 4 → c ≠ 5 → I' c = I c) → (∀ e, e < d → PrL n ord e I') → L_Pr_arrange_12 post (r + 1) 1 (nI ord) (nI d) (wI M I') := by
    intro r
    induction r with
    | zero =>
      intro d I' hd h1 h2 h3
      have e : d = 11 := by omega
      subst e
      show B_Pr_arrange_12 _ post 1 (nI ord) (nI 11) _
      unfold B_Pr_arrange_12
      simp (disch := omega) only [lit_nI, nI_add, pk_mul, pk_sub, pk_div, rem_n, nI_clamp, nI_leI, nI_ltI, nI_eq, in_nI]
      refine ⟨fun _ => h I' ⟨⟨hn, ho⟩, fun q hq => ?_, h1, fun d hd => h3 d (by omega)⟩ h2, fun q => absurd (by decide) q⟩
      rw [h2 2 (by decide) (by decide) (by decide), h2 3 (by decide) (by decide) (by decide)]
      exact hT q hq
    | succ r ih =>
      intro d I' hd h1 h2 h3
      have hd10 : d ≤ 10 := by omega
      show B_Pr_arrange_12 (L_Pr_arrange_12 post (r + 1)) post 1 (nI ord) (nI d) _
      unfold B_Pr_arrange_12 B_Pr_arrange_40
      have hb := nM_le n (by omega) ord (by omega) d (by omega)
      have next : ∀ I'', Stl I' I'' (fr d) (mons n ord d) → isA (wI M I'') 5 8 (nI d) ∧ L_Pr_arrange_12 post (r + 1) 1 (nI ord) (nI d + 1) (sI (wI M I'') 5 (Int32.toNatClampNeg (nI d)) (nI (nM n ord d))) := by
        intro I'' hS
        refine ⟨arr_A m9 (by omega) (by omega), ?_⟩
        rw [nI_clamp (by omega), sI_wI, nI_1]
        have e1 : u2 I'' 5 d (nI (nM n ord d)) 1 = I' 1 := by unfold u2; rw [if_neg (by decide)]; exact hS.1 1 (by decide)
        have e4 : u2 I'' 5 d (nI (nM n ord d)) 4 = I'' 4 := by unfold u2; rw [if_neg (by decide)]
        refine ih (d + 1) _ (by omega) (by rw [e1]; exact h1) (fun c c1 c4 c5 => ?_) (fun e he => ?_)
        · unfold u2; rw [if_neg c5, hS.1 c c4]; exact h2 c c1 c4 c5
        · by_cases q : e = d
          · subst q
            refine ⟨u2_eq _ _ _ _, fun i hi => ?_⟩
            rw [e4]; exact hS.2.2 i hi
          · have hfm := fr_mono d (by omega) e (by omega)
            have hbe := nM_le n (by omega) ord (by omega) e (by omega)
            obtain ⟨p1, p2⟩ := h3 e (by omega)
            refine ⟨?_, fun i hi => ?_⟩
            · rw [u2_ne (by omega), hS.1 5 (by decide)]; exact p1
            · rw [e4, hS.2.1 _ (by omega)]; exact p2 i hi
      have hng : ¬ (10 : Int32) < nI d := by rw [show (10 : Int32) = nI 10 from rfl, nI_ltI (by omega) (by omega)]; omega
      refine ⟨fun q => absurd q hng, fun _ => ⟨m1, 5, m5, fun q => ⟨m1, ?_⟩, fun q => ⟨m1, ?_⟩⟩⟩
      · rw [show (0 : Int32) = nI 0 from rfl, nI_eq (by omega) (by omega)] at q
        have e : ord = 1 := by omega
        subst e
        exact sp_lineByFirst hM' hn.2 hn.1 h1.1 hd10 next
      · rw [show (0 : Int32) = nI 0 from rfl, nI_eq (by omega) (by omega)] at q
        subst q
        exact sp_lineByLast hM' hn.2 hn.1 h1.1 hd10 next
  have := key 11 0 (u2 (u2 I 1 4 (nI n)) 1 5 (nI ord)) (by omega) ⟨by rw [u2_ne (by decide), u2_eq], u2_eq _ _ _ _⟩ (fun c c1 _ _ => by unfold u2; rw [if_neg c1, if_neg c1]) (fun e he => absurd he (Nat.not_lt_zero e))
  exact ⟨_, this⟩
theorem sp_isZero {d a : Nat} {f : Nat → Int32} {post : Int32 → Mem → Prop} (hM : PrOK M) (hS : PrSt n ord I) (hd : d ≤ 10) {len : Nat} (ha : arr M a 8 len) (hl : 66 ≤ len ∧ len < 2147483648) (h1 : (∀ i, i < nM n ord d → I a (pl (atm n ord d i)) = 0) → post 1 (wI M I)) (h0 : (¬ ∀ i, i < nM n ord d → I a (pl (atm n ord d i)) = 0) → post 0 (wI M I)) : T_Pr_isZero 1 (nI d) a (wI M I) post := by
  have hb := nM_b hS hd
  have key : ∀ r i, i + r = nM n ord d → (∀ j, j < i → I a (pl (atm n ord d j)) = 0) → L_Pr_isZero_2 post (r + 1) 1 (nI d) a (nI i) (wI M I) := by
    intro r
    induction r with
    | zero =>
      intro i hi hz
      have e : i = nM n ord d := by omega
      show B_Pr_isZero_2 _ post 1 (nI d) a (nI i) _
      unfold B_Pr_isZero_2
      refine ⟨hM.1.1, 5, hM.1.2.2.2.2, arr_A hM.2.2.2.2 (by omega) (by omega), fun _ => ⟨rfl, h1 (fun j hj => hz j (by omega))⟩, fun q => absurd ?_ q⟩
      rw [gI_wI, nI_clamp (by omega), (hS.2.2.2 d hd).1, nI_leI (by omega) (by omega)]; omega
    | succ r ih =>
      intro i hi hz
      show B_Pr_isZero_2 (L_Pr_isZero_2 post (r + 1)) post 1 (nI d) a (nI i) _
      unfold B_Pr_isZero_2
      refine ⟨hM.1.1, 5, hM.1.2.2.2.2, arr_A hM.2.2.2.2 (by omega) (by omega), fun q => ?_, fun _ => ⟨hM.1.1, sp_at hM hS hd (by omega) ?_⟩⟩
      · rw [gI_wI, nI_clamp (by omega), (hS.2.2.2 d hd).1, nI_leI (by omega) (by omega)] at q; omega
      · have hok := (atm_ok (show i < nM n ord d by omega)).1
        have hp := pl_lt (show (atm n ord d i).1 + (atm n ord d i).2 ≤ 10 by omega)
        refine ⟨arr_A ha (by omega) hl.2, fun q => ?_, fun q => ⟨rfl, h0 (fun z => q ?_)⟩⟩
        · rw [nI_1]
          rw [gI_wI, nI_clamp (by omega)] at q
          exact ih (i + 1) (by omega) (fun j hj => by
            by_cases e : j = i
            · rw [e]; exact q
            · exact hz j (by omega))
        · rw [gI_wI, nI_clamp (by omega)]; exact z i (by omega)
  exact ⟨_, key (nM n ord d) 0 (by omega) (fun j hj => absurd hj (Nat.not_lt_zero j))⟩
end PR3
