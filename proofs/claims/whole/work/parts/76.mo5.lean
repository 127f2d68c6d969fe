section MO3
variable {M : Mem} {I : Nat → Nat → Int32} {n ord p : Nat}
theorem szP_pos {p : Nat} [NeZero p] {D : Nat → Mo2 → Fin p} {d : Nat} (h : dg1 D = d + 1) : 0 < szP D := by
  have hle := dg1_le D
  have h1 := dg1_zero h
  have h2 := szP_cut D (show d ≤ 10 by omega)
  omega
theorem szP_zero {p : Nat} [NeZero p] {n : Nat} {D : Nat → Mo2 → Fin p} (hD : ∀ d, d ≤ 10 → hom n d (D d)) (h : dg1 D = 0) : szP D = 0 := by
  unfold szP
  refine ct_none (fun j hj => decide_eq_false (fun w => w ?_))
  have := dj_ok j hj
  exact D_hi hD (by omega) (by omega) _
theorem mo_times [NeZero p] {D : Nat → Mo2 → Fin p} {H O : Hp p} {C : Nat → Nat → Mo2 → Fin p} {x y z : Int32} {post : Int32 → Mem → Prop} (hM : MdOK M) (hW : WfA n ord D H O C) (hS : MSt n ord D H O C I) (h1 : ∀ a b e, IsP n x y z a b e → dg1 D + (a + b + e) ≤ 11 → ∀ I', MSt n ord (upF (a + b + e) (b, e) D) H O C I' → FM I I' → post (nI (szP (upF (a + b + e) (b, e) D))) (wI M I')) (h0 : (¬ ∃ a b e, IsP n x y z a b e ∧ dg1 D + (a + b + e) ≤ 11) → post (-1000000) (wI M I)) : T_Mo_times 199 x y z (wI M I) post := by
  have hp := prm_lt hW.1.2.2
  have hk := hM.1
  have hD := hW.2.1
  have hR := hS.2.1
  have hH := hW.2.2.1.1
  have hO := hW.2.2.2.1.1
  have hle := dg1_le D
  refine ⟨hk, sp_MoisProduct hM hS.1.1 hW.1.1.2 (fun a b e hi => ⟨fun q => absurd q (by decide), fun _ => ⟨hk, sp_Modegree (k := 0) hM (by omega) hp.2 hD hR ?_⟩⟩) (fun hn => ⟨fun _ => h0 (fun ⟨a, b, e, w, _⟩ => hn ⟨a, b, e, w⟩), fun q => absurd rfl q⟩)⟩
  have hi' := hi
  obtain ⟨rfl, rfl, rfl, hle2, hok⟩ := hi
  have hcmp : nI (dg1 D) - 1 + nI a + nI b + nI e ≤ 10 ↔ dg1 D + (a + b + e) ≤ 11 := by
    have e9 : nI (dg1 D) - 1 + nI a + nI b + nI e = nI (dg1 D) - 1 + nI (a + b + e) := by
      rw [Int32.add_assoc, Int32.add_assoc, ← Int32.add_assoc (nI a), nI_add, nI_add]
    rw [e9]; exact le10_pred hle hle2
  rw [hcmp]
  have go : dg1 D + (a + b + e) ≤ 11 → B_Mo_times_37 post 199 (nI a) (nI b) (nI e) (wI M I) := by
    intro hdg
    unfold B_Mo_times_37
    have hcd := cdm_ok (d := a + b + e) (q := (b, e)) (by omega) (by simp only; omega)
    refine ⟨hk, sp_Moclear (k := 19) hM (by omega) (fun f hf1 hf2 => ?_)⟩
    refine pk_loop (σ := Nat → Int32) (fun N i g => L_Mo_times_46 post N 199 (nI a) (nI b) (nI e) (nI i) (wI M (sAll I 200 g))) (fun i g => (∀ t, t < 1331 → g (1331 * 19 + t) = nI (if cdm (a + b + e) (b, e) ≤ t ∧ t - cdm (a + b + e) (b, e) < i then cf D (t - cdm (a + b + e) (b, e)) else 0).val) ∧ ∀ j, (j < 1331 * 19 ∨ 1331 * 19 + 1331 ≤ j) → g j = I 200 j) 1331 0 f (by omega) ⟨fun t ht => ?_, hf2⟩ ?_ ?_
    · rw [hf1 t ht, if_neg (by omega), show (0 : Fin p).val = 0 from Nat.zero_mod p]; rfl
    · intro N g hg
      show B_Mo_times_46 (L_Mo_times_46 post N) post 199 _ _ _ _ _
      unfold B_Mo_times_46
      refine ⟨fun _ => ⟨hk, sp_Momove (a := 19) (b := 0) hM (by omega) (by omega) (by omega) (fun g2 hg1 hg2 => ?_)⟩, fun q => absurd (by decide) q⟩
      rw [sAll_sAll]
      rw [sAll_eq] at hg1 hg2
      have hR2 : MRep g2 0 (upF (a + b + e) (b, e) D) := by
        intro t ht
        rw [hg1 t ht, hg.1 t ht, ← cf_up hD (by omega) hok hdg ht]
        by_cases w : cdm (a + b + e) (b, e) ≤ t
        · rw [if_pos ⟨w, by omega⟩, if_pos w]
        · rw [if_neg (fun v => w v.1), if_neg w]
      refine ⟨hk, sp_Moproducts (k := 0) hM (by omega) hp.2 (by rw [sAll_eq]; exact hR2) ?_⟩
      exact h1 a b e hi' hdg _ (MSt_draft hH hO (fun k _ => by rw [sAll_ne (by omega)]) (by rw [sAll_eq]; exact hR2) (fun j j1 j2 => by rw [sAll_eq, hg2 j (by omega), hg.2 j (by omega)]) hS) (fun c hc => sAll_ne (by omega))
    · intro N i g hi hg ih
      show B_Mo_times_46 (L_Mo_times_46 post N) post 199 _ _ _ _ _
      unfold B_Mo_times_46 B_Mo_times_86
      have hv : sAll I 200 g 200 (1331 * 0 + i) = nI (cf D i).val := by rw [sAll_eq, hg.2 _ (by omega)]; exact hR i hi
      refine ⟨fun q => ?_, fun _ => ⟨hk, sp_Moget (k := 0) hM (by omega) hi ⟨fun q => ?_, fun q => ?_⟩⟩⟩
      · rw [show (1331 : Int32) = nI 1331 from rfl, nI_leI (by omega) (by omega)] at q; omega
      · rw [hv, val_ne hp.2] at q
        rw [nI_1]
        refine ih g ⟨fun t ht => ?_, hg.2⟩
        rw [hg.1 t ht]
        by_cases w : cdm (a + b + e) (b, e) ≤ t ∧ t - cdm (a + b + e) (b, e) < i
        · rw [if_pos w, if_pos ⟨w.1, by omega⟩]
        · rw [if_neg w]
          by_cases v : cdm (a + b + e) (b, e) ≤ t ∧ t - cdm (a + b + e) (b, e) < i + 1
          · rw [if_pos v, show t - cdm (a + b + e) (b, e) = i by omega, q]
          · rw [if_neg v]
      · rw [hv, val_ne hp.2] at q
        obtain ⟨q1, q2⟩ := cf_ne q
        have hs : mdeg i < dg1 D := by
          rcases Nat.lt_or_ge (mdeg i) (dg1 D) with w | w
          · exact w
          · exact absurd (D_hi hD q1 w _) q2
        have hsum : i + cdm (a + b + e) (b, e) < 1331 := by
          obtain ⟨x, y, z, _, _, _, w0, w1, _⟩ := dig hi
          rw [w1] at hs
          unfold cdm; simp only
          clear hg ih hcd hcmp hv q q1 q2 h1 h0
          omega
        unfold T_Mo_powers
        rw [pow_cd]
        dsimp only
        rw [nI_add, nI_1]
        refine ⟨hk, sp_Moget (k := 0) hM (by omega) hi ⟨hk, sp_Moput (k := 19) hM (by omega) hsum ?_⟩⟩
        rw [hv, u2_sAll]
        refine ih _ ⟨fun t ht => ?_, fun j hj => ?_⟩
        · by_cases w : t = i + cdm (a + b + e) (b, e)
          · subst w
            rw [upd_eq, if_pos ⟨by omega, by omega⟩, show i + cdm (a + b + e) (b, e) - cdm (a + b + e) (b, e) = i by omega]
          · rw [upd_ne (by omega), hg.1 t ht]
            by_cases v : cdm (a + b + e) (b, e) ≤ t ∧ t - cdm (a + b + e) (b, e) < i
            · rw [if_pos v, if_pos ⟨v.1, by omega⟩]
            · rw [if_neg v, if_neg (by omega)]
        · rw [upd_ne (by omega)]; exact hg.2 j hj
  have uq : ∀ a' b' e', IsP n (nI a) (nI b) (nI e) a' b' e' → a' = a ∧ b' = b ∧ e' = e := fun a' b' c' hi => by
    obtain ⟨i1, i2, i3, i4, _⟩ := hi
    rw [nI_eq (by omega) (by omega)] at i1 i2 i3
    exact ⟨i1.symm, i2.symm, i3.symm⟩
  refine ⟨go, fun w => ⟨hk, sp_Moproducts (k := 0) hM (by omega) hp.2 hR ⟨fun v => ?_, fun _ => h0 (fun ⟨a', b', e', w1, w2⟩ => ?_)⟩⟩⟩
  · exfalso
    obtain ⟨d, hd⟩ : ∃ d, dg1 D = d + 1 := ⟨dg1 D - 1, by omega⟩
    have h3 := szP_pos hd
    have h4 := szP_le D
    rw [show (0 : Int32) = nI 0 from rfl, nI_leI (by omega) (by omega)] at v
    omega
  · have := uq _ _ _ w1; omega
end MO3
