section FR2
variable {p : Nat} {n ord d : Nat} {M : Mem} {I : Nat → Nat → Int32}
noncomputable def chN [NeZero p] (n ord : Nat) (G : Nat → (Mo2 → Fin p) → Prop) (i j : Nat) : Nat := if i ≤ n ∧ i ≤ j then stN n i * (nM n ord (j - i) - vdm n ord G (j - i)) else 0
theorem sp_chains [NeZero p] {i j : Nat} {D : Nat → Mo2 → Fin p} {H O : Hp p} {C : Nat → Nat → Mo2 → Fin p} {post : Int32 → Mem → Prop} (hM : MdOK M) (hW : WfA n ord D H O C) (hS : MSt n ord D H O C I) (hi4 : i ≤ 3) (hj : j ≤ 10) (h : ∀ I', MSt n ord D H O C I' → FM I I' → post (nI (chN n ord (Gh H) i j)) (wI M I')) : T_Mo_chains 199 (nI i) (nI j) (wI M I) post := by
  have hk := hM.1
  have hF := prm_field hW.1.2.2
  have hn := hS.1.1
  have hn3 := hW.1.1.2
  unfold T_Mo_chains B_Mo_chains_13
  rw [gI_wI, hn, nI_ltI (by omega) (by omega), nI_leI (by omega) (by omega)]
  unfold chN at h
  refine ⟨hk, fun z => ?_, fun z0 => ⟨fun z1 => ⟨hk, ?_⟩, fun z => ?_⟩⟩
  · have := h I hS (fun c _ => rfl)
    rw [if_neg (by omega)] at this; exact this
  · rw [pk_sub z1]
    rw [if_pos ⟨by omega, z1⟩] at h
    refine sp_Moheap hM hW hS (by omega) (fun J hE hJ => ⟨hk, ?_⟩)
    have hSJ := MSt_en hW hJ hS
    refine sp_setsOf hM hSJ.1.1 hn3 (by omega) ⟨hk, hk, ?_⟩
    obtain ⟨e, hE⟩ := hE.st hF.1
    rw [gI_wI, gI_wI, hE.1.1, hE.2.2.1, pk_sub (ct_le _ _), pk_mul]
    have := h J hSJ hJ.fm
    unfold vdm dm at this
    rw [VV_spn] at this
    exact this
  · have := h I hS (fun c _ => rfl)
    rw [if_neg (by omega)] at this; exact this
/-- what free answers -/
def FrA [NeZero p] (n ord : Nat) (G : Nat → (Mo2 → Fin p) → Prop) (i j : Nat) (v : Int32) : Prop := (n < i ∧ v = 0) ∨ (i ≤ n ∧ ∃ r1 r2, StR n ord G i j r1 ∧ StR n ord G (i + 1) j r2 ∧ v = nI (chN n ord G i j) - nI r1 - nI r2)
theorem mo_steps [NeZero p] {i j : Nat} {D : Nat → Mo2 → Fin p} {H O : Hp p} {C : Nat → Nat → Mo2 → Fin p} {post : Int32 → Mem → Prop} (hM : MdOK M) (hW : WfA n ord D H O C) (hS : MSt n ord D H O C I) (hi4 : i ≤ 4) (hj : j ≤ 10) (h : ∀ I' r, StR n ord (Gh H) i j r → MSt n ord D H O C I' → FM I I' → post (nI r) (wI M I')) : T_Mo_steps 199 (nI i) (nI j) (wI M I) post := by
  refine sp_steps hM hW hS hi4 hj (fun z => h I 0 (Or.inl ⟨z, rfl⟩) hS (fun c _ => rfl)) (fun z1 z2 z3 I' e r hE hD _ hI => h I' r (Or.inr ⟨z1, z2, z3, e, hE, hD⟩) (MSt_sf hW hI hS) hI.fm)
theorem mo_free [NeZero p] {x y : Int32} {D : Nat → Mo2 → Fin p} {H O : Hp p} {C : Nat → Nat → Mo2 → Fin p} {post : Int32 → Mem → Prop} (hM : MdOK M) (hW : WfA n ord D H O C) (hS : MSt n ord D H O C I) (h1 : ∀ i j, i ≤ 3 → j ≤ 10 → x = nI i → y = nI j → ∀ v, FrA n ord (Gh H) i j v → ∀ I', MSt n ord D H O C I' → FM I I' → post v (wI M I')) (h0 : (¬ ∃ i j, i ≤ 3 ∧ j ≤ 10 ∧ x = nI i ∧ y = nI j) → post (-1000000) (wI M I)) : T_Mo_free 199 x y (wI M I) post := by
  have hk := hM.1
  have hn := hS.1.1
  have hn3 := hW.1.1.2
  unfold T_Mo_free B_Mo_free_19 B_Mo_free_56
  refine sp_in3 (a := 0) (b := 4) (by omega) (by omega) (by decide) (fun i _ i2 e => ⟨fun q => absurd q (by decide), fun _ => ?_⟩) (fun hne => ⟨fun _ => h0 (fun ⟨i, j, w1, w2, w3, w4⟩ => hne ⟨i, by omega, by omega, w3⟩), fun q => absurd rfl q⟩)
  subst e
  refine sp_in3 (a := 0) (b := 11) (by omega) (by omega) (by decide) (fun j _ j2 e => ⟨fun _ => ⟨hk, ?_⟩, fun q => absurd q (by decide)⟩) (fun hne => ⟨fun q => absurd rfl q, fun _ => h0 (fun ⟨i, j, w1, w2, w3, w4⟩ => hne ⟨j, by omega, by omega, w4⟩)⟩)
  subst e
  rw [gI_wI, hn, nI_leI (by omega) (by omega)]
  refine ⟨fun z => ⟨hk, ?_⟩, fun z => h1 i j (by omega) (by omega) rfl rfl 0 (Or.inl ⟨by omega, rfl⟩) I hS (fun c _ => rfl)⟩
  refine sp_chains hM hW hS (by omega) (by omega) (fun I1 hS1 hf1 => ⟨hk, ?_⟩)
  refine mo_steps hM hW hS1 (by omega) (by omega) (fun I2 r1 hr1 hS2 hf2 => ⟨hk, ?_⟩)
  rw [nI_1]
  refine mo_steps hM hW hS2 (by omega) (by omega) (fun I3 r2 hr2 hS3 hf3 => ?_)
  exact h1 i j (by omega) (by omega) rfl rfl _ (Or.inr ⟨z, r1, r2, hr1, hr2, rfl⟩) I3 hS3 ((hf1.tr hf2).tr hf3)
end FR2
