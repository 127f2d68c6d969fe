section MO3
variable {M : Mem} {I : Nat → Nat → Int32} {n ord p : Nat}
theorem mo_draft [NeZero p] {D : Nat → Mo2 → Fin p} {H O : Hp p} {C : Nat → Nat → Mo2 → Fin p} {x : Int32} {post : Int32 → Mem → Prop} (hM : MdOK M) (hW : WfA n ord D H O C) (hS : MSt n ord D H O C I) (hn : (x.toInt < 0 ∨ 3 < x.toInt) → post (-1000000) (wI M I)) (q0 : x.toInt = 0 → post (nI (szP D)) (wI M I)) (q1 : x.toInt = 1 → post (nI (dg1 D) - 1) (wI M I)) (q2 : x.toInt = 2 → ∀ v, (v = 1 ∧ evP D) ∨ (v = 0 ∧ ¬ evP D) → post v (wI M I)) (q3 : x.toInt = 3 → ∀ v, (v = -1 ∧ dg1 D = 0) ∨ (∃ d i, isHead n ord D d i ∧ v = nI (hdN d (atm n ord d i))) → post v (wI M I)) : T_Mo_draft 199 x (wI M I) post := by
  have hp := prm_lt hW.1.2.2
  have hk := hM.1
  have hD := hW.2.1
  have ho1 := hW.1.2.1
  have hR := hS.2.1
  refine sp_in3 (a := 0) (b := 4) (by omega) (by omega) (by decide) (fun d _ d2 e => ?_) (fun hne => ⟨fun z => absurd rfl z, fun _ => hn ?_⟩)
  · subst e
    have et : (nI d).toInt = (d : Int) := nI_toInt (by omega)
    rw [et] at hn q0 q1 q2 q3
    refine ⟨fun _ => ⟨fun z0 => ⟨fun z1 => ⟨fun z2 => ?_, fun z2 => ⟨hk, ?_⟩⟩, fun z1 => ⟨hk, ?_⟩⟩, fun z0 => ⟨hk, ?_⟩⟩, fun z => absurd z (by decide)⟩
    · have d3 : d = 3 := by
        rcases (show d = 0 ∨ d = 1 ∨ d = 2 ∨ d = 3 by omega) with rfl | rfl | rfl | rfl
        · exact absurd rfl z0
        · exact absurd rfl z1
        · exact absurd rfl z2
        · rfl
      have q3' := q3 (by omega)
      clear q0 q1 q2 q3 hn
      refine pk_loop (σ := Int32) (fun N i h => L_Mo_draft_56 post N 199 h (nI i) (wI M I)) (fun i h => (h = -1 ∧ ∀ m, m < i → cf D m = 0) ∨ ∃ k, k < i ∧ h = nI k ∧ cf D k ≠ 0 ∧ ∀ m, m < i → cf D m ≠ 0 → m = k ∨ gtm ord k m) 1331 0 (-1) (by omega) (Or.inl ⟨rfl, fun m hm => absurd hm (Nat.not_lt_zero m)⟩) ?_ ?_
      · intro N h hI
        show B_Mo_draft_56 (L_Mo_draft_56 post N) post 199 _ _ _
        unfold B_Mo_draft_56 B_Mo_draft_128
        refine ⟨fun _ => ⟨fun z => ?_, fun z => ?_⟩, fun q => absurd (by decide) q⟩
        · rcases hI with ⟨rfl, _⟩ | ⟨k, k1, rfl, k3, k4⟩
          · exact absurd z (by decide)
          · refine ⟨hk, sp_Mopower (l := 0) k1 (by omega) ⟨hk, sp_Mopower (l := 1) k1 (by omega) ⟨hk, sp_Mopower (l := 2) k1 (by omega) ?_⟩⟩⟩
            obtain ⟨c1, c2⟩ := cf_ne k3
            have hok := hD _ c1 _ c2
            have hmm := mmo_ok k1
            have hdg : dg1 D = mdeg k + 1 := dg1_is hD c1 ⟨_, c2⟩ (fun e he hlt m => by
              by_cases w : D e m = 0
              · exact w
              · exfalso
                have hok2 := hD e he m w
                have hcd := cdm_ok he hok2.1
                rcases k4 (cdm e m) hcd.1 (by rw [cf_at he hok2.1]; exact w) with v | v
                · rw [← v, hcd.2.1] at hlt; omega
                · rcases v with v | v
                  · rw [hcd.2.1] at v; omega
                  · rw [hcd.2.1] at v; omega)
            have hat := atm_psm (ord := ord) hok
            have hlt := psm_lt (ord := ord) hok
            refine q3' _ (Or.inr ⟨mdeg k, psm n ord (mdeg k) (mmo k), ⟨hdg, hlt, by rw [hat]; exact c2, fun j hj => ?_⟩, ?_⟩)
            · by_cases w : D (mdeg k) (atm n ord (mdeg k) j) = 0
              · exact w
              · exfalso
                have hj2 : j < nM n ord (mdeg k) := by omega
                have hok2 := hD _ c1 _ w
                have hcd := cdm_ok c1 hok2.1
                rcases k4 (cdm (mdeg k) (atm n ord (mdeg k) j)) hcd.1 (by rw [cf_at c1 hok2.1]; exact w) with v | v
                · have := hcd.2.2
                  rw [v] at this
                  rw [this, psm_atm hj2] at hj; omega
                · rcases v with v | ⟨_, v⟩
                  · rw [hcd.2.1] at v; omega
                  · rw [hcd.2.2, ← hat, atm_lt hlt hj2] at v; omega
            · rw [hat]
              obtain ⟨x, y, z, _, _, _, _, w1, w2, w3, w4, w5⟩ := dig k1
              rw [w1, w2, w3, w4, w5, show (10000 : Int32) = nI 10000 from rfl, show (100 : Int32) = nI 100 from rfl, pk_mul, pk_mul, nI_add, nI_add]
              congr 1
              unfold hdN
              simp only
              omega
        · rcases hI with ⟨rfl, hz⟩ | ⟨k, k1, rfl, k3, k4⟩
          · refine q3' _ (Or.inl ⟨rfl, ?_⟩)
            rw [← md1_all hD]
            have : ∀ m, m ≤ 1331 → md1 D m = 0 := by
              intro m
              induction m with
              | zero => intro _; rfl
              | succ m ih =>
                intro hm
                show (if cf D m ≠ 0 then _ else _) = _
                rw [if_neg (fun w => w (hz m (by omega)))]
                exact ih (by omega)
            exact this 1331 (Nat.le_refl _)
          · exact absurd (nI_ge0 (by omega)) z
      · intro N i h hi hI ih
        show B_Mo_draft_56 (L_Mo_draft_56 post N) post 199 _ _ _
        unfold B_Mo_draft_56 B_Mo_draft_85 B_Mo_draft_87
        refine ⟨fun q => ?_, fun _ => ⟨hk, sp_Moget (k := 0) hM (by omega) hi ⟨fun q => ?_, fun q => ?_⟩⟩⟩
        · rw [show (1331 : Int32) = nI 1331 from rfl, nI_leI (by omega) (by omega)] at q; omega
        · rw [hR i hi, val_ne hp.2] at q
          rw [nI_1]
          refine ih h ?_
          rcases hI with ⟨e1, e2⟩ | ⟨k, k1, k2, k3, k4⟩
          · refine Or.inl ⟨e1, fun m hm => ?_⟩
            by_cases e : m = i
            · subst e; exact q
            · exact e2 m (by omega)
          · refine Or.inr ⟨k, by omega, k2, k3, fun m hm hc => ?_⟩
            by_cases e : m = i
            · subst e; exact absurd q hc
            · exact k4 m (by omega) hc
        · rw [hR i hi, val_ne hp.2] at q
          rw [nI_1]
          refine ⟨fun z => ih (nI i) (Or.inr ⟨i, by omega, rfl, q, fun m hm hc => ?_⟩), fun z => ⟨hk, ?_⟩⟩
          · rcases hI with ⟨e1, e2⟩ | ⟨k, k1, k2, k3, k4⟩
            · by_cases e : m = i
              · exact Or.inl e
              · exact absurd (e2 m (by omega)) hc
            · rw [k2] at z; exact absurd z (nI_nlt0 (by omega))
          · rcases hI with ⟨e1, e2⟩ | ⟨k, k1, rfl, k3, k4⟩
            · rw [e1] at z; exact absurd (by decide) z
            · refine sp_MoisGreater hM hS.1.2.2.1 ho1 hi (by omega) (fun g => ⟨fun w => absurd w (by decide), fun _ => ih (nI i) (Or.inr ⟨i, by omega, rfl, q, fun m hm hc => ?_⟩)⟩) (fun g => ⟨fun _ => ih (nI k) (Or.inr ⟨k, by omega, rfl, k3, fun m hm hc => ?_⟩), fun w => absurd rfl w⟩)
              · by_cases e : m = i
                · exact Or.inl e
                · rcases k4 m (by omega) hc with v | v
                  · rw [v]; exact Or.inr g
                  · exact Or.inr (gtm_tr g v)
              · by_cases e : m = i
                · subst e
                  rcases gtm_tot (ord := ord) (show k < 1331 by omega) hi (by omega) with v | v
                  · exact Or.inr v
                  · exact absurd v g
                · exact k4 m (by omega) hc
    · have d2 : d = 2 := by rw [show (2 : Int32) = nI 2 from rfl, nI_eq (by omega) (by omega)] at z2; exact z2
      unfold B_Mo_draft_51
      exact sp_MoisEven (k := 0) hM (by omega) hp.2 hD hR (fun ev => ⟨fun w => absurd w (by decide), fun _ => q2 (by omega) 1 (Or.inl ⟨rfl, ev⟩)⟩) (fun ev => ⟨fun _ => q2 (by omega) 0 (Or.inr ⟨rfl, ev⟩), fun w => absurd rfl w⟩)
    · have d1 : d = 1 := by rw [show (1 : Int32) = nI 1 from rfl, nI_eq (by omega) (by omega)] at z1; exact z1
      exact sp_Modegree (k := 0) hM (by omega) hp.2 hD hR (q1 (by omega))
    · have d0 : d = 0 := by rw [show (0 : Int32) = nI 0 from rfl, nI_eq (by omega) (by omega)] at z0; exact z0
      exact sp_Moproducts (k := 0) hM (by omega) hp.2 hR (q0 (by omega))
  · rcases Int.lt_or_le x.toInt 0 with q | q
    · exact Or.inl q
    · refine Or.inr ?_
      rcases Int.lt_or_le 3 x.toInt with q2 | q2
      · exact q2
      · exfalso
        refine hne ⟨x.toInt.toNat, by omega, by omega, i32_ext ?_⟩
        rw [nI_toInt (by omega)]; omega
end MO3
