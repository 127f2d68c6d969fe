section MO9
variable {M : Mem} {I : Nat → Nat → Int32} {n ord p d : Nat}
theorem sp_Mospread [NeZero p] {k up : Nat} {F : Nat → Mo2 → Fin p} {S : (Nat → Fin p) → Prop} {post : Mem → Prop} (hM : MdOK M) (hn : I 199 1 = nI n) (hn3 : n ≤ 3) (hI2 : I 199 2 = nI p) (hp : prm p = true) (hd : d ≤ 10) (hN : nM n ord d ≤ 66) (hk : k ≤ 20) (hR : MRep (I 200) k F) (hF : ∀ d, d ≤ 10 → hom n d (F d)) (hup : nI d - (nI (dg1 F) - 1) = nI up) (hup1 : up ≤ 11) (hdg : up ≤ 10 → dg1 F + up ≤ 11) (hev : ∀ m, m < 1331 → cf F m ≠ 0 → mdeg m + up = d) (hSt : EnS n ord d S I) (h : ∀ I', EnS n ord d (fun s => S s ∨ ∃ c, up ≤ 10 ∧ okm n up c ∧ s = vec n ord d (upF up c F d)) I' → EnF I I' → post (wI M I')) : T_Mo_spread 199 (nI k) (nI d) (wI M I) post := by
  have hM' := hM
  obtain ⟨k4, r0, r6, r7, r9, r10, r11, r13, r14, r15, r17, a5, a6, a7, a8, a9, a10, a11, a12, a13, a14⟩ := hM'
  have hp2 := prm_lt hp
  refine ⟨k4, sp_Modegree hM hk hp2.2 hF hR ?_⟩
  rw [hup]
  refine pk_loop (σ := Nat → Nat → Int32) (fun N X J => L_Mo_spread_11 post N 199 (nI k) (nI up) (nI X) (wI M J)) (fun X J => EnF I J ∧ EnS n ord d (fun s => S s ∨ ∃ c, up ≤ 10 ∧ okm n up c ∧ up - c.1 - c.2 < X ∧ s = vec n ord d (upF up c F d)) J) (up + 1) 0 I (by omega) ⟨EnF.rf I, EnS_iff (fun s => ⟨Or.inl, fun z => ?_⟩) hSt⟩ ?_ ?_
  · rcases z with z | ⟨c, _, _, z, _⟩
    · exact z
    · omega
  · intro N J ⟨hF1, hS1⟩
    show B_Mo_spread_11 (L_Mo_spread_11 post N) post 199 _ _ _ _
    refine ⟨fun _ => h J (EnS_iff (fun s => ⟨fun z => ?_, fun z => ?_⟩) hS1) hF1, fun q => absurd ((nI_ltI (by omega) (by omega)).mpr (by omega)) q⟩
    · rcases z with z | ⟨c, z0, z1, _, z2⟩
      · exact Or.inl z
      · exact Or.inr ⟨c, z0, z1, z2⟩
    · rcases z with z | ⟨c, z0, z1, z2⟩
      · exact Or.inl z
      · exact Or.inr ⟨c, z0, z1, by omega, z2⟩
  · intro N X J hX ⟨hF1, hS1⟩ ih
    show B_Mo_spread_11 (L_Mo_spread_11 post N) post 199 _ _ _ _
    refine ⟨fun q => ?_, fun _ => ?_⟩
    · rw [nI_ltI (by omega) (by omega)] at q; omega
    refine pk_loop (σ := Nat → Nat → Int32) (fun N' Y J' => L_Mo_spread_20 (L_Mo_spread_11 post N) post N' 199 (nI k) (nI up) (nI X) (nI Y) (wI M J')) (fun Y J' => EnF I J' ∧ EnS n ord d (fun s => S s ∨ ∃ c, up ≤ 10 ∧ okm n up c ∧ (up - c.1 - c.2 < X ∨ (up - c.1 - c.2 = X ∧ c.1 < Y)) ∧ s = vec n ord d (upF up c F d)) J') (up - X + 1) 0 J (by omega) ⟨hF1, EnS_iff (fun s => ?_) hS1⟩ ?_ ?_
    · constructor
      · rintro (z | ⟨c, z0, z1, z2, z3⟩)
        · exact Or.inl z
        · exact Or.inr ⟨c, z0, z1, Or.inl z2, z3⟩
      · rintro (z | ⟨c, z0, z1, z2, z3⟩)
        · exact Or.inl z
        · exact Or.inr ⟨c, z0, z1, by omega, z3⟩
    · intro N' J' ⟨hF2, hS2⟩
      show B_Mo_spread_20 _ (L_Mo_spread_20 (L_Mo_spread_11 post N) post N') post 199 _ _ _ _ _
      refine ⟨fun _ => ?_, fun q => absurd ?_ q⟩
      · rw [nI_1]
        refine ih J' ⟨hF2, EnS_iff (fun s => ?_) hS2⟩
        constructor
        · rintro (z | ⟨c, z0, z1, z2, z3⟩)
          · exact Or.inl z
          · exact Or.inr ⟨c, z0, z1, by omega, z3⟩
        · rintro (z | ⟨c, z0, z1, z2, z3⟩)
          · exact Or.inl z
          · have := z1.1
            exact Or.inr ⟨c, z0, z1, by omega, z3⟩
      · rw [nI_add, nI_ltI (by omega) (by omega)]; omega
    · intro N' Y J' hY ⟨hF2, hS2⟩ ih'
      have hn2 : J' 199 1 = nI n := by rw [hF2.2 1 (by omega) (by omega)]; exact hn
      have hI22 : J' 199 2 = nI p := by rw [hF2.2 2 (by omega) (by omega)]; exact hI2
      have hR2 : MRep (J' 200) k F := by rw [hF2.1 200 (by omega) (by omega) (by omega) (by omega) (by omega) (by omega)]; exact hR
      show B_Mo_spread_20 _ (L_Mo_spread_20 (L_Mo_spread_11 post N) post N') post 199 _ _ _ _ _
      unfold B_Mo_spread_20 B_Mo_spread_140
      rw [nI_add, nI_ltI (by omega) (by omega), pk_sub (show X ≤ up by omega), pk_sub (show Y ≤ up - X by omega), nI_1 Y]
      refine ⟨fun q => absurd q (by omega), fun _ => ⟨k4, sp_MoisProduct hM hn2 hn3 (fun a b c hi => ⟨fun _ => ?_, fun q => absurd q (by decide)⟩) (fun hne => ⟨fun q => absurd rfl q, fun _ => ih' J' ⟨hF2, EnS_iff (fun s => ?_) hS2⟩⟩)⟩⟩
      · obtain ⟨i1, i2, i3, i4, i5⟩ := hi
        rw [nI_eq (by omega) (by omega)] at i1 i2 i3
        subst i1 i2 i3
        rw [show X + Y + (up - X - Y) = up by omega] at i4 i5
        have hcl : (Y, up - X - Y).1 + (Y, up - X - Y).2 ≤ up := i5.1
        have hcc := cdm_ok i4 hcl
        obtain ⟨W, P, e, hEn, hWS⟩ := hS2
        have hT := hEn.1
        have h8 := hT.1
        -- the vector is 0 at first
        refine pk_loop (σ := Nat → Int32) (fun K i g => L_Mo_spread_57 (L_Mo_spread_11 post N) (L_Mo_spread_20 (L_Mo_spread_11 post N) post N') post K 199 (nI k) (nI up) (nI X) (nI Y) (nI (up - X - Y)) (nI i) (wI M (sAll J' 204 g))) (fun i g => ∀ j, j < i → g j = 0) (nM n ord d) 0 (J' 204) (by omega) (fun j hj => absurd hj (Nat.not_lt_zero j)) ?_ ?_ |> fun q => by simp only [sAll_self] at q; exact q
        · intro K g hg
          show B_Mo_spread_57 _ _ (L_Mo_spread_57 _ _ post K) post 199 _ _ _ _ _ _ _
          unfold B_Mo_spread_57
          rw [gI_wI, sAll_ne (by omega), h8]
          refine ⟨k4, fun _ => ?_, fun q => absurd (Int32.le_refl _) q⟩
          -- the numbers
          refine pk_loop (σ := Nat → Int32) (fun K' i g' => L_Mo_spread_83 (L_Mo_spread_11 post N) (L_Mo_spread_20 (L_Mo_spread_11 post N) post N') post K' 199 (nI k) (nI up) (nI X) (nI Y) (nI (up - X - Y)) (nI i) (wI M (sAll J' 204 g'))) (fun i g' => ∀ j, j < nM n ord d → g' j = nI (if cdm up (Y, up - X - Y) ≤ cdm d (atm n ord d j) ∧ cdm d (atm n ord d j) - cdm up (Y, up - X - Y) < i then cf F (cdm d (atm n ord d j) - cdm up (Y, up - X - Y)) else 0).val) 1331 0 g (by omega) (fun j hj => ?_) ?_ ?_
          · rw [hg j hj, if_neg (by omega), show (0 : Fin p).val = 0 from Nat.zero_mod p]; rfl
          · intro K' g' hg'
            show B_Mo_spread_83 _ _ (L_Mo_spread_83 _ _ post K') post 199 _ _ _ _ _ _ _
            unfold B_Mo_spread_83 B_Mo_spread_140
            refine ⟨fun _ => ⟨k4, ?_⟩, fun q => absurd (by decide) q⟩
            have hEn2 : EnSt n ord d W P e (sAll J' 204 g') := by
              obtain ⟨_, hl, h12, hpv, hcl'⟩ := hEn
              exact ⟨TkS_kp (by rw [sAll_ne (by omega)]) (sAll_ne (by omega)) (sAll_ne (by omega)) hT, hl, by rw [sAll_ne (by omega)]; exact h12, fun k hk => by rw [sAll_ne (by omega)]; exact hpv k hk, fun k hk hP j hj => by rw [sAll_ne (by omega)]; exact hcl' k hk hP j hj⟩
            refine sp_Moenter (v := vec n ord d (upF up (Y, up - X - Y) F d)) hM (by rw [sAll_ne (by omega)]; exact hI22) hp hN hEn2 (fun j hj => ?_) (fun i hi => by unfold vec; rw [if_neg (by omega)]) (fun J3 P3 e3 hE3 hF3 => ?_)
            · have hoj := atm_ok hj
              have hcj := cdm_ok hd hoj.1
              rw [sAll_eq, hg' j hj]
              unfold vec
              rw [if_pos hj, ← cf_at (F := upF up (Y, up - X - Y) F) hd hoj.1, ← cf_up hF i4 i5 (hdg i4) hcj.1]
              by_cases w : cdm up (Y, up - X - Y) ≤ cdm d (atm n ord d j)
              · rw [if_pos w, if_pos ⟨w, by omega⟩]
              · rw [if_neg w, if_neg (fun z => w z.1)]
            · rw [nI_1]
              refine ih' J3 ⟨(hF2.tr (EnF_s (Or.inr (Or.inl rfl)))).tr hF3, ⟨_, P3, e3, hE3, fun u => ?_⟩⟩
              rw [more_spn hWS u]
              refine Iff.of_eq (congrFun (Spn_iff (fun s => ?_)) u)
              constructor
              · rintro ((z | ⟨c, z0, z1, z2, z3⟩) | z)
                · exact Or.inl z
                · exact Or.inr ⟨c, z0, z1, by omega, z3⟩
                · exact Or.inr ⟨(Y, up - X - Y), i4, i5, Or.inr ⟨by simp only; omega, by simp only; omega⟩, z⟩
              · rintro (z | ⟨c, z0, z1, z2, z3⟩)
                · exact Or.inl (Or.inl z)
                · by_cases w : up - c.1 - c.2 < X ∨ (up - c.1 - c.2 = X ∧ c.1 < Y)
                  · exact Or.inl (Or.inr ⟨c, z0, z1, w, z3⟩)
                  · refine Or.inr ?_
                    have := z1.1
                    have ec : c = (Y, up - X - Y) := by apply Prod.ext <;> simp only <;> omega
                    rw [ec] at z3; exact z3
          · intro K' i g' hi hg' ih3
            have hv : sAll J' 204 g' 200 (1331 * k + i) = nI (cf F i).val := by rw [sAll_ne (by omega)]; exact hR2 i hi
            show B_Mo_spread_83 _ _ (L_Mo_spread_83 _ _ post K') post 199 _ _ _ _ _ _ _
            unfold B_Mo_spread_83 B_Mo_spread_130
            refine ⟨fun q => ?_, fun _ => ⟨k4, sp_Moget hM hk hi ⟨fun q => ?_, fun q => ⟨k4, 204, r10, k4, 202, r7, ?_⟩⟩⟩⟩
            · rw [show (1331 : Int32) = nI 1331 from rfl, nI_leI (by omega) (by omega)] at q; omega
            · rw [hv, val_ne hp2.2] at q
              rw [nI_1]
              refine ih3 g' (fun j hj => ?_)
              rw [hg' j hj]
              by_cases w : cdm up (Y, up - X - Y) ≤ cdm d (atm n ord d j) ∧ cdm d (atm n ord d j) - cdm up (Y, up - X - Y) < i
              · rw [if_pos w, if_pos ⟨w.1, by omega⟩]
              · rw [if_neg w]
                by_cases y : cdm up (Y, up - X - Y) ≤ cdm d (atm n ord d j) ∧ cdm d (atm n ord d j) - cdm up (Y, up - X - Y) < i + 1
                · rw [if_pos y, show cdm d (atm n ord d j) - cdm up (Y, up - X - Y) = i by omega, q]
                · rw [if_neg y]
            · rw [hv, val_ne hp2.2] at q
              obtain ⟨q1, q2⟩ := cf_ne q
              have hed := hev i hi q
              have hok := hF _ q1 _ q2
              have hmi := mmo_ok hi
              have hsum : i + cdm up (Y, up - X - Y) = cdm d ((mmo i).1 + Y, (mmo i).2 + (up - X - Y)) := by
                have := cdm_add hmi.1 hcl
                rw [hmi.2, hed] at this
                exact this
              have hokd : okm n d ((mmo i).1 + Y, (mmo i).2 + (up - X - Y)) := by
                have := okm_add hok i5
                rw [hed] at this
                exact this
              have hlt := psm_lt (ord := ord) hokd
              have hat := atm_psm (ord := ord) hokd
              have hpl := hT.2.2 _ hlt
              rw [hat] at hpl
              have hcs := cdm_ok hd hokd.1
              unfold T_Mo_powers
              rw [pow_cd, show X + Y + (up - X - Y) = up by omega]
              dsimp only
              rw [nI_add, nI_1, gI_wI, hsum, nI_clamp (by omega), sAll_ne (show (202 : Nat) ≠ 204 by omega)]
              rw [hpl]
              refine ⟨arr_A a7 hcs.1 (by omega), k4, sp_Moget hM hk hi ⟨arr_A a9 (by omega) (by omega), ?_⟩⟩
              rw [hv, nI_clamp (by omega), sI_wI, u2_sAll]
              refine ih3 _ (fun j hj => ?_)
              by_cases w : j = psm n ord d ((mmo i).1 + Y, (mmo i).2 + (up - X - Y))
              · subst w
                rw [upd_eq, hat, ← hsum, if_pos ⟨by omega, by omega⟩, Nat.add_sub_cancel]
              · rw [upd_ne w, hg' j hj]
                have hoj := atm_ok hj
                have hcj := cdm_ok hd hoj.1
                have hnj : cdm d (atm n ord d j) ≠ i + cdm up (Y, up - X - Y) := fun z => by
                  rw [hsum] at z
                  have : atm n ord d j = ((mmo i).1 + Y, (mmo i).2 + (up - X - Y)) := by rw [← hcj.2.2, z]; exact hcs.2.2
                  apply w
                  rw [← this, psm_atm hj]
                by_cases y : cdm up (Y, up - X - Y) ≤ cdm d (atm n ord d j) ∧ cdm d (atm n ord d j) - cdm up (Y, up - X - Y) < i
                · rw [if_pos y, if_pos ⟨y.1, by omega⟩]
                · rw [if_neg y, if_neg (by omega)]
        · intro K i g hi hg ih3
          show B_Mo_spread_57 _ _ (L_Mo_spread_57 _ _ post K) post 199 _ _ _ _ _ _ _
          unfold B_Mo_spread_57
          rw [gI_wI, sAll_ne (show (199 : Nat) ≠ 204 by omega), h8, nI_leI (by omega) (by omega)]
          refine ⟨k4, fun q => absurd q (by omega), fun _ => ⟨k4, 204, r10, arr_A a9 (by omega) (by omega), ?_⟩⟩
          rw [sI_wI, nI_clamp (by omega), u2_sAll, nI_1]
          refine ih3 _ (fun j hj => ?_)
          by_cases w : j = i
          · subst w; exact upd_eq _ _ _
          · rw [upd_ne w]; exact hg j (by omega)
      · constructor
        · rintro (z | ⟨c, z0, z1, z2, z3⟩)
          · exact Or.inl z
          · exact Or.inr ⟨c, z0, z1, by omega, z3⟩
        · rintro (z | ⟨c, z0, z1, z2, z3⟩)
          · exact Or.inl z
          · refine Or.inr ⟨c, z0, z1, ?_, z3⟩
            by_cases w : up - c.1 - c.2 = X ∧ c.1 = Y
            · exfalso
              apply hne
              have h1 := z1.1
              have h2 := z1.2.1
              have h3 := z1.2.2
              exact ⟨X, Y, up - X - Y, rfl, rfl, rfl, by omega, by simp only; omega, fun z => by have := h2 z; simp only; omega, fun z => by have := h3 z; simp only; omega⟩
            · omega
end MO9
