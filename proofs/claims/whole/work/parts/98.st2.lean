section ST2
variable {M : Mem} {N : Nat} {ρ : Nat → Nat → Option Nat} {E : Nat → Nat → Int32}
theorem pl_unp : ∀ q, q < 66 → pl (unp q) = q ∧ (unp q).1 + (unp q).2 ≤ 10 := by decide +kernel
theorem s_PrL {I0 : Nat → Nat → Int32} {post : Mem → Prop} (hM : PrOK M) (hp : ∀ I', PrSt 3 0 I' → (∀ c, c ≠ 1 → c ≠ 2 → c ≠ 3 → c ≠ 4 → c ≠ 5 → I' c = I0 c) → post (wI M I')) : ∃ n, L_Pr_new_39 post n 1 0 (wI M I0) := by
  have hM' := hM
  obtain ⟨⟨k1, r0, r1, _, _⟩, a2, a3, _, _⟩ := hM'
  refine pk_loop (σ := Nat → Nat → Int32) (fun N d I => L_Pr_new_39 post N 1 (nI d) (wI M I)) (fun d I => (∀ y z, y + z < d → I 2 (pl (y, z)) = nI y ∧ I 3 (pl (y, z)) = nI z) ∧ ∀ c, c ≠ 2 → c ≠ 3 → I c = I0 c) 11 0 I0 (by omega) ⟨fun y z h => absurd h (by omega), fun _ _ _ => rfl⟩ ?_ ?_
  · intro N I hI
    show B_Pr_new_39 (L_Pr_new_39 post N) post 1 _ _
    refine ⟨fun _ => ⟨k1, ?_⟩, fun q => absurd (by decide) q⟩
    refine sp_arrange (n := 3) (ord := 0) hM (by omega) (by omega) (fun q hq => ?_) (fun I' h1 h2 => hp I' h1 (fun c c1 c2 c3 c4 c5 => by rw [h2 c c1 c4 c5, hI.2 c c2 c3]))
    have := pl_unp q hq
    have h := hI.1 (unp q).1 (unp q).2 (by omega)
    rw [show ((unp q).1, (unp q).2) = unp q from rfl, this.1] at h
    exact h
  · intro N d I hd hI ih
    show B_Pr_new_39 (L_Pr_new_39 post N) post 1 _ _
    refine ⟨fun q => ?_, fun _ => ?_⟩
    · rw [show (10 : Int32) = nI 10 from rfl, nI_ltI (by omega) (by omega)] at q; omega
    refine pk_loop (σ := Nat → Nat → Int32) (fun N' z I => L_Pr_new_47 (L_Pr_new_39 post N) post N' 1 (nI d) (nI z) (wI M I)) (fun z I => (∀ y z', (y + z' < d ∨ (y + z' = d ∧ z' < z)) → I 2 (pl (y, z')) = nI y ∧ I 3 (pl (y, z')) = nI z') ∧ ∀ c, c ≠ 2 → c ≠ 3 → I c = I0 c) (d + 1) 0 I (by omega) ⟨fun y z' h => hI.1 y z' (by omega), hI.2⟩ ?_ ?_
    · intro N' I' hI'
      show B_Pr_new_47 _ (L_Pr_new_47 _ post N') post 1 _ _ _
      refine ⟨fun _ => ?_, fun q => ?_⟩
      · rw [nI_1]
        exact ih I' ⟨fun y z h => hI'.1 y z (by omega), hI'.2⟩
      · rw [nI_ltI (by omega) (by omega)] at q; omega
    · intro N' z I' hz hI' ih'
      have hpl := pl_lt (m := (d - z, z)) (by simp only; omega)
      show B_Pr_new_47 _ (L_Pr_new_47 _ post N') post 1 _ _ _
      refine ⟨fun q => ?_, fun _ => ⟨k1, 2, r0, ?_⟩⟩
      · rw [nI_ltI (by omega) (by omega)] at q; omega
      rw [pk_sub (show z ≤ d by omega)]
      refine sp_place (by omega) (by omega) ⟨arr_A a2 hpl (by omega), fun M1 e1 => ⟨?_, 3, ?_, ?_⟩⟩
      · rw [e1]; exact k1
      · rw [e1]; exact r1
      refine sp_place (by omega) (by omega) ⟨?_, fun M2 e2 => ?_⟩
      · rw [e1]; exact arr_A a3 hpl (by omega)
      rw [e2, e1, sI_wI, sI_wI, nI_clamp (show pl (d - z, z) < 2147483648 by omega), nI_1]
      refine ih' _ ⟨fun y z' h => ?_, fun c c2 c3 => ?_⟩
      · by_cases w : y = d - z ∧ z' = z
        · rw [w.1, w.2]
          exact ⟨by rw [u2_ne (by omega), u2_eq], u2_eq _ _ _ _⟩
        · have hne : pl (y, z') ≠ pl (d - z, z) := fun q => by
            have := pl_inj (a := (y, z')) (by simp only; omega) (by simp only; omega) q
            simp only [Prod.mk.injEq] at this
            exact w this
          have := hI'.1 y z' (by omega)
          rw [u2_ne (by omega), u2_ne (by omega), u2_ne (by omega), u2_ne (by omega)]
          exact this
      · unfold u2
        rw [if_neg c3, if_neg c2]; exact hI'.2 c c2 c3
theorem s_Pr {post : Mem → Prop} (s : SI M 2 ρ E) (hp : ∀ M' E', SI M' 6 (r2 (r2 (r2 (r2 ρ 1 0 (some 2)) 1 1 (some 3)) 1 2 (some 4)) 1 3 (some 5)) E' → PrSt 3 0 E' → post M') : T_Pr_new 1 M post := by
  have k0 : (KT 1).1 = 4 := by decide +kernel
  unfold T_Pr_new
  rw [s.1]
  intro M1 e1
  replace s := s.m1 (k := 8) (n := 66) (by decide +kernel); rw [← e1] at s
  refine ⟨s.k (by omega) k0, fun N1 f1 => ?_⟩
  replace s := s.sR (c := 1) (k := 0) (v := some 2) (by omega); rw [← f1] at s
  rw [s.1]
  intro M2 e2
  replace s := s.m1 (k := 8) (n := 66) (by decide +kernel); rw [← e2] at s
  refine ⟨s.k (by omega) k0, fun N2 f2 => ?_⟩
  replace s := s.sR (c := 1) (k := 1) (v := some 3) (by omega); rw [← f2] at s
  rw [s.1]
  intro M3 e3
  replace s := s.m1 (k := 8) (n := 286) (by decide +kernel); rw [← e3] at s
  refine ⟨s.k (by omega) k0, fun N3 f3 => ?_⟩
  replace s := s.sR (c := 1) (k := 2) (v := some 4) (by omega); rw [← f3] at s
  rw [s.1]
  intro M4 e4
  replace s := s.m1 (k := 8) (n := 11) (by decide +kernel); rw [← e4] at s
  refine ⟨s.k (by omega) k0, fun N4 f4 => ?_⟩
  replace s := s.sR (c := 1) (k := 3) (v := some 5) (by omega); rw [← f4] at s
  refine s_PrL (M := N4) (I0 := N4.2.1) ⟨⟨s.k (by omega) k0, s.r (by omega) rfl, s.r (by omega) rfl, s.r (by omega) rfl, s.r (by omega) rfl⟩, s.a (by omega) (by decide +kernel), s.a (by omega) (by decide +kernel), s.a (by omega) (by decide +kernel), s.a (by omega) (by decide +kernel)⟩ (fun I' h1 h2 => ?_)
  refine hp _ _ (s.wI (I := I')) ?_
  obtain ⟨p1, p2, p3, p4⟩ := h1
  refine ⟨p1, fun q hq => ?_, ?_, fun d hd => ?_⟩
  · exact p2 q hq
  · exact p3
  · exact p4 d hd
theorem s_Nu {post : Mem → Prop} (s : SI M 7 ρ E) (hP : PrSt 3 0 E) (hp : ∀ M' E', SI M' 8 (r2 ρ 6 0 (some 7)) E' → PrSt 3 0 E' → NuSt 7 E' → post M') : T_Nu_new 6 M post := by
  have k0 : (KT 6).1 = 2 := by decide +kernel
  unfold T_Nu_new
  rw [s.1]
  intro M1 e1
  replace s := s.m1 (k := 8) (n := 97) (by decide +kernel); rw [← e1] at s
  refine ⟨s.k (by omega) k0, fun N1 f1 => ⟨?_, ?_⟩⟩
  · rw [f1]; exact s.k (by omega) k0
  replace s := s.sR (c := 6) (k := 0) (v := some 7) (by omega); rw [← f1] at s
  refine sp_setPrime (M := N1) (I := N1.2.1) (p := 7) ⟨s.k (by omega) k0, s.r (by omega) rfl, s.a (by omega) (by decide +kernel)⟩ (by decide +kernel) (fun I' h1 h2 => ?_)
  refine hp _ _ (s.wI (I := I')) ?_ ?_
  · have hE : ∀ c, c < 6 → (fun c => if c < 8 then I' c else fun _ => 0) c = E c := fun c hc => by
      simp only [if_pos (show c < 8 by omega)]
      rw [h2 c (by omega) (by omega), (s.2.1 c (by omega)).2.1]
    obtain ⟨p1, p2, p3, p4⟩ := hP
    refine ⟨p1, fun q hq => ?_, ?_, fun d hd => ?_⟩
    · rw [hE 2 (by omega), hE 3 (by omega)]; exact p2 q hq
    · rw [hE 1 (by omega)]; exact p3
    · have := p4 d hd
      unfold PrL at this ⊢
      rw [hE 4 (by omega), hE 5 (by omega)]; exact this
  · exact h1
end ST2
