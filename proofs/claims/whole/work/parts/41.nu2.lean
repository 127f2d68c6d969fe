/-! Numbers: the prime, the inverses -/
def prm (p : Nat) : Bool := decide (2 ≤ p) && decide (p ≤ 97) && (List.range 98).all (fun q => decide (q < 2) || decide (p < q * q) || decide (p % q ≠ 0))
theorem sp_isPrime {x : Int32} {M : Mem} {post : Int32 → Mem → Prop} (h1 : ∀ p, x = nI p → p ≤ 97 → prm p = true → post 1 M) (h0 : (∀ p, x = nI p → p ≤ 97 → prm p = false) → post 0 M) : T_Nu_isPrime x M post := by
  unfold T_Nu_isPrime B_Nu_isPrime_11
  have hsm : ¬ x < 2 → x ≤ 97 → ∃ p : Nat, p ≤ 97 ∧ 2 ≤ p ∧ x = nI p := by
    intro a b
    have a' : ¬ x < 0 := fun q => a (Int32.lt_trans q (by decide))
    obtain ⟨j, hj, e⟩ := nI_of2 (M := 97) (n := 97) rfl a' b
    refine ⟨j, hj, ?_, e⟩
    rw [e, show (2 : Int32) = nI 2 from rfl, nI_ltI (by omega) (by omega)] at a
    omega
  refine ⟨fun q => ⟨rfl, h0 ?_⟩, fun q => ⟨fun z => ?_, fun z => ⟨rfl, h0 ?_⟩⟩⟩
  · intro p hp hp2
    rw [hp, show (2 : Int32) = nI 2 from rfl, nI_ltI (by omega) (by omega)] at q
    simp [prm]; omega
  · obtain ⟨p, hp, hp2, rfl⟩ := hsm q z
    have key : ∀ r i, i + r = 98 → 2 ≤ i → (∀ k, 2 ≤ k → k < i → k * k ≤ p → p % k ≠ 0) → L_Nu_isPrime_15 post (r + 1) (nI p) (nI i) M := by
      intro r
      induction r with
      | zero =>
        intro i hi h2 hk
        have e : i = 98 := by omega
        subst e
        show B_Nu_isPrime_15 _ post (nI p) (nI 98) M
        unfold B_Nu_isPrime_15
        simp (disch := omega) only [lit_nI, nI_add, pk_mul, pk_sub, pk_div, rem_n, nI_clamp, nI_leI, nI_ltI, nI_eq, in_nI]
        refine ⟨fun _ => ⟨rfl, h1 p rfl hp ?_⟩, fun z => absurd (show p < 98 * 98 by omega) z⟩
        simp only [prm, Bool.and_eq_true, decide_eq_true_eq, List.all_eq_true, List.mem_range, Bool.or_eq_true]
        refine ⟨⟨hp2, hp⟩, fun k hk98 => ?_⟩
        rcases Nat.lt_or_ge k 2 with u | u
        · exact Or.inl (Or.inl u)
        · rcases Nat.lt_or_ge p (k * k) with v | v
          · exact Or.inl (Or.inr v)
          · exact Or.inr (hk k u hk98 v)
      | succ r ih =>
        intro i hi h2 hk
        show B_Nu_isPrime_15 (L_Nu_isPrime_15 post (r + 1)) post (nI p) (nI i) M
        unfold B_Nu_isPrime_15
        have hi97 : i ≤ 97 := by omega
        have hii : i * i ≤ 97 * 97 := Nat.mul_le_mul hi97 hi97
        have hmod := Nat.mod_lt p (show 0 < i by omega)
        simp (disch := omega) only [lit_nI, nI_add, pk_mul, pk_sub, pk_div, rem_n, nI_clamp, nI_leI, nI_ltI, nI_eq, in_nI]
        refine ⟨fun z => ⟨rfl, h1 p rfl hp ?_⟩, fun z => ⟨by omega, fun w => ?_, fun w => ⟨rfl, h0 ?_⟩⟩⟩
        · simp only [prm, Bool.and_eq_true, decide_eq_true_eq, List.all_eq_true, List.mem_range, Bool.or_eq_true]
          refine ⟨⟨hp2, hp⟩, fun k hk98 => ?_⟩
          rcases Nat.lt_or_ge k 2 with u | u
          · exact Or.inl (Or.inl u)
          · rcases Nat.lt_or_ge p (k * k) with v | v
            · exact Or.inl (Or.inr v)
            · refine Or.inr (hk k u ?_ v)
              rcases Nat.lt_or_ge k i with c | c
              · exact c
              · have := Nat.mul_le_mul c c; omega
        · refine ih (i + 1) (by omega) (by omega) (fun k hk2 hki hkp => ?_)
          rcases Nat.lt_or_ge k i with c | c
          · exact hk k hk2 c hkp
          · have e : k = i := by omega
            rw [e]; exact w
        · intro p' hp' _
          rw [nI_eq (by omega) (by omega)] at hp'
          subst hp'
          cases c : prm p with
          | false => rfl
          | true =>
            simp only [prm, Bool.and_eq_true, decide_eq_true_eq, List.all_eq_true, List.mem_range, Bool.or_eq_true] at c
            have := c.2 i (by omega)
            omega
    exact ⟨_, key 96 2 (by omega) (by omega) (fun k a b => by omega)⟩
  · intro p hp hp2
    exact absurd (by rw [hp, show (97 : Int32) = nI 97 from rfl, nI_leI (by omega) (by omega)]; exact hp2) z
theorem prm_lt {p : Nat} (h : prm p = true) : 2 ≤ p ∧ p ≤ 97 := by
  simp only [prm, Bool.and_eq_true, decide_eq_true_eq] at h
  exact h.1
theorem prm_mod : ∀ p, p < 98 → prm p = true → ∀ a, a < p → 2 ≤ a → p % a ≠ 0 := by decide +kernel
theorem inv_step {p a r v : Nat} (ha : 0 < a) (hr : r = p % a) (hv : r * v % p = 1) (hp : 1 < p) : a * ((p - p / a) * v % p) % p = 1 := by
  have h1 := Nat.div_add_mod p a
  have h2 : p / a ≤ p := Nat.div_le_self p a
  rw [Nat.mul_mod_mod]
  have h3 : a * ((p - p / a) * v) = (a * (p - p / a)) * v := (Nat.mul_assoc _ _ _).symm
  have h4 : a * (p - p / a) + p = r + a * p := by
    rw [Nat.mul_sub]
    have h5 : a * (p / a) ≤ a * p := Nat.mul_le_mul_left a h2
    omega
  have h6 : (a * (p - p / a)) * v % p = r * v % p := by
    have e : (a * (p - p / a)) * v + p * v = r * v + p * (a * v) := by
      rw [← Nat.add_mul, h4, Nat.add_mul]
      congr 1
      rw [Nat.mul_comm a p, Nat.mul_assoc]
    have := congrArg (· % p) e
    simp only [Nat.add_mul_mod_self_left] at this
    exact this
  rw [h3, h6]; exact hv
/-- each has an inverse -/
theorem inv_ex {p : Nat} (h : prm p = true) : ∀ a, 1 ≤ a → a < p → ∃ v, v < p ∧ a * v % p = 1 := by
  have hp := prm_lt h
  intro a
  induction a using Nat.strongRecOn with
  | _ a ih =>
    intro h1 h2
    by_cases e : a = 1
    · subst e; exact ⟨1, by omega, by rw [Nat.mod_eq_of_lt]; omega⟩
    · have hm := prm_mod p (by omega) h a h2 (by omega)
      have hlt := Nat.mod_lt p (show 0 < a by omega)
      obtain ⟨v, hv, hv2⟩ := ih (p % a) hlt (by omega) (by omega)
      exact ⟨(p - p / a) * v % p, Nat.mod_lt _ (by omega), inv_step (by omega) rfl hv2 (by omega)⟩
theorem prm_field {p : Nat} [NeZero p] (h : prm p = true) : isField p := by
  have hp := prm_lt h
  refine ⟨?_, fun a ha => ?_⟩
  · intro e
    have h1 : (1 : Fin p).val = 1 := Nat.mod_eq_of_lt (show 1 < p by omega)
    have h0 : (0 : Fin p).val = 0 := Nat.zero_mod p
    rw [e, h0] at h1
    cases h1
  · have ha' : a.val ≠ 0 := fun e => ha (by apply Fin.ext; rw [e]; simp)
    obtain ⟨v, hv, hv2⟩ := inv_ex h a.val (by omega) a.isLt
    refine ⟨⟨v, hv⟩, ?_⟩
    apply Fin.ext
    have h1 : (1 : Fin p).val = 1 := Nat.mod_eq_of_lt (show 1 < p by omega)
    rw [Fin.val_mul, h1]; exact hv2
def NuOK (M : Mem) : Prop := isK M 6 2 ∧ gR M 6 0 = some 7 ∧ arr M 7 8 97
/-- what Numbers holds: the prime, the inverses -/
def NuSt (p : Nat) (I : Nat → Nat → Int32) : Prop := I 6 1 = nI p ∧ ∀ a, 1 ≤ a → a < p → ∃ v, v < p ∧ I 7 a = nI v ∧ a * v % p = 1
theorem sp_setPrime {M : Mem} {I : Nat → Nat → Int32} {p : Nat} {post : Mem → Prop} (hM : NuOK M) (hp : prm p = true) (h : ∀ I', NuSt p I' → (∀ c, c ≠ 6 → c ≠ 7 → I' c = I c) → post (wI M I')) : T_Nu_setPrime 6 (nI p) (wI M I) post := by
  obtain ⟨m1, m2, m3⟩ := hM
  have hpl := prm_lt hp
  unfold T_Nu_setPrime
  refine ⟨m1, m1, 7, m2, arr_A (a := 1) m3 (by omega) (by omega), ?_⟩
  rw [sI_wI, sI_wI]
  have key : ∀ r i f, i + r = p → 2 ≤ i → (∀ a, 1 ≤ a → a < i → ∃ v, v < p ∧ f a = nI v ∧ a * v % p = 1) → L_Nu_setPrime_14 post (r + 1) 6 (nI p) (nI i) (wI M (sAll (u2 I 6 1 (nI p)) 7 f)) := by
    intro r
    induction r with
    | zero =>
      intro i f hi h2 hf
      have e : i = p := by omega
      subst e
      show B_Nu_setPrime_14 _ post 6 (nI i) (nI i) _
      unfold B_Nu_setPrime_14
      refine ⟨fun _ => h _ ⟨?_, fun a ha1 ha2 => ?_⟩ (fun c h6 h7 => ?_), fun q => absurd (by rw [nI_leI (by omega) (by omega)]; exact Nat.le_refl _) q⟩
      · rw [sAll_ne (by decide), u2_eq]
      · rw [sAll_eq]; exact hf a ha1 ha2
      · rw [sAll_ne h7]; unfold u2; rw [if_neg h6]
    | succ r ih =>
      intro i f hi h2 hf
      show B_Nu_setPrime_14 (L_Nu_setPrime_14 post (r + 1)) post 6 (nI p) (nI i) _
      unfold B_Nu_setPrime_14
      have hmod := Nat.mod_lt p (show 0 < i by omega)
      have hdiv := Nat.div_le_self p i
      have hm0 := prm_mod p (by omega) hp i (by omega) h2
      obtain ⟨v, hv1, hv2, hv3⟩ := hf (p % i) (by omega) hmod
      have hbig : (p - p / i) * v ≤ 97 * 97 := Nat.mul_le_mul (Nat.le_trans (Nat.sub_le _ _) hpl.2) (by omega)
      simp only [gI_wI, gR_wI, isK_wI, isA_wI, sI_wI]
      simp (disch := omega) only [lit_nI, nI_add, pk_mul, pk_sub, pk_div, rem_n, nI_clamp, nI_leI, nI_ltI, nI_eq, in_nI]
      refine ⟨fun q => absurd q (by omega), fun _ => ⟨m1, 7, m2, by omega, m1, 7, m2, by omega, arr_A m3 (by omega) (by omega), by omega, arr_A m3 (by omega) (by omega), ?_⟩⟩
      rw [u2_sAll, sAll_eq, hv2]
      have hmod2 := Nat.mod_lt ((p - p / i) * v) (show 0 < p by omega)
      simp (disch := omega) only [lit_nI, nI_add, pk_mul, pk_sub, pk_div, rem_n, nI_clamp, nI_leI, nI_ltI, nI_eq, in_nI]
      refine ih (i + 1) _ (by omega) (by omega) (fun a ha1 ha2 => ?_)
      by_cases e : a = i
      · subst e
        exact ⟨_, hmod2, upd_eq _ _ _, inv_step (by omega) rfl hv3 (by omega)⟩
      · rw [upd_ne e]; exact hf a ha1 (by omega)
  have := key (p - 2) 2 (upd (I 7) 1 1) (by omega) (by omega) (fun a ha1 ha2 => ⟨1, by omega, by rw [show a = 1 by omega, upd_eq]; rfl, by rw [show a = 1 by omega, Nat.mod_eq_of_lt]; omega⟩)
  exact ⟨_, this⟩
theorem sp_prime {M : Mem} {I : Nat → Nat → Int32} {p : Nat} {post : Int32 → Mem → Prop} (hM : NuOK M) (hS : NuSt p I) (h : post (nI p) (wI M I)) : T_Nu_prime 6 (wI M I) post := ⟨hM.1, by rw [gI_wI, hS.1]; exact h⟩
theorem sp_modulo {M : Mem} {I : Nat → Nat → Int32} {p : Nat} {x : Int32} {post : Int32 → Mem → Prop} (hM : NuOK M) (hS : NuSt p I) (hp : prm p = true) (h : post (nI (md p x)) (wI M I)) : T_Nu_modulo 6 x (wI M I) post := by
  have := prm_lt hp
  refine ⟨hM.1, ?_⟩
  rw [gI_wI, hS.1]
  exact sp_floorMod (by omega) (by omega) h
theorem sp_inverse {M : Mem} {I : Nat → Nat → Int32} {p a : Nat} {post : Int32 → Mem → Prop} (hM : NuOK M) (hS : NuSt p I) (hp : prm p = true) (ha : 1 ≤ a) (ha2 : a < p) (h : ∀ v, v < p → a * v % p = 1 → post (nI v) (wI M I)) : T_Nu_inverse 6 (nI a) (wI M I) post := by
  have := prm_lt hp
  obtain ⟨v, h1, h2, h3⟩ := hS.2 a ha ha2
  refine ⟨hM.1, 7, hM.2.1, arr_A hM.2.2 (by omega) (by omega), ?_⟩
  rw [gI_wI, nI_clamp (by omega), h2]
  exact h v h1 h3
