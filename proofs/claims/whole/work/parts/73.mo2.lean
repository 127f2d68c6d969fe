/-! the reference: how many, degree, even, primes -/
theorem ct_map_le {P : Nat → Bool} {N' : Nat} (f : Nat → Nat) : ∀ (N : Nat) (Q : Nat → Bool), (∀ i, i < N → P i = true → f i < N' ∧ Q (f i) = true) → (∀ i j, i < N → j < N → P i = true → P j = true → f i = f j → i = j) → ct P N ≤ ct Q N' := by
  intro N
  induction N with
  | zero => intro Q _ _; exact Nat.zero_le _
  | succ N ih =>
    intro Q h1 h2
    cases hP : P N with
    | false =>
      rw [ct_succ_f hP]
      exact ih Q (fun i hi => h1 i (by omega)) (fun i j hi hj => h2 i j (by omega) (by omega))
    | true =>
      obtain ⟨g1, g2⟩ := h1 N (by omega) hP
      have e : ct Q N' = ct (addP (fun j => Q j && !(j == f N)) (f N)) N' := ct_cong (fun i hi => by
        unfold addP
        by_cases q : i = f N
        · subst q; simp [g2]
        · have z : (i == f N) = false := beq_false_of_ne q
          rw [z]; simp; exact fun _ => q)
      rw [ct_succ_t hP, e, ct_add (by simp) g1]
      refine Nat.succ_le_succ (ih _ (fun i hi hp => ?_) (fun i j hi hj => h2 i j (by omega) (by omega)))
      obtain ⟨z1, z2⟩ := h1 i (by omega) hp
      refine ⟨z1, ?_⟩
      have : f i ≠ f N := fun e => by have := h2 i N (by omega) (by omega) hp hP e; omega
      simp [z2, this]
theorem ct_bij {P Q : Nat → Bool} {N N' : Nat} (f g : Nat → Nat) (hf : ∀ i, i < N → P i = true → f i < N' ∧ Q (f i) = true ∧ g (f i) = i) (hg : ∀ j, j < N' → Q j = true → g j < N ∧ P (g j) = true ∧ f (g j) = j) : ct P N = ct Q N' := by
  apply Nat.le_antisymm
  · exact ct_map_le f N Q (fun i hi hp => ⟨(hf i hi hp).1, (hf i hi hp).2.1⟩) (fun i j hi hj pi pj e => by rw [← (hf i hi pi).2.2, ← (hf j hj pj).2.2, e])
  · exact ct_map_le g N' P (fun i hi hp => ⟨(hg i hi hp).1, (hg i hi hp).2.1⟩) (fun i j hi hj pi pj e => by rw [← (hg i hi pi).2.2, ← (hg j hj pj).2.2, e])
theorem cf_ne {p : Nat} [NeZero p] {F : Nat → Mo2 → Fin p} {m : Nat} (h : cf F m ≠ 0) : mdeg m ≤ 10 ∧ F (mdeg m) (mmo m) ≠ 0 := by
  unfold cf at h
  by_cases q : mdeg m ≤ 10
  · rw [if_pos q] at h; exact ⟨q, h⟩
  · rw [if_neg q] at h; exact absurd rfl h
theorem mct_eq {p : Nat} [NeZero p] (F : Nat → Mo2 → Fin p) : ct (fun m => decide (cf F m ≠ 0)) 1331 = szP F := by
  unfold szP
  refine ct_bij (fun m => fr (mdeg m) + pl (mmo m)) (fun j => cdm (dj j).1 (dj j).2) (fun m hm h => ?_) (fun j hj h => ?_)
  · obtain ⟨h1, h2⟩ := cf_ne (of_decide_eq_true h)
    have h3 := mmo_ok hm
    have h4 := pl_deg h1 h3.1
    have h5 := fr_le (mdeg m) (by omega)
    have h6 := dj_fr h1 h3.1
    refine ⟨by omega, ?_, ?_⟩
    · simp only [h6]; exact decide_eq_true h2
    · simp only [h6]; exact h3.2
  · obtain ⟨h1, h2, h3⟩ := dj_ok j hj
    have h4 := cdm_ok (d := (dj j).1) (by omega) h2
    refine ⟨h4.1, ?_, ?_⟩
    · show decide (cf F (cdm (dj j).1 (dj j).2) ≠ 0) = true
      rw [cf_at (by omega) h2]; exact h
    · show fr (mdeg (cdm (dj j).1 (dj j).2)) + pl (mmo (cdm (dj j).1 (dj j).2)) = j
      rw [h4.2.1, h4.2.2]; exact h3
theorem szP_cut {p : Nat} [NeZero p] (F : Nat → Mo2 → Fin p) {d : Nat} (hd : d ≤ 10) : szP F = ct (fun j => decide (F (dj j).1 (dj j).2 ≠ 0)) (fr d) + szD F d + ct (fun k => decide (F (dj (fr (d + 1) + k)).1 (dj (fr (d + 1) + k)).2 ≠ 0)) (286 - fr (d + 1)) := by
  have h := fr_le d (by omega)
  have h66 := fr_66 d (by omega)
  have e : szP F = ct (fun j => decide (F (dj j).1 (dj j).2 ≠ 0)) (fr d + ((fr (d + 1) - fr d) + (286 - fr (d + 1)))) := by
    unfold szP; congr 1; omega
  rw [e, ct_split, ct_split, Nat.add_assoc]
  congr 2
  · unfold szD
    refine ct_cong (fun k hk => ?_)
    have hu := unp_ok k (by omega)
    have hdg := unp_deg d (by omega) k (by omega) (by omega)
    have := dj_fr hd hdg
    rw [hu.1] at this
    rw [this]
  · refine ct_cong (fun k hk => ?_)
    rw [show fr d + (fr (d + 1) - fr d + k) = fr (d + 1) + k by omega]
theorem evP_iff {p : Nat} [NeZero p] {n : Nat} {F : Nat → Mo2 → Fin p} (hF : ∀ d, d ≤ 10 → hom n d (F d)) : evP F ↔ ∀ e, e ≤ 10 → e + 1 ≠ dg1 F → ∀ m, F e m = 0 := by
  have hle := dg1_le F
  constructor
  · rintro (h | h) e he hne m
    · exact D_hi hF he (by omega) m
    · by_cases hz : dg1 F = 0
      · exact D_hi hF he (by omega) m
      · by_cases q : F e m = 0
        · exact q
        · exfalso
          have hok := hF e he m q
          obtain ⟨d, hd⟩ : ∃ d, dg1 F = d + 1 := ⟨dg1 F - 1, by omega⟩
          rw [hd, Nat.add_sub_cancel] at h
          have hc := szP_cut F (show d ≤ 10 by omega)
          have h0 : ct (fun j => decide (F (dj j).1 (dj j).2 ≠ 0)) (fr d) = 0 := by omega
          have h1 : ct (fun k => decide (F (dj (fr (d + 1) + k)).1 (dj (fr (d + 1) + k)).2 ≠ 0)) (286 - fr (d + 1)) = 0 := by omega
          have hj := dj_fr he hok.1
          have hp := pl_deg he hok.1
          rcases Nat.lt_or_gt_of_ne (show e ≠ d by omega) with z | z
          · have hm := fr_mono d (by omega) e z
            have := ct_zero h0 (show fr e + pl m < fr d by omega)
            simp only [hj] at this
            exact (of_decide_eq_false this) q
          · have hm := fr_mono e (by omega) d z
            have h5 := fr_le e (by omega)
            have := ct_zero h1 (show fr e + pl m - fr (d + 1) < 286 - fr (d + 1) by omega)
            simp only [show fr (d + 1) + (fr e + pl m - fr (d + 1)) = fr e + pl m by omega, hj] at this
            exact (of_decide_eq_false this) q
  · intro h
    by_cases hz : dg1 F = 0
    · exact Or.inl hz
    · obtain ⟨d, hd⟩ : ∃ d, dg1 F = d + 1 := ⟨dg1 F - 1, by omega⟩
      right
      rw [hd, Nat.add_sub_cancel]
      have hfr := fr_le d (by omega)
      have hz2 : ∀ j, j < 286 → (dj j).1 ≠ d → decide (F (dj j).1 (dj j).2 ≠ 0) = false := fun j hj hne => by
        have := dj_ok j hj
        exact decide_eq_false (fun w => w (h _ (by omega) (by omega) _))
      rw [szP_cut F (show d ≤ 10 by omega), ct_none (n := fr d) (fun j hj => hz2 j (by omega) ?_), ct_none (n := 286 - fr (d + 1)) (fun j hj => hz2 _ (by omega) ?_)]
      · omega
      · intro e
        have := dj_ok (fr (d + 1) + j) (by omega)
        rw [e] at this
        have := pl_deg (d := d) (m := (dj (fr (d + 1) + j)).2) (by omega) this.2.1
        omega
      · intro e
        have := dj_ok j (by omega)
        rw [e] at this
        omega
theorem dg1_is {p : Nat} [NeZero p] {n : Nat} {F : Nat → Mo2 → Fin p} (hF : ∀ d, d ≤ 10 → hom n d (F d)) {d : Nat} (hd : d ≤ 10) (h1 : ∃ m, F d m ≠ 0) (h2 : ∀ e, e ≤ 10 → d < e → ∀ m, F e m = 0) : dg1 F = d + 1 := by
  have hle := dg1_le F
  obtain ⟨m, hm⟩ := h1
  have h3 : d < dg1 F := by
    rcases Nat.lt_or_ge d (dg1 F) with q | q
    · exact q
    · exact absurd (D_hi hF hd q m) hm
  obtain ⟨e, he⟩ : ∃ e, dg1 F = e + 1 := ⟨dg1 F - 1, by omega⟩
  obtain ⟨k, hk⟩ := D_top he
  rcases Nat.lt_or_ge d e with q | q
  · exact absurd (h2 e (by omega) q k) hk
  · omega
theorem dg1_one {p : Nat} [NeZero p] {n d : Nat} {g : Mo2 → Fin p} (hd : d ≤ 10) (hg : hom n d g) (hne : ∃ m, g m ≠ 0) : dg1 (oneP d g) = d + 1 :=
  dg1_is (oneP_hom hg) hd (by obtain ⟨m, hm⟩ := hne; exact ⟨m, by unfold oneP; rw [if_pos rfl]; exact hm⟩) (fun e _ hlt m => by unfold oneP; rw [if_neg (by omega)])
/-- the degree and 1, of the products below m -/
def md1 {p : Nat} [NeZero p] (F : Nat → Mo2 → Fin p) : Nat → Nat
  | 0 => 0
  | m + 1 => if cf F m ≠ 0 then max (md1 F m) (mdeg m + 1) else md1 F m
theorem md1_le {p : Nat} [NeZero p] (F : Nat → Mo2 → Fin p) : ∀ m, md1 F m ≤ 11 := by
  intro m
  induction m with
  | zero => exact Nat.zero_le _
  | succ m ih =>
    unfold md1
    by_cases q : cf F m ≠ 0
    · rw [if_pos q]; have := (cf_ne q).1; omega
    · rw [if_neg q]; exact ih
theorem md1_ge {p : Nat} [NeZero p] (F : Nat → Mo2 → Fin p) {k : Nat} (hk : cf F k ≠ 0) : ∀ m, k < m → mdeg k + 1 ≤ md1 F m := by
  intro m
  induction m with
  | zero => intro h; omega
  | succ m ih =>
    intro h
    unfold md1
    by_cases e : k = m
    · subst e; rw [if_pos hk]; omega
    · have := ih (by omega)
      split <;> omega
theorem md1_all {p : Nat} [NeZero p] {n : Nat} {F : Nat → Mo2 → Fin p} (hF : ∀ d, d ≤ 10 → hom n d (F d)) : md1 F 1331 = dg1 F := by
  apply Nat.le_antisymm
  · have : ∀ m, md1 F m ≤ dg1 F := by
      intro m
      induction m with
      | zero => exact Nat.zero_le _
      | succ m ih =>
        unfold md1
        by_cases q : cf F m ≠ 0
        · rw [if_pos q]
          obtain ⟨h1, h2⟩ := cf_ne q
          have : mdeg m < dg1 F := by
            rcases Nat.lt_or_ge (mdeg m) (dg1 F) with z | z
            · exact z
            · exact absurd (D_hi hF h1 z _) h2
          omega
        · rw [if_neg q]; exact ih
    exact this 1331
  · have hle := dg1_le F
    by_cases hz : dg1 F = 0
    · omega
    · obtain ⟨d, hd⟩ : ∃ d, dg1 F = d + 1 := ⟨dg1 F - 1, by omega⟩
      obtain ⟨m, hm⟩ := D_top hd
      have hok := hF d (by omega) m hm
      have h1 := cdm_ok (show d ≤ 10 by omega) hok.1
      have := md1_ge F (k := cdm d m) (by rw [cf_at (by omega) hok.1]; exact hm) 1331 h1.1
      omega
section MO2
variable {M : Mem} {I : Nat → Nat → Int32} {n ord p : Nat}
theorem sp_Moproducts [NeZero p] {k : Nat} {F : Nat → Mo2 → Fin p} {post : Int32 → Mem → Prop} (hM : MdOK M) (hk : k ≤ 20) (hp : p ≤ 97) (hR : MRep (I 200) k F) (h : post (nI (szP F)) (wI M I)) : T_Mo_products 199 (nI k) (wI M I) post := by
  rw [← mct_eq] at h
  refine pk_loop (σ := Unit) (fun N i _ => L_Mo_products_4 post N 199 (nI k) (nI (ct (fun m => decide (cf F m ≠ 0)) i)) (nI i) (wI M I)) (fun i _ => True) 1331 0 () (by omega) trivial ?_ ?_
  · intro N _ _
    show B_Mo_products_4 (L_Mo_products_4 post N) post 199 _ _ _ _
    exact ⟨fun _ => h, fun q => absurd (by decide) q⟩
  · intro N i _ hi _ ih
    have hih := ih () trivial
    show B_Mo_products_4 (L_Mo_products_4 post N) post 199 _ _ _ _
    unfold B_Mo_products_4 B_Mo_products_26
    refine ⟨fun q => ?_, fun _ => ⟨hM.1, sp_Moget hM hk hi ⟨fun q => ?_, fun q => ?_⟩⟩⟩
    · rw [show (1331 : Int32) = nI 1331 from rfl, nI_leI (by omega) (by omega)] at q; omega
    · rw [hR i hi, val_ne hp] at q
      rw [ct_succ_f (decide_eq_false (by simp [q]))] at hih
      rw [nI_1, show (0 : Int32) = nI 0 from rfl, nI_add, Nat.add_zero]; exact hih
    · rw [hR i hi, val_ne hp] at q
      rw [ct_succ_t (decide_eq_true q)] at hih
      rw [nI_1, show (1 : Int32) = nI 1 from rfl, nI_add]; exact hih
theorem sp_Modegree [NeZero p] {k : Nat} {F : Nat → Mo2 → Fin p} {post : Int32 → Mem → Prop} (hM : MdOK M) (hk : k ≤ 20) (hp : p ≤ 97) (hF : ∀ d, d ≤ 10 → hom n d (F d)) (hR : MRep (I 200) k F) (h : post (nI (dg1 F) - 1) (wI M I)) : T_Mo_degree 199 (nI k) (wI M I) post := by
  rw [← md1_all hF] at h
  refine pk_loop (σ := Unit) (fun N i _ => L_Mo_degree_4 post N 199 (nI k) (nI (md1 F i) - 1) (nI i) (wI M I)) (fun i _ => True) 1331 0 () (by omega) trivial ?_ ?_
  · intro N _ _
    show B_Mo_degree_4 (L_Mo_degree_4 post N) post 199 _ _ _ _
    exact ⟨fun _ => h, fun q => absurd (by decide) q⟩
  · intro N i _ hi _ ih
    have hih := ih () trivial
    have h11 := md1_le F i
    show B_Mo_degree_4 (L_Mo_degree_4 post N) post 199 _ _ _ _
    unfold B_Mo_degree_4 B_Mo_degree_33
    refine ⟨fun q => ?_, fun _ => ⟨hM.1, sp_Moget hM hk hi ⟨fun q => ?_, fun q => ?_⟩⟩⟩
    · rw [show (1331 : Int32) = nI 1331 from rfl, nI_leI (by omega) (by omega)] at q; omega
    · rw [hR i hi, val_ne hp] at q
      have e : md1 F (i + 1) = md1 F i := by
        show (if cf F i ≠ 0 then _ else _) = _
        rw [if_neg (fun w => w q)]
      rw [e] at hih
      rw [nI_1]; exact hih
    · rw [hR i hi, val_ne hp] at q
      obtain ⟨q1, q2⟩ := cf_ne q
      have e : md1 F (i + 1) = max (md1 F i) (mdeg i + 1) := by
        show (if cf F i ≠ 0 then _ else _) = _
        rw [if_pos q]
      rw [e] at hih
      have hcmp : nI (mdeg i) ≤ nI (md1 F i) - 1 ↔ mdeg i + 1 ≤ md1 F i := by
        rcases Nat.eq_zero_or_pos (md1 F i) with z | z
        · rw [z]
          have : ¬ nI (mdeg i) ≤ nI 0 - 1 := by
            rw [Int32.le_iff_toInt_le, nI_toInt (by omega), show (nI 0 - 1 : Int32).toInt = -1 by decide]; omega
          constructor
          · intro w; exact absurd w this
          · intro w; omega
        · obtain ⟨t, ht⟩ : ∃ t, md1 F i = t + 1 := ⟨md1 F i - 1, by omega⟩
          rw [ht, nI_pred, nI_leI (by omega) (by omega)]; omega
      rw [nI_1]
      refine sp_ModegreeOf hi ⟨fun z => ?_, fun z => sp_ModegreeOf hi ?_⟩
      · rw [hcmp] at z
        rw [show max (md1 F i) (mdeg i + 1) = md1 F i by omega] at hih
        exact hih
      · rw [hcmp] at z
        rw [show max (md1 F i) (mdeg i + 1) = mdeg i + 1 by omega, nI_pred] at hih
        exact hih
theorem sp_MoisEven [NeZero p] {k : Nat} {F : Nat → Mo2 → Fin p} {post : Int32 → Mem → Prop} (hM : MdOK M) (hk : k ≤ 20) (hp : p ≤ 97) (hF : ∀ d, d ≤ 10 → hom n d (F d)) (hR : MRep (I 200) k F) (h1 : evP F → post 1 (wI M I)) (h0 : ¬ evP F → post 0 (wI M I)) : T_Mo_isEven 199 (nI k) (wI M I) post := by
  have hle := dg1_le F
  rw [evP_iff hF] at h1 h0
  refine ⟨hM.1, sp_Modegree hM hk hp hF hR ?_⟩
  refine pk_loop (σ := Unit) (fun N i _ => L_Mo_isEven_8 post N 199 (nI k) (nI (dg1 F) - 1) (nI i) (wI M I)) (fun i _ => ∀ m, m < i → cf F m ≠ 0 → mdeg m + 1 = dg1 F) 1331 0 () (by omega) (fun m hm => absurd hm (Nat.not_lt_zero m)) ?_ ?_
  · intro N _ hI
    show B_Mo_isEven_8 (L_Mo_isEven_8 post N) post 199 _ _ _ _
    refine ⟨fun _ => ⟨rfl, h1 (fun e he hne m => ?_)⟩, fun q => absurd (by decide) q⟩
    by_cases q : F e m = 0
    · exact q
    · have hok := hF e he m q
      have hc := cdm_ok he hok.1
      have := hI (cdm e m) hc.1 (by rw [cf_at he hok.1]; exact q)
      rw [hc.2.1] at this
      exact absurd this hne
  · intro N i _ hi hI ih
    show B_Mo_isEven_8 (L_Mo_isEven_8 post N) post 199 _ _ _ _
    unfold B_Mo_isEven_8 B_Mo_isEven_34
    refine ⟨fun q => ?_, fun _ => ⟨hM.1, sp_Moget hM hk hi ⟨fun q => ?_, fun q => ?_⟩⟩⟩
    · rw [show (1331 : Int32) = nI 1331 from rfl, nI_leI (by omega) (by omega)] at q; omega
    · rw [hR i hi, val_ne hp] at q
      rw [nI_1]
      refine ih () (fun m hm hc => ?_)
      by_cases e : m = i
      · subst e; exact absurd q hc
      · exact hI m (by omega) hc
    · rw [hR i hi, val_ne hp] at q
      obtain ⟨q1, q2⟩ := cf_ne q
      have hcmp : nI (mdeg i) = nI (dg1 F) - 1 ↔ mdeg i + 1 = dg1 F := by
        rcases Nat.eq_zero_or_pos (dg1 F) with z | z
        · exact absurd (D_hi hF q1 (by omega) _) q2
        · obtain ⟨t, ht⟩ : ∃ t, dg1 F = t + 1 := ⟨dg1 F - 1, by omega⟩
          rw [ht, nI_pred, nI_eq (by omega) (by omega)]; omega
      rw [nI_1]
      refine sp_ModegreeOf hi ⟨fun z => ih () (fun m hm hc => ?_), fun z => ⟨rfl, h0 (fun w => ?_)⟩⟩
      · by_cases e : m = i
        · subst e; exact hcmp.mp z
        · exact hI m (by omega) hc
      · exact q2 (w (mdeg i) q1 (fun e => z (hcmp.mpr e)) _)
theorem sp_MoisPrime {q : Nat} {post : Int32 → Mem → Prop} (hq : 2 ≤ q ∧ q ≤ 97) (h1 : prm q = true → post 1 M) (h0 : prm q = false → post 0 M) : T_Mo_isPrime (nI q) M post := by
  have key : ∀ r i, i + r = 98 → 2 ≤ i → (∀ k, 2 ≤ k → k < i → k * k ≤ q → q % k ≠ 0) → L_Mo_isPrime_2 post (r + 1) (nI q) (nI i) M := by
    have fin : ∀ i, i ≤ 98 → q < i * i → (∀ k, 2 ≤ k → k < i → k * k ≤ q → q % k ≠ 0) → prm q = true := by
      intro i hi hlt hk
      simp only [prm, Bool.and_eq_true, decide_eq_true_eq, List.all_eq_true, List.mem_range, Bool.or_eq_true]
      refine ⟨hq, fun k hk98 => ?_⟩
      rcases Nat.lt_or_ge k 2 with u | u
      · exact Or.inl (Or.inl u)
      · rcases Nat.lt_or_ge q (k * k) with v | v
        · exact Or.inl (Or.inr v)
        · refine Or.inr (hk k u ?_ v)
          rcases Nat.lt_or_ge k i with w | w
          · exact w
          · have := Nat.mul_le_mul w w; omega
    intro r
    induction r with
    | zero =>
      intro i hi h2 hk
      have e : i = 98 := by omega
      subst e
      show B_Mo_isPrime_2 _ post (nI q) (nI 98) M
      unfold B_Mo_isPrime_2 B_Mo_isPrime_33
      rw [pk_mul, nI_ltI (by omega) (by omega)]
      refine ⟨fun z => ⟨fun w => ?_, fun _ => ⟨rfl, h1 (fin 98 (by omega) z hk)⟩⟩, fun z => absurd (show q < 98 * 98 by omega) z⟩
      rw [show (1 : Int32) = nI 1 from rfl, nI_leI (by omega) (by omega)] at w; omega
    | succ r ih =>
      intro i hi h2 hk
      have hii : i * i ≤ 98 * 98 := Nat.mul_le_mul (by omega) (by omega)
      show B_Mo_isPrime_2 (L_Mo_isPrime_2 post (r + 1)) post (nI q) (nI i) M
      unfold B_Mo_isPrime_2 B_Mo_isPrime_33
      rw [pk_mul, nI_ltI (by omega) (by omega)]
      refine ⟨fun z => ⟨fun w => ?_, fun _ => ⟨rfl, h1 (fin i (by omega) z hk)⟩⟩, fun z => ⟨fun w => ?_, fun w => ?_, fun w => ⟨rfl, h0 ?_⟩⟩⟩
      · rw [show (1 : Int32) = nI 1 from rfl, nI_leI (by omega) (by omega)] at w; omega
      · rw [show (0 : Int32) = nI 0 from rfl, nI_eq (by omega) (by omega)] at w; omega
      · rw [pk_rem (by omega) (by omega) (by omega), show (0 : Int32) = nI 0 from rfl, nI_eq (by have := Nat.mod_lt q (show 0 < i by omega); omega) (by omega)] at w
        rw [nI_1]
        refine ih (i + 1) (by omega) (by omega) (fun k k1 k2 k3 => ?_)
        by_cases e : k = i
        · subst e; exact w
        · exact hk k k1 (by omega) k3
      · rw [pk_rem (by omega) (by omega) (by omega), show (0 : Int32) = nI 0 from rfl, nI_eq (by have := Nat.mod_lt q (show 0 < i by omega); omega) (by omega)] at w
        cases hpr : prm q with
        | false => rfl
        | true =>
          exfalso
          refine prm_mod q (by omega) hpr i ?_ h2 w
          rcases Nat.lt_or_ge i q with v | v
          · exact v
          · have := Nat.mul_le_mul h2 v
            have := Nat.mul_le_mul (show i ≥ 2 by omega) (Nat.le_refl i)
            omega
  exact ⟨_, key 96 2 (by omega) (by omega) (fun k k1 k2 => by omega)⟩
end MO2
