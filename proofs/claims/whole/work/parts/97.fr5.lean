section FR5
variable {p : Nat} {n ord d : Nat} {M : Mem} {I : Nat → Nat → Int32} {sw : Bool}
noncomputable def hN [NeZero p] (n ord : Nat) (G : Nat → (Mo2 → Fin p) → Prop) (d : Nat) : Nat := nM n ord d - vdm n ord G d
theorem vdm_zero [NeZero p] {G : Nat → (Mo2 → Fin p) → Prop} (h : ∀ e g, G e g → 1 ≤ e) : vdm n ord G 0 = 0 := by
  have hz : ∀ f, VP n G 0 f → ∀ m, f m = 0 := by
    refine Spn_le ⟨fun _ => rfl, fun u v c hu hv m => by simp only; rw [hu m, hv m]; grind⟩ ?_
    rintro s ⟨e, g, c, h1, h2, _⟩
    have := h e g h1
    omega
  unfold vdm dm
  have : ∀ i, i < nM n ord 0 → leadB (VV n ord 0 (VP n G 0)) i = (fun _ => false) i := fun i hi => by
    cases w : leadB (VV n ord 0 (VP n G 0)) i with
    | false => rfl
    | true =>
      obtain ⟨v, ⟨f, hf, rfl⟩, b, _⟩ := leadB_iff.mp w
      refine absurd ?_ b
      unfold vec
      rw [if_pos hi]; exact hz f hf _
  rw [ct_cong this, ct_0]
theorem nM_0 : ∀ n, n < 4 → ∀ o, o < 2 → nM n o 0 = 1 := by decide +kernel
theorem st_0 : ∀ n, n < 4 → stN n 0 = 1 ∧ stN n 1 = n ∧ (n = 2 → stN n 2 = 1) ∧ (n = 3 → stN n 2 = 3) ∧ (n = 3 → stN n 3 = 1) := by decide +kernel
/-- the class's second answer -/
noncomputable def scV [NeZero p] (n ord : Nat) (G : Nat → (Mo2 → Fin p) → Prop) (j : Nat) : Int32 := nI (hN n ord G j) - (if 1 ≤ j then nI n * nI (hN n ord G (j - 1)) else 0) + (if 2 ≤ j then nI (stN n 2) * nI (hN n ord G (j - 2)) else 0) - (if n = 3 ∧ 3 ≤ j then nI (hN n ord G (j - 3)) else 0)
theorem ch_step [NeZero p] {b r N i j c c' : Nat} {G : Nat → (Mo2 → Fin p) → Prop} {x4 s : Int32} {post : Int32 → Mem → Prop} (hB : BaOK M b) (hSt : BaSt n ord b G r I) (hj : j ≤ 10) (hr : j < r) (hn : n ≤ 3) (hi : i ≤ 5) (hq : (nI c * (nI n - nI i)) / (nI i + 1) = nI c') (h1 : (nI i - nI i / 2 * 2 = 0) → s = nI c) (h2 : ¬ (nI i - nI i / 2 * 2 = 0) → s = -nI c) (h3 : (n < i ∨ j < i) → post x4 (wI M I)) (h4 : i ≤ n → i ≤ j → L_HT_signedChains_9 post N b (nI n) (nI j) (x4 + s * nI (hN n ord G (j - i))) (nI c') (nI (i + 1)) (wI M I)) : L_HT_signedChains_9 post (N + 1) b (nI n) (nI j) x4 (nI c) (nI i) (wI M I) := by
  have kb := hB.2.1.1
  show B_HT_signedChains_9 (L_HT_signedChains_9 post N) post b _ _ _ _ _ _
  unfold B_HT_signedChains_9 B_HT_signedChains_70 B_HT_signedChains_38
  rw [nI_ltI (show n < 2147483648 by omega) (by omega), nI_ltI (show j < 2147483648 by omega) (by omega)]
  refine ⟨fun z => h3 (Or.inl z), fun z1 => ⟨fun z => h3 (Or.inr z), fun z2 => ⟨by decide, fun q => ⟨kb, ?_⟩, fun q => ⟨kb, ?_⟩⟩⟩⟩
  all_goals
    rw [pk_sub (show i ≤ j by omega), hq, nI_1 i]
    refine sp_standardCount hB hSt (by omega) ⟨?_, ?_⟩
    · rw [show (0 : Int32) = nI 0 from rfl, nI_eq (by omega) (by omega)]; omega
  · rw [← h2 q]; exact h4 (by omega) (by omega)
  · rw [← h1 q]; exact h4 (by omega) (by omega)
theorem sp_signedChains [NeZero p] {b r j : Nat} {G : Nat → (Mo2 → Fin p) → Prop} {post : Int32 → Mem → Prop} (hB : BaOK M b) (hSt : BaSt n ord b G r I) (hj : j ≤ 10) (hr : j < r) (hn : n = 2 ∨ n = 3) (h : post (scV n ord G j) (wI M I)) : T_HT_signedChains 0 b (nI n) (nI j) (wI M I) post := by
  have hs := st_0 n (by omega)
  unfold scV at h
  rcases hn with rfl | rfl
  · rw [hs.2.2.1 rfl] at h
    refine ⟨4, ?_⟩
    refine ch_step (c := 1) (i := 0) (c' := 2) (s := nI 1) hB hSt hj hr (by omega) (by omega) (by decide) (by decide) (by decide) (by omega) (fun _ _ => ?_)
    refine ch_step (c := 2) (i := 1) (c' := 1) (s := -nI 2) hB hSt hj hr (by omega) (by omega) (by decide) (by decide) (by decide) (fun z => ?_) (fun _ z1 => ?_)
    · rw [if_neg (by omega), if_neg (by omega), if_neg (by omega)] at h
      refine Eq.mp ?_ h
      congr 1
      rw [Nat.sub_zero, show nI 1 = 1 from rfl]; grind
    refine ch_step (c := 1) (i := 2) (c' := 0) (s := nI 1) hB hSt hj hr (by omega) (by omega) (by decide) (by decide) (by decide) (fun z => ?_) (fun _ z2 => ?_)
    · rw [if_pos z1, if_neg (by omega), if_neg (by omega)] at h
      refine Eq.mp ?_ h
      congr 1
      rw [Nat.sub_zero, show nI 1 = 1 from rfl]; grind
    refine ch_step (c := 0) (i := 3) (c' := 0) (s := -nI 0) hB hSt hj hr (by omega) (by omega) (by decide) (by decide) (by decide) (fun z => ?_) (fun z _ => absurd z (by omega))
    · rw [if_pos z1, if_pos z2, if_neg (by omega)] at h
      refine Eq.mp ?_ h
      congr 1
      rw [Nat.sub_zero, show nI 1 = 1 from rfl]; grind
  · rw [hs.2.2.2.1 rfl] at h
    refine ⟨5, ?_⟩
    refine ch_step (c := 1) (i := 0) (c' := 3) (s := nI 1) hB hSt hj hr (by omega) (by omega) (by decide) (by decide) (by decide) (by omega) (fun _ _ => ?_)
    refine ch_step (c := 3) (i := 1) (c' := 3) (s := -nI 3) hB hSt hj hr (by omega) (by omega) (by decide) (by decide) (by decide) (fun z => ?_) (fun _ z1 => ?_)
    · rw [if_neg (by omega), if_neg (by omega), if_neg (by omega)] at h
      refine Eq.mp ?_ h
      congr 1
      rw [Nat.sub_zero, show nI 1 = 1 from rfl]; grind
    refine ch_step (c := 3) (i := 2) (c' := 1) (s := nI 3) hB hSt hj hr (by omega) (by omega) (by decide) (by decide) (by decide) (fun z => ?_) (fun _ z2 => ?_)
    · rw [if_pos z1, if_neg (by omega), if_neg (by omega)] at h
      refine Eq.mp ?_ h
      congr 1
      rw [Nat.sub_zero, show nI 1 = 1 from rfl]; grind
    refine ch_step (c := 1) (i := 3) (c' := 0) (s := -nI 1) hB hSt hj hr (by omega) (by omega) (by decide) (by decide) (by decide) (fun z => ?_) (fun _ z3 => ?_)
    · rw [if_pos z1, if_pos z2, if_neg (by omega)] at h
      refine Eq.mp ?_ h
      congr 1
      rw [Nat.sub_zero, show nI 1 = 1 from rfl]; grind
    refine ch_step (c := 0) (i := 4) (c' := 0) (s := nI 0) hB hSt hj hr (by omega) (by omega) (by decide) (by decide) (by decide) (fun z => ?_) (fun z _ => absurd z (by omega))
    · rw [if_pos z1, if_pos z2, if_pos ⟨rfl, z3⟩] at h
      refine Eq.mp ?_ h
      congr 1
      rw [Nat.sub_zero, show nI 1 = 1 from rfl]; grind
theorem ndm_rel [NeZero p] {G : Nat → (Mo2 → Fin p) → Prop} {j r : Nat} (hF : isField p) (h1 : 1 ≤ n) (hn : n ≤ 3) (hG : ∀ e g, G e g → hom n e g) (hj : 1 ≤ j) (h : StR n ord G 2 j r) : n * hN n ord G (j - 1) = hN n ord G j + r + ndm n ord G j := by
  have a1 := StR2 hF h1 hn hG hj h
  have a2 := vdm_lt (n := n) (ord := ord) G j
  have a3 := vdm_lt (n := n) (ord := ord) G (j - 1)
  have a4 : vdm n ord (Gb j G) j ≤ vdm n ord G j := vdm_le_of (VP_mono (fun e _ g z => z.2))
  unfold hN ndm
  rw [Nat.mul_sub]
  have a5 := Nat.mul_le_mul_left n a3
  omega
theorem FrA0 [NeZero p] {G : Nat → (Mo2 → Fin p) → Prop} {j : Nat} {v : Int32} (hF : isField p) (h1 : 1 ≤ n) (hn : n ≤ 3) (ho : ord ≤ 1) (hG : ∀ e g, G e g → hom n e g) (hG1 : ∀ e g, G e g → 1 ≤ e) (h : FrA n ord G 0 j v) : v = if j = 0 then 1 else 0 := by
  have hs := st_0 n (by omega)
  rcases h with ⟨z, _⟩ | ⟨_, r1, r2, q1, q2, rfl⟩
  · omega
  have e1 : r1 = 0 := by
    rcases q1 with ⟨_, z⟩ | ⟨z, _⟩
    · exact z
    · omega
  unfold chN
  rw [if_pos ⟨by omega, by omega⟩, hs.1, Nat.one_mul, Nat.sub_zero, e1]
  by_cases z : j = 0
  · have e2 : r2 = 0 := by
      rcases q2 with ⟨_, y⟩ | ⟨_, _, y, _⟩
      · exact y
      · omega
    rw [if_pos z, e2, z, vdm_zero hG1, nM_0 n (by omega) ord (by omega)]; rfl
  · rw [if_neg z, StR1 hF h1 hn hG (by omega) q2]
    show nI _ - 0 - nI _ = 0
    grind
theorem FrA1 [NeZero p] {G : Nat → (Mo2 → Fin p) → Prop} {j : Nat} {v : Int32} (hF : isField p) (h1 : 1 ≤ n) (hn : n ≤ 3) (hG : ∀ e g, G e g → hom n e g) (hG1 : ∀ e g, G e g → 1 ≤ e) (h : FrA n ord G 1 j v) : v = nI (ndm n ord G j) := by
  have hs := st_0 n (by omega)
  rcases h with ⟨z, _⟩ | ⟨_, r1, r2, q1, q2, rfl⟩
  · omega
  unfold chN
  by_cases z : j = 0
  · have e1 : r1 = 0 := by
      rcases q1 with ⟨_, y⟩ | ⟨_, _, y, _⟩
      · exact y
      · omega
    have e2 : r2 = 0 := by
      rcases q2 with ⟨_, y⟩ | ⟨_, _, y, _⟩
      · exact y
      · omega
    rw [if_neg (by omega), e1, e2, z]
    unfold ndm
    rw [vdm_zero hG1, Nat.zero_sub]; rfl
  · rw [if_pos ⟨h1, by omega⟩, hs.2.1]
    have a1 := ndm_rel hF h1 hn hG (by omega) q2
    have a2 := StR1 hF h1 hn hG (by omega) q1
    have a3 : n * (nM n ord (j - 1) - vdm n ord G (j - 1)) = r1 + r2 + ndm n ord G j := by
      rw [a2]; exact a1
    rw [a3, ← nI_add, ← nI_add]
    grind
theorem FrA3 [NeZero p] {G : Nat → (Mo2 → Fin p) → Prop} {j : Nat} {v : Int32} (hF : isField p) (hn : n = 3) (hG : ∀ e g, G e g → hom n e g) (h : FrA n ord G 3 j v) : (j < 3 → v = 0) ∧ ∀ J r', j = J + 3 → R3 n ord J G r' → v = nI (nM n ord J - vdm n ord G J) - nI r' := by
  have hs := st_0 n (by omega)
  rcases h with ⟨z, _⟩ | ⟨_, r1, r2, q1, q2, rfl⟩
  · omega
  have e2 : r2 = 0 := by
    rcases q2 with ⟨_, y⟩ | ⟨_, y, _⟩
    · exact y
    · omega
  unfold chN
  refine ⟨fun z => ?_, fun J r' e hr => ?_⟩
  · have e1 : r1 = 0 := by
      rcases q1 with ⟨_, y⟩ | ⟨_, _, y, _⟩
      · exact y
      · omega
    rw [if_neg (by omega), e1, e2]; rfl
  · subst e
    rw [if_pos ⟨by omega, by omega⟩, hs.2.2.2.2 hn, Nat.one_mul, e2, StR3 hF hn hG q1 hr, Nat.add_sub_cancel]
    show nI _ - nI _ - 0 = _
    grind
/-- the top that the class takes -/
def TopV [NeZero p] (n ord : Nat) (G : Nat → (Mo2 → Fin p) → Prop) (j : Nat) (s : Int32) : Prop := ((n ≠ 3 ∨ j < 3) ∧ s = 0) ∨ (n = 3 ∧ ∃ J r', j = J + 3 ∧ R3 n ord J G r' ∧ s = nI (nM n ord J - vdm n ord G J) - nI r')
theorem FrA2 [NeZero p] {G : Nat → (Mo2 → Fin p) → Prop} {j : Nat} {v s : Int32} (hF : isField p) (h2 : 2 ≤ n) (hn : n ≤ 3) (ho : ord ≤ 1) (hG : ∀ e g, G e g → hom n e g) (hG1 : ∀ e g, G e g → 1 ≤ e) (ht : TopV n ord G j s) (h : FrA n ord G 2 j v) : v = ((scV n ord G j - if j = 0 then 1 else 0) + nI (ndm n ord G j)) + s := by
  have hs := st_0 n (by omega)
  rcases h with ⟨z, _⟩ | ⟨_, r1, r2, q1, q2, rfl⟩
  · omega
  have hh : ∀ d, nM n ord d - vdm n ord G d = hN n ord G d := fun _ => rfl
  by_cases z : j = 0
  · have e1 : r1 = 0 := by
      rcases q1 with ⟨_, y⟩ | ⟨_, _, y, _⟩
      · exact y
      · omega
    have e2 : r2 = 0 := by
      rcases q2 with ⟨_, y⟩ | ⟨_, _, y, _⟩
      · exact y
      · omega
    have e3 : s = 0 := by
      rcases ht with ⟨_, y⟩ | ⟨_, J, _, y, _⟩
      · exact y
      · omega
    subst z
    unfold chN scV ndm hN
    rw [if_neg (by omega), if_pos rfl, if_neg (by omega), if_neg (by omega), if_neg (by omega), e1, e2, e3, vdm_zero hG1, nM_0 n (by omega) ord (by omega), Nat.zero_sub]
    decide
  · rw [if_neg z]
    have a1 := ndm_rel hF (by omega) hn hG (show 1 ≤ j by omega) q1
    have a2 : nI n * nI (hN n ord G (j - 1)) = nI (hN n ord G j) + nI r1 + nI (ndm n ord G j) := by
      rw [pk_mul, a1, nI_add, nI_add]
    have a3 : nI (chN n ord G 2 j) = if 2 ≤ j then nI (stN n 2) * nI (hN n ord G (j - 2)) else 0 := by
      unfold chN
      by_cases y : 2 ≤ j
      · rw [if_pos ⟨h2, y⟩, if_pos y, pk_mul]; rfl
      · rw [if_neg (by omega), if_neg y]; rfl
    unfold scV
    rw [a3, if_pos (show 1 ≤ j by omega), a2]
    generalize (if 2 ≤ j then nI (stN n 2) * nI (hN n ord G (j - 2)) else 0) = X
    rcases ht with ⟨y, rfl⟩ | ⟨y, J, r', hJ, hr, rfl⟩
    · have e2 : r2 = 0 := by
        rcases q2 with ⟨_, w⟩ | ⟨_, w1, w2, _⟩
        · exact w
        · omega
      rw [if_neg (by omega), e2]
      show X - nI r1 - 0 = _
      grind
    · subst hJ
      rw [if_pos ⟨y, by omega⟩, StR3 hF y hG q2 hr, hh, Nat.add_sub_cancel]
      grind
end FR5
