def dgf {p : Nat} [NeZero p] (F : Nat → Mo2 → Fin p) : Nat → Nat
  | 0 => 0
  | k + 1 => if szD F k ≠ 0 then k + 1 else dgf F k
/-- the degree and 1; 0 of 0 -/
def dg1 {p : Nat} [NeZero p] (F : Nat → Mo2 → Fin p) : Nat := dgf F 11
theorem dgf_le {p : Nat} [NeZero p] (F : Nat → Mo2 → Fin p) : ∀ k, dgf F k ≤ k
  | 0 => Nat.le_refl _
  | k + 1 => by
    have := dgf_le F k
    unfold dgf; split <;> omega
theorem szD_le {p : Nat} [NeZero p] (F : Nat → Mo2 → Fin p) {d : Nat} (hd : d ≤ 10) : szD F d ≤ 286 := by
  have h := ct_le (fun q => decide (F d (unp q) ≠ 0)) (fr (d + 1) - fr d)
  have h2 := fr_le d (by omega)
  unfold szD; omega
theorem szP_le {p : Nat} [NeZero p] (F : Nat → Mo2 → Fin p) : szP F ≤ 286 := ct_le _ _
theorem m1_eq (x : Int32) : x + (-1) = x - 1 := by rw [Int32.sub_eq_add_neg]
def updF {p : Nat} [NeZero p] (F : Nat → Mo2 → Fin p) (d : Nat) (m : Mo2) (v : Fin p) : Nat → Mo2 → Fin p := fun e k => if e = d ∧ k = m then v else F e k
theorem Rep_upd {p : Nat} [NeZero p] {f : Nat → Int32} {F : Nat → Mo2 → Fin p} (h : Rep f F) {d : Nat} {m : Mo2} (hd : d ≤ 10) (hm : m.1 + m.2 ≤ d) (v : Fin p) : Rep (upd f (fr d + pl m) (nI v.val)) (updF F d m v) := by
  intro e he k hk
  unfold updF
  by_cases q : e = d ∧ k = m
  · rw [if_pos q, q.1, q.2, upd_eq]
  · rw [if_neg q, upd_ne (fun z => q (fr_pl_inj he hd hk hm z))]
    exact h e he k hk
theorem Rep_cong {p : Nat} [NeZero p] {f : Nat → Int32} {F G : Nat → Mo2 → Fin p} (h : Rep f F) (e : ∀ d, d ≤ 10 → ∀ m : Mo2, m.1 + m.2 ≤ d → F d m = G d m) : Rep f G := fun d hd m hm => by rw [h d hd m hm, e d hd m hm]
section PO2
variable {M : Mem} {I : Nat → Nat → Int32} {n ord a : Nat}
theorem sp_Podegree {p : Nat} [NeZero p] {F : Nat → Mo2 → Fin p} {post : Int32 → Mem → Prop} (hM : PoOK M a) (hp : p ≤ 97) (hR : Rep (I (a + 1)) F) (h : post (nI (dg1 F) - 1) (wI M I)) : T_Po_degree a (wI M I) post := by
  have key : ∀ k, k ≤ 11 → dg1 F = dgf F k → L_Po_degree_3 post (k + 1) a (nI k - 1) (wI M I) := by
    intro k
    induction k with
    | zero =>
      intro _ hk
      show B_Po_degree_3 _ post a (nI 0 - 1) _
      unfold B_Po_degree_3 B_Po_degree_21
      have e : dg1 F = 0 := hk
      rw [e] at h
      exact ⟨fun _ => h, fun q => absurd (by decide) q⟩
    | succ k ih =>
      intro hk11 hk
      show B_Po_degree_3 (L_Po_degree_3 post (k + 1)) post a (nI (k + 1) - 1) _
      rw [nI_pred]
      unfold B_Po_degree_3 B_Po_degree_21
      refine ⟨fun q => absurd q (nI_pos (by omega)), fun _ => ⟨hM.1.1, sp_sizeOf hM hp hR (by omega) ⟨fun q => ?_, fun q => ?_⟩⟩⟩
      · rw [show (0 : Int32) = nI 0 from rfl, nI_eq (by have := szD_le F (show k ≤ 10 by omega); omega) (by omega)] at q
        have e : dgf F (k + 1) = k + 1 := by unfold dgf; rw [if_pos q]
        rw [hk, e, nI_pred] at h; exact h
      · rw [show (0 : Int32) = nI 0 from rfl, nI_eq (by have := szD_le F (show k ≤ 10 by omega); omega) (by omega)] at q
        have e : dgf F (k + 1) = dgf F k := by
          show (if szD F k ≠ 0 then k + 1 else dgf F k) = _
          rw [if_neg (by simp [q])]
        rw [m1_eq]
        exact ih (by omega) (by rw [hk, e])
  have := key 11 (Nat.le_refl _) rfl
  exact ⟨_, this⟩
def evP {p : Nat} [NeZero p] (F : Nat → Mo2 → Fin p) : Prop := dg1 F = 0 ∨ szD F (dg1 F - 1) = szP F
theorem neg1_lt {k : Nat} (hk : k ≤ 11) : (nI k - 1 < 0 ↔ k = 0) := by
  cases k with
  | zero => exact ⟨fun _ => rfl, fun _ => by decide⟩
  | succ k =>
    rw [nI_pred]
    exact ⟨fun h => absurd h (nI_pos (by omega)), fun h => by omega⟩
theorem dg1_le {p : Nat} [NeZero p] (F : Nat → Mo2 → Fin p) : dg1 F ≤ 11 := dgf_le F 11
theorem sp_isEven {p : Nat} [NeZero p] {F : Nat → Mo2 → Fin p} {post : Int32 → Mem → Prop} (hM : PoOK M a) (hp : p ≤ 97) (hR : Rep (I (a + 1)) F) (h1 : evP F → post 1 (wI M I)) (h0 : ¬ evP F → post 0 (wI M I)) : T_Po_isEven a (wI M I) post := by
  have hle := dg1_le F
  refine ⟨hM.1.1, sp_Podegree hM hp hR ?_⟩
  unfold B_Po_isEven_21 B_Po_isEven_26
  refine ⟨fun q => ⟨rfl, h1 (Or.inl ((neg1_lt hle).mp q))⟩, fun q => ⟨hM.1.1, ?_⟩⟩
  rw [neg1_lt hle] at q
  have hd : nI (dg1 F) - 1 = nI (dg1 F - 1) := pk_sub (show 1 ≤ dg1 F by omega)
  rw [hd]
  have b1 := szD_le F (show dg1 F - 1 ≤ 10 by omega)
  have b2 := szP_le F
  refine sp_sizeOf hM hp hR (by omega) ⟨hM.1.1, sp_Posize hM hp hR ⟨fun z => ⟨rfl, h0 ?_⟩, fun z => ⟨rfl, h1 ?_⟩⟩⟩
  · rw [nI_eq (by omega) (by omega)] at z
    rintro (w | w)
    · exact q w
    · exact z w
  · rw [nI_eq (by omega) (by omega)] at z
    exact Or.inr z
theorem sp_headPlace {p : Nat} [NeZero p] {F : Nat → Mo2 → Fin p} {post : Int32 → Mem → Prop} (hP : PrOK M) (hS : PrSt n ord I) (hM : PoOK M a) (hp : p ≤ 97) (hR : Rep (I (a + 1)) F) (h0 : dg1 F = 0 → post (-1) (wI M I)) (h1 : ∀ d, dg1 F = d + 1 → ∀ i, i < nM n ord d → (∀ j, j < i → F d (atm n ord d j) = 0) → F d (atm n ord d i) ≠ 0 → post (nI (pl (atm n ord d i))) (wI M I)) (h2 : ∀ d, dg1 F = d + 1 → (∀ j, j < nM n ord d → F d (atm n ord d j) = 0) → post (-1) (wI M I)) : T_Po_headPlace a (wI M I) post := by
  have hle := dg1_le F
  refine ⟨hM.1.1, sp_Podegree hM hp hR ?_⟩
  by_cases hz : dg1 F = 0
  · rw [hz]
    refine ⟨1, ?_⟩
    show B_Po_headPlace_7 _ post a (nI 0 - 1) 0 _
    unfold B_Po_headPlace_7 B_Po_headPlace_56
    exact ⟨fun _ => h0 hz, fun q => absurd (by decide) q⟩
  · obtain ⟨d, hd⟩ : ∃ d, dg1 F = d + 1 := ⟨dg1 F - 1, by omega⟩
    have hd10 : d ≤ 10 := by omega
    have hb := nM_b hS hd10
    rw [hd, nI_pred]
    have key : ∀ r i, i + r = nM n ord d → (∀ j, j < i → F d (atm n ord d j) = 0) → L_Po_headPlace_7 post (r + 1) a (nI d) (nI i) (wI M I) := by
      intro r
      induction r with
      | zero =>
        intro i hi hj
        show B_Po_headPlace_7 _ post a (nI d) (nI i) _
        unfold B_Po_headPlace_7 B_Po_headPlace_56
        refine ⟨fun q => absurd q (nI_pos (by omega)), fun _ => ⟨hM.1.1, 1, hM.1.2, hP.1.1, sp_amount hP hS hd10 ⟨fun _ => h2 d hd (fun j hj' => hj j (by omega)), fun q => absurd ?_ q⟩⟩⟩
        rw [nI_leI (by omega) (by omega)]; omega
      | succ r ih =>
        intro i hi hj
        have hiN : i < nM n ord d := by omega
        have hok := (atm_ok hiN).1
        show B_Po_headPlace_7 (L_Po_headPlace_7 post (r + 1)) post a (nI d) (nI i) _
        unfold B_Po_headPlace_7 B_Po_headPlace_56
        refine ⟨fun q => absurd q (nI_pos (by omega)), fun _ => ⟨hM.1.1, 1, hM.1.2, hP.1.1, sp_amount hP hS hd10 ⟨fun q => ?_, fun _ => ⟨hM.1.1, 1, hM.1.2, hP.1.1, sp_at hP hS hd10 hiN ⟨hM.1.1, sp_numberAt hM hd10 hok ⟨fun q => ?_, fun q => ⟨hM.1.1, 1, hM.1.2, hP.1.1, sp_at hP hS hd10 hiN ?_⟩⟩⟩⟩⟩⟩⟩
        · rw [nI_leI (by omega) (by omega)] at q; omega
        · rw [hR d hd10 _ hok, val_ne hp] at q
          rw [nI_1]
          exact ih (i + 1) (by omega) (fun j hj' => by
            by_cases e : j = i
            · rw [e]; exact q
            · exact hj j (by omega))
        · rw [hR d hd10 _ hok, val_ne hp] at q
          exact h1 d hd i hiN hj q
    exact ⟨_, key (nM n ord d) 0 (by omega) (fun j hj => absurd hj (Nat.not_lt_zero j))⟩
end PO2
