/-! the reference: heaps of rows, products -/
theorem more_spn {ι : Type} {p : Nat} [NeZero p] {W S : (ι → Fin p) → Prop} {v : ι → Fin p} (h : ∀ u, W u ↔ Spn S u) : ∀ u, more W v u ↔ Spn (fun s => S s ∨ s = v) u := by
  intro u
  constructor
  · rintro ⟨w, c, hw, hu⟩
    have h1 : Spn (fun s => S s ∨ s = v) w := Spn_le (Spn_sub _) (fun s hs => Spn_of (Or.inl hs)) w ((h w).mp hw)
    have h2 : Spn (fun s => S s ∨ s = v) v := Spn_of (Or.inr rfl)
    have := (Spn_sub (fun s => S s ∨ s = v)).2 w v c h1 h2
    have e : u = fun i => w i + c * v i := funext hu
    rw [e]; exact this
  · intro hu
    have hW : W = Spn S := funext (fun u => propext (h u))
    have hWs : Sub W := by rw [hW]; exact Spn_sub S
    refine Spn_le (more_sub hWs v) (fun s hs => ?_) u hu
    rcases hs with hs | rfl
    · exact more_le ((h s).mpr (Spn_of hs))
    · exact more_v hWs s
theorem Spn_iff {ι : Type} {p : Nat} [NeZero p] {S S' : (ι → Fin p) → Prop} (h : ∀ s, S s ↔ S' s) : Spn S = Spn S' := by
  have : S = S' := funext (fun s => propext (h s))
  rw [this]
/-- the rows of a heap, times products, by positions -/
def RS {p : Nat} [NeZero p] (n ord d : Nat) (G : Nat → (Mo2 → Fin p) → Prop) : (Nat → Fin p) → Prop := fun s => ∃ e g c, G e g ∧ e ≤ d ∧ okm n (d - e) c ∧ s = vec n ord d (mulm c g)
theorem VV_spn {p : Nat} [NeZero p] {n ord d : Nat} {G : Nat → (Mo2 → Fin p) → Prop} : VV n ord d (VP n G d) = Spn (RS n ord d G) := by
  funext u
  apply propext
  constructor
  · rintro ⟨f, hf, rfl⟩
    have key : ∀ f, VP n G d f → Spn (RS n ord d G) (vec n ord d f) := by
      refine Spn_le (V := fun f => Spn (RS n ord d G) (vec n ord d f)) ⟨?_, fun u v c hu hv => ?_⟩ (fun s hs => ?_)
      · show Spn (RS n ord d G) (vec n ord d (fun _ => 0))
        rw [vec_0]; exact (Spn_sub _).1
      · show Spn (RS n ord d G) (vec n ord d (fun i => u i + c * v i))
        rw [vec_lin]; exact (Spn_sub _).2 _ _ c hu hv
      · obtain ⟨e, g, c, h1, h2, h3, rfl⟩ := hs
        exact Spn_of ⟨e, g, c, h1, h2, h3, rfl⟩
    exact key f hf
  · intro hu
    refine Spn_le (VV_sub (VP_sub n G d)) (fun s hs => ?_) u hu
    obtain ⟨e, g, c, h1, h2, h3, rfl⟩ := hs
    exact ⟨mulm c g, Spn_of ⟨e, g, c, h1, h2, h3, rfl⟩, rfl⟩
/-- the rows that are cleared, spanned by S -/
def EnS {p : Nat} [NeZero p] (n ord d : Nat) (S : (Nat → Fin p) → Prop) (I : Nat → Nat → Int32) : Prop := ∃ W P e, EnSt n ord d W P e I ∧ ∀ u, W u ↔ Spn S u
theorem EnS_iff {p : Nat} [NeZero p] {n ord d : Nat} {S S' : (Nat → Fin p) → Prop} {I : Nat → Nat → Int32} (h : ∀ s, S s ↔ S' s) (hS : EnS n ord d S I) : EnS n ord d S' I := by
  have : S = S' := funext (fun s => propext (h s))
  rw [← this]; exact hS
theorem EnS.st {p : Nat} [NeZero p] {n ord d : Nat} {S : (Nat → Fin p) → Prop} {I : Nat → Nat → Int32} (h1p : (1 : Fin p) ≠ 0) (h : EnS n ord d S I) : ∃ e, EnSt n ord d (Spn S) (leadB (Spn S)) e I := by
  obtain ⟨W, P, e, hE, hW⟩ := h
  have hW' : W = Spn S := funext (fun u => propext (hW u))
  subst hW'
  rw [hE.2.1.2.2.1.lB h1p hE.2.1.1]
  exact ⟨e, hE⟩
theorem dg1_one_le {p : Nat} [NeZero p] {n b : Nat} {g : Mo2 → Fin p} (hb : b ≤ 10) (hg : hom n b g) : dg1 (oneP b g) ≤ b + 1 := by
  by_cases q : ∃ m, g m ≠ 0
  · rw [dg1_one hb hg q]; exact Nat.le_refl _
  · rcases Nat.lt_or_ge (b + 1) (dg1 (oneP b g)) with z | z
    · obtain ⟨t, ht⟩ : ∃ t, dg1 (oneP b g) = t + 1 := ⟨dg1 (oneP b g) - 1, by omega⟩
      obtain ⟨m, hm⟩ := D_top ht
      unfold oneP at hm
      rw [if_neg (by omega)] at hm
      exact absurd rfl hm
    · exact z
/-- a sum, by other numbers -/
theorem sm_re {p : Nat} [NeZero p] {f : Nat → Fin p} {N N' : Nat} (φ : Nat → Nat) (h1 : ∀ i, i < N' → φ i < N) (h2 : ∀ i j, i < N' → j < N' → φ i = φ j → i = j) (h3 : ∀ m, m < N → f m ≠ 0 → ∃ i, i < N' ∧ φ i = m) : sm f N = sm (fun i => f (φ i)) N' := by
  have e1 : sm f N = sm (fun m => sm (fun i => if φ i = m then f m else 0) N') N := by
    refine sm_cong (fun m hm => ?_)
    by_cases q : ∃ i, i < N' ∧ φ i = m
    · obtain ⟨i, hi, hq⟩ := q
      rw [sm_one hi (fun j hj hne => if_neg (fun z => hne (h2 j i hj hi (by rw [z, hq])))), if_pos hq]
    · rw [sm_none (fun j hj => if_neg (fun z => q ⟨j, hj, z⟩))]
      by_cases z : f m = 0
      · exact z
      · exact absurd (h3 m hm z) q
  rw [e1, sm_swap]
  refine sm_cong (fun i hi => ?_)
  rw [sm_one (h1 i hi) (fun j hj hne => if_neg (fun z => hne z.symm)), if_pos rfl]
/-- the product, by numbers -/
theorem cf_mul {p : Nat} [NeZero p] {n ord b : Nat} {F : Nat → Mo2 → Fin p} {g : Mo2 → Fin p} (hF : ∀ d, d ≤ 10 → hom n d (F d)) (hb : b ≤ 10) (hg : hom n b g) (hbd : ∀ d, d ≤ 10 → 10 < d + b → ∀ m, F d m = 0) {t : Nat} (ht : t < 1331) : sm (fun m => if m ≤ t then cf F m * cf (oneP b g) (t - m) else 0) 1331 = cf (mulP n ord F b g) t := by
  have hone := oneP_hom hg
  -- what is not 0
  have nz : ∀ m, m < 1331 → (if m ≤ t then cf F m * cf (oneP b g) (t - m) else 0) ≠ 0 → m ≤ t ∧ mdeg m + b ≤ 10 ∧ mdeg t = mdeg m + b ∧ okm n (mdeg m) (mmo m) := by
    intro m hm h
    by_cases q : m ≤ t
    · rw [if_pos q] at h
      have h1 : cf F m ≠ 0 := fun z => h (by rw [z]; grind)
      have h2 : cf (oneP b g) (t - m) ≠ 0 := fun z => h (by rw [z]; grind)
      obtain ⟨f1, f2⟩ := cf_ne h1
      obtain ⟨g1, g2⟩ := cf_ne h2
      have hd : mdeg (t - m) = b := by
        by_cases z : mdeg (t - m) = b
        · exact z
        · unfold oneP at g2; rw [if_neg z] at g2; exact absurd rfl g2
      have hs : mdeg m + b ≤ 10 := by
        rcases Nat.lt_or_ge 10 (mdeg m + b) with z | z
        · exact absurd (hbd _ f1 z _) f2
        · exact z
      refine ⟨q, hs, ?_, hF _ f1 _ f2⟩
      have u1 := mmo_ok hm
      have u2' := mmo_ok (show t - m < 1331 by omega)
      have u3 := cdm_add u1.1 u2'.1
      rw [u1.2, u2'.2, hd, show m + (t - m) = t by omega] at u3
      rw [u3]
      refine (cdm_ok hs ?_).2.1
      have v1 := u1.1
      have v2 := u2'.1
      rw [hd] at v2
      simp only; omega
    · rw [if_neg q] at h; exact absurd rfl h
  by_cases hE : mdeg t ≤ 10 ∧ b ≤ mdeg t
  · obtain ⟨a, ha⟩ : ∃ a, mdeg t = a + b := ⟨mdeg t - b, by omega⟩
    have hcft : cf (mulP n ord F b g) t = prodm n ord a (F a) g (mmo t) := by
      unfold cf
      rw [if_pos hE.1, ha]
      unfold mulP
      rw [if_pos (by omega), Nat.add_sub_cancel]
    rw [hcft, sm_re (N' := nM n ord a) (fun i => cdm a (atm n ord a i)) (fun i hi => (cdm_ok (by omega) (atm_ok hi).1).1) (fun i j hi hj e => atm_inj hi hj (by rw [← (cdm_ok (show a ≤ 10 by omega) (atm_ok hi).1).2.2, ← (cdm_ok (show a ≤ 10 by omega) (atm_ok hj).1).2.2, e])) (fun m hm h => ?_)]
    · unfold prodm
      refine sm_cong (fun i hi => ?_)
      have hok := atm_ok hi
      have hcu := cf_up (c := atm n ord a i) hone (show a ≤ 10 by omega) hok (by have := dg1_one_le hb hg; omega) ht
      have e1 : cf (upF a (atm n ord a i) (oneP b g)) t = mulm (atm n ord a i) g (mmo t) := by
        unfold cf upF
        rw [if_pos hE.1, if_pos (by omega), show mdeg t - a = b by omega]
        unfold oneP
        rw [if_pos rfl]
      rw [e1] at hcu
      rw [← hcu]
      by_cases q : cdm a (atm n ord a i) ≤ t
      · rw [if_pos q, if_pos q, cf_at (by omega) hok.1]
      · rw [if_neg q, if_neg q]; grind
    · obtain ⟨h1, h2, h3, h4⟩ := nz m hm h
      have hma : mdeg m = a := by omega
      rw [hma] at h4
      refine ⟨psm n ord a (mmo m), psm_lt h4, ?_⟩
      rw [atm_psm h4, ← hma]
      exact (mmo_ok hm).2
  · rw [sm_none (fun m hm => ?_)]
    · unfold cf
      by_cases q : mdeg t ≤ 10
      · rw [if_pos q]
        unfold mulP
        rw [if_neg (fun z => hE ⟨q, z⟩)]
      · rw [if_neg q]
    · by_cases z : (if m ≤ t then cf F m * cf (oneP b g) (t - m) else 0) = 0
      · exact z
      · obtain ⟨h1, h2, h3, h4⟩ := nz m hm z
        exact absurd ⟨by omega, by omega⟩ hE
