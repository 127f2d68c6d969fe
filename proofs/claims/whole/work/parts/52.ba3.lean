/-! Base, one degree: what the fresh rows and what is inherited make -/
theorem red_lin {p : Nat} [NeZero p] (P : Nat → Bool) (e : Nat → Nat → Fin p) (u v : Nat → Fin p) (c : Fin p) : ∀ n j, red P e (fun i => u i + c * v i) n j = red P e u n j + c * red P e v n j
  | 0, j => rfl
  | n + 1, j => by
    have h1 := red_lin P e u v c n j
    have h2 := red_lin P e u v c n n
    show (if P n = true then _ else _) = (if P n = true then _ else _) + c * (if P n = true then _ else _)
    by_cases q : P n = true
    · rw [if_pos q, if_pos q, if_pos q, h1, h2]; grind
    · rw [if_neg q, if_neg q, if_neg q]; exact h1
theorem red_self {p : Nat} [NeZero p] {P : Nat → Bool} {e : Nat → Nat → Fin p} {v : Nat → Fin p} : ∀ n, (∀ i, i < n → P i = true → v i = 0) → red P e v n = v
  | 0, _ => rfl
  | n + 1, h => by
    have ih := red_self (e := e) n (fun i hi => h i (by omega))
    funext j
    show (if P n = true then _ else _) = _
    by_cases q : P n = true
    · rw [if_pos q, ih, h n (by omega) q]; grind
    · rw [if_neg q, ih]
theorem red_0 {p : Nat} [NeZero p] {P : Nat → Bool} {e : Nat → Nat → Fin p} (n : Nat) : red P e (fun _ => 0) n = fun _ => 0 := red_self n (fun _ _ _ => rfl)
/-- an echelon family is one of what it spans -/
theorem Ech_spn {p : Nat} [NeZero p] {N : Nat} {P : Nat → Bool} {e : Nat → Nat → Fin p} (h : ∀ i, P i = true → i < N ∧ e i i = 1 ∧ ∀ j, j < i → e i j = 0) : Ech N (Spn (fun s => ∃ i, P i = true ∧ s = e i)) P e := by
  have hE : ∀ i, P i = true → e i i = 1 ∧ ∀ j, j < i → e i j = 0 := fun i hi => (h i hi).2
  refine ⟨fun i hi => ⟨(h i hi).1, Spn_of ⟨i, hi, rfl⟩, (h i hi).2.1, (h i hi).2.2⟩, fun v hv hz => ?_⟩
  have key : ∀ j, red P e v N j = 0 := by
    refine Spn_le (V := fun v => ∀ j, red P e v N j = 0) ⟨fun j => by rw [red_0], fun u v c hu hv j => by rw [red_lin, hu j, hv j]; grind⟩ ?_ v hv
    rintro s ⟨k, hk, rfl⟩ j
    obtain ⟨h1, h2, h3⟩ := h k hk
    have a : ∀ n, n ≤ k → red P e (e k) n = e k := fun n hn => red_self n (fun i hi _ => h3 i (by omega))
    have b : ∀ r, red P e (e k) (k + 1 + r) = fun _ => 0 := by
      intro r
      induction r with
      | zero =>
        funext j
        show (if P k = true then _ else _) = _
        rw [if_pos hk, a k (Nat.le_refl k), h2]; grind
      | succ r ih =>
        funext j
        show (if P (k + 1 + r) = true then red P e (e k) (k + 1 + r) j - red P e (e k) (k + 1 + r) (k + 1 + r) * e (k + 1 + r) j else red P e (e k) (k + 1 + r) j) = 0
        rw [ih]; split <;> grind
    have := b (N - (k + 1))
    rw [show k + 1 + (N - (k + 1)) = N by omega] at this
    rw [this]
  intro i
  rw [red_self N (fun i _ hi => hz i hi)] at key
  exact key i
/-- one row more, cleared -/
theorem offer_math {p : Nat} [NeZero p] {N : Nat} {E R : (Nat → Fin p) → Prop} {P : Nat → Bool} {e : Nat → Nat → Fin p} (hEs : Sub E) (hRs : Sub R) (hE : Ech N E P e) (hz : ∀ w, R w → ∀ i, P i = true → w i = 0) (v : Nat → Fin p) :
    (∀ w, more R (red P e v N) w → ∀ i, P i = true → w i = 0) ∧ (∀ u, sumV E (more R (red P e v N)) u ↔ more (sumV E R) v u) ∧ (R (red P e v N) ↔ sumV E R v) := by
  have hin : E (fun j => v j - red P e v N j) := red_in (N := N) hEs hE.inV N
  have hz0 : ∀ i, P i = true → red P e v N i = 0 := fun i hi => red_zero (P := P) hE.fam (v := v) N i (hE.1 i hi).1 hi
  refine ⟨?_, fun u => ⟨?_, ?_⟩, ⟨fun h => ?_, ?_⟩⟩
  · rintro w ⟨w', c, hw', hw⟩ i hi
    rw [hw, hz w' hw' i hi, hz0 i hi]; grind
  · rintro ⟨a, w, ha, ⟨w', c, hw', hw⟩, hu⟩
    refine ⟨fun i => (a i - c * (v i - red P e v N i)) + w' i, c, ⟨_, w', hEs.msub c ha hin, hw', fun i => rfl⟩, fun i => ?_⟩
    rw [hu, hw]; grind
  · rintro ⟨x, c, ⟨a, w', ha, hw', hx⟩, hu⟩
    refine ⟨fun i => a i + c * (v i - red P e v N i), fun i => w' i + c * red P e v N i, hEs.2 _ _ c ha hin, ⟨w', c, hw', fun i => rfl⟩, fun i => ?_⟩
    rw [hu, hx]; grind
  · exact ⟨_, _, hin, h, fun i => by grind⟩
  · rintro ⟨a, w, ha, hw, hv⟩
    have e1 : E (fun i => red P e v N i - w i) := by
      have := hEs.sub ha hin
      have e2 : (fun i => a i - (v i - red P e v N i)) = fun i => red P e v N i - w i := by funext i; rw [hv]; grind
      rw [e2] at this; exact this
    have := hE.rest1 e1 (fun i hi => hz0 i hi) (fun i hi => hz w hw i hi)
    rw [this]; exact hw
theorem dm_more1 {p : Nat} [NeZero p] {N : Nat} {W : (Nat → Fin p) → Prop} (hF : isField p) (hW : Sub W) (hN : inRange N W) {v : Nat → Fin p} (hv : ∀ i, N ≤ i → v i = 0) (hn : ¬ W v) : dm N (more W v) = dm N W + 1 := by
  have h1 := dm_more hF hW hN hv
  have h2 : dm N W ≤ dm N (more W v) := dm_mono (fun w hw => more_le hw)
  have h3 : dm N W ≠ dm N (more W v) := by
    intro e
    apply hn
    have hr : inRange N (more W v) := by
      rintro u ⟨w, c, hw, hu⟩ i hi
      rw [hu, hN w hw i hi, hv i hi]; grind
    obtain ⟨e1, E1⟩ := Ech_of hF hW hN
    obtain ⟨e2, E2⟩ := Ech_of hF (more_sub hW v) hr
    exact E1.eq hF.1 hW (more_sub hW v) E2 (fun w hw => more_le hw) e v (more_v hW v)
  omega
theorem dm_sum {p : Nat} [NeZero p] {N : Nat} {E R : (Nat → Fin p) → Prop} {P Q : Nat → Bool} {e e' : Nat → Nat → Fin p} (h1p : (1 : Fin p) ≠ 0) (hEs : Sub E) (hRs : Sub R) (hE : Ech N E P e) (hR : Ech N R Q e') (hz : ∀ w, R w → ∀ i, P i = true → w i = 0) : dm N (sumV E R) = ct P N + dm N R := by
  obtain ⟨h1, h2⟩ := hE.sum h1p hEs hRs hR hz
  rw [h1.dm h1p (sumV_sub hEs hRs), hR.dm h1p hRs, ct_or (fun i _ hi => h2 i hi)]
/-- rows below a degree -/
def Gb {p : Nat} [NeZero p] (d : Nat) (G : Nat → (Mo2 → Fin p) → Prop) : Nat → (Mo2 → Fin p) → Prop := fun e g => e < d ∧ G e g
/-- a row more -/
def Gadd {p : Nat} [NeZero p] (G : Nat → (Mo2 → Fin p) → Prop) (d : Nat) (g : Mo2 → Fin p) : Nat → (Mo2 → Fin p) → Prop := fun e f => G e f ∨ (e = d ∧ f = g)
theorem VP_cong {p : Nat} [NeZero p] {n d : Nat} {G G' : Nat → (Mo2 → Fin p) → Prop} (h : ∀ e, e ≤ d → ∀ g, G e g ↔ G' e g) : VP n G d = VP n G' d := by
  unfold VP
  congr 1
  funext s
  apply propext
  constructor
  · rintro ⟨e, g, c, h1, h2, h3, h4⟩; exact ⟨e, g, c, (h e h2 g).mp h1, h2, h3, h4⟩
  · rintro ⟨e, g, c, h1, h2, h3, h4⟩; exact ⟨e, g, c, (h e h2 g).mpr h1, h2, h3, h4⟩
theorem VP_mono {p : Nat} [NeZero p] {n d : Nat} {G G' : Nat → (Mo2 → Fin p) → Prop} (h : ∀ e, e ≤ d → ∀ g, G e g → G' e g) : ∀ f, VP n G d f → VP n G' d f := by
  refine Spn_le (VP_sub n G' d) ?_
  rintro s ⟨e, g, c, h1, h2, h3, h4⟩
  exact Spn_of ⟨e, g, c, h e h2 g h1, h2, h3, h4⟩
theorem VP_add {p : Nat} [NeZero p] {n d : Nat} {G : Nat → (Mo2 → Fin p) → Prop} {g : Mo2 → Fin p} : ∀ f, VP n (Gadd G d g) d f ↔ more (VP n G d) g f := by
  intro f
  constructor
  · refine Spn_le (more_sub (VP_sub n G d) g) ?_ f
    rintro s ⟨e, g', c, h1, h2, h3, rfl⟩
    rcases h1 with h1 | ⟨rfl, rfl⟩
    · exact more_le (Spn_of ⟨e, g', c, h1, h2, h3, rfl⟩)
    · have : c = (0, 0) := by
        have := h3.1
        apply Prod.ext <;> simp only <;> omega
      rw [this, mulm_0]
      exact more_v (VP_sub n G _) _
  · rintro ⟨w, c, hw, hf⟩
    have e1 : f = fun i => w i + c * g i := funext hf
    rw [e1]
    exact (VP_sub n _ d).2 _ _ c (VP_mono (fun e he g h => Or.inl h) w hw) (VP_row (Or.inr ⟨rfl, rfl⟩))
theorem VV_more {p : Nat} [NeZero p] {n ord d : Nat} {V : (Mo2 → Fin p) → Prop} {g : Mo2 → Fin p} : ∀ u, VV n ord d (more V g) u ↔ more (VV n ord d V) (vec n ord d g) u := by
  intro u
  constructor
  · rintro ⟨f, ⟨w, c, hw, hf⟩, rfl⟩
    refine ⟨vec n ord d w, c, ⟨w, hw, rfl⟩, fun i => ?_⟩
    rw [show f = fun i => w i + c * g i from funext hf, vec_lin]
  · rintro ⟨x, c, ⟨w, hw, rfl⟩, hu⟩
    refine ⟨fun i => w i + c * g i, ⟨w, c, hw, fun i => rfl⟩, ?_⟩
    rw [vec_lin]; exact funext hu
theorem VV_cong {p : Nat} [NeZero p] {n ord d : Nat} {V V' : (Mo2 → Fin p) → Prop} (h : ∀ f, V f ↔ V' f) : ∀ u, VV n ord d V u ↔ VV n ord d V' u := fun u => ⟨fun ⟨f, a, b⟩ => ⟨f, (h f).mp a, b⟩, fun ⟨f, a, b⟩ => ⟨f, (h f).mpr a, b⟩⟩
theorem VV_range {p : Nat} [NeZero p] {n ord d : Nat} (V : (Mo2 → Fin p) → Prop) : inRange (nM n ord d) (VV n ord d V) := by
  rintro v ⟨f, _, rfl⟩ i hi
  exact if_neg (by omega)
theorem VV_in {p : Nat} [NeZero p] {n ord d : Nat} {V : (Mo2 → Fin p) → Prop} (hV : ∀ f, V f → hom n d f) {f : Mo2 → Fin p} (hf : hom n d f) : VV n ord d V (vec n ord d f) ↔ V f := by
  constructor
  · rintro ⟨g, hg, he⟩
    have e1 := unv_vec (ord := ord) hf
    rw [he, unv_vec (hV g hg)] at e1
    rw [← e1]; exact hg
  · intro h; exact ⟨f, h, rfl⟩
theorem more_iff {ι : Type} {p : Nat} [NeZero p] {W W' : (ι → Fin p) → Prop} {v : ι → Fin p} (h : ∀ u, W u ↔ W' u) : ∀ u, more W v u ↔ more W' v u := fun u => ⟨fun ⟨w, c, a, b⟩ => ⟨w, c, (h w).mp a, b⟩, fun ⟨w, c, a, b⟩ => ⟨w, c, (h w).mpr a, b⟩⟩
/-- the dimension of a degree; how many rows of it are needed -/
noncomputable def vdm {p : Nat} [NeZero p] (n ord : Nat) (G : Nat → (Mo2 → Fin p) → Prop) (d : Nat) : Nat := dm (nM n ord d) (VV n ord d (VP n G d))
noncomputable def ndm {p : Nat} [NeZero p] (n ord : Nat) (G : Nat → (Mo2 → Fin p) → Prop) (d : Nat) : Nat := vdm n ord G d - vdm n ord (Gb d G) d
