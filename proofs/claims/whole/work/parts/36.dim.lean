/-! dimensions: how many leads -/
def inRange {p : Nat} [NeZero p] (N : Nat) (V : (Nat → Fin p) → Prop) : Prop := ∀ v, V v → ∀ i, N ≤ i → v i = 0
noncomputable def leadB {p : Nat} [NeZero p] (V : (Nat → Fin p) → Prop) : Nat → Bool := fun i => @decide (lead V i) (Classical.propDecidable _)
noncomputable def dm {p : Nat} [NeZero p] (N : Nat) (V : (Nat → Fin p) → Prop) : Nat := ct (leadB V) N
def isField (p : Nat) [NeZero p] : Prop := (1 : Fin p) ≠ 0 ∧ ∀ a : Fin p, a ≠ 0 → ∃ b, a * b = 1
theorem leadB_iff {p : Nat} [NeZero p] {V : (Nat → Fin p) → Prop} {i : Nat} : leadB V i = true ↔ lead V i := by
  unfold leadB; exact @decide_eq_true_iff _ (Classical.propDecidable _)
theorem Ech.lB {p : Nat} [NeZero p] {N : Nat} {V : (Nat → Fin p) → Prop} {P : Nat → Bool} {e : Nat → Nat → Fin p} (h1p : (1 : Fin p) ≠ 0) (hV : Sub V) (h : Ech N V P e) : leadB V = P := by
  funext i
  have a := h.lead h1p hV i
  rw [← leadB_iff] at a
  exact Bool.eq_iff_iff.mpr a
theorem Ech.dm {p : Nat} [NeZero p] {N : Nat} {V : (Nat → Fin p) → Prop} {P : Nat → Bool} {e : Nat → Nat → Fin p} (h1p : (1 : Fin p) ≠ 0) (hV : Sub V) (h : Ech N V P e) : dm N V = ct P N := by
  show ct (leadB V) N = ct P N
  rw [h.lB h1p hV]
/-- a first number that is not 0 -/
theorem first_ne {p : Nat} [NeZero p] (v : Nat → Fin p) : ∀ n, (∀ i, i < n → v i = 0) ∨ ∃ k, k < n ∧ v k ≠ 0 ∧ ∀ j, j < k → v j = 0
  | 0 => Or.inl (fun i h => absurd h (Nat.not_lt_zero i))
  | n + 1 => by
    rcases first_ne v n with h | ⟨k, h1, h2, h3⟩
    · by_cases q : v n = 0
      · left
        intro i hi
        by_cases e : i = n
        · rw [e]; exact q
        · exact h i (by omega)
      · exact Or.inr ⟨n, by omega, q, h⟩
    · exact Or.inr ⟨k, by omega, h2, h3⟩
/-- every space has such a family -/
theorem Ech_of {p : Nat} [NeZero p] {N : Nat} {V : (Nat → Fin p) → Prop} (hF : isField p) (hV : Sub V) (hN : inRange N V) : ∃ e, Ech N V (leadB V) e := by
  have h : ∀ i, ∃ e : Nat → Fin p, leadB V i = true → V e ∧ e i = 1 ∧ ∀ j, j < i → e j = 0 := by
    intro i
    by_cases q : leadB V i = true
    · obtain ⟨v, a, b, c⟩ := leadB_iff.mp q
      obtain ⟨t, ht⟩ := hF.2 _ b
      refine ⟨fun j => t * v j, fun _ => ⟨hV.smul t a, by simp only; rw [← ht]; grind, fun j hj => by simp only; rw [c j hj]; grind⟩⟩
    · exact ⟨fun _ => 0, fun z => absurd z q⟩
  refine ⟨fun i => Classical.choose (h i), fun i hi => ?_, fun v hv hz => ?_⟩
  · obtain ⟨a, b, c⟩ := Classical.choose_spec (h i) hi
    refine ⟨?_, a, b, c⟩
    rcases Nat.lt_or_ge i N with q | q
    · exact q
    · exact absurd (b.symm.trans (hN _ a i q)) hF.1
  · intro i
    rcases first_ne v N with q | ⟨k, k1, k2, k3⟩
    · rcases Nat.lt_or_ge i N with z | z
      · exact q i z
      · exact hN v hv i z
    · exact absurd (hz k (leadB_iff.mpr ⟨v, hv, k2, k3⟩)) k2
theorem dm_mono {p : Nat} [NeZero p] {N : Nat} {V W : (Nat → Fin p) → Prop} (h : ∀ v, V v → W v) : dm N V ≤ dm N W :=
  ct_mono (fun i _ hi => leadB_iff.mpr (by obtain ⟨v, a, b⟩ := leadB_iff.mp hi; exact ⟨v, h v a, b⟩))
theorem dm_cong {p : Nat} [NeZero p] {N : Nat} {V W : (Nat → Fin p) → Prop} (h : ∀ v, V v ↔ W v) : dm N V = dm N W :=
  Nat.le_antisymm (dm_mono fun v => (h v).mp) (dm_mono fun v => (h v).mpr)
theorem dm_more {p : Nat} [NeZero p] {N : Nat} {W : (Nat → Fin p) → Prop} (hF : isField p) (hW : Sub W) (hN : inRange N W) {v : Nat → Fin p} (hv : ∀ i, N ≤ i → v i = 0) : dm N (more W v) ≤ dm N W + 1 := by
  obtain ⟨e, hE⟩ := Ech_of hF hW hN
  have hr := red_in (N := N) hW hE.inV (v := v) N
  have hrN : ∀ i, N ≤ i → red (leadB W) e v N i = 0 := by
    intro i hi
    have := hN _ hr i hi
    simp only [hv i hi] at this
    grind
  rcases first_ne (red (leadB W) e v N) N with q | ⟨k, k1, k2, k3⟩
  · have hvW : W v := by
      have e2 : (fun j => v j - red (leadB W) e v N j) = v := by
        funext j
        rcases Nat.lt_or_ge j N with z | z
        · rw [q j z]; grind
        · rw [hrN j z]; grind
      rw [e2] at hr; exact hr
    rw [more_old hW hvW]; omega
  · obtain ⟨t, ht⟩ := hF.2 _ k2
    have hz := fun i (hi : leadB W i = true) => red_zero (v := v) hE.fam N i (hE.1 i hi).1 hi
    have hPk : leadB W k = false := by
      cases c : leadB W k with
      | false => rfl
      | true => exact absurd (hz k c) k2
    have hA := hE.add (v := v) (f := fun j => t * red (leadB W) e v N j) (h := k) (t := t) (t2 := red (leadB W) e v N k) hW (by
      have e2 : (fun i => v i - red (leadB W) e v N k * (t * red (leadB W) e v N i)) = fun i => v i - red (leadB W) e v N i := by
        funext i
        have : red (leadB W) e v N k * (t * red (leadB W) e v N i) = (red (leadB W) e v N k * t) * red (leadB W) e v N i := by grind
        rw [this, ht]; grind
      rw [e2]; exact hr) (by rw [← ht]; grind) (fun i hi => by rw [hz i hi]; grind) k1 (by rw [← ht]; grind) (fun j hj => by rw [k3 j hj]; grind)
    rw [hA.dm hF.1 (more_sub hW v), ct_add hPk k1]
    exact Nat.le_refl _
def upto {p : Nat} [NeZero p] (f : Nat → Nat → Fin p) (r : Nat) : (Nat → Fin p) → Prop := Spn (fun s => ∃ i, i < r ∧ s = f i)
theorem upto_succ {p : Nat} [NeZero p] (f : Nat → Nat → Fin p) (r : Nat) : ∀ v, upto f (r + 1) v → more (upto f r) (f r) v := by
  refine Spn_le (more_sub (Spn_sub _) _) ?_
  rintro s ⟨i, hi, rfl⟩
  by_cases e : i = r
  · rw [e]; exact more_v (Spn_sub _) _
  · exact more_le (Spn_of ⟨i, by omega, rfl⟩)
theorem upto_range {p : Nat} [NeZero p] {N : Nat} {f : Nat → Nat → Fin p} (hf : ∀ i j, N ≤ j → f i j = 0) (r : Nat) : inRange N (upto f r) := by
  intro v hv
  refine Spn_le (V := fun v => ∀ j, N ≤ j → v j = 0) ⟨fun _ _ => rfl, fun u v c hu hv j hj => by simp only; rw [hu j hj, hv j hj]; grind⟩ ?_ v hv
  rintro s ⟨i, -, rfl⟩
  exact hf i
/-- a space that r vectors span has dimension r at most -/
theorem dm_upto {p : Nat} [NeZero p] {N : Nat} (hF : isField p) {f : Nat → Nat → Fin p} (hf : ∀ i j, N ≤ j → f i j = 0) : ∀ r, dm N (upto f r) ≤ r
  | 0 => by
    have : ∀ i, i < N → leadB (upto f 0) i = (fun _ => false) i := by
      intro i _
      cases c : leadB (upto f 0) i with
      | false => rfl
      | true =>
        obtain ⟨v, a, b, -⟩ := leadB_iff.mp c
        exfalso
        apply b
        have := Spn_le (V := fun v => ∀ i, v i = (0 : Fin p)) ⟨fun _ => rfl, fun u v c hu hv i => by simp only; rw [hu i, hv i]; grind⟩ (by rintro s ⟨i, hi, -⟩; omega) v a
        exact this i
    show ct (leadB (upto f 0)) N ≤ 0
    rw [ct_cong this]
    have : ∀ n, ct (fun _ => false) n = 0 := by
      intro n
      induction n with
      | zero => rfl
      | succ n ih => show ct (fun _ => false) n + (if false = true then 1 else 0) = 0; rw [ih]; rfl
    rw [this]; exact Nat.le_refl _
  | r + 1 => by
    have h1 := dm_mono (N := N) (upto_succ f r)
    have h2 := dm_more hF (Spn_sub (fun s => ∃ i, i < r ∧ s = f i)) (upto_range hf r) (v := f r) (hf r)
    have h3 := dm_upto hF hf r
    show dm N (upto f (r + 1)) ≤ r + 1
    have h2 : dm N (more (upto f r) (f r)) ≤ dm N (upto f r) + 1 := h2
    omega
/-- the places of P, one after the other -/
theorem ct_pick (P : Nat → Bool) : ∀ n, ∃ g : Nat → Nat, ∀ i, i < n → P i = true → ∃ j, j < ct P n ∧ g j = i
  | 0 => ⟨fun _ => 0, fun i h => absurd h (Nat.not_lt_zero i)⟩
  | n + 1 => by
    obtain ⟨g, hg⟩ := ct_pick P n
    by_cases q : P n = true
    · refine ⟨fun j => if j = ct P n then n else g j, fun i hi hp => ?_⟩
      have hc : ct P (n + 1) = ct P n + 1 := by show ct P n + (if P n = true then 1 else 0) = _; rw [if_pos q]
      by_cases e : i = n
      · exact ⟨ct P n, by omega, by simp [e]⟩
      · obtain ⟨j, a, b⟩ := hg i (by omega) hp
        exact ⟨j, by omega, by simp only; rw [if_neg (by omega)]; exact b⟩
    · refine ⟨g, fun i hi hp => ?_⟩
      have hc : ct P (n + 1) = ct P n := by show ct P n + (if P n = true then 1 else 0) = _; rw [if_neg q]; rfl
      have e : i ≠ n := fun z => q (z ▸ hp)
      obtain ⟨j, a, b⟩ := hg i (by omega) hp
      exact ⟨j, by omega, b⟩
def Lin {ι κ : Type} {p : Nat} [NeZero p] (T : (ι → Fin p) → κ → Fin p) : Prop := ∀ (u v : ι → Fin p) (c : Fin p) (i : κ), T (fun j => u j + c * v j) i = T u i + c * T v i
theorem Lin.z {ι κ : Type} {p : Nat} [NeZero p] {T : (ι → Fin p) → κ → Fin p} (h : Lin T) (i : κ) : T (fun _ => 0) i = 0 := by
  have := h (fun _ => 0) (fun _ => 0) (-1) i
  have e : (fun _ : ι => (0 : Fin p) + (-1) * 0) = fun _ => 0 := by funext j; grind
  rw [e] at this
  grind
def img {ι κ : Type} {p : Nat} [NeZero p] (T : (ι → Fin p) → κ → Fin p) (V : (ι → Fin p) → Prop) : (κ → Fin p) → Prop := fun w => ∃ v, V v ∧ ∀ i, w i = T v i
theorem img_sub {ι κ : Type} {p : Nat} [NeZero p] {T : (ι → Fin p) → κ → Fin p} (hT : Lin T) {V : (ι → Fin p) → Prop} (hV : Sub V) : Sub (img T V) := by
  refine ⟨⟨_, hV.1, fun i => (hT.z i).symm⟩, ?_⟩
  rintro u v c ⟨a, h1, e1⟩ ⟨b, h2, e2⟩
  exact ⟨_, hV.2 a b c h1 h2, fun i => by rw [hT]; simp only [e1, e2]⟩
/-- a linear map does not make it greater -/
theorem dm_img {p : Nat} [NeZero p] {N N' : Nat} (hF : isField p) {V : (Nat → Fin p) → Prop} (hV : Sub V) (hN : inRange N V) {T : (Nat → Fin p) → Nat → Fin p} (hT : Lin T) (hT0 : ∀ v, V v → ∀ i, N' ≤ i → T v i = 0) : dm N' (img T V) ≤ dm N V := by
  obtain ⟨e, hE⟩ := Ech_of hF hV hN
  obtain ⟨g, hg⟩ := ct_pick (leadB V) N
  have hsp : ∀ w, img T V w → upto (fun j => if leadB V (g j) = true then T (e (g j)) else fun _ => 0) (dm N V) w := by
    rintro w ⟨v, hv, hw⟩
    have hs := hE.span hV hv (b := 0) (fun j hj => absurd hj (Nat.not_lt_zero j))
    have := Spn_le (V := fun v => upto (fun j => if leadB V (g j) = true then T (e (g j)) else fun _ => 0) (dm N V) (T v)) ⟨?_, ?_⟩ ?_ v hs
    · have e2 : T v = w := by funext i; exact (hw i).symm
      rw [e2] at this; exact this
    · have e2 : T (fun _ => 0) = fun _ => 0 := by funext i; exact hT.z i
      show upto _ _ (T fun _ => 0)
      rw [e2]; exact (Spn_sub _).1
    · intro a b c ha hb
      have e2 : T (fun i => a i + c * b i) = fun i => T a i + c * T b i := by funext i; exact hT a b c i
      show upto _ _ (T fun i => a i + c * b i)
      rw [e2]; exact (Spn_sub _).2 _ _ c ha hb
    · rintro s ⟨j, -, hP, rfl⟩
      obtain ⟨k, hk, hgk⟩ := hg j (hE.1 j hP).1 hP
      exact Spn_of ⟨k, hk, by simp only [hgk, hP, if_true]⟩
  refine Nat.le_trans (dm_mono hsp) (dm_upto hF ?_ _)
  intro i j hj
  by_cases c : leadB V (g i) = true
  · rw [if_pos c]; exact hT0 _ (hE.inV _ c) j hj
  · rw [if_neg c]
