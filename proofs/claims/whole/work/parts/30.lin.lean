/-! linear algebra by leads, over the numbers modulo p -/
theorem fin_t1 {p : Nat} [NeZero p] (a b c d : Fin p) : a + c * b - (a + d) * 1 = c * b - d := by grind
theorem fin_t2 {p : Nat} [NeZero p] (a b c : Fin p) (h : a = b * c) : a - b * c = 0 := by grind
/-- closed under sums with factors -/
def Sub {ι : Type} {p : Nat} [NeZero p] (V : (ι → Fin p) → Prop) : Prop := V (fun _ => 0) ∧ ∀ (u v : ι → Fin p) (c : Fin p), V u → V v → V (fun i => u i + c * v i)
def Spn {ι : Type} {p : Nat} [NeZero p] (S : (ι → Fin p) → Prop) (v : ι → Fin p) : Prop := ∀ V : (ι → Fin p) → Prop, Sub V → (∀ s, S s → V s) → V v
theorem Spn_sub {ι : Type} {p : Nat} [NeZero p] (S : (ι → Fin p) → Prop) : Sub (Spn S) :=
  ⟨fun _ h _ => h.1, fun u v c hu hv V h1 h2 => h1.2 u v c (hu V h1 h2) (hv V h1 h2)⟩
theorem Spn_of {ι : Type} {p : Nat} [NeZero p] {S : (ι → Fin p) → Prop} {s : ι → Fin p} (h : S s) : Spn S s := fun _ _ h2 => h2 s h
theorem Spn_le {ι : Type} {p : Nat} [NeZero p] {S V : (ι → Fin p) → Prop} (hV : Sub V) (h : ∀ s, S s → V s) : ∀ v, Spn S v → V v := fun v hv => hv V hV h
theorem Sub.smul {ι : Type} {p : Nat} [NeZero p] {V : (ι → Fin p) → Prop} (h : Sub V) {v : ι → Fin p} (c : Fin p) (hv : V v) : V (fun i => c * v i) := by
  have := h.2 _ v c h.1 hv
  simpa using this
theorem Sub.add {ι : Type} {p : Nat} [NeZero p] {V : (ι → Fin p) → Prop} (h : Sub V) {u v : ι → Fin p} (hu : V u) (hv : V v) : V (fun i => u i + v i) := by
  have := h.2 u v 1 hu hv
  have e : (fun i => u i + 1 * v i) = fun i => u i + v i := by funext i; grind
  rw [e] at this
  exact this
theorem Sub.sub {ι : Type} {p : Nat} [NeZero p] {V : (ι → Fin p) → Prop} (h : Sub V) {u v : ι → Fin p} (hu : V u) (hv : V v) : V (fun i => u i - v i) := by
  have := h.2 u v (-1) hu hv
  have e : (fun i => u i + (-1) * v i) = fun i => u i - v i := by funext i; grind
  rw [e] at this
  exact this
theorem Sub.msub {ι : Type} {p : Nat} [NeZero p] {V : (ι → Fin p) → Prop} (h : Sub V) {u v : ι → Fin p} (c : Fin p) (hu : V u) (hv : V v) : V (fun i => u i - c * v i) := by
  have := h.2 u v (-c) hu hv
  have e : (fun i => u i + (-c) * v i) = fun i => u i - c * v i := by funext i; grind
  rw [e] at this
  exact this
/-- an echelon family of V on the positions P: each has 1 at its own position and 0 ahead of it, and what of V is 0 on P is 0 -/
def Ech {p : Nat} [NeZero p] (N : Nat) (V : (Nat → Fin p) → Prop) (P : Nat → Bool) (e : Nat → Nat → Fin p) : Prop :=
  (∀ i, P i = true → i < N ∧ V (e i) ∧ e i i = 1 ∧ ∀ j, j < i → e i j = 0) ∧ ∀ v, V v → (∀ i, P i = true → v i = 0) → ∀ i, v i = 0
/-- v, cleared by the family at the positions below n, from the first on -/
def red {p : Nat} [NeZero p] (P : Nat → Bool) (e : Nat → Nat → Fin p) (v : Nat → Fin p) : Nat → Nat → Fin p
  | 0 => v
  | n + 1 => fun j => if P n = true then red P e v n j - red P e v n n * e n j else red P e v n j
theorem red_in {p : Nat} [NeZero p] {N : Nat} {V : (Nat → Fin p) → Prop} {P : Nat → Bool} {e : Nat → Nat → Fin p} (hV : Sub V) (hE : ∀ i, P i = true → V (e i)) {v : Nat → Fin p} : ∀ n, V (fun j => v j - red P e v n j)
  | 0 => by
    have h : (fun j => v j - red P e v 0 j) = fun _ => 0 := by funext j; show v j - v j = 0; grind
    rw [h]; exact hV.1
  | n + 1 => by
    have ih := red_in (N := N) hV hE (v := v) n
    by_cases hp : P n = true
    · have h := hV.2 _ (e n) (red P e v n n) ih (hE n hp)
      have e2 : (fun j => v j - red P e v (n + 1) j) = fun j => (v j - red P e v n j) + red P e v n n * e n j := by
        funext j; show v j - (if P n = true then red P e v n j - red P e v n n * e n j else red P e v n j) = _
        rw [if_pos hp]; grind
      rw [e2]; exact h
    · have e2 : (fun j => v j - red P e v (n + 1) j) = fun j => v j - red P e v n j := by
        funext j; show v j - (if P n = true then red P e v n j - red P e v n n * e n j else red P e v n j) = _
        rw [if_neg hp]
      rw [e2]; exact ih
theorem red_zero {p : Nat} [NeZero p] {P : Nat → Bool} {e : Nat → Nat → Fin p} (hE : ∀ i, P i = true → e i i = 1 ∧ ∀ j, j < i → e i j = 0) {v : Nat → Fin p} : ∀ n i, i < n → P i = true → red P e v n i = 0
  | 0, i, h, _ => absurd h (Nat.not_lt_zero i)
  | n + 1, i, h, hi => by
    show (if P n = true then red P e v n i - red P e v n n * e n i else red P e v n i) = 0
    by_cases e1 : i = n
    · subst e1
      rw [if_pos hi, (hE i hi).1]; grind
    · have ih := red_zero hE (v := v) n i (by omega) hi
      by_cases hp : P n = true
      · rw [if_pos hp, ih, (hE n hp).2 i (by omega)]; grind
      · rw [if_neg hp]; exact ih
/-- ahead of the first position that v has, nothing changes -/
theorem red_keep {p : Nat} [NeZero p] {P : Nat → Bool} {e : Nat → Nat → Fin p} (hE : ∀ i, P i = true → e i i = 1 ∧ ∀ j, j < i → e i j = 0) {v : Nat → Fin p} {k : Nat} (hk : ∀ j, j < k → v j = 0) (hP : P k = false) : ∀ n, red P e v n k = v k ∧ ∀ j, j < k → red P e v n j = 0
  | 0 => ⟨rfl, hk⟩
  | n + 1 => by
    obtain ⟨i1, i2⟩ := red_keep hE hk hP n
    by_cases hp : P n = true
    · have hne : n ≠ k := fun e => by rw [e, hP] at hp; cases hp
      rcases Nat.lt_or_ge n k with q | q
      · refine ⟨?_, fun j hj => ?_⟩
        · show (if P n = true then red P e v n k - red P e v n n * e n k else _) = _
          rw [if_pos hp, i2 n q, i1]; grind
        · show (if P n = true then red P e v n j - red P e v n n * e n j else _) = _
          rw [if_pos hp, i2 n q, i2 j hj]; grind
      · refine ⟨?_, fun j hj => ?_⟩
        · show (if P n = true then red P e v n k - red P e v n n * e n k else _) = _
          rw [if_pos hp, (hE n hp).2 k (by omega), i1]; grind
        · show (if P n = true then red P e v n j - red P e v n n * e n j else _) = _
          rw [if_pos hp, (hE n hp).2 j (by omega), i2 j hj]; grind
    · refine ⟨?_, fun j hj => ?_⟩
      · show (if P n = true then _ else red P e v n k) = _
        rw [if_neg hp]; exact i1
      · show (if P n = true then _ else red P e v n j) = _
        rw [if_neg hp]; exact i2 j hj
theorem Ech.fam {p : Nat} [NeZero p] {N : Nat} {V : (Nat → Fin p) → Prop} {P : Nat → Bool} {e : Nat → Nat → Fin p} (h : Ech N V P e) : ∀ i, P i = true → e i i = 1 ∧ ∀ j, j < i → e i j = 0 := fun i hi => (h.1 i hi).2.2
theorem Ech.inV {p : Nat} [NeZero p] {N : Nat} {V : (Nat → Fin p) → Prop} {P : Nat → Bool} {e : Nat → Nat → Fin p} (h : Ech N V P e) : ∀ i, P i = true → V (e i) := fun i hi => (h.1 i hi).2.1
/-- what lies in V is cleared to 0 -/
theorem Ech.red0 {p : Nat} [NeZero p] {N : Nat} {V : (Nat → Fin p) → Prop} {P : Nat → Bool} {e : Nat → Nat → Fin p} (hV : Sub V) (h : Ech N V P e) {v : Nat → Fin p} (hv : V v) : ∀ i, red P e v N i = 0 := by
  refine h.2 _ ?_ (fun i hi => red_zero h.fam N i (h.1 i hi).1 hi)
  have h1 := hV.sub hv (red_in (N := N) hV h.inV (v := v) N)
  have e2 : (fun i => v i - (v i - red P e v N i)) = red P e v N := by funext i; grind
  rw [e2] at h1; exact h1
def lead {p : Nat} [NeZero p] (V : (Nat → Fin p) → Prop) (k : Nat) : Prop := ∃ v, V v ∧ v k ≠ 0 ∧ ∀ j, j < k → v j = 0
theorem Ech.lead {p : Nat} [NeZero p] {N : Nat} {V : (Nat → Fin p) → Prop} {P : Nat → Bool} {e : Nat → Nat → Fin p} (h1p : (1 : Fin p) ≠ 0) (hV : Sub V) (h : Ech N V P e) (k : Nat) : lead V k ↔ P k = true := by
  constructor
  · rintro ⟨v, hv, hk, h0⟩
    cases hP : P k with
    | true => rfl
    | false => exact absurd ((red_keep h.fam h0 hP N).1.symm.trans (h.red0 hV hv k)) hk
  · intro hP
    exact ⟨e k, h.inV k hP, by rw [(h.fam k hP).1]; exact h1p, (h.fam k hP).2⟩
theorem Ech.same {p : Nat} [NeZero p] {N N' : Nat} {V : (Nat → Fin p) → Prop} {P P' : Nat → Bool} {e e' : Nat → Nat → Fin p} (h1p : (1 : Fin p) ≠ 0) (hV : Sub V) (h : Ech N V P e) (h' : Ech N' V P' e') : P = P' := by
  funext k
  have a := h.lead h1p hV k
  have b := h'.lead h1p hV k
  cases h1 : P k <;> cases h2 : P' k <;> simp_all
/-- the rest is one -/
theorem Ech.rest1 {p : Nat} [NeZero p] {N : Nat} {V : (Nat → Fin p) → Prop} {P : Nat → Bool} {e : Nat → Nat → Fin p} (h : Ech N V P e) {u w : Nat → Fin p} (hd : V (fun i => u i - w i)) (hu : ∀ i, P i = true → u i = 0) (hw : ∀ i, P i = true → w i = 0) : u = w := by
  funext i
  have := h.2 _ hd (fun i hi => by rw [hu i hi, hw i hi]; grind) i
  grind
