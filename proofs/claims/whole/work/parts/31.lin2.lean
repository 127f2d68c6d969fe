/-- one vector more -/
def more {ι : Type} {p : Nat} [NeZero p] (W : (ι → Fin p) → Prop) (v : ι → Fin p) : (ι → Fin p) → Prop := fun u => ∃ w c, W w ∧ ∀ i, u i = w i + c * v i
theorem more_sub {ι : Type} {p : Nat} [NeZero p] {W : (ι → Fin p) → Prop} (hW : Sub W) (v : ι → Fin p) : Sub (more W v) := by
  refine ⟨⟨fun _ => 0, 0, hW.1, fun i => by grind⟩, ?_⟩
  rintro u1 u2 c ⟨w1, c1, h1, e1⟩ ⟨w2, c2, h2, e2⟩
  exact ⟨fun i => w1 i + c * w2 i, c1 + c * c2, hW.2 w1 w2 c h1 h2, fun i => by simp only [e1, e2]; grind⟩
theorem more_le {ι : Type} {p : Nat} [NeZero p] {W : (ι → Fin p) → Prop} {v w : ι → Fin p} (h : W w) : more W v w := ⟨w, 0, h, fun i => by grind⟩
theorem more_v {ι : Type} {p : Nat} [NeZero p] {W : (ι → Fin p) → Prop} (hW : Sub W) (v : ι → Fin p) : more W v v := ⟨fun _ => 0, 1, hW.1, fun i => by grind⟩
theorem more_old {ι : Type} {p : Nat} [NeZero p] {W : (ι → Fin p) → Prop} (hW : Sub W) {v : ι → Fin p} (hv : W v) : more W v = W := by
  funext u
  apply propext
  constructor
  · rintro ⟨w, c, hw, e⟩
    have h := hW.2 w v c hw hv
    have e2 : (fun i => w i + c * v i) = u := by funext i; rw [e]
    rw [e2] at h; exact h
  · exact fun h => more_le h
/-- an equal rest makes an equal space -/
theorem more_cong {ι : Type} {p : Nat} [NeZero p] {W : (ι → Fin p) → Prop} (hW : Sub W) {v r : ι → Fin p} (h : W (fun i => v i - r i)) : more W v = more W r := by
  funext u
  apply propext
  constructor
  · rintro ⟨w, c, hw, e⟩
    exact ⟨fun i => w i + c * (v i - r i), c, hW.2 w _ c hw h, fun i => by rw [e]; grind⟩
  · rintro ⟨w, c, hw, e⟩
    exact ⟨fun i => w i - c * (v i - r i), c, hW.msub c hw h, fun i => by rw [e]; grind⟩
def addP (P : Nat → Bool) (h : Nat) : Nat → Bool := fun i => P i || i == h
def addE {p : Nat} [NeZero p] (e : Nat → Nat → Fin p) (h : Nat) (f : Nat → Fin p) : Nat → Nat → Fin p := fun i => if i = h then f else fun j => e i j - e i h * f j
def Rref {p : Nat} [NeZero p] (P : Nat → Bool) (e : Nat → Nat → Fin p) : Prop := ∀ i j, P i = true → P j = true → i ≠ j → e i j = 0
/-- a row r that is 0 on P, with its first number 1 at h -/
theorem Ech.add {p : Nat} [NeZero p] {N : Nat} {W : (Nat → Fin p) → Prop} {P : Nat → Bool} {e : Nat → Nat → Fin p} (hW : Sub W) (hE : Ech N W P e) {f v : Nat → Fin p} {h : Nat} {t t2 : Fin p} (hf : W (fun i => v i - t2 * f i)) (ht : t * t2 = 1) (hP : ∀ i, P i = true → f i = 0) (hN : h < N) (h1 : f h = 1) (h0 : ∀ j, j < h → f j = 0) : Ech N (more W v) (addP P h) (addE e h f) := by
  have hm := more_sub hW v
  have h1p : (1 : Fin p) ≠ 0 ∨ ∀ a : Fin p, a = 0 := by
    by_cases q : (1 : Fin p) = 0
    · right; intro a; have : a * 1 = a * 0 := by rw [q]
      grind
    · exact Or.inl q
  have hfin : more W v f := by
    have a : more W v (fun i => v i - (v i - t2 * f i)) := hm.sub (more_v hW v) (more_le hf)
    have b := hm.smul t a
    have c : (fun i => t * (v i - (v i - t2 * f i))) = f := by
      funext i
      have : t * (v i - (v i - t2 * f i)) = (t * t2) * f i := by grind
      rw [this, ht]; grind
    rw [c] at b; exact b
  refine ⟨fun i hi => ?_, fun u hu hz => ?_⟩
  · by_cases ei : i = h
    · subst ei
      refine ⟨hN, ?_, ?_, ?_⟩ <;> simp only [addE, if_pos] <;> first | exact hfin | exact h1 | exact h0
    · have hi2 : P i = true := by simpa [addP, ei] using hi
      obtain ⟨g1, g2, g3, g4⟩ := hE.1 i hi2
      refine ⟨g1, ?_, ?_, fun j hj => ?_⟩
      · simp only [addE, if_neg ei]
        exact hm.msub _ (more_le g2) hfin
      · simp only [addE, if_neg ei]
        rw [g3, hP i hi2]; grind
      · simp only [addE, if_neg ei]
        rw [g4 j hj]
        rcases Nat.lt_or_ge h i with q | q
        · rw [g4 h q]; grind
        · rw [h0 j (by omega)]; grind
  · obtain ⟨w, c, hw, e1⟩ := hu
    -- u = w' + (c t2) f, w' in W
    have hw' : W (fun i => w i + c * (v i - t2 * f i)) := hW.2 w _ c hw hf
    have hz' : ∀ i, P i = true → (fun i => w i + c * (v i - t2 * f i)) i = 0 := by
      intro i hi
      have a := hz i (by simp [addP, hi])
      rw [e1 i] at a
      show w i + c * (v i - t2 * f i) = 0
      rw [hP i hi]; grind
    have h3 := hE.2 _ hw' hz'
    have h4 : ∀ i, u i = c * t2 * f i := by
      intro i
      have a := h3 i
      have b := e1 i
      grind
    have h5 : c * t2 = 0 := by
      have a := hz h (by simp [addP])
      rw [h4 h, h1] at a
      grind
    intro i
    rw [h4 i, h5]; grind
theorem Rref.add {p : Nat} [NeZero p] {P : Nat → Bool} {e : Nat → Nat → Fin p} (hR : Rref P e) {f : Nat → Fin p} {h : Nat} (hP : ∀ i, P i = true → f i = 0) (h1 : f h = 1) : Rref (addP P h) (addE e h f) := by
  intro i j hi hj hij
  by_cases ei : i = h
  · subst ei
    have hj2 : P j = true := by simpa [addP, Ne.symm hij] using hj
    simp only [addE, if_pos]; exact hP j hj2
  · have hi2 : P i = true := by simpa [addP, ei] using hi
    simp only [addE, if_neg ei]
    by_cases ej : j = h
    · subst ej
      rw [h1]; grind
    · have hj2 : P j = true := by simpa [addP, ej] using hj
      rw [hR i j hi2 hj2 hij, hP j hj2]; grind
/-- counting positions -/
def ct (P : Nat → Bool) : Nat → Nat
  | 0 => 0
  | n + 1 => ct P n + if P n = true then 1 else 0
theorem ct_le (P : Nat → Bool) : ∀ n, ct P n ≤ n
  | 0 => Nat.le_refl _
  | n + 1 => by
    have := ct_le P n
    show ct P n + (if P n = true then 1 else 0) ≤ n + 1
    split <;> omega
theorem ct_cong {P Q : Nat → Bool} : ∀ {n : Nat}, (∀ i, i < n → P i = Q i) → ct P n = ct Q n
  | 0, _ => rfl
  | n + 1, h => by
    show ct P n + (if P n = true then 1 else 0) = ct Q n + (if Q n = true then 1 else 0)
    rw [ct_cong (fun i hi => h i (by omega)), h n (by omega)]
theorem ct_mono {P Q : Nat → Bool} : ∀ {n : Nat}, (∀ i, i < n → P i = true → Q i = true) → ct P n ≤ ct Q n
  | 0, _ => Nat.le_refl _
  | n + 1, h => by
    have a := ct_mono (n := n) (fun i hi => h i (by omega))
    have b := h n (by omega)
    show ct P n + (if P n = true then 1 else 0) ≤ ct Q n + (if Q n = true then 1 else 0)
    by_cases c : P n = true
    · rw [if_pos c, if_pos (b c)]; omega
    · rw [if_neg c]; omega
theorem ct_eq {P Q : Nat → Bool} : ∀ {n : Nat}, (∀ i, i < n → P i = true → Q i = true) → ct P n = ct Q n → ∀ i, i < n → P i = Q i
  | 0, _, _, i, hi => absurd hi (Nat.not_lt_zero i)
  | n + 1, h, he, i, hi => by
    have a := ct_mono (n := n) (fun i hi => h i (by omega))
    have b := h n (by omega)
    have he : ct P n + (if P n = true then 1 else 0) = ct Q n + (if Q n = true then 1 else 0) := he
    have hn : P n = Q n ∧ ct P n = ct Q n := by
      cases c : P n <;> cases d : Q n <;> simp_all
      omega
    by_cases q : i = n
    · subst q; exact hn.1
    · exact ct_eq (n := n) (fun i hi => h i (by omega)) hn.2 i (by omega)
theorem ct_add {P : Nat → Bool} {h : Nat} (hP : P h = false) : ∀ {n : Nat}, h < n → ct (addP P h) n = ct P n + 1
  | 0, q => absurd q (Nat.not_lt_zero h)
  | n + 1, q => by
    show ct (addP P h) n + (if addP P h n = true then 1 else 0) = ct P n + (if P n = true then 1 else 0) + 1
    by_cases e : h = n
    · subst e
      have : ct (addP P h) h = ct P h := ct_cong (fun i hi => by simp [addP, Nat.ne_of_lt hi])
      rw [this, hP]; simp [addP]
    · rw [ct_add hP (n := n) (by omega)]
      have : addP P h n = P n := by simp [addP, Ne.symm e]
      rw [this]; omega
theorem ct_not (P : Nat → Bool) : ∀ n, ct P n + ct (fun i => !P i) n = n
  | 0 => rfl
  | n + 1 => by
    have := ct_not P n
    show ct P n + (if P n = true then 1 else 0) + (ct (fun i => !P i) n + (if (!P n) = true then 1 else 0)) = n + 1
    cases P n <;> simp <;> omega
theorem ct_or {P Q : Nat → Bool} : ∀ {n : Nat}, (∀ i, i < n → P i = true → Q i = false) → ct (fun i => P i || Q i) n = ct P n + ct Q n
  | 0, _ => rfl
  | n + 1, h => by
    have a := ct_or (n := n) (fun i hi => h i (by omega))
    have b := h n (by omega)
    show ct (fun i => P i || Q i) n + (if (P n || Q n) = true then 1 else 0) = ct P n + (if P n = true then 1 else 0) + (ct Q n + (if Q n = true then 1 else 0))
    rw [a]
    cases c : P n <;> cases d : Q n <;> simp_all <;> omega
/-- inclusion -/
theorem Ech.le {p : Nat} [NeZero p] {N N' : Nat} {V W : (Nat → Fin p) → Prop} {P Q : Nat → Bool} {e e' : Nat → Nat → Fin p} (h1p : (1 : Fin p) ≠ 0) (hV : Sub V) (hW : Sub W) (h : Ech N V P e) (h' : Ech N' W Q e') (hle : ∀ v, V v → W v) : ∀ i, P i = true → Q i = true := by
  intro i hi
  obtain ⟨v, a, b, c⟩ := (h.lead h1p hV i).mpr hi
  exact (h'.lead h1p hW i).mp ⟨v, hle v a, b, c⟩
theorem Ech.eq {p : Nat} [NeZero p] {N : Nat} {V W : (Nat → Fin p) → Prop} {P Q : Nat → Bool} {e e' : Nat → Nat → Fin p} (h1p : (1 : Fin p) ≠ 0) (hV : Sub V) (hW : Sub W) (h : Ech N V P e) (h' : Ech N W Q e') (hle : ∀ v, V v → W v) (hc : ct P N = ct Q N) : ∀ v, W v → V v := by
  have hPQ : ∀ i, i < N → P i = Q i := ct_eq (fun i _ => h.le h1p hV hW h' hle i) hc
  intro v hv
  have h1 := red_in (N := N) hV h.inV (v := v) N
  have h2 : W (red P e v N) := by
    have a := hW.sub hv (hle _ h1)
    have b : (fun i => v i - (v i - red P e v N i)) = red P e v N := by funext i; grind
    rw [b] at a; exact a
  have h3 := h'.2 _ h2 (fun i hi => red_zero h.fam N i (h'.1 i hi).1 (by rw [hPQ i (h'.1 i hi).1]; exact hi))
  have h4 : (fun j => v j - red P e v N j) = v := by funext j; rw [h3 j]; grind
  rw [h4] at h1; exact h1
/-- a sum with rows that are 0 on the leads of the first -/
def sumV {ι : Type} {p : Nat} [NeZero p] (V W : (ι → Fin p) → Prop) : (ι → Fin p) → Prop := fun u => ∃ a b, V a ∧ W b ∧ ∀ i, u i = a i + b i
theorem sumV_sub {ι : Type} {p : Nat} [NeZero p] {V W : (ι → Fin p) → Prop} (hV : Sub V) (hW : Sub W) : Sub (sumV V W) := by
  refine ⟨⟨_, _, hV.1, hW.1, fun i => by grind⟩, ?_⟩
  rintro u v c ⟨a, b, h1, h2, h3⟩ ⟨a', b', h1', h2', h3'⟩
  exact ⟨_, _, hV.2 a a' c h1 h1', hW.2 b b' c h2 h2', fun i => by simp only [h3, h3']; grind⟩
theorem Ech.sum {p : Nat} [NeZero p] {N : Nat} {V W : (Nat → Fin p) → Prop} {P Q : Nat → Bool} {e e' : Nat → Nat → Fin p} (h1p : (1 : Fin p) ≠ 0) (hV : Sub V) (hW : Sub W) (h : Ech N V P e) (h' : Ech N W Q e') (hz : ∀ w, W w → ∀ i, P i = true → w i = 0) : Ech N (sumV V W) (fun i => P i || Q i) (fun i => if P i = true then e i else e' i) ∧ ∀ i, P i = true → Q i = false := by
  have hdis : ∀ i, P i = true → Q i = false := by
    intro i hi
    cases q : Q i with
    | false => rfl
    | true => exact absurd ((h'.fam i q).1.symm.trans (hz _ (h'.inV i q) i hi)) h1p
  refine ⟨⟨fun i hi => ?_, fun u hu h0 => ?_⟩, hdis⟩
  · by_cases c : P i = true
    · obtain ⟨g1, g2, g3⟩ := h.1 i c
      simp only [if_pos c]
      exact ⟨g1, ⟨_, _, g2, hW.1, fun i => by grind⟩, g3⟩
    · have c2 : Q i = true := by simpa [c] using hi
      obtain ⟨g1, g2, g3⟩ := h'.1 i c2
      simp only [if_neg c]
      exact ⟨g1, ⟨_, _, hV.1, g2, fun i => by grind⟩, g3⟩
  · obtain ⟨a, b, h1, h2, h3⟩ := hu
    have ha : ∀ i, a i = 0 := h.2 a h1 (fun i hi => by
      have q := h0 i (by simp [hi])
      rw [h3 i, hz b h2 i hi] at q; grind)
    have hb : ∀ i, b i = 0 := h'.2 b h2 (fun i hi => by
      have q := h0 i (by simp [hi])
      rw [h3 i, ha i] at q; grind)
    intro i
    rw [h3 i, ha i, hb i]; grind
