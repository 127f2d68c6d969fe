/-! polynomials of one degree, and what a heap has of a degree -/
def mulm {p : Nat} [NeZero p] (c : Mo2) (f : Mo2 → Fin p) : Mo2 → Fin p := fun m => if c.1 ≤ m.1 ∧ c.2 ≤ m.2 then f (m.1 - c.1, m.2 - c.2) else 0
theorem mulm_0 {p : Nat} [NeZero p] (f : Mo2 → Fin p) : mulm (0, 0) f = f := by funext m; simp [mulm]
theorem mulm_mulm {p : Nat} [NeZero p] (a b : Mo2) (f : Mo2 → Fin p) : mulm a (mulm b f) = mulm (a.1 + b.1, a.2 + b.2) f := by
  funext m
  unfold mulm
  by_cases h1 : a.1 ≤ m.1 ∧ a.2 ≤ m.2
  · rw [if_pos h1]
    by_cases h2 : b.1 ≤ m.1 - a.1 ∧ b.2 ≤ m.2 - a.2
    · rw [if_pos h2, if_pos (by simp only; omega)]
      congr 1
      simp only [Prod.mk.injEq]; omega
    · rw [if_neg h2, if_neg (by simp only; omega)]
  · rw [if_neg h1, if_neg (by simp only; omega)]
theorem mulm_lin {p : Nat} [NeZero p] (c : Mo2) (u v : Mo2 → Fin p) (k : Fin p) : mulm c (fun m => u m + k * v m) = fun m => mulm c u m + k * mulm c v m := by
  funext m
  unfold mulm
  by_cases h : c.1 ≤ m.1 ∧ c.2 ≤ m.2
  · simp only [if_pos h]
  · simp only [if_neg h]; grind
theorem mulm_z {p : Nat} [NeZero p] (c : Mo2) : mulm c (fun _ => (0 : Fin p)) = fun _ => 0 := by
  funext m; unfold mulm; split <;> rfl
/-- all products of f are of degree d -/
def hom {p : Nat} [NeZero p] (n d : Nat) (f : Mo2 → Fin p) : Prop := ∀ m, f m ≠ 0 → okm n d m
theorem hom_sub {p : Nat} [NeZero p] (n d : Nat) : Sub (hom (p := p) n d) := by
  refine ⟨fun m h => absurd rfl h, fun u v c hu hv m h => ?_⟩
  by_cases a : u m = 0
  · by_cases b : v m = 0
    · exact absurd (by simp only [a, b]; grind) h
    · exact hv m b
  · exact hu m a
theorem okm_add {n d k : Nat} {a b : Mo2} (ha : okm n d a) (hb : okm n k b) : okm n (d + k) (a.1 + b.1, a.2 + b.2) := by
  unfold okm at *
  refine ⟨?_, ?_, ?_⟩ <;> simp only <;> omega
theorem hom_mulm {p : Nat} [NeZero p] {n d k : Nat} {f : Mo2 → Fin p} {c : Mo2} (hf : hom n d f) (hc : okm n k c) : hom n (d + k) (mulm c f) := by
  intro m h
  unfold mulm at h
  by_cases q : c.1 ≤ m.1 ∧ c.2 ≤ m.2
  · rw [if_pos q] at h
    have a := hf _ h
    have b := okm_add a hc
    have e : ((m.1 - c.1) + c.1, (m.2 - c.2) + c.2) = m := by
      obtain ⟨m1, m2⟩ := m
      simp only [Prod.mk.injEq]; simp only at q; omega
    rw [e] at b; exact b
  · rw [if_neg q] at h; exact absurd rfl h
/-- what the heap of the rows G (degree, row) has of degree d -/
def VP {p : Nat} [NeZero p] (n : Nat) (G : Nat → (Mo2 → Fin p) → Prop) (d : Nat) : (Mo2 → Fin p) → Prop := Spn (fun s => ∃ e g c, G e g ∧ e ≤ d ∧ okm n (d - e) c ∧ s = mulm c g)
theorem VP_sub {p : Nat} [NeZero p] (n : Nat) (G : Nat → (Mo2 → Fin p) → Prop) (d : Nat) : Sub (VP n G d) := Spn_sub _
theorem VP_hom {p : Nat} [NeZero p] {n : Nat} {G : Nat → (Mo2 → Fin p) → Prop} (hG : ∀ e g, G e g → hom n e g) {d : Nat} : ∀ f, VP n G d f → hom n d f := by
  refine Spn_le (hom_sub n d) ?_
  rintro s ⟨e, g, c, h1, h2, h3, rfl⟩
  have := hom_mulm (hG e g h1) h3
  rw [show e + (d - e) = d by omega] at this
  exact this
theorem VP_row {p : Nat} [NeZero p] {n : Nat} {G : Nat → (Mo2 → Fin p) → Prop} {d : Nat} {g : Mo2 → Fin p} (h : G d g) : VP n G d g := by
  refine Spn_of ⟨d, g, (0, 0), h, Nat.le_refl d, ?_, (mulm_0 g).symm⟩
  refine ⟨?_, ?_, ?_⟩ <;> simp
theorem VP_up {p : Nat} [NeZero p] {n : Nat} {G : Nat → (Mo2 → Fin p) → Prop} {d k : Nat} {c : Mo2} (hc : okm n k c) : ∀ f, VP n G d f → VP n G (d + k) (mulm c f) := by
  refine Spn_le (V := fun f => VP n G (d + k) (mulm c f)) ⟨?_, ?_⟩ ?_
  · show VP n G (d + k) (mulm c fun _ => 0)
    rw [mulm_z]; exact (VP_sub n G (d + k)).1
  · intro u v a hu hv
    show VP n G (d + k) (mulm c fun m => u m + a * v m)
    rw [mulm_lin]; exact (VP_sub n G (d + k)).2 _ _ a hu hv
  · rintro s ⟨e, g, b, h1, h2, h3, rfl⟩
    rw [mulm_mulm]
    refine Spn_of ⟨e, g, _, h1, by omega, ?_, rfl⟩
    have := okm_add hc h3
    rw [show k + (d - e) = d + k - e by omega] at this
    exact this
/-- a product of degree k + 1 is a letter times one of degree k -/
theorem okm_split {n k : Nat} {c : Mo2} (h : okm n (k + 1) c) : ∃ l b : Mo2, okm n 1 l ∧ okm n k b ∧ c = (l.1 + b.1, l.2 + b.2) := by
  obtain ⟨c1, c2⟩ := c
  unfold okm at h ⊢
  simp only at h
  by_cases h1 : c1 = 0
  · by_cases h2 : c2 = 0
    · exact ⟨(0, 0), (0, 0), by simp, by simp, by simp [h1, h2]⟩
    · refine ⟨(0, 1), (c1, c2 - 1), ⟨by simp, by simp, fun q => ?_⟩, ⟨?_, ?_, ?_⟩, ?_⟩ <;> simp only [Prod.mk.injEq] <;> omega
  · refine ⟨(1, 0), (c1 - 1, c2), ⟨by simp, fun q => ?_, by simp⟩, ⟨?_, ?_, ?_⟩, ?_⟩ <;> simp only [Prod.mk.injEq] <;> omega
theorem VP_rec {p : Nat} [NeZero p] {n : Nat} {G : Nat → (Mo2 → Fin p) → Prop} {d : Nat} {W : (Mo2 → Fin p) → Prop} (hW : Sub W) (h1 : ∀ l f, okm n 1 l → VP n G d f → W (mulm l f)) (h2 : ∀ g, G (d + 1) g → W g) : ∀ f, VP n G (d + 1) f → W f := by
  refine Spn_le hW ?_
  rintro s ⟨e, g, c, g1, g2, g3, rfl⟩
  by_cases he : e = d + 1
  · subst he
    have hc : c = (0, 0) := by
      obtain ⟨c1, c2⟩ := c
      have := g3.1
      simp only [Prod.mk.injEq]; simp only at this; omega
    rw [hc, mulm_0]; exact h2 g g1
  · rw [show d + 1 - e = (d - e) + 1 by omega] at g3
    obtain ⟨l, b, hl, hb, rfl⟩ := okm_split g3
    rw [← mulm_mulm]
    exact h1 l _ hl (Spn_of ⟨e, g, b, g1, by omega, hb, rfl⟩)
/-! by positions -/
def vec {p : Nat} [NeZero p] (n ord d : Nat) (f : Mo2 → Fin p) : Nat → Fin p := fun i => if i < nM n ord d then f (atm n ord d i) else 0
def unv {p : Nat} [NeZero p] (n ord d : Nat) (v : Nat → Fin p) : Mo2 → Fin p := fun m => if m ∈ mons n ord d then v (psm n ord d m) else 0
theorem unv_vec {p : Nat} [NeZero p] {n ord d : Nat} {f : Mo2 → Fin p} (hf : hom n d f) : unv n ord d (vec n ord d f) = f := by
  funext m
  unfold unv
  by_cases h : m ∈ mons n ord d
  · rw [if_pos h, vec, if_pos (psm_lt (mem_mons.mp h)), atm_psm (mem_mons.mp h)]
  · rw [if_neg h]
    by_cases q : f m = 0
    · exact q.symm
    · exact absurd (mem_mons.mpr (hf m q)) h
theorem vec_unv {p : Nat} [NeZero p] {n ord d : Nat} {v : Nat → Fin p} (hv : ∀ i, nM n ord d ≤ i → v i = 0) : vec n ord d (unv n ord d v) = v := by
  funext i
  unfold vec
  by_cases h : i < nM n ord d
  · rw [if_pos h, unv, if_pos (mem_mons.mpr (atm_ok h)), psm_atm h]
  · rw [if_neg h]; exact (hv i (by omega)).symm
theorem unv_hom {p : Nat} [NeZero p] {n ord d : Nat} (v : Nat → Fin p) : hom n d (unv n ord d v) := by
  intro m h
  unfold unv at h
  by_cases q : m ∈ mons n ord d
  · exact mem_mons.mp q
  · rw [if_neg q] at h; exact absurd rfl h
theorem unv_lin {p : Nat} [NeZero p] {n ord d : Nat} (u v : Nat → Fin p) (k : Fin p) : unv n ord d (fun i => u i + k * v i) = fun m => unv n ord d u m + k * unv n ord d v m := by
  funext m
  unfold unv
  by_cases q : m ∈ mons n ord d
  · simp only [if_pos q]
  · simp only [if_neg q]; grind
theorem vec_lin {p : Nat} [NeZero p] {n ord d : Nat} (u v : Mo2 → Fin p) (k : Fin p) : vec n ord d (fun i => u i + k * v i) = fun m => vec n ord d u m + k * vec n ord d v m := by
  funext m
  unfold vec
  by_cases q : m < nM n ord d
  · simp only [if_pos q]
  · simp only [if_neg q]; grind
theorem vec_sub {p : Nat} [NeZero p] {n ord d : Nat} (u v : Mo2 → Fin p) : vec n ord d (fun i => u i - v i) = fun m => vec n ord d u m - vec n ord d v m := by
  funext m
  unfold vec
  by_cases q : m < nM n ord d
  · simp only [if_pos q]
  · simp only [if_neg q]; grind
theorem vec_0 {p : Nat} [NeZero p] {n ord d : Nat} : vec n ord d (fun _ => (0 : Fin p)) = fun _ => 0 := by
  funext i; unfold vec; split <;> rfl
/-- the vectors of a space of polynomials -/
def VV {p : Nat} [NeZero p] (n ord d : Nat) (V : (Mo2 → Fin p) → Prop) : (Nat → Fin p) → Prop := fun v => ∃ f, V f ∧ v = vec n ord d f
theorem VV_sub {p : Nat} [NeZero p] {n ord d : Nat} {V : (Mo2 → Fin p) → Prop} (hV : Sub V) : Sub (VV n ord d V) := by
  refine ⟨⟨_, hV.1, vec_0.symm⟩, ?_⟩
  rintro u v c ⟨f, hf, rfl⟩ ⟨g, hg, rfl⟩
  exact ⟨_, hV.2 f g c hf hg, (vec_lin f g c).symm⟩
/-- what is 0 ahead of b lies in the span of the family from b on -/
theorem Ech.span {p : Nat} [NeZero p] {N : Nat} {V : (Nat → Fin p) → Prop} {P : Nat → Bool} {e : Nat → Nat → Fin p} (hV : Sub V) (h : Ech N V P e) {v : Nat → Fin p} (hv : V v) {b : Nat} (h0 : ∀ j, j < b → v j = 0) : Spn (fun s => ∃ j, b ≤ j ∧ P j = true ∧ s = e j) v := by
  have hf : ∀ i, (fun j => P j && decide (b ≤ j)) i = true → e i i = 1 ∧ ∀ j, j < i → e i j = 0 := fun i hi => h.fam i (by simp only [Bool.and_eq_true] at hi; exact hi.1)
  have hs := red_in (N := N) (P := fun j => P j && decide (b ≤ j)) (e := e) (Spn_sub (fun s => ∃ j, b ≤ j ∧ P j = true ∧ s = e j)) (fun i hi => Spn_of ⟨i, by simp at hi; exact hi.2, by simp at hi; exact hi.1, rfl⟩) (v := v) N
  have hVr := red_in (N := N) (P := fun j => P j && decide (b ≤ j)) (e := e) hV (fun i hi => h.inV i (by simp at hi; exact hi.1)) (v := v) N
  have hr : V (red (fun j => P j && decide (b ≤ j)) e v N) := by
    have a := hV.sub hv hVr
    have c : (fun i => v i - (v i - red (fun j => P j && decide (b ≤ j)) e v N i)) = red (fun j => P j && decide (b ≤ j)) e v N := by funext i; grind
    rw [c] at a; exact a
  have hz := h.2 _ hr (fun i hi => by
    rcases Nat.lt_or_ge i b with q | q
    · have a := red_keep (P := fun j => P j && decide (b ≤ j)) hf (v := v) (k := i) (fun j hj => h0 j (by omega)) (by simp; intro; omega) N
      rw [a.1]; exact h0 i q
    · exact red_zero hf N i (h.1 i hi).1 (by simp [hi, q]))
  have e2 : (fun j => v j - red (fun j => P j && decide (b ≤ j)) e v N j) = v := by funext j; rw [hz j]; grind
  rw [e2] at hs; exact hs
