/-! dimensions, whatever the positions are -/
def rsV {ι : Type} {p : Nat} [NeZero p] (N : Nat) (dc : Nat → ι) : (ι → Fin p) → Nat → Fin p := fun v i => if i < N then v (dc i) else 0
/-- V lives on the positions dc 0 .. dc (N - 1) -/
def Sup {ι : Type} {p : Nat} [NeZero p] (V : (ι → Fin p) → Prop) (N : Nat) (dc : Nat → ι) : Prop := ∀ v, V v → ∀ x, v x ≠ 0 → ∃ i, i < N ∧ dc i = x
def Dim {ι : Type} {p : Nat} [NeZero p] (V : (ι → Fin p) → Prop) (k : Nat) : Prop := ∃ N dc, Sup V N dc ∧ dm N (img (rsV N dc) V) = k
theorem rsV_lin {ι : Type} {p : Nat} [NeZero p] (N : Nat) (dc : Nat → ι) : Lin (rsV (p := p) N dc) := fun u v c i => by
  unfold rsV
  by_cases q : i < N
  · rw [if_pos q, if_pos q, if_pos q]
  · rw [if_neg q, if_neg q, if_neg q]; grind
theorem rsV_range {ι : Type} {p : Nat} [NeZero p] (N : Nat) (dc : Nat → ι) (V : (ι → Fin p) → Prop) : inRange N (img (rsV N dc) V) := fun w ⟨v, _, h⟩ i hi => by
  rw [h i]; unfold rsV; rw [if_neg (by omega)]
noncomputable def unV {ι : Type} {p : Nat} [NeZero p] (N : Nat) (dc : Nat → ι) : (Nat → Fin p) → ι → Fin p := fun w x => @dite _ (∃ i, i < N ∧ dc i = x) (Classical.propDecidable _) (fun h => w (Classical.choose h)) (fun _ => 0)
theorem unV_lin {ι : Type} {p : Nat} [NeZero p] (N : Nat) (dc : Nat → ι) : Lin (unV (p := p) N dc) := fun u v c x => by
  unfold unV
  by_cases q : ∃ i, i < N ∧ dc i = x
  · rw [dif_pos q, dif_pos q, dif_pos q]
  · rw [dif_neg q, dif_neg q, dif_neg q]; grind
theorem unV_rsV {ι : Type} {p : Nat} [NeZero p] {V : (ι → Fin p) → Prop} {N : Nat} {dc : Nat → ι} (h : Sup V N dc) {v : ι → Fin p} (hv : V v) : unV N dc (rsV N dc v) = v := by
  funext x
  unfold unV
  by_cases q : ∃ i, i < N ∧ dc i = x
  · rw [dif_pos q]
    have := Classical.choose_spec q
    unfold rsV
    rw [if_pos this.1, this.2]
  · rw [dif_neg q]
    by_cases z : v x = 0
    · exact z.symm
    · exact absurd (h v hv x z) q
theorem Lin.comp {ι κ μ : Type} {p : Nat} [NeZero p] {S : (κ → Fin p) → μ → Fin p} {T : (ι → Fin p) → κ → Fin p} (hS : Lin S) (hT : Lin T) : Lin (fun v => S (T v)) := fun u v c i => by
  have : T (fun j => u j + c * v j) = fun j => T u j + c * T v j := funext (fun j => hT u v c j)
  show S (T (fun j => u j + c * v j)) i = S (T u) i + c * S (T v) i
  rw [this]; exact hS _ _ c i
theorem Dim_ex {ι : Type} {p : Nat} [NeZero p] {V : (ι → Fin p) → Prop} {N : Nat} {dc : Nat → ι} (h : Sup V N dc) : ∃ k, Dim V k := ⟨_, N, dc, h, rfl⟩
/-- image and kernel -/
theorem Dim_ker {ι κ : Type} {p : Nat} [NeZero p] (hF : isField p) {V : (ι → Fin p) → Prop} (hV : Sub V) {T : (ι → Fin p) → κ → Fin p} (hT : Lin T) {k a : Nat} (h1 : Dim V k) (h2 : Dim (img T V) a) : a ≤ k ∧ Dim (fun v => V v ∧ ∀ i, T v i = 0) (k - a) := by
  obtain ⟨N, dc, s1, e1⟩ := h1
  obtain ⟨N', dc', s2, e2⟩ := h2
  have hL : Lin (fun w => rsV N' dc' (T (unV N dc w))) := (rsV_lin N' dc').comp (hT.comp (unV_lin N dc))
  have hk := dm_ker (N := N) (N' := N') hF (img_sub (rsV_lin N dc) hV) (rsV_range N dc V) hL (fun w _ i hi => by show rsV N' dc' _ i = 0; unfold rsV; rw [if_neg (by omega)])
  have hi : dm N' (img (fun w => rsV N' dc' (T (unV N dc w))) (img (rsV N dc) V)) = a := by
    rw [← e2]
    refine dm_cong (fun u => ⟨?_, ?_⟩)
    · rintro ⟨w, ⟨v, hv, hw⟩, hu⟩
      have ew : w = rsV N dc v := funext hw
      refine ⟨T v, ⟨v, hv, fun _ => rfl⟩, fun i => ?_⟩
      rw [hu i, ew]
      show rsV N' dc' (T (unV N dc (rsV N dc v))) i = _
      rw [unV_rsV s1 hv]
    · rintro ⟨t, ⟨v, hv, ht⟩, hu⟩
      have et : t = T v := funext ht
      refine ⟨rsV N dc v, ⟨v, hv, fun _ => rfl⟩, fun i => ?_⟩
      rw [hu i, et]
      show _ = rsV N' dc' (T (unV N dc (rsV N dc v))) i
      rw [unV_rsV s1 hv]
  have hkk : dm N (fun w => img (rsV N dc) V w ∧ ∀ i, rsV N' dc' (T (unV N dc w)) i = 0) = dm N (img (rsV N dc) (fun v => V v ∧ ∀ i, T v i = 0)) := by
    refine dm_cong (fun w => ⟨?_, ?_⟩)
    · rintro ⟨⟨v, hv, hw⟩, h0⟩
      have ew : w = rsV N dc v := funext hw
      refine ⟨v, ⟨hv, fun i => ?_⟩, hw⟩
      have ht : img T V (T v) := ⟨v, hv, fun _ => rfl⟩
      have e3 := unV_rsV s2 ht
      have e4 : rsV N' dc' (T v) = fun _ => 0 := by
        funext i
        have := h0 i
        rw [ew, unV_rsV s1 hv] at this
        exact this
      rw [e4] at e3
      rw [← e3]
      exact (unV_lin N' dc').z i
    · rintro ⟨v, ⟨hv, h0⟩, hw⟩
      have ew : w = rsV N dc v := funext hw
      refine ⟨⟨v, hv, hw⟩, fun i => ?_⟩
      rw [ew, unV_rsV s1 hv]
      unfold rsV
      split
      · exact h0 _
      · rfl
  rw [e1, hi, hkk] at hk
  exact ⟨by omega, N, dc, fun v hv => s1 v hv.1, by omega⟩
theorem Dim_fun {ι : Type} {p : Nat} [NeZero p] (hF : isField p) {V : (ι → Fin p) → Prop} (hV : Sub V) {k a : Nat} (h1 : Dim V k) (h2 : Dim V a) : k = a := by
  have hid : Lin (fun v : ι → Fin p => v) := fun u v c i => rfl
  have e : img (fun v : ι → Fin p => v) V = V := by
    funext v
    apply propext
    constructor
    · rintro ⟨u, hu, h⟩
      have : v = u := funext h
      rw [this]; exact hu
    · intro hv; exact ⟨v, hv, fun _ => rfl⟩
  have k1 := (Dim_ker hF hV hid h1 (by rw [e]; exact h2)).1
  have k2 := (Dim_ker hF hV hid h2 (by rw [e]; exact h1)).1
  omega
theorem Dim_cong {ι : Type} {p : Nat} [NeZero p] {V W : (ι → Fin p) → Prop} (h : ∀ v, V v ↔ W v) {k : Nat} (hD : Dim V k) : Dim W k := by
  have : V = W := funext (fun v => propext (h v))
  rw [← this]; exact hD
/-- nothing is lost: the same dimension -/
theorem Dim_inj {ι κ : Type} {p : Nat} [NeZero p] (hF : isField p) {V : (ι → Fin p) → Prop} (hV : Sub V) {T : (ι → Fin p) → κ → Fin p} (hT : Lin T) {k a : Nat} (h1 : Dim V k) (h2 : Dim (img T V) a) (hi : ∀ v, V v → (∀ i, T v i = 0) → ∀ x, v x = 0) : k = a := by
  obtain ⟨q1, N, dc, s, q2⟩ := Dim_ker hF hV hT h1 h2
  have hz : dm N (img (rsV N dc) (fun v => V v ∧ ∀ i, T v i = 0)) = 0 := by
    unfold dm
    refine ct_none (fun j _ => ?_)
    cases e : leadB (img (rsV N dc) (fun v => V v ∧ ∀ i, T v i = 0)) j
    · rfl
    · obtain ⟨w, ⟨v, ⟨hv, h0⟩, hw⟩, hne, _⟩ := leadB_iff.mp e
      exfalso
      apply hne
      rw [hw j]
      unfold rsV
      split <;> first | exact hi v hv h0 _ | rfl
  omega
theorem Dim_0 {ι : Type} {p : Nat} [NeZero p] {V : (ι → Fin p) → Prop} (x0 : ι) (h : ∀ v, V v → ∀ x, v x = 0) : Dim V 0 := ⟨0, fun _ => x0, fun v hv x hx => absurd (h v hv x) hx, rfl⟩
/-! the spaces of a degree -/
theorem VV_img {p : Nat} [NeZero p] {n ord d : Nat} (V : (Mo2 → Fin p) → Prop) : VV n ord d V = img (rsV (nM n ord d) (atm n ord d)) V := by
  funext v
  apply propext
  constructor
  · rintro ⟨f, hf, e⟩
    exact ⟨f, hf, fun i => by rw [e]; rfl⟩
  · rintro ⟨f, hf, e⟩
    exact ⟨f, hf, funext e⟩
theorem hom_sup {p : Nat} [NeZero p] {n ord d : Nat} {V : (Mo2 → Fin p) → Prop} (hV : ∀ f, V f → hom n d f) : Sup V (nM n ord d) (atm n ord d) := fun v hv x hx => ⟨psm n ord d x, psm_lt (hV v hv x hx), atm_psm (hV v hv x hx)⟩
theorem Dim_VP {p : Nat} [NeZero p] {n ord d : Nat} {G : Nat → (Mo2 → Fin p) → Prop} (hG : ∀ e g, G e g → hom n e g) : Dim (VP n G d) (vdm n ord G d) := ⟨nM n ord d, atm n ord d, hom_sup (VP_hom hG), by rw [← VV_img]; rfl⟩
theorem Dim_hom {p : Nat} [NeZero p] (h1p : (1 : Fin p) ≠ 0) (n ord d : Nat) : Dim (hom (p := p) n d) (nM n ord d) := by
  refine ⟨nM n ord d, atm n ord d, hom_sup (fun f hf => hf), ?_⟩
  rw [← VV_img]
  have hE : Ech (nM n ord d) (VV n ord d (hom (p := p) n d)) (fun i => decide (i < nM n ord d)) (fun i j => if j = i then 1 else 0) := by
    refine ⟨fun i hi => ?_, fun v hv h0 i => ?_⟩
    · have hi' := of_decide_eq_true hi
      refine ⟨hi', ⟨unv n ord d (fun j => if j = i then 1 else 0), unv_hom _, ?_⟩, if_pos rfl, fun j hj => if_neg (by omega)⟩
      rw [vec_unv (fun j hj => if_neg (by omega))]
    · rcases Nat.lt_or_ge i (nM n ord d) with z | z
      · exact h0 i (decide_eq_true z)
      · exact VV_range _ v hv i z
  rw [hE.dm h1p (VV_sub (hom_sub n d))]
  have : ∀ N, ct (fun i => decide (i < N)) N = N := by
    intro N
    rw [ct_cong (Q := fun _ => true) (fun i hi => decide_eq_true hi)]
    induction N with
    | zero => rfl
    | succ N ih => rw [ct_succ_t rfl, ih]
  exact this _
/-- tuples -/
def tup {p : Nat} [NeZero p] (n : Nat) (V : (Mo2 → Fin p) → Prop) : (Nat × Mo2 → Fin p) → Prop := fun t => (∀ l, l < n → V (fun m => t (l, m))) ∧ ∀ l m, n ≤ l → t (l, m) = 0
theorem tup_sub {p : Nat} [NeZero p] {n : Nat} {V : (Mo2 → Fin p) → Prop} (hV : Sub V) : Sub (tup n V) := ⟨⟨fun _ _ => hV.1, fun _ _ _ => rfl⟩, fun u v c hu hv => ⟨fun l hl => hV.2 _ _ c (hu.1 l hl) (hv.1 l hl), fun l m hl => by show u (l, m) + c * v (l, m) = 0; rw [hu.2 l m hl, hv.2 l m hl]; grind⟩⟩
theorem tup_sup {p : Nat} [NeZero p] {n N : Nat} {dc : Nat → Mo2} {V : (Mo2 → Fin p) → Prop} (h : Sup V N dc) : Sup (tup n V) (n * N) (fun i => (i / N, dc (i % N))) := by
  rintro t ht ⟨l, m⟩ hx
  have hl : l < n := by
    rcases Nat.lt_or_ge l n with z | z
    · exact z
    · exact absurd (ht.2 l m z) hx
  obtain ⟨i, hi, e⟩ := h _ (ht.1 l hl) m hx
  refine ⟨l * N + i, ?_, ?_⟩
  · have := Nat.mul_le_mul_right N (show l + 1 ≤ n from hl)
    rw [Nat.succ_mul] at this
    omega
  · have e1 : (l * N + i) / N = l := by rw [Nat.mul_comm, Nat.mul_add_div (by omega), Nat.div_eq_of_lt hi, Nat.add_zero]
    have e2 : (l * N + i) % N = i := by rw [Nat.mul_comm, Nat.mul_add_mod, Nat.mod_eq_of_lt hi]
    simp only [e1, e2, e]
theorem Dim_tup {p : Nat} [NeZero p] (hF : isField p) {V : (Mo2 → Fin p) → Prop} (hV : Sub V) {k : Nat} (h : Dim V k) : ∀ n, Dim (tup n V) (n * k) := by
  intro n
  obtain ⟨N, dc, hs, hk⟩ := h
  induction n with
  | zero =>
    rw [Nat.zero_mul]
    exact Dim_0 (0, (0, 0)) (fun t ht => fun ⟨l, m⟩ => ht.2 l m (Nat.zero_le _))
  | succ n ih =>
    obtain ⟨K, hK⟩ := Dim_ex (tup_sup (n := n + 1) hs)
    have hT : Lin (fun (t : Nat × Mo2 → Fin p) (m : Mo2) => t (n, m)) := fun u v c i => rfl
    have hi : Dim (img (fun (t : Nat × Mo2 → Fin p) (m : Mo2) => t (n, m)) (tup (n + 1) V)) k := by
      refine Dim_cong (fun f => ⟨fun hf => ?_, ?_⟩) ⟨N, dc, hs, hk⟩
      · refine ⟨fun x => if x.1 = n then f x.2 else 0, ⟨fun l hl => ?_, fun l m hl => ?_⟩, fun m => ?_⟩
        · by_cases z : l = n
          · simp only [if_pos z]; exact hf
          · simp only [if_neg z]; exact hV.1
        · show (if l = n then f m else 0) = 0
          rw [if_neg (by omega)]
        · show f m = if n = n then f m else 0
          rw [if_pos rfl]
      · rintro ⟨t, ht, e⟩
        have : f = fun m => t (n, m) := funext e
        rw [this]; exact ht.1 n (by omega)
    obtain ⟨q1, q2⟩ := Dim_ker hF (tup_sub hV) hT hK hi
    have q3 : Dim (tup n V) (K - k) := by
      refine Dim_cong (fun t => ⟨?_, ?_⟩) q2
      · rintro ⟨ht, h0⟩
        refine ⟨fun l hl => ht.1 l (by omega), fun l m hl => ?_⟩
        by_cases z : l = n
        · rw [z]; exact h0 m
        · exact ht.2 l m (by omega)
      · intro ht
        refine ⟨⟨fun l hl => ?_, fun l m hl => ht.2 l m (by omega)⟩, fun m => ht.2 n m (Nat.le_refl _)⟩
        by_cases z : l < n
        · exact ht.1 l z
        · have : (fun m => t (l, m)) = fun _ => 0 := funext (fun m => ht.2 l m (by omega))
          rw [this]; exact hV.1
    have := Dim_fun hF (tup_sub hV) q3 ih
    have e : K = (n + 1) * k := by rw [Nat.succ_mul]; omega
    rw [← e]; exact hK
